/-! every method's step -/
theorem pure_ok : PureOK Inv := ⟨st_sheet, st_feed, st_recipe, st_wedge, st_layers, st_snipped, st_opened, st_sums, st_piece, st_deer, st_hang, st_want, st_wantOpened, st_differs, st_fits, st_bestFold, st_snips, st_straight, st_scraps, st_alike, st_strips, st_slipped, st_spoilt, st_odds, st_seed, st_draw, st_keep, st_undo, st_check, st_count⟩
