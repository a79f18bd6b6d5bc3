theorem ta_int : Cond.arrayClass .int ∈ TB := tb_l1 73 (by decide +kernel) (by decide +kernel)
theorem ta_long : Cond.arrayClass .long ∈ TB := tb_l2 104 (by decide +kernel) (by decide +kernel)
theorem ta_boolean : Cond.arrayClass .boolean ∈ TB := tb_l5 178 (by decide +kernel) (by decide +kernel)
theorem ta_byte : Cond.arrayClass .byte ∈ TB := tb_l5 179 (by decide +kernel) (by decide +kernel)
theorem ti_11 : Cond.instantiable "PaperStars" 15 ∈ TB := tb_l1 19 (by decide +kernel) (by decide +kernel)
theorem ti_9 : Cond.instantiable "PaperStars$Table" 8 ∈ TB := tb_l1 27 (by decide +kernel) (by decide +kernel)
theorem ti_10 : Cond.instantiable "PaperStars$Tape" 2 ∈ TB := tb_l1 75 (by decide +kernel) (by decide +kernel)
theorem ti_8 : Cond.instantiable "PaperStars$Reader" 13 ∈ TB := tb_l1 91 (by decide +kernel) (by decide +kernel)
theorem ti_3 : Cond.instantiable "PaperStars$Folding" 8 ∈ TB := tb_l1 97 (by decide +kernel) (by decide +kernel)
theorem ti_0 : Cond.instantiable "PaperStars$Condition" 7 ∈ TB := tb_l1 139 (by decide +kernel) (by decide +kernel)
theorem ti_6 : Cond.instantiable "PaperStars$Paper" 4 ∈ TB := tb_l1 209 (by decide +kernel) (by decide +kernel)
theorem ti_7 : Cond.instantiable "PaperStars$Pieces" 11 ∈ TB := tb_l1 234 (by decide +kernel) (by decide +kernel)
theorem ti_4 : Cond.instantiable "PaperStars$Hanging" 3 ∈ TB := tb_l2 41 (by decide +kernel) (by decide +kernel)
theorem ti_2 : Cond.instantiable "PaperStars$Fit" 5 ∈ TB := tb_l2 57 (by decide +kernel) (by decide +kernel)
theorem ti_1 : Cond.instantiable "PaperStars$Cover" 4 ∈ TB := tb_l2 86 (by decide +kernel) (by decide +kernel)
theorem ti_5 : Cond.instantiable "PaperStars$Packing" 2 ∈ TB := tb_l2 106 (by decide +kernel) (by decide +kernel)
theorem ti_12 : Cond.instantiable "PaperStarsModel" 65 ∈ TB := tb_l4 213 (by decide +kernel) (by decide +kernel)
theorem fn_0 : FN T0 7 [some none, some none, some none, none, none, none, none] := ⟨ty0, by decide +kernel, by decide +kernel, by decide +kernel⟩
theorem fn_1 : FN T1 4 [some none, some none, some none, none] := ⟨ty1, by decide +kernel, by decide +kernel, by decide +kernel⟩
theorem fn_2 : FN T2 5 [some none, some none, none, none, some none] := ⟨ty2, by decide +kernel, by decide +kernel, by decide +kernel⟩
theorem fn_3 : FN T3 8 [none, none, none, none, none, none, some none, some none] := ⟨ty3, by decide +kernel, by decide +kernel, by decide +kernel⟩
theorem fn_4 : FN T4 3 [some none, some none, some none] := ⟨ty4, by decide +kernel, by decide +kernel, by decide +kernel⟩
theorem fn_5 : FN T5 2 [none, some none] := ⟨ty5, by decide +kernel, by decide +kernel, by decide +kernel⟩
theorem fn_6 : FN T6 4 [none, some none, some none, some none] := ⟨ty6, by decide +kernel, by decide +kernel, by decide +kernel⟩
theorem fn_7 : FN T7 11 [none, none, none, some none, some none, some none, none, some none, some none, some none, some none] := ⟨ty7, by decide +kernel, by decide +kernel, by decide +kernel⟩
theorem fn_8 : FN T8 13 [some none, some none, some none, some none, some none, none, none, none, none, none, none, none, none] := ⟨ty8, by decide +kernel, by decide +kernel, by decide +kernel⟩
theorem fn_9 : FN T9 8 [none, none, none, none, some none, some none, some none, some none] := ⟨ty9, by decide +kernel, by decide +kernel, by decide +kernel⟩
theorem fn_10 : FN T10 2 [none, some none] := ⟨ty10, by decide +kernel, by decide +kernel, by decide +kernel⟩
theorem fn_11 : FN T11 15 [some none, some none, some none, some none, some none, some none, some none, some none, some none, some none, some none, some none, none, none, none] := ⟨ty11, by decide +kernel, by decide +kernel, by decide +kernel⟩
theorem fn_12 : FN T12 65 [none, none, none, none, some none, some none, some none, some none, none, none, none, some none, none, none, none, none, none, some none, some none, none, none, none, none, none, none, none, none, none, none, none, some none, some none, some none, some none, some none, some none, some none, some none, some none, none, none, none, some none, some none, some none, some none, some none, some none, none, none, some none, some none, some none, some none, some none, some none, none, none, none, none, none, some none, some none, some none, some none] := ⟨ty12, by decide +kernel, by decide +kernel, by decide +kernel⟩
def LY_0 : Ly := [.inr (11, [some none, some none, some none, some none, some none, some none, some none, some none, some none, some none, some none, some none, none, none, none])]
def LY_1 : Ly := [.inr (11, [some none, some none, some none, some none, some none, some none, some none, some none, some none, some none, some none, some none, none, none, none]), .inr (9, [none, none, none, none, some none, some none, some none, some none])]
def LY_2 : Ly := [.inr (11, [some none, some none, some none, some none, some none, some none, some none, some none, some none, some none, some none, some none, none, none, none]), .inr (9, [none, none, none, none, some none, some none, some none, some none]), .inl (0, 8)]
def LY_3 : Ly := [.inr (11, [some none, some none, some none, some none, some none, some none, some none, some none, some none, some none, some none, some none, none, none, none]), .inr (9, [none, none, none, none, some (some 2), some none, some none, some none]), .inl (0, 8)]
def LY_4 : Ly := [.inr (11, [some none, some none, some none, some none, some none, some none, some none, some none, some none, some none, some none, some none, none, none, none]), .inr (9, [none, none, none, none, some (some 2), some none, some none, some none]), .inl (0, 8), .inl (0, 16)]
def LY_5 : Ly := [.inr (11, [some none, some none, some none, some none, some none, some none, some none, some none, some none, some none, some none, some none, none, none, none]), .inr (9, [none, none, none, none, some (some 2), some (some 3), some none, some none]), .inl (0, 8), .inl (0, 16)]
def LY_6 : Ly := [.inr (11, [some none, some none, some none, some none, some none, some none, some none, some none, some none, some none, some none, some none, none, none, none]), .inr (9, [none, none, none, none, some (some 2), some (some 3), some none, some none]), .inl (0, 8), .inl (0, 16), .inl (0, 16)]
def LY_7 : Ly := [.inr (11, [some none, some none, some none, some none, some none, some none, some none, some none, some none, some none, some none, some none, none, none, none]), .inr (9, [none, none, none, none, some (some 2), some (some 3), some (some 4), some none]), .inl (0, 8), .inl (0, 16), .inl (0, 16)]
def LY_8 : Ly := [.inr (11, [some none, some none, some none, some none, some none, some none, some none, some none, some none, some none, some none, some none, none, none, none]), .inr (9, [none, none, none, none, some (some 2), some (some 3), some (some 4), some none]), .inl (0, 8), .inl (0, 16), .inl (0, 16), .inl (0, 16)]
def LY_9 : Ly := [.inr (11, [some none, some none, some none, some none, some none, some none, some none, some none, some none, some none, some none, some none, none, none, none]), .inr (9, [none, none, none, none, some (some 2), some (some 3), some (some 4), some (some 5)]), .inl (0, 8), .inl (0, 16), .inl (0, 16), .inl (0, 16)]
def LY_10 : Ly := [.inr (11, [some (some 1), some none, some none, some none, some none, some none, some none, some none, some none, some none, some none, some none, none, none, none]), .inr (9, [none, none, none, none, some (some 2), some (some 3), some (some 4), some (some 5)]), .inl (0, 8), .inl (0, 16), .inl (0, 16), .inl (0, 16)]
def LY_11 : Ly := [.inr (11, [some (some 1), some none, some none, some none, some none, some none, some none, some none, some none, some none, some none, some none, none, none, none]), .inr (9, [none, none, none, none, some (some 2), some (some 3), some (some 4), some (some 5)]), .inl (0, 8), .inl (0, 16), .inl (0, 16), .inl (0, 16), .inr (9, [none, none, none, none, some none, some none, some none, some none])]
def LY_12 : Ly := [.inr (11, [some (some 1), some none, some none, some none, some none, some none, some none, some none, some none, some none, some none, some none, none, none, none]), .inr (9, [none, none, none, none, some (some 2), some (some 3), some (some 4), some (some 5)]), .inl (0, 8), .inl (0, 16), .inl (0, 16), .inl (0, 16), .inr (9, [none, none, none, none, some none, some none, some none, some none]), .inl (0, 8)]
def LY_13 : Ly := [.inr (11, [some (some 1), some none, some none, some none, some none, some none, some none, some none, some none, some none, some none, some none, none, none, none]), .inr (9, [none, none, none, none, some (some 2), some (some 3), some (some 4), some (some 5)]), .inl (0, 8), .inl (0, 16), .inl (0, 16), .inl (0, 16), .inr (9, [none, none, none, none, some (some 7), some none, some none, some none]), .inl (0, 8)]
def LY_14 : Ly := [.inr (11, [some (some 1), some none, some none, some none, some none, some none, some none, some none, some none, some none, some none, some none, none, none, none]), .inr (9, [none, none, none, none, some (some 2), some (some 3), some (some 4), some (some 5)]), .inl (0, 8), .inl (0, 16), .inl (0, 16), .inl (0, 16), .inr (9, [none, none, none, none, some (some 7), some none, some none, some none]), .inl (0, 8), .inl (0, 16)]
def LY_15 : Ly := [.inr (11, [some (some 1), some none, some none, some none, some none, some none, some none, some none, some none, some none, some none, some none, none, none, none]), .inr (9, [none, none, none, none, some (some 2), some (some 3), some (some 4), some (some 5)]), .inl (0, 8), .inl (0, 16), .inl (0, 16), .inl (0, 16), .inr (9, [none, none, none, none, some (some 7), some (some 8), some none, some none]), .inl (0, 8), .inl (0, 16)]
def LY_16 : Ly := [.inr (11, [some (some 1), some none, some none, some none, some none, some none, some none, some none, some none, some none, some none, some none, none, none, none]), .inr (9, [none, none, none, none, some (some 2), some (some 3), some (some 4), some (some 5)]), .inl (0, 8), .inl (0, 16), .inl (0, 16), .inl (0, 16), .inr (9, [none, none, none, none, some (some 7), some (some 8), some none, some none]), .inl (0, 8), .inl (0, 16), .inl (0, 16)]
def LY_17 : Ly := [.inr (11, [some (some 1), some none, some none, some none, some none, some none, some none, some none, some none, some none, some none, some none, none, none, none]), .inr (9, [none, none, none, none, some (some 2), some (some 3), some (some 4), some (some 5)]), .inl (0, 8), .inl (0, 16), .inl (0, 16), .inl (0, 16), .inr (9, [none, none, none, none, some (some 7), some (some 8), some (some 9), some none]), .inl (0, 8), .inl (0, 16), .inl (0, 16)]
def LY_18 : Ly := [.inr (11, [some (some 1), some none, some none, some none, some none, some none, some none, some none, some none, some none, some none, some none, none, none, none]), .inr (9, [none, none, none, none, some (some 2), some (some 3), some (some 4), some (some 5)]), .inl (0, 8), .inl (0, 16), .inl (0, 16), .inl (0, 16), .inr (9, [none, none, none, none, some (some 7), some (some 8), some (some 9), some none]), .inl (0, 8), .inl (0, 16), .inl (0, 16), .inl (0, 16)]
def LY_19 : Ly := [.inr (11, [some (some 1), some none, some none, some none, some none, some none, some none, some none, some none, some none, some none, some none, none, none, none]), .inr (9, [none, none, none, none, some (some 2), some (some 3), some (some 4), some (some 5)]), .inl (0, 8), .inl (0, 16), .inl (0, 16), .inl (0, 16), .inr (9, [none, none, none, none, some (some 7), some (some 8), some (some 9), some (some 10)]), .inl (0, 8), .inl (0, 16), .inl (0, 16), .inl (0, 16)]
def LY_20 : Ly := [.inr (11, [some (some 1), some (some 6), some none, some none, some none, some none, some none, some none, some none, some none, some none, some none, none, none, none]), .inr (9, [none, none, none, none, some (some 2), some (some 3), some (some 4), some (some 5)]), .inl (0, 8), .inl (0, 16), .inl (0, 16), .inl (0, 16), .inr (9, [none, none, none, none, some (some 7), some (some 8), some (some 9), some (some 10)]), .inl (0, 8), .inl (0, 16), .inl (0, 16), .inl (0, 16)]
def LY_21 : Ly := [.inr (11, [some (some 1), some (some 6), some none, some none, some none, some none, some none, some none, some none, some none, some none, some none, none, none, none]), .inr (9, [none, none, none, none, some (some 2), some (some 3), some (some 4), some (some 5)]), .inl (0, 8), .inl (0, 16), .inl (0, 16), .inl (0, 16), .inr (9, [none, none, none, none, some (some 7), some (some 8), some (some 9), some (some 10)]), .inl (0, 8), .inl (0, 16), .inl (0, 16), .inl (0, 16), .inr (10, [none, some none])]
def LY_22 : Ly := [.inr (11, [some (some 1), some (some 6), some none, some none, some none, some none, some none, some none, some none, some none, some none, some none, none, none, none]), .inr (9, [none, none, none, none, some (some 2), some (some 3), some (some 4), some (some 5)]), .inl (0, 8), .inl (0, 16), .inl (0, 16), .inl (0, 16), .inr (9, [none, none, none, none, some (some 7), some (some 8), some (some 9), some (some 10)]), .inl (0, 8), .inl (0, 16), .inl (0, 16), .inl (0, 16), .inr (10, [none, some none]), .inl (0, 200)]
def LY_23 : Ly := [.inr (11, [some (some 1), some (some 6), some none, some none, some none, some none, some none, some none, some none, some none, some none, some none, none, none, none]), .inr (9, [none, none, none, none, some (some 2), some (some 3), some (some 4), some (some 5)]), .inl (0, 8), .inl (0, 16), .inl (0, 16), .inl (0, 16), .inr (9, [none, none, none, none, some (some 7), some (some 8), some (some 9), some (some 10)]), .inl (0, 8), .inl (0, 16), .inl (0, 16), .inl (0, 16), .inr (10, [none, some (some 12)]), .inl (0, 200)]
def LY_24 : Ly := [.inr (11, [some (some 1), some (some 6), some (some 11), some none, some none, some none, some none, some none, some none, some none, some none, some none, none, none, none]), .inr (9, [none, none, none, none, some (some 2), some (some 3), some (some 4), some (some 5)]), .inl (0, 8), .inl (0, 16), .inl (0, 16), .inl (0, 16), .inr (9, [none, none, none, none, some (some 7), some (some 8), some (some 9), some (some 10)]), .inl (0, 8), .inl (0, 16), .inl (0, 16), .inl (0, 16), .inr (10, [none, some (some 12)]), .inl (0, 200)]
def LY_25 : Ly := [.inr (11, [some (some 1), some (some 6), some (some 11), some none, some none, some none, some none, some none, some none, some none, some none, some none, none, none, none]), .inr (9, [none, none, none, none, some (some 2), some (some 3), some (some 4), some (some 5)]), .inl (0, 8), .inl (0, 16), .inl (0, 16), .inl (0, 16), .inr (9, [none, none, none, none, some (some 7), some (some 8), some (some 9), some (some 10)]), .inl (0, 8), .inl (0, 16), .inl (0, 16), .inl (0, 16), .inr (10, [none, some (some 12)]), .inl (0, 200), .inr (8, [some none, some none, some none, some none, some none, none, none, none, none, none, none, none, none])]
def LY_26 : Ly := [.inr (11, [some (some 1), some (some 6), some (some 11), some none, some none, some none, some none, some none, some none, some none, some none, some none, none, none, none]), .inr (9, [none, none, none, none, some (some 2), some (some 3), some (some 4), some (some 5)]), .inl (0, 8), .inl (0, 16), .inl (0, 16), .inl (0, 16), .inr (9, [none, none, none, none, some (some 7), some (some 8), some (some 9), some (some 10)]), .inl (0, 8), .inl (0, 16), .inl (0, 16), .inl (0, 16), .inr (10, [none, some (some 12)]), .inl (0, 200), .inr (8, [some none, some none, some none, some none, some none, none, none, none, none, none, none, none, none]), .inr (3, [none, none, none, none, none, none, some none, some none])]
def LY_27 : Ly := [.inr (11, [some (some 1), some (some 6), some (some 11), some none, some none, some none, some none, some none, some none, some none, some none, some none, none, none, none]), .inr (9, [none, none, none, none, some (some 2), some (some 3), some (some 4), some (some 5)]), .inl (0, 8), .inl (0, 16), .inl (0, 16), .inl (0, 16), .inr (9, [none, none, none, none, some (some 7), some (some 8), some (some 9), some (some 10)]), .inl (0, 8), .inl (0, 16), .inl (0, 16), .inl (0, 16), .inr (10, [none, some (some 12)]), .inl (0, 200), .inr (8, [some none, some none, some none, some none, some none, none, none, none, none, none, none, none, none]), .inr (3, [none, none, none, none, none, none, some none, some none]), .inl (0, 16)]
def LY_28 : Ly := [.inr (11, [some (some 1), some (some 6), some (some 11), some none, some none, some none, some none, some none, some none, some none, some none, some none, none, none, none]), .inr (9, [none, none, none, none, some (some 2), some (some 3), some (some 4), some (some 5)]), .inl (0, 8), .inl (0, 16), .inl (0, 16), .inl (0, 16), .inr (9, [none, none, none, none, some (some 7), some (some 8), some (some 9), some (some 10)]), .inl (0, 8), .inl (0, 16), .inl (0, 16), .inl (0, 16), .inr (10, [none, some (some 12)]), .inl (0, 200), .inr (8, [some none, some none, some none, some none, some none, none, none, none, none, none, none, none, none]), .inr (3, [none, none, none, none, none, none, some (some 15), some none]), .inl (0, 16)]
def LY_29 : Ly := [.inr (11, [some (some 1), some (some 6), some (some 11), some none, some none, some none, some none, some none, some none, some none, some none, some none, none, none, none]), .inr (9, [none, none, none, none, some (some 2), some (some 3), some (some 4), some (some 5)]), .inl (0, 8), .inl (0, 16), .inl (0, 16), .inl (0, 16), .inr (9, [none, none, none, none, some (some 7), some (some 8), some (some 9), some (some 10)]), .inl (0, 8), .inl (0, 16), .inl (0, 16), .inl (0, 16), .inr (10, [none, some (some 12)]), .inl (0, 200), .inr (8, [some none, some none, some none, some none, some none, none, none, none, none, none, none, none, none]), .inr (3, [none, none, none, none, none, none, some (some 15), some none]), .inl (0, 16), .inl (0, 16)]
def LY_30 : Ly := [.inr (11, [some (some 1), some (some 6), some (some 11), some none, some none, some none, some none, some none, some none, some none, some none, some none, none, none, none]), .inr (9, [none, none, none, none, some (some 2), some (some 3), some (some 4), some (some 5)]), .inl (0, 8), .inl (0, 16), .inl (0, 16), .inl (0, 16), .inr (9, [none, none, none, none, some (some 7), some (some 8), some (some 9), some (some 10)]), .inl (0, 8), .inl (0, 16), .inl (0, 16), .inl (0, 16), .inr (10, [none, some (some 12)]), .inl (0, 200), .inr (8, [some none, some none, some none, some none, some none, none, none, none, none, none, none, none, none]), .inr (3, [none, none, none, none, none, none, some (some 15), some (some 16)]), .inl (0, 16), .inl (0, 16)]
def LY_31 : Ly := [.inr (11, [some (some 1), some (some 6), some (some 11), some none, some none, some none, some none, some none, some none, some none, some none, some none, none, none, none]), .inr (9, [none, none, none, none, some (some 2), some (some 3), some (some 4), some (some 5)]), .inl (0, 8), .inl (0, 16), .inl (0, 16), .inl (0, 16), .inr (9, [none, none, none, none, some (some 7), some (some 8), some (some 9), some (some 10)]), .inl (0, 8), .inl (0, 16), .inl (0, 16), .inl (0, 16), .inr (10, [none, some (some 12)]), .inl (0, 200), .inr (8, [some (some 14), some none, some none, some none, some none, none, none, none, none, none, none, none, none]), .inr (3, [none, none, none, none, none, none, some (some 15), some (some 16)]), .inl (0, 16), .inl (0, 16)]
def LY_32 : Ly := [.inr (11, [some (some 1), some (some 6), some (some 11), some none, some none, some none, some none, some none, some none, some none, some none, some none, none, none, none]), .inr (9, [none, none, none, none, some (some 2), some (some 3), some (some 4), some (some 5)]), .inl (0, 8), .inl (0, 16), .inl (0, 16), .inl (0, 16), .inr (9, [none, none, none, none, some (some 7), some (some 8), some (some 9), some (some 10)]), .inl (0, 8), .inl (0, 16), .inl (0, 16), .inl (0, 16), .inr (10, [none, some (some 12)]), .inl (0, 200), .inr (8, [some (some 14), some none, some none, some none, some none, none, none, none, none, none, none, none, none]), .inr (3, [none, none, none, none, none, none, some (some 15), some (some 16)]), .inl (0, 16), .inl (0, 16), .inr (0, [some none, some none, some none, none, none, none, none])]
def LY_33 : Ly := [.inr (11, [some (some 1), some (some 6), some (some 11), some none, some none, some none, some none, some none, some none, some none, some none, some none, none, none, none]), .inr (9, [none, none, none, none, some (some 2), some (some 3), some (some 4), some (some 5)]), .inl (0, 8), .inl (0, 16), .inl (0, 16), .inl (0, 16), .inr (9, [none, none, none, none, some (some 7), some (some 8), some (some 9), some (some 10)]), .inl (0, 8), .inl (0, 16), .inl (0, 16), .inl (0, 16), .inr (10, [none, some (some 12)]), .inl (0, 200), .inr (8, [some (some 14), some none, some none, some none, some none, none, none, none, none, none, none, none, none]), .inr (3, [none, none, none, none, none, none, some (some 15), some (some 16)]), .inl (0, 16), .inl (0, 16), .inr (0, [some none, some none, some none, none, none, none, none]), .inl (0, 160)]
def LY_34 : Ly := [.inr (11, [some (some 1), some (some 6), some (some 11), some none, some none, some none, some none, some none, some none, some none, some none, some none, none, none, none]), .inr (9, [none, none, none, none, some (some 2), some (some 3), some (some 4), some (some 5)]), .inl (0, 8), .inl (0, 16), .inl (0, 16), .inl (0, 16), .inr (9, [none, none, none, none, some (some 7), some (some 8), some (some 9), some (some 10)]), .inl (0, 8), .inl (0, 16), .inl (0, 16), .inl (0, 16), .inr (10, [none, some (some 12)]), .inl (0, 200), .inr (8, [some (some 14), some none, some none, some none, some none, none, none, none, none, none, none, none, none]), .inr (3, [none, none, none, none, none, none, some (some 15), some (some 16)]), .inl (0, 16), .inl (0, 16), .inr (0, [some (some 18), some none, some none, none, none, none, none]), .inl (0, 160)]
def LY_35 : Ly := [.inr (11, [some (some 1), some (some 6), some (some 11), some none, some none, some none, some none, some none, some none, some none, some none, some none, none, none, none]), .inr (9, [none, none, none, none, some (some 2), some (some 3), some (some 4), some (some 5)]), .inl (0, 8), .inl (0, 16), .inl (0, 16), .inl (0, 16), .inr (9, [none, none, none, none, some (some 7), some (some 8), some (some 9), some (some 10)]), .inl (0, 8), .inl (0, 16), .inl (0, 16), .inl (0, 16), .inr (10, [none, some (some 12)]), .inl (0, 200), .inr (8, [some (some 14), some none, some none, some none, some none, none, none, none, none, none, none, none, none]), .inr (3, [none, none, none, none, none, none, some (some 15), some (some 16)]), .inl (0, 16), .inl (0, 16), .inr (0, [some (some 18), some none, some none, none, none, none, none]), .inl (0, 160), .inl (0, 160)]
def LY_36 : Ly := [.inr (11, [some (some 1), some (some 6), some (some 11), some none, some none, some none, some none, some none, some none, some none, some none, some none, none, none, none]), .inr (9, [none, none, none, none, some (some 2), some (some 3), some (some 4), some (some 5)]), .inl (0, 8), .inl (0, 16), .inl (0, 16), .inl (0, 16), .inr (9, [none, none, none, none, some (some 7), some (some 8), some (some 9), some (some 10)]), .inl (0, 8), .inl (0, 16), .inl (0, 16), .inl (0, 16), .inr (10, [none, some (some 12)]), .inl (0, 200), .inr (8, [some (some 14), some none, some none, some none, some none, none, none, none, none, none, none, none, none]), .inr (3, [none, none, none, none, none, none, some (some 15), some (some 16)]), .inl (0, 16), .inl (0, 16), .inr (0, [some (some 18), some (some 19), some none, none, none, none, none]), .inl (0, 160), .inl (0, 160)]
def LY_37 : Ly := [.inr (11, [some (some 1), some (some 6), some (some 11), some none, some none, some none, some none, some none, some none, some none, some none, some none, none, none, none]), .inr (9, [none, none, none, none, some (some 2), some (some 3), some (some 4), some (some 5)]), .inl (0, 8), .inl (0, 16), .inl (0, 16), .inl (0, 16), .inr (9, [none, none, none, none, some (some 7), some (some 8), some (some 9), some (some 10)]), .inl (0, 8), .inl (0, 16), .inl (0, 16), .inl (0, 16), .inr (10, [none, some (some 12)]), .inl (0, 200), .inr (8, [some (some 14), some none, some none, some none, some none, none, none, none, none, none, none, none, none]), .inr (3, [none, none, none, none, none, none, some (some 15), some (some 16)]), .inl (0, 16), .inl (0, 16), .inr (0, [some (some 18), some (some 19), some none, none, none, none, none]), .inl (0, 160), .inl (0, 160), .inl (0, 40)]
def LY_38 : Ly := [.inr (11, [some (some 1), some (some 6), some (some 11), some none, some none, some none, some none, some none, some none, some none, some none, some none, none, none, none]), .inr (9, [none, none, none, none, some (some 2), some (some 3), some (some 4), some (some 5)]), .inl (0, 8), .inl (0, 16), .inl (0, 16), .inl (0, 16), .inr (9, [none, none, none, none, some (some 7), some (some 8), some (some 9), some (some 10)]), .inl (0, 8), .inl (0, 16), .inl (0, 16), .inl (0, 16), .inr (10, [none, some (some 12)]), .inl (0, 200), .inr (8, [some (some 14), some none, some none, some none, some none, none, none, none, none, none, none, none, none]), .inr (3, [none, none, none, none, none, none, some (some 15), some (some 16)]), .inl (0, 16), .inl (0, 16), .inr (0, [some (some 18), some (some 19), some (some 20), none, none, none, none]), .inl (0, 160), .inl (0, 160), .inl (0, 40)]
def LY_39 : Ly := [.inr (11, [some (some 1), some (some 6), some (some 11), some none, some none, some none, some none, some none, some none, some none, some none, some none, none, none, none]), .inr (9, [none, none, none, none, some (some 2), some (some 3), some (some 4), some (some 5)]), .inl (0, 8), .inl (0, 16), .inl (0, 16), .inl (0, 16), .inr (9, [none, none, none, none, some (some 7), some (some 8), some (some 9), some (some 10)]), .inl (0, 8), .inl (0, 16), .inl (0, 16), .inl (0, 16), .inr (10, [none, some (some 12)]), .inl (0, 200), .inr (8, [some (some 14), some (some 17), some none, some none, some none, none, none, none, none, none, none, none, none]), .inr (3, [none, none, none, none, none, none, some (some 15), some (some 16)]), .inl (0, 16), .inl (0, 16), .inr (0, [some (some 18), some (some 19), some (some 20), none, none, none, none]), .inl (0, 160), .inl (0, 160), .inl (0, 40)]
def LY_40 : Ly := [.inr (11, [some (some 1), some (some 6), some (some 11), some none, some none, some none, some none, some none, some none, some none, some none, some none, none, none, none]), .inr (9, [none, none, none, none, some (some 2), some (some 3), some (some 4), some (some 5)]), .inl (0, 8), .inl (0, 16), .inl (0, 16), .inl (0, 16), .inr (9, [none, none, none, none, some (some 7), some (some 8), some (some 9), some (some 10)]), .inl (0, 8), .inl (0, 16), .inl (0, 16), .inl (0, 16), .inr (10, [none, some (some 12)]), .inl (0, 200), .inr (8, [some (some 14), some (some 17), some none, some none, some none, none, none, none, none, none, none, none, none]), .inr (3, [none, none, none, none, none, none, some (some 15), some (some 16)]), .inl (0, 16), .inl (0, 16), .inr (0, [some (some 18), some (some 19), some (some 20), none, none, none, none]), .inl (0, 160), .inl (0, 160), .inl (0, 40), .inl (0, 160)]
def LY_41 : Ly := [.inr (11, [some (some 1), some (some 6), some (some 11), some none, some none, some none, some none, some none, some none, some none, some none, some none, none, none, none]), .inr (9, [none, none, none, none, some (some 2), some (some 3), some (some 4), some (some 5)]), .inl (0, 8), .inl (0, 16), .inl (0, 16), .inl (0, 16), .inr (9, [none, none, none, none, some (some 7), some (some 8), some (some 9), some (some 10)]), .inl (0, 8), .inl (0, 16), .inl (0, 16), .inl (0, 16), .inr (10, [none, some (some 12)]), .inl (0, 200), .inr (8, [some (some 14), some (some 17), some (some 21), some none, some none, none, none, none, none, none, none, none, none]), .inr (3, [none, none, none, none, none, none, some (some 15), some (some 16)]), .inl (0, 16), .inl (0, 16), .inr (0, [some (some 18), some (some 19), some (some 20), none, none, none, none]), .inl (0, 160), .inl (0, 160), .inl (0, 40), .inl (0, 160)]
def LY_42 : Ly := [.inr (11, [some (some 1), some (some 6), some (some 11), some none, some none, some none, some none, some none, some none, some none, some none, some none, none, none, none]), .inr (9, [none, none, none, none, some (some 2), some (some 3), some (some 4), some (some 5)]), .inl (0, 8), .inl (0, 16), .inl (0, 16), .inl (0, 16), .inr (9, [none, none, none, none, some (some 7), some (some 8), some (some 9), some (some 10)]), .inl (0, 8), .inl (0, 16), .inl (0, 16), .inl (0, 16), .inr (10, [none, some (some 12)]), .inl (0, 200), .inr (8, [some (some 14), some (some 17), some (some 21), some none, some none, none, none, none, none, none, none, none, none]), .inr (3, [none, none, none, none, none, none, some (some 15), some (some 16)]), .inl (0, 16), .inl (0, 16), .inr (0, [some (some 18), some (some 19), some (some 20), none, none, none, none]), .inl (0, 160), .inl (0, 160), .inl (0, 40), .inl (0, 160), .inl (0, 8)]
def LY_43 : Ly := [.inr (11, [some (some 1), some (some 6), some (some 11), some none, some none, some none, some none, some none, some none, some none, some none, some none, none, none, none]), .inr (9, [none, none, none, none, some (some 2), some (some 3), some (some 4), some (some 5)]), .inl (0, 8), .inl (0, 16), .inl (0, 16), .inl (0, 16), .inr (9, [none, none, none, none, some (some 7), some (some 8), some (some 9), some (some 10)]), .inl (0, 8), .inl (0, 16), .inl (0, 16), .inl (0, 16), .inr (10, [none, some (some 12)]), .inl (0, 200), .inr (8, [some (some 14), some (some 17), some (some 21), some (some 22), some none, none, none, none, none, none, none, none, none]), .inr (3, [none, none, none, none, none, none, some (some 15), some (some 16)]), .inl (0, 16), .inl (0, 16), .inr (0, [some (some 18), some (some 19), some (some 20), none, none, none, none]), .inl (0, 160), .inl (0, 160), .inl (0, 40), .inl (0, 160), .inl (0, 8)]
def LY_44 : Ly := [.inr (11, [some (some 1), some (some 6), some (some 11), some none, some none, some none, some none, some none, some none, some none, some none, some none, none, none, none]), .inr (9, [none, none, none, none, some (some 2), some (some 3), some (some 4), some (some 5)]), .inl (0, 8), .inl (0, 16), .inl (0, 16), .inl (0, 16), .inr (9, [none, none, none, none, some (some 7), some (some 8), some (some 9), some (some 10)]), .inl (0, 8), .inl (0, 16), .inl (0, 16), .inl (0, 16), .inr (10, [none, some (some 12)]), .inl (0, 200), .inr (8, [some (some 14), some (some 17), some (some 21), some (some 22), some none, none, none, none, none, none, none, none, none]), .inr (3, [none, none, none, none, none, none, some (some 15), some (some 16)]), .inl (0, 16), .inl (0, 16), .inr (0, [some (some 18), some (some 19), some (some 20), none, none, none, none]), .inl (0, 160), .inl (0, 160), .inl (0, 40), .inl (0, 160), .inl (0, 8), .inl (0, 16)]
def LY_45 : Ly := [.inr (11, [some (some 1), some (some 6), some (some 11), some none, some none, some none, some none, some none, some none, some none, some none, some none, none, none, none]), .inr (9, [none, none, none, none, some (some 2), some (some 3), some (some 4), some (some 5)]), .inl (0, 8), .inl (0, 16), .inl (0, 16), .inl (0, 16), .inr (9, [none, none, none, none, some (some 7), some (some 8), some (some 9), some (some 10)]), .inl (0, 8), .inl (0, 16), .inl (0, 16), .inl (0, 16), .inr (10, [none, some (some 12)]), .inl (0, 200), .inr (8, [some (some 14), some (some 17), some (some 21), some (some 22), some (some 23), none, none, none, none, none, none, none, none]), .inr (3, [none, none, none, none, none, none, some (some 15), some (some 16)]), .inl (0, 16), .inl (0, 16), .inr (0, [some (some 18), some (some 19), some (some 20), none, none, none, none]), .inl (0, 160), .inl (0, 160), .inl (0, 40), .inl (0, 160), .inl (0, 8), .inl (0, 16)]
def LY_46 : Ly := [.inr (11, [some (some 1), some (some 6), some (some 11), some (some 13), some none, some none, some none, some none, some none, some none, some none, some none, none, none, none]), .inr (9, [none, none, none, none, some (some 2), some (some 3), some (some 4), some (some 5)]), .inl (0, 8), .inl (0, 16), .inl (0, 16), .inl (0, 16), .inr (9, [none, none, none, none, some (some 7), some (some 8), some (some 9), some (some 10)]), .inl (0, 8), .inl (0, 16), .inl (0, 16), .inl (0, 16), .inr (10, [none, some (some 12)]), .inl (0, 200), .inr (8, [some (some 14), some (some 17), some (some 21), some (some 22), some (some 23), none, none, none, none, none, none, none, none]), .inr (3, [none, none, none, none, none, none, some (some 15), some (some 16)]), .inl (0, 16), .inl (0, 16), .inr (0, [some (some 18), some (some 19), some (some 20), none, none, none, none]), .inl (0, 160), .inl (0, 160), .inl (0, 40), .inl (0, 160), .inl (0, 8), .inl (0, 16)]
def LY_47 : Ly := [.inr (11, [some (some 1), some (some 6), some (some 11), some (some 13), some none, some none, some none, some none, some none, some none, some none, some none, none, none, none]), .inr (9, [none, none, none, none, some (some 2), some (some 3), some (some 4), some (some 5)]), .inl (0, 8), .inl (0, 16), .inl (0, 16), .inl (0, 16), .inr (9, [none, none, none, none, some (some 7), some (some 8), some (some 9), some (some 10)]), .inl (0, 8), .inl (0, 16), .inl (0, 16), .inl (0, 16), .inr (10, [none, some (some 12)]), .inl (0, 200), .inr (8, [some (some 14), some (some 17), some (some 21), some (some 22), some (some 23), none, none, none, none, none, none, none, none]), .inr (3, [none, none, none, none, none, none, some (some 15), some (some 16)]), .inl (0, 16), .inl (0, 16), .inr (0, [some (some 18), some (some 19), some (some 20), none, none, none, none]), .inl (0, 160), .inl (0, 160), .inl (0, 40), .inl (0, 160), .inl (0, 8), .inl (0, 16), .inr (3, [none, none, none, none, none, none, some none, some none])]
def LY_48 : Ly := [.inr (11, [some (some 1), some (some 6), some (some 11), some (some 13), some none, some none, some none, some none, some none, some none, some none, some none, none, none, none]), .inr (9, [none, none, none, none, some (some 2), some (some 3), some (some 4), some (some 5)]), .inl (0, 8), .inl (0, 16), .inl (0, 16), .inl (0, 16), .inr (9, [none, none, none, none, some (some 7), some (some 8), some (some 9), some (some 10)]), .inl (0, 8), .inl (0, 16), .inl (0, 16), .inl (0, 16), .inr (10, [none, some (some 12)]), .inl (0, 200), .inr (8, [some (some 14), some (some 17), some (some 21), some (some 22), some (some 23), none, none, none, none, none, none, none, none]), .inr (3, [none, none, none, none, none, none, some (some 15), some (some 16)]), .inl (0, 16), .inl (0, 16), .inr (0, [some (some 18), some (some 19), some (some 20), none, none, none, none]), .inl (0, 160), .inl (0, 160), .inl (0, 40), .inl (0, 160), .inl (0, 8), .inl (0, 16), .inr (3, [none, none, none, none, none, none, some none, some none]), .inl (0, 16)]
def LY_49 : Ly := [.inr (11, [some (some 1), some (some 6), some (some 11), some (some 13), some none, some none, some none, some none, some none, some none, some none, some none, none, none, none]), .inr (9, [none, none, none, none, some (some 2), some (some 3), some (some 4), some (some 5)]), .inl (0, 8), .inl (0, 16), .inl (0, 16), .inl (0, 16), .inr (9, [none, none, none, none, some (some 7), some (some 8), some (some 9), some (some 10)]), .inl (0, 8), .inl (0, 16), .inl (0, 16), .inl (0, 16), .inr (10, [none, some (some 12)]), .inl (0, 200), .inr (8, [some (some 14), some (some 17), some (some 21), some (some 22), some (some 23), none, none, none, none, none, none, none, none]), .inr (3, [none, none, none, none, none, none, some (some 15), some (some 16)]), .inl (0, 16), .inl (0, 16), .inr (0, [some (some 18), some (some 19), some (some 20), none, none, none, none]), .inl (0, 160), .inl (0, 160), .inl (0, 40), .inl (0, 160), .inl (0, 8), .inl (0, 16), .inr (3, [none, none, none, none, none, none, some (some 25), some none]), .inl (0, 16)]
def LY_50 : Ly := [.inr (11, [some (some 1), some (some 6), some (some 11), some (some 13), some none, some none, some none, some none, some none, some none, some none, some none, none, none, none]), .inr (9, [none, none, none, none, some (some 2), some (some 3), some (some 4), some (some 5)]), .inl (0, 8), .inl (0, 16), .inl (0, 16), .inl (0, 16), .inr (9, [none, none, none, none, some (some 7), some (some 8), some (some 9), some (some 10)]), .inl (0, 8), .inl (0, 16), .inl (0, 16), .inl (0, 16), .inr (10, [none, some (some 12)]), .inl (0, 200), .inr (8, [some (some 14), some (some 17), some (some 21), some (some 22), some (some 23), none, none, none, none, none, none, none, none]), .inr (3, [none, none, none, none, none, none, some (some 15), some (some 16)]), .inl (0, 16), .inl (0, 16), .inr (0, [some (some 18), some (some 19), some (some 20), none, none, none, none]), .inl (0, 160), .inl (0, 160), .inl (0, 40), .inl (0, 160), .inl (0, 8), .inl (0, 16), .inr (3, [none, none, none, none, none, none, some (some 25), some none]), .inl (0, 16), .inl (0, 16)]
def LY_51 : Ly := [.inr (11, [some (some 1), some (some 6), some (some 11), some (some 13), some none, some none, some none, some none, some none, some none, some none, some none, none, none, none]), .inr (9, [none, none, none, none, some (some 2), some (some 3), some (some 4), some (some 5)]), .inl (0, 8), .inl (0, 16), .inl (0, 16), .inl (0, 16), .inr (9, [none, none, none, none, some (some 7), some (some 8), some (some 9), some (some 10)]), .inl (0, 8), .inl (0, 16), .inl (0, 16), .inl (0, 16), .inr (10, [none, some (some 12)]), .inl (0, 200), .inr (8, [some (some 14), some (some 17), some (some 21), some (some 22), some (some 23), none, none, none, none, none, none, none, none]), .inr (3, [none, none, none, none, none, none, some (some 15), some (some 16)]), .inl (0, 16), .inl (0, 16), .inr (0, [some (some 18), some (some 19), some (some 20), none, none, none, none]), .inl (0, 160), .inl (0, 160), .inl (0, 40), .inl (0, 160), .inl (0, 8), .inl (0, 16), .inr (3, [none, none, none, none, none, none, some (some 25), some (some 26)]), .inl (0, 16), .inl (0, 16)]
def LY_52 : Ly := [.inr (11, [some (some 1), some (some 6), some (some 11), some (some 13), some (some 24), some none, some none, some none, some none, some none, some none, some none, none, none, none]), .inr (9, [none, none, none, none, some (some 2), some (some 3), some (some 4), some (some 5)]), .inl (0, 8), .inl (0, 16), .inl (0, 16), .inl (0, 16), .inr (9, [none, none, none, none, some (some 7), some (some 8), some (some 9), some (some 10)]), .inl (0, 8), .inl (0, 16), .inl (0, 16), .inl (0, 16), .inr (10, [none, some (some 12)]), .inl (0, 200), .inr (8, [some (some 14), some (some 17), some (some 21), some (some 22), some (some 23), none, none, none, none, none, none, none, none]), .inr (3, [none, none, none, none, none, none, some (some 15), some (some 16)]), .inl (0, 16), .inl (0, 16), .inr (0, [some (some 18), some (some 19), some (some 20), none, none, none, none]), .inl (0, 160), .inl (0, 160), .inl (0, 40), .inl (0, 160), .inl (0, 8), .inl (0, 16), .inr (3, [none, none, none, none, none, none, some (some 25), some (some 26)]), .inl (0, 16), .inl (0, 16)]
def LY_53 : Ly := [.inr (11, [some (some 1), some (some 6), some (some 11), some (some 13), some (some 24), some none, some none, some none, some none, some none, some none, some none, none, none, none]), .inr (9, [none, none, none, none, some (some 2), some (some 3), some (some 4), some (some 5)]), .inl (0, 8), .inl (0, 16), .inl (0, 16), .inl (0, 16), .inr (9, [none, none, none, none, some (some 7), some (some 8), some (some 9), some (some 10)]), .inl (0, 8), .inl (0, 16), .inl (0, 16), .inl (0, 16), .inr (10, [none, some (some 12)]), .inl (0, 200), .inr (8, [some (some 14), some (some 17), some (some 21), some (some 22), some (some 23), none, none, none, none, none, none, none, none]), .inr (3, [none, none, none, none, none, none, some (some 15), some (some 16)]), .inl (0, 16), .inl (0, 16), .inr (0, [some (some 18), some (some 19), some (some 20), none, none, none, none]), .inl (0, 160), .inl (0, 160), .inl (0, 40), .inl (0, 160), .inl (0, 8), .inl (0, 16), .inr (3, [none, none, none, none, none, none, some (some 25), some (some 26)]), .inl (0, 16), .inl (0, 16), .inr (3, [none, none, none, none, none, none, some none, some none])]
def LY_54 : Ly := [.inr (11, [some (some 1), some (some 6), some (some 11), some (some 13), some (some 24), some none, some none, some none, some none, some none, some none, some none, none, none, none]), .inr (9, [none, none, none, none, some (some 2), some (some 3), some (some 4), some (some 5)]), .inl (0, 8), .inl (0, 16), .inl (0, 16), .inl (0, 16), .inr (9, [none, none, none, none, some (some 7), some (some 8), some (some 9), some (some 10)]), .inl (0, 8), .inl (0, 16), .inl (0, 16), .inl (0, 16), .inr (10, [none, some (some 12)]), .inl (0, 200), .inr (8, [some (some 14), some (some 17), some (some 21), some (some 22), some (some 23), none, none, none, none, none, none, none, none]), .inr (3, [none, none, none, none, none, none, some (some 15), some (some 16)]), .inl (0, 16), .inl (0, 16), .inr (0, [some (some 18), some (some 19), some (some 20), none, none, none, none]), .inl (0, 160), .inl (0, 160), .inl (0, 40), .inl (0, 160), .inl (0, 8), .inl (0, 16), .inr (3, [none, none, none, none, none, none, some (some 25), some (some 26)]), .inl (0, 16), .inl (0, 16), .inr (3, [none, none, none, none, none, none, some none, some none]), .inl (0, 16)]
def LY_55 : Ly := [.inr (11, [some (some 1), some (some 6), some (some 11), some (some 13), some (some 24), some none, some none, some none, some none, some none, some none, some none, none, none, none]), .inr (9, [none, none, none, none, some (some 2), some (some 3), some (some 4), some (some 5)]), .inl (0, 8), .inl (0, 16), .inl (0, 16), .inl (0, 16), .inr (9, [none, none, none, none, some (some 7), some (some 8), some (some 9), some (some 10)]), .inl (0, 8), .inl (0, 16), .inl (0, 16), .inl (0, 16), .inr (10, [none, some (some 12)]), .inl (0, 200), .inr (8, [some (some 14), some (some 17), some (some 21), some (some 22), some (some 23), none, none, none, none, none, none, none, none]), .inr (3, [none, none, none, none, none, none, some (some 15), some (some 16)]), .inl (0, 16), .inl (0, 16), .inr (0, [some (some 18), some (some 19), some (some 20), none, none, none, none]), .inl (0, 160), .inl (0, 160), .inl (0, 40), .inl (0, 160), .inl (0, 8), .inl (0, 16), .inr (3, [none, none, none, none, none, none, some (some 25), some (some 26)]), .inl (0, 16), .inl (0, 16), .inr (3, [none, none, none, none, none, none, some (some 28), some none]), .inl (0, 16)]
def LY_56 : Ly := [.inr (11, [some (some 1), some (some 6), some (some 11), some (some 13), some (some 24), some none, some none, some none, some none, some none, some none, some none, none, none, none]), .inr (9, [none, none, none, none, some (some 2), some (some 3), some (some 4), some (some 5)]), .inl (0, 8), .inl (0, 16), .inl (0, 16), .inl (0, 16), .inr (9, [none, none, none, none, some (some 7), some (some 8), some (some 9), some (some 10)]), .inl (0, 8), .inl (0, 16), .inl (0, 16), .inl (0, 16), .inr (10, [none, some (some 12)]), .inl (0, 200), .inr (8, [some (some 14), some (some 17), some (some 21), some (some 22), some (some 23), none, none, none, none, none, none, none, none]), .inr (3, [none, none, none, none, none, none, some (some 15), some (some 16)]), .inl (0, 16), .inl (0, 16), .inr (0, [some (some 18), some (some 19), some (some 20), none, none, none, none]), .inl (0, 160), .inl (0, 160), .inl (0, 40), .inl (0, 160), .inl (0, 8), .inl (0, 16), .inr (3, [none, none, none, none, none, none, some (some 25), some (some 26)]), .inl (0, 16), .inl (0, 16), .inr (3, [none, none, none, none, none, none, some (some 28), some none]), .inl (0, 16), .inl (0, 16)]
def LY_57 : Ly := [.inr (11, [some (some 1), some (some 6), some (some 11), some (some 13), some (some 24), some none, some none, some none, some none, some none, some none, some none, none, none, none]), .inr (9, [none, none, none, none, some (some 2), some (some 3), some (some 4), some (some 5)]), .inl (0, 8), .inl (0, 16), .inl (0, 16), .inl (0, 16), .inr (9, [none, none, none, none, some (some 7), some (some 8), some (some 9), some (some 10)]), .inl (0, 8), .inl (0, 16), .inl (0, 16), .inl (0, 16), .inr (10, [none, some (some 12)]), .inl (0, 200), .inr (8, [some (some 14), some (some 17), some (some 21), some (some 22), some (some 23), none, none, none, none, none, none, none, none]), .inr (3, [none, none, none, none, none, none, some (some 15), some (some 16)]), .inl (0, 16), .inl (0, 16), .inr (0, [some (some 18), some (some 19), some (some 20), none, none, none, none]), .inl (0, 160), .inl (0, 160), .inl (0, 40), .inl (0, 160), .inl (0, 8), .inl (0, 16), .inr (3, [none, none, none, none, none, none, some (some 25), some (some 26)]), .inl (0, 16), .inl (0, 16), .inr (3, [none, none, none, none, none, none, some (some 28), some (some 29)]), .inl (0, 16), .inl (0, 16)]
def LY_58 : Ly := [.inr (11, [some (some 1), some (some 6), some (some 11), some (some 13), some (some 24), some (some 27), some none, some none, some none, some none, some none, some none, none, none, none]), .inr (9, [none, none, none, none, some (some 2), some (some 3), some (some 4), some (some 5)]), .inl (0, 8), .inl (0, 16), .inl (0, 16), .inl (0, 16), .inr (9, [none, none, none, none, some (some 7), some (some 8), some (some 9), some (some 10)]), .inl (0, 8), .inl (0, 16), .inl (0, 16), .inl (0, 16), .inr (10, [none, some (some 12)]), .inl (0, 200), .inr (8, [some (some 14), some (some 17), some (some 21), some (some 22), some (some 23), none, none, none, none, none, none, none, none]), .inr (3, [none, none, none, none, none, none, some (some 15), some (some 16)]), .inl (0, 16), .inl (0, 16), .inr (0, [some (some 18), some (some 19), some (some 20), none, none, none, none]), .inl (0, 160), .inl (0, 160), .inl (0, 40), .inl (0, 160), .inl (0, 8), .inl (0, 16), .inr (3, [none, none, none, none, none, none, some (some 25), some (some 26)]), .inl (0, 16), .inl (0, 16), .inr (3, [none, none, none, none, none, none, some (some 28), some (some 29)]), .inl (0, 16), .inl (0, 16)]
def LY_59 : Ly := [.inr (11, [some (some 1), some (some 6), some (some 11), some (some 13), some (some 24), some (some 27), some none, some none, some none, some none, some none, some none, none, none, none]), .inr (9, [none, none, none, none, some (some 2), some (some 3), some (some 4), some (some 5)]), .inl (0, 8), .inl (0, 16), .inl (0, 16), .inl (0, 16), .inr (9, [none, none, none, none, some (some 7), some (some 8), some (some 9), some (some 10)]), .inl (0, 8), .inl (0, 16), .inl (0, 16), .inl (0, 16), .inr (10, [none, some (some 12)]), .inl (0, 200), .inr (8, [some (some 14), some (some 17), some (some 21), some (some 22), some (some 23), none, none, none, none, none, none, none, none]), .inr (3, [none, none, none, none, none, none, some (some 15), some (some 16)]), .inl (0, 16), .inl (0, 16), .inr (0, [some (some 18), some (some 19), some (some 20), none, none, none, none]), .inl (0, 160), .inl (0, 160), .inl (0, 40), .inl (0, 160), .inl (0, 8), .inl (0, 16), .inr (3, [none, none, none, none, none, none, some (some 25), some (some 26)]), .inl (0, 16), .inl (0, 16), .inr (3, [none, none, none, none, none, none, some (some 28), some (some 29)]), .inl (0, 16), .inl (0, 16), .inr (6, [none, some none, some none, some none])]
def LY_60 : Ly := [.inr (11, [some (some 1), some (some 6), some (some 11), some (some 13), some (some 24), some (some 27), some none, some none, some none, some none, some none, some none, none, none, none]), .inr (9, [none, none, none, none, some (some 2), some (some 3), some (some 4), some (some 5)]), .inl (0, 8), .inl (0, 16), .inl (0, 16), .inl (0, 16), .inr (9, [none, none, none, none, some (some 7), some (some 8), some (some 9), some (some 10)]), .inl (0, 8), .inl (0, 16), .inl (0, 16), .inl (0, 16), .inr (10, [none, some (some 12)]), .inl (0, 200), .inr (8, [some (some 14), some (some 17), some (some 21), some (some 22), some (some 23), none, none, none, none, none, none, none, none]), .inr (3, [none, none, none, none, none, none, some (some 15), some (some 16)]), .inl (0, 16), .inl (0, 16), .inr (0, [some (some 18), some (some 19), some (some 20), none, none, none, none]), .inl (0, 160), .inl (0, 160), .inl (0, 40), .inl (0, 160), .inl (0, 8), .inl (0, 16), .inr (3, [none, none, none, none, none, none, some (some 25), some (some 26)]), .inl (0, 16), .inl (0, 16), .inr (3, [none, none, none, none, none, none, some (some 28), some (some 29)]), .inl (0, 16), .inl (0, 16), .inr (6, [none, some none, some none, some none]), .inl (0, 16)]
def LY_61 : Ly := [.inr (11, [some (some 1), some (some 6), some (some 11), some (some 13), some (some 24), some (some 27), some none, some none, some none, some none, some none, some none, none, none, none]), .inr (9, [none, none, none, none, some (some 2), some (some 3), some (some 4), some (some 5)]), .inl (0, 8), .inl (0, 16), .inl (0, 16), .inl (0, 16), .inr (9, [none, none, none, none, some (some 7), some (some 8), some (some 9), some (some 10)]), .inl (0, 8), .inl (0, 16), .inl (0, 16), .inl (0, 16), .inr (10, [none, some (some 12)]), .inl (0, 200), .inr (8, [some (some 14), some (some 17), some (some 21), some (some 22), some (some 23), none, none, none, none, none, none, none, none]), .inr (3, [none, none, none, none, none, none, some (some 15), some (some 16)]), .inl (0, 16), .inl (0, 16), .inr (0, [some (some 18), some (some 19), some (some 20), none, none, none, none]), .inl (0, 160), .inl (0, 160), .inl (0, 40), .inl (0, 160), .inl (0, 8), .inl (0, 16), .inr (3, [none, none, none, none, none, none, some (some 25), some (some 26)]), .inl (0, 16), .inl (0, 16), .inr (3, [none, none, none, none, none, none, some (some 28), some (some 29)]), .inl (0, 16), .inl (0, 16), .inr (6, [none, some (some 31), some none, some none]), .inl (0, 16)]
def LY_62 : Ly := [.inr (11, [some (some 1), some (some 6), some (some 11), some (some 13), some (some 24), some (some 27), some none, some none, some none, some none, some none, some none, none, none, none]), .inr (9, [none, none, none, none, some (some 2), some (some 3), some (some 4), some (some 5)]), .inl (0, 8), .inl (0, 16), .inl (0, 16), .inl (0, 16), .inr (9, [none, none, none, none, some (some 7), some (some 8), some (some 9), some (some 10)]), .inl (0, 8), .inl (0, 16), .inl (0, 16), .inl (0, 16), .inr (10, [none, some (some 12)]), .inl (0, 200), .inr (8, [some (some 14), some (some 17), some (some 21), some (some 22), some (some 23), none, none, none, none, none, none, none, none]), .inr (3, [none, none, none, none, none, none, some (some 15), some (some 16)]), .inl (0, 16), .inl (0, 16), .inr (0, [some (some 18), some (some 19), some (some 20), none, none, none, none]), .inl (0, 160), .inl (0, 160), .inl (0, 40), .inl (0, 160), .inl (0, 8), .inl (0, 16), .inr (3, [none, none, none, none, none, none, some (some 25), some (some 26)]), .inl (0, 16), .inl (0, 16), .inr (3, [none, none, none, none, none, none, some (some 28), some (some 29)]), .inl (0, 16), .inl (0, 16), .inr (6, [none, some (some 31), some none, some none]), .inl (0, 16), .inl (0, 16)]
def LY_63 : Ly := [.inr (11, [some (some 1), some (some 6), some (some 11), some (some 13), some (some 24), some (some 27), some none, some none, some none, some none, some none, some none, none, none, none]), .inr (9, [none, none, none, none, some (some 2), some (some 3), some (some 4), some (some 5)]), .inl (0, 8), .inl (0, 16), .inl (0, 16), .inl (0, 16), .inr (9, [none, none, none, none, some (some 7), some (some 8), some (some 9), some (some 10)]), .inl (0, 8), .inl (0, 16), .inl (0, 16), .inl (0, 16), .inr (10, [none, some (some 12)]), .inl (0, 200), .inr (8, [some (some 14), some (some 17), some (some 21), some (some 22), some (some 23), none, none, none, none, none, none, none, none]), .inr (3, [none, none, none, none, none, none, some (some 15), some (some 16)]), .inl (0, 16), .inl (0, 16), .inr (0, [some (some 18), some (some 19), some (some 20), none, none, none, none]), .inl (0, 160), .inl (0, 160), .inl (0, 40), .inl (0, 160), .inl (0, 8), .inl (0, 16), .inr (3, [none, none, none, none, none, none, some (some 25), some (some 26)]), .inl (0, 16), .inl (0, 16), .inr (3, [none, none, none, none, none, none, some (some 28), some (some 29)]), .inl (0, 16), .inl (0, 16), .inr (6, [none, some (some 31), some (some 32), some none]), .inl (0, 16), .inl (0, 16)]
def LY_64 : Ly := [.inr (11, [some (some 1), some (some 6), some (some 11), some (some 13), some (some 24), some (some 27), some none, some none, some none, some none, some none, some none, none, none, none]), .inr (9, [none, none, none, none, some (some 2), some (some 3), some (some 4), some (some 5)]), .inl (0, 8), .inl (0, 16), .inl (0, 16), .inl (0, 16), .inr (9, [none, none, none, none, some (some 7), some (some 8), some (some 9), some (some 10)]), .inl (0, 8), .inl (0, 16), .inl (0, 16), .inl (0, 16), .inr (10, [none, some (some 12)]), .inl (0, 200), .inr (8, [some (some 14), some (some 17), some (some 21), some (some 22), some (some 23), none, none, none, none, none, none, none, none]), .inr (3, [none, none, none, none, none, none, some (some 15), some (some 16)]), .inl (0, 16), .inl (0, 16), .inr (0, [some (some 18), some (some 19), some (some 20), none, none, none, none]), .inl (0, 160), .inl (0, 160), .inl (0, 40), .inl (0, 160), .inl (0, 8), .inl (0, 16), .inr (3, [none, none, none, none, none, none, some (some 25), some (some 26)]), .inl (0, 16), .inl (0, 16), .inr (3, [none, none, none, none, none, none, some (some 28), some (some 29)]), .inl (0, 16), .inl (0, 16), .inr (6, [none, some (some 31), some (some 32), some none]), .inl (0, 16), .inl (0, 16), .inl (0, 256)]
def LY_65 : Ly := [.inr (11, [some (some 1), some (some 6), some (some 11), some (some 13), some (some 24), some (some 27), some none, some none, some none, some none, some none, some none, none, none, none]), .inr (9, [none, none, none, none, some (some 2), some (some 3), some (some 4), some (some 5)]), .inl (0, 8), .inl (0, 16), .inl (0, 16), .inl (0, 16), .inr (9, [none, none, none, none, some (some 7), some (some 8), some (some 9), some (some 10)]), .inl (0, 8), .inl (0, 16), .inl (0, 16), .inl (0, 16), .inr (10, [none, some (some 12)]), .inl (0, 200), .inr (8, [some (some 14), some (some 17), some (some 21), some (some 22), some (some 23), none, none, none, none, none, none, none, none]), .inr (3, [none, none, none, none, none, none, some (some 15), some (some 16)]), .inl (0, 16), .inl (0, 16), .inr (0, [some (some 18), some (some 19), some (some 20), none, none, none, none]), .inl (0, 160), .inl (0, 160), .inl (0, 40), .inl (0, 160), .inl (0, 8), .inl (0, 16), .inr (3, [none, none, none, none, none, none, some (some 25), some (some 26)]), .inl (0, 16), .inl (0, 16), .inr (3, [none, none, none, none, none, none, some (some 28), some (some 29)]), .inl (0, 16), .inl (0, 16), .inr (6, [none, some (some 31), some (some 32), some (some 33)]), .inl (0, 16), .inl (0, 16), .inl (0, 256)]
def LY_66 : Ly := [.inr (11, [some (some 1), some (some 6), some (some 11), some (some 13), some (some 24), some (some 27), some (some 30), some none, some none, some none, some none, some none, none, none, none]), .inr (9, [none, none, none, none, some (some 2), some (some 3), some (some 4), some (some 5)]), .inl (0, 8), .inl (0, 16), .inl (0, 16), .inl (0, 16), .inr (9, [none, none, none, none, some (some 7), some (some 8), some (some 9), some (some 10)]), .inl (0, 8), .inl (0, 16), .inl (0, 16), .inl (0, 16), .inr (10, [none, some (some 12)]), .inl (0, 200), .inr (8, [some (some 14), some (some 17), some (some 21), some (some 22), some (some 23), none, none, none, none, none, none, none, none]), .inr (3, [none, none, none, none, none, none, some (some 15), some (some 16)]), .inl (0, 16), .inl (0, 16), .inr (0, [some (some 18), some (some 19), some (some 20), none, none, none, none]), .inl (0, 160), .inl (0, 160), .inl (0, 40), .inl (0, 160), .inl (0, 8), .inl (0, 16), .inr (3, [none, none, none, none, none, none, some (some 25), some (some 26)]), .inl (0, 16), .inl (0, 16), .inr (3, [none, none, none, none, none, none, some (some 28), some (some 29)]), .inl (0, 16), .inl (0, 16), .inr (6, [none, some (some 31), some (some 32), some (some 33)]), .inl (0, 16), .inl (0, 16), .inl (0, 256)]
def LY_67 : Ly := [.inr (11, [some (some 1), some (some 6), some (some 11), some (some 13), some (some 24), some (some 27), some (some 30), some none, some none, some none, some none, some none, none, none, none]), .inr (9, [none, none, none, none, some (some 2), some (some 3), some (some 4), some (some 5)]), .inl (0, 8), .inl (0, 16), .inl (0, 16), .inl (0, 16), .inr (9, [none, none, none, none, some (some 7), some (some 8), some (some 9), some (some 10)]), .inl (0, 8), .inl (0, 16), .inl (0, 16), .inl (0, 16), .inr (10, [none, some (some 12)]), .inl (0, 200), .inr (8, [some (some 14), some (some 17), some (some 21), some (some 22), some (some 23), none, none, none, none, none, none, none, none]), .inr (3, [none, none, none, none, none, none, some (some 15), some (some 16)]), .inl (0, 16), .inl (0, 16), .inr (0, [some (some 18), some (some 19), some (some 20), none, none, none, none]), .inl (0, 160), .inl (0, 160), .inl (0, 40), .inl (0, 160), .inl (0, 8), .inl (0, 16), .inr (3, [none, none, none, none, none, none, some (some 25), some (some 26)]), .inl (0, 16), .inl (0, 16), .inr (3, [none, none, none, none, none, none, some (some 28), some (some 29)]), .inl (0, 16), .inl (0, 16), .inr (6, [none, some (some 31), some (some 32), some (some 33)]), .inl (0, 16), .inl (0, 16), .inl (0, 256), .inr (7, [none, none, none, some none, some none, some none, none, some none, some none, some none, some none])]
def LY_68 : Ly := [.inr (11, [some (some 1), some (some 6), some (some 11), some (some 13), some (some 24), some (some 27), some (some 30), some none, some none, some none, some none, some none, none, none, none]), .inr (9, [none, none, none, none, some (some 2), some (some 3), some (some 4), some (some 5)]), .inl (0, 8), .inl (0, 16), .inl (0, 16), .inl (0, 16), .inr (9, [none, none, none, none, some (some 7), some (some 8), some (some 9), some (some 10)]), .inl (0, 8), .inl (0, 16), .inl (0, 16), .inl (0, 16), .inr (10, [none, some (some 12)]), .inl (0, 200), .inr (8, [some (some 14), some (some 17), some (some 21), some (some 22), some (some 23), none, none, none, none, none, none, none, none]), .inr (3, [none, none, none, none, none, none, some (some 15), some (some 16)]), .inl (0, 16), .inl (0, 16), .inr (0, [some (some 18), some (some 19), some (some 20), none, none, none, none]), .inl (0, 160), .inl (0, 160), .inl (0, 40), .inl (0, 160), .inl (0, 8), .inl (0, 16), .inr (3, [none, none, none, none, none, none, some (some 25), some (some 26)]), .inl (0, 16), .inl (0, 16), .inr (3, [none, none, none, none, none, none, some (some 28), some (some 29)]), .inl (0, 16), .inl (0, 16), .inr (6, [none, some (some 31), some (some 32), some (some 33)]), .inl (0, 16), .inl (0, 16), .inl (0, 256), .inr (7, [none, none, none, some none, some none, some none, none, some none, some none, some none, some none]), .inl (0, 256)]
def LY_69 : Ly := [.inr (11, [some (some 1), some (some 6), some (some 11), some (some 13), some (some 24), some (some 27), some (some 30), some none, some none, some none, some none, some none, none, none, none]), .inr (9, [none, none, none, none, some (some 2), some (some 3), some (some 4), some (some 5)]), .inl (0, 8), .inl (0, 16), .inl (0, 16), .inl (0, 16), .inr (9, [none, none, none, none, some (some 7), some (some 8), some (some 9), some (some 10)]), .inl (0, 8), .inl (0, 16), .inl (0, 16), .inl (0, 16), .inr (10, [none, some (some 12)]), .inl (0, 200), .inr (8, [some (some 14), some (some 17), some (some 21), some (some 22), some (some 23), none, none, none, none, none, none, none, none]), .inr (3, [none, none, none, none, none, none, some (some 15), some (some 16)]), .inl (0, 16), .inl (0, 16), .inr (0, [some (some 18), some (some 19), some (some 20), none, none, none, none]), .inl (0, 160), .inl (0, 160), .inl (0, 40), .inl (0, 160), .inl (0, 8), .inl (0, 16), .inr (3, [none, none, none, none, none, none, some (some 25), some (some 26)]), .inl (0, 16), .inl (0, 16), .inr (3, [none, none, none, none, none, none, some (some 28), some (some 29)]), .inl (0, 16), .inl (0, 16), .inr (6, [none, some (some 31), some (some 32), some (some 33)]), .inl (0, 16), .inl (0, 16), .inl (0, 256), .inr (7, [none, none, none, some (some 35), some none, some none, none, some none, some none, some none, some none]), .inl (0, 256)]
def LY_70 : Ly := [.inr (11, [some (some 1), some (some 6), some (some 11), some (some 13), some (some 24), some (some 27), some (some 30), some none, some none, some none, some none, some none, none, none, none]), .inr (9, [none, none, none, none, some (some 2), some (some 3), some (some 4), some (some 5)]), .inl (0, 8), .inl (0, 16), .inl (0, 16), .inl (0, 16), .inr (9, [none, none, none, none, some (some 7), some (some 8), some (some 9), some (some 10)]), .inl (0, 8), .inl (0, 16), .inl (0, 16), .inl (0, 16), .inr (10, [none, some (some 12)]), .inl (0, 200), .inr (8, [some (some 14), some (some 17), some (some 21), some (some 22), some (some 23), none, none, none, none, none, none, none, none]), .inr (3, [none, none, none, none, none, none, some (some 15), some (some 16)]), .inl (0, 16), .inl (0, 16), .inr (0, [some (some 18), some (some 19), some (some 20), none, none, none, none]), .inl (0, 160), .inl (0, 160), .inl (0, 40), .inl (0, 160), .inl (0, 8), .inl (0, 16), .inr (3, [none, none, none, none, none, none, some (some 25), some (some 26)]), .inl (0, 16), .inl (0, 16), .inr (3, [none, none, none, none, none, none, some (some 28), some (some 29)]), .inl (0, 16), .inl (0, 16), .inr (6, [none, some (some 31), some (some 32), some (some 33)]), .inl (0, 16), .inl (0, 16), .inl (0, 256), .inr (7, [none, none, none, some (some 35), some none, some none, none, some none, some none, some none, some none]), .inl (0, 256), .inl (0, 256)]
def LY_71 : Ly := [.inr (11, [some (some 1), some (some 6), some (some 11), some (some 13), some (some 24), some (some 27), some (some 30), some none, some none, some none, some none, some none, none, none, none]), .inr (9, [none, none, none, none, some (some 2), some (some 3), some (some 4), some (some 5)]), .inl (0, 8), .inl (0, 16), .inl (0, 16), .inl (0, 16), .inr (9, [none, none, none, none, some (some 7), some (some 8), some (some 9), some (some 10)]), .inl (0, 8), .inl (0, 16), .inl (0, 16), .inl (0, 16), .inr (10, [none, some (some 12)]), .inl (0, 200), .inr (8, [some (some 14), some (some 17), some (some 21), some (some 22), some (some 23), none, none, none, none, none, none, none, none]), .inr (3, [none, none, none, none, none, none, some (some 15), some (some 16)]), .inl (0, 16), .inl (0, 16), .inr (0, [some (some 18), some (some 19), some (some 20), none, none, none, none]), .inl (0, 160), .inl (0, 160), .inl (0, 40), .inl (0, 160), .inl (0, 8), .inl (0, 16), .inr (3, [none, none, none, none, none, none, some (some 25), some (some 26)]), .inl (0, 16), .inl (0, 16), .inr (3, [none, none, none, none, none, none, some (some 28), some (some 29)]), .inl (0, 16), .inl (0, 16), .inr (6, [none, some (some 31), some (some 32), some (some 33)]), .inl (0, 16), .inl (0, 16), .inl (0, 256), .inr (7, [none, none, none, some (some 35), some (some 36), some none, none, some none, some none, some none, some none]), .inl (0, 256), .inl (0, 256)]
def LY_72 : Ly := [.inr (11, [some (some 1), some (some 6), some (some 11), some (some 13), some (some 24), some (some 27), some (some 30), some none, some none, some none, some none, some none, none, none, none]), .inr (9, [none, none, none, none, some (some 2), some (some 3), some (some 4), some (some 5)]), .inl (0, 8), .inl (0, 16), .inl (0, 16), .inl (0, 16), .inr (9, [none, none, none, none, some (some 7), some (some 8), some (some 9), some (some 10)]), .inl (0, 8), .inl (0, 16), .inl (0, 16), .inl (0, 16), .inr (10, [none, some (some 12)]), .inl (0, 200), .inr (8, [some (some 14), some (some 17), some (some 21), some (some 22), some (some 23), none, none, none, none, none, none, none, none]), .inr (3, [none, none, none, none, none, none, some (some 15), some (some 16)]), .inl (0, 16), .inl (0, 16), .inr (0, [some (some 18), some (some 19), some (some 20), none, none, none, none]), .inl (0, 160), .inl (0, 160), .inl (0, 40), .inl (0, 160), .inl (0, 8), .inl (0, 16), .inr (3, [none, none, none, none, none, none, some (some 25), some (some 26)]), .inl (0, 16), .inl (0, 16), .inr (3, [none, none, none, none, none, none, some (some 28), some (some 29)]), .inl (0, 16), .inl (0, 16), .inr (6, [none, some (some 31), some (some 32), some (some 33)]), .inl (0, 16), .inl (0, 16), .inl (0, 256), .inr (7, [none, none, none, some (some 35), some (some 36), some none, none, some none, some none, some none, some none]), .inl (0, 256), .inl (0, 256), .inl (0, 16)]
def LY_73 : Ly := [.inr (11, [some (some 1), some (some 6), some (some 11), some (some 13), some (some 24), some (some 27), some (some 30), some none, some none, some none, some none, some none, none, none, none]), .inr (9, [none, none, none, none, some (some 2), some (some 3), some (some 4), some (some 5)]), .inl (0, 8), .inl (0, 16), .inl (0, 16), .inl (0, 16), .inr (9, [none, none, none, none, some (some 7), some (some 8), some (some 9), some (some 10)]), .inl (0, 8), .inl (0, 16), .inl (0, 16), .inl (0, 16), .inr (10, [none, some (some 12)]), .inl (0, 200), .inr (8, [some (some 14), some (some 17), some (some 21), some (some 22), some (some 23), none, none, none, none, none, none, none, none]), .inr (3, [none, none, none, none, none, none, some (some 15), some (some 16)]), .inl (0, 16), .inl (0, 16), .inr (0, [some (some 18), some (some 19), some (some 20), none, none, none, none]), .inl (0, 160), .inl (0, 160), .inl (0, 40), .inl (0, 160), .inl (0, 8), .inl (0, 16), .inr (3, [none, none, none, none, none, none, some (some 25), some (some 26)]), .inl (0, 16), .inl (0, 16), .inr (3, [none, none, none, none, none, none, some (some 28), some (some 29)]), .inl (0, 16), .inl (0, 16), .inr (6, [none, some (some 31), some (some 32), some (some 33)]), .inl (0, 16), .inl (0, 16), .inl (0, 256), .inr (7, [none, none, none, some (some 35), some (some 36), some (some 37), none, some none, some none, some none, some none]), .inl (0, 256), .inl (0, 256), .inl (0, 16)]
def LY_74 : Ly := [.inr (11, [some (some 1), some (some 6), some (some 11), some (some 13), some (some 24), some (some 27), some (some 30), some none, some none, some none, some none, some none, none, none, none]), .inr (9, [none, none, none, none, some (some 2), some (some 3), some (some 4), some (some 5)]), .inl (0, 8), .inl (0, 16), .inl (0, 16), .inl (0, 16), .inr (9, [none, none, none, none, some (some 7), some (some 8), some (some 9), some (some 10)]), .inl (0, 8), .inl (0, 16), .inl (0, 16), .inl (0, 16), .inr (10, [none, some (some 12)]), .inl (0, 200), .inr (8, [some (some 14), some (some 17), some (some 21), some (some 22), some (some 23), none, none, none, none, none, none, none, none]), .inr (3, [none, none, none, none, none, none, some (some 15), some (some 16)]), .inl (0, 16), .inl (0, 16), .inr (0, [some (some 18), some (some 19), some (some 20), none, none, none, none]), .inl (0, 160), .inl (0, 160), .inl (0, 40), .inl (0, 160), .inl (0, 8), .inl (0, 16), .inr (3, [none, none, none, none, none, none, some (some 25), some (some 26)]), .inl (0, 16), .inl (0, 16), .inr (3, [none, none, none, none, none, none, some (some 28), some (some 29)]), .inl (0, 16), .inl (0, 16), .inr (6, [none, some (some 31), some (some 32), some (some 33)]), .inl (0, 16), .inl (0, 16), .inl (0, 256), .inr (7, [none, none, none, some (some 35), some (some 36), some (some 37), none, some none, some none, some none, some none]), .inl (0, 256), .inl (0, 256), .inl (0, 16), .inl (0, 256)]
def LY_75 : Ly := [.inr (11, [some (some 1), some (some 6), some (some 11), some (some 13), some (some 24), some (some 27), some (some 30), some none, some none, some none, some none, some none, none, none, none]), .inr (9, [none, none, none, none, some (some 2), some (some 3), some (some 4), some (some 5)]), .inl (0, 8), .inl (0, 16), .inl (0, 16), .inl (0, 16), .inr (9, [none, none, none, none, some (some 7), some (some 8), some (some 9), some (some 10)]), .inl (0, 8), .inl (0, 16), .inl (0, 16), .inl (0, 16), .inr (10, [none, some (some 12)]), .inl (0, 200), .inr (8, [some (some 14), some (some 17), some (some 21), some (some 22), some (some 23), none, none, none, none, none, none, none, none]), .inr (3, [none, none, none, none, none, none, some (some 15), some (some 16)]), .inl (0, 16), .inl (0, 16), .inr (0, [some (some 18), some (some 19), some (some 20), none, none, none, none]), .inl (0, 160), .inl (0, 160), .inl (0, 40), .inl (0, 160), .inl (0, 8), .inl (0, 16), .inr (3, [none, none, none, none, none, none, some (some 25), some (some 26)]), .inl (0, 16), .inl (0, 16), .inr (3, [none, none, none, none, none, none, some (some 28), some (some 29)]), .inl (0, 16), .inl (0, 16), .inr (6, [none, some (some 31), some (some 32), some (some 33)]), .inl (0, 16), .inl (0, 16), .inl (0, 256), .inr (7, [none, none, none, some (some 35), some (some 36), some (some 37), none, some (some 38), some none, some none, some none]), .inl (0, 256), .inl (0, 256), .inl (0, 16), .inl (0, 256)]
def LY_76 : Ly := [.inr (11, [some (some 1), some (some 6), some (some 11), some (some 13), some (some 24), some (some 27), some (some 30), some none, some none, some none, some none, some none, none, none, none]), .inr (9, [none, none, none, none, some (some 2), some (some 3), some (some 4), some (some 5)]), .inl (0, 8), .inl (0, 16), .inl (0, 16), .inl (0, 16), .inr (9, [none, none, none, none, some (some 7), some (some 8), some (some 9), some (some 10)]), .inl (0, 8), .inl (0, 16), .inl (0, 16), .inl (0, 16), .inr (10, [none, some (some 12)]), .inl (0, 200), .inr (8, [some (some 14), some (some 17), some (some 21), some (some 22), some (some 23), none, none, none, none, none, none, none, none]), .inr (3, [none, none, none, none, none, none, some (some 15), some (some 16)]), .inl (0, 16), .inl (0, 16), .inr (0, [some (some 18), some (some 19), some (some 20), none, none, none, none]), .inl (0, 160), .inl (0, 160), .inl (0, 40), .inl (0, 160), .inl (0, 8), .inl (0, 16), .inr (3, [none, none, none, none, none, none, some (some 25), some (some 26)]), .inl (0, 16), .inl (0, 16), .inr (3, [none, none, none, none, none, none, some (some 28), some (some 29)]), .inl (0, 16), .inl (0, 16), .inr (6, [none, some (some 31), some (some 32), some (some 33)]), .inl (0, 16), .inl (0, 16), .inl (0, 256), .inr (7, [none, none, none, some (some 35), some (some 36), some (some 37), none, some (some 38), some none, some none, some none]), .inl (0, 256), .inl (0, 256), .inl (0, 16), .inl (0, 256), .inl (0, 256)]
def LY_77 : Ly := [.inr (11, [some (some 1), some (some 6), some (some 11), some (some 13), some (some 24), some (some 27), some (some 30), some none, some none, some none, some none, some none, none, none, none]), .inr (9, [none, none, none, none, some (some 2), some (some 3), some (some 4), some (some 5)]), .inl (0, 8), .inl (0, 16), .inl (0, 16), .inl (0, 16), .inr (9, [none, none, none, none, some (some 7), some (some 8), some (some 9), some (some 10)]), .inl (0, 8), .inl (0, 16), .inl (0, 16), .inl (0, 16), .inr (10, [none, some (some 12)]), .inl (0, 200), .inr (8, [some (some 14), some (some 17), some (some 21), some (some 22), some (some 23), none, none, none, none, none, none, none, none]), .inr (3, [none, none, none, none, none, none, some (some 15), some (some 16)]), .inl (0, 16), .inl (0, 16), .inr (0, [some (some 18), some (some 19), some (some 20), none, none, none, none]), .inl (0, 160), .inl (0, 160), .inl (0, 40), .inl (0, 160), .inl (0, 8), .inl (0, 16), .inr (3, [none, none, none, none, none, none, some (some 25), some (some 26)]), .inl (0, 16), .inl (0, 16), .inr (3, [none, none, none, none, none, none, some (some 28), some (some 29)]), .inl (0, 16), .inl (0, 16), .inr (6, [none, some (some 31), some (some 32), some (some 33)]), .inl (0, 16), .inl (0, 16), .inl (0, 256), .inr (7, [none, none, none, some (some 35), some (some 36), some (some 37), none, some (some 38), some (some 39), some none, some none]), .inl (0, 256), .inl (0, 256), .inl (0, 16), .inl (0, 256), .inl (0, 256)]
def LY_78 : Ly := [.inr (11, [some (some 1), some (some 6), some (some 11), some (some 13), some (some 24), some (some 27), some (some 30), some none, some none, some none, some none, some none, none, none, none]), .inr (9, [none, none, none, none, some (some 2), some (some 3), some (some 4), some (some 5)]), .inl (0, 8), .inl (0, 16), .inl (0, 16), .inl (0, 16), .inr (9, [none, none, none, none, some (some 7), some (some 8), some (some 9), some (some 10)]), .inl (0, 8), .inl (0, 16), .inl (0, 16), .inl (0, 16), .inr (10, [none, some (some 12)]), .inl (0, 200), .inr (8, [some (some 14), some (some 17), some (some 21), some (some 22), some (some 23), none, none, none, none, none, none, none, none]), .inr (3, [none, none, none, none, none, none, some (some 15), some (some 16)]), .inl (0, 16), .inl (0, 16), .inr (0, [some (some 18), some (some 19), some (some 20), none, none, none, none]), .inl (0, 160), .inl (0, 160), .inl (0, 40), .inl (0, 160), .inl (0, 8), .inl (0, 16), .inr (3, [none, none, none, none, none, none, some (some 25), some (some 26)]), .inl (0, 16), .inl (0, 16), .inr (3, [none, none, none, none, none, none, some (some 28), some (some 29)]), .inl (0, 16), .inl (0, 16), .inr (6, [none, some (some 31), some (some 32), some (some 33)]), .inl (0, 16), .inl (0, 16), .inl (0, 256), .inr (7, [none, none, none, some (some 35), some (some 36), some (some 37), none, some (some 38), some (some 39), some none, some none]), .inl (0, 256), .inl (0, 256), .inl (0, 16), .inl (0, 256), .inl (0, 256), .inl (0, 256)]
def LY_79 : Ly := [.inr (11, [some (some 1), some (some 6), some (some 11), some (some 13), some (some 24), some (some 27), some (some 30), some none, some none, some none, some none, some none, none, none, none]), .inr (9, [none, none, none, none, some (some 2), some (some 3), some (some 4), some (some 5)]), .inl (0, 8), .inl (0, 16), .inl (0, 16), .inl (0, 16), .inr (9, [none, none, none, none, some (some 7), some (some 8), some (some 9), some (some 10)]), .inl (0, 8), .inl (0, 16), .inl (0, 16), .inl (0, 16), .inr (10, [none, some (some 12)]), .inl (0, 200), .inr (8, [some (some 14), some (some 17), some (some 21), some (some 22), some (some 23), none, none, none, none, none, none, none, none]), .inr (3, [none, none, none, none, none, none, some (some 15), some (some 16)]), .inl (0, 16), .inl (0, 16), .inr (0, [some (some 18), some (some 19), some (some 20), none, none, none, none]), .inl (0, 160), .inl (0, 160), .inl (0, 40), .inl (0, 160), .inl (0, 8), .inl (0, 16), .inr (3, [none, none, none, none, none, none, some (some 25), some (some 26)]), .inl (0, 16), .inl (0, 16), .inr (3, [none, none, none, none, none, none, some (some 28), some (some 29)]), .inl (0, 16), .inl (0, 16), .inr (6, [none, some (some 31), some (some 32), some (some 33)]), .inl (0, 16), .inl (0, 16), .inl (0, 256), .inr (7, [none, none, none, some (some 35), some (some 36), some (some 37), none, some (some 38), some (some 39), some (some 40), some none]), .inl (0, 256), .inl (0, 256), .inl (0, 16), .inl (0, 256), .inl (0, 256), .inl (0, 256)]
def LY_80 : Ly := [.inr (11, [some (some 1), some (some 6), some (some 11), some (some 13), some (some 24), some (some 27), some (some 30), some none, some none, some none, some none, some none, none, none, none]), .inr (9, [none, none, none, none, some (some 2), some (some 3), some (some 4), some (some 5)]), .inl (0, 8), .inl (0, 16), .inl (0, 16), .inl (0, 16), .inr (9, [none, none, none, none, some (some 7), some (some 8), some (some 9), some (some 10)]), .inl (0, 8), .inl (0, 16), .inl (0, 16), .inl (0, 16), .inr (10, [none, some (some 12)]), .inl (0, 200), .inr (8, [some (some 14), some (some 17), some (some 21), some (some 22), some (some 23), none, none, none, none, none, none, none, none]), .inr (3, [none, none, none, none, none, none, some (some 15), some (some 16)]), .inl (0, 16), .inl (0, 16), .inr (0, [some (some 18), some (some 19), some (some 20), none, none, none, none]), .inl (0, 160), .inl (0, 160), .inl (0, 40), .inl (0, 160), .inl (0, 8), .inl (0, 16), .inr (3, [none, none, none, none, none, none, some (some 25), some (some 26)]), .inl (0, 16), .inl (0, 16), .inr (3, [none, none, none, none, none, none, some (some 28), some (some 29)]), .inl (0, 16), .inl (0, 16), .inr (6, [none, some (some 31), some (some 32), some (some 33)]), .inl (0, 16), .inl (0, 16), .inl (0, 256), .inr (7, [none, none, none, some (some 35), some (some 36), some (some 37), none, some (some 38), some (some 39), some (some 40), some none]), .inl (0, 256), .inl (0, 256), .inl (0, 16), .inl (0, 256), .inl (0, 256), .inl (0, 256), .inl (0, 256)]
def LY_81 : Ly := [.inr (11, [some (some 1), some (some 6), some (some 11), some (some 13), some (some 24), some (some 27), some (some 30), some none, some none, some none, some none, some none, none, none, none]), .inr (9, [none, none, none, none, some (some 2), some (some 3), some (some 4), some (some 5)]), .inl (0, 8), .inl (0, 16), .inl (0, 16), .inl (0, 16), .inr (9, [none, none, none, none, some (some 7), some (some 8), some (some 9), some (some 10)]), .inl (0, 8), .inl (0, 16), .inl (0, 16), .inl (0, 16), .inr (10, [none, some (some 12)]), .inl (0, 200), .inr (8, [some (some 14), some (some 17), some (some 21), some (some 22), some (some 23), none, none, none, none, none, none, none, none]), .inr (3, [none, none, none, none, none, none, some (some 15), some (some 16)]), .inl (0, 16), .inl (0, 16), .inr (0, [some (some 18), some (some 19), some (some 20), none, none, none, none]), .inl (0, 160), .inl (0, 160), .inl (0, 40), .inl (0, 160), .inl (0, 8), .inl (0, 16), .inr (3, [none, none, none, none, none, none, some (some 25), some (some 26)]), .inl (0, 16), .inl (0, 16), .inr (3, [none, none, none, none, none, none, some (some 28), some (some 29)]), .inl (0, 16), .inl (0, 16), .inr (6, [none, some (some 31), some (some 32), some (some 33)]), .inl (0, 16), .inl (0, 16), .inl (0, 256), .inr (7, [none, none, none, some (some 35), some (some 36), some (some 37), none, some (some 38), some (some 39), some (some 40), some (some 41)]), .inl (0, 256), .inl (0, 256), .inl (0, 16), .inl (0, 256), .inl (0, 256), .inl (0, 256), .inl (0, 256)]
def LY_82 : Ly := [.inr (11, [some (some 1), some (some 6), some (some 11), some (some 13), some (some 24), some (some 27), some (some 30), some (some 34), some none, some none, some none, some none, none, none, none]), .inr (9, [none, none, none, none, some (some 2), some (some 3), some (some 4), some (some 5)]), .inl (0, 8), .inl (0, 16), .inl (0, 16), .inl (0, 16), .inr (9, [none, none, none, none, some (some 7), some (some 8), some (some 9), some (some 10)]), .inl (0, 8), .inl (0, 16), .inl (0, 16), .inl (0, 16), .inr (10, [none, some (some 12)]), .inl (0, 200), .inr (8, [some (some 14), some (some 17), some (some 21), some (some 22), some (some 23), none, none, none, none, none, none, none, none]), .inr (3, [none, none, none, none, none, none, some (some 15), some (some 16)]), .inl (0, 16), .inl (0, 16), .inr (0, [some (some 18), some (some 19), some (some 20), none, none, none, none]), .inl (0, 160), .inl (0, 160), .inl (0, 40), .inl (0, 160), .inl (0, 8), .inl (0, 16), .inr (3, [none, none, none, none, none, none, some (some 25), some (some 26)]), .inl (0, 16), .inl (0, 16), .inr (3, [none, none, none, none, none, none, some (some 28), some (some 29)]), .inl (0, 16), .inl (0, 16), .inr (6, [none, some (some 31), some (some 32), some (some 33)]), .inl (0, 16), .inl (0, 16), .inl (0, 256), .inr (7, [none, none, none, some (some 35), some (some 36), some (some 37), none, some (some 38), some (some 39), some (some 40), some (some 41)]), .inl (0, 256), .inl (0, 256), .inl (0, 16), .inl (0, 256), .inl (0, 256), .inl (0, 256), .inl (0, 256)]
def LY_83 : Ly := [.inr (11, [some (some 1), some (some 6), some (some 11), some (some 13), some (some 24), some (some 27), some (some 30), some (some 34), some none, some none, some none, some none, none, none, none]), .inr (9, [none, none, none, none, some (some 2), some (some 3), some (some 4), some (some 5)]), .inl (0, 8), .inl (0, 16), .inl (0, 16), .inl (0, 16), .inr (9, [none, none, none, none, some (some 7), some (some 8), some (some 9), some (some 10)]), .inl (0, 8), .inl (0, 16), .inl (0, 16), .inl (0, 16), .inr (10, [none, some (some 12)]), .inl (0, 200), .inr (8, [some (some 14), some (some 17), some (some 21), some (some 22), some (some 23), none, none, none, none, none, none, none, none]), .inr (3, [none, none, none, none, none, none, some (some 15), some (some 16)]), .inl (0, 16), .inl (0, 16), .inr (0, [some (some 18), some (some 19), some (some 20), none, none, none, none]), .inl (0, 160), .inl (0, 160), .inl (0, 40), .inl (0, 160), .inl (0, 8), .inl (0, 16), .inr (3, [none, none, none, none, none, none, some (some 25), some (some 26)]), .inl (0, 16), .inl (0, 16), .inr (3, [none, none, none, none, none, none, some (some 28), some (some 29)]), .inl (0, 16), .inl (0, 16), .inr (6, [none, some (some 31), some (some 32), some (some 33)]), .inl (0, 16), .inl (0, 16), .inl (0, 256), .inr (7, [none, none, none, some (some 35), some (some 36), some (some 37), none, some (some 38), some (some 39), some (some 40), some (some 41)]), .inl (0, 256), .inl (0, 256), .inl (0, 16), .inl (0, 256), .inl (0, 256), .inl (0, 256), .inl (0, 256), .inr (4, [some none, some none, some none])]
def LY_84 : Ly := [.inr (11, [some (some 1), some (some 6), some (some 11), some (some 13), some (some 24), some (some 27), some (some 30), some (some 34), some none, some none, some none, some none, none, none, none]), .inr (9, [none, none, none, none, some (some 2), some (some 3), some (some 4), some (some 5)]), .inl (0, 8), .inl (0, 16), .inl (0, 16), .inl (0, 16), .inr (9, [none, none, none, none, some (some 7), some (some 8), some (some 9), some (some 10)]), .inl (0, 8), .inl (0, 16), .inl (0, 16), .inl (0, 16), .inr (10, [none, some (some 12)]), .inl (0, 200), .inr (8, [some (some 14), some (some 17), some (some 21), some (some 22), some (some 23), none, none, none, none, none, none, none, none]), .inr (3, [none, none, none, none, none, none, some (some 15), some (some 16)]), .inl (0, 16), .inl (0, 16), .inr (0, [some (some 18), some (some 19), some (some 20), none, none, none, none]), .inl (0, 160), .inl (0, 160), .inl (0, 40), .inl (0, 160), .inl (0, 8), .inl (0, 16), .inr (3, [none, none, none, none, none, none, some (some 25), some (some 26)]), .inl (0, 16), .inl (0, 16), .inr (3, [none, none, none, none, none, none, some (some 28), some (some 29)]), .inl (0, 16), .inl (0, 16), .inr (6, [none, some (some 31), some (some 32), some (some 33)]), .inl (0, 16), .inl (0, 16), .inl (0, 256), .inr (7, [none, none, none, some (some 35), some (some 36), some (some 37), none, some (some 38), some (some 39), some (some 40), some (some 41)]), .inl (0, 256), .inl (0, 256), .inl (0, 16), .inl (0, 256), .inl (0, 256), .inl (0, 256), .inl (0, 256), .inr (4, [some none, some none, some none]), .inl (0, 8192)]
def LY_85 : Ly := [.inr (11, [some (some 1), some (some 6), some (some 11), some (some 13), some (some 24), some (some 27), some (some 30), some (some 34), some none, some none, some none, some none, none, none, none]), .inr (9, [none, none, none, none, some (some 2), some (some 3), some (some 4), some (some 5)]), .inl (0, 8), .inl (0, 16), .inl (0, 16), .inl (0, 16), .inr (9, [none, none, none, none, some (some 7), some (some 8), some (some 9), some (some 10)]), .inl (0, 8), .inl (0, 16), .inl (0, 16), .inl (0, 16), .inr (10, [none, some (some 12)]), .inl (0, 200), .inr (8, [some (some 14), some (some 17), some (some 21), some (some 22), some (some 23), none, none, none, none, none, none, none, none]), .inr (3, [none, none, none, none, none, none, some (some 15), some (some 16)]), .inl (0, 16), .inl (0, 16), .inr (0, [some (some 18), some (some 19), some (some 20), none, none, none, none]), .inl (0, 160), .inl (0, 160), .inl (0, 40), .inl (0, 160), .inl (0, 8), .inl (0, 16), .inr (3, [none, none, none, none, none, none, some (some 25), some (some 26)]), .inl (0, 16), .inl (0, 16), .inr (3, [none, none, none, none, none, none, some (some 28), some (some 29)]), .inl (0, 16), .inl (0, 16), .inr (6, [none, some (some 31), some (some 32), some (some 33)]), .inl (0, 16), .inl (0, 16), .inl (0, 256), .inr (7, [none, none, none, some (some 35), some (some 36), some (some 37), none, some (some 38), some (some 39), some (some 40), some (some 41)]), .inl (0, 256), .inl (0, 256), .inl (0, 16), .inl (0, 256), .inl (0, 256), .inl (0, 256), .inl (0, 256), .inr (4, [some (some 43), some none, some none]), .inl (0, 8192)]
def LY_86 : Ly := [.inr (11, [some (some 1), some (some 6), some (some 11), some (some 13), some (some 24), some (some 27), some (some 30), some (some 34), some none, some none, some none, some none, none, none, none]), .inr (9, [none, none, none, none, some (some 2), some (some 3), some (some 4), some (some 5)]), .inl (0, 8), .inl (0, 16), .inl (0, 16), .inl (0, 16), .inr (9, [none, none, none, none, some (some 7), some (some 8), some (some 9), some (some 10)]), .inl (0, 8), .inl (0, 16), .inl (0, 16), .inl (0, 16), .inr (10, [none, some (some 12)]), .inl (0, 200), .inr (8, [some (some 14), some (some 17), some (some 21), some (some 22), some (some 23), none, none, none, none, none, none, none, none]), .inr (3, [none, none, none, none, none, none, some (some 15), some (some 16)]), .inl (0, 16), .inl (0, 16), .inr (0, [some (some 18), some (some 19), some (some 20), none, none, none, none]), .inl (0, 160), .inl (0, 160), .inl (0, 40), .inl (0, 160), .inl (0, 8), .inl (0, 16), .inr (3, [none, none, none, none, none, none, some (some 25), some (some 26)]), .inl (0, 16), .inl (0, 16), .inr (3, [none, none, none, none, none, none, some (some 28), some (some 29)]), .inl (0, 16), .inl (0, 16), .inr (6, [none, some (some 31), some (some 32), some (some 33)]), .inl (0, 16), .inl (0, 16), .inl (0, 256), .inr (7, [none, none, none, some (some 35), some (some 36), some (some 37), none, some (some 38), some (some 39), some (some 40), some (some 41)]), .inl (0, 256), .inl (0, 256), .inl (0, 16), .inl (0, 256), .inl (0, 256), .inl (0, 256), .inl (0, 256), .inr (4, [some (some 43), some none, some none]), .inl (0, 8192), .inl (0, 256)]
def LY_87 : Ly := [.inr (11, [some (some 1), some (some 6), some (some 11), some (some 13), some (some 24), some (some 27), some (some 30), some (some 34), some none, some none, some none, some none, none, none, none]), .inr (9, [none, none, none, none, some (some 2), some (some 3), some (some 4), some (some 5)]), .inl (0, 8), .inl (0, 16), .inl (0, 16), .inl (0, 16), .inr (9, [none, none, none, none, some (some 7), some (some 8), some (some 9), some (some 10)]), .inl (0, 8), .inl (0, 16), .inl (0, 16), .inl (0, 16), .inr (10, [none, some (some 12)]), .inl (0, 200), .inr (8, [some (some 14), some (some 17), some (some 21), some (some 22), some (some 23), none, none, none, none, none, none, none, none]), .inr (3, [none, none, none, none, none, none, some (some 15), some (some 16)]), .inl (0, 16), .inl (0, 16), .inr (0, [some (some 18), some (some 19), some (some 20), none, none, none, none]), .inl (0, 160), .inl (0, 160), .inl (0, 40), .inl (0, 160), .inl (0, 8), .inl (0, 16), .inr (3, [none, none, none, none, none, none, some (some 25), some (some 26)]), .inl (0, 16), .inl (0, 16), .inr (3, [none, none, none, none, none, none, some (some 28), some (some 29)]), .inl (0, 16), .inl (0, 16), .inr (6, [none, some (some 31), some (some 32), some (some 33)]), .inl (0, 16), .inl (0, 16), .inl (0, 256), .inr (7, [none, none, none, some (some 35), some (some 36), some (some 37), none, some (some 38), some (some 39), some (some 40), some (some 41)]), .inl (0, 256), .inl (0, 256), .inl (0, 16), .inl (0, 256), .inl (0, 256), .inl (0, 256), .inl (0, 256), .inr (4, [some (some 43), some (some 44), some none]), .inl (0, 8192), .inl (0, 256)]
def LY_88 : Ly := [.inr (11, [some (some 1), some (some 6), some (some 11), some (some 13), some (some 24), some (some 27), some (some 30), some (some 34), some none, some none, some none, some none, none, none, none]), .inr (9, [none, none, none, none, some (some 2), some (some 3), some (some 4), some (some 5)]), .inl (0, 8), .inl (0, 16), .inl (0, 16), .inl (0, 16), .inr (9, [none, none, none, none, some (some 7), some (some 8), some (some 9), some (some 10)]), .inl (0, 8), .inl (0, 16), .inl (0, 16), .inl (0, 16), .inr (10, [none, some (some 12)]), .inl (0, 200), .inr (8, [some (some 14), some (some 17), some (some 21), some (some 22), some (some 23), none, none, none, none, none, none, none, none]), .inr (3, [none, none, none, none, none, none, some (some 15), some (some 16)]), .inl (0, 16), .inl (0, 16), .inr (0, [some (some 18), some (some 19), some (some 20), none, none, none, none]), .inl (0, 160), .inl (0, 160), .inl (0, 40), .inl (0, 160), .inl (0, 8), .inl (0, 16), .inr (3, [none, none, none, none, none, none, some (some 25), some (some 26)]), .inl (0, 16), .inl (0, 16), .inr (3, [none, none, none, none, none, none, some (some 28), some (some 29)]), .inl (0, 16), .inl (0, 16), .inr (6, [none, some (some 31), some (some 32), some (some 33)]), .inl (0, 16), .inl (0, 16), .inl (0, 256), .inr (7, [none, none, none, some (some 35), some (some 36), some (some 37), none, some (some 38), some (some 39), some (some 40), some (some 41)]), .inl (0, 256), .inl (0, 256), .inl (0, 16), .inl (0, 256), .inl (0, 256), .inl (0, 256), .inl (0, 256), .inr (4, [some (some 43), some (some 44), some none]), .inl (0, 8192), .inl (0, 256), .inl (0, 6)]
def LY_89 : Ly := [.inr (11, [some (some 1), some (some 6), some (some 11), some (some 13), some (some 24), some (some 27), some (some 30), some (some 34), some none, some none, some none, some none, none, none, none]), .inr (9, [none, none, none, none, some (some 2), some (some 3), some (some 4), some (some 5)]), .inl (0, 8), .inl (0, 16), .inl (0, 16), .inl (0, 16), .inr (9, [none, none, none, none, some (some 7), some (some 8), some (some 9), some (some 10)]), .inl (0, 8), .inl (0, 16), .inl (0, 16), .inl (0, 16), .inr (10, [none, some (some 12)]), .inl (0, 200), .inr (8, [some (some 14), some (some 17), some (some 21), some (some 22), some (some 23), none, none, none, none, none, none, none, none]), .inr (3, [none, none, none, none, none, none, some (some 15), some (some 16)]), .inl (0, 16), .inl (0, 16), .inr (0, [some (some 18), some (some 19), some (some 20), none, none, none, none]), .inl (0, 160), .inl (0, 160), .inl (0, 40), .inl (0, 160), .inl (0, 8), .inl (0, 16), .inr (3, [none, none, none, none, none, none, some (some 25), some (some 26)]), .inl (0, 16), .inl (0, 16), .inr (3, [none, none, none, none, none, none, some (some 28), some (some 29)]), .inl (0, 16), .inl (0, 16), .inr (6, [none, some (some 31), some (some 32), some (some 33)]), .inl (0, 16), .inl (0, 16), .inl (0, 256), .inr (7, [none, none, none, some (some 35), some (some 36), some (some 37), none, some (some 38), some (some 39), some (some 40), some (some 41)]), .inl (0, 256), .inl (0, 256), .inl (0, 16), .inl (0, 256), .inl (0, 256), .inl (0, 256), .inl (0, 256), .inr (4, [some (some 43), some (some 44), some (some 45)]), .inl (0, 8192), .inl (0, 256), .inl (0, 6)]
def LY_90 : Ly := [.inr (11, [some (some 1), some (some 6), some (some 11), some (some 13), some (some 24), some (some 27), some (some 30), some (some 34), some (some 42), some none, some none, some none, none, none, none]), .inr (9, [none, none, none, none, some (some 2), some (some 3), some (some 4), some (some 5)]), .inl (0, 8), .inl (0, 16), .inl (0, 16), .inl (0, 16), .inr (9, [none, none, none, none, some (some 7), some (some 8), some (some 9), some (some 10)]), .inl (0, 8), .inl (0, 16), .inl (0, 16), .inl (0, 16), .inr (10, [none, some (some 12)]), .inl (0, 200), .inr (8, [some (some 14), some (some 17), some (some 21), some (some 22), some (some 23), none, none, none, none, none, none, none, none]), .inr (3, [none, none, none, none, none, none, some (some 15), some (some 16)]), .inl (0, 16), .inl (0, 16), .inr (0, [some (some 18), some (some 19), some (some 20), none, none, none, none]), .inl (0, 160), .inl (0, 160), .inl (0, 40), .inl (0, 160), .inl (0, 8), .inl (0, 16), .inr (3, [none, none, none, none, none, none, some (some 25), some (some 26)]), .inl (0, 16), .inl (0, 16), .inr (3, [none, none, none, none, none, none, some (some 28), some (some 29)]), .inl (0, 16), .inl (0, 16), .inr (6, [none, some (some 31), some (some 32), some (some 33)]), .inl (0, 16), .inl (0, 16), .inl (0, 256), .inr (7, [none, none, none, some (some 35), some (some 36), some (some 37), none, some (some 38), some (some 39), some (some 40), some (some 41)]), .inl (0, 256), .inl (0, 256), .inl (0, 16), .inl (0, 256), .inl (0, 256), .inl (0, 256), .inl (0, 256), .inr (4, [some (some 43), some (some 44), some (some 45)]), .inl (0, 8192), .inl (0, 256), .inl (0, 6)]
def LY_91 : Ly := [.inr (11, [some (some 1), some (some 6), some (some 11), some (some 13), some (some 24), some (some 27), some (some 30), some (some 34), some (some 42), some none, some none, some none, none, none, none]), .inr (9, [none, none, none, none, some (some 2), some (some 3), some (some 4), some (some 5)]), .inl (0, 8), .inl (0, 16), .inl (0, 16), .inl (0, 16), .inr (9, [none, none, none, none, some (some 7), some (some 8), some (some 9), some (some 10)]), .inl (0, 8), .inl (0, 16), .inl (0, 16), .inl (0, 16), .inr (10, [none, some (some 12)]), .inl (0, 200), .inr (8, [some (some 14), some (some 17), some (some 21), some (some 22), some (some 23), none, none, none, none, none, none, none, none]), .inr (3, [none, none, none, none, none, none, some (some 15), some (some 16)]), .inl (0, 16), .inl (0, 16), .inr (0, [some (some 18), some (some 19), some (some 20), none, none, none, none]), .inl (0, 160), .inl (0, 160), .inl (0, 40), .inl (0, 160), .inl (0, 8), .inl (0, 16), .inr (3, [none, none, none, none, none, none, some (some 25), some (some 26)]), .inl (0, 16), .inl (0, 16), .inr (3, [none, none, none, none, none, none, some (some 28), some (some 29)]), .inl (0, 16), .inl (0, 16), .inr (6, [none, some (some 31), some (some 32), some (some 33)]), .inl (0, 16), .inl (0, 16), .inl (0, 256), .inr (7, [none, none, none, some (some 35), some (some 36), some (some 37), none, some (some 38), some (some 39), some (some 40), some (some 41)]), .inl (0, 256), .inl (0, 256), .inl (0, 16), .inl (0, 256), .inl (0, 256), .inl (0, 256), .inl (0, 256), .inr (4, [some (some 43), some (some 44), some (some 45)]), .inl (0, 8192), .inl (0, 256), .inl (0, 6), .inr (2, [some none, some none, none, none, some none])]
def LY_92 : Ly := [.inr (11, [some (some 1), some (some 6), some (some 11), some (some 13), some (some 24), some (some 27), some (some 30), some (some 34), some (some 42), some none, some none, some none, none, none, none]), .inr (9, [none, none, none, none, some (some 2), some (some 3), some (some 4), some (some 5)]), .inl (0, 8), .inl (0, 16), .inl (0, 16), .inl (0, 16), .inr (9, [none, none, none, none, some (some 7), some (some 8), some (some 9), some (some 10)]), .inl (0, 8), .inl (0, 16), .inl (0, 16), .inl (0, 16), .inr (10, [none, some (some 12)]), .inl (0, 200), .inr (8, [some (some 14), some (some 17), some (some 21), some (some 22), some (some 23), none, none, none, none, none, none, none, none]), .inr (3, [none, none, none, none, none, none, some (some 15), some (some 16)]), .inl (0, 16), .inl (0, 16), .inr (0, [some (some 18), some (some 19), some (some 20), none, none, none, none]), .inl (0, 160), .inl (0, 160), .inl (0, 40), .inl (0, 160), .inl (0, 8), .inl (0, 16), .inr (3, [none, none, none, none, none, none, some (some 25), some (some 26)]), .inl (0, 16), .inl (0, 16), .inr (3, [none, none, none, none, none, none, some (some 28), some (some 29)]), .inl (0, 16), .inl (0, 16), .inr (6, [none, some (some 31), some (some 32), some (some 33)]), .inl (0, 16), .inl (0, 16), .inl (0, 256), .inr (7, [none, none, none, some (some 35), some (some 36), some (some 37), none, some (some 38), some (some 39), some (some 40), some (some 41)]), .inl (0, 256), .inl (0, 256), .inl (0, 16), .inl (0, 256), .inl (0, 256), .inl (0, 256), .inl (0, 256), .inr (4, [some (some 43), some (some 44), some (some 45)]), .inl (0, 8192), .inl (0, 256), .inl (0, 6), .inr (2, [some none, some none, none, none, some none]), .inr (3, [none, none, none, none, none, none, some none, some none])]
def LY_93 : Ly := [.inr (11, [some (some 1), some (some 6), some (some 11), some (some 13), some (some 24), some (some 27), some (some 30), some (some 34), some (some 42), some none, some none, some none, none, none, none]), .inr (9, [none, none, none, none, some (some 2), some (some 3), some (some 4), some (some 5)]), .inl (0, 8), .inl (0, 16), .inl (0, 16), .inl (0, 16), .inr (9, [none, none, none, none, some (some 7), some (some 8), some (some 9), some (some 10)]), .inl (0, 8), .inl (0, 16), .inl (0, 16), .inl (0, 16), .inr (10, [none, some (some 12)]), .inl (0, 200), .inr (8, [some (some 14), some (some 17), some (some 21), some (some 22), some (some 23), none, none, none, none, none, none, none, none]), .inr (3, [none, none, none, none, none, none, some (some 15), some (some 16)]), .inl (0, 16), .inl (0, 16), .inr (0, [some (some 18), some (some 19), some (some 20), none, none, none, none]), .inl (0, 160), .inl (0, 160), .inl (0, 40), .inl (0, 160), .inl (0, 8), .inl (0, 16), .inr (3, [none, none, none, none, none, none, some (some 25), some (some 26)]), .inl (0, 16), .inl (0, 16), .inr (3, [none, none, none, none, none, none, some (some 28), some (some 29)]), .inl (0, 16), .inl (0, 16), .inr (6, [none, some (some 31), some (some 32), some (some 33)]), .inl (0, 16), .inl (0, 16), .inl (0, 256), .inr (7, [none, none, none, some (some 35), some (some 36), some (some 37), none, some (some 38), some (some 39), some (some 40), some (some 41)]), .inl (0, 256), .inl (0, 256), .inl (0, 16), .inl (0, 256), .inl (0, 256), .inl (0, 256), .inl (0, 256), .inr (4, [some (some 43), some (some 44), some (some 45)]), .inl (0, 8192), .inl (0, 256), .inl (0, 6), .inr (2, [some none, some none, none, none, some none]), .inr (3, [none, none, none, none, none, none, some none, some none]), .inl (0, 16)]
def LY_94 : Ly := [.inr (11, [some (some 1), some (some 6), some (some 11), some (some 13), some (some 24), some (some 27), some (some 30), some (some 34), some (some 42), some none, some none, some none, none, none, none]), .inr (9, [none, none, none, none, some (some 2), some (some 3), some (some 4), some (some 5)]), .inl (0, 8), .inl (0, 16), .inl (0, 16), .inl (0, 16), .inr (9, [none, none, none, none, some (some 7), some (some 8), some (some 9), some (some 10)]), .inl (0, 8), .inl (0, 16), .inl (0, 16), .inl (0, 16), .inr (10, [none, some (some 12)]), .inl (0, 200), .inr (8, [some (some 14), some (some 17), some (some 21), some (some 22), some (some 23), none, none, none, none, none, none, none, none]), .inr (3, [none, none, none, none, none, none, some (some 15), some (some 16)]), .inl (0, 16), .inl (0, 16), .inr (0, [some (some 18), some (some 19), some (some 20), none, none, none, none]), .inl (0, 160), .inl (0, 160), .inl (0, 40), .inl (0, 160), .inl (0, 8), .inl (0, 16), .inr (3, [none, none, none, none, none, none, some (some 25), some (some 26)]), .inl (0, 16), .inl (0, 16), .inr (3, [none, none, none, none, none, none, some (some 28), some (some 29)]), .inl (0, 16), .inl (0, 16), .inr (6, [none, some (some 31), some (some 32), some (some 33)]), .inl (0, 16), .inl (0, 16), .inl (0, 256), .inr (7, [none, none, none, some (some 35), some (some 36), some (some 37), none, some (some 38), some (some 39), some (some 40), some (some 41)]), .inl (0, 256), .inl (0, 256), .inl (0, 16), .inl (0, 256), .inl (0, 256), .inl (0, 256), .inl (0, 256), .inr (4, [some (some 43), some (some 44), some (some 45)]), .inl (0, 8192), .inl (0, 256), .inl (0, 6), .inr (2, [some none, some none, none, none, some none]), .inr (3, [none, none, none, none, none, none, some (some 48), some none]), .inl (0, 16)]
def LY_95 : Ly := [.inr (11, [some (some 1), some (some 6), some (some 11), some (some 13), some (some 24), some (some 27), some (some 30), some (some 34), some (some 42), some none, some none, some none, none, none, none]), .inr (9, [none, none, none, none, some (some 2), some (some 3), some (some 4), some (some 5)]), .inl (0, 8), .inl (0, 16), .inl (0, 16), .inl (0, 16), .inr (9, [none, none, none, none, some (some 7), some (some 8), some (some 9), some (some 10)]), .inl (0, 8), .inl (0, 16), .inl (0, 16), .inl (0, 16), .inr (10, [none, some (some 12)]), .inl (0, 200), .inr (8, [some (some 14), some (some 17), some (some 21), some (some 22), some (some 23), none, none, none, none, none, none, none, none]), .inr (3, [none, none, none, none, none, none, some (some 15), some (some 16)]), .inl (0, 16), .inl (0, 16), .inr (0, [some (some 18), some (some 19), some (some 20), none, none, none, none]), .inl (0, 160), .inl (0, 160), .inl (0, 40), .inl (0, 160), .inl (0, 8), .inl (0, 16), .inr (3, [none, none, none, none, none, none, some (some 25), some (some 26)]), .inl (0, 16), .inl (0, 16), .inr (3, [none, none, none, none, none, none, some (some 28), some (some 29)]), .inl (0, 16), .inl (0, 16), .inr (6, [none, some (some 31), some (some 32), some (some 33)]), .inl (0, 16), .inl (0, 16), .inl (0, 256), .inr (7, [none, none, none, some (some 35), some (some 36), some (some 37), none, some (some 38), some (some 39), some (some 40), some (some 41)]), .inl (0, 256), .inl (0, 256), .inl (0, 16), .inl (0, 256), .inl (0, 256), .inl (0, 256), .inl (0, 256), .inr (4, [some (some 43), some (some 44), some (some 45)]), .inl (0, 8192), .inl (0, 256), .inl (0, 6), .inr (2, [some none, some none, none, none, some none]), .inr (3, [none, none, none, none, none, none, some (some 48), some none]), .inl (0, 16), .inl (0, 16)]
def LY_96 : Ly := [.inr (11, [some (some 1), some (some 6), some (some 11), some (some 13), some (some 24), some (some 27), some (some 30), some (some 34), some (some 42), some none, some none, some none, none, none, none]), .inr (9, [none, none, none, none, some (some 2), some (some 3), some (some 4), some (some 5)]), .inl (0, 8), .inl (0, 16), .inl (0, 16), .inl (0, 16), .inr (9, [none, none, none, none, some (some 7), some (some 8), some (some 9), some (some 10)]), .inl (0, 8), .inl (0, 16), .inl (0, 16), .inl (0, 16), .inr (10, [none, some (some 12)]), .inl (0, 200), .inr (8, [some (some 14), some (some 17), some (some 21), some (some 22), some (some 23), none, none, none, none, none, none, none, none]), .inr (3, [none, none, none, none, none, none, some (some 15), some (some 16)]), .inl (0, 16), .inl (0, 16), .inr (0, [some (some 18), some (some 19), some (some 20), none, none, none, none]), .inl (0, 160), .inl (0, 160), .inl (0, 40), .inl (0, 160), .inl (0, 8), .inl (0, 16), .inr (3, [none, none, none, none, none, none, some (some 25), some (some 26)]), .inl (0, 16), .inl (0, 16), .inr (3, [none, none, none, none, none, none, some (some 28), some (some 29)]), .inl (0, 16), .inl (0, 16), .inr (6, [none, some (some 31), some (some 32), some (some 33)]), .inl (0, 16), .inl (0, 16), .inl (0, 256), .inr (7, [none, none, none, some (some 35), some (some 36), some (some 37), none, some (some 38), some (some 39), some (some 40), some (some 41)]), .inl (0, 256), .inl (0, 256), .inl (0, 16), .inl (0, 256), .inl (0, 256), .inl (0, 256), .inl (0, 256), .inr (4, [some (some 43), some (some 44), some (some 45)]), .inl (0, 8192), .inl (0, 256), .inl (0, 6), .inr (2, [some none, some none, none, none, some none]), .inr (3, [none, none, none, none, none, none, some (some 48), some (some 49)]), .inl (0, 16), .inl (0, 16)]
def LY_97 : Ly := [.inr (11, [some (some 1), some (some 6), some (some 11), some (some 13), some (some 24), some (some 27), some (some 30), some (some 34), some (some 42), some none, some none, some none, none, none, none]), .inr (9, [none, none, none, none, some (some 2), some (some 3), some (some 4), some (some 5)]), .inl (0, 8), .inl (0, 16), .inl (0, 16), .inl (0, 16), .inr (9, [none, none, none, none, some (some 7), some (some 8), some (some 9), some (some 10)]), .inl (0, 8), .inl (0, 16), .inl (0, 16), .inl (0, 16), .inr (10, [none, some (some 12)]), .inl (0, 200), .inr (8, [some (some 14), some (some 17), some (some 21), some (some 22), some (some 23), none, none, none, none, none, none, none, none]), .inr (3, [none, none, none, none, none, none, some (some 15), some (some 16)]), .inl (0, 16), .inl (0, 16), .inr (0, [some (some 18), some (some 19), some (some 20), none, none, none, none]), .inl (0, 160), .inl (0, 160), .inl (0, 40), .inl (0, 160), .inl (0, 8), .inl (0, 16), .inr (3, [none, none, none, none, none, none, some (some 25), some (some 26)]), .inl (0, 16), .inl (0, 16), .inr (3, [none, none, none, none, none, none, some (some 28), some (some 29)]), .inl (0, 16), .inl (0, 16), .inr (6, [none, some (some 31), some (some 32), some (some 33)]), .inl (0, 16), .inl (0, 16), .inl (0, 256), .inr (7, [none, none, none, some (some 35), some (some 36), some (some 37), none, some (some 38), some (some 39), some (some 40), some (some 41)]), .inl (0, 256), .inl (0, 256), .inl (0, 16), .inl (0, 256), .inl (0, 256), .inl (0, 256), .inl (0, 256), .inr (4, [some (some 43), some (some 44), some (some 45)]), .inl (0, 8192), .inl (0, 256), .inl (0, 6), .inr (2, [some (some 47), some none, none, none, some none]), .inr (3, [none, none, none, none, none, none, some (some 48), some (some 49)]), .inl (0, 16), .inl (0, 16)]
def LY_98 : Ly := [.inr (11, [some (some 1), some (some 6), some (some 11), some (some 13), some (some 24), some (some 27), some (some 30), some (some 34), some (some 42), some none, some none, some none, none, none, none]), .inr (9, [none, none, none, none, some (some 2), some (some 3), some (some 4), some (some 5)]), .inl (0, 8), .inl (0, 16), .inl (0, 16), .inl (0, 16), .inr (9, [none, none, none, none, some (some 7), some (some 8), some (some 9), some (some 10)]), .inl (0, 8), .inl (0, 16), .inl (0, 16), .inl (0, 16), .inr (10, [none, some (some 12)]), .inl (0, 200), .inr (8, [some (some 14), some (some 17), some (some 21), some (some 22), some (some 23), none, none, none, none, none, none, none, none]), .inr (3, [none, none, none, none, none, none, some (some 15), some (some 16)]), .inl (0, 16), .inl (0, 16), .inr (0, [some (some 18), some (some 19), some (some 20), none, none, none, none]), .inl (0, 160), .inl (0, 160), .inl (0, 40), .inl (0, 160), .inl (0, 8), .inl (0, 16), .inr (3, [none, none, none, none, none, none, some (some 25), some (some 26)]), .inl (0, 16), .inl (0, 16), .inr (3, [none, none, none, none, none, none, some (some 28), some (some 29)]), .inl (0, 16), .inl (0, 16), .inr (6, [none, some (some 31), some (some 32), some (some 33)]), .inl (0, 16), .inl (0, 16), .inl (0, 256), .inr (7, [none, none, none, some (some 35), some (some 36), some (some 37), none, some (some 38), some (some 39), some (some 40), some (some 41)]), .inl (0, 256), .inl (0, 256), .inl (0, 16), .inl (0, 256), .inl (0, 256), .inl (0, 256), .inl (0, 256), .inr (4, [some (some 43), some (some 44), some (some 45)]), .inl (0, 8192), .inl (0, 256), .inl (0, 6), .inr (2, [some (some 47), some none, none, none, some none]), .inr (3, [none, none, none, none, none, none, some (some 48), some (some 49)]), .inl (0, 16), .inl (0, 16), .inl (0, 16)]
def LY_99 : Ly := [.inr (11, [some (some 1), some (some 6), some (some 11), some (some 13), some (some 24), some (some 27), some (some 30), some (some 34), some (some 42), some none, some none, some none, none, none, none]), .inr (9, [none, none, none, none, some (some 2), some (some 3), some (some 4), some (some 5)]), .inl (0, 8), .inl (0, 16), .inl (0, 16), .inl (0, 16), .inr (9, [none, none, none, none, some (some 7), some (some 8), some (some 9), some (some 10)]), .inl (0, 8), .inl (0, 16), .inl (0, 16), .inl (0, 16), .inr (10, [none, some (some 12)]), .inl (0, 200), .inr (8, [some (some 14), some (some 17), some (some 21), some (some 22), some (some 23), none, none, none, none, none, none, none, none]), .inr (3, [none, none, none, none, none, none, some (some 15), some (some 16)]), .inl (0, 16), .inl (0, 16), .inr (0, [some (some 18), some (some 19), some (some 20), none, none, none, none]), .inl (0, 160), .inl (0, 160), .inl (0, 40), .inl (0, 160), .inl (0, 8), .inl (0, 16), .inr (3, [none, none, none, none, none, none, some (some 25), some (some 26)]), .inl (0, 16), .inl (0, 16), .inr (3, [none, none, none, none, none, none, some (some 28), some (some 29)]), .inl (0, 16), .inl (0, 16), .inr (6, [none, some (some 31), some (some 32), some (some 33)]), .inl (0, 16), .inl (0, 16), .inl (0, 256), .inr (7, [none, none, none, some (some 35), some (some 36), some (some 37), none, some (some 38), some (some 39), some (some 40), some (some 41)]), .inl (0, 256), .inl (0, 256), .inl (0, 16), .inl (0, 256), .inl (0, 256), .inl (0, 256), .inl (0, 256), .inr (4, [some (some 43), some (some 44), some (some 45)]), .inl (0, 8192), .inl (0, 256), .inl (0, 6), .inr (2, [some (some 47), some (some 50), none, none, some none]), .inr (3, [none, none, none, none, none, none, some (some 48), some (some 49)]), .inl (0, 16), .inl (0, 16), .inl (0, 16)]
def LY_100 : Ly := [.inr (11, [some (some 1), some (some 6), some (some 11), some (some 13), some (some 24), some (some 27), some (some 30), some (some 34), some (some 42), some none, some none, some none, none, none, none]), .inr (9, [none, none, none, none, some (some 2), some (some 3), some (some 4), some (some 5)]), .inl (0, 8), .inl (0, 16), .inl (0, 16), .inl (0, 16), .inr (9, [none, none, none, none, some (some 7), some (some 8), some (some 9), some (some 10)]), .inl (0, 8), .inl (0, 16), .inl (0, 16), .inl (0, 16), .inr (10, [none, some (some 12)]), .inl (0, 200), .inr (8, [some (some 14), some (some 17), some (some 21), some (some 22), some (some 23), none, none, none, none, none, none, none, none]), .inr (3, [none, none, none, none, none, none, some (some 15), some (some 16)]), .inl (0, 16), .inl (0, 16), .inr (0, [some (some 18), some (some 19), some (some 20), none, none, none, none]), .inl (0, 160), .inl (0, 160), .inl (0, 40), .inl (0, 160), .inl (0, 8), .inl (0, 16), .inr (3, [none, none, none, none, none, none, some (some 25), some (some 26)]), .inl (0, 16), .inl (0, 16), .inr (3, [none, none, none, none, none, none, some (some 28), some (some 29)]), .inl (0, 16), .inl (0, 16), .inr (6, [none, some (some 31), some (some 32), some (some 33)]), .inl (0, 16), .inl (0, 16), .inl (0, 256), .inr (7, [none, none, none, some (some 35), some (some 36), some (some 37), none, some (some 38), some (some 39), some (some 40), some (some 41)]), .inl (0, 256), .inl (0, 256), .inl (0, 16), .inl (0, 256), .inl (0, 256), .inl (0, 256), .inl (0, 256), .inr (4, [some (some 43), some (some 44), some (some 45)]), .inl (0, 8192), .inl (0, 256), .inl (0, 6), .inr (2, [some (some 47), some (some 50), none, none, some none]), .inr (3, [none, none, none, none, none, none, some (some 48), some (some 49)]), .inl (0, 16), .inl (0, 16), .inl (0, 16), .inl (0, 16)]
def LY_101 : Ly := [.inr (11, [some (some 1), some (some 6), some (some 11), some (some 13), some (some 24), some (some 27), some (some 30), some (some 34), some (some 42), some none, some none, some none, none, none, none]), .inr (9, [none, none, none, none, some (some 2), some (some 3), some (some 4), some (some 5)]), .inl (0, 8), .inl (0, 16), .inl (0, 16), .inl (0, 16), .inr (9, [none, none, none, none, some (some 7), some (some 8), some (some 9), some (some 10)]), .inl (0, 8), .inl (0, 16), .inl (0, 16), .inl (0, 16), .inr (10, [none, some (some 12)]), .inl (0, 200), .inr (8, [some (some 14), some (some 17), some (some 21), some (some 22), some (some 23), none, none, none, none, none, none, none, none]), .inr (3, [none, none, none, none, none, none, some (some 15), some (some 16)]), .inl (0, 16), .inl (0, 16), .inr (0, [some (some 18), some (some 19), some (some 20), none, none, none, none]), .inl (0, 160), .inl (0, 160), .inl (0, 40), .inl (0, 160), .inl (0, 8), .inl (0, 16), .inr (3, [none, none, none, none, none, none, some (some 25), some (some 26)]), .inl (0, 16), .inl (0, 16), .inr (3, [none, none, none, none, none, none, some (some 28), some (some 29)]), .inl (0, 16), .inl (0, 16), .inr (6, [none, some (some 31), some (some 32), some (some 33)]), .inl (0, 16), .inl (0, 16), .inl (0, 256), .inr (7, [none, none, none, some (some 35), some (some 36), some (some 37), none, some (some 38), some (some 39), some (some 40), some (some 41)]), .inl (0, 256), .inl (0, 256), .inl (0, 16), .inl (0, 256), .inl (0, 256), .inl (0, 256), .inl (0, 256), .inr (4, [some (some 43), some (some 44), some (some 45)]), .inl (0, 8192), .inl (0, 256), .inl (0, 6), .inr (2, [some (some 47), some (some 50), none, none, some (some 51)]), .inr (3, [none, none, none, none, none, none, some (some 48), some (some 49)]), .inl (0, 16), .inl (0, 16), .inl (0, 16), .inl (0, 16)]
def LY_102 : Ly := [.inr (11, [some (some 1), some (some 6), some (some 11), some (some 13), some (some 24), some (some 27), some (some 30), some (some 34), some (some 42), some (some 46), some none, some none, none, none, none]), .inr (9, [none, none, none, none, some (some 2), some (some 3), some (some 4), some (some 5)]), .inl (0, 8), .inl (0, 16), .inl (0, 16), .inl (0, 16), .inr (9, [none, none, none, none, some (some 7), some (some 8), some (some 9), some (some 10)]), .inl (0, 8), .inl (0, 16), .inl (0, 16), .inl (0, 16), .inr (10, [none, some (some 12)]), .inl (0, 200), .inr (8, [some (some 14), some (some 17), some (some 21), some (some 22), some (some 23), none, none, none, none, none, none, none, none]), .inr (3, [none, none, none, none, none, none, some (some 15), some (some 16)]), .inl (0, 16), .inl (0, 16), .inr (0, [some (some 18), some (some 19), some (some 20), none, none, none, none]), .inl (0, 160), .inl (0, 160), .inl (0, 40), .inl (0, 160), .inl (0, 8), .inl (0, 16), .inr (3, [none, none, none, none, none, none, some (some 25), some (some 26)]), .inl (0, 16), .inl (0, 16), .inr (3, [none, none, none, none, none, none, some (some 28), some (some 29)]), .inl (0, 16), .inl (0, 16), .inr (6, [none, some (some 31), some (some 32), some (some 33)]), .inl (0, 16), .inl (0, 16), .inl (0, 256), .inr (7, [none, none, none, some (some 35), some (some 36), some (some 37), none, some (some 38), some (some 39), some (some 40), some (some 41)]), .inl (0, 256), .inl (0, 256), .inl (0, 16), .inl (0, 256), .inl (0, 256), .inl (0, 256), .inl (0, 256), .inr (4, [some (some 43), some (some 44), some (some 45)]), .inl (0, 8192), .inl (0, 256), .inl (0, 6), .inr (2, [some (some 47), some (some 50), none, none, some (some 51)]), .inr (3, [none, none, none, none, none, none, some (some 48), some (some 49)]), .inl (0, 16), .inl (0, 16), .inl (0, 16), .inl (0, 16)]
def LY_103 : Ly := [.inr (11, [some (some 1), some (some 6), some (some 11), some (some 13), some (some 24), some (some 27), some (some 30), some (some 34), some (some 42), some (some 46), some none, some none, none, none, none]), .inr (9, [none, none, none, none, some (some 2), some (some 3), some (some 4), some (some 5)]), .inl (0, 8), .inl (0, 16), .inl (0, 16), .inl (0, 16), .inr (9, [none, none, none, none, some (some 7), some (some 8), some (some 9), some (some 10)]), .inl (0, 8), .inl (0, 16), .inl (0, 16), .inl (0, 16), .inr (10, [none, some (some 12)]), .inl (0, 200), .inr (8, [some (some 14), some (some 17), some (some 21), some (some 22), some (some 23), none, none, none, none, none, none, none, none]), .inr (3, [none, none, none, none, none, none, some (some 15), some (some 16)]), .inl (0, 16), .inl (0, 16), .inr (0, [some (some 18), some (some 19), some (some 20), none, none, none, none]), .inl (0, 160), .inl (0, 160), .inl (0, 40), .inl (0, 160), .inl (0, 8), .inl (0, 16), .inr (3, [none, none, none, none, none, none, some (some 25), some (some 26)]), .inl (0, 16), .inl (0, 16), .inr (3, [none, none, none, none, none, none, some (some 28), some (some 29)]), .inl (0, 16), .inl (0, 16), .inr (6, [none, some (some 31), some (some 32), some (some 33)]), .inl (0, 16), .inl (0, 16), .inl (0, 256), .inr (7, [none, none, none, some (some 35), some (some 36), some (some 37), none, some (some 38), some (some 39), some (some 40), some (some 41)]), .inl (0, 256), .inl (0, 256), .inl (0, 16), .inl (0, 256), .inl (0, 256), .inl (0, 256), .inl (0, 256), .inr (4, [some (some 43), some (some 44), some (some 45)]), .inl (0, 8192), .inl (0, 256), .inl (0, 6), .inr (2, [some (some 47), some (some 50), none, none, some (some 51)]), .inr (3, [none, none, none, none, none, none, some (some 48), some (some 49)]), .inl (0, 16), .inl (0, 16), .inl (0, 16), .inl (0, 16), .inr (1, [some none, some none, some none, none])]
def LY_104 : Ly := [.inr (11, [some (some 1), some (some 6), some (some 11), some (some 13), some (some 24), some (some 27), some (some 30), some (some 34), some (some 42), some (some 46), some none, some none, none, none, none]), .inr (9, [none, none, none, none, some (some 2), some (some 3), some (some 4), some (some 5)]), .inl (0, 8), .inl (0, 16), .inl (0, 16), .inl (0, 16), .inr (9, [none, none, none, none, some (some 7), some (some 8), some (some 9), some (some 10)]), .inl (0, 8), .inl (0, 16), .inl (0, 16), .inl (0, 16), .inr (10, [none, some (some 12)]), .inl (0, 200), .inr (8, [some (some 14), some (some 17), some (some 21), some (some 22), some (some 23), none, none, none, none, none, none, none, none]), .inr (3, [none, none, none, none, none, none, some (some 15), some (some 16)]), .inl (0, 16), .inl (0, 16), .inr (0, [some (some 18), some (some 19), some (some 20), none, none, none, none]), .inl (0, 160), .inl (0, 160), .inl (0, 40), .inl (0, 160), .inl (0, 8), .inl (0, 16), .inr (3, [none, none, none, none, none, none, some (some 25), some (some 26)]), .inl (0, 16), .inl (0, 16), .inr (3, [none, none, none, none, none, none, some (some 28), some (some 29)]), .inl (0, 16), .inl (0, 16), .inr (6, [none, some (some 31), some (some 32), some (some 33)]), .inl (0, 16), .inl (0, 16), .inl (0, 256), .inr (7, [none, none, none, some (some 35), some (some 36), some (some 37), none, some (some 38), some (some 39), some (some 40), some (some 41)]), .inl (0, 256), .inl (0, 256), .inl (0, 16), .inl (0, 256), .inl (0, 256), .inl (0, 256), .inl (0, 256), .inr (4, [some (some 43), some (some 44), some (some 45)]), .inl (0, 8192), .inl (0, 256), .inl (0, 6), .inr (2, [some (some 47), some (some 50), none, none, some (some 51)]), .inr (3, [none, none, none, none, none, none, some (some 48), some (some 49)]), .inl (0, 16), .inl (0, 16), .inl (0, 16), .inl (0, 16), .inr (1, [some none, some none, some none, none]), .inl (0, 16)]
def LY_105 : Ly := [.inr (11, [some (some 1), some (some 6), some (some 11), some (some 13), some (some 24), some (some 27), some (some 30), some (some 34), some (some 42), some (some 46), some none, some none, none, none, none]), .inr (9, [none, none, none, none, some (some 2), some (some 3), some (some 4), some (some 5)]), .inl (0, 8), .inl (0, 16), .inl (0, 16), .inl (0, 16), .inr (9, [none, none, none, none, some (some 7), some (some 8), some (some 9), some (some 10)]), .inl (0, 8), .inl (0, 16), .inl (0, 16), .inl (0, 16), .inr (10, [none, some (some 12)]), .inl (0, 200), .inr (8, [some (some 14), some (some 17), some (some 21), some (some 22), some (some 23), none, none, none, none, none, none, none, none]), .inr (3, [none, none, none, none, none, none, some (some 15), some (some 16)]), .inl (0, 16), .inl (0, 16), .inr (0, [some (some 18), some (some 19), some (some 20), none, none, none, none]), .inl (0, 160), .inl (0, 160), .inl (0, 40), .inl (0, 160), .inl (0, 8), .inl (0, 16), .inr (3, [none, none, none, none, none, none, some (some 25), some (some 26)]), .inl (0, 16), .inl (0, 16), .inr (3, [none, none, none, none, none, none, some (some 28), some (some 29)]), .inl (0, 16), .inl (0, 16), .inr (6, [none, some (some 31), some (some 32), some (some 33)]), .inl (0, 16), .inl (0, 16), .inl (0, 256), .inr (7, [none, none, none, some (some 35), some (some 36), some (some 37), none, some (some 38), some (some 39), some (some 40), some (some 41)]), .inl (0, 256), .inl (0, 256), .inl (0, 16), .inl (0, 256), .inl (0, 256), .inl (0, 256), .inl (0, 256), .inr (4, [some (some 43), some (some 44), some (some 45)]), .inl (0, 8192), .inl (0, 256), .inl (0, 6), .inr (2, [some (some 47), some (some 50), none, none, some (some 51)]), .inr (3, [none, none, none, none, none, none, some (some 48), some (some 49)]), .inl (0, 16), .inl (0, 16), .inl (0, 16), .inl (0, 16), .inr (1, [some (some 53), some none, some none, none]), .inl (0, 16)]
def LY_106 : Ly := [.inr (11, [some (some 1), some (some 6), some (some 11), some (some 13), some (some 24), some (some 27), some (some 30), some (some 34), some (some 42), some (some 46), some none, some none, none, none, none]), .inr (9, [none, none, none, none, some (some 2), some (some 3), some (some 4), some (some 5)]), .inl (0, 8), .inl (0, 16), .inl (0, 16), .inl (0, 16), .inr (9, [none, none, none, none, some (some 7), some (some 8), some (some 9), some (some 10)]), .inl (0, 8), .inl (0, 16), .inl (0, 16), .inl (0, 16), .inr (10, [none, some (some 12)]), .inl (0, 200), .inr (8, [some (some 14), some (some 17), some (some 21), some (some 22), some (some 23), none, none, none, none, none, none, none, none]), .inr (3, [none, none, none, none, none, none, some (some 15), some (some 16)]), .inl (0, 16), .inl (0, 16), .inr (0, [some (some 18), some (some 19), some (some 20), none, none, none, none]), .inl (0, 160), .inl (0, 160), .inl (0, 40), .inl (0, 160), .inl (0, 8), .inl (0, 16), .inr (3, [none, none, none, none, none, none, some (some 25), some (some 26)]), .inl (0, 16), .inl (0, 16), .inr (3, [none, none, none, none, none, none, some (some 28), some (some 29)]), .inl (0, 16), .inl (0, 16), .inr (6, [none, some (some 31), some (some 32), some (some 33)]), .inl (0, 16), .inl (0, 16), .inl (0, 256), .inr (7, [none, none, none, some (some 35), some (some 36), some (some 37), none, some (some 38), some (some 39), some (some 40), some (some 41)]), .inl (0, 256), .inl (0, 256), .inl (0, 16), .inl (0, 256), .inl (0, 256), .inl (0, 256), .inl (0, 256), .inr (4, [some (some 43), some (some 44), some (some 45)]), .inl (0, 8192), .inl (0, 256), .inl (0, 6), .inr (2, [some (some 47), some (some 50), none, none, some (some 51)]), .inr (3, [none, none, none, none, none, none, some (some 48), some (some 49)]), .inl (0, 16), .inl (0, 16), .inl (0, 16), .inl (0, 16), .inr (1, [some (some 53), some none, some none, none]), .inl (0, 16), .inl (0, 256)]
def LY_107 : Ly := [.inr (11, [some (some 1), some (some 6), some (some 11), some (some 13), some (some 24), some (some 27), some (some 30), some (some 34), some (some 42), some (some 46), some none, some none, none, none, none]), .inr (9, [none, none, none, none, some (some 2), some (some 3), some (some 4), some (some 5)]), .inl (0, 8), .inl (0, 16), .inl (0, 16), .inl (0, 16), .inr (9, [none, none, none, none, some (some 7), some (some 8), some (some 9), some (some 10)]), .inl (0, 8), .inl (0, 16), .inl (0, 16), .inl (0, 16), .inr (10, [none, some (some 12)]), .inl (0, 200), .inr (8, [some (some 14), some (some 17), some (some 21), some (some 22), some (some 23), none, none, none, none, none, none, none, none]), .inr (3, [none, none, none, none, none, none, some (some 15), some (some 16)]), .inl (0, 16), .inl (0, 16), .inr (0, [some (some 18), some (some 19), some (some 20), none, none, none, none]), .inl (0, 160), .inl (0, 160), .inl (0, 40), .inl (0, 160), .inl (0, 8), .inl (0, 16), .inr (3, [none, none, none, none, none, none, some (some 25), some (some 26)]), .inl (0, 16), .inl (0, 16), .inr (3, [none, none, none, none, none, none, some (some 28), some (some 29)]), .inl (0, 16), .inl (0, 16), .inr (6, [none, some (some 31), some (some 32), some (some 33)]), .inl (0, 16), .inl (0, 16), .inl (0, 256), .inr (7, [none, none, none, some (some 35), some (some 36), some (some 37), none, some (some 38), some (some 39), some (some 40), some (some 41)]), .inl (0, 256), .inl (0, 256), .inl (0, 16), .inl (0, 256), .inl (0, 256), .inl (0, 256), .inl (0, 256), .inr (4, [some (some 43), some (some 44), some (some 45)]), .inl (0, 8192), .inl (0, 256), .inl (0, 6), .inr (2, [some (some 47), some (some 50), none, none, some (some 51)]), .inr (3, [none, none, none, none, none, none, some (some 48), some (some 49)]), .inl (0, 16), .inl (0, 16), .inl (0, 16), .inl (0, 16), .inr (1, [some (some 53), some (some 54), some none, none]), .inl (0, 16), .inl (0, 256)]
def LY_108 : Ly := [.inr (11, [some (some 1), some (some 6), some (some 11), some (some 13), some (some 24), some (some 27), some (some 30), some (some 34), some (some 42), some (some 46), some none, some none, none, none, none]), .inr (9, [none, none, none, none, some (some 2), some (some 3), some (some 4), some (some 5)]), .inl (0, 8), .inl (0, 16), .inl (0, 16), .inl (0, 16), .inr (9, [none, none, none, none, some (some 7), some (some 8), some (some 9), some (some 10)]), .inl (0, 8), .inl (0, 16), .inl (0, 16), .inl (0, 16), .inr (10, [none, some (some 12)]), .inl (0, 200), .inr (8, [some (some 14), some (some 17), some (some 21), some (some 22), some (some 23), none, none, none, none, none, none, none, none]), .inr (3, [none, none, none, none, none, none, some (some 15), some (some 16)]), .inl (0, 16), .inl (0, 16), .inr (0, [some (some 18), some (some 19), some (some 20), none, none, none, none]), .inl (0, 160), .inl (0, 160), .inl (0, 40), .inl (0, 160), .inl (0, 8), .inl (0, 16), .inr (3, [none, none, none, none, none, none, some (some 25), some (some 26)]), .inl (0, 16), .inl (0, 16), .inr (3, [none, none, none, none, none, none, some (some 28), some (some 29)]), .inl (0, 16), .inl (0, 16), .inr (6, [none, some (some 31), some (some 32), some (some 33)]), .inl (0, 16), .inl (0, 16), .inl (0, 256), .inr (7, [none, none, none, some (some 35), some (some 36), some (some 37), none, some (some 38), some (some 39), some (some 40), some (some 41)]), .inl (0, 256), .inl (0, 256), .inl (0, 16), .inl (0, 256), .inl (0, 256), .inl (0, 256), .inl (0, 256), .inr (4, [some (some 43), some (some 44), some (some 45)]), .inl (0, 8192), .inl (0, 256), .inl (0, 6), .inr (2, [some (some 47), some (some 50), none, none, some (some 51)]), .inr (3, [none, none, none, none, none, none, some (some 48), some (some 49)]), .inl (0, 16), .inl (0, 16), .inl (0, 16), .inl (0, 16), .inr (1, [some (some 53), some (some 54), some none, none]), .inl (0, 16), .inl (0, 256), .inl (3, 300)]
def LY_109 : Ly := [.inr (11, [some (some 1), some (some 6), some (some 11), some (some 13), some (some 24), some (some 27), some (some 30), some (some 34), some (some 42), some (some 46), some none, some none, none, none, none]), .inr (9, [none, none, none, none, some (some 2), some (some 3), some (some 4), some (some 5)]), .inl (0, 8), .inl (0, 16), .inl (0, 16), .inl (0, 16), .inr (9, [none, none, none, none, some (some 7), some (some 8), some (some 9), some (some 10)]), .inl (0, 8), .inl (0, 16), .inl (0, 16), .inl (0, 16), .inr (10, [none, some (some 12)]), .inl (0, 200), .inr (8, [some (some 14), some (some 17), some (some 21), some (some 22), some (some 23), none, none, none, none, none, none, none, none]), .inr (3, [none, none, none, none, none, none, some (some 15), some (some 16)]), .inl (0, 16), .inl (0, 16), .inr (0, [some (some 18), some (some 19), some (some 20), none, none, none, none]), .inl (0, 160), .inl (0, 160), .inl (0, 40), .inl (0, 160), .inl (0, 8), .inl (0, 16), .inr (3, [none, none, none, none, none, none, some (some 25), some (some 26)]), .inl (0, 16), .inl (0, 16), .inr (3, [none, none, none, none, none, none, some (some 28), some (some 29)]), .inl (0, 16), .inl (0, 16), .inr (6, [none, some (some 31), some (some 32), some (some 33)]), .inl (0, 16), .inl (0, 16), .inl (0, 256), .inr (7, [none, none, none, some (some 35), some (some 36), some (some 37), none, some (some 38), some (some 39), some (some 40), some (some 41)]), .inl (0, 256), .inl (0, 256), .inl (0, 16), .inl (0, 256), .inl (0, 256), .inl (0, 256), .inl (0, 256), .inr (4, [some (some 43), some (some 44), some (some 45)]), .inl (0, 8192), .inl (0, 256), .inl (0, 6), .inr (2, [some (some 47), some (some 50), none, none, some (some 51)]), .inr (3, [none, none, none, none, none, none, some (some 48), some (some 49)]), .inl (0, 16), .inl (0, 16), .inl (0, 16), .inl (0, 16), .inr (1, [some (some 53), some (some 54), some (some 55), none]), .inl (0, 16), .inl (0, 256), .inl (3, 300)]
def LY_110 : Ly := [.inr (11, [some (some 1), some (some 6), some (some 11), some (some 13), some (some 24), some (some 27), some (some 30), some (some 34), some (some 42), some (some 46), some (some 52), some none, none, none, none]), .inr (9, [none, none, none, none, some (some 2), some (some 3), some (some 4), some (some 5)]), .inl (0, 8), .inl (0, 16), .inl (0, 16), .inl (0, 16), .inr (9, [none, none, none, none, some (some 7), some (some 8), some (some 9), some (some 10)]), .inl (0, 8), .inl (0, 16), .inl (0, 16), .inl (0, 16), .inr (10, [none, some (some 12)]), .inl (0, 200), .inr (8, [some (some 14), some (some 17), some (some 21), some (some 22), some (some 23), none, none, none, none, none, none, none, none]), .inr (3, [none, none, none, none, none, none, some (some 15), some (some 16)]), .inl (0, 16), .inl (0, 16), .inr (0, [some (some 18), some (some 19), some (some 20), none, none, none, none]), .inl (0, 160), .inl (0, 160), .inl (0, 40), .inl (0, 160), .inl (0, 8), .inl (0, 16), .inr (3, [none, none, none, none, none, none, some (some 25), some (some 26)]), .inl (0, 16), .inl (0, 16), .inr (3, [none, none, none, none, none, none, some (some 28), some (some 29)]), .inl (0, 16), .inl (0, 16), .inr (6, [none, some (some 31), some (some 32), some (some 33)]), .inl (0, 16), .inl (0, 16), .inl (0, 256), .inr (7, [none, none, none, some (some 35), some (some 36), some (some 37), none, some (some 38), some (some 39), some (some 40), some (some 41)]), .inl (0, 256), .inl (0, 256), .inl (0, 16), .inl (0, 256), .inl (0, 256), .inl (0, 256), .inl (0, 256), .inr (4, [some (some 43), some (some 44), some (some 45)]), .inl (0, 8192), .inl (0, 256), .inl (0, 6), .inr (2, [some (some 47), some (some 50), none, none, some (some 51)]), .inr (3, [none, none, none, none, none, none, some (some 48), some (some 49)]), .inl (0, 16), .inl (0, 16), .inl (0, 16), .inl (0, 16), .inr (1, [some (some 53), some (some 54), some (some 55), none]), .inl (0, 16), .inl (0, 256), .inl (3, 300)]
def LY_111 : Ly := [.inr (11, [some (some 1), some (some 6), some (some 11), some (some 13), some (some 24), some (some 27), some (some 30), some (some 34), some (some 42), some (some 46), some (some 52), some none, none, none, none]), .inr (9, [none, none, none, none, some (some 2), some (some 3), some (some 4), some (some 5)]), .inl (0, 8), .inl (0, 16), .inl (0, 16), .inl (0, 16), .inr (9, [none, none, none, none, some (some 7), some (some 8), some (some 9), some (some 10)]), .inl (0, 8), .inl (0, 16), .inl (0, 16), .inl (0, 16), .inr (10, [none, some (some 12)]), .inl (0, 200), .inr (8, [some (some 14), some (some 17), some (some 21), some (some 22), some (some 23), none, none, none, none, none, none, none, none]), .inr (3, [none, none, none, none, none, none, some (some 15), some (some 16)]), .inl (0, 16), .inl (0, 16), .inr (0, [some (some 18), some (some 19), some (some 20), none, none, none, none]), .inl (0, 160), .inl (0, 160), .inl (0, 40), .inl (0, 160), .inl (0, 8), .inl (0, 16), .inr (3, [none, none, none, none, none, none, some (some 25), some (some 26)]), .inl (0, 16), .inl (0, 16), .inr (3, [none, none, none, none, none, none, some (some 28), some (some 29)]), .inl (0, 16), .inl (0, 16), .inr (6, [none, some (some 31), some (some 32), some (some 33)]), .inl (0, 16), .inl (0, 16), .inl (0, 256), .inr (7, [none, none, none, some (some 35), some (some 36), some (some 37), none, some (some 38), some (some 39), some (some 40), some (some 41)]), .inl (0, 256), .inl (0, 256), .inl (0, 16), .inl (0, 256), .inl (0, 256), .inl (0, 256), .inl (0, 256), .inr (4, [some (some 43), some (some 44), some (some 45)]), .inl (0, 8192), .inl (0, 256), .inl (0, 6), .inr (2, [some (some 47), some (some 50), none, none, some (some 51)]), .inr (3, [none, none, none, none, none, none, some (some 48), some (some 49)]), .inl (0, 16), .inl (0, 16), .inl (0, 16), .inl (0, 16), .inr (1, [some (some 53), some (some 54), some (some 55), none]), .inl (0, 16), .inl (0, 256), .inl (3, 300), .inr (5, [none, some none])]
def LY_112 : Ly := [.inr (11, [some (some 1), some (some 6), some (some 11), some (some 13), some (some 24), some (some 27), some (some 30), some (some 34), some (some 42), some (some 46), some (some 52), some none, none, none, none]), .inr (9, [none, none, none, none, some (some 2), some (some 3), some (some 4), some (some 5)]), .inl (0, 8), .inl (0, 16), .inl (0, 16), .inl (0, 16), .inr (9, [none, none, none, none, some (some 7), some (some 8), some (some 9), some (some 10)]), .inl (0, 8), .inl (0, 16), .inl (0, 16), .inl (0, 16), .inr (10, [none, some (some 12)]), .inl (0, 200), .inr (8, [some (some 14), some (some 17), some (some 21), some (some 22), some (some 23), none, none, none, none, none, none, none, none]), .inr (3, [none, none, none, none, none, none, some (some 15), some (some 16)]), .inl (0, 16), .inl (0, 16), .inr (0, [some (some 18), some (some 19), some (some 20), none, none, none, none]), .inl (0, 160), .inl (0, 160), .inl (0, 40), .inl (0, 160), .inl (0, 8), .inl (0, 16), .inr (3, [none, none, none, none, none, none, some (some 25), some (some 26)]), .inl (0, 16), .inl (0, 16), .inr (3, [none, none, none, none, none, none, some (some 28), some (some 29)]), .inl (0, 16), .inl (0, 16), .inr (6, [none, some (some 31), some (some 32), some (some 33)]), .inl (0, 16), .inl (0, 16), .inl (0, 256), .inr (7, [none, none, none, some (some 35), some (some 36), some (some 37), none, some (some 38), some (some 39), some (some 40), some (some 41)]), .inl (0, 256), .inl (0, 256), .inl (0, 16), .inl (0, 256), .inl (0, 256), .inl (0, 256), .inl (0, 256), .inr (4, [some (some 43), some (some 44), some (some 45)]), .inl (0, 8192), .inl (0, 256), .inl (0, 6), .inr (2, [some (some 47), some (some 50), none, none, some (some 51)]), .inr (3, [none, none, none, none, none, none, some (some 48), some (some 49)]), .inl (0, 16), .inl (0, 16), .inl (0, 16), .inl (0, 16), .inr (1, [some (some 53), some (some 54), some (some 55), none]), .inl (0, 16), .inl (0, 256), .inl (3, 300), .inr (5, [none, some none]), .inl (0, 1024)]
def LY_113 : Ly := [.inr (11, [some (some 1), some (some 6), some (some 11), some (some 13), some (some 24), some (some 27), some (some 30), some (some 34), some (some 42), some (some 46), some (some 52), some none, none, none, none]), .inr (9, [none, none, none, none, some (some 2), some (some 3), some (some 4), some (some 5)]), .inl (0, 8), .inl (0, 16), .inl (0, 16), .inl (0, 16), .inr (9, [none, none, none, none, some (some 7), some (some 8), some (some 9), some (some 10)]), .inl (0, 8), .inl (0, 16), .inl (0, 16), .inl (0, 16), .inr (10, [none, some (some 12)]), .inl (0, 200), .inr (8, [some (some 14), some (some 17), some (some 21), some (some 22), some (some 23), none, none, none, none, none, none, none, none]), .inr (3, [none, none, none, none, none, none, some (some 15), some (some 16)]), .inl (0, 16), .inl (0, 16), .inr (0, [some (some 18), some (some 19), some (some 20), none, none, none, none]), .inl (0, 160), .inl (0, 160), .inl (0, 40), .inl (0, 160), .inl (0, 8), .inl (0, 16), .inr (3, [none, none, none, none, none, none, some (some 25), some (some 26)]), .inl (0, 16), .inl (0, 16), .inr (3, [none, none, none, none, none, none, some (some 28), some (some 29)]), .inl (0, 16), .inl (0, 16), .inr (6, [none, some (some 31), some (some 32), some (some 33)]), .inl (0, 16), .inl (0, 16), .inl (0, 256), .inr (7, [none, none, none, some (some 35), some (some 36), some (some 37), none, some (some 38), some (some 39), some (some 40), some (some 41)]), .inl (0, 256), .inl (0, 256), .inl (0, 16), .inl (0, 256), .inl (0, 256), .inl (0, 256), .inl (0, 256), .inr (4, [some (some 43), some (some 44), some (some 45)]), .inl (0, 8192), .inl (0, 256), .inl (0, 6), .inr (2, [some (some 47), some (some 50), none, none, some (some 51)]), .inr (3, [none, none, none, none, none, none, some (some 48), some (some 49)]), .inl (0, 16), .inl (0, 16), .inl (0, 16), .inl (0, 16), .inr (1, [some (some 53), some (some 54), some (some 55), none]), .inl (0, 16), .inl (0, 256), .inl (3, 300), .inr (5, [none, some (some 57)]), .inl (0, 1024)]
def LY_114 : Ly := LC ++ [.inr (12, [none, none, none, none, some none, some none, some none, some none, none, none, none, some none, none, none, none, none, none, some none, some none, none, none, none, none, none, none, none, none, none, none, none, some none, some none, some none, some none, some none, some none, some none, some none, some none, none, none, none, some none, some none, some none, some none, some none, some none, none, none, some none, some none, some none, some none, some none, some none, none, none, none, none, none, some none, some none, some none, some none])]
def LY_115 : Ly := LC ++ [.inr (12, [none, none, none, none, some none, some none, some none, some none, none, none, none, some none, none, none, none, none, none, some none, some none, none, none, none, none, none, none, none, none, none, none, none, some none, some none, some none, some none, some none, some none, some none, some none, some none, none, none, none, some none, some none, some none, some none, some none, some none, none, none, some none, some none, some none, some none, some none, some none, none, none, none, none, none, some none, some none, some none, some none]), .inl (0, 9)]
def LY_116 : Ly := LC ++ [.inr (12, [none, none, none, none, some (some 59), some none, some none, some none, none, none, none, some none, none, none, none, none, none, some none, some none, none, none, none, none, none, none, none, none, none, none, none, some none, some none, some none, some none, some none, some none, some none, some none, some none, none, none, none, some none, some none, some none, some none, some none, some none, none, none, some none, some none, some none, some none, some none, some none, none, none, none, none, none, some none, some none, some none, some none]), .inl (0, 9)]
def LY_117 : Ly := LC ++ [.inr (12, [none, none, none, none, some (some 59), some none, some none, some none, none, none, none, some none, none, none, none, none, none, some none, some none, none, none, none, none, none, none, none, none, none, none, none, some none, some none, some none, some none, some none, some none, some none, some none, some none, none, none, none, some none, some none, some none, some none, some none, some none, none, none, some none, some none, some none, some none, some none, some none, none, none, none, none, none, some none, some none, some none, some none]), .inl (0, 9), .inl (0, 16)]
def LY_118 : Ly := LC ++ [.inr (12, [none, none, none, none, some (some 59), some (some 60), some none, some none, none, none, none, some none, none, none, none, none, none, some none, some none, none, none, none, none, none, none, none, none, none, none, none, some none, some none, some none, some none, some none, some none, some none, some none, some none, none, none, none, some none, some none, some none, some none, some none, some none, none, none, some none, some none, some none, some none, some none, some none, none, none, none, none, none, some none, some none, some none, some none]), .inl (0, 9), .inl (0, 16)]
def LY_119 : Ly := LC ++ [.inr (12, [none, none, none, none, some (some 59), some (some 60), some none, some none, none, none, none, some none, none, none, none, none, none, some none, some none, none, none, none, none, none, none, none, none, none, none, none, some none, some none, some none, some none, some none, some none, some none, some none, some none, none, none, none, some none, some none, some none, some none, some none, some none, none, none, some none, some none, some none, some none, some none, some none, none, none, none, none, none, some none, some none, some none, some none]), .inl (0, 9), .inl (0, 16), .inl (1, 256)]
def LY_120 : Ly := LC ++ [.inr (12, [none, none, none, none, some (some 59), some (some 60), some (some 61), some none, none, none, none, some none, none, none, none, none, none, some none, some none, none, none, none, none, none, none, none, none, none, none, none, some none, some none, some none, some none, some none, some none, some none, some none, some none, none, none, none, some none, some none, some none, some none, some none, some none, none, none, some none, some none, some none, some none, some none, some none, none, none, none, none, none, some none, some none, some none, some none]), .inl (0, 9), .inl (0, 16), .inl (1, 256)]
def LY_121 : Ly := LC ++ [.inr (12, [none, none, none, none, some (some 59), some (some 60), some (some 61), some none, none, none, none, some none, none, none, none, none, none, some none, some none, none, none, none, none, none, none, none, none, none, none, none, some none, some none, some none, some none, some none, some none, some none, some none, some none, none, none, none, some none, some none, some none, some none, some none, some none, none, none, some none, some none, some none, some none, some none, some none, none, none, none, none, none, some none, some none, some none, some none]), .inl (0, 9), .inl (0, 16), .inl (1, 256), .inl (1, 256)]
def LY_122 : Ly := LC ++ [.inr (12, [none, none, none, none, some (some 59), some (some 60), some (some 61), some (some 62), none, none, none, some none, none, none, none, none, none, some none, some none, none, none, none, none, none, none, none, none, none, none, none, some none, some none, some none, some none, some none, some none, some none, some none, some none, none, none, none, some none, some none, some none, some none, some none, some none, none, none, some none, some none, some none, some none, some none, some none, none, none, none, none, none, some none, some none, some none, some none]), .inl (0, 9), .inl (0, 16), .inl (1, 256), .inl (1, 256)]
def LY_123 : Ly := LC ++ [.inr (12, [none, none, none, none, some (some 59), some (some 60), some (some 61), some (some 62), none, none, none, some none, none, none, none, none, none, some none, some none, none, none, none, none, none, none, none, none, none, none, none, some none, some none, some none, some none, some none, some none, some none, some none, some none, none, none, none, some none, some none, some none, some none, some none, some none, none, none, some none, some none, some none, some none, some none, some none, none, none, none, none, none, some none, some none, some none, some none]), .inl (0, 9), .inl (0, 16), .inl (1, 256), .inl (1, 256), .inl (0, 9)]
def LY_124 : Ly := LC ++ [.inr (12, [none, none, none, none, some (some 59), some (some 60), some (some 61), some (some 62), none, none, none, some (some 63), none, none, none, none, none, some none, some none, none, none, none, none, none, none, none, none, none, none, none, some none, some none, some none, some none, some none, some none, some none, some none, some none, none, none, none, some none, some none, some none, some none, some none, some none, none, none, some none, some none, some none, some none, some none, some none, none, none, none, none, none, some none, some none, some none, some none]), .inl (0, 9), .inl (0, 16), .inl (1, 256), .inl (1, 256), .inl (0, 9)]
def LY_125 : Ly := LC ++ [.inr (12, [none, none, none, none, some (some 59), some (some 60), some (some 61), some (some 62), none, none, none, some (some 63), none, none, none, none, none, some none, some none, none, none, none, none, none, none, none, none, none, none, none, some none, some none, some none, some none, some none, some none, some none, some none, some none, none, none, none, some none, some none, some none, some none, some none, some none, none, none, some none, some none, some none, some none, some none, some none, none, none, none, none, none, some none, some none, some none, some none]), .inl (0, 9), .inl (0, 16), .inl (1, 256), .inl (1, 256), .inl (0, 9), .inl (0, 256)]
def LY_126 : Ly := LC ++ [.inr (12, [none, none, none, none, some (some 59), some (some 60), some (some 61), some (some 62), none, none, none, some (some 63), none, none, none, none, none, some (some 64), some none, none, none, none, none, none, none, none, none, none, none, none, some none, some none, some none, some none, some none, some none, some none, some none, some none, none, none, none, some none, some none, some none, some none, some none, some none, none, none, some none, some none, some none, some none, some none, some none, none, none, none, none, none, some none, some none, some none, some none]), .inl (0, 9), .inl (0, 16), .inl (1, 256), .inl (1, 256), .inl (0, 9), .inl (0, 256)]
def LY_127 : Ly := LC ++ [.inr (12, [none, none, none, none, some (some 59), some (some 60), some (some 61), some (some 62), none, none, none, some (some 63), none, none, none, none, none, some (some 64), some none, none, none, none, none, none, none, none, none, none, none, none, some none, some none, some none, some none, some none, some none, some none, some none, some none, none, none, none, some none, some none, some none, some none, some none, some none, none, none, some none, some none, some none, some none, some none, some none, none, none, none, none, none, some none, some none, some none, some none]), .inl (0, 9), .inl (0, 16), .inl (1, 256), .inl (1, 256), .inl (0, 9), .inl (0, 256), .inl (2, 200)]
def LY_128 : Ly := LC ++ [.inr (12, [none, none, none, none, some (some 59), some (some 60), some (some 61), some (some 62), none, none, none, some (some 63), none, none, none, none, none, some (some 64), some (some 65), none, none, none, none, none, none, none, none, none, none, none, some none, some none, some none, some none, some none, some none, some none, some none, some none, none, none, none, some none, some none, some none, some none, some none, some none, none, none, some none, some none, some none, some none, some none, some none, none, none, none, none, none, some none, some none, some none, some none]), .inl (0, 9), .inl (0, 16), .inl (1, 256), .inl (1, 256), .inl (0, 9), .inl (0, 256), .inl (2, 200)]
def LY_129 : Ly := LC ++ [.inr (12, [none, none, none, none, some (some 59), some (some 60), some (some 61), some (some 62), none, none, none, some (some 63), none, none, none, none, none, some (some 64), some (some 65), none, none, none, none, none, none, none, none, none, none, none, some none, some none, some none, some none, some none, some none, some none, some none, some none, none, none, none, some none, some none, some none, some none, some none, some none, none, none, some none, some none, some none, some none, some none, some none, none, none, none, none, none, some none, some none, some none, some none]), .inl (0, 9), .inl (0, 16), .inl (1, 256), .inl (1, 256), .inl (0, 9), .inl (0, 256), .inl (2, 200), .inl (0, 180)]
def LY_130 : Ly := LC ++ [.inr (12, [none, none, none, none, some (some 59), some (some 60), some (some 61), some (some 62), none, none, none, some (some 63), none, none, none, none, none, some (some 64), some (some 65), none, none, none, none, none, none, none, none, none, none, none, some (some 66), some none, some none, some none, some none, some none, some none, some none, some none, none, none, none, some none, some none, some none, some none, some none, some none, none, none, some none, some none, some none, some none, some none, some none, none, none, none, none, none, some none, some none, some none, some none]), .inl (0, 9), .inl (0, 16), .inl (1, 256), .inl (1, 256), .inl (0, 9), .inl (0, 256), .inl (2, 200), .inl (0, 180)]
def LY_131 : Ly := LC ++ [.inr (12, [none, none, none, none, some (some 59), some (some 60), some (some 61), some (some 62), none, none, none, some (some 63), none, none, none, none, none, some (some 64), some (some 65), none, none, none, none, none, none, none, none, none, none, none, some (some 66), some none, some none, some none, some none, some none, some none, some none, some none, none, none, none, some none, some none, some none, some none, some none, some none, none, none, some none, some none, some none, some none, some none, some none, none, none, none, none, none, some none, some none, some none, some none]), .inl (0, 9), .inl (0, 16), .inl (1, 256), .inl (1, 256), .inl (0, 9), .inl (0, 256), .inl (2, 200), .inl (0, 180), .inl (0, 180)]
def LY_132 : Ly := LC ++ [.inr (12, [none, none, none, none, some (some 59), some (some 60), some (some 61), some (some 62), none, none, none, some (some 63), none, none, none, none, none, some (some 64), some (some 65), none, none, none, none, none, none, none, none, none, none, none, some (some 66), some (some 67), some none, some none, some none, some none, some none, some none, some none, none, none, none, some none, some none, some none, some none, some none, some none, none, none, some none, some none, some none, some none, some none, some none, none, none, none, none, none, some none, some none, some none, some none]), .inl (0, 9), .inl (0, 16), .inl (1, 256), .inl (1, 256), .inl (0, 9), .inl (0, 256), .inl (2, 200), .inl (0, 180), .inl (0, 180)]
def LY_133 : Ly := LC ++ [.inr (12, [none, none, none, none, some (some 59), some (some 60), some (some 61), some (some 62), none, none, none, some (some 63), none, none, none, none, none, some (some 64), some (some 65), none, none, none, none, none, none, none, none, none, none, none, some (some 66), some (some 67), some none, some none, some none, some none, some none, some none, some none, none, none, none, some none, some none, some none, some none, some none, some none, none, none, some none, some none, some none, some none, some none, some none, none, none, none, none, none, some none, some none, some none, some none]), .inl (0, 9), .inl (0, 16), .inl (1, 256), .inl (1, 256), .inl (0, 9), .inl (0, 256), .inl (2, 200), .inl (0, 180), .inl (0, 180), .inl (0, 180)]
def LY_134 : Ly := LC ++ [.inr (12, [none, none, none, none, some (some 59), some (some 60), some (some 61), some (some 62), none, none, none, some (some 63), none, none, none, none, none, some (some 64), some (some 65), none, none, none, none, none, none, none, none, none, none, none, some (some 66), some (some 67), some (some 68), some none, some none, some none, some none, some none, some none, none, none, none, some none, some none, some none, some none, some none, some none, none, none, some none, some none, some none, some none, some none, some none, none, none, none, none, none, some none, some none, some none, some none]), .inl (0, 9), .inl (0, 16), .inl (1, 256), .inl (1, 256), .inl (0, 9), .inl (0, 256), .inl (2, 200), .inl (0, 180), .inl (0, 180), .inl (0, 180)]
def LY_135 : Ly := LC ++ [.inr (12, [none, none, none, none, some (some 59), some (some 60), some (some 61), some (some 62), none, none, none, some (some 63), none, none, none, none, none, some (some 64), some (some 65), none, none, none, none, none, none, none, none, none, none, none, some (some 66), some (some 67), some (some 68), some none, some none, some none, some none, some none, some none, none, none, none, some none, some none, some none, some none, some none, some none, none, none, some none, some none, some none, some none, some none, some none, none, none, none, none, none, some none, some none, some none, some none]), .inl (0, 9), .inl (0, 16), .inl (1, 256), .inl (1, 256), .inl (0, 9), .inl (0, 256), .inl (2, 200), .inl (0, 180), .inl (0, 180), .inl (0, 180), .inl (1, 256)]
def LY_136 : Ly := LC ++ [.inr (12, [none, none, none, none, some (some 59), some (some 60), some (some 61), some (some 62), none, none, none, some (some 63), none, none, none, none, none, some (some 64), some (some 65), none, none, none, none, none, none, none, none, none, none, none, some (some 66), some (some 67), some (some 68), some (some 69), some none, some none, some none, some none, some none, none, none, none, some none, some none, some none, some none, some none, some none, none, none, some none, some none, some none, some none, some none, some none, none, none, none, none, none, some none, some none, some none, some none]), .inl (0, 9), .inl (0, 16), .inl (1, 256), .inl (1, 256), .inl (0, 9), .inl (0, 256), .inl (2, 200), .inl (0, 180), .inl (0, 180), .inl (0, 180), .inl (1, 256)]
def LY_137 : Ly := LC ++ [.inr (12, [none, none, none, none, some (some 59), some (some 60), some (some 61), some (some 62), none, none, none, some (some 63), none, none, none, none, none, some (some 64), some (some 65), none, none, none, none, none, none, none, none, none, none, none, some (some 66), some (some 67), some (some 68), some (some 69), some none, some none, some none, some none, some none, none, none, none, some none, some none, some none, some none, some none, some none, none, none, some none, some none, some none, some none, some none, some none, none, none, none, none, none, some none, some none, some none, some none]), .inl (0, 9), .inl (0, 16), .inl (1, 256), .inl (1, 256), .inl (0, 9), .inl (0, 256), .inl (2, 200), .inl (0, 180), .inl (0, 180), .inl (0, 180), .inl (1, 256), .inl (0, 180)]
def LY_138 : Ly := LC ++ [.inr (12, [none, none, none, none, some (some 59), some (some 60), some (some 61), some (some 62), none, none, none, some (some 63), none, none, none, none, none, some (some 64), some (some 65), none, none, none, none, none, none, none, none, none, none, none, some (some 66), some (some 67), some (some 68), some (some 69), some (some 70), some none, some none, some none, some none, none, none, none, some none, some none, some none, some none, some none, some none, none, none, some none, some none, some none, some none, some none, some none, none, none, none, none, none, some none, some none, some none, some none]), .inl (0, 9), .inl (0, 16), .inl (1, 256), .inl (1, 256), .inl (0, 9), .inl (0, 256), .inl (2, 200), .inl (0, 180), .inl (0, 180), .inl (0, 180), .inl (1, 256), .inl (0, 180)]
def LY_139 : Ly := LC ++ [.inr (12, [none, none, none, none, some (some 59), some (some 60), some (some 61), some (some 62), none, none, none, some (some 63), none, none, none, none, none, some (some 64), some (some 65), none, none, none, none, none, none, none, none, none, none, none, some (some 66), some (some 67), some (some 68), some (some 69), some (some 70), some none, some none, some none, some none, none, none, none, some none, some none, some none, some none, some none, some none, none, none, some none, some none, some none, some none, some none, some none, none, none, none, none, none, some none, some none, some none, some none]), .inl (0, 9), .inl (0, 16), .inl (1, 256), .inl (1, 256), .inl (0, 9), .inl (0, 256), .inl (2, 200), .inl (0, 180), .inl (0, 180), .inl (0, 180), .inl (1, 256), .inl (0, 180), .inl (0, 7)]
def LY_140 : Ly := LC ++ [.inr (12, [none, none, none, none, some (some 59), some (some 60), some (some 61), some (some 62), none, none, none, some (some 63), none, none, none, none, none, some (some 64), some (some 65), none, none, none, none, none, none, none, none, none, none, none, some (some 66), some (some 67), some (some 68), some (some 69), some (some 70), some (some 71), some none, some none, some none, none, none, none, some none, some none, some none, some none, some none, some none, none, none, some none, some none, some none, some none, some none, some none, none, none, none, none, none, some none, some none, some none, some none]), .inl (0, 9), .inl (0, 16), .inl (1, 256), .inl (1, 256), .inl (0, 9), .inl (0, 256), .inl (2, 200), .inl (0, 180), .inl (0, 180), .inl (0, 180), .inl (1, 256), .inl (0, 180), .inl (0, 7)]
def LY_141 : Ly := LC ++ [.inr (12, [none, none, none, none, some (some 59), some (some 60), some (some 61), some (some 62), none, none, none, some (some 63), none, none, none, none, none, some (some 64), some (some 65), none, none, none, none, none, none, none, none, none, none, none, some (some 66), some (some 67), some (some 68), some (some 69), some (some 70), some (some 71), some none, some none, some none, none, none, none, some none, some none, some none, some none, some none, some none, none, none, some none, some none, some none, some none, some none, some none, none, none, none, none, none, some none, some none, some none, some none]), .inl (0, 9), .inl (0, 16), .inl (1, 256), .inl (1, 256), .inl (0, 9), .inl (0, 256), .inl (2, 200), .inl (0, 180), .inl (0, 180), .inl (0, 180), .inl (1, 256), .inl (0, 180), .inl (0, 7), .inl (1, 256)]
def LY_142 : Ly := LC ++ [.inr (12, [none, none, none, none, some (some 59), some (some 60), some (some 61), some (some 62), none, none, none, some (some 63), none, none, none, none, none, some (some 64), some (some 65), none, none, none, none, none, none, none, none, none, none, none, some (some 66), some (some 67), some (some 68), some (some 69), some (some 70), some (some 71), some (some 72), some none, some none, none, none, none, some none, some none, some none, some none, some none, some none, none, none, some none, some none, some none, some none, some none, some none, none, none, none, none, none, some none, some none, some none, some none]), .inl (0, 9), .inl (0, 16), .inl (1, 256), .inl (1, 256), .inl (0, 9), .inl (0, 256), .inl (2, 200), .inl (0, 180), .inl (0, 180), .inl (0, 180), .inl (1, 256), .inl (0, 180), .inl (0, 7), .inl (1, 256)]
def LY_143 : Ly := LC ++ [.inr (12, [none, none, none, none, some (some 59), some (some 60), some (some 61), some (some 62), none, none, none, some (some 63), none, none, none, none, none, some (some 64), some (some 65), none, none, none, none, none, none, none, none, none, none, none, some (some 66), some (some 67), some (some 68), some (some 69), some (some 70), some (some 71), some (some 72), some none, some none, none, none, none, some none, some none, some none, some none, some none, some none, none, none, some none, some none, some none, some none, some none, some none, none, none, none, none, none, some none, some none, some none, some none]), .inl (0, 9), .inl (0, 16), .inl (1, 256), .inl (1, 256), .inl (0, 9), .inl (0, 256), .inl (2, 200), .inl (0, 180), .inl (0, 180), .inl (0, 180), .inl (1, 256), .inl (0, 180), .inl (0, 7), .inl (1, 256), .inl (0, 256)]
def LY_144 : Ly := LC ++ [.inr (12, [none, none, none, none, some (some 59), some (some 60), some (some 61), some (some 62), none, none, none, some (some 63), none, none, none, none, none, some (some 64), some (some 65), none, none, none, none, none, none, none, none, none, none, none, some (some 66), some (some 67), some (some 68), some (some 69), some (some 70), some (some 71), some (some 72), some (some 73), some none, none, none, none, some none, some none, some none, some none, some none, some none, none, none, some none, some none, some none, some none, some none, some none, none, none, none, none, none, some none, some none, some none, some none]), .inl (0, 9), .inl (0, 16), .inl (1, 256), .inl (1, 256), .inl (0, 9), .inl (0, 256), .inl (2, 200), .inl (0, 180), .inl (0, 180), .inl (0, 180), .inl (1, 256), .inl (0, 180), .inl (0, 7), .inl (1, 256), .inl (0, 256)]
def LY_145 : Ly := LC ++ [.inr (12, [none, none, none, none, some (some 59), some (some 60), some (some 61), some (some 62), none, none, none, some (some 63), none, none, none, none, none, some (some 64), some (some 65), none, none, none, none, none, none, none, none, none, none, none, some (some 66), some (some 67), some (some 68), some (some 69), some (some 70), some (some 71), some (some 72), some (some 73), some none, none, none, none, some none, some none, some none, some none, some none, some none, none, none, some none, some none, some none, some none, some none, some none, none, none, none, none, none, some none, some none, some none, some none]), .inl (0, 9), .inl (0, 16), .inl (1, 256), .inl (1, 256), .inl (0, 9), .inl (0, 256), .inl (2, 200), .inl (0, 180), .inl (0, 180), .inl (0, 180), .inl (1, 256), .inl (0, 180), .inl (0, 7), .inl (1, 256), .inl (0, 256), .inl (0, 256)]
def LY_146 : Ly := LC ++ [.inr (12, [none, none, none, none, some (some 59), some (some 60), some (some 61), some (some 62), none, none, none, some (some 63), none, none, none, none, none, some (some 64), some (some 65), none, none, none, none, none, none, none, none, none, none, none, some (some 66), some (some 67), some (some 68), some (some 69), some (some 70), some (some 71), some (some 72), some (some 73), some (some 74), none, none, none, some none, some none, some none, some none, some none, some none, none, none, some none, some none, some none, some none, some none, some none, none, none, none, none, none, some none, some none, some none, some none]), .inl (0, 9), .inl (0, 16), .inl (1, 256), .inl (1, 256), .inl (0, 9), .inl (0, 256), .inl (2, 200), .inl (0, 180), .inl (0, 180), .inl (0, 180), .inl (1, 256), .inl (0, 180), .inl (0, 7), .inl (1, 256), .inl (0, 256), .inl (0, 256)]
def LY_147 : Ly := LC ++ [.inr (12, [none, none, none, none, some (some 59), some (some 60), some (some 61), some (some 62), none, none, none, some (some 63), none, none, none, none, none, some (some 64), some (some 65), none, none, none, none, none, none, none, none, none, none, none, some (some 66), some (some 67), some (some 68), some (some 69), some (some 70), some (some 71), some (some 72), some (some 73), some (some 74), none, none, none, some none, some none, some none, some none, some none, some none, none, none, some none, some none, some none, some none, some none, some none, none, none, none, none, none, some none, some none, some none, some none]), .inl (0, 9), .inl (0, 16), .inl (1, 256), .inl (1, 256), .inl (0, 9), .inl (0, 256), .inl (2, 200), .inl (0, 180), .inl (0, 180), .inl (0, 180), .inl (1, 256), .inl (0, 180), .inl (0, 7), .inl (1, 256), .inl (0, 256), .inl (0, 256), .inl (0, 16384)]
def LY_148 : Ly := LC ++ [.inr (12, [none, none, none, none, some (some 59), some (some 60), some (some 61), some (some 62), none, none, none, some (some 63), none, none, none, none, none, some (some 64), some (some 65), none, none, none, none, none, none, none, none, none, none, none, some (some 66), some (some 67), some (some 68), some (some 69), some (some 70), some (some 71), some (some 72), some (some 73), some (some 74), none, none, none, some (some 75), some none, some none, some none, some none, some none, none, none, some none, some none, some none, some none, some none, some none, none, none, none, none, none, some none, some none, some none, some none]), .inl (0, 9), .inl (0, 16), .inl (1, 256), .inl (1, 256), .inl (0, 9), .inl (0, 256), .inl (2, 200), .inl (0, 180), .inl (0, 180), .inl (0, 180), .inl (1, 256), .inl (0, 180), .inl (0, 7), .inl (1, 256), .inl (0, 256), .inl (0, 256), .inl (0, 16384)]
def LY_149 : Ly := LC ++ [.inr (12, [none, none, none, none, some (some 59), some (some 60), some (some 61), some (some 62), none, none, none, some (some 63), none, none, none, none, none, some (some 64), some (some 65), none, none, none, none, none, none, none, none, none, none, none, some (some 66), some (some 67), some (some 68), some (some 69), some (some 70), some (some 71), some (some 72), some (some 73), some (some 74), none, none, none, some (some 75), some none, some none, some none, some none, some none, none, none, some none, some none, some none, some none, some none, some none, none, none, none, none, none, some none, some none, some none, some none]), .inl (0, 9), .inl (0, 16), .inl (1, 256), .inl (1, 256), .inl (0, 9), .inl (0, 256), .inl (2, 200), .inl (0, 180), .inl (0, 180), .inl (0, 180), .inl (1, 256), .inl (0, 180), .inl (0, 7), .inl (1, 256), .inl (0, 256), .inl (0, 256), .inl (0, 16384), .inl (0, 6)]
def LY_150 : Ly := LC ++ [.inr (12, [none, none, none, none, some (some 59), some (some 60), some (some 61), some (some 62), none, none, none, some (some 63), none, none, none, none, none, some (some 64), some (some 65), none, none, none, none, none, none, none, none, none, none, none, some (some 66), some (some 67), some (some 68), some (some 69), some (some 70), some (some 71), some (some 72), some (some 73), some (some 74), none, none, none, some (some 75), some (some 76), some none, some none, some none, some none, none, none, some none, some none, some none, some none, some none, some none, none, none, none, none, none, some none, some none, some none, some none]), .inl (0, 9), .inl (0, 16), .inl (1, 256), .inl (1, 256), .inl (0, 9), .inl (0, 256), .inl (2, 200), .inl (0, 180), .inl (0, 180), .inl (0, 180), .inl (1, 256), .inl (0, 180), .inl (0, 7), .inl (1, 256), .inl (0, 256), .inl (0, 256), .inl (0, 16384), .inl (0, 6)]
def LY_151 : Ly := LC ++ [.inr (12, [none, none, none, none, some (some 59), some (some 60), some (some 61), some (some 62), none, none, none, some (some 63), none, none, none, none, none, some (some 64), some (some 65), none, none, none, none, none, none, none, none, none, none, none, some (some 66), some (some 67), some (some 68), some (some 69), some (some 70), some (some 71), some (some 72), some (some 73), some (some 74), none, none, none, some (some 75), some (some 76), some none, some none, some none, some none, none, none, some none, some none, some none, some none, some none, some none, none, none, none, none, none, some none, some none, some none, some none]), .inl (0, 9), .inl (0, 16), .inl (1, 256), .inl (1, 256), .inl (0, 9), .inl (0, 256), .inl (2, 200), .inl (0, 180), .inl (0, 180), .inl (0, 180), .inl (1, 256), .inl (0, 180), .inl (0, 7), .inl (1, 256), .inl (0, 256), .inl (0, 256), .inl (0, 16384), .inl (0, 6), .inl (1, 256)]
def LY_152 : Ly := LC ++ [.inr (12, [none, none, none, none, some (some 59), some (some 60), some (some 61), some (some 62), none, none, none, some (some 63), none, none, none, none, none, some (some 64), some (some 65), none, none, none, none, none, none, none, none, none, none, none, some (some 66), some (some 67), some (some 68), some (some 69), some (some 70), some (some 71), some (some 72), some (some 73), some (some 74), none, none, none, some (some 75), some (some 76), some (some 77), some none, some none, some none, none, none, some none, some none, some none, some none, some none, some none, none, none, none, none, none, some none, some none, some none, some none]), .inl (0, 9), .inl (0, 16), .inl (1, 256), .inl (1, 256), .inl (0, 9), .inl (0, 256), .inl (2, 200), .inl (0, 180), .inl (0, 180), .inl (0, 180), .inl (1, 256), .inl (0, 180), .inl (0, 7), .inl (1, 256), .inl (0, 256), .inl (0, 256), .inl (0, 16384), .inl (0, 6), .inl (1, 256)]
def LY_153 : Ly := LC ++ [.inr (12, [none, none, none, none, some (some 59), some (some 60), some (some 61), some (some 62), none, none, none, some (some 63), none, none, none, none, none, some (some 64), some (some 65), none, none, none, none, none, none, none, none, none, none, none, some (some 66), some (some 67), some (some 68), some (some 69), some (some 70), some (some 71), some (some 72), some (some 73), some (some 74), none, none, none, some (some 75), some (some 76), some (some 77), some none, some none, some none, none, none, some none, some none, some none, some none, some none, some none, none, none, none, none, none, some none, some none, some none, some none]), .inl (0, 9), .inl (0, 16), .inl (1, 256), .inl (1, 256), .inl (0, 9), .inl (0, 256), .inl (2, 200), .inl (0, 180), .inl (0, 180), .inl (0, 180), .inl (1, 256), .inl (0, 180), .inl (0, 7), .inl (1, 256), .inl (0, 256), .inl (0, 256), .inl (0, 16384), .inl (0, 6), .inl (1, 256), .inl (1, 256)]
def LY_154 : Ly := LC ++ [.inr (12, [none, none, none, none, some (some 59), some (some 60), some (some 61), some (some 62), none, none, none, some (some 63), none, none, none, none, none, some (some 64), some (some 65), none, none, none, none, none, none, none, none, none, none, none, some (some 66), some (some 67), some (some 68), some (some 69), some (some 70), some (some 71), some (some 72), some (some 73), some (some 74), none, none, none, some (some 75), some (some 76), some (some 77), some (some 78), some none, some none, none, none, some none, some none, some none, some none, some none, some none, none, none, none, none, none, some none, some none, some none, some none]), .inl (0, 9), .inl (0, 16), .inl (1, 256), .inl (1, 256), .inl (0, 9), .inl (0, 256), .inl (2, 200), .inl (0, 180), .inl (0, 180), .inl (0, 180), .inl (1, 256), .inl (0, 180), .inl (0, 7), .inl (1, 256), .inl (0, 256), .inl (0, 256), .inl (0, 16384), .inl (0, 6), .inl (1, 256), .inl (1, 256)]
def LY_155 : Ly := LC ++ [.inr (12, [none, none, none, none, some (some 59), some (some 60), some (some 61), some (some 62), none, none, none, some (some 63), none, none, none, none, none, some (some 64), some (some 65), none, none, none, none, none, none, none, none, none, none, none, some (some 66), some (some 67), some (some 68), some (some 69), some (some 70), some (some 71), some (some 72), some (some 73), some (some 74), none, none, none, some (some 75), some (some 76), some (some 77), some (some 78), some none, some none, none, none, some none, some none, some none, some none, some none, some none, none, none, none, none, none, some none, some none, some none, some none]), .inl (0, 9), .inl (0, 16), .inl (1, 256), .inl (1, 256), .inl (0, 9), .inl (0, 256), .inl (2, 200), .inl (0, 180), .inl (0, 180), .inl (0, 180), .inl (1, 256), .inl (0, 180), .inl (0, 7), .inl (1, 256), .inl (0, 256), .inl (0, 256), .inl (0, 16384), .inl (0, 6), .inl (1, 256), .inl (1, 256), .inl (0, 64)]
def LY_156 : Ly := LC ++ [.inr (12, [none, none, none, none, some (some 59), some (some 60), some (some 61), some (some 62), none, none, none, some (some 63), none, none, none, none, none, some (some 64), some (some 65), none, none, none, none, none, none, none, none, none, none, none, some (some 66), some (some 67), some (some 68), some (some 69), some (some 70), some (some 71), some (some 72), some (some 73), some (some 74), none, none, none, some (some 75), some (some 76), some (some 77), some (some 78), some (some 79), some none, none, none, some none, some none, some none, some none, some none, some none, none, none, none, none, none, some none, some none, some none, some none]), .inl (0, 9), .inl (0, 16), .inl (1, 256), .inl (1, 256), .inl (0, 9), .inl (0, 256), .inl (2, 200), .inl (0, 180), .inl (0, 180), .inl (0, 180), .inl (1, 256), .inl (0, 180), .inl (0, 7), .inl (1, 256), .inl (0, 256), .inl (0, 256), .inl (0, 16384), .inl (0, 6), .inl (1, 256), .inl (1, 256), .inl (0, 64)]
def LY_157 : Ly := LC ++ [.inr (12, [none, none, none, none, some (some 59), some (some 60), some (some 61), some (some 62), none, none, none, some (some 63), none, none, none, none, none, some (some 64), some (some 65), none, none, none, none, none, none, none, none, none, none, none, some (some 66), some (some 67), some (some 68), some (some 69), some (some 70), some (some 71), some (some 72), some (some 73), some (some 74), none, none, none, some (some 75), some (some 76), some (some 77), some (some 78), some (some 79), some none, none, none, some none, some none, some none, some none, some none, some none, none, none, none, none, none, some none, some none, some none, some none]), .inl (0, 9), .inl (0, 16), .inl (1, 256), .inl (1, 256), .inl (0, 9), .inl (0, 256), .inl (2, 200), .inl (0, 180), .inl (0, 180), .inl (0, 180), .inl (1, 256), .inl (0, 180), .inl (0, 7), .inl (1, 256), .inl (0, 256), .inl (0, 256), .inl (0, 16384), .inl (0, 6), .inl (1, 256), .inl (1, 256), .inl (0, 64), .inl (3, 2200)]
def LY_158 : Ly := LC ++ [.inr (12, [none, none, none, none, some (some 59), some (some 60), some (some 61), some (some 62), none, none, none, some (some 63), none, none, none, none, none, some (some 64), some (some 65), none, none, none, none, none, none, none, none, none, none, none, some (some 66), some (some 67), some (some 68), some (some 69), some (some 70), some (some 71), some (some 72), some (some 73), some (some 74), none, none, none, some (some 75), some (some 76), some (some 77), some (some 78), some (some 79), some (some 80), none, none, some none, some none, some none, some none, some none, some none, none, none, none, none, none, some none, some none, some none, some none]), .inl (0, 9), .inl (0, 16), .inl (1, 256), .inl (1, 256), .inl (0, 9), .inl (0, 256), .inl (2, 200), .inl (0, 180), .inl (0, 180), .inl (0, 180), .inl (1, 256), .inl (0, 180), .inl (0, 7), .inl (1, 256), .inl (0, 256), .inl (0, 256), .inl (0, 16384), .inl (0, 6), .inl (1, 256), .inl (1, 256), .inl (0, 64), .inl (3, 2200)]
def LY_159 : Ly := LC ++ [.inr (12, [none, none, none, none, some (some 59), some (some 60), some (some 61), some (some 62), none, none, none, some (some 63), none, none, none, none, none, some (some 64), some (some 65), none, none, none, none, none, none, none, none, none, none, none, some (some 66), some (some 67), some (some 68), some (some 69), some (some 70), some (some 71), some (some 72), some (some 73), some (some 74), none, none, none, some (some 75), some (some 76), some (some 77), some (some 78), some (some 79), some (some 80), none, none, some none, some none, some none, some none, some none, some none, none, none, none, none, none, some none, some none, some none, some none]), .inl (0, 9), .inl (0, 16), .inl (1, 256), .inl (1, 256), .inl (0, 9), .inl (0, 256), .inl (2, 200), .inl (0, 180), .inl (0, 180), .inl (0, 180), .inl (1, 256), .inl (0, 180), .inl (0, 7), .inl (1, 256), .inl (0, 256), .inl (0, 256), .inl (0, 16384), .inl (0, 6), .inl (1, 256), .inl (1, 256), .inl (0, 64), .inl (3, 2200), .inl (0, 5)]
def LY_160 : Ly := LC ++ [.inr (12, [none, none, none, none, some (some 59), some (some 60), some (some 61), some (some 62), none, none, none, some (some 63), none, none, none, none, none, some (some 64), some (some 65), none, none, none, none, none, none, none, none, none, none, none, some (some 66), some (some 67), some (some 68), some (some 69), some (some 70), some (some 71), some (some 72), some (some 73), some (some 74), none, none, none, some (some 75), some (some 76), some (some 77), some (some 78), some (some 79), some (some 80), none, none, some (some 81), some none, some none, some none, some none, some none, none, none, none, none, none, some none, some none, some none, some none]), .inl (0, 9), .inl (0, 16), .inl (1, 256), .inl (1, 256), .inl (0, 9), .inl (0, 256), .inl (2, 200), .inl (0, 180), .inl (0, 180), .inl (0, 180), .inl (1, 256), .inl (0, 180), .inl (0, 7), .inl (1, 256), .inl (0, 256), .inl (0, 256), .inl (0, 16384), .inl (0, 6), .inl (1, 256), .inl (1, 256), .inl (0, 64), .inl (3, 2200), .inl (0, 5)]
def LY_161 : Ly := LC ++ [.inr (12, [none, none, none, none, some (some 59), some (some 60), some (some 61), some (some 62), none, none, none, some (some 63), none, none, none, none, none, some (some 64), some (some 65), none, none, none, none, none, none, none, none, none, none, none, some (some 66), some (some 67), some (some 68), some (some 69), some (some 70), some (some 71), some (some 72), some (some 73), some (some 74), none, none, none, some (some 75), some (some 76), some (some 77), some (some 78), some (some 79), some (some 80), none, none, some (some 81), some none, some none, some none, some none, some none, none, none, none, none, none, some none, some none, some none, some none]), .inl (0, 9), .inl (0, 16), .inl (1, 256), .inl (1, 256), .inl (0, 9), .inl (0, 256), .inl (2, 200), .inl (0, 180), .inl (0, 180), .inl (0, 180), .inl (1, 256), .inl (0, 180), .inl (0, 7), .inl (1, 256), .inl (0, 256), .inl (0, 256), .inl (0, 16384), .inl (0, 6), .inl (1, 256), .inl (1, 256), .inl (0, 64), .inl (3, 2200), .inl (0, 5), .inl (3, 5)]
def LY_162 : Ly := LC ++ [.inr (12, [none, none, none, none, some (some 59), some (some 60), some (some 61), some (some 62), none, none, none, some (some 63), none, none, none, none, none, some (some 64), some (some 65), none, none, none, none, none, none, none, none, none, none, none, some (some 66), some (some 67), some (some 68), some (some 69), some (some 70), some (some 71), some (some 72), some (some 73), some (some 74), none, none, none, some (some 75), some (some 76), some (some 77), some (some 78), some (some 79), some (some 80), none, none, some (some 81), some (some 82), some none, some none, some none, some none, none, none, none, none, none, some none, some none, some none, some none]), .inl (0, 9), .inl (0, 16), .inl (1, 256), .inl (1, 256), .inl (0, 9), .inl (0, 256), .inl (2, 200), .inl (0, 180), .inl (0, 180), .inl (0, 180), .inl (1, 256), .inl (0, 180), .inl (0, 7), .inl (1, 256), .inl (0, 256), .inl (0, 256), .inl (0, 16384), .inl (0, 6), .inl (1, 256), .inl (1, 256), .inl (0, 64), .inl (3, 2200), .inl (0, 5), .inl (3, 5)]
def LY_163 : Ly := LC ++ [.inr (12, [none, none, none, none, some (some 59), some (some 60), some (some 61), some (some 62), none, none, none, some (some 63), none, none, none, none, none, some (some 64), some (some 65), none, none, none, none, none, none, none, none, none, none, none, some (some 66), some (some 67), some (some 68), some (some 69), some (some 70), some (some 71), some (some 72), some (some 73), some (some 74), none, none, none, some (some 75), some (some 76), some (some 77), some (some 78), some (some 79), some (some 80), none, none, some (some 81), some (some 82), some none, some none, some none, some none, none, none, none, none, none, some none, some none, some none, some none]), .inl (0, 9), .inl (0, 16), .inl (1, 256), .inl (1, 256), .inl (0, 9), .inl (0, 256), .inl (2, 200), .inl (0, 180), .inl (0, 180), .inl (0, 180), .inl (1, 256), .inl (0, 180), .inl (0, 7), .inl (1, 256), .inl (0, 256), .inl (0, 256), .inl (0, 16384), .inl (0, 6), .inl (1, 256), .inl (1, 256), .inl (0, 64), .inl (3, 2200), .inl (0, 5), .inl (3, 5), .inl (3, 50)]
def LY_164 : Ly := LC ++ [.inr (12, [none, none, none, none, some (some 59), some (some 60), some (some 61), some (some 62), none, none, none, some (some 63), none, none, none, none, none, some (some 64), some (some 65), none, none, none, none, none, none, none, none, none, none, none, some (some 66), some (some 67), some (some 68), some (some 69), some (some 70), some (some 71), some (some 72), some (some 73), some (some 74), none, none, none, some (some 75), some (some 76), some (some 77), some (some 78), some (some 79), some (some 80), none, none, some (some 81), some (some 82), some (some 83), some none, some none, some none, none, none, none, none, none, some none, some none, some none, some none]), .inl (0, 9), .inl (0, 16), .inl (1, 256), .inl (1, 256), .inl (0, 9), .inl (0, 256), .inl (2, 200), .inl (0, 180), .inl (0, 180), .inl (0, 180), .inl (1, 256), .inl (0, 180), .inl (0, 7), .inl (1, 256), .inl (0, 256), .inl (0, 256), .inl (0, 16384), .inl (0, 6), .inl (1, 256), .inl (1, 256), .inl (0, 64), .inl (3, 2200), .inl (0, 5), .inl (3, 5), .inl (3, 50)]
def LY_165 : Ly := LC ++ [.inr (12, [none, none, none, none, some (some 59), some (some 60), some (some 61), some (some 62), none, none, none, some (some 63), none, none, none, none, none, some (some 64), some (some 65), none, none, none, none, none, none, none, none, none, none, none, some (some 66), some (some 67), some (some 68), some (some 69), some (some 70), some (some 71), some (some 72), some (some 73), some (some 74), none, none, none, some (some 75), some (some 76), some (some 77), some (some 78), some (some 79), some (some 80), none, none, some (some 81), some (some 82), some (some 83), some none, some none, some none, none, none, none, none, none, some none, some none, some none, some none]), .inl (0, 9), .inl (0, 16), .inl (1, 256), .inl (1, 256), .inl (0, 9), .inl (0, 256), .inl (2, 200), .inl (0, 180), .inl (0, 180), .inl (0, 180), .inl (1, 256), .inl (0, 180), .inl (0, 7), .inl (1, 256), .inl (0, 256), .inl (0, 256), .inl (0, 16384), .inl (0, 6), .inl (1, 256), .inl (1, 256), .inl (0, 64), .inl (3, 2200), .inl (0, 5), .inl (3, 5), .inl (3, 50), .inl (1, 49)]
def LY_166 : Ly := LC ++ [.inr (12, [none, none, none, none, some (some 59), some (some 60), some (some 61), some (some 62), none, none, none, some (some 63), none, none, none, none, none, some (some 64), some (some 65), none, none, none, none, none, none, none, none, none, none, none, some (some 66), some (some 67), some (some 68), some (some 69), some (some 70), some (some 71), some (some 72), some (some 73), some (some 74), none, none, none, some (some 75), some (some 76), some (some 77), some (some 78), some (some 79), some (some 80), none, none, some (some 81), some (some 82), some (some 83), some (some 84), some none, some none, none, none, none, none, none, some none, some none, some none, some none]), .inl (0, 9), .inl (0, 16), .inl (1, 256), .inl (1, 256), .inl (0, 9), .inl (0, 256), .inl (2, 200), .inl (0, 180), .inl (0, 180), .inl (0, 180), .inl (1, 256), .inl (0, 180), .inl (0, 7), .inl (1, 256), .inl (0, 256), .inl (0, 256), .inl (0, 16384), .inl (0, 6), .inl (1, 256), .inl (1, 256), .inl (0, 64), .inl (3, 2200), .inl (0, 5), .inl (3, 5), .inl (3, 50), .inl (1, 49)]
def LY_167 : Ly := LC ++ [.inr (12, [none, none, none, none, some (some 59), some (some 60), some (some 61), some (some 62), none, none, none, some (some 63), none, none, none, none, none, some (some 64), some (some 65), none, none, none, none, none, none, none, none, none, none, none, some (some 66), some (some 67), some (some 68), some (some 69), some (some 70), some (some 71), some (some 72), some (some 73), some (some 74), none, none, none, some (some 75), some (some 76), some (some 77), some (some 78), some (some 79), some (some 80), none, none, some (some 81), some (some 82), some (some 83), some (some 84), some none, some none, none, none, none, none, none, some none, some none, some none, some none]), .inl (0, 9), .inl (0, 16), .inl (1, 256), .inl (1, 256), .inl (0, 9), .inl (0, 256), .inl (2, 200), .inl (0, 180), .inl (0, 180), .inl (0, 180), .inl (1, 256), .inl (0, 180), .inl (0, 7), .inl (1, 256), .inl (0, 256), .inl (0, 256), .inl (0, 16384), .inl (0, 6), .inl (1, 256), .inl (1, 256), .inl (0, 64), .inl (3, 2200), .inl (0, 5), .inl (3, 5), .inl (3, 50), .inl (1, 49), .inl (0, 10)]
def LY_168 : Ly := LC ++ [.inr (12, [none, none, none, none, some (some 59), some (some 60), some (some 61), some (some 62), none, none, none, some (some 63), none, none, none, none, none, some (some 64), some (some 65), none, none, none, none, none, none, none, none, none, none, none, some (some 66), some (some 67), some (some 68), some (some 69), some (some 70), some (some 71), some (some 72), some (some 73), some (some 74), none, none, none, some (some 75), some (some 76), some (some 77), some (some 78), some (some 79), some (some 80), none, none, some (some 81), some (some 82), some (some 83), some (some 84), some (some 85), some none, none, none, none, none, none, some none, some none, some none, some none]), .inl (0, 9), .inl (0, 16), .inl (1, 256), .inl (1, 256), .inl (0, 9), .inl (0, 256), .inl (2, 200), .inl (0, 180), .inl (0, 180), .inl (0, 180), .inl (1, 256), .inl (0, 180), .inl (0, 7), .inl (1, 256), .inl (0, 256), .inl (0, 256), .inl (0, 16384), .inl (0, 6), .inl (1, 256), .inl (1, 256), .inl (0, 64), .inl (3, 2200), .inl (0, 5), .inl (3, 5), .inl (3, 50), .inl (1, 49), .inl (0, 10)]
def LY_169 : Ly := LC ++ [.inr (12, [none, none, none, none, some (some 59), some (some 60), some (some 61), some (some 62), none, none, none, some (some 63), none, none, none, none, none, some (some 64), some (some 65), none, none, none, none, none, none, none, none, none, none, none, some (some 66), some (some 67), some (some 68), some (some 69), some (some 70), some (some 71), some (some 72), some (some 73), some (some 74), none, none, none, some (some 75), some (some 76), some (some 77), some (some 78), some (some 79), some (some 80), none, none, some (some 81), some (some 82), some (some 83), some (some 84), some (some 85), some none, none, none, none, none, none, some none, some none, some none, some none]), .inl (0, 9), .inl (0, 16), .inl (1, 256), .inl (1, 256), .inl (0, 9), .inl (0, 256), .inl (2, 200), .inl (0, 180), .inl (0, 180), .inl (0, 180), .inl (1, 256), .inl (0, 180), .inl (0, 7), .inl (1, 256), .inl (0, 256), .inl (0, 256), .inl (0, 16384), .inl (0, 6), .inl (1, 256), .inl (1, 256), .inl (0, 64), .inl (3, 2200), .inl (0, 5), .inl (3, 5), .inl (3, 50), .inl (1, 49), .inl (0, 10), .inl (0, 1024)]
def LY_170 : Ly := LC ++ [.inr (12, [none, none, none, none, some (some 59), some (some 60), some (some 61), some (some 62), none, none, none, some (some 63), none, none, none, none, none, some (some 64), some (some 65), none, none, none, none, none, none, none, none, none, none, none, some (some 66), some (some 67), some (some 68), some (some 69), some (some 70), some (some 71), some (some 72), some (some 73), some (some 74), none, none, none, some (some 75), some (some 76), some (some 77), some (some 78), some (some 79), some (some 80), none, none, some (some 81), some (some 82), some (some 83), some (some 84), some (some 85), some (some 86), none, none, none, none, none, some none, some none, some none, some none]), .inl (0, 9), .inl (0, 16), .inl (1, 256), .inl (1, 256), .inl (0, 9), .inl (0, 256), .inl (2, 200), .inl (0, 180), .inl (0, 180), .inl (0, 180), .inl (1, 256), .inl (0, 180), .inl (0, 7), .inl (1, 256), .inl (0, 256), .inl (0, 256), .inl (0, 16384), .inl (0, 6), .inl (1, 256), .inl (1, 256), .inl (0, 64), .inl (3, 2200), .inl (0, 5), .inl (3, 5), .inl (3, 50), .inl (1, 49), .inl (0, 10), .inl (0, 1024)]
def LY_171 : Ly := LC ++ [.inr (12, [none, none, none, none, some (some 59), some (some 60), some (some 61), some (some 62), none, none, none, some (some 63), none, none, none, none, none, some (some 64), some (some 65), none, none, none, none, none, none, none, none, none, none, none, some (some 66), some (some 67), some (some 68), some (some 69), some (some 70), some (some 71), some (some 72), some (some 73), some (some 74), none, none, none, some (some 75), some (some 76), some (some 77), some (some 78), some (some 79), some (some 80), none, none, some (some 81), some (some 82), some (some 83), some (some 84), some (some 85), some (some 86), none, none, none, none, none, some none, some none, some none, some none]), .inl (0, 9), .inl (0, 16), .inl (1, 256), .inl (1, 256), .inl (0, 9), .inl (0, 256), .inl (2, 200), .inl (0, 180), .inl (0, 180), .inl (0, 180), .inl (1, 256), .inl (0, 180), .inl (0, 7), .inl (1, 256), .inl (0, 256), .inl (0, 256), .inl (0, 16384), .inl (0, 6), .inl (1, 256), .inl (1, 256), .inl (0, 64), .inl (3, 2200), .inl (0, 5), .inl (3, 5), .inl (3, 50), .inl (1, 49), .inl (0, 10), .inl (0, 1024), .inl (0, 9)]
def LY_172 : Ly := LC ++ [.inr (12, [none, none, none, none, some (some 59), some (some 60), some (some 61), some (some 62), none, none, none, some (some 63), none, none, none, none, none, some (some 64), some (some 65), none, none, none, none, none, none, none, none, none, none, none, some (some 66), some (some 67), some (some 68), some (some 69), some (some 70), some (some 71), some (some 72), some (some 73), some (some 74), none, none, none, some (some 75), some (some 76), some (some 77), some (some 78), some (some 79), some (some 80), none, none, some (some 81), some (some 82), some (some 83), some (some 84), some (some 85), some (some 86), none, none, none, none, none, some (some 87), some none, some none, some none]), .inl (0, 9), .inl (0, 16), .inl (1, 256), .inl (1, 256), .inl (0, 9), .inl (0, 256), .inl (2, 200), .inl (0, 180), .inl (0, 180), .inl (0, 180), .inl (1, 256), .inl (0, 180), .inl (0, 7), .inl (1, 256), .inl (0, 256), .inl (0, 256), .inl (0, 16384), .inl (0, 6), .inl (1, 256), .inl (1, 256), .inl (0, 64), .inl (3, 2200), .inl (0, 5), .inl (3, 5), .inl (3, 50), .inl (1, 49), .inl (0, 10), .inl (0, 1024), .inl (0, 9)]
def LY_173 : Ly := LC ++ [.inr (12, [none, none, none, none, some (some 59), some (some 60), some (some 61), some (some 62), none, none, none, some (some 63), none, none, none, none, none, some (some 64), some (some 65), none, none, none, none, none, none, none, none, none, none, none, some (some 66), some (some 67), some (some 68), some (some 69), some (some 70), some (some 71), some (some 72), some (some 73), some (some 74), none, none, none, some (some 75), some (some 76), some (some 77), some (some 78), some (some 79), some (some 80), none, none, some (some 81), some (some 82), some (some 83), some (some 84), some (some 85), some (some 86), none, none, none, none, none, some (some 87), some none, some none, some none]), .inl (0, 9), .inl (0, 16), .inl (1, 256), .inl (1, 256), .inl (0, 9), .inl (0, 256), .inl (2, 200), .inl (0, 180), .inl (0, 180), .inl (0, 180), .inl (1, 256), .inl (0, 180), .inl (0, 7), .inl (1, 256), .inl (0, 256), .inl (0, 256), .inl (0, 16384), .inl (0, 6), .inl (1, 256), .inl (1, 256), .inl (0, 64), .inl (3, 2200), .inl (0, 5), .inl (3, 5), .inl (3, 50), .inl (1, 49), .inl (0, 10), .inl (0, 1024), .inl (0, 9), .inl (0, 16)]
def LY_174 : Ly := LC ++ [.inr (12, [none, none, none, none, some (some 59), some (some 60), some (some 61), some (some 62), none, none, none, some (some 63), none, none, none, none, none, some (some 64), some (some 65), none, none, none, none, none, none, none, none, none, none, none, some (some 66), some (some 67), some (some 68), some (some 69), some (some 70), some (some 71), some (some 72), some (some 73), some (some 74), none, none, none, some (some 75), some (some 76), some (some 77), some (some 78), some (some 79), some (some 80), none, none, some (some 81), some (some 82), some (some 83), some (some 84), some (some 85), some (some 86), none, none, none, none, none, some (some 87), some (some 88), some none, some none]), .inl (0, 9), .inl (0, 16), .inl (1, 256), .inl (1, 256), .inl (0, 9), .inl (0, 256), .inl (2, 200), .inl (0, 180), .inl (0, 180), .inl (0, 180), .inl (1, 256), .inl (0, 180), .inl (0, 7), .inl (1, 256), .inl (0, 256), .inl (0, 256), .inl (0, 16384), .inl (0, 6), .inl (1, 256), .inl (1, 256), .inl (0, 64), .inl (3, 2200), .inl (0, 5), .inl (3, 5), .inl (3, 50), .inl (1, 49), .inl (0, 10), .inl (0, 1024), .inl (0, 9), .inl (0, 16)]
def LY_175 : Ly := LC ++ [.inr (12, [none, none, none, none, some (some 59), some (some 60), some (some 61), some (some 62), none, none, none, some (some 63), none, none, none, none, none, some (some 64), some (some 65), none, none, none, none, none, none, none, none, none, none, none, some (some 66), some (some 67), some (some 68), some (some 69), some (some 70), some (some 71), some (some 72), some (some 73), some (some 74), none, none, none, some (some 75), some (some 76), some (some 77), some (some 78), some (some 79), some (some 80), none, none, some (some 81), some (some 82), some (some 83), some (some 84), some (some 85), some (some 86), none, none, none, none, none, some (some 87), some (some 88), some none, some none]), .inl (0, 9), .inl (0, 16), .inl (1, 256), .inl (1, 256), .inl (0, 9), .inl (0, 256), .inl (2, 200), .inl (0, 180), .inl (0, 180), .inl (0, 180), .inl (1, 256), .inl (0, 180), .inl (0, 7), .inl (1, 256), .inl (0, 256), .inl (0, 256), .inl (0, 16384), .inl (0, 6), .inl (1, 256), .inl (1, 256), .inl (0, 64), .inl (3, 2200), .inl (0, 5), .inl (3, 5), .inl (3, 50), .inl (1, 49), .inl (0, 10), .inl (0, 1024), .inl (0, 9), .inl (0, 16), .inl (1, 256)]
def LY_176 : Ly := LC ++ [.inr (12, [none, none, none, none, some (some 59), some (some 60), some (some 61), some (some 62), none, none, none, some (some 63), none, none, none, none, none, some (some 64), some (some 65), none, none, none, none, none, none, none, none, none, none, none, some (some 66), some (some 67), some (some 68), some (some 69), some (some 70), some (some 71), some (some 72), some (some 73), some (some 74), none, none, none, some (some 75), some (some 76), some (some 77), some (some 78), some (some 79), some (some 80), none, none, some (some 81), some (some 82), some (some 83), some (some 84), some (some 85), some (some 86), none, none, none, none, none, some (some 87), some (some 88), some (some 89), some none]), .inl (0, 9), .inl (0, 16), .inl (1, 256), .inl (1, 256), .inl (0, 9), .inl (0, 256), .inl (2, 200), .inl (0, 180), .inl (0, 180), .inl (0, 180), .inl (1, 256), .inl (0, 180), .inl (0, 7), .inl (1, 256), .inl (0, 256), .inl (0, 256), .inl (0, 16384), .inl (0, 6), .inl (1, 256), .inl (1, 256), .inl (0, 64), .inl (3, 2200), .inl (0, 5), .inl (3, 5), .inl (3, 50), .inl (1, 49), .inl (0, 10), .inl (0, 1024), .inl (0, 9), .inl (0, 16), .inl (1, 256)]
def LY_177 : Ly := LC ++ [.inr (12, [none, none, none, none, some (some 59), some (some 60), some (some 61), some (some 62), none, none, none, some (some 63), none, none, none, none, none, some (some 64), some (some 65), none, none, none, none, none, none, none, none, none, none, none, some (some 66), some (some 67), some (some 68), some (some 69), some (some 70), some (some 71), some (some 72), some (some 73), some (some 74), none, none, none, some (some 75), some (some 76), some (some 77), some (some 78), some (some 79), some (some 80), none, none, some (some 81), some (some 82), some (some 83), some (some 84), some (some 85), some (some 86), none, none, none, none, none, some (some 87), some (some 88), some (some 89), some none]), .inl (0, 9), .inl (0, 16), .inl (1, 256), .inl (1, 256), .inl (0, 9), .inl (0, 256), .inl (2, 200), .inl (0, 180), .inl (0, 180), .inl (0, 180), .inl (1, 256), .inl (0, 180), .inl (0, 7), .inl (1, 256), .inl (0, 256), .inl (0, 256), .inl (0, 16384), .inl (0, 6), .inl (1, 256), .inl (1, 256), .inl (0, 64), .inl (3, 2200), .inl (0, 5), .inl (3, 5), .inl (3, 50), .inl (1, 49), .inl (0, 10), .inl (0, 1024), .inl (0, 9), .inl (0, 16), .inl (1, 256), .inl (1, 256)]
theorem kc_1 (st : Mm) (q0 : Unit × Mm) (hq0 : f_Tab_begin 1 2 3 4 5 16 (sZ (sZ (sZ (sZ (sI st 1 1 1) 2) 3) 4) 5) = some q0) : ConK 1 Y2 prog_11_method_1_code LY_1 1 st LY_9 q0.2 4 56 := by
  refine am_metK yf_2.2.2.2.2.2 rfl (fun G0 C0 K0 y0 l0 k0 n0 R0 d0 => ?_)
  have a0 : ∀ j, j < 2 → gad G0 j = gad G0 j := fun _ _ => rfl
  refine aw_aload_n C0 0 0 (j := 0) rfl rfl (by decide +kernel) rfl ?_
  refine aw_obj C0 (by rw [d0]; exact Nat.le_of_ble_eq_true rfl) (Nat.le_of_ble_eq_true rfl) tb_31 tb_24 tb_25 (by decide +kernel) rfl ?_
  refine aw_aload_n C0 0 0 (j := 0) rfl rfl (by decide +kernel) rfl ?_
  refine aw_iconst C0 (i0 := 1) (v := 1) (by decide) (by decide +kernel) rfl ?_
  refine aw_put C0 (k := 1) (fs := [none, none, none, none, some none, some none, some none, some none]) fc_9 (by rw [y0]; decide +kernel) rfl (by decide) rfl rfl tb_38 (by decide +kernel) rfl ?_
  refine aw_aload_n C0 0 0 (j := 0) rfl rfl (by decide +kernel) rfl ?_
  refine aw_bipush C0 (i0 := 8) (v := 8) (by decide) (by decide +kernel) rfl ?_
  refine aw_newarr C0 (fun ad => [(0, .ref (ad 1))]) (fun ad => [.ref (ad 1)]) (atype := .int) (N := 8) (Or.inl ⟨rfl, rfl⟩) (by rw [y0]; decide +kernel) ta_int (by decide) (by decide) (by decide) (by rw [k0, R0]; exact Nat.le_of_ble_eq_true rfl) (by rw [n0, R0]; exact Nat.le_of_ble_eq_true rfl) (fun a b h => by have z1 := h 1 (by rw [y0]; exact Nat.le_of_ble_eq_true rfl); exact ⟨by first | rfl | simp only [z1], by first | rfl | simp only [z1]⟩) (by decide +kernel) rfl (fun G1 S1 => ?_)
  have e1 : (gly G0).length = 2 := by rw [y0]; exact rfl
  rw [e1]
  have C1 := S1.cx C0 (by rw [k0, R0]; exact Nat.le_of_ble_eq_true rfl) (by rw [n0, R0]; exact Nat.le_of_ble_eq_true rfl)
  have K1 := S1.ck K0
  have y1 : gly G1 = LY_2 := by rw [S1.ly, y0]; decide +kernel
  have k1 : gk G1 = 1 := by rw [S1.k, k0]
  have n1 : gn G1 = 8 := by rw [S1.n, n0]
  have R1 := S1.R.trans R0
  have d1 := S1.d.trans d0
  have l1 := S1.nL.trans l0
  have a1 : ∀ j, j < 2 → gad G1 j = gad G0 j := fun j h => (S1.ad (by rw [y0]; exact Nat.lt_of_lt_of_le h (Nat.le_of_ble_eq_true rfl))).trans (a0 j h)
  show AW _ _ _ [(0, .ref (gad G1 1))] [.ref (gad G1 2), .ref (gad G1 1)]
  refine aw_putr C1 K1 (k := 4) (r0 := 2) fc_9 (hl := by rw [y1]; decide +kernel) (fs := [none, none, none, none, some none, some none, some none, some none]) (by decide +kernel) (by decide) rfl rfl ⟨ty9 4, by decide +kernel, fun _ => rfl, fun _ => rfl⟩ tb_46 LY_3 (by rw [y1]; decide +kernel) (by decide +kernel) rfl (fun G2 S2 b2 => ?_)
  rw [← b2]
  have C2 := S2.cx C1 (by rw [k1, R1]; exact Nat.le_of_ble_eq_true rfl) (by rw [n1, R1]; exact Nat.le_of_ble_eq_true rfl)
  have K2 := S2.ck K1
  have y2 : gly G2 = LY_3 := S2.ly
  have k2 : gk G2 = 1 := by rw [S2.k, k1]
  have n2 : gn G2 = 8 := by rw [S2.n, n1]
  have R2 := S2.R.trans R1
  have d2 := S2.d.trans d1
  have l2 := S2.nL.trans l1
  have a2 : ∀ j, j < 2 → gad G2 j = gad G0 j := fun j h => (S2.ad (by rw [y1]; exact Nat.lt_of_lt_of_le h (Nat.le_of_ble_eq_true rfl))).trans (a1 j h)
  refine aw_aload_n C2 0 0 (j := 0) rfl rfl (by decide +kernel) rfl ?_
  refine aw_bipush C2 (i0 := 16) (v := 16) (by decide) (by decide +kernel) rfl ?_
  refine aw_newarr C2 (fun ad => [(0, .ref (ad 1))]) (fun ad => [.ref (ad 1)]) (atype := .int) (N := 16) (Or.inl ⟨rfl, rfl⟩) (by rw [y2]; decide +kernel) ta_int (by decide) (by decide) (by decide) (by rw [k2, R2]; exact Nat.le_of_ble_eq_true rfl) (by rw [n2, R2]; exact Nat.le_of_ble_eq_true rfl) (fun a b h => by have z1 := h 1 (by rw [y2]; exact Nat.le_of_ble_eq_true rfl); exact ⟨by first | rfl | simp only [z1], by first | rfl | simp only [z1]⟩) (by decide +kernel) rfl (fun G3 S3 => ?_)
  have e3 : (gly G2).length = 3 := by rw [y2]; exact rfl
  rw [e3]
  have C3 := S3.cx C2 (by rw [k2, R2]; exact Nat.le_of_ble_eq_true rfl) (by rw [n2, R2]; exact Nat.le_of_ble_eq_true rfl)
  have K3 := S3.ck K2
  have y3 : gly G3 = LY_4 := by rw [S3.ly, y2]; decide +kernel
  have k3 : gk G3 = 2 := by rw [S3.k, k2]
  have n3 : gn G3 = 24 := by rw [S3.n, n2]
  have R3 := S3.R.trans R2
  have d3 := S3.d.trans d2
  have l3 := S3.nL.trans l2
  have a3 : ∀ j, j < 2 → gad G3 j = gad G0 j := fun j h => (S3.ad (by rw [y2]; exact Nat.lt_of_lt_of_le h (Nat.le_of_ble_eq_true rfl))).trans (a2 j h)
  show AW _ _ _ [(0, .ref (gad G3 1))] [.ref (gad G3 3), .ref (gad G3 1)]
  refine aw_putr C3 K3 (k := 5) (r0 := 3) fc_9 (hl := by rw [y3]; decide +kernel) (fs := [none, none, none, none, some (some 2), some none, some none, some none]) (by decide +kernel) (by decide) rfl rfl ⟨ty9 5, by decide +kernel, fun _ => rfl, fun _ => rfl⟩ tb_49 LY_5 (by rw [y3]; decide +kernel) (by decide +kernel) rfl (fun G4 S4 b4 => ?_)
  rw [← b4]
  have C4 := S4.cx C3 (by rw [k3, R3]; exact Nat.le_of_ble_eq_true rfl) (by rw [n3, R3]; exact Nat.le_of_ble_eq_true rfl)
  have K4 := S4.ck K3
  have y4 : gly G4 = LY_5 := S4.ly
  have k4 : gk G4 = 2 := by rw [S4.k, k3]
  have n4 : gn G4 = 24 := by rw [S4.n, n3]
  have R4 := S4.R.trans R3
  have d4 := S4.d.trans d3
  have l4 := S4.nL.trans l3
  have a4 : ∀ j, j < 2 → gad G4 j = gad G0 j := fun j h => (S4.ad (by rw [y3]; exact Nat.lt_of_lt_of_le h (Nat.le_of_ble_eq_true rfl))).trans (a3 j h)
  refine aw_aload_n C4 0 0 (j := 0) rfl rfl (by decide +kernel) rfl ?_
  refine aw_bipush C4 (i0 := 16) (v := 16) (by decide) (by decide +kernel) rfl ?_
  refine aw_newarr C4 (fun ad => [(0, .ref (ad 1))]) (fun ad => [.ref (ad 1)]) (atype := .int) (N := 16) (Or.inl ⟨rfl, rfl⟩) (by rw [y4]; decide +kernel) ta_int (by decide) (by decide) (by decide) (by rw [k4, R4]; exact Nat.le_of_ble_eq_true rfl) (by rw [n4, R4]; exact Nat.le_of_ble_eq_true rfl) (fun a b h => by have z1 := h 1 (by rw [y4]; exact Nat.le_of_ble_eq_true rfl); exact ⟨by first | rfl | simp only [z1], by first | rfl | simp only [z1]⟩) (by decide +kernel) rfl (fun G5 S5 => ?_)
  have e5 : (gly G4).length = 4 := by rw [y4]; exact rfl
  rw [e5]
  have C5 := S5.cx C4 (by rw [k4, R4]; exact Nat.le_of_ble_eq_true rfl) (by rw [n4, R4]; exact Nat.le_of_ble_eq_true rfl)
  have K5 := S5.ck K4
  have y5 : gly G5 = LY_6 := by rw [S5.ly, y4]; decide +kernel
  have k5 : gk G5 = 3 := by rw [S5.k, k4]
  have n5 : gn G5 = 40 := by rw [S5.n, n4]
  have R5 := S5.R.trans R4
  have d5 := S5.d.trans d4
  have l5 := S5.nL.trans l4
  have a5 : ∀ j, j < 2 → gad G5 j = gad G0 j := fun j h => (S5.ad (by rw [y4]; exact Nat.lt_of_lt_of_le h (Nat.le_of_ble_eq_true rfl))).trans (a4 j h)
  show AW _ _ _ [(0, .ref (gad G5 1))] [.ref (gad G5 4), .ref (gad G5 1)]
  refine aw_putr C5 K5 (k := 6) (r0 := 4) fc_9 (hl := by rw [y5]; decide +kernel) (fs := [none, none, none, none, some (some 2), some (some 3), some none, some none]) (by decide +kernel) (by decide) rfl rfl ⟨ty9 6, by decide +kernel, fun _ => rfl, fun _ => rfl⟩ tb_52 LY_7 (by rw [y5]; decide +kernel) (by decide +kernel) rfl (fun G6 S6 b6 => ?_)
  rw [← b6]
  have C6 := S6.cx C5 (by rw [k5, R5]; exact Nat.le_of_ble_eq_true rfl) (by rw [n5, R5]; exact Nat.le_of_ble_eq_true rfl)
  have K6 := S6.ck K5
  have y6 : gly G6 = LY_7 := S6.ly
  have k6 : gk G6 = 3 := by rw [S6.k, k5]
  have n6 : gn G6 = 40 := by rw [S6.n, n5]
  have R6 := S6.R.trans R5
  have d6 := S6.d.trans d5
  have l6 := S6.nL.trans l5
  have a6 : ∀ j, j < 2 → gad G6 j = gad G0 j := fun j h => (S6.ad (by rw [y5]; exact Nat.lt_of_lt_of_le h (Nat.le_of_ble_eq_true rfl))).trans (a5 j h)
  refine aw_aload_n C6 0 0 (j := 0) rfl rfl (by decide +kernel) rfl ?_
  refine aw_bipush C6 (i0 := 16) (v := 16) (by decide) (by decide +kernel) rfl ?_
  refine aw_newarr C6 (fun ad => [(0, .ref (ad 1))]) (fun ad => [.ref (ad 1)]) (atype := .int) (N := 16) (Or.inl ⟨rfl, rfl⟩) (by rw [y6]; decide +kernel) ta_int (by decide) (by decide) (by decide) (by rw [k6, R6]; exact Nat.le_of_ble_eq_true rfl) (by rw [n6, R6]; exact Nat.le_of_ble_eq_true rfl) (fun a b h => by have z1 := h 1 (by rw [y6]; exact Nat.le_of_ble_eq_true rfl); exact ⟨by first | rfl | simp only [z1], by first | rfl | simp only [z1]⟩) (by decide +kernel) rfl (fun G7 S7 => ?_)
  have e7 : (gly G6).length = 5 := by rw [y6]; exact rfl
  rw [e7]
  have C7 := S7.cx C6 (by rw [k6, R6]; exact Nat.le_of_ble_eq_true rfl) (by rw [n6, R6]; exact Nat.le_of_ble_eq_true rfl)
  have K7 := S7.ck K6
  have y7 : gly G7 = LY_8 := by rw [S7.ly, y6]; decide +kernel
  have k7 : gk G7 = 4 := by rw [S7.k, k6]
  have n7 : gn G7 = 56 := by rw [S7.n, n6]
  have R7 := S7.R.trans R6
  have d7 := S7.d.trans d6
  have l7 := S7.nL.trans l6
  have a7 : ∀ j, j < 2 → gad G7 j = gad G0 j := fun j h => (S7.ad (by rw [y6]; exact Nat.lt_of_lt_of_le h (Nat.le_of_ble_eq_true rfl))).trans (a6 j h)
  show AW _ _ _ [(0, .ref (gad G7 1))] [.ref (gad G7 5), .ref (gad G7 1)]
  refine aw_putr C7 K7 (k := 7) (r0 := 5) fc_9 (hl := by rw [y7]; decide +kernel) (fs := [none, none, none, none, some (some 2), some (some 3), some (some 4), some none]) (by decide +kernel) (by decide) rfl rfl ⟨ty9 7, by decide +kernel, fun _ => rfl, fun _ => rfl⟩ tb_54 LY_9 (by rw [y7]; decide +kernel) (by decide +kernel) rfl (fun G8 S8 b8 => ?_)
  rw [← b8]
  have C8 := S8.cx C7 (by rw [k7, R7]; exact Nat.le_of_ble_eq_true rfl) (by rw [n7, R7]; exact Nat.le_of_ble_eq_true rfl)
  have K8 := S8.ck K7
  have y8 : gly G8 = LY_9 := S8.ly
  have k8 : gk G8 = 4 := by rw [S8.k, k7]
  have n8 : gn G8 = 56 := by rw [S8.n, n7]
  have R8 := S8.R.trans R7
  have d8 := S8.d.trans d7
  have l8 := S8.nL.trans l7
  have a8 : ∀ j, j < 2 → gad G8 j = gad G0 j := fun j h => (S8.ad (by rw [y7]; exact Nat.lt_of_lt_of_le h (Nat.le_of_ble_eq_true rfl))).trans (a7 j h)
  refine aw_aload_n C8 0 0 (j := 0) rfl rfl (by decide +kernel) rfl ?_
  refine aw_bipush C8 (i0 := 16) (v := 16) (by decide) (by decide +kernel) rfl ?_
  refine aw_callV C8 (rest := []) (by rw [y8]; exact c_Tab_begin (lay := LY_9) 1 2 3 4 5 ⟨by decide +kernel, by decide +kernel, by decide +kernel, by decide +kernel, by decide +kernel⟩ 16 _ q0 hq0) tb_32 yf_3 yi_3 (q0 := 1) (fs := [none, none, none, none, some (some 2), some (some 3), some (some 4), some (some 5)]) (by rw [y8]; decide +kernel) [.int 16] rfl rfl _ rfl (by rw [d8]; exact Nat.le_of_ble_eq_true rfl) (Nat.le_of_ble_eq_true rfl) (by decide +kernel) rfl ?_
  show AW _ _ _ _ []
  exact aw_cret C8 K8 a8 y8 rfl k8 n8 (by decide +kernel)
theorem kc_2 (st : Mm) (q0 : Unit × Mm) (hq0 : f_Tab_begin 6 7 8 9 10 16 (sZ (sZ (sZ (sZ (sI st 6 1 1) 7) 8) 9) 10) = some q0) : ConK 1 Y2 prog_11_method_1_code LY_11 6 st LY_19 q0.2 4 56 := by
  refine am_metK yf_2.2.2.2.2.2 rfl (fun G0 C0 K0 y0 l0 k0 n0 R0 d0 => ?_)
  have a0 : ∀ j, j < 7 → gad G0 j = gad G0 j := fun _ _ => rfl
  refine aw_aload_n C0 0 0 (j := 0) rfl rfl (by decide +kernel) rfl ?_
  refine aw_obj C0 (by rw [d0]; exact Nat.le_of_ble_eq_true rfl) (Nat.le_of_ble_eq_true rfl) tb_31 tb_24 tb_25 (by decide +kernel) rfl ?_
  refine aw_aload_n C0 0 0 (j := 0) rfl rfl (by decide +kernel) rfl ?_
  refine aw_iconst C0 (i0 := 1) (v := 1) (by decide) (by decide +kernel) rfl ?_
  refine aw_put C0 (k := 1) (fs := [none, none, none, none, some none, some none, some none, some none]) fc_9 (by rw [y0]; decide +kernel) rfl (by decide) rfl rfl tb_38 (by decide +kernel) rfl ?_
  refine aw_aload_n C0 0 0 (j := 0) rfl rfl (by decide +kernel) rfl ?_
  refine aw_bipush C0 (i0 := 8) (v := 8) (by decide) (by decide +kernel) rfl ?_
  refine aw_newarr C0 (fun ad => [(0, .ref (ad 6))]) (fun ad => [.ref (ad 6)]) (atype := .int) (N := 8) (Or.inl ⟨rfl, rfl⟩) (by rw [y0]; decide +kernel) ta_int (by decide) (by decide) (by decide) (by rw [k0, R0]; exact Nat.le_of_ble_eq_true rfl) (by rw [n0, R0]; exact Nat.le_of_ble_eq_true rfl) (fun a b h => by have z6 := h 6 (by rw [y0]; exact Nat.le_of_ble_eq_true rfl); exact ⟨by first | rfl | simp only [z6], by first | rfl | simp only [z6]⟩) (by decide +kernel) rfl (fun G1 S1 => ?_)
  have e1 : (gly G0).length = 7 := by rw [y0]; exact rfl
  rw [e1]
  have C1 := S1.cx C0 (by rw [k0, R0]; exact Nat.le_of_ble_eq_true rfl) (by rw [n0, R0]; exact Nat.le_of_ble_eq_true rfl)
  have K1 := S1.ck K0
  have y1 : gly G1 = LY_12 := by rw [S1.ly, y0]; decide +kernel
  have k1 : gk G1 = 1 := by rw [S1.k, k0]
  have n1 : gn G1 = 8 := by rw [S1.n, n0]
  have R1 := S1.R.trans R0
  have d1 := S1.d.trans d0
  have l1 := S1.nL.trans l0
  have a1 : ∀ j, j < 7 → gad G1 j = gad G0 j := fun j h => (S1.ad (by rw [y0]; exact Nat.lt_of_lt_of_le h (Nat.le_of_ble_eq_true rfl))).trans (a0 j h)
  show AW _ _ _ [(0, .ref (gad G1 6))] [.ref (gad G1 7), .ref (gad G1 6)]
  refine aw_putr C1 K1 (k := 4) (r0 := 7) fc_9 (hl := by rw [y1]; decide +kernel) (fs := [none, none, none, none, some none, some none, some none, some none]) (by decide +kernel) (by decide) rfl rfl ⟨ty9 4, by decide +kernel, fun _ => rfl, fun _ => rfl⟩ tb_46 LY_13 (by rw [y1]; decide +kernel) (by decide +kernel) rfl (fun G2 S2 b2 => ?_)
  rw [← b2]
  have C2 := S2.cx C1 (by rw [k1, R1]; exact Nat.le_of_ble_eq_true rfl) (by rw [n1, R1]; exact Nat.le_of_ble_eq_true rfl)
  have K2 := S2.ck K1
  have y2 : gly G2 = LY_13 := S2.ly
  have k2 : gk G2 = 1 := by rw [S2.k, k1]
  have n2 : gn G2 = 8 := by rw [S2.n, n1]
  have R2 := S2.R.trans R1
  have d2 := S2.d.trans d1
  have l2 := S2.nL.trans l1
  have a2 : ∀ j, j < 7 → gad G2 j = gad G0 j := fun j h => (S2.ad (by rw [y1]; exact Nat.lt_of_lt_of_le h (Nat.le_of_ble_eq_true rfl))).trans (a1 j h)
  refine aw_aload_n C2 0 0 (j := 0) rfl rfl (by decide +kernel) rfl ?_
  refine aw_bipush C2 (i0 := 16) (v := 16) (by decide) (by decide +kernel) rfl ?_
  refine aw_newarr C2 (fun ad => [(0, .ref (ad 6))]) (fun ad => [.ref (ad 6)]) (atype := .int) (N := 16) (Or.inl ⟨rfl, rfl⟩) (by rw [y2]; decide +kernel) ta_int (by decide) (by decide) (by decide) (by rw [k2, R2]; exact Nat.le_of_ble_eq_true rfl) (by rw [n2, R2]; exact Nat.le_of_ble_eq_true rfl) (fun a b h => by have z6 := h 6 (by rw [y2]; exact Nat.le_of_ble_eq_true rfl); exact ⟨by first | rfl | simp only [z6], by first | rfl | simp only [z6]⟩) (by decide +kernel) rfl (fun G3 S3 => ?_)
  have e3 : (gly G2).length = 8 := by rw [y2]; exact rfl
  rw [e3]
  have C3 := S3.cx C2 (by rw [k2, R2]; exact Nat.le_of_ble_eq_true rfl) (by rw [n2, R2]; exact Nat.le_of_ble_eq_true rfl)
  have K3 := S3.ck K2
  have y3 : gly G3 = LY_14 := by rw [S3.ly, y2]; decide +kernel
  have k3 : gk G3 = 2 := by rw [S3.k, k2]
  have n3 : gn G3 = 24 := by rw [S3.n, n2]
  have R3 := S3.R.trans R2
  have d3 := S3.d.trans d2
  have l3 := S3.nL.trans l2
  have a3 : ∀ j, j < 7 → gad G3 j = gad G0 j := fun j h => (S3.ad (by rw [y2]; exact Nat.lt_of_lt_of_le h (Nat.le_of_ble_eq_true rfl))).trans (a2 j h)
  show AW _ _ _ [(0, .ref (gad G3 6))] [.ref (gad G3 8), .ref (gad G3 6)]
  refine aw_putr C3 K3 (k := 5) (r0 := 8) fc_9 (hl := by rw [y3]; decide +kernel) (fs := [none, none, none, none, some (some 7), some none, some none, some none]) (by decide +kernel) (by decide) rfl rfl ⟨ty9 5, by decide +kernel, fun _ => rfl, fun _ => rfl⟩ tb_49 LY_15 (by rw [y3]; decide +kernel) (by decide +kernel) rfl (fun G4 S4 b4 => ?_)
  rw [← b4]
  have C4 := S4.cx C3 (by rw [k3, R3]; exact Nat.le_of_ble_eq_true rfl) (by rw [n3, R3]; exact Nat.le_of_ble_eq_true rfl)
  have K4 := S4.ck K3
  have y4 : gly G4 = LY_15 := S4.ly
  have k4 : gk G4 = 2 := by rw [S4.k, k3]
  have n4 : gn G4 = 24 := by rw [S4.n, n3]
  have R4 := S4.R.trans R3
  have d4 := S4.d.trans d3
  have l4 := S4.nL.trans l3
  have a4 : ∀ j, j < 7 → gad G4 j = gad G0 j := fun j h => (S4.ad (by rw [y3]; exact Nat.lt_of_lt_of_le h (Nat.le_of_ble_eq_true rfl))).trans (a3 j h)
  refine aw_aload_n C4 0 0 (j := 0) rfl rfl (by decide +kernel) rfl ?_
  refine aw_bipush C4 (i0 := 16) (v := 16) (by decide) (by decide +kernel) rfl ?_
  refine aw_newarr C4 (fun ad => [(0, .ref (ad 6))]) (fun ad => [.ref (ad 6)]) (atype := .int) (N := 16) (Or.inl ⟨rfl, rfl⟩) (by rw [y4]; decide +kernel) ta_int (by decide) (by decide) (by decide) (by rw [k4, R4]; exact Nat.le_of_ble_eq_true rfl) (by rw [n4, R4]; exact Nat.le_of_ble_eq_true rfl) (fun a b h => by have z6 := h 6 (by rw [y4]; exact Nat.le_of_ble_eq_true rfl); exact ⟨by first | rfl | simp only [z6], by first | rfl | simp only [z6]⟩) (by decide +kernel) rfl (fun G5 S5 => ?_)
  have e5 : (gly G4).length = 9 := by rw [y4]; exact rfl
  rw [e5]
  have C5 := S5.cx C4 (by rw [k4, R4]; exact Nat.le_of_ble_eq_true rfl) (by rw [n4, R4]; exact Nat.le_of_ble_eq_true rfl)
  have K5 := S5.ck K4
  have y5 : gly G5 = LY_16 := by rw [S5.ly, y4]; decide +kernel
  have k5 : gk G5 = 3 := by rw [S5.k, k4]
  have n5 : gn G5 = 40 := by rw [S5.n, n4]
  have R5 := S5.R.trans R4
  have d5 := S5.d.trans d4
  have l5 := S5.nL.trans l4
  have a5 : ∀ j, j < 7 → gad G5 j = gad G0 j := fun j h => (S5.ad (by rw [y4]; exact Nat.lt_of_lt_of_le h (Nat.le_of_ble_eq_true rfl))).trans (a4 j h)
  show AW _ _ _ [(0, .ref (gad G5 6))] [.ref (gad G5 9), .ref (gad G5 6)]
  refine aw_putr C5 K5 (k := 6) (r0 := 9) fc_9 (hl := by rw [y5]; decide +kernel) (fs := [none, none, none, none, some (some 7), some (some 8), some none, some none]) (by decide +kernel) (by decide) rfl rfl ⟨ty9 6, by decide +kernel, fun _ => rfl, fun _ => rfl⟩ tb_52 LY_17 (by rw [y5]; decide +kernel) (by decide +kernel) rfl (fun G6 S6 b6 => ?_)
  rw [← b6]
  have C6 := S6.cx C5 (by rw [k5, R5]; exact Nat.le_of_ble_eq_true rfl) (by rw [n5, R5]; exact Nat.le_of_ble_eq_true rfl)
  have K6 := S6.ck K5
  have y6 : gly G6 = LY_17 := S6.ly
  have k6 : gk G6 = 3 := by rw [S6.k, k5]
  have n6 : gn G6 = 40 := by rw [S6.n, n5]
  have R6 := S6.R.trans R5
  have d6 := S6.d.trans d5
  have l6 := S6.nL.trans l5
  have a6 : ∀ j, j < 7 → gad G6 j = gad G0 j := fun j h => (S6.ad (by rw [y5]; exact Nat.lt_of_lt_of_le h (Nat.le_of_ble_eq_true rfl))).trans (a5 j h)
  refine aw_aload_n C6 0 0 (j := 0) rfl rfl (by decide +kernel) rfl ?_
  refine aw_bipush C6 (i0 := 16) (v := 16) (by decide) (by decide +kernel) rfl ?_
  refine aw_newarr C6 (fun ad => [(0, .ref (ad 6))]) (fun ad => [.ref (ad 6)]) (atype := .int) (N := 16) (Or.inl ⟨rfl, rfl⟩) (by rw [y6]; decide +kernel) ta_int (by decide) (by decide) (by decide) (by rw [k6, R6]; exact Nat.le_of_ble_eq_true rfl) (by rw [n6, R6]; exact Nat.le_of_ble_eq_true rfl) (fun a b h => by have z6 := h 6 (by rw [y6]; exact Nat.le_of_ble_eq_true rfl); exact ⟨by first | rfl | simp only [z6], by first | rfl | simp only [z6]⟩) (by decide +kernel) rfl (fun G7 S7 => ?_)
  have e7 : (gly G6).length = 10 := by rw [y6]; exact rfl
  rw [e7]
  have C7 := S7.cx C6 (by rw [k6, R6]; exact Nat.le_of_ble_eq_true rfl) (by rw [n6, R6]; exact Nat.le_of_ble_eq_true rfl)
  have K7 := S7.ck K6
  have y7 : gly G7 = LY_18 := by rw [S7.ly, y6]; decide +kernel
  have k7 : gk G7 = 4 := by rw [S7.k, k6]
  have n7 : gn G7 = 56 := by rw [S7.n, n6]
  have R7 := S7.R.trans R6
  have d7 := S7.d.trans d6
  have l7 := S7.nL.trans l6
  have a7 : ∀ j, j < 7 → gad G7 j = gad G0 j := fun j h => (S7.ad (by rw [y6]; exact Nat.lt_of_lt_of_le h (Nat.le_of_ble_eq_true rfl))).trans (a6 j h)
  show AW _ _ _ [(0, .ref (gad G7 6))] [.ref (gad G7 10), .ref (gad G7 6)]
  refine aw_putr C7 K7 (k := 7) (r0 := 10) fc_9 (hl := by rw [y7]; decide +kernel) (fs := [none, none, none, none, some (some 7), some (some 8), some (some 9), some none]) (by decide +kernel) (by decide) rfl rfl ⟨ty9 7, by decide +kernel, fun _ => rfl, fun _ => rfl⟩ tb_54 LY_19 (by rw [y7]; decide +kernel) (by decide +kernel) rfl (fun G8 S8 b8 => ?_)
  rw [← b8]
  have C8 := S8.cx C7 (by rw [k7, R7]; exact Nat.le_of_ble_eq_true rfl) (by rw [n7, R7]; exact Nat.le_of_ble_eq_true rfl)
  have K8 := S8.ck K7
  have y8 : gly G8 = LY_19 := S8.ly
  have k8 : gk G8 = 4 := by rw [S8.k, k7]
  have n8 : gn G8 = 56 := by rw [S8.n, n7]
  have R8 := S8.R.trans R7
  have d8 := S8.d.trans d7
  have l8 := S8.nL.trans l7
  have a8 : ∀ j, j < 7 → gad G8 j = gad G0 j := fun j h => (S8.ad (by rw [y7]; exact Nat.lt_of_lt_of_le h (Nat.le_of_ble_eq_true rfl))).trans (a7 j h)
  refine aw_aload_n C8 0 0 (j := 0) rfl rfl (by decide +kernel) rfl ?_
  refine aw_bipush C8 (i0 := 16) (v := 16) (by decide) (by decide +kernel) rfl ?_
  refine aw_callV C8 (rest := []) (by rw [y8]; exact c_Tab_begin (lay := LY_19) 6 7 8 9 10 ⟨by decide +kernel, by decide +kernel, by decide +kernel, by decide +kernel, by decide +kernel⟩ 16 _ q0 hq0) tb_32 yf_3 yi_3 (q0 := 6) (fs := [none, none, none, none, some (some 7), some (some 8), some (some 9), some (some 10)]) (by rw [y8]; decide +kernel) [.int 16] rfl rfl _ rfl (by rw [d8]; exact Nat.le_of_ble_eq_true rfl) (Nat.le_of_ble_eq_true rfl) (by decide +kernel) rfl ?_
  show AW _ _ _ _ []
  exact aw_cret C8 K8 a8 y8 rfl k8 n8 (by decide +kernel)
theorem kc_3 (st : Mm) : ConK 1 Y4 prog_12_method_1_code LY_21 11 st LY_23 (sZ (sI st 11 0 0) 12) 1 200 := by
  refine am_metK yf_4.2.2.2.2.2 rfl (fun G0 C0 K0 y0 l0 k0 n0 R0 d0 => ?_)
  have a0 : ∀ j, j < 12 → gad G0 j = gad G0 j := fun _ _ => rfl
  refine aw_aload_n C0 0 0 (j := 0) rfl rfl (by decide +kernel) rfl ?_
  refine aw_obj C0 (by rw [d0]; exact Nat.le_of_ble_eq_true rfl) (Nat.le_of_ble_eq_true rfl) tb_79 tb_24 tb_25 (by decide +kernel) rfl ?_
  refine aw_aload_n C0 0 0 (j := 0) rfl rfl (by decide +kernel) rfl ?_
  refine aw_iconst C0 (i0 := 0) (v := 0) (by decide) (by decide +kernel) rfl ?_
  refine aw_put C0 (k := 0) (fs := [none, some none]) fc_10 (by rw [y0]; decide +kernel) rfl (by decide) rfl rfl tb_80 (by decide +kernel) rfl ?_
  refine aw_aload_n C0 0 0 (j := 0) rfl rfl (by decide +kernel) rfl ?_
  refine aw_sipush C0 (i0 := 200) (v := 200) (by decide) (by decide +kernel) rfl ?_
  refine aw_newarr C0 (fun ad => [(0, .ref (ad 11))]) (fun ad => [.ref (ad 11)]) (atype := .int) (N := 200) (Or.inl ⟨rfl, rfl⟩) (by rw [y0]; decide +kernel) ta_int (by decide) (by decide) (by decide) (by rw [k0, R0]; exact Nat.le_of_ble_eq_true rfl) (by rw [n0, R0]; exact Nat.le_of_ble_eq_true rfl) (fun a b h => by have z11 := h 11 (by rw [y0]; exact Nat.le_of_ble_eq_true rfl); exact ⟨by first | rfl | simp only [z11], by first | rfl | simp only [z11]⟩) (by decide +kernel) rfl (fun G1 S1 => ?_)
  have e1 : (gly G0).length = 12 := by rw [y0]; exact rfl
  rw [e1]
  have C1 := S1.cx C0 (by rw [k0, R0]; exact Nat.le_of_ble_eq_true rfl) (by rw [n0, R0]; exact Nat.le_of_ble_eq_true rfl)
  have K1 := S1.ck K0
  have y1 : gly G1 = LY_22 := by rw [S1.ly, y0]; decide +kernel
  have k1 : gk G1 = 1 := by rw [S1.k, k0]
  have n1 : gn G1 = 200 := by rw [S1.n, n0]
  have R1 := S1.R.trans R0
  have d1 := S1.d.trans d0
  have l1 := S1.nL.trans l0
  have a1 : ∀ j, j < 12 → gad G1 j = gad G0 j := fun j h => (S1.ad (by rw [y0]; exact Nat.lt_of_lt_of_le h (Nat.le_of_ble_eq_true rfl))).trans (a0 j h)
  show AW _ _ _ [(0, .ref (gad G1 11))] [.ref (gad G1 12), .ref (gad G1 11)]
  refine aw_putr C1 K1 (k := 1) (r0 := 12) fc_10 (hl := by rw [y1]; decide +kernel) (fs := [none, some none]) (by decide +kernel) (by decide) rfl rfl ⟨ty10 1, by decide +kernel, fun _ => rfl, fun _ => rfl⟩ tb_82 LY_23 (by rw [y1]; decide +kernel) (by decide +kernel) rfl (fun G2 S2 b2 => ?_)
  rw [← b2]
  have C2 := S2.cx C1 (by rw [k1, R1]; exact Nat.le_of_ble_eq_true rfl) (by rw [n1, R1]; exact Nat.le_of_ble_eq_true rfl)
  have K2 := S2.ck K1
  have y2 : gly G2 = LY_23 := S2.ly
  have k2 : gk G2 = 1 := by rw [S2.k, k1]
  have n2 : gn G2 = 200 := by rw [S2.n, n1]
  have R2 := S2.R.trans R1
  have d2 := S2.d.trans d1
  have l2 := S2.nL.trans l1
  have a2 : ∀ j, j < 12 → gad G2 j = gad G0 j := fun j h => (S2.ad (by rw [y1]; exact Nat.lt_of_lt_of_le h (Nat.le_of_ble_eq_true rfl))).trans (a1 j h)
  exact aw_cret C2 K2 a2 y2 rfl k2 n2 (by decide +kernel)
theorem kc_5 (st : Mm) : ConK 1 Y6 prog_5_method_1_code LY_26 14 st LY_30 (sZ (sZ st 15) 16) 2 32 := by
  refine am_metK yf_6.2.2.2.2.2 rfl (fun G0 C0 K0 y0 l0 k0 n0 R0 d0 => ?_)
  have a0 : ∀ j, j < 15 → gad G0 j = gad G0 j := fun _ _ => rfl
  refine aw_aload_n C0 0 0 (j := 0) rfl rfl (by decide +kernel) rfl ?_
  refine aw_obj C0 (by rw [d0]; exact Nat.le_of_ble_eq_true rfl) (Nat.le_of_ble_eq_true rfl) tb_101 tb_24 tb_25 (by decide +kernel) rfl ?_
  refine aw_aload_n C0 0 0 (j := 0) rfl rfl (by decide +kernel) rfl ?_
  refine aw_bipush C0 (i0 := 16) (v := 16) (by decide) (by decide +kernel) rfl ?_
  refine aw_newarr C0 (fun ad => [(0, .ref (ad 14))]) (fun ad => [.ref (ad 14)]) (atype := .int) (N := 16) (Or.inl ⟨rfl, rfl⟩) (by rw [y0]; decide +kernel) ta_int (by decide) (by decide) (by decide) (by rw [k0, R0]; exact Nat.le_of_ble_eq_true rfl) (by rw [n0, R0]; exact Nat.le_of_ble_eq_true rfl) (fun a b h => by have z14 := h 14 (by rw [y0]; exact Nat.le_of_ble_eq_true rfl); exact ⟨by first | rfl | simp only [z14], by first | rfl | simp only [z14]⟩) (by decide +kernel) rfl (fun G1 S1 => ?_)
  have e1 : (gly G0).length = 15 := by rw [y0]; exact rfl
  rw [e1]
  have C1 := S1.cx C0 (by rw [k0, R0]; exact Nat.le_of_ble_eq_true rfl) (by rw [n0, R0]; exact Nat.le_of_ble_eq_true rfl)
  have K1 := S1.ck K0
  have y1 : gly G1 = LY_27 := by rw [S1.ly, y0]; decide +kernel
  have k1 : gk G1 = 1 := by rw [S1.k, k0]
  have n1 : gn G1 = 16 := by rw [S1.n, n0]
  have R1 := S1.R.trans R0
  have d1 := S1.d.trans d0
  have l1 := S1.nL.trans l0
  have a1 : ∀ j, j < 15 → gad G1 j = gad G0 j := fun j h => (S1.ad (by rw [y0]; exact Nat.lt_of_lt_of_le h (Nat.le_of_ble_eq_true rfl))).trans (a0 j h)
  show AW _ _ _ [(0, .ref (gad G1 14))] [.ref (gad G1 15), .ref (gad G1 14)]
  refine aw_putr C1 K1 (k := 6) (r0 := 15) fc_3 (hl := by rw [y1]; decide +kernel) (fs := [none, none, none, none, none, none, some none, some none]) (by decide +kernel) (by decide) rfl rfl ⟨ty3 6, by decide +kernel, fun _ => rfl, fun _ => rfl⟩ tb_119 LY_28 (by rw [y1]; decide +kernel) (by decide +kernel) rfl (fun G2 S2 b2 => ?_)
  rw [← b2]
  have C2 := S2.cx C1 (by rw [k1, R1]; exact Nat.le_of_ble_eq_true rfl) (by rw [n1, R1]; exact Nat.le_of_ble_eq_true rfl)
  have K2 := S2.ck K1
  have y2 : gly G2 = LY_28 := S2.ly
  have k2 : gk G2 = 1 := by rw [S2.k, k1]
  have n2 : gn G2 = 16 := by rw [S2.n, n1]
  have R2 := S2.R.trans R1
  have d2 := S2.d.trans d1
  have l2 := S2.nL.trans l1
  have a2 : ∀ j, j < 15 → gad G2 j = gad G0 j := fun j h => (S2.ad (by rw [y1]; exact Nat.lt_of_lt_of_le h (Nat.le_of_ble_eq_true rfl))).trans (a1 j h)
  refine aw_aload_n C2 0 0 (j := 0) rfl rfl (by decide +kernel) rfl ?_
  refine aw_bipush C2 (i0 := 16) (v := 16) (by decide) (by decide +kernel) rfl ?_
  refine aw_newarr C2 (fun ad => [(0, .ref (ad 14))]) (fun ad => [.ref (ad 14)]) (atype := .int) (N := 16) (Or.inl ⟨rfl, rfl⟩) (by rw [y2]; decide +kernel) ta_int (by decide) (by decide) (by decide) (by rw [k2, R2]; exact Nat.le_of_ble_eq_true rfl) (by rw [n2, R2]; exact Nat.le_of_ble_eq_true rfl) (fun a b h => by have z14 := h 14 (by rw [y2]; exact Nat.le_of_ble_eq_true rfl); exact ⟨by first | rfl | simp only [z14], by first | rfl | simp only [z14]⟩) (by decide +kernel) rfl (fun G3 S3 => ?_)
  have e3 : (gly G2).length = 16 := by rw [y2]; exact rfl
  rw [e3]
  have C3 := S3.cx C2 (by rw [k2, R2]; exact Nat.le_of_ble_eq_true rfl) (by rw [n2, R2]; exact Nat.le_of_ble_eq_true rfl)
  have K3 := S3.ck K2
  have y3 : gly G3 = LY_29 := by rw [S3.ly, y2]; decide +kernel
  have k3 : gk G3 = 2 := by rw [S3.k, k2]
  have n3 : gn G3 = 32 := by rw [S3.n, n2]
  have R3 := S3.R.trans R2
  have d3 := S3.d.trans d2
  have l3 := S3.nL.trans l2
  have a3 : ∀ j, j < 15 → gad G3 j = gad G0 j := fun j h => (S3.ad (by rw [y2]; exact Nat.lt_of_lt_of_le h (Nat.le_of_ble_eq_true rfl))).trans (a2 j h)
  show AW _ _ _ [(0, .ref (gad G3 14))] [.ref (gad G3 16), .ref (gad G3 14)]
  refine aw_putr C3 K3 (k := 7) (r0 := 16) fc_3 (hl := by rw [y3]; decide +kernel) (fs := [none, none, none, none, none, none, some (some 15), some none]) (by decide +kernel) (by decide) rfl rfl ⟨ty3 7, by decide +kernel, fun _ => rfl, fun _ => rfl⟩ tb_120 LY_30 (by rw [y3]; decide +kernel) (by decide +kernel) rfl (fun G4 S4 b4 => ?_)
  rw [← b4]
  have C4 := S4.cx C3 (by rw [k3, R3]; exact Nat.le_of_ble_eq_true rfl) (by rw [n3, R3]; exact Nat.le_of_ble_eq_true rfl)
  have K4 := S4.ck K3
  have y4 : gly G4 = LY_30 := S4.ly
  have k4 : gk G4 = 2 := by rw [S4.k, k3]
  have n4 : gn G4 = 32 := by rw [S4.n, n3]
  have R4 := S4.R.trans R3
  have d4 := S4.d.trans d3
  have l4 := S4.nL.trans l3
  have a4 : ∀ j, j < 15 → gad G4 j = gad G0 j := fun j h => (S4.ad (by rw [y3]; exact Nat.lt_of_lt_of_le h (Nat.le_of_ble_eq_true rfl))).trans (a3 j h)
  exact aw_cret C4 K4 a4 y4 rfl k4 n4 (by decide +kernel)
theorem kc_6 (st : Mm) : ConK 1 Y7 prog_2_method_1_code LY_32 17 st LY_38 (sZ (sZ (sZ st 18) 19) 20) 3 360 := by
  refine am_metK yf_7.2.2.2.2.2 rfl (fun G0 C0 K0 y0 l0 k0 n0 R0 d0 => ?_)
  have a0 : ∀ j, j < 18 → gad G0 j = gad G0 j := fun _ _ => rfl
  refine aw_aload_n C0 0 0 (j := 0) rfl rfl (by decide +kernel) rfl ?_
  refine aw_obj C0 (by rw [d0]; exact Nat.le_of_ble_eq_true rfl) (Nat.le_of_ble_eq_true rfl) tb_143 tb_24 tb_25 (by decide +kernel) rfl ?_
  refine aw_aload_n C0 0 0 (j := 0) rfl rfl (by decide +kernel) rfl ?_
  refine aw_sipush C0 (i0 := 160) (v := 160) (by decide) (by decide +kernel) rfl ?_
  refine aw_newarr C0 (fun ad => [(0, .ref (ad 17))]) (fun ad => [.ref (ad 17)]) (atype := .int) (N := 160) (Or.inl ⟨rfl, rfl⟩) (by rw [y0]; decide +kernel) ta_int (by decide) (by decide) (by decide) (by rw [k0, R0]; exact Nat.le_of_ble_eq_true rfl) (by rw [n0, R0]; exact Nat.le_of_ble_eq_true rfl) (fun a b h => by have z17 := h 17 (by rw [y0]; exact Nat.le_of_ble_eq_true rfl); exact ⟨by first | rfl | simp only [z17], by first | rfl | simp only [z17]⟩) (by decide +kernel) rfl (fun G1 S1 => ?_)
  have e1 : (gly G0).length = 18 := by rw [y0]; exact rfl
  rw [e1]
  have C1 := S1.cx C0 (by rw [k0, R0]; exact Nat.le_of_ble_eq_true rfl) (by rw [n0, R0]; exact Nat.le_of_ble_eq_true rfl)
  have K1 := S1.ck K0
  have y1 : gly G1 = LY_33 := by rw [S1.ly, y0]; decide +kernel
  have k1 : gk G1 = 1 := by rw [S1.k, k0]
  have n1 : gn G1 = 160 := by rw [S1.n, n0]
  have R1 := S1.R.trans R0
  have d1 := S1.d.trans d0
  have l1 := S1.nL.trans l0
  have a1 : ∀ j, j < 18 → gad G1 j = gad G0 j := fun j h => (S1.ad (by rw [y0]; exact Nat.lt_of_lt_of_le h (Nat.le_of_ble_eq_true rfl))).trans (a0 j h)
  show AW _ _ _ [(0, .ref (gad G1 17))] [.ref (gad G1 18), .ref (gad G1 17)]
  refine aw_putr C1 K1 (k := 0) (r0 := 18) fc_0 (hl := by rw [y1]; decide +kernel) (fs := [some none, some none, some none, none, none, none, none]) (by decide +kernel) (by decide) rfl rfl ⟨ty0 0, by decide +kernel, fun _ => rfl, fun _ => rfl⟩ tb_144 LY_34 (by rw [y1]; decide +kernel) (by decide +kernel) rfl (fun G2 S2 b2 => ?_)
  rw [← b2]
  have C2 := S2.cx C1 (by rw [k1, R1]; exact Nat.le_of_ble_eq_true rfl) (by rw [n1, R1]; exact Nat.le_of_ble_eq_true rfl)
  have K2 := S2.ck K1
  have y2 : gly G2 = LY_34 := S2.ly
  have k2 : gk G2 = 1 := by rw [S2.k, k1]
  have n2 : gn G2 = 160 := by rw [S2.n, n1]
  have R2 := S2.R.trans R1
  have d2 := S2.d.trans d1
  have l2 := S2.nL.trans l1
  have a2 : ∀ j, j < 18 → gad G2 j = gad G0 j := fun j h => (S2.ad (by rw [y1]; exact Nat.lt_of_lt_of_le h (Nat.le_of_ble_eq_true rfl))).trans (a1 j h)
  refine aw_aload_n C2 0 0 (j := 0) rfl rfl (by decide +kernel) rfl ?_
  refine aw_sipush C2 (i0 := 160) (v := 160) (by decide) (by decide +kernel) rfl ?_
  refine aw_newarr C2 (fun ad => [(0, .ref (ad 17))]) (fun ad => [.ref (ad 17)]) (atype := .int) (N := 160) (Or.inl ⟨rfl, rfl⟩) (by rw [y2]; decide +kernel) ta_int (by decide) (by decide) (by decide) (by rw [k2, R2]; exact Nat.le_of_ble_eq_true rfl) (by rw [n2, R2]; exact Nat.le_of_ble_eq_true rfl) (fun a b h => by have z17 := h 17 (by rw [y2]; exact Nat.le_of_ble_eq_true rfl); exact ⟨by first | rfl | simp only [z17], by first | rfl | simp only [z17]⟩) (by decide +kernel) rfl (fun G3 S3 => ?_)
  have e3 : (gly G2).length = 19 := by rw [y2]; exact rfl
  rw [e3]
  have C3 := S3.cx C2 (by rw [k2, R2]; exact Nat.le_of_ble_eq_true rfl) (by rw [n2, R2]; exact Nat.le_of_ble_eq_true rfl)
  have K3 := S3.ck K2
  have y3 : gly G3 = LY_35 := by rw [S3.ly, y2]; decide +kernel
  have k3 : gk G3 = 2 := by rw [S3.k, k2]
  have n3 : gn G3 = 320 := by rw [S3.n, n2]
  have R3 := S3.R.trans R2
  have d3 := S3.d.trans d2
  have l3 := S3.nL.trans l2
  have a3 : ∀ j, j < 18 → gad G3 j = gad G0 j := fun j h => (S3.ad (by rw [y2]; exact Nat.lt_of_lt_of_le h (Nat.le_of_ble_eq_true rfl))).trans (a2 j h)
  show AW _ _ _ [(0, .ref (gad G3 17))] [.ref (gad G3 19), .ref (gad G3 17)]
  refine aw_putr C3 K3 (k := 1) (r0 := 19) fc_0 (hl := by rw [y3]; decide +kernel) (fs := [some (some 18), some none, some none, none, none, none, none]) (by decide +kernel) (by decide) rfl rfl ⟨ty0 1, by decide +kernel, fun _ => rfl, fun _ => rfl⟩ tb_145 LY_36 (by rw [y3]; decide +kernel) (by decide +kernel) rfl (fun G4 S4 b4 => ?_)
  rw [← b4]
  have C4 := S4.cx C3 (by rw [k3, R3]; exact Nat.le_of_ble_eq_true rfl) (by rw [n3, R3]; exact Nat.le_of_ble_eq_true rfl)
  have K4 := S4.ck K3
  have y4 : gly G4 = LY_36 := S4.ly
  have k4 : gk G4 = 2 := by rw [S4.k, k3]
  have n4 : gn G4 = 320 := by rw [S4.n, n3]
  have R4 := S4.R.trans R3
  have d4 := S4.d.trans d3
  have l4 := S4.nL.trans l3
  have a4 : ∀ j, j < 18 → gad G4 j = gad G0 j := fun j h => (S4.ad (by rw [y3]; exact Nat.lt_of_lt_of_le h (Nat.le_of_ble_eq_true rfl))).trans (a3 j h)
  refine aw_aload_n C4 0 0 (j := 0) rfl rfl (by decide +kernel) rfl ?_
  refine aw_bipush C4 (i0 := 40) (v := 40) (by decide) (by decide +kernel) rfl ?_
  refine aw_newarr C4 (fun ad => [(0, .ref (ad 17))]) (fun ad => [.ref (ad 17)]) (atype := .int) (N := 40) (Or.inl ⟨rfl, rfl⟩) (by rw [y4]; decide +kernel) ta_int (by decide) (by decide) (by decide) (by rw [k4, R4]; exact Nat.le_of_ble_eq_true rfl) (by rw [n4, R4]; exact Nat.le_of_ble_eq_true rfl) (fun a b h => by have z17 := h 17 (by rw [y4]; exact Nat.le_of_ble_eq_true rfl); exact ⟨by first | rfl | simp only [z17], by first | rfl | simp only [z17]⟩) (by decide +kernel) rfl (fun G5 S5 => ?_)
  have e5 : (gly G4).length = 20 := by rw [y4]; exact rfl
  rw [e5]
  have C5 := S5.cx C4 (by rw [k4, R4]; exact Nat.le_of_ble_eq_true rfl) (by rw [n4, R4]; exact Nat.le_of_ble_eq_true rfl)
  have K5 := S5.ck K4
  have y5 : gly G5 = LY_37 := by rw [S5.ly, y4]; decide +kernel
  have k5 : gk G5 = 3 := by rw [S5.k, k4]
  have n5 : gn G5 = 360 := by rw [S5.n, n4]
  have R5 := S5.R.trans R4
  have d5 := S5.d.trans d4
  have l5 := S5.nL.trans l4
  have a5 : ∀ j, j < 18 → gad G5 j = gad G0 j := fun j h => (S5.ad (by rw [y4]; exact Nat.lt_of_lt_of_le h (Nat.le_of_ble_eq_true rfl))).trans (a4 j h)
  show AW _ _ _ [(0, .ref (gad G5 17))] [.ref (gad G5 20), .ref (gad G5 17)]
  refine aw_putr C5 K5 (k := 2) (r0 := 20) fc_0 (hl := by rw [y5]; decide +kernel) (fs := [some (some 18), some (some 19), some none, none, none, none, none]) (by decide +kernel) (by decide) rfl rfl ⟨ty0 2, by decide +kernel, fun _ => rfl, fun _ => rfl⟩ tb_146 LY_38 (by rw [y5]; decide +kernel) (by decide +kernel) rfl (fun G6 S6 b6 => ?_)
  rw [← b6]
  have C6 := S6.cx C5 (by rw [k5, R5]; exact Nat.le_of_ble_eq_true rfl) (by rw [n5, R5]; exact Nat.le_of_ble_eq_true rfl)
  have K6 := S6.ck K5
  have y6 : gly G6 = LY_38 := S6.ly
  have k6 : gk G6 = 3 := by rw [S6.k, k5]
  have n6 : gn G6 = 360 := by rw [S6.n, n5]
  have R6 := S6.R.trans R5
  have d6 := S6.d.trans d5
  have l6 := S6.nL.trans l5
  have a6 : ∀ j, j < 18 → gad G6 j = gad G0 j := fun j h => (S6.ad (by rw [y5]; exact Nat.lt_of_lt_of_le h (Nat.le_of_ble_eq_true rfl))).trans (a5 j h)
  exact aw_cret C6 K6 a6 y6 rfl k6 n6 (by decide +kernel)
theorem kc_4 (st : Mm) : ConK 2 Y5 prog_10_method_1_code LY_25 13 st LY_45 (sZ (sZ (sZ (sZ (sZ (sZ (sZ (sZ (sZ (sZ st 14) 15) 16) 17) 18) 19) 20) 21) 22) 23) 10 591 := by
  refine am_metK yf_5.2.2.2.2.2 rfl (fun G0 C0 K0 y0 l0 k0 n0 R0 d0 => ?_)
  have a0 : ∀ j, j < 14 → gad G0 j = gad G0 j := fun _ _ => rfl
  refine aw_aload_n C0 0 0 (j := 0) rfl rfl (by decide +kernel) rfl ?_
  refine aw_obj C0 (by rw [d0]; exact Nat.le_of_ble_eq_true rfl) (Nat.le_of_ble_eq_true rfl) tb_95 tb_24 tb_25 (by decide +kernel) rfl ?_
  refine aw_aload_n C0 0 0 (j := 0) rfl rfl (by decide +kernel) rfl ?_
  refine aw_new C0 (fun ad => [(0, .ref (ad 13))]) (fun ad => [.ref (ad 13)]) fc_3 fn_3 (by rw [y0]; decide +kernel) tb_96 ti_3 tb_5 (by rw [k0, R0]; exact Nat.le_of_ble_eq_true rfl) (by rw [n0, R0]; exact Nat.le_of_ble_eq_true rfl) (fun a b h => by have z13 := h 13 (by rw [y0]; exact Nat.le_of_ble_eq_true rfl); exact ⟨by first | rfl | simp only [z13], by first | rfl | simp only [z13]⟩) (by decide +kernel) rfl (fun G1 S1 => ?_)
  have e1 : (gly G0).length = 14 := by rw [y0]; exact rfl
  rw [e1]
  have C1 := S1.cx C0 (by rw [k0, R0]; exact Nat.le_of_ble_eq_true rfl) (by rw [n0, R0]; exact Nat.le_of_ble_eq_true rfl)
  have K1 := S1.ck K0
  have y1 : gly G1 = LY_26 := by rw [S1.ly, y0]; decide +kernel
  have k1 : gk G1 = 1 := by rw [S1.k, k0]
  have n1 : gn G1 = 8 := by rw [S1.n, n0]
  have R1 := S1.R.trans R0
  have d1 := S1.d.trans d0
  have l1 := S1.nL.trans l0
  have a1 : ∀ j, j < 14 → gad G1 j = gad G0 j := fun j h => (S1.ad (by rw [y0]; exact Nat.lt_of_lt_of_le h (Nat.le_of_ble_eq_true rfl))).trans (a0 j h)
  show AW _ _ _ [(0, .ref (gad G1 13))] [.ref (gad G1 14), .ref (gad G1 13)]
  refine aw_dup C1 rfl (by decide +kernel) rfl ?_
  refine aw_ctorN C1 (fun ad => [(0, .ref (ad 13))]) (fun ad => [.ref (ad 14), .ref (ad 13)]) (c0 := 14) (by rw [y1]; exact kc_5 (sZ st 14)) nw_2 yf_6 rfl tb_99 (fun a b h => by have z13 := h 13 (by rw [y1]; exact Nat.le_of_ble_eq_true rfl); have z14 := h 14 (by rw [y1]; exact Nat.le_of_ble_eq_true rfl); exact ⟨by first | rfl | simp only [z13, z14], by first | rfl | simp only [z13, z14]⟩) (by rw [y1]; exact ⟨_, rfl⟩) (by rw [d1]; exact Nat.le_of_ble_eq_true rfl) (Nat.le_of_ble_eq_true rfl) (by rw [k1, R1]; exact Nat.le_of_ble_eq_true rfl) (by rw [n1, R1]; exact Nat.le_of_ble_eq_true rfl) (by decide +kernel) rfl (fun G2 S2 => ?_)
  have C2 := S2.cx C1 (by rw [k1, R1]; exact Nat.le_of_ble_eq_true rfl) (by rw [n1, R1]; exact Nat.le_of_ble_eq_true rfl)
  have K2 := S2.ck K1
  have y2 : gly G2 = LY_30 := S2.ly
  have k2 : gk G2 = 3 := by rw [S2.k, k1]
  have n2 : gn G2 = 40 := by rw [S2.n, n1]
  have R2 := S2.R.trans R1
  have d2 := S2.d.trans d1
  have l2 := S2.nL.trans l1
  have a2 : ∀ j, j < 14 → gad G2 j = gad G0 j := fun j h => (S2.ad (by rw [y1]; exact Nat.lt_of_lt_of_le h (Nat.le_of_ble_eq_true rfl))).trans (a1 j h)
  show AW _ _ _ [(0, .ref (gad G2 13))] [.ref (gad G2 14), .ref (gad G2 13)]
  refine aw_putr C2 K2 (k := 0) (r0 := 14) fc_8 (hl := by rw [y2]; decide +kernel) (fs := [some none, some none, some none, some none, some none, none, none, none, none, none, none, none, none]) (by decide +kernel) (by decide) rfl rfl ⟨ty8 0, by decide +kernel, fun _ => rfl, fun _ => rfl⟩ tb_166 LY_31 (by rw [y2]; decide +kernel) (by decide +kernel) rfl (fun G3 S3 b3 => ?_)
  rw [← b3]
  have C3 := S3.cx C2 (by rw [k2, R2]; exact Nat.le_of_ble_eq_true rfl) (by rw [n2, R2]; exact Nat.le_of_ble_eq_true rfl)
  have K3 := S3.ck K2
  have y3 : gly G3 = LY_31 := S3.ly
  have k3 : gk G3 = 3 := by rw [S3.k, k2]
  have n3 : gn G3 = 40 := by rw [S3.n, n2]
  have R3 := S3.R.trans R2
  have d3 := S3.d.trans d2
  have l3 := S3.nL.trans l2
  have a3 : ∀ j, j < 14 → gad G3 j = gad G0 j := fun j h => (S3.ad (by rw [y2]; exact Nat.lt_of_lt_of_le h (Nat.le_of_ble_eq_true rfl))).trans (a2 j h)
  refine aw_aload_n C3 0 0 (j := 0) rfl rfl (by decide +kernel) rfl ?_
  refine aw_new C3 (fun ad => [(0, .ref (ad 13))]) (fun ad => [.ref (ad 13)]) fc_0 fn_0 (by rw [y3]; decide +kernel) tb_138 ti_0 tb_6 (by rw [k3, R3]; exact Nat.le_of_ble_eq_true rfl) (by rw [n3, R3]; exact Nat.le_of_ble_eq_true rfl) (fun a b h => by have z13 := h 13 (by rw [y3]; exact Nat.le_of_ble_eq_true rfl); exact ⟨by first | rfl | simp only [z13], by first | rfl | simp only [z13]⟩) (by decide +kernel) rfl (fun G4 S4 => ?_)
  have e4 : (gly G3).length = 17 := by rw [y3]; exact rfl
  rw [e4]
  have C4 := S4.cx C3 (by rw [k3, R3]; exact Nat.le_of_ble_eq_true rfl) (by rw [n3, R3]; exact Nat.le_of_ble_eq_true rfl)
  have K4 := S4.ck K3
  have y4 : gly G4 = LY_32 := by rw [S4.ly, y3]; decide +kernel
  have k4 : gk G4 = 4 := by rw [S4.k, k3]
  have n4 : gn G4 = 47 := by rw [S4.n, n3]
  have R4 := S4.R.trans R3
  have d4 := S4.d.trans d3
  have l4 := S4.nL.trans l3
  have a4 : ∀ j, j < 14 → gad G4 j = gad G0 j := fun j h => (S4.ad (by rw [y3]; exact Nat.lt_of_lt_of_le h (Nat.le_of_ble_eq_true rfl))).trans (a3 j h)
  show AW _ _ _ [(0, .ref (gad G4 13))] [.ref (gad G4 17), .ref (gad G4 13)]
  refine aw_dup C4 rfl (by decide +kernel) rfl ?_
  refine aw_ctorN C4 (fun ad => [(0, .ref (ad 13))]) (fun ad => [.ref (ad 17), .ref (ad 13)]) (c0 := 17) (by rw [y4]; exact kc_6 (sZ (sZ (sZ (sZ st 14) 15) 16) 17)) nw_3 yf_7 rfl tb_141 (fun a b h => by have z13 := h 13 (by rw [y4]; exact Nat.le_of_ble_eq_true rfl); have z17 := h 17 (by rw [y4]; exact Nat.le_of_ble_eq_true rfl); exact ⟨by first | rfl | simp only [z13, z17], by first | rfl | simp only [z13, z17]⟩) (by rw [y4]; exact ⟨_, rfl⟩) (by rw [d4]; exact Nat.le_of_ble_eq_true rfl) (Nat.le_of_ble_eq_true rfl) (by rw [k4, R4]; exact Nat.le_of_ble_eq_true rfl) (by rw [n4, R4]; exact Nat.le_of_ble_eq_true rfl) (by decide +kernel) rfl (fun G5 S5 => ?_)
  have C5 := S5.cx C4 (by rw [k4, R4]; exact Nat.le_of_ble_eq_true rfl) (by rw [n4, R4]; exact Nat.le_of_ble_eq_true rfl)
  have K5 := S5.ck K4
  have y5 : gly G5 = LY_38 := S5.ly
  have k5 : gk G5 = 7 := by rw [S5.k, k4]
  have n5 : gn G5 = 407 := by rw [S5.n, n4]
  have R5 := S5.R.trans R4
  have d5 := S5.d.trans d4
  have l5 := S5.nL.trans l4
  have a5 : ∀ j, j < 14 → gad G5 j = gad G0 j := fun j h => (S5.ad (by rw [y4]; exact Nat.lt_of_lt_of_le h (Nat.le_of_ble_eq_true rfl))).trans (a4 j h)
  show AW _ _ _ [(0, .ref (gad G5 13))] [.ref (gad G5 17), .ref (gad G5 13)]
  refine aw_putr C5 K5 (k := 1) (r0 := 17) fc_8 (hl := by rw [y5]; decide +kernel) (fs := [some (some 14), some none, some none, some none, some none, none, none, none, none, none, none, none, none]) (by decide +kernel) (by decide) rfl rfl ⟨ty8 1, by decide +kernel, fun _ => rfl, fun _ => rfl⟩ tb_167 LY_39 (by rw [y5]; decide +kernel) (by decide +kernel) rfl (fun G6 S6 b6 => ?_)
  rw [← b6]
  have C6 := S6.cx C5 (by rw [k5, R5]; exact Nat.le_of_ble_eq_true rfl) (by rw [n5, R5]; exact Nat.le_of_ble_eq_true rfl)
  have K6 := S6.ck K5
  have y6 : gly G6 = LY_39 := S6.ly
  have k6 : gk G6 = 7 := by rw [S6.k, k5]
  have n6 : gn G6 = 407 := by rw [S6.n, n5]
  have R6 := S6.R.trans R5
  have d6 := S6.d.trans d5
  have l6 := S6.nL.trans l5
  have a6 : ∀ j, j < 14 → gad G6 j = gad G0 j := fun j h => (S6.ad (by rw [y5]; exact Nat.lt_of_lt_of_le h (Nat.le_of_ble_eq_true rfl))).trans (a5 j h)
  refine aw_aload_n C6 0 0 (j := 0) rfl rfl (by decide +kernel) rfl ?_
  refine aw_sipush C6 (i0 := 160) (v := 160) (by decide) (by decide +kernel) rfl ?_
  refine aw_newarr C6 (fun ad => [(0, .ref (ad 13))]) (fun ad => [.ref (ad 13)]) (atype := .int) (N := 160) (Or.inl ⟨rfl, rfl⟩) (by rw [y6]; decide +kernel) ta_int (by decide) (by decide) (by decide) (by rw [k6, R6]; exact Nat.le_of_ble_eq_true rfl) (by rw [n6, R6]; exact Nat.le_of_ble_eq_true rfl) (fun a b h => by have z13 := h 13 (by rw [y6]; exact Nat.le_of_ble_eq_true rfl); exact ⟨by first | rfl | simp only [z13], by first | rfl | simp only [z13]⟩) (by decide +kernel) rfl (fun G7 S7 => ?_)
  have e7 : (gly G6).length = 21 := by rw [y6]; exact rfl
  rw [e7]
  have C7 := S7.cx C6 (by rw [k6, R6]; exact Nat.le_of_ble_eq_true rfl) (by rw [n6, R6]; exact Nat.le_of_ble_eq_true rfl)
  have K7 := S7.ck K6
  have y7 : gly G7 = LY_40 := by rw [S7.ly, y6]; decide +kernel
  have k7 : gk G7 = 8 := by rw [S7.k, k6]
  have n7 : gn G7 = 567 := by rw [S7.n, n6]
  have R7 := S7.R.trans R6
  have d7 := S7.d.trans d6
  have l7 := S7.nL.trans l6
  have a7 : ∀ j, j < 14 → gad G7 j = gad G0 j := fun j h => (S7.ad (by rw [y6]; exact Nat.lt_of_lt_of_le h (Nat.le_of_ble_eq_true rfl))).trans (a6 j h)
  show AW _ _ _ [(0, .ref (gad G7 13))] [.ref (gad G7 21), .ref (gad G7 13)]
  refine aw_putr C7 K7 (k := 2) (r0 := 21) fc_8 (hl := by rw [y7]; decide +kernel) (fs := [some (some 14), some (some 17), some none, some none, some none, none, none, none, none, none, none, none, none]) (by decide +kernel) (by decide) rfl rfl ⟨ty8 2, by decide +kernel, fun _ => rfl, fun _ => rfl⟩ tb_168 LY_41 (by rw [y7]; decide +kernel) (by decide +kernel) rfl (fun G8 S8 b8 => ?_)
  rw [← b8]
  have C8 := S8.cx C7 (by rw [k7, R7]; exact Nat.le_of_ble_eq_true rfl) (by rw [n7, R7]; exact Nat.le_of_ble_eq_true rfl)
  have K8 := S8.ck K7
  have y8 : gly G8 = LY_41 := S8.ly
  have k8 : gk G8 = 8 := by rw [S8.k, k7]
  have n8 : gn G8 = 567 := by rw [S8.n, n7]
  have R8 := S8.R.trans R7
  have d8 := S8.d.trans d7
  have l8 := S8.nL.trans l7
  have a8 : ∀ j, j < 14 → gad G8 j = gad G0 j := fun j h => (S8.ad (by rw [y7]; exact Nat.lt_of_lt_of_le h (Nat.le_of_ble_eq_true rfl))).trans (a7 j h)
  refine aw_aload_n C8 0 0 (j := 0) rfl rfl (by decide +kernel) rfl ?_
  refine aw_bipush C8 (i0 := 8) (v := 8) (by decide) (by decide +kernel) rfl ?_
  refine aw_newarr C8 (fun ad => [(0, .ref (ad 13))]) (fun ad => [.ref (ad 13)]) (atype := .int) (N := 8) (Or.inl ⟨rfl, rfl⟩) (by rw [y8]; decide +kernel) ta_int (by decide) (by decide) (by decide) (by rw [k8, R8]; exact Nat.le_of_ble_eq_true rfl) (by rw [n8, R8]; exact Nat.le_of_ble_eq_true rfl) (fun a b h => by have z13 := h 13 (by rw [y8]; exact Nat.le_of_ble_eq_true rfl); exact ⟨by first | rfl | simp only [z13], by first | rfl | simp only [z13]⟩) (by decide +kernel) rfl (fun G9 S9 => ?_)
  have e9 : (gly G8).length = 22 := by rw [y8]; exact rfl
  rw [e9]
  have C9 := S9.cx C8 (by rw [k8, R8]; exact Nat.le_of_ble_eq_true rfl) (by rw [n8, R8]; exact Nat.le_of_ble_eq_true rfl)
  have K9 := S9.ck K8
  have y9 : gly G9 = LY_42 := by rw [S9.ly, y8]; decide +kernel
  have k9 : gk G9 = 9 := by rw [S9.k, k8]
  have n9 : gn G9 = 575 := by rw [S9.n, n8]
  have R9 := S9.R.trans R8
  have d9 := S9.d.trans d8
  have l9 := S9.nL.trans l8
  have a9 : ∀ j, j < 14 → gad G9 j = gad G0 j := fun j h => (S9.ad (by rw [y8]; exact Nat.lt_of_lt_of_le h (Nat.le_of_ble_eq_true rfl))).trans (a8 j h)
  show AW _ _ _ [(0, .ref (gad G9 13))] [.ref (gad G9 22), .ref (gad G9 13)]
  refine aw_putr C9 K9 (k := 3) (r0 := 22) fc_8 (hl := by rw [y9]; decide +kernel) (fs := [some (some 14), some (some 17), some (some 21), some none, some none, none, none, none, none, none, none, none, none]) (by decide +kernel) (by decide) rfl rfl ⟨ty8 3, by decide +kernel, fun _ => rfl, fun _ => rfl⟩ tb_169 LY_43 (by rw [y9]; decide +kernel) (by decide +kernel) rfl (fun G10 S10 b10 => ?_)
  rw [← b10]
  have C10 := S10.cx C9 (by rw [k9, R9]; exact Nat.le_of_ble_eq_true rfl) (by rw [n9, R9]; exact Nat.le_of_ble_eq_true rfl)
  have K10 := S10.ck K9
  have y10 : gly G10 = LY_43 := S10.ly
  have k10 : gk G10 = 9 := by rw [S10.k, k9]
  have n10 : gn G10 = 575 := by rw [S10.n, n9]
  have R10 := S10.R.trans R9
  have d10 := S10.d.trans d9
  have l10 := S10.nL.trans l9
  have a10 : ∀ j, j < 14 → gad G10 j = gad G0 j := fun j h => (S10.ad (by rw [y9]; exact Nat.lt_of_lt_of_le h (Nat.le_of_ble_eq_true rfl))).trans (a9 j h)
  refine aw_aload_n C10 0 0 (j := 0) rfl rfl (by decide +kernel) rfl ?_
  refine aw_bipush C10 (i0 := 16) (v := 16) (by decide) (by decide +kernel) rfl ?_
  refine aw_newarr C10 (fun ad => [(0, .ref (ad 13))]) (fun ad => [.ref (ad 13)]) (atype := .int) (N := 16) (Or.inl ⟨rfl, rfl⟩) (by rw [y10]; decide +kernel) ta_int (by decide) (by decide) (by decide) (by rw [k10, R10]; exact Nat.le_of_ble_eq_true rfl) (by rw [n10, R10]; exact Nat.le_of_ble_eq_true rfl) (fun a b h => by have z13 := h 13 (by rw [y10]; exact Nat.le_of_ble_eq_true rfl); exact ⟨by first | rfl | simp only [z13], by first | rfl | simp only [z13]⟩) (by decide +kernel) rfl (fun G11 S11 => ?_)
  have e11 : (gly G10).length = 23 := by rw [y10]; exact rfl
  rw [e11]
  have C11 := S11.cx C10 (by rw [k10, R10]; exact Nat.le_of_ble_eq_true rfl) (by rw [n10, R10]; exact Nat.le_of_ble_eq_true rfl)
  have K11 := S11.ck K10
  have y11 : gly G11 = LY_44 := by rw [S11.ly, y10]; decide +kernel
  have k11 : gk G11 = 10 := by rw [S11.k, k10]
  have n11 : gn G11 = 591 := by rw [S11.n, n10]
  have R11 := S11.R.trans R10
  have d11 := S11.d.trans d10
  have l11 := S11.nL.trans l10
  have a11 : ∀ j, j < 14 → gad G11 j = gad G0 j := fun j h => (S11.ad (by rw [y10]; exact Nat.lt_of_lt_of_le h (Nat.le_of_ble_eq_true rfl))).trans (a10 j h)
  show AW _ _ _ [(0, .ref (gad G11 13))] [.ref (gad G11 23), .ref (gad G11 13)]
  refine aw_putr C11 K11 (k := 4) (r0 := 23) fc_8 (hl := by rw [y11]; decide +kernel) (fs := [some (some 14), some (some 17), some (some 21), some (some 22), some none, none, none, none, none, none, none, none, none]) (by decide +kernel) (by decide) rfl rfl ⟨ty8 4, by decide +kernel, fun _ => rfl, fun _ => rfl⟩ tb_170 LY_45 (by rw [y11]; decide +kernel) (by decide +kernel) rfl (fun G12 S12 b12 => ?_)
  rw [← b12]
  have C12 := S12.cx C11 (by rw [k11, R11]; exact Nat.le_of_ble_eq_true rfl) (by rw [n11, R11]; exact Nat.le_of_ble_eq_true rfl)
  have K12 := S12.ck K11
  have y12 : gly G12 = LY_45 := S12.ly
  have k12 : gk G12 = 10 := by rw [S12.k, k11]
  have n12 : gn G12 = 591 := by rw [S12.n, n11]
  have R12 := S12.R.trans R11
  have d12 := S12.d.trans d11
  have l12 := S12.nL.trans l11
  have a12 : ∀ j, j < 14 → gad G12 j = gad G0 j := fun j h => (S12.ad (by rw [y11]; exact Nat.lt_of_lt_of_le h (Nat.le_of_ble_eq_true rfl))).trans (a11 j h)
  exact aw_cret C12 K12 a12 y12 rfl k12 n12 (by decide +kernel)
theorem kc_7 (st : Mm) : ConK 1 Y6 prog_5_method_1_code LY_47 24 st LY_51 (sZ (sZ st 25) 26) 2 32 := by
  refine am_metK yf_6.2.2.2.2.2 rfl (fun G0 C0 K0 y0 l0 k0 n0 R0 d0 => ?_)
  have a0 : ∀ j, j < 25 → gad G0 j = gad G0 j := fun _ _ => rfl
  refine aw_aload_n C0 0 0 (j := 0) rfl rfl (by decide +kernel) rfl ?_
  refine aw_obj C0 (by rw [d0]; exact Nat.le_of_ble_eq_true rfl) (Nat.le_of_ble_eq_true rfl) tb_101 tb_24 tb_25 (by decide +kernel) rfl ?_
  refine aw_aload_n C0 0 0 (j := 0) rfl rfl (by decide +kernel) rfl ?_
  refine aw_bipush C0 (i0 := 16) (v := 16) (by decide) (by decide +kernel) rfl ?_
  refine aw_newarr C0 (fun ad => [(0, .ref (ad 24))]) (fun ad => [.ref (ad 24)]) (atype := .int) (N := 16) (Or.inl ⟨rfl, rfl⟩) (by rw [y0]; decide +kernel) ta_int (by decide) (by decide) (by decide) (by rw [k0, R0]; exact Nat.le_of_ble_eq_true rfl) (by rw [n0, R0]; exact Nat.le_of_ble_eq_true rfl) (fun a b h => by have z24 := h 24 (by rw [y0]; exact Nat.le_of_ble_eq_true rfl); exact ⟨by first | rfl | simp only [z24], by first | rfl | simp only [z24]⟩) (by decide +kernel) rfl (fun G1 S1 => ?_)
  have e1 : (gly G0).length = 25 := by rw [y0]; exact rfl
  rw [e1]
  have C1 := S1.cx C0 (by rw [k0, R0]; exact Nat.le_of_ble_eq_true rfl) (by rw [n0, R0]; exact Nat.le_of_ble_eq_true rfl)
  have K1 := S1.ck K0
  have y1 : gly G1 = LY_48 := by rw [S1.ly, y0]; decide +kernel
  have k1 : gk G1 = 1 := by rw [S1.k, k0]
  have n1 : gn G1 = 16 := by rw [S1.n, n0]
  have R1 := S1.R.trans R0
  have d1 := S1.d.trans d0
  have l1 := S1.nL.trans l0
  have a1 : ∀ j, j < 25 → gad G1 j = gad G0 j := fun j h => (S1.ad (by rw [y0]; exact Nat.lt_of_lt_of_le h (Nat.le_of_ble_eq_true rfl))).trans (a0 j h)
  show AW _ _ _ [(0, .ref (gad G1 24))] [.ref (gad G1 25), .ref (gad G1 24)]
  refine aw_putr C1 K1 (k := 6) (r0 := 25) fc_3 (hl := by rw [y1]; decide +kernel) (fs := [none, none, none, none, none, none, some none, some none]) (by decide +kernel) (by decide) rfl rfl ⟨ty3 6, by decide +kernel, fun _ => rfl, fun _ => rfl⟩ tb_119 LY_49 (by rw [y1]; decide +kernel) (by decide +kernel) rfl (fun G2 S2 b2 => ?_)
  rw [← b2]
  have C2 := S2.cx C1 (by rw [k1, R1]; exact Nat.le_of_ble_eq_true rfl) (by rw [n1, R1]; exact Nat.le_of_ble_eq_true rfl)
  have K2 := S2.ck K1
  have y2 : gly G2 = LY_49 := S2.ly
  have k2 : gk G2 = 1 := by rw [S2.k, k1]
  have n2 : gn G2 = 16 := by rw [S2.n, n1]
  have R2 := S2.R.trans R1
  have d2 := S2.d.trans d1
  have l2 := S2.nL.trans l1
  have a2 : ∀ j, j < 25 → gad G2 j = gad G0 j := fun j h => (S2.ad (by rw [y1]; exact Nat.lt_of_lt_of_le h (Nat.le_of_ble_eq_true rfl))).trans (a1 j h)
  refine aw_aload_n C2 0 0 (j := 0) rfl rfl (by decide +kernel) rfl ?_
  refine aw_bipush C2 (i0 := 16) (v := 16) (by decide) (by decide +kernel) rfl ?_
  refine aw_newarr C2 (fun ad => [(0, .ref (ad 24))]) (fun ad => [.ref (ad 24)]) (atype := .int) (N := 16) (Or.inl ⟨rfl, rfl⟩) (by rw [y2]; decide +kernel) ta_int (by decide) (by decide) (by decide) (by rw [k2, R2]; exact Nat.le_of_ble_eq_true rfl) (by rw [n2, R2]; exact Nat.le_of_ble_eq_true rfl) (fun a b h => by have z24 := h 24 (by rw [y2]; exact Nat.le_of_ble_eq_true rfl); exact ⟨by first | rfl | simp only [z24], by first | rfl | simp only [z24]⟩) (by decide +kernel) rfl (fun G3 S3 => ?_)
  have e3 : (gly G2).length = 26 := by rw [y2]; exact rfl
  rw [e3]
  have C3 := S3.cx C2 (by rw [k2, R2]; exact Nat.le_of_ble_eq_true rfl) (by rw [n2, R2]; exact Nat.le_of_ble_eq_true rfl)
  have K3 := S3.ck K2
  have y3 : gly G3 = LY_50 := by rw [S3.ly, y2]; decide +kernel
  have k3 : gk G3 = 2 := by rw [S3.k, k2]
  have n3 : gn G3 = 32 := by rw [S3.n, n2]
  have R3 := S3.R.trans R2
  have d3 := S3.d.trans d2
  have l3 := S3.nL.trans l2
  have a3 : ∀ j, j < 25 → gad G3 j = gad G0 j := fun j h => (S3.ad (by rw [y2]; exact Nat.lt_of_lt_of_le h (Nat.le_of_ble_eq_true rfl))).trans (a2 j h)
  show AW _ _ _ [(0, .ref (gad G3 24))] [.ref (gad G3 26), .ref (gad G3 24)]
  refine aw_putr C3 K3 (k := 7) (r0 := 26) fc_3 (hl := by rw [y3]; decide +kernel) (fs := [none, none, none, none, none, none, some (some 25), some none]) (by decide +kernel) (by decide) rfl rfl ⟨ty3 7, by decide +kernel, fun _ => rfl, fun _ => rfl⟩ tb_120 LY_51 (by rw [y3]; decide +kernel) (by decide +kernel) rfl (fun G4 S4 b4 => ?_)
  rw [← b4]
  have C4 := S4.cx C3 (by rw [k3, R3]; exact Nat.le_of_ble_eq_true rfl) (by rw [n3, R3]; exact Nat.le_of_ble_eq_true rfl)
  have K4 := S4.ck K3
  have y4 : gly G4 = LY_51 := S4.ly
  have k4 : gk G4 = 2 := by rw [S4.k, k3]
  have n4 : gn G4 = 32 := by rw [S4.n, n3]
  have R4 := S4.R.trans R3
  have d4 := S4.d.trans d3
  have l4 := S4.nL.trans l3
  have a4 : ∀ j, j < 25 → gad G4 j = gad G0 j := fun j h => (S4.ad (by rw [y3]; exact Nat.lt_of_lt_of_le h (Nat.le_of_ble_eq_true rfl))).trans (a3 j h)
  exact aw_cret C4 K4 a4 y4 rfl k4 n4 (by decide +kernel)
theorem kc_8 (st : Mm) : ConK 1 Y6 prog_5_method_1_code LY_53 27 st LY_57 (sZ (sZ st 28) 29) 2 32 := by
  refine am_metK yf_6.2.2.2.2.2 rfl (fun G0 C0 K0 y0 l0 k0 n0 R0 d0 => ?_)
  have a0 : ∀ j, j < 28 → gad G0 j = gad G0 j := fun _ _ => rfl
  refine aw_aload_n C0 0 0 (j := 0) rfl rfl (by decide +kernel) rfl ?_
  refine aw_obj C0 (by rw [d0]; exact Nat.le_of_ble_eq_true rfl) (Nat.le_of_ble_eq_true rfl) tb_101 tb_24 tb_25 (by decide +kernel) rfl ?_
  refine aw_aload_n C0 0 0 (j := 0) rfl rfl (by decide +kernel) rfl ?_
  refine aw_bipush C0 (i0 := 16) (v := 16) (by decide) (by decide +kernel) rfl ?_
  refine aw_newarr C0 (fun ad => [(0, .ref (ad 27))]) (fun ad => [.ref (ad 27)]) (atype := .int) (N := 16) (Or.inl ⟨rfl, rfl⟩) (by rw [y0]; decide +kernel) ta_int (by decide) (by decide) (by decide) (by rw [k0, R0]; exact Nat.le_of_ble_eq_true rfl) (by rw [n0, R0]; exact Nat.le_of_ble_eq_true rfl) (fun a b h => by have z27 := h 27 (by rw [y0]; exact Nat.le_of_ble_eq_true rfl); exact ⟨by first | rfl | simp only [z27], by first | rfl | simp only [z27]⟩) (by decide +kernel) rfl (fun G1 S1 => ?_)
  have e1 : (gly G0).length = 28 := by rw [y0]; exact rfl
  rw [e1]
  have C1 := S1.cx C0 (by rw [k0, R0]; exact Nat.le_of_ble_eq_true rfl) (by rw [n0, R0]; exact Nat.le_of_ble_eq_true rfl)
  have K1 := S1.ck K0
  have y1 : gly G1 = LY_54 := by rw [S1.ly, y0]; decide +kernel
  have k1 : gk G1 = 1 := by rw [S1.k, k0]
  have n1 : gn G1 = 16 := by rw [S1.n, n0]
  have R1 := S1.R.trans R0
  have d1 := S1.d.trans d0
  have l1 := S1.nL.trans l0
  have a1 : ∀ j, j < 28 → gad G1 j = gad G0 j := fun j h => (S1.ad (by rw [y0]; exact Nat.lt_of_lt_of_le h (Nat.le_of_ble_eq_true rfl))).trans (a0 j h)
  show AW _ _ _ [(0, .ref (gad G1 27))] [.ref (gad G1 28), .ref (gad G1 27)]
  refine aw_putr C1 K1 (k := 6) (r0 := 28) fc_3 (hl := by rw [y1]; decide +kernel) (fs := [none, none, none, none, none, none, some none, some none]) (by decide +kernel) (by decide) rfl rfl ⟨ty3 6, by decide +kernel, fun _ => rfl, fun _ => rfl⟩ tb_119 LY_55 (by rw [y1]; decide +kernel) (by decide +kernel) rfl (fun G2 S2 b2 => ?_)
  rw [← b2]
  have C2 := S2.cx C1 (by rw [k1, R1]; exact Nat.le_of_ble_eq_true rfl) (by rw [n1, R1]; exact Nat.le_of_ble_eq_true rfl)
  have K2 := S2.ck K1
  have y2 : gly G2 = LY_55 := S2.ly
  have k2 : gk G2 = 1 := by rw [S2.k, k1]
  have n2 : gn G2 = 16 := by rw [S2.n, n1]
  have R2 := S2.R.trans R1
  have d2 := S2.d.trans d1
  have l2 := S2.nL.trans l1
  have a2 : ∀ j, j < 28 → gad G2 j = gad G0 j := fun j h => (S2.ad (by rw [y1]; exact Nat.lt_of_lt_of_le h (Nat.le_of_ble_eq_true rfl))).trans (a1 j h)
  refine aw_aload_n C2 0 0 (j := 0) rfl rfl (by decide +kernel) rfl ?_
  refine aw_bipush C2 (i0 := 16) (v := 16) (by decide) (by decide +kernel) rfl ?_
  refine aw_newarr C2 (fun ad => [(0, .ref (ad 27))]) (fun ad => [.ref (ad 27)]) (atype := .int) (N := 16) (Or.inl ⟨rfl, rfl⟩) (by rw [y2]; decide +kernel) ta_int (by decide) (by decide) (by decide) (by rw [k2, R2]; exact Nat.le_of_ble_eq_true rfl) (by rw [n2, R2]; exact Nat.le_of_ble_eq_true rfl) (fun a b h => by have z27 := h 27 (by rw [y2]; exact Nat.le_of_ble_eq_true rfl); exact ⟨by first | rfl | simp only [z27], by first | rfl | simp only [z27]⟩) (by decide +kernel) rfl (fun G3 S3 => ?_)
  have e3 : (gly G2).length = 29 := by rw [y2]; exact rfl
  rw [e3]
  have C3 := S3.cx C2 (by rw [k2, R2]; exact Nat.le_of_ble_eq_true rfl) (by rw [n2, R2]; exact Nat.le_of_ble_eq_true rfl)
  have K3 := S3.ck K2
  have y3 : gly G3 = LY_56 := by rw [S3.ly, y2]; decide +kernel
  have k3 : gk G3 = 2 := by rw [S3.k, k2]
  have n3 : gn G3 = 32 := by rw [S3.n, n2]
  have R3 := S3.R.trans R2
  have d3 := S3.d.trans d2
  have l3 := S3.nL.trans l2
  have a3 : ∀ j, j < 28 → gad G3 j = gad G0 j := fun j h => (S3.ad (by rw [y2]; exact Nat.lt_of_lt_of_le h (Nat.le_of_ble_eq_true rfl))).trans (a2 j h)
  show AW _ _ _ [(0, .ref (gad G3 27))] [.ref (gad G3 29), .ref (gad G3 27)]
  refine aw_putr C3 K3 (k := 7) (r0 := 29) fc_3 (hl := by rw [y3]; decide +kernel) (fs := [none, none, none, none, none, none, some (some 28), some none]) (by decide +kernel) (by decide) rfl rfl ⟨ty3 7, by decide +kernel, fun _ => rfl, fun _ => rfl⟩ tb_120 LY_57 (by rw [y3]; decide +kernel) (by decide +kernel) rfl (fun G4 S4 b4 => ?_)
  rw [← b4]
  have C4 := S4.cx C3 (by rw [k3, R3]; exact Nat.le_of_ble_eq_true rfl) (by rw [n3, R3]; exact Nat.le_of_ble_eq_true rfl)
  have K4 := S4.ck K3
  have y4 : gly G4 = LY_57 := S4.ly
  have k4 : gk G4 = 2 := by rw [S4.k, k3]
  have n4 : gn G4 = 32 := by rw [S4.n, n3]
  have R4 := S4.R.trans R3
  have d4 := S4.d.trans d3
  have l4 := S4.nL.trans l3
  have a4 : ∀ j, j < 28 → gad G4 j = gad G0 j := fun j h => (S4.ad (by rw [y3]; exact Nat.lt_of_lt_of_le h (Nat.le_of_ble_eq_true rfl))).trans (a3 j h)
  exact aw_cret C4 K4 a4 y4 rfl k4 n4 (by decide +kernel)
theorem kc_9 (st : Mm) : ConK 1 Y8 prog_8_method_1_code LY_59 30 st LY_65 (sZ (sZ (sZ st 31) 32) 33) 3 288 := by
  refine am_metK yf_8.2.2.2.2.2 rfl (fun G0 C0 K0 y0 l0 k0 n0 R0 d0 => ?_)
  have a0 : ∀ j, j < 31 → gad G0 j = gad G0 j := fun _ _ => rfl
  refine aw_aload_n C0 0 0 (j := 0) rfl rfl (by decide +kernel) rfl ?_
  refine aw_obj C0 (by rw [d0]; exact Nat.le_of_ble_eq_true rfl) (Nat.le_of_ble_eq_true rfl) tb_213 tb_24 tb_25 (by decide +kernel) rfl ?_
  refine aw_aload_n C0 0 0 (j := 0) rfl rfl (by decide +kernel) rfl ?_
  refine aw_bipush C0 (i0 := 16) (v := 16) (by decide) (by decide +kernel) rfl ?_
  refine aw_newarr C0 (fun ad => [(0, .ref (ad 30))]) (fun ad => [.ref (ad 30)]) (atype := .int) (N := 16) (Or.inl ⟨rfl, rfl⟩) (by rw [y0]; decide +kernel) ta_int (by decide) (by decide) (by decide) (by rw [k0, R0]; exact Nat.le_of_ble_eq_true rfl) (by rw [n0, R0]; exact Nat.le_of_ble_eq_true rfl) (fun a b h => by have z30 := h 30 (by rw [y0]; exact Nat.le_of_ble_eq_true rfl); exact ⟨by first | rfl | simp only [z30], by first | rfl | simp only [z30]⟩) (by decide +kernel) rfl (fun G1 S1 => ?_)
  have e1 : (gly G0).length = 31 := by rw [y0]; exact rfl
  rw [e1]
  have C1 := S1.cx C0 (by rw [k0, R0]; exact Nat.le_of_ble_eq_true rfl) (by rw [n0, R0]; exact Nat.le_of_ble_eq_true rfl)
  have K1 := S1.ck K0
  have y1 : gly G1 = LY_60 := by rw [S1.ly, y0]; decide +kernel
  have k1 : gk G1 = 1 := by rw [S1.k, k0]
  have n1 : gn G1 = 16 := by rw [S1.n, n0]
  have R1 := S1.R.trans R0
  have d1 := S1.d.trans d0
  have l1 := S1.nL.trans l0
  have a1 : ∀ j, j < 31 → gad G1 j = gad G0 j := fun j h => (S1.ad (by rw [y0]; exact Nat.lt_of_lt_of_le h (Nat.le_of_ble_eq_true rfl))).trans (a0 j h)
  show AW _ _ _ [(0, .ref (gad G1 30))] [.ref (gad G1 31), .ref (gad G1 30)]
  refine aw_putr C1 K1 (k := 1) (r0 := 31) fc_6 (hl := by rw [y1]; decide +kernel) (fs := [none, some none, some none, some none]) (by decide +kernel) (by decide) rfl rfl ⟨ty6 1, by decide +kernel, fun _ => rfl, fun _ => rfl⟩ tb_218 LY_61 (by rw [y1]; decide +kernel) (by decide +kernel) rfl (fun G2 S2 b2 => ?_)
  rw [← b2]
  have C2 := S2.cx C1 (by rw [k1, R1]; exact Nat.le_of_ble_eq_true rfl) (by rw [n1, R1]; exact Nat.le_of_ble_eq_true rfl)
  have K2 := S2.ck K1
  have y2 : gly G2 = LY_61 := S2.ly
  have k2 : gk G2 = 1 := by rw [S2.k, k1]
  have n2 : gn G2 = 16 := by rw [S2.n, n1]
  have R2 := S2.R.trans R1
  have d2 := S2.d.trans d1
  have l2 := S2.nL.trans l1
  have a2 : ∀ j, j < 31 → gad G2 j = gad G0 j := fun j h => (S2.ad (by rw [y1]; exact Nat.lt_of_lt_of_le h (Nat.le_of_ble_eq_true rfl))).trans (a1 j h)
  refine aw_aload_n C2 0 0 (j := 0) rfl rfl (by decide +kernel) rfl ?_
  refine aw_bipush C2 (i0 := 16) (v := 16) (by decide) (by decide +kernel) rfl ?_
  refine aw_newarr C2 (fun ad => [(0, .ref (ad 30))]) (fun ad => [.ref (ad 30)]) (atype := .int) (N := 16) (Or.inl ⟨rfl, rfl⟩) (by rw [y2]; decide +kernel) ta_int (by decide) (by decide) (by decide) (by rw [k2, R2]; exact Nat.le_of_ble_eq_true rfl) (by rw [n2, R2]; exact Nat.le_of_ble_eq_true rfl) (fun a b h => by have z30 := h 30 (by rw [y2]; exact Nat.le_of_ble_eq_true rfl); exact ⟨by first | rfl | simp only [z30], by first | rfl | simp only [z30]⟩) (by decide +kernel) rfl (fun G3 S3 => ?_)
  have e3 : (gly G2).length = 32 := by rw [y2]; exact rfl
  rw [e3]
  have C3 := S3.cx C2 (by rw [k2, R2]; exact Nat.le_of_ble_eq_true rfl) (by rw [n2, R2]; exact Nat.le_of_ble_eq_true rfl)
  have K3 := S3.ck K2
  have y3 : gly G3 = LY_62 := by rw [S3.ly, y2]; decide +kernel
  have k3 : gk G3 = 2 := by rw [S3.k, k2]
  have n3 : gn G3 = 32 := by rw [S3.n, n2]
  have R3 := S3.R.trans R2
  have d3 := S3.d.trans d2
  have l3 := S3.nL.trans l2
  have a3 : ∀ j, j < 31 → gad G3 j = gad G0 j := fun j h => (S3.ad (by rw [y2]; exact Nat.lt_of_lt_of_le h (Nat.le_of_ble_eq_true rfl))).trans (a2 j h)
  show AW _ _ _ [(0, .ref (gad G3 30))] [.ref (gad G3 32), .ref (gad G3 30)]
  refine aw_putr C3 K3 (k := 2) (r0 := 32) fc_6 (hl := by rw [y3]; decide +kernel) (fs := [none, some (some 31), some none, some none]) (by decide +kernel) (by decide) rfl rfl ⟨ty6 2, by decide +kernel, fun _ => rfl, fun _ => rfl⟩ tb_222 LY_63 (by rw [y3]; decide +kernel) (by decide +kernel) rfl (fun G4 S4 b4 => ?_)
  rw [← b4]
  have C4 := S4.cx C3 (by rw [k3, R3]; exact Nat.le_of_ble_eq_true rfl) (by rw [n3, R3]; exact Nat.le_of_ble_eq_true rfl)
  have K4 := S4.ck K3
  have y4 : gly G4 = LY_63 := S4.ly
  have k4 : gk G4 = 2 := by rw [S4.k, k3]
  have n4 : gn G4 = 32 := by rw [S4.n, n3]
  have R4 := S4.R.trans R3
  have d4 := S4.d.trans d3
  have l4 := S4.nL.trans l3
  have a4 : ∀ j, j < 31 → gad G4 j = gad G0 j := fun j h => (S4.ad (by rw [y3]; exact Nat.lt_of_lt_of_le h (Nat.le_of_ble_eq_true rfl))).trans (a3 j h)
  refine aw_aload_n C4 0 0 (j := 0) rfl rfl (by decide +kernel) rfl ?_
  refine aw_sipush C4 (i0 := 256) (v := 256) (by decide) (by decide +kernel) rfl ?_
  refine aw_newarr C4 (fun ad => [(0, .ref (ad 30))]) (fun ad => [.ref (ad 30)]) (atype := .int) (N := 256) (Or.inl ⟨rfl, rfl⟩) (by rw [y4]; decide +kernel) ta_int (by decide) (by decide) (by decide) (by rw [k4, R4]; exact Nat.le_of_ble_eq_true rfl) (by rw [n4, R4]; exact Nat.le_of_ble_eq_true rfl) (fun a b h => by have z30 := h 30 (by rw [y4]; exact Nat.le_of_ble_eq_true rfl); exact ⟨by first | rfl | simp only [z30], by first | rfl | simp only [z30]⟩) (by decide +kernel) rfl (fun G5 S5 => ?_)
  have e5 : (gly G4).length = 33 := by rw [y4]; exact rfl
  rw [e5]
  have C5 := S5.cx C4 (by rw [k4, R4]; exact Nat.le_of_ble_eq_true rfl) (by rw [n4, R4]; exact Nat.le_of_ble_eq_true rfl)
  have K5 := S5.ck K4
  have y5 : gly G5 = LY_64 := by rw [S5.ly, y4]; decide +kernel
  have k5 : gk G5 = 3 := by rw [S5.k, k4]
  have n5 : gn G5 = 288 := by rw [S5.n, n4]
  have R5 := S5.R.trans R4
  have d5 := S5.d.trans d4
  have l5 := S5.nL.trans l4
  have a5 : ∀ j, j < 31 → gad G5 j = gad G0 j := fun j h => (S5.ad (by rw [y4]; exact Nat.lt_of_lt_of_le h (Nat.le_of_ble_eq_true rfl))).trans (a4 j h)
  show AW _ _ _ [(0, .ref (gad G5 30))] [.ref (gad G5 33), .ref (gad G5 30)]
  refine aw_putr C5 K5 (k := 3) (r0 := 33) fc_6 (hl := by rw [y5]; decide +kernel) (fs := [none, some (some 31), some (some 32), some none]) (by decide +kernel) (by decide) rfl rfl ⟨ty6 3, by decide +kernel, fun _ => rfl, fun _ => rfl⟩ tb_223 LY_65 (by rw [y5]; decide +kernel) (by decide +kernel) rfl (fun G6 S6 b6 => ?_)
  rw [← b6]
  have C6 := S6.cx C5 (by rw [k5, R5]; exact Nat.le_of_ble_eq_true rfl) (by rw [n5, R5]; exact Nat.le_of_ble_eq_true rfl)
  have K6 := S6.ck K5
  have y6 : gly G6 = LY_65 := S6.ly
  have k6 : gk G6 = 3 := by rw [S6.k, k5]
  have n6 : gn G6 = 288 := by rw [S6.n, n5]
  have R6 := S6.R.trans R5
  have d6 := S6.d.trans d5
  have l6 := S6.nL.trans l5
  have a6 : ∀ j, j < 31 → gad G6 j = gad G0 j := fun j h => (S6.ad (by rw [y5]; exact Nat.lt_of_lt_of_le h (Nat.le_of_ble_eq_true rfl))).trans (a5 j h)
  exact aw_cret C6 K6 a6 y6 rfl k6 n6 (by decide +kernel)
theorem kc_10 (st : Mm) : ConK 1 Y9 prog_9_method_1_code LY_67 34 st LY_81 (sZ (sZ (sZ (sZ (sZ (sZ (sZ (sI st 34 0 0) 35) 36) 37) 38) 39) 40) 41) 7 1552 := by
  refine am_metK yf_9.2.2.2.2.2 rfl (fun G0 C0 K0 y0 l0 k0 n0 R0 d0 => ?_)
  have a0 : ∀ j, j < 35 → gad G0 j = gad G0 j := fun _ _ => rfl
  refine aw_aload_n C0 0 0 (j := 0) rfl rfl (by decide +kernel) rfl ?_
  refine aw_obj C0 (by rw [d0]; exact Nat.le_of_ble_eq_true rfl) (Nat.le_of_ble_eq_true rfl) tb_238 tb_24 tb_25 (by decide +kernel) rfl ?_
  refine aw_aload_n C0 0 0 (j := 0) rfl rfl (by decide +kernel) rfl ?_
  refine aw_iconst C0 (i0 := 0) (v := 0) (by decide) (by decide +kernel) rfl ?_
  refine aw_putZ C0 (k := 0) (fs := [none, none, none, some none, some none, some none, none, some none, some none, some none, some none]) fc_7 (by rw [y0]; decide +kernel) rfl (by decide) rfl rfl (by decide) tb_239 (by decide +kernel) rfl ?_
  refine aw_aload_n C0 0 0 (j := 0) rfl rfl (by decide +kernel) rfl ?_
  refine aw_sipush C0 (i0 := 256) (v := 256) (by decide) (by decide +kernel) rfl ?_
  refine aw_newarr C0 (fun ad => [(0, .ref (ad 34))]) (fun ad => [.ref (ad 34)]) (atype := .int) (N := 256) (Or.inl ⟨rfl, rfl⟩) (by rw [y0]; decide +kernel) ta_int (by decide) (by decide) (by decide) (by rw [k0, R0]; exact Nat.le_of_ble_eq_true rfl) (by rw [n0, R0]; exact Nat.le_of_ble_eq_true rfl) (fun a b h => by have z34 := h 34 (by rw [y0]; exact Nat.le_of_ble_eq_true rfl); exact ⟨by first | rfl | simp only [z34], by first | rfl | simp only [z34]⟩) (by decide +kernel) rfl (fun G1 S1 => ?_)
  have e1 : (gly G0).length = 35 := by rw [y0]; exact rfl
  rw [e1]
  have C1 := S1.cx C0 (by rw [k0, R0]; exact Nat.le_of_ble_eq_true rfl) (by rw [n0, R0]; exact Nat.le_of_ble_eq_true rfl)
  have K1 := S1.ck K0
  have y1 : gly G1 = LY_68 := by rw [S1.ly, y0]; decide +kernel
  have k1 : gk G1 = 1 := by rw [S1.k, k0]
  have n1 : gn G1 = 256 := by rw [S1.n, n0]
  have R1 := S1.R.trans R0
  have d1 := S1.d.trans d0
  have l1 := S1.nL.trans l0
  have a1 : ∀ j, j < 35 → gad G1 j = gad G0 j := fun j h => (S1.ad (by rw [y0]; exact Nat.lt_of_lt_of_le h (Nat.le_of_ble_eq_true rfl))).trans (a0 j h)
  show AW _ _ _ [(0, .ref (gad G1 34))] [.ref (gad G1 35), .ref (gad G1 34)]
  refine aw_putr C1 K1 (k := 3) (r0 := 35) fc_7 (hl := by rw [y1]; decide +kernel) (fs := [none, none, none, some none, some none, some none, none, some none, some none, some none, some none]) (by decide +kernel) (by decide) rfl rfl ⟨ty7 3, by decide +kernel, fun _ => rfl, fun _ => rfl⟩ tb_245 LY_69 (by rw [y1]; decide +kernel) (by decide +kernel) rfl (fun G2 S2 b2 => ?_)
  rw [← b2]
  have C2 := S2.cx C1 (by rw [k1, R1]; exact Nat.le_of_ble_eq_true rfl) (by rw [n1, R1]; exact Nat.le_of_ble_eq_true rfl)
  have K2 := S2.ck K1
  have y2 : gly G2 = LY_69 := S2.ly
  have k2 : gk G2 = 1 := by rw [S2.k, k1]
  have n2 : gn G2 = 256 := by rw [S2.n, n1]
  have R2 := S2.R.trans R1
  have d2 := S2.d.trans d1
  have l2 := S2.nL.trans l1
  have a2 : ∀ j, j < 35 → gad G2 j = gad G0 j := fun j h => (S2.ad (by rw [y1]; exact Nat.lt_of_lt_of_le h (Nat.le_of_ble_eq_true rfl))).trans (a1 j h)
  refine aw_aload_n C2 0 0 (j := 0) rfl rfl (by decide +kernel) rfl ?_
  refine aw_sipush C2 (i0 := 256) (v := 256) (by decide) (by decide +kernel) rfl ?_
  refine aw_newarr C2 (fun ad => [(0, .ref (ad 34))]) (fun ad => [.ref (ad 34)]) (atype := .int) (N := 256) (Or.inl ⟨rfl, rfl⟩) (by rw [y2]; decide +kernel) ta_int (by decide) (by decide) (by decide) (by rw [k2, R2]; exact Nat.le_of_ble_eq_true rfl) (by rw [n2, R2]; exact Nat.le_of_ble_eq_true rfl) (fun a b h => by have z34 := h 34 (by rw [y2]; exact Nat.le_of_ble_eq_true rfl); exact ⟨by first | rfl | simp only [z34], by first | rfl | simp only [z34]⟩) (by decide +kernel) rfl (fun G3 S3 => ?_)
  have e3 : (gly G2).length = 36 := by rw [y2]; exact rfl
  rw [e3]
  have C3 := S3.cx C2 (by rw [k2, R2]; exact Nat.le_of_ble_eq_true rfl) (by rw [n2, R2]; exact Nat.le_of_ble_eq_true rfl)
  have K3 := S3.ck K2
  have y3 : gly G3 = LY_70 := by rw [S3.ly, y2]; decide +kernel
  have k3 : gk G3 = 2 := by rw [S3.k, k2]
  have n3 : gn G3 = 512 := by rw [S3.n, n2]
  have R3 := S3.R.trans R2
  have d3 := S3.d.trans d2
  have l3 := S3.nL.trans l2
  have a3 : ∀ j, j < 35 → gad G3 j = gad G0 j := fun j h => (S3.ad (by rw [y2]; exact Nat.lt_of_lt_of_le h (Nat.le_of_ble_eq_true rfl))).trans (a2 j h)
  show AW _ _ _ [(0, .ref (gad G3 34))] [.ref (gad G3 36), .ref (gad G3 34)]
  refine aw_putr C3 K3 (k := 4) (r0 := 36) fc_7 (hl := by rw [y3]; decide +kernel) (fs := [none, none, none, some (some 35), some none, some none, none, some none, some none, some none, some none]) (by decide +kernel) (by decide) rfl rfl ⟨ty7 4, by decide +kernel, fun _ => rfl, fun _ => rfl⟩ tb_248 LY_71 (by rw [y3]; decide +kernel) (by decide +kernel) rfl (fun G4 S4 b4 => ?_)
  rw [← b4]
  have C4 := S4.cx C3 (by rw [k3, R3]; exact Nat.le_of_ble_eq_true rfl) (by rw [n3, R3]; exact Nat.le_of_ble_eq_true rfl)
  have K4 := S4.ck K3
  have y4 : gly G4 = LY_71 := S4.ly
  have k4 : gk G4 = 2 := by rw [S4.k, k3]
  have n4 : gn G4 = 512 := by rw [S4.n, n3]
  have R4 := S4.R.trans R3
  have d4 := S4.d.trans d3
  have l4 := S4.nL.trans l3
  have a4 : ∀ j, j < 35 → gad G4 j = gad G0 j := fun j h => (S4.ad (by rw [y3]; exact Nat.lt_of_lt_of_le h (Nat.le_of_ble_eq_true rfl))).trans (a3 j h)
  refine aw_aload_n C4 0 0 (j := 0) rfl rfl (by decide +kernel) rfl ?_
  refine aw_bipush C4 (i0 := 16) (v := 16) (by decide) (by decide +kernel) rfl ?_
  refine aw_newarr C4 (fun ad => [(0, .ref (ad 34))]) (fun ad => [.ref (ad 34)]) (atype := .int) (N := 16) (Or.inl ⟨rfl, rfl⟩) (by rw [y4]; decide +kernel) ta_int (by decide) (by decide) (by decide) (by rw [k4, R4]; exact Nat.le_of_ble_eq_true rfl) (by rw [n4, R4]; exact Nat.le_of_ble_eq_true rfl) (fun a b h => by have z34 := h 34 (by rw [y4]; exact Nat.le_of_ble_eq_true rfl); exact ⟨by first | rfl | simp only [z34], by first | rfl | simp only [z34]⟩) (by decide +kernel) rfl (fun G5 S5 => ?_)
  have e5 : (gly G4).length = 37 := by rw [y4]; exact rfl
  rw [e5]
  have C5 := S5.cx C4 (by rw [k4, R4]; exact Nat.le_of_ble_eq_true rfl) (by rw [n4, R4]; exact Nat.le_of_ble_eq_true rfl)
  have K5 := S5.ck K4
  have y5 : gly G5 = LY_72 := by rw [S5.ly, y4]; decide +kernel
  have k5 : gk G5 = 3 := by rw [S5.k, k4]
  have n5 : gn G5 = 528 := by rw [S5.n, n4]
  have R5 := S5.R.trans R4
  have d5 := S5.d.trans d4
  have l5 := S5.nL.trans l4
  have a5 : ∀ j, j < 35 → gad G5 j = gad G0 j := fun j h => (S5.ad (by rw [y4]; exact Nat.lt_of_lt_of_le h (Nat.le_of_ble_eq_true rfl))).trans (a4 j h)
  show AW _ _ _ [(0, .ref (gad G5 34))] [.ref (gad G5 37), .ref (gad G5 34)]
  refine aw_putr C5 K5 (k := 5) (r0 := 37) fc_7 (hl := by rw [y5]; decide +kernel) (fs := [none, none, none, some (some 35), some (some 36), some none, none, some none, some none, some none, some none]) (by decide +kernel) (by decide) rfl rfl ⟨ty7 5, by decide +kernel, fun _ => rfl, fun _ => rfl⟩ tb_250 LY_73 (by rw [y5]; decide +kernel) (by decide +kernel) rfl (fun G6 S6 b6 => ?_)
  rw [← b6]
  have C6 := S6.cx C5 (by rw [k5, R5]; exact Nat.le_of_ble_eq_true rfl) (by rw [n5, R5]; exact Nat.le_of_ble_eq_true rfl)
  have K6 := S6.ck K5
  have y6 : gly G6 = LY_73 := S6.ly
  have k6 : gk G6 = 3 := by rw [S6.k, k5]
  have n6 : gn G6 = 528 := by rw [S6.n, n5]
  have R6 := S6.R.trans R5
  have d6 := S6.d.trans d5
  have l6 := S6.nL.trans l5
  have a6 : ∀ j, j < 35 → gad G6 j = gad G0 j := fun j h => (S6.ad (by rw [y5]; exact Nat.lt_of_lt_of_le h (Nat.le_of_ble_eq_true rfl))).trans (a5 j h)
  refine aw_aload_n C6 0 0 (j := 0) rfl rfl (by decide +kernel) rfl ?_
  refine aw_sipush C6 (i0 := 256) (v := 256) (by decide) (by decide +kernel) rfl ?_
  refine aw_newarr C6 (fun ad => [(0, .ref (ad 34))]) (fun ad => [.ref (ad 34)]) (atype := .int) (N := 256) (Or.inl ⟨rfl, rfl⟩) (by rw [y6]; decide +kernel) ta_int (by decide) (by decide) (by decide) (by rw [k6, R6]; exact Nat.le_of_ble_eq_true rfl) (by rw [n6, R6]; exact Nat.le_of_ble_eq_true rfl) (fun a b h => by have z34 := h 34 (by rw [y6]; exact Nat.le_of_ble_eq_true rfl); exact ⟨by first | rfl | simp only [z34], by first | rfl | simp only [z34]⟩) (by decide +kernel) rfl (fun G7 S7 => ?_)
  have e7 : (gly G6).length = 38 := by rw [y6]; exact rfl
  rw [e7]
  have C7 := S7.cx C6 (by rw [k6, R6]; exact Nat.le_of_ble_eq_true rfl) (by rw [n6, R6]; exact Nat.le_of_ble_eq_true rfl)
  have K7 := S7.ck K6
  have y7 : gly G7 = LY_74 := by rw [S7.ly, y6]; decide +kernel
  have k7 : gk G7 = 4 := by rw [S7.k, k6]
  have n7 : gn G7 = 784 := by rw [S7.n, n6]
  have R7 := S7.R.trans R6
  have d7 := S7.d.trans d6
  have l7 := S7.nL.trans l6
  have a7 : ∀ j, j < 35 → gad G7 j = gad G0 j := fun j h => (S7.ad (by rw [y6]; exact Nat.lt_of_lt_of_le h (Nat.le_of_ble_eq_true rfl))).trans (a6 j h)
  show AW _ _ _ [(0, .ref (gad G7 34))] [.ref (gad G7 38), .ref (gad G7 34)]
  refine aw_putr C7 K7 (k := 7) (r0 := 38) fc_7 (hl := by rw [y7]; decide +kernel) (fs := [none, none, none, some (some 35), some (some 36), some (some 37), none, some none, some none, some none, some none]) (by decide +kernel) (by decide) rfl rfl ⟨ty7 7, by decide +kernel, fun _ => rfl, fun _ => rfl⟩ tb_253 LY_75 (by rw [y7]; decide +kernel) (by decide +kernel) rfl (fun G8 S8 b8 => ?_)
  rw [← b8]
  have C8 := S8.cx C7 (by rw [k7, R7]; exact Nat.le_of_ble_eq_true rfl) (by rw [n7, R7]; exact Nat.le_of_ble_eq_true rfl)
  have K8 := S8.ck K7
  have y8 : gly G8 = LY_75 := S8.ly
  have k8 : gk G8 = 4 := by rw [S8.k, k7]
  have n8 : gn G8 = 784 := by rw [S8.n, n7]
  have R8 := S8.R.trans R7
  have d8 := S8.d.trans d7
  have l8 := S8.nL.trans l7
  have a8 : ∀ j, j < 35 → gad G8 j = gad G0 j := fun j h => (S8.ad (by rw [y7]; exact Nat.lt_of_lt_of_le h (Nat.le_of_ble_eq_true rfl))).trans (a7 j h)
  refine aw_aload_n C8 0 0 (j := 0) rfl rfl (by decide +kernel) rfl ?_
  refine aw_sipush C8 (i0 := 256) (v := 256) (by decide) (by decide +kernel) rfl ?_
  refine aw_newarr C8 (fun ad => [(0, .ref (ad 34))]) (fun ad => [.ref (ad 34)]) (atype := .int) (N := 256) (Or.inl ⟨rfl, rfl⟩) (by rw [y8]; decide +kernel) ta_int (by decide) (by decide) (by decide) (by rw [k8, R8]; exact Nat.le_of_ble_eq_true rfl) (by rw [n8, R8]; exact Nat.le_of_ble_eq_true rfl) (fun a b h => by have z34 := h 34 (by rw [y8]; exact Nat.le_of_ble_eq_true rfl); exact ⟨by first | rfl | simp only [z34], by first | rfl | simp only [z34]⟩) (by decide +kernel) rfl (fun G9 S9 => ?_)
  have e9 : (gly G8).length = 39 := by rw [y8]; exact rfl
  rw [e9]
  have C9 := S9.cx C8 (by rw [k8, R8]; exact Nat.le_of_ble_eq_true rfl) (by rw [n8, R8]; exact Nat.le_of_ble_eq_true rfl)
  have K9 := S9.ck K8
  have y9 : gly G9 = LY_76 := by rw [S9.ly, y8]; decide +kernel
  have k9 : gk G9 = 5 := by rw [S9.k, k8]
  have n9 : gn G9 = 1040 := by rw [S9.n, n8]
  have R9 := S9.R.trans R8
  have d9 := S9.d.trans d8
  have l9 := S9.nL.trans l8
  have a9 : ∀ j, j < 35 → gad G9 j = gad G0 j := fun j h => (S9.ad (by rw [y8]; exact Nat.lt_of_lt_of_le h (Nat.le_of_ble_eq_true rfl))).trans (a8 j h)
  show AW _ _ _ [(0, .ref (gad G9 34))] [.ref (gad G9 39), .ref (gad G9 34)]
  refine aw_putr C9 K9 (k := 8) (r0 := 39) fc_7 (hl := by rw [y9]; decide +kernel) (fs := [none, none, none, some (some 35), some (some 36), some (some 37), none, some (some 38), some none, some none, some none]) (by decide +kernel) (by decide) rfl rfl ⟨ty7 8, by decide +kernel, fun _ => rfl, fun _ => rfl⟩ tb_254 LY_77 (by rw [y9]; decide +kernel) (by decide +kernel) rfl (fun G10 S10 b10 => ?_)
  rw [← b10]
  have C10 := S10.cx C9 (by rw [k9, R9]; exact Nat.le_of_ble_eq_true rfl) (by rw [n9, R9]; exact Nat.le_of_ble_eq_true rfl)
  have K10 := S10.ck K9
  have y10 : gly G10 = LY_77 := S10.ly
  have k10 : gk G10 = 5 := by rw [S10.k, k9]
  have n10 : gn G10 = 1040 := by rw [S10.n, n9]
  have R10 := S10.R.trans R9
  have d10 := S10.d.trans d9
  have l10 := S10.nL.trans l9
  have a10 : ∀ j, j < 35 → gad G10 j = gad G0 j := fun j h => (S10.ad (by rw [y9]; exact Nat.lt_of_lt_of_le h (Nat.le_of_ble_eq_true rfl))).trans (a9 j h)
  refine aw_aload_n C10 0 0 (j := 0) rfl rfl (by decide +kernel) rfl ?_
  refine aw_sipush C10 (i0 := 256) (v := 256) (by decide) (by decide +kernel) rfl ?_
  refine aw_newarr C10 (fun ad => [(0, .ref (ad 34))]) (fun ad => [.ref (ad 34)]) (atype := .int) (N := 256) (Or.inl ⟨rfl, rfl⟩) (by rw [y10]; decide +kernel) ta_int (by decide) (by decide) (by decide) (by rw [k10, R10]; exact Nat.le_of_ble_eq_true rfl) (by rw [n10, R10]; exact Nat.le_of_ble_eq_true rfl) (fun a b h => by have z34 := h 34 (by rw [y10]; exact Nat.le_of_ble_eq_true rfl); exact ⟨by first | rfl | simp only [z34], by first | rfl | simp only [z34]⟩) (by decide +kernel) rfl (fun G11 S11 => ?_)
  have e11 : (gly G10).length = 40 := by rw [y10]; exact rfl
  rw [e11]
  have C11 := S11.cx C10 (by rw [k10, R10]; exact Nat.le_of_ble_eq_true rfl) (by rw [n10, R10]; exact Nat.le_of_ble_eq_true rfl)
  have K11 := S11.ck K10
  have y11 : gly G11 = LY_78 := by rw [S11.ly, y10]; decide +kernel
  have k11 : gk G11 = 6 := by rw [S11.k, k10]
  have n11 : gn G11 = 1296 := by rw [S11.n, n10]
  have R11 := S11.R.trans R10
  have d11 := S11.d.trans d10
  have l11 := S11.nL.trans l10
  have a11 : ∀ j, j < 35 → gad G11 j = gad G0 j := fun j h => (S11.ad (by rw [y10]; exact Nat.lt_of_lt_of_le h (Nat.le_of_ble_eq_true rfl))).trans (a10 j h)
  show AW _ _ _ [(0, .ref (gad G11 34))] [.ref (gad G11 40), .ref (gad G11 34)]
  refine aw_putr C11 K11 (k := 9) (r0 := 40) fc_7 (hl := by rw [y11]; decide +kernel) (fs := [none, none, none, some (some 35), some (some 36), some (some 37), none, some (some 38), some (some 39), some none, some none]) (by decide +kernel) (by decide) rfl rfl ⟨ty7 9, by decide +kernel, fun _ => rfl, fun _ => rfl⟩ tb_255 LY_79 (by rw [y11]; decide +kernel) (by decide +kernel) rfl (fun G12 S12 b12 => ?_)
  rw [← b12]
  have C12 := S12.cx C11 (by rw [k11, R11]; exact Nat.le_of_ble_eq_true rfl) (by rw [n11, R11]; exact Nat.le_of_ble_eq_true rfl)
  have K12 := S12.ck K11
  have y12 : gly G12 = LY_79 := S12.ly
  have k12 : gk G12 = 6 := by rw [S12.k, k11]
  have n12 : gn G12 = 1296 := by rw [S12.n, n11]
  have R12 := S12.R.trans R11
  have d12 := S12.d.trans d11
  have l12 := S12.nL.trans l11
  have a12 : ∀ j, j < 35 → gad G12 j = gad G0 j := fun j h => (S12.ad (by rw [y11]; exact Nat.lt_of_lt_of_le h (Nat.le_of_ble_eq_true rfl))).trans (a11 j h)
  refine aw_aload_n C12 0 0 (j := 0) rfl rfl (by decide +kernel) rfl ?_
  refine aw_sipush C12 (i0 := 256) (v := 256) (by decide) (by decide +kernel) rfl ?_
  refine aw_newarr C12 (fun ad => [(0, .ref (ad 34))]) (fun ad => [.ref (ad 34)]) (atype := .int) (N := 256) (Or.inl ⟨rfl, rfl⟩) (by rw [y12]; decide +kernel) ta_int (by decide) (by decide) (by decide) (by rw [k12, R12]; exact Nat.le_of_ble_eq_true rfl) (by rw [n12, R12]; exact Nat.le_of_ble_eq_true rfl) (fun a b h => by have z34 := h 34 (by rw [y12]; exact Nat.le_of_ble_eq_true rfl); exact ⟨by first | rfl | simp only [z34], by first | rfl | simp only [z34]⟩) (by decide +kernel) rfl (fun G13 S13 => ?_)
  have e13 : (gly G12).length = 41 := by rw [y12]; exact rfl
  rw [e13]
  have C13 := S13.cx C12 (by rw [k12, R12]; exact Nat.le_of_ble_eq_true rfl) (by rw [n12, R12]; exact Nat.le_of_ble_eq_true rfl)
  have K13 := S13.ck K12
  have y13 : gly G13 = LY_80 := by rw [S13.ly, y12]; decide +kernel
  have k13 : gk G13 = 7 := by rw [S13.k, k12]
  have n13 : gn G13 = 1552 := by rw [S13.n, n12]
  have R13 := S13.R.trans R12
  have d13 := S13.d.trans d12
  have l13 := S13.nL.trans l12
  have a13 : ∀ j, j < 35 → gad G13 j = gad G0 j := fun j h => (S13.ad (by rw [y12]; exact Nat.lt_of_lt_of_le h (Nat.le_of_ble_eq_true rfl))).trans (a12 j h)
  show AW _ _ _ [(0, .ref (gad G13 34))] [.ref (gad G13 41), .ref (gad G13 34)]
  refine aw_putr C13 K13 (k := 10) (r0 := 41) fc_7 (hl := by rw [y13]; decide +kernel) (fs := [none, none, none, some (some 35), some (some 36), some (some 37), none, some (some 38), some (some 39), some (some 40), some none]) (by decide +kernel) (by decide) rfl rfl ⟨ty7 10, by decide +kernel, fun _ => rfl, fun _ => rfl⟩ tb_256 LY_81 (by rw [y13]; decide +kernel) (by decide +kernel) rfl (fun G14 S14 b14 => ?_)
  rw [← b14]
  have C14 := S14.cx C13 (by rw [k13, R13]; exact Nat.le_of_ble_eq_true rfl) (by rw [n13, R13]; exact Nat.le_of_ble_eq_true rfl)
  have K14 := S14.ck K13
  have y14 : gly G14 = LY_81 := S14.ly
  have k14 : gk G14 = 7 := by rw [S14.k, k13]
  have n14 : gn G14 = 1552 := by rw [S14.n, n13]
  have R14 := S14.R.trans R13
  have d14 := S14.d.trans d13
  have l14 := S14.nL.trans l13
  have a14 : ∀ j, j < 35 → gad G14 j = gad G0 j := fun j h => (S14.ad (by rw [y13]; exact Nat.lt_of_lt_of_le h (Nat.le_of_ble_eq_true rfl))).trans (a13 j h)
  exact aw_cret C14 K14 a14 y14 rfl k14 n14 (by decide +kernel)
theorem kc_11 (st : Mm) : ConK 1 Y10 prog_6_method_1_code LY_83 42 st LY_89 (sZ (sZ (sZ st 43) 44) 45) 3 8454 := by
  refine am_metK yf_10.2.2.2.2.2 rfl (fun G0 C0 K0 y0 l0 k0 n0 R0 d0 => ?_)
  have a0 : ∀ j, j < 43 → gad G0 j = gad G0 j := fun _ _ => rfl
  refine aw_aload_n C0 0 0 (j := 0) rfl rfl (by decide +kernel) rfl ?_
  refine aw_obj C0 (by rw [d0]; exact Nat.le_of_ble_eq_true rfl) (Nat.le_of_ble_eq_true rfl) tb_285 tb_24 tb_25 (by decide +kernel) rfl ?_
  refine aw_aload_n C0 0 0 (j := 0) rfl rfl (by decide +kernel) rfl ?_
  refine aw_sipush C0 (i0 := 8192) (v := 8192) (by decide) (by decide +kernel) rfl ?_
  refine aw_newarr C0 (fun ad => [(0, .ref (ad 42))]) (fun ad => [.ref (ad 42)]) (atype := .int) (N := 8192) (Or.inl ⟨rfl, rfl⟩) (by rw [y0]; decide +kernel) ta_int (by decide) (by decide) (by decide) (by rw [k0, R0]; exact Nat.le_of_ble_eq_true rfl) (by rw [n0, R0]; exact Nat.le_of_ble_eq_true rfl) (fun a b h => by have z42 := h 42 (by rw [y0]; exact Nat.le_of_ble_eq_true rfl); exact ⟨by first | rfl | simp only [z42], by first | rfl | simp only [z42]⟩) (by decide +kernel) rfl (fun G1 S1 => ?_)
  have e1 : (gly G0).length = 43 := by rw [y0]; exact rfl
  rw [e1]
  have C1 := S1.cx C0 (by rw [k0, R0]; exact Nat.le_of_ble_eq_true rfl) (by rw [n0, R0]; exact Nat.le_of_ble_eq_true rfl)
  have K1 := S1.ck K0
  have y1 : gly G1 = LY_84 := by rw [S1.ly, y0]; decide +kernel
  have k1 : gk G1 = 1 := by rw [S1.k, k0]
  have n1 : gn G1 = 8192 := by rw [S1.n, n0]
  have R1 := S1.R.trans R0
  have d1 := S1.d.trans d0
  have l1 := S1.nL.trans l0
  have a1 : ∀ j, j < 43 → gad G1 j = gad G0 j := fun j h => (S1.ad (by rw [y0]; exact Nat.lt_of_lt_of_le h (Nat.le_of_ble_eq_true rfl))).trans (a0 j h)
  show AW _ _ _ [(0, .ref (gad G1 42))] [.ref (gad G1 43), .ref (gad G1 42)]
  refine aw_putr C1 K1 (k := 0) (r0 := 43) fc_4 (hl := by rw [y1]; decide +kernel) (fs := [some none, some none, some none]) (by decide +kernel) (by decide) rfl rfl ⟨ty4 0, by decide +kernel, fun _ => rfl, fun _ => rfl⟩ tb_286 LY_85 (by rw [y1]; decide +kernel) (by decide +kernel) rfl (fun G2 S2 b2 => ?_)
  rw [← b2]
  have C2 := S2.cx C1 (by rw [k1, R1]; exact Nat.le_of_ble_eq_true rfl) (by rw [n1, R1]; exact Nat.le_of_ble_eq_true rfl)
  have K2 := S2.ck K1
  have y2 : gly G2 = LY_85 := S2.ly
  have k2 : gk G2 = 1 := by rw [S2.k, k1]
  have n2 : gn G2 = 8192 := by rw [S2.n, n1]
  have R2 := S2.R.trans R1
  have d2 := S2.d.trans d1
  have l2 := S2.nL.trans l1
  have a2 : ∀ j, j < 43 → gad G2 j = gad G0 j := fun j h => (S2.ad (by rw [y1]; exact Nat.lt_of_lt_of_le h (Nat.le_of_ble_eq_true rfl))).trans (a1 j h)
  refine aw_aload_n C2 0 0 (j := 0) rfl rfl (by decide +kernel) rfl ?_
  refine aw_sipush C2 (i0 := 256) (v := 256) (by decide) (by decide +kernel) rfl ?_
  refine aw_newarr C2 (fun ad => [(0, .ref (ad 42))]) (fun ad => [.ref (ad 42)]) (atype := .int) (N := 256) (Or.inl ⟨rfl, rfl⟩) (by rw [y2]; decide +kernel) ta_int (by decide) (by decide) (by decide) (by rw [k2, R2]; exact Nat.le_of_ble_eq_true rfl) (by rw [n2, R2]; exact Nat.le_of_ble_eq_true rfl) (fun a b h => by have z42 := h 42 (by rw [y2]; exact Nat.le_of_ble_eq_true rfl); exact ⟨by first | rfl | simp only [z42], by first | rfl | simp only [z42]⟩) (by decide +kernel) rfl (fun G3 S3 => ?_)
  have e3 : (gly G2).length = 44 := by rw [y2]; exact rfl
  rw [e3]
  have C3 := S3.cx C2 (by rw [k2, R2]; exact Nat.le_of_ble_eq_true rfl) (by rw [n2, R2]; exact Nat.le_of_ble_eq_true rfl)
  have K3 := S3.ck K2
  have y3 : gly G3 = LY_86 := by rw [S3.ly, y2]; decide +kernel
  have k3 : gk G3 = 2 := by rw [S3.k, k2]
  have n3 : gn G3 = 8448 := by rw [S3.n, n2]
  have R3 := S3.R.trans R2
  have d3 := S3.d.trans d2
  have l3 := S3.nL.trans l2
  have a3 : ∀ j, j < 43 → gad G3 j = gad G0 j := fun j h => (S3.ad (by rw [y2]; exact Nat.lt_of_lt_of_le h (Nat.le_of_ble_eq_true rfl))).trans (a2 j h)
  show AW _ _ _ [(0, .ref (gad G3 42))] [.ref (gad G3 44), .ref (gad G3 42)]
  refine aw_putr C3 K3 (k := 1) (r0 := 44) fc_4 (hl := by rw [y3]; decide +kernel) (fs := [some (some 43), some none, some none]) (by decide +kernel) (by decide) rfl rfl ⟨ty4 1, by decide +kernel, fun _ => rfl, fun _ => rfl⟩ tb_287 LY_87 (by rw [y3]; decide +kernel) (by decide +kernel) rfl (fun G4 S4 b4 => ?_)
  rw [← b4]
  have C4 := S4.cx C3 (by rw [k3, R3]; exact Nat.le_of_ble_eq_true rfl) (by rw [n3, R3]; exact Nat.le_of_ble_eq_true rfl)
  have K4 := S4.ck K3
  have y4 : gly G4 = LY_87 := S4.ly
  have k4 : gk G4 = 2 := by rw [S4.k, k3]
  have n4 : gn G4 = 8448 := by rw [S4.n, n3]
  have R4 := S4.R.trans R3
  have d4 := S4.d.trans d3
  have l4 := S4.nL.trans l3
  have a4 : ∀ j, j < 43 → gad G4 j = gad G0 j := fun j h => (S4.ad (by rw [y3]; exact Nat.lt_of_lt_of_le h (Nat.le_of_ble_eq_true rfl))).trans (a3 j h)
  refine aw_aload_n C4 0 0 (j := 0) rfl rfl (by decide +kernel) rfl ?_
  refine aw_bipush C4 (i0 := 6) (v := 6) (by decide) (by decide +kernel) rfl ?_
  refine aw_newarr C4 (fun ad => [(0, .ref (ad 42))]) (fun ad => [.ref (ad 42)]) (atype := .int) (N := 6) (Or.inl ⟨rfl, rfl⟩) (by rw [y4]; decide +kernel) ta_int (by decide) (by decide) (by decide) (by rw [k4, R4]; exact Nat.le_of_ble_eq_true rfl) (by rw [n4, R4]; exact Nat.le_of_ble_eq_true rfl) (fun a b h => by have z42 := h 42 (by rw [y4]; exact Nat.le_of_ble_eq_true rfl); exact ⟨by first | rfl | simp only [z42], by first | rfl | simp only [z42]⟩) (by decide +kernel) rfl (fun G5 S5 => ?_)
  have e5 : (gly G4).length = 45 := by rw [y4]; exact rfl
  rw [e5]
  have C5 := S5.cx C4 (by rw [k4, R4]; exact Nat.le_of_ble_eq_true rfl) (by rw [n4, R4]; exact Nat.le_of_ble_eq_true rfl)
  have K5 := S5.ck K4
  have y5 : gly G5 = LY_88 := by rw [S5.ly, y4]; decide +kernel
  have k5 : gk G5 = 3 := by rw [S5.k, k4]
  have n5 : gn G5 = 8454 := by rw [S5.n, n4]
  have R5 := S5.R.trans R4
  have d5 := S5.d.trans d4
  have l5 := S5.nL.trans l4
  have a5 : ∀ j, j < 43 → gad G5 j = gad G0 j := fun j h => (S5.ad (by rw [y4]; exact Nat.lt_of_lt_of_le h (Nat.le_of_ble_eq_true rfl))).trans (a4 j h)
  show AW _ _ _ [(0, .ref (gad G5 42))] [.ref (gad G5 45), .ref (gad G5 42)]
  refine aw_putr C5 K5 (k := 2) (r0 := 45) fc_4 (hl := by rw [y5]; decide +kernel) (fs := [some (some 43), some (some 44), some none]) (by decide +kernel) (by decide) rfl rfl ⟨ty4 2, by decide +kernel, fun _ => rfl, fun _ => rfl⟩ tb_288 LY_89 (by rw [y5]; decide +kernel) (by decide +kernel) rfl (fun G6 S6 b6 => ?_)
  rw [← b6]
  have C6 := S6.cx C5 (by rw [k5, R5]; exact Nat.le_of_ble_eq_true rfl) (by rw [n5, R5]; exact Nat.le_of_ble_eq_true rfl)
  have K6 := S6.ck K5
  have y6 : gly G6 = LY_89 := S6.ly
  have k6 : gk G6 = 3 := by rw [S6.k, k5]
  have n6 : gn G6 = 8454 := by rw [S6.n, n5]
  have R6 := S6.R.trans R5
  have d6 := S6.d.trans d5
  have l6 := S6.nL.trans l5
  have a6 : ∀ j, j < 43 → gad G6 j = gad G0 j := fun j h => (S6.ad (by rw [y5]; exact Nat.lt_of_lt_of_le h (Nat.le_of_ble_eq_true rfl))).trans (a5 j h)
  exact aw_cret C6 K6 a6 y6 rfl k6 n6 (by decide +kernel)
theorem kc_13 (st : Mm) : ConK 1 Y6 prog_5_method_1_code LY_92 47 st LY_96 (sZ (sZ st 48) 49) 2 32 := by
  refine am_metK yf_6.2.2.2.2.2 rfl (fun G0 C0 K0 y0 l0 k0 n0 R0 d0 => ?_)
  have a0 : ∀ j, j < 48 → gad G0 j = gad G0 j := fun _ _ => rfl
  refine aw_aload_n C0 0 0 (j := 0) rfl rfl (by decide +kernel) rfl ?_
  refine aw_obj C0 (by rw [d0]; exact Nat.le_of_ble_eq_true rfl) (Nat.le_of_ble_eq_true rfl) tb_101 tb_24 tb_25 (by decide +kernel) rfl ?_
  refine aw_aload_n C0 0 0 (j := 0) rfl rfl (by decide +kernel) rfl ?_
  refine aw_bipush C0 (i0 := 16) (v := 16) (by decide) (by decide +kernel) rfl ?_
  refine aw_newarr C0 (fun ad => [(0, .ref (ad 47))]) (fun ad => [.ref (ad 47)]) (atype := .int) (N := 16) (Or.inl ⟨rfl, rfl⟩) (by rw [y0]; decide +kernel) ta_int (by decide) (by decide) (by decide) (by rw [k0, R0]; exact Nat.le_of_ble_eq_true rfl) (by rw [n0, R0]; exact Nat.le_of_ble_eq_true rfl) (fun a b h => by have z47 := h 47 (by rw [y0]; exact Nat.le_of_ble_eq_true rfl); exact ⟨by first | rfl | simp only [z47], by first | rfl | simp only [z47]⟩) (by decide +kernel) rfl (fun G1 S1 => ?_)
  have e1 : (gly G0).length = 48 := by rw [y0]; exact rfl
  rw [e1]
  have C1 := S1.cx C0 (by rw [k0, R0]; exact Nat.le_of_ble_eq_true rfl) (by rw [n0, R0]; exact Nat.le_of_ble_eq_true rfl)
  have K1 := S1.ck K0
  have y1 : gly G1 = LY_93 := by rw [S1.ly, y0]; decide +kernel
  have k1 : gk G1 = 1 := by rw [S1.k, k0]
  have n1 : gn G1 = 16 := by rw [S1.n, n0]
  have R1 := S1.R.trans R0
  have d1 := S1.d.trans d0
  have l1 := S1.nL.trans l0
  have a1 : ∀ j, j < 48 → gad G1 j = gad G0 j := fun j h => (S1.ad (by rw [y0]; exact Nat.lt_of_lt_of_le h (Nat.le_of_ble_eq_true rfl))).trans (a0 j h)
  show AW _ _ _ [(0, .ref (gad G1 47))] [.ref (gad G1 48), .ref (gad G1 47)]
  refine aw_putr C1 K1 (k := 6) (r0 := 48) fc_3 (hl := by rw [y1]; decide +kernel) (fs := [none, none, none, none, none, none, some none, some none]) (by decide +kernel) (by decide) rfl rfl ⟨ty3 6, by decide +kernel, fun _ => rfl, fun _ => rfl⟩ tb_119 LY_94 (by rw [y1]; decide +kernel) (by decide +kernel) rfl (fun G2 S2 b2 => ?_)
  rw [← b2]
  have C2 := S2.cx C1 (by rw [k1, R1]; exact Nat.le_of_ble_eq_true rfl) (by rw [n1, R1]; exact Nat.le_of_ble_eq_true rfl)
  have K2 := S2.ck K1
  have y2 : gly G2 = LY_94 := S2.ly
  have k2 : gk G2 = 1 := by rw [S2.k, k1]
  have n2 : gn G2 = 16 := by rw [S2.n, n1]
  have R2 := S2.R.trans R1
  have d2 := S2.d.trans d1
  have l2 := S2.nL.trans l1
  have a2 : ∀ j, j < 48 → gad G2 j = gad G0 j := fun j h => (S2.ad (by rw [y1]; exact Nat.lt_of_lt_of_le h (Nat.le_of_ble_eq_true rfl))).trans (a1 j h)
  refine aw_aload_n C2 0 0 (j := 0) rfl rfl (by decide +kernel) rfl ?_
  refine aw_bipush C2 (i0 := 16) (v := 16) (by decide) (by decide +kernel) rfl ?_
  refine aw_newarr C2 (fun ad => [(0, .ref (ad 47))]) (fun ad => [.ref (ad 47)]) (atype := .int) (N := 16) (Or.inl ⟨rfl, rfl⟩) (by rw [y2]; decide +kernel) ta_int (by decide) (by decide) (by decide) (by rw [k2, R2]; exact Nat.le_of_ble_eq_true rfl) (by rw [n2, R2]; exact Nat.le_of_ble_eq_true rfl) (fun a b h => by have z47 := h 47 (by rw [y2]; exact Nat.le_of_ble_eq_true rfl); exact ⟨by first | rfl | simp only [z47], by first | rfl | simp only [z47]⟩) (by decide +kernel) rfl (fun G3 S3 => ?_)
  have e3 : (gly G2).length = 49 := by rw [y2]; exact rfl
  rw [e3]
  have C3 := S3.cx C2 (by rw [k2, R2]; exact Nat.le_of_ble_eq_true rfl) (by rw [n2, R2]; exact Nat.le_of_ble_eq_true rfl)
  have K3 := S3.ck K2
  have y3 : gly G3 = LY_95 := by rw [S3.ly, y2]; decide +kernel
  have k3 : gk G3 = 2 := by rw [S3.k, k2]
  have n3 : gn G3 = 32 := by rw [S3.n, n2]
  have R3 := S3.R.trans R2
  have d3 := S3.d.trans d2
  have l3 := S3.nL.trans l2
  have a3 : ∀ j, j < 48 → gad G3 j = gad G0 j := fun j h => (S3.ad (by rw [y2]; exact Nat.lt_of_lt_of_le h (Nat.le_of_ble_eq_true rfl))).trans (a2 j h)
  show AW _ _ _ [(0, .ref (gad G3 47))] [.ref (gad G3 49), .ref (gad G3 47)]
  refine aw_putr C3 K3 (k := 7) (r0 := 49) fc_3 (hl := by rw [y3]; decide +kernel) (fs := [none, none, none, none, none, none, some (some 48), some none]) (by decide +kernel) (by decide) rfl rfl ⟨ty3 7, by decide +kernel, fun _ => rfl, fun _ => rfl⟩ tb_120 LY_96 (by rw [y3]; decide +kernel) (by decide +kernel) rfl (fun G4 S4 b4 => ?_)
  rw [← b4]
  have C4 := S4.cx C3 (by rw [k3, R3]; exact Nat.le_of_ble_eq_true rfl) (by rw [n3, R3]; exact Nat.le_of_ble_eq_true rfl)
  have K4 := S4.ck K3
  have y4 : gly G4 = LY_96 := S4.ly
  have k4 : gk G4 = 2 := by rw [S4.k, k3]
  have n4 : gn G4 = 32 := by rw [S4.n, n3]
  have R4 := S4.R.trans R3
  have d4 := S4.d.trans d3
  have l4 := S4.nL.trans l3
  have a4 : ∀ j, j < 48 → gad G4 j = gad G0 j := fun j h => (S4.ad (by rw [y3]; exact Nat.lt_of_lt_of_le h (Nat.le_of_ble_eq_true rfl))).trans (a3 j h)
  exact aw_cret C4 K4 a4 y4 rfl k4 n4 (by decide +kernel)
theorem kc_12 (st : Mm) : ConK 2 Y11 prog_4_method_1_code LY_91 46 st LY_101 (sZ (sZ (sZ (sZ (sZ st 47) 48) 49) 50) 51) 5 72 := by
  refine am_metK yf_11.2.2.2.2.2 rfl (fun G0 C0 K0 y0 l0 k0 n0 R0 d0 => ?_)
  have a0 : ∀ j, j < 47 → gad G0 j = gad G0 j := fun _ _ => rfl
  refine aw_aload_n C0 0 0 (j := 0) rfl rfl (by decide +kernel) rfl ?_
  refine aw_obj C0 (by rw [d0]; exact Nat.le_of_ble_eq_true rfl) (Nat.le_of_ble_eq_true rfl) tb_301 tb_24 tb_25 (by decide +kernel) rfl ?_
  refine aw_aload_n C0 0 0 (j := 0) rfl rfl (by decide +kernel) rfl ?_
  refine aw_new C0 (fun ad => [(0, .ref (ad 46))]) (fun ad => [.ref (ad 46)]) fc_3 fn_3 (by rw [y0]; decide +kernel) tb_302 ti_3 tb_5 (by rw [k0, R0]; exact Nat.le_of_ble_eq_true rfl) (by rw [n0, R0]; exact Nat.le_of_ble_eq_true rfl) (fun a b h => by have z46 := h 46 (by rw [y0]; exact Nat.le_of_ble_eq_true rfl); exact ⟨by first | rfl | simp only [z46], by first | rfl | simp only [z46]⟩) (by decide +kernel) rfl (fun G1 S1 => ?_)
  have e1 : (gly G0).length = 47 := by rw [y0]; exact rfl
  rw [e1]
  have C1 := S1.cx C0 (by rw [k0, R0]; exact Nat.le_of_ble_eq_true rfl) (by rw [n0, R0]; exact Nat.le_of_ble_eq_true rfl)
  have K1 := S1.ck K0
  have y1 : gly G1 = LY_92 := by rw [S1.ly, y0]; decide +kernel
  have k1 : gk G1 = 1 := by rw [S1.k, k0]
  have n1 : gn G1 = 8 := by rw [S1.n, n0]
  have R1 := S1.R.trans R0
  have d1 := S1.d.trans d0
  have l1 := S1.nL.trans l0
  have a1 : ∀ j, j < 47 → gad G1 j = gad G0 j := fun j h => (S1.ad (by rw [y0]; exact Nat.lt_of_lt_of_le h (Nat.le_of_ble_eq_true rfl))).trans (a0 j h)
  show AW _ _ _ [(0, .ref (gad G1 46))] [.ref (gad G1 47), .ref (gad G1 46)]
  refine aw_dup C1 rfl (by decide +kernel) rfl ?_
  refine aw_ctorN C1 (fun ad => [(0, .ref (ad 46))]) (fun ad => [.ref (ad 47), .ref (ad 46)]) (c0 := 47) (by rw [y1]; exact kc_13 (sZ st 47)) nw_9 yf_6 rfl tb_99 (fun a b h => by have z46 := h 46 (by rw [y1]; exact Nat.le_of_ble_eq_true rfl); have z47 := h 47 (by rw [y1]; exact Nat.le_of_ble_eq_true rfl); exact ⟨by first | rfl | simp only [z46, z47], by first | rfl | simp only [z46, z47]⟩) (by rw [y1]; exact ⟨_, rfl⟩) (by rw [d1]; exact Nat.le_of_ble_eq_true rfl) (Nat.le_of_ble_eq_true rfl) (by rw [k1, R1]; exact Nat.le_of_ble_eq_true rfl) (by rw [n1, R1]; exact Nat.le_of_ble_eq_true rfl) (by decide +kernel) rfl (fun G2 S2 => ?_)
  have C2 := S2.cx C1 (by rw [k1, R1]; exact Nat.le_of_ble_eq_true rfl) (by rw [n1, R1]; exact Nat.le_of_ble_eq_true rfl)
  have K2 := S2.ck K1
  have y2 : gly G2 = LY_96 := S2.ly
  have k2 : gk G2 = 3 := by rw [S2.k, k1]
  have n2 : gn G2 = 40 := by rw [S2.n, n1]
  have R2 := S2.R.trans R1
  have d2 := S2.d.trans d1
  have l2 := S2.nL.trans l1
  have a2 : ∀ j, j < 47 → gad G2 j = gad G0 j := fun j h => (S2.ad (by rw [y1]; exact Nat.lt_of_lt_of_le h (Nat.le_of_ble_eq_true rfl))).trans (a1 j h)
  show AW _ _ _ [(0, .ref (gad G2 46))] [.ref (gad G2 47), .ref (gad G2 46)]
  refine aw_putr C2 K2 (k := 0) (r0 := 47) fc_2 (hl := by rw [y2]; decide +kernel) (fs := [some none, some none, none, none, some none]) (by decide +kernel) (by decide) rfl rfl ⟨ty2 0, by decide +kernel, fun _ => rfl, fun _ => rfl⟩ tb_304 LY_97 (by rw [y2]; decide +kernel) (by decide +kernel) rfl (fun G3 S3 b3 => ?_)
  rw [← b3]
  have C3 := S3.cx C2 (by rw [k2, R2]; exact Nat.le_of_ble_eq_true rfl) (by rw [n2, R2]; exact Nat.le_of_ble_eq_true rfl)
  have K3 := S3.ck K2
  have y3 : gly G3 = LY_97 := S3.ly
  have k3 : gk G3 = 3 := by rw [S3.k, k2]
  have n3 : gn G3 = 40 := by rw [S3.n, n2]
  have R3 := S3.R.trans R2
  have d3 := S3.d.trans d2
  have l3 := S3.nL.trans l2
  have a3 : ∀ j, j < 47 → gad G3 j = gad G0 j := fun j h => (S3.ad (by rw [y2]; exact Nat.lt_of_lt_of_le h (Nat.le_of_ble_eq_true rfl))).trans (a2 j h)
  refine aw_aload_n C3 0 0 (j := 0) rfl rfl (by decide +kernel) rfl ?_
  refine aw_bipush C3 (i0 := 16) (v := 16) (by decide) (by decide +kernel) rfl ?_
  refine aw_newarr C3 (fun ad => [(0, .ref (ad 46))]) (fun ad => [.ref (ad 46)]) (atype := .int) (N := 16) (Or.inl ⟨rfl, rfl⟩) (by rw [y3]; decide +kernel) ta_int (by decide) (by decide) (by decide) (by rw [k3, R3]; exact Nat.le_of_ble_eq_true rfl) (by rw [n3, R3]; exact Nat.le_of_ble_eq_true rfl) (fun a b h => by have z46 := h 46 (by rw [y3]; exact Nat.le_of_ble_eq_true rfl); exact ⟨by first | rfl | simp only [z46], by first | rfl | simp only [z46]⟩) (by decide +kernel) rfl (fun G4 S4 => ?_)
  have e4 : (gly G3).length = 50 := by rw [y3]; exact rfl
  rw [e4]
  have C4 := S4.cx C3 (by rw [k3, R3]; exact Nat.le_of_ble_eq_true rfl) (by rw [n3, R3]; exact Nat.le_of_ble_eq_true rfl)
  have K4 := S4.ck K3
  have y4 : gly G4 = LY_98 := by rw [S4.ly, y3]; decide +kernel
  have k4 : gk G4 = 4 := by rw [S4.k, k3]
  have n4 : gn G4 = 56 := by rw [S4.n, n3]
  have R4 := S4.R.trans R3
  have d4 := S4.d.trans d3
  have l4 := S4.nL.trans l3
  have a4 : ∀ j, j < 47 → gad G4 j = gad G0 j := fun j h => (S4.ad (by rw [y3]; exact Nat.lt_of_lt_of_le h (Nat.le_of_ble_eq_true rfl))).trans (a3 j h)
  show AW _ _ _ [(0, .ref (gad G4 46))] [.ref (gad G4 50), .ref (gad G4 46)]
  refine aw_putr C4 K4 (k := 1) (r0 := 50) fc_2 (hl := by rw [y4]; decide +kernel) (fs := [some (some 47), some none, none, none, some none]) (by decide +kernel) (by decide) rfl rfl ⟨ty2 1, by decide +kernel, fun _ => rfl, fun _ => rfl⟩ tb_307 LY_99 (by rw [y4]; decide +kernel) (by decide +kernel) rfl (fun G5 S5 b5 => ?_)
  rw [← b5]
  have C5 := S5.cx C4 (by rw [k4, R4]; exact Nat.le_of_ble_eq_true rfl) (by rw [n4, R4]; exact Nat.le_of_ble_eq_true rfl)
  have K5 := S5.ck K4
  have y5 : gly G5 = LY_99 := S5.ly
  have k5 : gk G5 = 4 := by rw [S5.k, k4]
  have n5 : gn G5 = 56 := by rw [S5.n, n4]
  have R5 := S5.R.trans R4
  have d5 := S5.d.trans d4
  have l5 := S5.nL.trans l4
  have a5 : ∀ j, j < 47 → gad G5 j = gad G0 j := fun j h => (S5.ad (by rw [y4]; exact Nat.lt_of_lt_of_le h (Nat.le_of_ble_eq_true rfl))).trans (a4 j h)
  refine aw_aload_n C5 0 0 (j := 0) rfl rfl (by decide +kernel) rfl ?_
  refine aw_bipush C5 (i0 := 16) (v := 16) (by decide) (by decide +kernel) rfl ?_
  refine aw_newarr C5 (fun ad => [(0, .ref (ad 46))]) (fun ad => [.ref (ad 46)]) (atype := .int) (N := 16) (Or.inl ⟨rfl, rfl⟩) (by rw [y5]; decide +kernel) ta_int (by decide) (by decide) (by decide) (by rw [k5, R5]; exact Nat.le_of_ble_eq_true rfl) (by rw [n5, R5]; exact Nat.le_of_ble_eq_true rfl) (fun a b h => by have z46 := h 46 (by rw [y5]; exact Nat.le_of_ble_eq_true rfl); exact ⟨by first | rfl | simp only [z46], by first | rfl | simp only [z46]⟩) (by decide +kernel) rfl (fun G6 S6 => ?_)
  have e6 : (gly G5).length = 51 := by rw [y5]; exact rfl
  rw [e6]
  have C6 := S6.cx C5 (by rw [k5, R5]; exact Nat.le_of_ble_eq_true rfl) (by rw [n5, R5]; exact Nat.le_of_ble_eq_true rfl)
  have K6 := S6.ck K5
  have y6 : gly G6 = LY_100 := by rw [S6.ly, y5]; decide +kernel
  have k6 : gk G6 = 5 := by rw [S6.k, k5]
  have n6 : gn G6 = 72 := by rw [S6.n, n5]
  have R6 := S6.R.trans R5
  have d6 := S6.d.trans d5
  have l6 := S6.nL.trans l5
  have a6 : ∀ j, j < 47 → gad G6 j = gad G0 j := fun j h => (S6.ad (by rw [y5]; exact Nat.lt_of_lt_of_le h (Nat.le_of_ble_eq_true rfl))).trans (a5 j h)
  show AW _ _ _ [(0, .ref (gad G6 46))] [.ref (gad G6 51), .ref (gad G6 46)]
  refine aw_putr C6 K6 (k := 4) (r0 := 51) fc_2 (hl := by rw [y6]; decide +kernel) (fs := [some (some 47), some (some 50), none, none, some none]) (by decide +kernel) (by decide) rfl rfl ⟨ty2 4, by decide +kernel, fun _ => rfl, fun _ => rfl⟩ tb_313 LY_101 (by rw [y6]; decide +kernel) (by decide +kernel) rfl (fun G7 S7 b7 => ?_)
  rw [← b7]
  have C7 := S7.cx C6 (by rw [k6, R6]; exact Nat.le_of_ble_eq_true rfl) (by rw [n6, R6]; exact Nat.le_of_ble_eq_true rfl)
  have K7 := S7.ck K6
  have y7 : gly G7 = LY_101 := S7.ly
  have k7 : gk G7 = 5 := by rw [S7.k, k6]
  have n7 : gn G7 = 72 := by rw [S7.n, n6]
  have R7 := S7.R.trans R6
  have d7 := S7.d.trans d6
  have l7 := S7.nL.trans l6
  have a7 : ∀ j, j < 47 → gad G7 j = gad G0 j := fun j h => (S7.ad (by rw [y6]; exact Nat.lt_of_lt_of_le h (Nat.le_of_ble_eq_true rfl))).trans (a6 j h)
  exact aw_cret C7 K7 a7 y7 rfl k7 n7 (by decide +kernel)
theorem kc_14 (st : Mm) : ConK 1 Y12 prog_3_method_1_code LY_103 52 st LY_109 (sZ (sZ (sZ st 53) 54) 55) 3 572 := by
  refine am_metK yf_12.2.2.2.2.2 rfl (fun G0 C0 K0 y0 l0 k0 n0 R0 d0 => ?_)
  have a0 : ∀ j, j < 53 → gad G0 j = gad G0 j := fun _ _ => rfl
  refine aw_aload_n C0 0 0 (j := 0) rfl rfl (by decide +kernel) rfl ?_
  refine aw_obj C0 (by rw [d0]; exact Nat.le_of_ble_eq_true rfl) (Nat.le_of_ble_eq_true rfl) tb_330 tb_24 tb_25 (by decide +kernel) rfl ?_
  refine aw_aload_n C0 0 0 (j := 0) rfl rfl (by decide +kernel) rfl ?_
  refine aw_bipush C0 (i0 := 16) (v := 16) (by decide) (by decide +kernel) rfl ?_
  refine aw_newarr C0 (fun ad => [(0, .ref (ad 52))]) (fun ad => [.ref (ad 52)]) (atype := .int) (N := 16) (Or.inl ⟨rfl, rfl⟩) (by rw [y0]; decide +kernel) ta_int (by decide) (by decide) (by decide) (by rw [k0, R0]; exact Nat.le_of_ble_eq_true rfl) (by rw [n0, R0]; exact Nat.le_of_ble_eq_true rfl) (fun a b h => by have z52 := h 52 (by rw [y0]; exact Nat.le_of_ble_eq_true rfl); exact ⟨by first | rfl | simp only [z52], by first | rfl | simp only [z52]⟩) (by decide +kernel) rfl (fun G1 S1 => ?_)
  have e1 : (gly G0).length = 53 := by rw [y0]; exact rfl
  rw [e1]
  have C1 := S1.cx C0 (by rw [k0, R0]; exact Nat.le_of_ble_eq_true rfl) (by rw [n0, R0]; exact Nat.le_of_ble_eq_true rfl)
  have K1 := S1.ck K0
  have y1 : gly G1 = LY_104 := by rw [S1.ly, y0]; decide +kernel
  have k1 : gk G1 = 1 := by rw [S1.k, k0]
  have n1 : gn G1 = 16 := by rw [S1.n, n0]
  have R1 := S1.R.trans R0
  have d1 := S1.d.trans d0
  have l1 := S1.nL.trans l0
  have a1 : ∀ j, j < 53 → gad G1 j = gad G0 j := fun j h => (S1.ad (by rw [y0]; exact Nat.lt_of_lt_of_le h (Nat.le_of_ble_eq_true rfl))).trans (a0 j h)
  show AW _ _ _ [(0, .ref (gad G1 52))] [.ref (gad G1 53), .ref (gad G1 52)]
  refine aw_putr C1 K1 (k := 0) (r0 := 53) fc_1 (hl := by rw [y1]; decide +kernel) (fs := [some none, some none, some none, none]) (by decide +kernel) (by decide) rfl rfl ⟨ty1 0, by decide +kernel, fun _ => rfl, fun _ => rfl⟩ tb_331 LY_105 (by rw [y1]; decide +kernel) (by decide +kernel) rfl (fun G2 S2 b2 => ?_)
  rw [← b2]
  have C2 := S2.cx C1 (by rw [k1, R1]; exact Nat.le_of_ble_eq_true rfl) (by rw [n1, R1]; exact Nat.le_of_ble_eq_true rfl)
  have K2 := S2.ck K1
  have y2 : gly G2 = LY_105 := S2.ly
  have k2 : gk G2 = 1 := by rw [S2.k, k1]
  have n2 : gn G2 = 16 := by rw [S2.n, n1]
  have R2 := S2.R.trans R1
  have d2 := S2.d.trans d1
  have l2 := S2.nL.trans l1
  have a2 : ∀ j, j < 53 → gad G2 j = gad G0 j := fun j h => (S2.ad (by rw [y1]; exact Nat.lt_of_lt_of_le h (Nat.le_of_ble_eq_true rfl))).trans (a1 j h)
  refine aw_aload_n C2 0 0 (j := 0) rfl rfl (by decide +kernel) rfl ?_
  refine aw_sipush C2 (i0 := 256) (v := 256) (by decide) (by decide +kernel) rfl ?_
  refine aw_newarr C2 (fun ad => [(0, .ref (ad 52))]) (fun ad => [.ref (ad 52)]) (atype := .int) (N := 256) (Or.inl ⟨rfl, rfl⟩) (by rw [y2]; decide +kernel) ta_int (by decide) (by decide) (by decide) (by rw [k2, R2]; exact Nat.le_of_ble_eq_true rfl) (by rw [n2, R2]; exact Nat.le_of_ble_eq_true rfl) (fun a b h => by have z52 := h 52 (by rw [y2]; exact Nat.le_of_ble_eq_true rfl); exact ⟨by first | rfl | simp only [z52], by first | rfl | simp only [z52]⟩) (by decide +kernel) rfl (fun G3 S3 => ?_)
  have e3 : (gly G2).length = 54 := by rw [y2]; exact rfl
  rw [e3]
  have C3 := S3.cx C2 (by rw [k2, R2]; exact Nat.le_of_ble_eq_true rfl) (by rw [n2, R2]; exact Nat.le_of_ble_eq_true rfl)
  have K3 := S3.ck K2
  have y3 : gly G3 = LY_106 := by rw [S3.ly, y2]; decide +kernel
  have k3 : gk G3 = 2 := by rw [S3.k, k2]
  have n3 : gn G3 = 272 := by rw [S3.n, n2]
  have R3 := S3.R.trans R2
  have d3 := S3.d.trans d2
  have l3 := S3.nL.trans l2
  have a3 : ∀ j, j < 53 → gad G3 j = gad G0 j := fun j h => (S3.ad (by rw [y2]; exact Nat.lt_of_lt_of_le h (Nat.le_of_ble_eq_true rfl))).trans (a2 j h)
  show AW _ _ _ [(0, .ref (gad G3 52))] [.ref (gad G3 54), .ref (gad G3 52)]
  refine aw_putr C3 K3 (k := 1) (r0 := 54) fc_1 (hl := by rw [y3]; decide +kernel) (fs := [some (some 53), some none, some none, none]) (by decide +kernel) (by decide) rfl rfl ⟨ty1 1, by decide +kernel, fun _ => rfl, fun _ => rfl⟩ tb_332 LY_107 (by rw [y3]; decide +kernel) (by decide +kernel) rfl (fun G4 S4 b4 => ?_)
  rw [← b4]
  have C4 := S4.cx C3 (by rw [k3, R3]; exact Nat.le_of_ble_eq_true rfl) (by rw [n3, R3]; exact Nat.le_of_ble_eq_true rfl)
  have K4 := S4.ck K3
  have y4 : gly G4 = LY_107 := S4.ly
  have k4 : gk G4 = 2 := by rw [S4.k, k3]
  have n4 : gn G4 = 272 := by rw [S4.n, n3]
  have R4 := S4.R.trans R3
  have d4 := S4.d.trans d3
  have l4 := S4.nL.trans l3
  have a4 : ∀ j, j < 53 → gad G4 j = gad G0 j := fun j h => (S4.ad (by rw [y3]; exact Nat.lt_of_lt_of_le h (Nat.le_of_ble_eq_true rfl))).trans (a3 j h)
  refine aw_aload_n C4 0 0 (j := 0) rfl rfl (by decide +kernel) rfl ?_
  refine aw_sipush C4 (i0 := 300) (v := 300) (by decide) (by decide +kernel) rfl ?_
  refine aw_newarr C4 (fun ad => [(0, .ref (ad 52))]) (fun ad => [.ref (ad 52)]) (atype := .long) (N := 300) (Or.inr (Or.inr (Or.inr ⟨rfl, rfl⟩))) (by rw [y4]; decide +kernel) ta_long (by decide) (by decide) (by decide) (by rw [k4, R4]; exact Nat.le_of_ble_eq_true rfl) (by rw [n4, R4]; exact Nat.le_of_ble_eq_true rfl) (fun a b h => by have z52 := h 52 (by rw [y4]; exact Nat.le_of_ble_eq_true rfl); exact ⟨by first | rfl | simp only [z52], by first | rfl | simp only [z52]⟩) (by decide +kernel) rfl (fun G5 S5 => ?_)
  have e5 : (gly G4).length = 55 := by rw [y4]; exact rfl
  rw [e5]
  have C5 := S5.cx C4 (by rw [k4, R4]; exact Nat.le_of_ble_eq_true rfl) (by rw [n4, R4]; exact Nat.le_of_ble_eq_true rfl)
  have K5 := S5.ck K4
  have y5 : gly G5 = LY_108 := by rw [S5.ly, y4]; decide +kernel
  have k5 : gk G5 = 3 := by rw [S5.k, k4]
  have n5 : gn G5 = 572 := by rw [S5.n, n4]
  have R5 := S5.R.trans R4
  have d5 := S5.d.trans d4
  have l5 := S5.nL.trans l4
  have a5 : ∀ j, j < 53 → gad G5 j = gad G0 j := fun j h => (S5.ad (by rw [y4]; exact Nat.lt_of_lt_of_le h (Nat.le_of_ble_eq_true rfl))).trans (a4 j h)
  show AW _ _ _ [(0, .ref (gad G5 52))] [.ref (gad G5 55), .ref (gad G5 52)]
  refine aw_putr C5 K5 (k := 2) (r0 := 55) fc_1 (hl := by rw [y5]; decide +kernel) (fs := [some (some 53), some (some 54), some none, none]) (by decide +kernel) (by decide) rfl rfl ⟨ty1 2, by decide +kernel, fun _ => rfl, fun _ => rfl⟩ tb_333 LY_109 (by rw [y5]; decide +kernel) (by decide +kernel) rfl (fun G6 S6 b6 => ?_)
  rw [← b6]
  have C6 := S6.cx C5 (by rw [k5, R5]; exact Nat.le_of_ble_eq_true rfl) (by rw [n5, R5]; exact Nat.le_of_ble_eq_true rfl)
  have K6 := S6.ck K5
  have y6 : gly G6 = LY_109 := S6.ly
  have k6 : gk G6 = 3 := by rw [S6.k, k5]
  have n6 : gn G6 = 572 := by rw [S6.n, n5]
  have R6 := S6.R.trans R5
  have d6 := S6.d.trans d5
  have l6 := S6.nL.trans l5
  have a6 : ∀ j, j < 53 → gad G6 j = gad G0 j := fun j h => (S6.ad (by rw [y5]; exact Nat.lt_of_lt_of_le h (Nat.le_of_ble_eq_true rfl))).trans (a5 j h)
  exact aw_cret C6 K6 a6 y6 rfl k6 n6 (by decide +kernel)
theorem kc_15 (st : Mm) : ConK 1 Y13 prog_7_method_1_code LY_111 56 st LY_113 (sZ st 57) 1 1024 := by
  refine am_metK yf_13.2.2.2.2.2 rfl (fun G0 C0 K0 y0 l0 k0 n0 R0 d0 => ?_)
  have a0 : ∀ j, j < 57 → gad G0 j = gad G0 j := fun _ _ => rfl
  refine aw_aload_n C0 0 0 (j := 0) rfl rfl (by decide +kernel) rfl ?_
  refine aw_obj C0 (by rw [d0]; exact Nat.le_of_ble_eq_true rfl) (Nat.le_of_ble_eq_true rfl) tb_350 tb_24 tb_25 (by decide +kernel) rfl ?_
  refine aw_aload_n C0 0 0 (j := 0) rfl rfl (by decide +kernel) rfl ?_
  refine aw_sipush C0 (i0 := 1024) (v := 1024) (by decide) (by decide +kernel) rfl ?_
  refine aw_newarr C0 (fun ad => [(0, .ref (ad 56))]) (fun ad => [.ref (ad 56)]) (atype := .int) (N := 1024) (Or.inl ⟨rfl, rfl⟩) (by rw [y0]; decide +kernel) ta_int (by decide) (by decide) (by decide) (by rw [k0, R0]; exact Nat.le_of_ble_eq_true rfl) (by rw [n0, R0]; exact Nat.le_of_ble_eq_true rfl) (fun a b h => by have z56 := h 56 (by rw [y0]; exact Nat.le_of_ble_eq_true rfl); exact ⟨by first | rfl | simp only [z56], by first | rfl | simp only [z56]⟩) (by decide +kernel) rfl (fun G1 S1 => ?_)
  have e1 : (gly G0).length = 57 := by rw [y0]; exact rfl
  rw [e1]
  have C1 := S1.cx C0 (by rw [k0, R0]; exact Nat.le_of_ble_eq_true rfl) (by rw [n0, R0]; exact Nat.le_of_ble_eq_true rfl)
  have K1 := S1.ck K0
  have y1 : gly G1 = LY_112 := by rw [S1.ly, y0]; decide +kernel
  have k1 : gk G1 = 1 := by rw [S1.k, k0]
  have n1 : gn G1 = 1024 := by rw [S1.n, n0]
  have R1 := S1.R.trans R0
  have d1 := S1.d.trans d0
  have l1 := S1.nL.trans l0
  have a1 : ∀ j, j < 57 → gad G1 j = gad G0 j := fun j h => (S1.ad (by rw [y0]; exact Nat.lt_of_lt_of_le h (Nat.le_of_ble_eq_true rfl))).trans (a0 j h)
  show AW _ _ _ [(0, .ref (gad G1 56))] [.ref (gad G1 57), .ref (gad G1 56)]
  refine aw_putr C1 K1 (k := 1) (r0 := 57) fc_5 (hl := by rw [y1]; decide +kernel) (fs := [none, some none]) (by decide +kernel) (by decide) rfl rfl ⟨ty5 1, by decide +kernel, fun _ => rfl, fun _ => rfl⟩ tb_353 LY_113 (by rw [y1]; decide +kernel) (by decide +kernel) rfl (fun G2 S2 b2 => ?_)
  rw [← b2]
  have C2 := S2.cx C1 (by rw [k1, R1]; exact Nat.le_of_ble_eq_true rfl) (by rw [n1, R1]; exact Nat.le_of_ble_eq_true rfl)
  have K2 := S2.ck K1
  have y2 : gly G2 = LY_113 := S2.ly
  have k2 : gk G2 = 1 := by rw [S2.k, k1]
  have n2 : gn G2 = 1024 := by rw [S2.n, n1]
  have R2 := S2.R.trans R1
  have d2 := S2.d.trans d1
  have l2 := S2.nL.trans l1
  have a2 : ∀ j, j < 57 → gad G2 j = gad G0 j := fun j h => (S2.ad (by rw [y1]; exact Nat.lt_of_lt_of_le h (Nat.le_of_ble_eq_true rfl))).trans (a1 j h)
  exact aw_cret C2 K2 a2 y2 rfl k2 n2 (by decide +kernel)
theorem kc_0 (st : Mm) (q0 : Unit × Mm) (q1 : Unit × Mm) (q2 : Unit × Mm) (hq0 : f_Tab_begin 1 2 3 4 5 16 (sZ (sZ (sZ (sZ (sI (sZ st 1) 1 1 1) 2) 3) 4) 5) = some q0) (hq1 : f_Tab_begin 6 7 8 9 10 16 (sZ (sZ (sZ (sZ (sI (sZ q0.2 6) 6 1 1) 7) 8) 9) 10) = some q1) (hq2 : f_x_reopen (sI (sI (sI (sZ (sZ (sZ (sZ (sZ (sZ (sZ (sZ (sZ (sZ (sZ (sZ (sZ (sZ (sZ (sZ (sZ (sZ (sZ (sZ (sZ (sZ (sZ (sI (sZ (sZ (sZ (sZ (sZ (sZ (sZ (sZ (sZ (sZ (sZ (sZ (sZ (sZ (sZ (sZ (sZ (sZ (sZ (sZ (sZ (sZ (sZ (sI (sZ q1.2 11) 11 0 0) 12) 13) 14) 15) 16) 17) 18) 19) 20) 21) 22) 23) 24) 25) 26) 27) 28) 29) 30) 31) 32) 33) 34) 34 0 0) 35) 36) 37) 38) 39) 40) 41) 42) 43) 44) 45) 46) 47) 48) 49) 50) 51) 52) 53) 54) 55) 56) 57) 0 12 0) 0 13 0) 0 14 0) = some q2) : ConK 4 Y0 prog_1_method_1_code LY_0 0 st LC q2.2 57 13005 := by
  refine am_metK yf_0.2.2.2.2.2 rfl (fun G0 C0 K0 y0 l0 k0 n0 R0 d0 => ?_)
  have a0 : ∀ j, j < 1 → gad G0 j = gad G0 j := fun _ _ => rfl
  refine aw_aload_n C0 0 0 (j := 0) rfl rfl (by decide +kernel) rfl ?_
  refine aw_obj C0 (by rw [d0]; exact Nat.le_of_ble_eq_true rfl) (Nat.le_of_ble_eq_true rfl) tb_23 tb_24 tb_25 (by decide +kernel) rfl ?_
  refine aw_aload_n C0 0 0 (j := 0) rfl rfl (by decide +kernel) rfl ?_
  refine aw_new C0 (fun ad => [(0, .ref (ad 0))]) (fun ad => [.ref (ad 0)]) fc_9 fn_9 (by rw [y0]; decide +kernel) tb_26 ti_9 tb_2 (by rw [k0, R0]; exact Nat.le_of_ble_eq_true rfl) (by rw [n0, R0]; exact Nat.le_of_ble_eq_true rfl) (fun a b h => by have z0 := h 0 (by rw [y0]; exact Nat.le_of_ble_eq_true rfl); exact ⟨by first | rfl | simp only [z0], by first | rfl | simp only [z0]⟩) (by decide +kernel) rfl (fun G1 S1 => ?_)
  have e1 : (gly G0).length = 1 := by rw [y0]; exact rfl
  rw [e1]
  have C1 := S1.cx C0 (by rw [k0, R0]; exact Nat.le_of_ble_eq_true rfl) (by rw [n0, R0]; exact Nat.le_of_ble_eq_true rfl)
  have K1 := S1.ck K0
  have y1 : gly G1 = LY_1 := by rw [S1.ly, y0]; decide +kernel
  have k1 : gk G1 = 1 := by rw [S1.k, k0]
  have n1 : gn G1 = 8 := by rw [S1.n, n0]
  have R1 := S1.R.trans R0
  have d1 := S1.d.trans d0
  have l1 := S1.nL.trans l0
  have a1 : ∀ j, j < 1 → gad G1 j = gad G0 j := fun j h => (S1.ad (by rw [y0]; exact Nat.lt_of_lt_of_le h (Nat.le_of_ble_eq_true rfl))).trans (a0 j h)
  show AW _ _ _ [(0, .ref (gad G1 0))] [.ref (gad G1 1), .ref (gad G1 0)]
  refine aw_dup C1 rfl (by decide +kernel) rfl ?_
  refine aw_ctor C1 (fun ad => [(0, .ref (ad 0))]) (fun ad => [.ref (ad 1), .ref (ad 0)]) (c0 := 1) (by rw [y1]; exact kc_1 (sZ st 1) q0 hq0) tb_28 yf_2 rfl tb_29 (fun a b h => by have z0 := h 0 (by rw [y1]; exact Nat.le_of_ble_eq_true rfl); have z1 := h 1 (by rw [y1]; exact Nat.le_of_ble_eq_true rfl); exact ⟨by first | rfl | simp only [z0, z1], by first | rfl | simp only [z0, z1]⟩) (by rw [y1]; exact ⟨_, rfl⟩) (by rw [d1]; exact Nat.le_of_ble_eq_true rfl) (Nat.le_of_ble_eq_true rfl) (by rw [k1, R1]; exact Nat.le_of_ble_eq_true rfl) (by rw [n1, R1]; exact Nat.le_of_ble_eq_true rfl) (by decide +kernel) rfl (fun G2 S2 => ?_)
  have C2 := S2.cx C1 (by rw [k1, R1]; exact Nat.le_of_ble_eq_true rfl) (by rw [n1, R1]; exact Nat.le_of_ble_eq_true rfl)
  have K2 := S2.ck K1
  have y2 : gly G2 = LY_9 := S2.ly
  have k2 : gk G2 = 5 := by rw [S2.k, k1]
  have n2 : gn G2 = 64 := by rw [S2.n, n1]
  have R2 := S2.R.trans R1
  have d2 := S2.d.trans d1
  have l2 := S2.nL.trans l1
  have a2 : ∀ j, j < 1 → gad G2 j = gad G0 j := fun j h => (S2.ad (by rw [y1]; exact Nat.lt_of_lt_of_le h (Nat.le_of_ble_eq_true rfl))).trans (a1 j h)
  show AW _ _ _ [(0, .ref (gad G2 0))] [.ref (gad G2 1), .ref (gad G2 0)]
  refine aw_putr C2 K2 (k := 0) (r0 := 1) fc_11 (hl := by rw [y2]; decide +kernel) (fs := [some none, some none, some none, some none, some none, some none, some none, some none, some none, some none, some none, some none, none, none, none]) (by decide +kernel) (by decide) rfl rfl ⟨ty11 0, by decide +kernel, fun _ => rfl, fun _ => rfl⟩ tb_396 LY_10 (by rw [y2]; decide +kernel) (by decide +kernel) rfl (fun G3 S3 b3 => ?_)
  rw [← b3]
  have C3 := S3.cx C2 (by rw [k2, R2]; exact Nat.le_of_ble_eq_true rfl) (by rw [n2, R2]; exact Nat.le_of_ble_eq_true rfl)
  have K3 := S3.ck K2
  have y3 : gly G3 = LY_10 := S3.ly
  have k3 : gk G3 = 5 := by rw [S3.k, k2]
  have n3 : gn G3 = 64 := by rw [S3.n, n2]
  have R3 := S3.R.trans R2
  have d3 := S3.d.trans d2
  have l3 := S3.nL.trans l2
  have a3 : ∀ j, j < 1 → gad G3 j = gad G0 j := fun j h => (S3.ad (by rw [y2]; exact Nat.lt_of_lt_of_le h (Nat.le_of_ble_eq_true rfl))).trans (a2 j h)
  refine aw_aload_n C3 0 0 (j := 0) rfl rfl (by decide +kernel) rfl ?_
  refine aw_new C3 (fun ad => [(0, .ref (ad 0))]) (fun ad => [.ref (ad 0)]) fc_9 fn_9 (by rw [y3]; decide +kernel) tb_26 ti_9 tb_2 (by rw [k3, R3]; exact Nat.le_of_ble_eq_true rfl) (by rw [n3, R3]; exact Nat.le_of_ble_eq_true rfl) (fun a b h => by have z0 := h 0 (by rw [y3]; exact Nat.le_of_ble_eq_true rfl); exact ⟨by first | rfl | simp only [z0], by first | rfl | simp only [z0]⟩) (by decide +kernel) rfl (fun G4 S4 => ?_)
  have e4 : (gly G3).length = 6 := by rw [y3]; exact rfl
  rw [e4]
  have C4 := S4.cx C3 (by rw [k3, R3]; exact Nat.le_of_ble_eq_true rfl) (by rw [n3, R3]; exact Nat.le_of_ble_eq_true rfl)
  have K4 := S4.ck K3
  have y4 : gly G4 = LY_11 := by rw [S4.ly, y3]; decide +kernel
  have k4 : gk G4 = 6 := by rw [S4.k, k3]
  have n4 : gn G4 = 72 := by rw [S4.n, n3]
  have R4 := S4.R.trans R3
  have d4 := S4.d.trans d3
  have l4 := S4.nL.trans l3
  have a4 : ∀ j, j < 1 → gad G4 j = gad G0 j := fun j h => (S4.ad (by rw [y3]; exact Nat.lt_of_lt_of_le h (Nat.le_of_ble_eq_true rfl))).trans (a3 j h)
  show AW _ _ _ [(0, .ref (gad G4 0))] [.ref (gad G4 6), .ref (gad G4 0)]
  refine aw_dup C4 rfl (by decide +kernel) rfl ?_
  refine aw_ctor C4 (fun ad => [(0, .ref (ad 0))]) (fun ad => [.ref (ad 6), .ref (ad 0)]) (c0 := 6) (by rw [y4]; exact kc_2 (sZ q0.2 6) q1 hq1) tb_28 yf_2 rfl tb_29 (fun a b h => by have z0 := h 0 (by rw [y4]; exact Nat.le_of_ble_eq_true rfl); have z6 := h 6 (by rw [y4]; exact Nat.le_of_ble_eq_true rfl); exact ⟨by first | rfl | simp only [z0, z6], by first | rfl | simp only [z0, z6]⟩) (by rw [y4]; exact ⟨_, rfl⟩) (by rw [d4]; exact Nat.le_of_ble_eq_true rfl) (Nat.le_of_ble_eq_true rfl) (by rw [k4, R4]; exact Nat.le_of_ble_eq_true rfl) (by rw [n4, R4]; exact Nat.le_of_ble_eq_true rfl) (by decide +kernel) rfl (fun G5 S5 => ?_)
  have C5 := S5.cx C4 (by rw [k4, R4]; exact Nat.le_of_ble_eq_true rfl) (by rw [n4, R4]; exact Nat.le_of_ble_eq_true rfl)
  have K5 := S5.ck K4
  have y5 : gly G5 = LY_19 := S5.ly
  have k5 : gk G5 = 10 := by rw [S5.k, k4]
  have n5 : gn G5 = 128 := by rw [S5.n, n4]
  have R5 := S5.R.trans R4
  have d5 := S5.d.trans d4
  have l5 := S5.nL.trans l4
  have a5 : ∀ j, j < 1 → gad G5 j = gad G0 j := fun j h => (S5.ad (by rw [y4]; exact Nat.lt_of_lt_of_le h (Nat.le_of_ble_eq_true rfl))).trans (a4 j h)
  show AW _ _ _ [(0, .ref (gad G5 0))] [.ref (gad G5 6), .ref (gad G5 0)]
  refine aw_putr C5 K5 (k := 1) (r0 := 6) fc_11 (hl := by rw [y5]; decide +kernel) (fs := [some (some 1), some none, some none, some none, some none, some none, some none, some none, some none, some none, some none, some none, none, none, none]) (by decide +kernel) (by decide) rfl rfl ⟨ty11 1, by decide +kernel, fun _ => rfl, fun _ => rfl⟩ tb_397 LY_20 (by rw [y5]; decide +kernel) (by decide +kernel) rfl (fun G6 S6 b6 => ?_)
  rw [← b6]
  have C6 := S6.cx C5 (by rw [k5, R5]; exact Nat.le_of_ble_eq_true rfl) (by rw [n5, R5]; exact Nat.le_of_ble_eq_true rfl)
  have K6 := S6.ck K5
  have y6 : gly G6 = LY_20 := S6.ly
  have k6 : gk G6 = 10 := by rw [S6.k, k5]
  have n6 : gn G6 = 128 := by rw [S6.n, n5]
  have R6 := S6.R.trans R5
  have d6 := S6.d.trans d5
  have l6 := S6.nL.trans l5
  have a6 : ∀ j, j < 1 → gad G6 j = gad G0 j := fun j h => (S6.ad (by rw [y5]; exact Nat.lt_of_lt_of_le h (Nat.le_of_ble_eq_true rfl))).trans (a5 j h)
  refine aw_aload_n C6 0 0 (j := 0) rfl rfl (by decide +kernel) rfl ?_
  refine aw_new C6 (fun ad => [(0, .ref (ad 0))]) (fun ad => [.ref (ad 0)]) fc_10 fn_10 (by rw [y6]; decide +kernel) tb_74 ti_10 tb_3 (by rw [k6, R6]; exact Nat.le_of_ble_eq_true rfl) (by rw [n6, R6]; exact Nat.le_of_ble_eq_true rfl) (fun a b h => by have z0 := h 0 (by rw [y6]; exact Nat.le_of_ble_eq_true rfl); exact ⟨by first | rfl | simp only [z0], by first | rfl | simp only [z0]⟩) (by decide +kernel) rfl (fun G7 S7 => ?_)
  have e7 : (gly G6).length = 11 := by rw [y6]; exact rfl
  rw [e7]
  have C7 := S7.cx C6 (by rw [k6, R6]; exact Nat.le_of_ble_eq_true rfl) (by rw [n6, R6]; exact Nat.le_of_ble_eq_true rfl)
  have K7 := S7.ck K6
  have y7 : gly G7 = LY_21 := by rw [S7.ly, y6]; decide +kernel
  have k7 : gk G7 = 11 := by rw [S7.k, k6]
  have n7 : gn G7 = 130 := by rw [S7.n, n6]
  have R7 := S7.R.trans R6
  have d7 := S7.d.trans d6
  have l7 := S7.nL.trans l6
  have a7 : ∀ j, j < 1 → gad G7 j = gad G0 j := fun j h => (S7.ad (by rw [y6]; exact Nat.lt_of_lt_of_le h (Nat.le_of_ble_eq_true rfl))).trans (a6 j h)
  show AW _ _ _ [(0, .ref (gad G7 0))] [.ref (gad G7 11), .ref (gad G7 0)]
  refine aw_dup C7 rfl (by decide +kernel) rfl ?_
  refine aw_ctorN C7 (fun ad => [(0, .ref (ad 0))]) (fun ad => [.ref (ad 11), .ref (ad 0)]) (c0 := 11) (by rw [y7]; exact kc_3 (sZ q1.2 11)) nw_0 yf_4 rfl tb_77 (fun a b h => by have z0 := h 0 (by rw [y7]; exact Nat.le_of_ble_eq_true rfl); have z11 := h 11 (by rw [y7]; exact Nat.le_of_ble_eq_true rfl); exact ⟨by first | rfl | simp only [z0, z11], by first | rfl | simp only [z0, z11]⟩) (by rw [y7]; exact ⟨_, rfl⟩) (by rw [d7]; exact Nat.le_of_ble_eq_true rfl) (Nat.le_of_ble_eq_true rfl) (by rw [k7, R7]; exact Nat.le_of_ble_eq_true rfl) (by rw [n7, R7]; exact Nat.le_of_ble_eq_true rfl) (by decide +kernel) rfl (fun G8 S8 => ?_)
  have C8 := S8.cx C7 (by rw [k7, R7]; exact Nat.le_of_ble_eq_true rfl) (by rw [n7, R7]; exact Nat.le_of_ble_eq_true rfl)
  have K8 := S8.ck K7
  have y8 : gly G8 = LY_23 := S8.ly
  have k8 : gk G8 = 12 := by rw [S8.k, k7]
  have n8 : gn G8 = 330 := by rw [S8.n, n7]
  have R8 := S8.R.trans R7
  have d8 := S8.d.trans d7
  have l8 := S8.nL.trans l7
  have a8 : ∀ j, j < 1 → gad G8 j = gad G0 j := fun j h => (S8.ad (by rw [y7]; exact Nat.lt_of_lt_of_le h (Nat.le_of_ble_eq_true rfl))).trans (a7 j h)
  show AW _ _ _ [(0, .ref (gad G8 0))] [.ref (gad G8 11), .ref (gad G8 0)]
  refine aw_putr C8 K8 (k := 2) (r0 := 11) fc_11 (hl := by rw [y8]; decide +kernel) (fs := [some (some 1), some (some 6), some none, some none, some none, some none, some none, some none, some none, some none, some none, some none, none, none, none]) (by decide +kernel) (by decide) rfl rfl ⟨ty11 2, by decide +kernel, fun _ => rfl, fun _ => rfl⟩ tb_398 LY_24 (by rw [y8]; decide +kernel) (by decide +kernel) rfl (fun G9 S9 b9 => ?_)
  rw [← b9]
  have C9 := S9.cx C8 (by rw [k8, R8]; exact Nat.le_of_ble_eq_true rfl) (by rw [n8, R8]; exact Nat.le_of_ble_eq_true rfl)
  have K9 := S9.ck K8
  have y9 : gly G9 = LY_24 := S9.ly
  have k9 : gk G9 = 12 := by rw [S9.k, k8]
  have n9 : gn G9 = 330 := by rw [S9.n, n8]
  have R9 := S9.R.trans R8
  have d9 := S9.d.trans d8
  have l9 := S9.nL.trans l8
  have a9 : ∀ j, j < 1 → gad G9 j = gad G0 j := fun j h => (S9.ad (by rw [y8]; exact Nat.lt_of_lt_of_le h (Nat.le_of_ble_eq_true rfl))).trans (a8 j h)
  refine aw_aload_n C9 0 0 (j := 0) rfl rfl (by decide +kernel) rfl ?_
  refine aw_new C9 (fun ad => [(0, .ref (ad 0))]) (fun ad => [.ref (ad 0)]) fc_8 fn_8 (by rw [y9]; decide +kernel) tb_90 ti_8 tb_4 (by rw [k9, R9]; exact Nat.le_of_ble_eq_true rfl) (by rw [n9, R9]; exact Nat.le_of_ble_eq_true rfl) (fun a b h => by have z0 := h 0 (by rw [y9]; exact Nat.le_of_ble_eq_true rfl); exact ⟨by first | rfl | simp only [z0], by first | rfl | simp only [z0]⟩) (by decide +kernel) rfl (fun G10 S10 => ?_)
  have e10 : (gly G9).length = 13 := by rw [y9]; exact rfl
  rw [e10]
  have C10 := S10.cx C9 (by rw [k9, R9]; exact Nat.le_of_ble_eq_true rfl) (by rw [n9, R9]; exact Nat.le_of_ble_eq_true rfl)
  have K10 := S10.ck K9
  have y10 : gly G10 = LY_25 := by rw [S10.ly, y9]; decide +kernel
  have k10 : gk G10 = 13 := by rw [S10.k, k9]
  have n10 : gn G10 = 343 := by rw [S10.n, n9]
  have R10 := S10.R.trans R9
  have d10 := S10.d.trans d9
  have l10 := S10.nL.trans l9
  have a10 : ∀ j, j < 1 → gad G10 j = gad G0 j := fun j h => (S10.ad (by rw [y9]; exact Nat.lt_of_lt_of_le h (Nat.le_of_ble_eq_true rfl))).trans (a9 j h)
  show AW _ _ _ [(0, .ref (gad G10 0))] [.ref (gad G10 13), .ref (gad G10 0)]
  refine aw_dup C10 rfl (by decide +kernel) rfl ?_
  refine aw_ctorN C10 (fun ad => [(0, .ref (ad 0))]) (fun ad => [.ref (ad 13), .ref (ad 0)]) (c0 := 13) (by rw [y10]; exact kc_4 (sZ (sZ (sI (sZ q1.2 11) 11 0 0) 12) 13)) nw_1 yf_5 rfl tb_93 (fun a b h => by have z0 := h 0 (by rw [y10]; exact Nat.le_of_ble_eq_true rfl); have z13 := h 13 (by rw [y10]; exact Nat.le_of_ble_eq_true rfl); exact ⟨by first | rfl | simp only [z0, z13], by first | rfl | simp only [z0, z13]⟩) (by rw [y10]; exact ⟨_, rfl⟩) (by rw [d10]; exact Nat.le_of_ble_eq_true rfl) (Nat.le_of_ble_eq_true rfl) (by rw [k10, R10]; exact Nat.le_of_ble_eq_true rfl) (by rw [n10, R10]; exact Nat.le_of_ble_eq_true rfl) (by decide +kernel) rfl (fun G11 S11 => ?_)
  have C11 := S11.cx C10 (by rw [k10, R10]; exact Nat.le_of_ble_eq_true rfl) (by rw [n10, R10]; exact Nat.le_of_ble_eq_true rfl)
  have K11 := S11.ck K10
  have y11 : gly G11 = LY_45 := S11.ly
  have k11 : gk G11 = 23 := by rw [S11.k, k10]
  have n11 : gn G11 = 934 := by rw [S11.n, n10]
  have R11 := S11.R.trans R10
  have d11 := S11.d.trans d10
  have l11 := S11.nL.trans l10
  have a11 : ∀ j, j < 1 → gad G11 j = gad G0 j := fun j h => (S11.ad (by rw [y10]; exact Nat.lt_of_lt_of_le h (Nat.le_of_ble_eq_true rfl))).trans (a10 j h)
  show AW _ _ _ [(0, .ref (gad G11 0))] [.ref (gad G11 13), .ref (gad G11 0)]
  refine aw_putr C11 K11 (k := 3) (r0 := 13) fc_11 (hl := by rw [y11]; decide +kernel) (fs := [some (some 1), some (some 6), some (some 11), some none, some none, some none, some none, some none, some none, some none, some none, some none, none, none, none]) (by decide +kernel) (by decide) rfl rfl ⟨ty11 3, by decide +kernel, fun _ => rfl, fun _ => rfl⟩ tb_399 LY_46 (by rw [y11]; decide +kernel) (by decide +kernel) rfl (fun G12 S12 b12 => ?_)
  rw [← b12]
  have C12 := S12.cx C11 (by rw [k11, R11]; exact Nat.le_of_ble_eq_true rfl) (by rw [n11, R11]; exact Nat.le_of_ble_eq_true rfl)
  have K12 := S12.ck K11
  have y12 : gly G12 = LY_46 := S12.ly
  have k12 : gk G12 = 23 := by rw [S12.k, k11]
  have n12 : gn G12 = 934 := by rw [S12.n, n11]
  have R12 := S12.R.trans R11
  have d12 := S12.d.trans d11
  have l12 := S12.nL.trans l11
  have a12 : ∀ j, j < 1 → gad G12 j = gad G0 j := fun j h => (S12.ad (by rw [y11]; exact Nat.lt_of_lt_of_le h (Nat.le_of_ble_eq_true rfl))).trans (a11 j h)
  refine aw_aload_n C12 0 0 (j := 0) rfl rfl (by decide +kernel) rfl ?_
  refine aw_new C12 (fun ad => [(0, .ref (ad 0))]) (fun ad => [.ref (ad 0)]) fc_3 fn_3 (by rw [y12]; decide +kernel) tb_206 ti_3 tb_5 (by rw [k12, R12]; exact Nat.le_of_ble_eq_true rfl) (by rw [n12, R12]; exact Nat.le_of_ble_eq_true rfl) (fun a b h => by have z0 := h 0 (by rw [y12]; exact Nat.le_of_ble_eq_true rfl); exact ⟨by first | rfl | simp only [z0], by first | rfl | simp only [z0]⟩) (by decide +kernel) rfl (fun G13 S13 => ?_)
  have e13 : (gly G12).length = 24 := by rw [y12]; exact rfl
  rw [e13]
  have C13 := S13.cx C12 (by rw [k12, R12]; exact Nat.le_of_ble_eq_true rfl) (by rw [n12, R12]; exact Nat.le_of_ble_eq_true rfl)
  have K13 := S13.ck K12
  have y13 : gly G13 = LY_47 := by rw [S13.ly, y12]; decide +kernel
  have k13 : gk G13 = 24 := by rw [S13.k, k12]
  have n13 : gn G13 = 942 := by rw [S13.n, n12]
  have R13 := S13.R.trans R12
  have d13 := S13.d.trans d12
  have l13 := S13.nL.trans l12
  have a13 : ∀ j, j < 1 → gad G13 j = gad G0 j := fun j h => (S13.ad (by rw [y12]; exact Nat.lt_of_lt_of_le h (Nat.le_of_ble_eq_true rfl))).trans (a12 j h)
  show AW _ _ _ [(0, .ref (gad G13 0))] [.ref (gad G13 24), .ref (gad G13 0)]
  refine aw_dup C13 rfl (by decide +kernel) rfl ?_
  refine aw_ctorN C13 (fun ad => [(0, .ref (ad 0))]) (fun ad => [.ref (ad 24), .ref (ad 0)]) (c0 := 24) (by rw [y13]; exact kc_7 (sZ (sZ (sZ (sZ (sZ (sZ (sZ (sZ (sZ (sZ (sZ (sZ (sZ (sI (sZ q1.2 11) 11 0 0) 12) 13) 14) 15) 16) 17) 18) 19) 20) 21) 22) 23) 24)) nw_4 yf_6 rfl tb_99 (fun a b h => by have z0 := h 0 (by rw [y13]; exact Nat.le_of_ble_eq_true rfl); have z24 := h 24 (by rw [y13]; exact Nat.le_of_ble_eq_true rfl); exact ⟨by first | rfl | simp only [z0, z24], by first | rfl | simp only [z0, z24]⟩) (by rw [y13]; exact ⟨_, rfl⟩) (by rw [d13]; exact Nat.le_of_ble_eq_true rfl) (Nat.le_of_ble_eq_true rfl) (by rw [k13, R13]; exact Nat.le_of_ble_eq_true rfl) (by rw [n13, R13]; exact Nat.le_of_ble_eq_true rfl) (by decide +kernel) rfl (fun G14 S14 => ?_)
  have C14 := S14.cx C13 (by rw [k13, R13]; exact Nat.le_of_ble_eq_true rfl) (by rw [n13, R13]; exact Nat.le_of_ble_eq_true rfl)
  have K14 := S14.ck K13
  have y14 : gly G14 = LY_51 := S14.ly
  have k14 : gk G14 = 26 := by rw [S14.k, k13]
  have n14 : gn G14 = 974 := by rw [S14.n, n13]
  have R14 := S14.R.trans R13
  have d14 := S14.d.trans d13
  have l14 := S14.nL.trans l13
  have a14 : ∀ j, j < 1 → gad G14 j = gad G0 j := fun j h => (S14.ad (by rw [y13]; exact Nat.lt_of_lt_of_le h (Nat.le_of_ble_eq_true rfl))).trans (a13 j h)
  show AW _ _ _ [(0, .ref (gad G14 0))] [.ref (gad G14 24), .ref (gad G14 0)]
  refine aw_putr C14 K14 (k := 4) (r0 := 24) fc_11 (hl := by rw [y14]; decide +kernel) (fs := [some (some 1), some (some 6), some (some 11), some (some 13), some none, some none, some none, some none, some none, some none, some none, some none, none, none, none]) (by decide +kernel) (by decide) rfl rfl ⟨ty11 4, by decide +kernel, fun _ => rfl, fun _ => rfl⟩ tb_400 LY_52 (by rw [y14]; decide +kernel) (by decide +kernel) rfl (fun G15 S15 b15 => ?_)
  rw [← b15]
  have C15 := S15.cx C14 (by rw [k14, R14]; exact Nat.le_of_ble_eq_true rfl) (by rw [n14, R14]; exact Nat.le_of_ble_eq_true rfl)
  have K15 := S15.ck K14
  have y15 : gly G15 = LY_52 := S15.ly
  have k15 : gk G15 = 26 := by rw [S15.k, k14]
  have n15 : gn G15 = 974 := by rw [S15.n, n14]
  have R15 := S15.R.trans R14
  have d15 := S15.d.trans d14
  have l15 := S15.nL.trans l14
  have a15 : ∀ j, j < 1 → gad G15 j = gad G0 j := fun j h => (S15.ad (by rw [y14]; exact Nat.lt_of_lt_of_le h (Nat.le_of_ble_eq_true rfl))).trans (a14 j h)
  refine aw_aload_n C15 0 0 (j := 0) rfl rfl (by decide +kernel) rfl ?_
  refine aw_new C15 (fun ad => [(0, .ref (ad 0))]) (fun ad => [.ref (ad 0)]) fc_3 fn_3 (by rw [y15]; decide +kernel) tb_206 ti_3 tb_5 (by rw [k15, R15]; exact Nat.le_of_ble_eq_true rfl) (by rw [n15, R15]; exact Nat.le_of_ble_eq_true rfl) (fun a b h => by have z0 := h 0 (by rw [y15]; exact Nat.le_of_ble_eq_true rfl); exact ⟨by first | rfl | simp only [z0], by first | rfl | simp only [z0]⟩) (by decide +kernel) rfl (fun G16 S16 => ?_)
  have e16 : (gly G15).length = 27 := by rw [y15]; exact rfl
  rw [e16]
  have C16 := S16.cx C15 (by rw [k15, R15]; exact Nat.le_of_ble_eq_true rfl) (by rw [n15, R15]; exact Nat.le_of_ble_eq_true rfl)
  have K16 := S16.ck K15
  have y16 : gly G16 = LY_53 := by rw [S16.ly, y15]; decide +kernel
  have k16 : gk G16 = 27 := by rw [S16.k, k15]
  have n16 : gn G16 = 982 := by rw [S16.n, n15]
  have R16 := S16.R.trans R15
  have d16 := S16.d.trans d15
  have l16 := S16.nL.trans l15
  have a16 : ∀ j, j < 1 → gad G16 j = gad G0 j := fun j h => (S16.ad (by rw [y15]; exact Nat.lt_of_lt_of_le h (Nat.le_of_ble_eq_true rfl))).trans (a15 j h)
  show AW _ _ _ [(0, .ref (gad G16 0))] [.ref (gad G16 27), .ref (gad G16 0)]
  refine aw_dup C16 rfl (by decide +kernel) rfl ?_
  refine aw_ctorN C16 (fun ad => [(0, .ref (ad 0))]) (fun ad => [.ref (ad 27), .ref (ad 0)]) (c0 := 27) (by rw [y16]; exact kc_8 (sZ (sZ (sZ (sZ (sZ (sZ (sZ (sZ (sZ (sZ (sZ (sZ (sZ (sZ (sZ (sZ (sI (sZ q1.2 11) 11 0 0) 12) 13) 14) 15) 16) 17) 18) 19) 20) 21) 22) 23) 24) 25) 26) 27)) nw_4 yf_6 rfl tb_99 (fun a b h => by have z0 := h 0 (by rw [y16]; exact Nat.le_of_ble_eq_true rfl); have z27 := h 27 (by rw [y16]; exact Nat.le_of_ble_eq_true rfl); exact ⟨by first | rfl | simp only [z0, z27], by first | rfl | simp only [z0, z27]⟩) (by rw [y16]; exact ⟨_, rfl⟩) (by rw [d16]; exact Nat.le_of_ble_eq_true rfl) (Nat.le_of_ble_eq_true rfl) (by rw [k16, R16]; exact Nat.le_of_ble_eq_true rfl) (by rw [n16, R16]; exact Nat.le_of_ble_eq_true rfl) (by decide +kernel) rfl (fun G17 S17 => ?_)
  have C17 := S17.cx C16 (by rw [k16, R16]; exact Nat.le_of_ble_eq_true rfl) (by rw [n16, R16]; exact Nat.le_of_ble_eq_true rfl)
  have K17 := S17.ck K16
  have y17 : gly G17 = LY_57 := S17.ly
  have k17 : gk G17 = 29 := by rw [S17.k, k16]
  have n17 : gn G17 = 1014 := by rw [S17.n, n16]
  have R17 := S17.R.trans R16
  have d17 := S17.d.trans d16
  have l17 := S17.nL.trans l16
  have a17 : ∀ j, j < 1 → gad G17 j = gad G0 j := fun j h => (S17.ad (by rw [y16]; exact Nat.lt_of_lt_of_le h (Nat.le_of_ble_eq_true rfl))).trans (a16 j h)
  show AW _ _ _ [(0, .ref (gad G17 0))] [.ref (gad G17 27), .ref (gad G17 0)]
  refine aw_putr C17 K17 (k := 5) (r0 := 27) fc_11 (hl := by rw [y17]; decide +kernel) (fs := [some (some 1), some (some 6), some (some 11), some (some 13), some (some 24), some none, some none, some none, some none, some none, some none, some none, none, none, none]) (by decide +kernel) (by decide) rfl rfl ⟨ty11 5, by decide +kernel, fun _ => rfl, fun _ => rfl⟩ tb_401 LY_58 (by rw [y17]; decide +kernel) (by decide +kernel) rfl (fun G18 S18 b18 => ?_)
  rw [← b18]
  have C18 := S18.cx C17 (by rw [k17, R17]; exact Nat.le_of_ble_eq_true rfl) (by rw [n17, R17]; exact Nat.le_of_ble_eq_true rfl)
  have K18 := S18.ck K17
  have y18 : gly G18 = LY_58 := S18.ly
  have k18 : gk G18 = 29 := by rw [S18.k, k17]
  have n18 : gn G18 = 1014 := by rw [S18.n, n17]
  have R18 := S18.R.trans R17
  have d18 := S18.d.trans d17
  have l18 := S18.nL.trans l17
  have a18 : ∀ j, j < 1 → gad G18 j = gad G0 j := fun j h => (S18.ad (by rw [y17]; exact Nat.lt_of_lt_of_le h (Nat.le_of_ble_eq_true rfl))).trans (a17 j h)
  refine aw_aload_n C18 0 0 (j := 0) rfl rfl (by decide +kernel) rfl ?_
  refine aw_new C18 (fun ad => [(0, .ref (ad 0))]) (fun ad => [.ref (ad 0)]) fc_6 fn_6 (by rw [y18]; decide +kernel) tb_208 ti_6 tb_7 (by rw [k18, R18]; exact Nat.le_of_ble_eq_true rfl) (by rw [n18, R18]; exact Nat.le_of_ble_eq_true rfl) (fun a b h => by have z0 := h 0 (by rw [y18]; exact Nat.le_of_ble_eq_true rfl); exact ⟨by first | rfl | simp only [z0], by first | rfl | simp only [z0]⟩) (by decide +kernel) rfl (fun G19 S19 => ?_)
  have e19 : (gly G18).length = 30 := by rw [y18]; exact rfl
  rw [e19]
  have C19 := S19.cx C18 (by rw [k18, R18]; exact Nat.le_of_ble_eq_true rfl) (by rw [n18, R18]; exact Nat.le_of_ble_eq_true rfl)
  have K19 := S19.ck K18
  have y19 : gly G19 = LY_59 := by rw [S19.ly, y18]; decide +kernel
  have k19 : gk G19 = 30 := by rw [S19.k, k18]
  have n19 : gn G19 = 1018 := by rw [S19.n, n18]
  have R19 := S19.R.trans R18
  have d19 := S19.d.trans d18
  have l19 := S19.nL.trans l18
  have a19 : ∀ j, j < 1 → gad G19 j = gad G0 j := fun j h => (S19.ad (by rw [y18]; exact Nat.lt_of_lt_of_le h (Nat.le_of_ble_eq_true rfl))).trans (a18 j h)
  show AW _ _ _ [(0, .ref (gad G19 0))] [.ref (gad G19 30), .ref (gad G19 0)]
  refine aw_dup C19 rfl (by decide +kernel) rfl ?_
  refine aw_ctorN C19 (fun ad => [(0, .ref (ad 0))]) (fun ad => [.ref (ad 30), .ref (ad 0)]) (c0 := 30) (by rw [y19]; exact kc_9 (sZ (sZ (sZ (sZ (sZ (sZ (sZ (sZ (sZ (sZ (sZ (sZ (sZ (sZ (sZ (sZ (sZ (sZ (sZ (sI (sZ q1.2 11) 11 0 0) 12) 13) 14) 15) 16) 17) 18) 19) 20) 21) 22) 23) 24) 25) 26) 27) 28) 29) 30)) nw_5 yf_8 rfl tb_211 (fun a b h => by have z0 := h 0 (by rw [y19]; exact Nat.le_of_ble_eq_true rfl); have z30 := h 30 (by rw [y19]; exact Nat.le_of_ble_eq_true rfl); exact ⟨by first | rfl | simp only [z0, z30], by first | rfl | simp only [z0, z30]⟩) (by rw [y19]; exact ⟨_, rfl⟩) (by rw [d19]; exact Nat.le_of_ble_eq_true rfl) (Nat.le_of_ble_eq_true rfl) (by rw [k19, R19]; exact Nat.le_of_ble_eq_true rfl) (by rw [n19, R19]; exact Nat.le_of_ble_eq_true rfl) (by decide +kernel) rfl (fun G20 S20 => ?_)
  have C20 := S20.cx C19 (by rw [k19, R19]; exact Nat.le_of_ble_eq_true rfl) (by rw [n19, R19]; exact Nat.le_of_ble_eq_true rfl)
  have K20 := S20.ck K19
  have y20 : gly G20 = LY_65 := S20.ly
  have k20 : gk G20 = 33 := by rw [S20.k, k19]
  have n20 : gn G20 = 1306 := by rw [S20.n, n19]
  have R20 := S20.R.trans R19
  have d20 := S20.d.trans d19
  have l20 := S20.nL.trans l19
  have a20 : ∀ j, j < 1 → gad G20 j = gad G0 j := fun j h => (S20.ad (by rw [y19]; exact Nat.lt_of_lt_of_le h (Nat.le_of_ble_eq_true rfl))).trans (a19 j h)
  show AW _ _ _ [(0, .ref (gad G20 0))] [.ref (gad G20 30), .ref (gad G20 0)]
  refine aw_putr C20 K20 (k := 6) (r0 := 30) fc_11 (hl := by rw [y20]; decide +kernel) (fs := [some (some 1), some (some 6), some (some 11), some (some 13), some (some 24), some (some 27), some none, some none, some none, some none, some none, some none, none, none, none]) (by decide +kernel) (by decide) rfl rfl ⟨ty11 6, by decide +kernel, fun _ => rfl, fun _ => rfl⟩ tb_402 LY_66 (by rw [y20]; decide +kernel) (by decide +kernel) rfl (fun G21 S21 b21 => ?_)
  rw [← b21]
  have C21 := S21.cx C20 (by rw [k20, R20]; exact Nat.le_of_ble_eq_true rfl) (by rw [n20, R20]; exact Nat.le_of_ble_eq_true rfl)
  have K21 := S21.ck K20
  have y21 : gly G21 = LY_66 := S21.ly
  have k21 : gk G21 = 33 := by rw [S21.k, k20]
  have n21 : gn G21 = 1306 := by rw [S21.n, n20]
  have R21 := S21.R.trans R20
  have d21 := S21.d.trans d20
  have l21 := S21.nL.trans l20
  have a21 : ∀ j, j < 1 → gad G21 j = gad G0 j := fun j h => (S21.ad (by rw [y20]; exact Nat.lt_of_lt_of_le h (Nat.le_of_ble_eq_true rfl))).trans (a20 j h)
  refine aw_aload_n C21 0 0 (j := 0) rfl rfl (by decide +kernel) rfl ?_
  refine aw_new C21 (fun ad => [(0, .ref (ad 0))]) (fun ad => [.ref (ad 0)]) fc_7 fn_7 (by rw [y21]; decide +kernel) tb_233 ti_7 tb_8 (by rw [k21, R21]; exact Nat.le_of_ble_eq_true rfl) (by rw [n21, R21]; exact Nat.le_of_ble_eq_true rfl) (fun a b h => by have z0 := h 0 (by rw [y21]; exact Nat.le_of_ble_eq_true rfl); exact ⟨by first | rfl | simp only [z0], by first | rfl | simp only [z0]⟩) (by decide +kernel) rfl (fun G22 S22 => ?_)
  have e22 : (gly G21).length = 34 := by rw [y21]; exact rfl
  rw [e22]
  have C22 := S22.cx C21 (by rw [k21, R21]; exact Nat.le_of_ble_eq_true rfl) (by rw [n21, R21]; exact Nat.le_of_ble_eq_true rfl)
  have K22 := S22.ck K21
  have y22 : gly G22 = LY_67 := by rw [S22.ly, y21]; decide +kernel
  have k22 : gk G22 = 34 := by rw [S22.k, k21]
  have n22 : gn G22 = 1317 := by rw [S22.n, n21]
  have R22 := S22.R.trans R21
  have d22 := S22.d.trans d21
  have l22 := S22.nL.trans l21
  have a22 : ∀ j, j < 1 → gad G22 j = gad G0 j := fun j h => (S22.ad (by rw [y21]; exact Nat.lt_of_lt_of_le h (Nat.le_of_ble_eq_true rfl))).trans (a21 j h)
  show AW _ _ _ [(0, .ref (gad G22 0))] [.ref (gad G22 34), .ref (gad G22 0)]
  refine aw_dup C22 rfl (by decide +kernel) rfl ?_
  refine aw_ctorN C22 (fun ad => [(0, .ref (ad 0))]) (fun ad => [.ref (ad 34), .ref (ad 0)]) (c0 := 34) (by rw [y22]; exact kc_10 (sZ (sZ (sZ (sZ (sZ (sZ (sZ (sZ (sZ (sZ (sZ (sZ (sZ (sZ (sZ (sZ (sZ (sZ (sZ (sZ (sZ (sZ (sZ (sI (sZ q1.2 11) 11 0 0) 12) 13) 14) 15) 16) 17) 18) 19) 20) 21) 22) 23) 24) 25) 26) 27) 28) 29) 30) 31) 32) 33) 34)) nw_6 yf_9 rfl tb_236 (fun a b h => by have z0 := h 0 (by rw [y22]; exact Nat.le_of_ble_eq_true rfl); have z34 := h 34 (by rw [y22]; exact Nat.le_of_ble_eq_true rfl); exact ⟨by first | rfl | simp only [z0, z34], by first | rfl | simp only [z0, z34]⟩) (by rw [y22]; exact ⟨_, rfl⟩) (by rw [d22]; exact Nat.le_of_ble_eq_true rfl) (Nat.le_of_ble_eq_true rfl) (by rw [k22, R22]; exact Nat.le_of_ble_eq_true rfl) (by rw [n22, R22]; exact Nat.le_of_ble_eq_true rfl) (by decide +kernel) rfl (fun G23 S23 => ?_)
  have C23 := S23.cx C22 (by rw [k22, R22]; exact Nat.le_of_ble_eq_true rfl) (by rw [n22, R22]; exact Nat.le_of_ble_eq_true rfl)
  have K23 := S23.ck K22
  have y23 : gly G23 = LY_81 := S23.ly
  have k23 : gk G23 = 41 := by rw [S23.k, k22]
  have n23 : gn G23 = 2869 := by rw [S23.n, n22]
  have R23 := S23.R.trans R22
  have d23 := S23.d.trans d22
  have l23 := S23.nL.trans l22
  have a23 : ∀ j, j < 1 → gad G23 j = gad G0 j := fun j h => (S23.ad (by rw [y22]; exact Nat.lt_of_lt_of_le h (Nat.le_of_ble_eq_true rfl))).trans (a22 j h)
  show AW _ _ _ [(0, .ref (gad G23 0))] [.ref (gad G23 34), .ref (gad G23 0)]
  refine aw_putr C23 K23 (k := 7) (r0 := 34) fc_11 (hl := by rw [y23]; decide +kernel) (fs := [some (some 1), some (some 6), some (some 11), some (some 13), some (some 24), some (some 27), some (some 30), some none, some none, some none, some none, some none, none, none, none]) (by decide +kernel) (by decide) rfl rfl ⟨ty11 7, by decide +kernel, fun _ => rfl, fun _ => rfl⟩ tb_403 LY_82 (by rw [y23]; decide +kernel) (by decide +kernel) rfl (fun G24 S24 b24 => ?_)
  rw [← b24]
  have C24 := S24.cx C23 (by rw [k23, R23]; exact Nat.le_of_ble_eq_true rfl) (by rw [n23, R23]; exact Nat.le_of_ble_eq_true rfl)
  have K24 := S24.ck K23
  have y24 : gly G24 = LY_82 := S24.ly
  have k24 : gk G24 = 41 := by rw [S24.k, k23]
  have n24 : gn G24 = 2869 := by rw [S24.n, n23]
  have R24 := S24.R.trans R23
  have d24 := S24.d.trans d23
  have l24 := S24.nL.trans l23
  have a24 : ∀ j, j < 1 → gad G24 j = gad G0 j := fun j h => (S24.ad (by rw [y23]; exact Nat.lt_of_lt_of_le h (Nat.le_of_ble_eq_true rfl))).trans (a23 j h)
  refine aw_aload_n C24 0 0 (j := 0) rfl rfl (by decide +kernel) rfl ?_
  refine aw_new C24 (fun ad => [(0, .ref (ad 0))]) (fun ad => [.ref (ad 0)]) fc_4 fn_4 (by rw [y24]; decide +kernel) tb_280 ti_4 tb_9 (by rw [k24, R24]; exact Nat.le_of_ble_eq_true rfl) (by rw [n24, R24]; exact Nat.le_of_ble_eq_true rfl) (fun a b h => by have z0 := h 0 (by rw [y24]; exact Nat.le_of_ble_eq_true rfl); exact ⟨by first | rfl | simp only [z0], by first | rfl | simp only [z0]⟩) (by decide +kernel) rfl (fun G25 S25 => ?_)
  have e25 : (gly G24).length = 42 := by rw [y24]; exact rfl
  rw [e25]
  have C25 := S25.cx C24 (by rw [k24, R24]; exact Nat.le_of_ble_eq_true rfl) (by rw [n24, R24]; exact Nat.le_of_ble_eq_true rfl)
  have K25 := S25.ck K24
  have y25 : gly G25 = LY_83 := by rw [S25.ly, y24]; decide +kernel
  have k25 : gk G25 = 42 := by rw [S25.k, k24]
  have n25 : gn G25 = 2872 := by rw [S25.n, n24]
  have R25 := S25.R.trans R24
  have d25 := S25.d.trans d24
  have l25 := S25.nL.trans l24
  have a25 : ∀ j, j < 1 → gad G25 j = gad G0 j := fun j h => (S25.ad (by rw [y24]; exact Nat.lt_of_lt_of_le h (Nat.le_of_ble_eq_true rfl))).trans (a24 j h)
  show AW _ _ _ [(0, .ref (gad G25 0))] [.ref (gad G25 42), .ref (gad G25 0)]
  refine aw_dup C25 rfl (by decide +kernel) rfl ?_
  refine aw_ctorN C25 (fun ad => [(0, .ref (ad 0))]) (fun ad => [.ref (ad 42), .ref (ad 0)]) (c0 := 42) (by rw [y25]; exact kc_11 (sZ (sZ (sZ (sZ (sZ (sZ (sZ (sZ (sI (sZ (sZ (sZ (sZ (sZ (sZ (sZ (sZ (sZ (sZ (sZ (sZ (sZ (sZ (sZ (sZ (sZ (sZ (sZ (sZ (sZ (sZ (sZ (sI (sZ q1.2 11) 11 0 0) 12) 13) 14) 15) 16) 17) 18) 19) 20) 21) 22) 23) 24) 25) 26) 27) 28) 29) 30) 31) 32) 33) 34) 34 0 0) 35) 36) 37) 38) 39) 40) 41) 42)) nw_7 yf_10 rfl tb_283 (fun a b h => by have z0 := h 0 (by rw [y25]; exact Nat.le_of_ble_eq_true rfl); have z42 := h 42 (by rw [y25]; exact Nat.le_of_ble_eq_true rfl); exact ⟨by first | rfl | simp only [z0, z42], by first | rfl | simp only [z0, z42]⟩) (by rw [y25]; exact ⟨_, rfl⟩) (by rw [d25]; exact Nat.le_of_ble_eq_true rfl) (Nat.le_of_ble_eq_true rfl) (by rw [k25, R25]; exact Nat.le_of_ble_eq_true rfl) (by rw [n25, R25]; exact Nat.le_of_ble_eq_true rfl) (by decide +kernel) rfl (fun G26 S26 => ?_)
  have C26 := S26.cx C25 (by rw [k25, R25]; exact Nat.le_of_ble_eq_true rfl) (by rw [n25, R25]; exact Nat.le_of_ble_eq_true rfl)
  have K26 := S26.ck K25
  have y26 : gly G26 = LY_89 := S26.ly
  have k26 : gk G26 = 45 := by rw [S26.k, k25]
  have n26 : gn G26 = 11326 := by rw [S26.n, n25]
  have R26 := S26.R.trans R25
  have d26 := S26.d.trans d25
  have l26 := S26.nL.trans l25
  have a26 : ∀ j, j < 1 → gad G26 j = gad G0 j := fun j h => (S26.ad (by rw [y25]; exact Nat.lt_of_lt_of_le h (Nat.le_of_ble_eq_true rfl))).trans (a25 j h)
  show AW _ _ _ [(0, .ref (gad G26 0))] [.ref (gad G26 42), .ref (gad G26 0)]
  refine aw_putr C26 K26 (k := 8) (r0 := 42) fc_11 (hl := by rw [y26]; decide +kernel) (fs := [some (some 1), some (some 6), some (some 11), some (some 13), some (some 24), some (some 27), some (some 30), some (some 34), some none, some none, some none, some none, none, none, none]) (by decide +kernel) (by decide) rfl rfl ⟨ty11 8, by decide +kernel, fun _ => rfl, fun _ => rfl⟩ tb_404 LY_90 (by rw [y26]; decide +kernel) (by decide +kernel) rfl (fun G27 S27 b27 => ?_)
  rw [← b27]
  have C27 := S27.cx C26 (by rw [k26, R26]; exact Nat.le_of_ble_eq_true rfl) (by rw [n26, R26]; exact Nat.le_of_ble_eq_true rfl)
  have K27 := S27.ck K26
  have y27 : gly G27 = LY_90 := S27.ly
  have k27 : gk G27 = 45 := by rw [S27.k, k26]
  have n27 : gn G27 = 11326 := by rw [S27.n, n26]
  have R27 := S27.R.trans R26
  have d27 := S27.d.trans d26
  have l27 := S27.nL.trans l26
  have a27 : ∀ j, j < 1 → gad G27 j = gad G0 j := fun j h => (S27.ad (by rw [y26]; exact Nat.lt_of_lt_of_le h (Nat.le_of_ble_eq_true rfl))).trans (a26 j h)
  refine aw_aload_n C27 0 0 (j := 0) rfl rfl (by decide +kernel) rfl ?_
  refine aw_new C27 (fun ad => [(0, .ref (ad 0))]) (fun ad => [.ref (ad 0)]) fc_2 fn_2 (by rw [y27]; decide +kernel) tb_296 ti_2 tb_10 (by rw [k27, R27]; exact Nat.le_of_ble_eq_true rfl) (by rw [n27, R27]; exact Nat.le_of_ble_eq_true rfl) (fun a b h => by have z0 := h 0 (by rw [y27]; exact Nat.le_of_ble_eq_true rfl); exact ⟨by first | rfl | simp only [z0], by first | rfl | simp only [z0]⟩) (by decide +kernel) rfl (fun G28 S28 => ?_)
  have e28 : (gly G27).length = 46 := by rw [y27]; exact rfl
  rw [e28]
  have C28 := S28.cx C27 (by rw [k27, R27]; exact Nat.le_of_ble_eq_true rfl) (by rw [n27, R27]; exact Nat.le_of_ble_eq_true rfl)
  have K28 := S28.ck K27
  have y28 : gly G28 = LY_91 := by rw [S28.ly, y27]; decide +kernel
  have k28 : gk G28 = 46 := by rw [S28.k, k27]
  have n28 : gn G28 = 11331 := by rw [S28.n, n27]
  have R28 := S28.R.trans R27
  have d28 := S28.d.trans d27
  have l28 := S28.nL.trans l27
  have a28 : ∀ j, j < 1 → gad G28 j = gad G0 j := fun j h => (S28.ad (by rw [y27]; exact Nat.lt_of_lt_of_le h (Nat.le_of_ble_eq_true rfl))).trans (a27 j h)
  show AW _ _ _ [(0, .ref (gad G28 0))] [.ref (gad G28 46), .ref (gad G28 0)]
  refine aw_dup C28 rfl (by decide +kernel) rfl ?_
  refine aw_ctorN C28 (fun ad => [(0, .ref (ad 0))]) (fun ad => [.ref (ad 46), .ref (ad 0)]) (c0 := 46) (by rw [y28]; exact kc_12 (sZ (sZ (sZ (sZ (sZ (sZ (sZ (sZ (sZ (sZ (sZ (sZ (sI (sZ (sZ (sZ (sZ (sZ (sZ (sZ (sZ (sZ (sZ (sZ (sZ (sZ (sZ (sZ (sZ (sZ (sZ (sZ (sZ (sZ (sZ (sZ (sI (sZ q1.2 11) 11 0 0) 12) 13) 14) 15) 16) 17) 18) 19) 20) 21) 22) 23) 24) 25) 26) 27) 28) 29) 30) 31) 32) 33) 34) 34 0 0) 35) 36) 37) 38) 39) 40) 41) 42) 43) 44) 45) 46)) nw_8 yf_11 rfl tb_299 (fun a b h => by have z0 := h 0 (by rw [y28]; exact Nat.le_of_ble_eq_true rfl); have z46 := h 46 (by rw [y28]; exact Nat.le_of_ble_eq_true rfl); exact ⟨by first | rfl | simp only [z0, z46], by first | rfl | simp only [z0, z46]⟩) (by rw [y28]; exact ⟨_, rfl⟩) (by rw [d28]; exact Nat.le_of_ble_eq_true rfl) (Nat.le_of_ble_eq_true rfl) (by rw [k28, R28]; exact Nat.le_of_ble_eq_true rfl) (by rw [n28, R28]; exact Nat.le_of_ble_eq_true rfl) (by decide +kernel) rfl (fun G29 S29 => ?_)
  have C29 := S29.cx C28 (by rw [k28, R28]; exact Nat.le_of_ble_eq_true rfl) (by rw [n28, R28]; exact Nat.le_of_ble_eq_true rfl)
  have K29 := S29.ck K28
  have y29 : gly G29 = LY_101 := S29.ly
  have k29 : gk G29 = 51 := by rw [S29.k, k28]
  have n29 : gn G29 = 11403 := by rw [S29.n, n28]
  have R29 := S29.R.trans R28
  have d29 := S29.d.trans d28
  have l29 := S29.nL.trans l28
  have a29 : ∀ j, j < 1 → gad G29 j = gad G0 j := fun j h => (S29.ad (by rw [y28]; exact Nat.lt_of_lt_of_le h (Nat.le_of_ble_eq_true rfl))).trans (a28 j h)
  show AW _ _ _ [(0, .ref (gad G29 0))] [.ref (gad G29 46), .ref (gad G29 0)]
  refine aw_putr C29 K29 (k := 9) (r0 := 46) fc_11 (hl := by rw [y29]; decide +kernel) (fs := [some (some 1), some (some 6), some (some 11), some (some 13), some (some 24), some (some 27), some (some 30), some (some 34), some (some 42), some none, some none, some none, none, none, none]) (by decide +kernel) (by decide) rfl rfl ⟨ty11 9, by decide +kernel, fun _ => rfl, fun _ => rfl⟩ tb_405 LY_102 (by rw [y29]; decide +kernel) (by decide +kernel) rfl (fun G30 S30 b30 => ?_)
  rw [← b30]
  have C30 := S30.cx C29 (by rw [k29, R29]; exact Nat.le_of_ble_eq_true rfl) (by rw [n29, R29]; exact Nat.le_of_ble_eq_true rfl)
  have K30 := S30.ck K29
  have y30 : gly G30 = LY_102 := S30.ly
  have k30 : gk G30 = 51 := by rw [S30.k, k29]
  have n30 : gn G30 = 11403 := by rw [S30.n, n29]
  have R30 := S30.R.trans R29
  have d30 := S30.d.trans d29
  have l30 := S30.nL.trans l29
  have a30 : ∀ j, j < 1 → gad G30 j = gad G0 j := fun j h => (S30.ad (by rw [y29]; exact Nat.lt_of_lt_of_le h (Nat.le_of_ble_eq_true rfl))).trans (a29 j h)
  refine aw_aload_n C30 0 0 (j := 0) rfl rfl (by decide +kernel) rfl ?_
  refine aw_new C30 (fun ad => [(0, .ref (ad 0))]) (fun ad => [.ref (ad 0)]) fc_1 fn_1 (by rw [y30]; decide +kernel) tb_325 ti_1 tb_11 (by rw [k30, R30]; exact Nat.le_of_ble_eq_true rfl) (by rw [n30, R30]; exact Nat.le_of_ble_eq_true rfl) (fun a b h => by have z0 := h 0 (by rw [y30]; exact Nat.le_of_ble_eq_true rfl); exact ⟨by first | rfl | simp only [z0], by first | rfl | simp only [z0]⟩) (by decide +kernel) rfl (fun G31 S31 => ?_)
  have e31 : (gly G30).length = 52 := by rw [y30]; exact rfl
  rw [e31]
  have C31 := S31.cx C30 (by rw [k30, R30]; exact Nat.le_of_ble_eq_true rfl) (by rw [n30, R30]; exact Nat.le_of_ble_eq_true rfl)
  have K31 := S31.ck K30
  have y31 : gly G31 = LY_103 := by rw [S31.ly, y30]; decide +kernel
  have k31 : gk G31 = 52 := by rw [S31.k, k30]
  have n31 : gn G31 = 11407 := by rw [S31.n, n30]
  have R31 := S31.R.trans R30
  have d31 := S31.d.trans d30
  have l31 := S31.nL.trans l30
  have a31 : ∀ j, j < 1 → gad G31 j = gad G0 j := fun j h => (S31.ad (by rw [y30]; exact Nat.lt_of_lt_of_le h (Nat.le_of_ble_eq_true rfl))).trans (a30 j h)
  show AW _ _ _ [(0, .ref (gad G31 0))] [.ref (gad G31 52), .ref (gad G31 0)]
  refine aw_dup C31 rfl (by decide +kernel) rfl ?_
  refine aw_ctorN C31 (fun ad => [(0, .ref (ad 0))]) (fun ad => [.ref (ad 52), .ref (ad 0)]) (c0 := 52) (by rw [y31]; exact kc_14 (sZ (sZ (sZ (sZ (sZ (sZ (sZ (sZ (sZ (sZ (sZ (sZ (sZ (sZ (sZ (sZ (sZ (sZ (sI (sZ (sZ (sZ (sZ (sZ (sZ (sZ (sZ (sZ (sZ (sZ (sZ (sZ (sZ (sZ (sZ (sZ (sZ (sZ (sZ (sZ (sZ (sZ (sI (sZ q1.2 11) 11 0 0) 12) 13) 14) 15) 16) 17) 18) 19) 20) 21) 22) 23) 24) 25) 26) 27) 28) 29) 30) 31) 32) 33) 34) 34 0 0) 35) 36) 37) 38) 39) 40) 41) 42) 43) 44) 45) 46) 47) 48) 49) 50) 51) 52)) nw_10 yf_12 rfl tb_328 (fun a b h => by have z0 := h 0 (by rw [y31]; exact Nat.le_of_ble_eq_true rfl); have z52 := h 52 (by rw [y31]; exact Nat.le_of_ble_eq_true rfl); exact ⟨by first | rfl | simp only [z0, z52], by first | rfl | simp only [z0, z52]⟩) (by rw [y31]; exact ⟨_, rfl⟩) (by rw [d31]; exact Nat.le_of_ble_eq_true rfl) (Nat.le_of_ble_eq_true rfl) (by rw [k31, R31]; exact Nat.le_of_ble_eq_true rfl) (by rw [n31, R31]; exact Nat.le_of_ble_eq_true rfl) (by decide +kernel) rfl (fun G32 S32 => ?_)
  have C32 := S32.cx C31 (by rw [k31, R31]; exact Nat.le_of_ble_eq_true rfl) (by rw [n31, R31]; exact Nat.le_of_ble_eq_true rfl)
  have K32 := S32.ck K31
  have y32 : gly G32 = LY_109 := S32.ly
  have k32 : gk G32 = 55 := by rw [S32.k, k31]
  have n32 : gn G32 = 11979 := by rw [S32.n, n31]
  have R32 := S32.R.trans R31
  have d32 := S32.d.trans d31
  have l32 := S32.nL.trans l31
  have a32 : ∀ j, j < 1 → gad G32 j = gad G0 j := fun j h => (S32.ad (by rw [y31]; exact Nat.lt_of_lt_of_le h (Nat.le_of_ble_eq_true rfl))).trans (a31 j h)
  show AW _ _ _ [(0, .ref (gad G32 0))] [.ref (gad G32 52), .ref (gad G32 0)]
  refine aw_putr C32 K32 (k := 10) (r0 := 52) fc_11 (hl := by rw [y32]; decide +kernel) (fs := [some (some 1), some (some 6), some (some 11), some (some 13), some (some 24), some (some 27), some (some 30), some (some 34), some (some 42), some (some 46), some none, some none, none, none, none]) (by decide +kernel) (by decide) rfl rfl ⟨ty11 10, by decide +kernel, fun _ => rfl, fun _ => rfl⟩ tb_406 LY_110 (by rw [y32]; decide +kernel) (by decide +kernel) rfl (fun G33 S33 b33 => ?_)
  rw [← b33]
  have C33 := S33.cx C32 (by rw [k32, R32]; exact Nat.le_of_ble_eq_true rfl) (by rw [n32, R32]; exact Nat.le_of_ble_eq_true rfl)
  have K33 := S33.ck K32
  have y33 : gly G33 = LY_110 := S33.ly
  have k33 : gk G33 = 55 := by rw [S33.k, k32]
  have n33 : gn G33 = 11979 := by rw [S33.n, n32]
  have R33 := S33.R.trans R32
  have d33 := S33.d.trans d32
  have l33 := S33.nL.trans l32
  have a33 : ∀ j, j < 1 → gad G33 j = gad G0 j := fun j h => (S33.ad (by rw [y32]; exact Nat.lt_of_lt_of_le h (Nat.le_of_ble_eq_true rfl))).trans (a32 j h)
  refine aw_aload_n C33 0 0 (j := 0) rfl rfl (by decide +kernel) rfl ?_
  refine aw_new C33 (fun ad => [(0, .ref (ad 0))]) (fun ad => [.ref (ad 0)]) fc_5 fn_5 (by rw [y33]; decide +kernel) tb_345 ti_5 tb_12 (by rw [k33, R33]; exact Nat.le_of_ble_eq_true rfl) (by rw [n33, R33]; exact Nat.le_of_ble_eq_true rfl) (fun a b h => by have z0 := h 0 (by rw [y33]; exact Nat.le_of_ble_eq_true rfl); exact ⟨by first | rfl | simp only [z0], by first | rfl | simp only [z0]⟩) (by decide +kernel) rfl (fun G34 S34 => ?_)
  have e34 : (gly G33).length = 56 := by rw [y33]; exact rfl
  rw [e34]
  have C34 := S34.cx C33 (by rw [k33, R33]; exact Nat.le_of_ble_eq_true rfl) (by rw [n33, R33]; exact Nat.le_of_ble_eq_true rfl)
  have K34 := S34.ck K33
  have y34 : gly G34 = LY_111 := by rw [S34.ly, y33]; decide +kernel
  have k34 : gk G34 = 56 := by rw [S34.k, k33]
  have n34 : gn G34 = 11981 := by rw [S34.n, n33]
  have R34 := S34.R.trans R33
  have d34 := S34.d.trans d33
  have l34 := S34.nL.trans l33
  have a34 : ∀ j, j < 1 → gad G34 j = gad G0 j := fun j h => (S34.ad (by rw [y33]; exact Nat.lt_of_lt_of_le h (Nat.le_of_ble_eq_true rfl))).trans (a33 j h)
  show AW _ _ _ [(0, .ref (gad G34 0))] [.ref (gad G34 56), .ref (gad G34 0)]
  refine aw_dup C34 rfl (by decide +kernel) rfl ?_
  refine aw_ctorN C34 (fun ad => [(0, .ref (ad 0))]) (fun ad => [.ref (ad 56), .ref (ad 0)]) (c0 := 56) (by rw [y34]; exact kc_15 (sZ (sZ (sZ (sZ (sZ (sZ (sZ (sZ (sZ (sZ (sZ (sZ (sZ (sZ (sZ (sZ (sZ (sZ (sZ (sZ (sZ (sZ (sI (sZ (sZ (sZ (sZ (sZ (sZ (sZ (sZ (sZ (sZ (sZ (sZ (sZ (sZ (sZ (sZ (sZ (sZ (sZ (sZ (sZ (sZ (sZ (sI (sZ q1.2 11) 11 0 0) 12) 13) 14) 15) 16) 17) 18) 19) 20) 21) 22) 23) 24) 25) 26) 27) 28) 29) 30) 31) 32) 33) 34) 34 0 0) 35) 36) 37) 38) 39) 40) 41) 42) 43) 44) 45) 46) 47) 48) 49) 50) 51) 52) 53) 54) 55) 56)) nw_11 yf_13 rfl tb_348 (fun a b h => by have z0 := h 0 (by rw [y34]; exact Nat.le_of_ble_eq_true rfl); have z56 := h 56 (by rw [y34]; exact Nat.le_of_ble_eq_true rfl); exact ⟨by first | rfl | simp only [z0, z56], by first | rfl | simp only [z0, z56]⟩) (by rw [y34]; exact ⟨_, rfl⟩) (by rw [d34]; exact Nat.le_of_ble_eq_true rfl) (Nat.le_of_ble_eq_true rfl) (by rw [k34, R34]; exact Nat.le_of_ble_eq_true rfl) (by rw [n34, R34]; exact Nat.le_of_ble_eq_true rfl) (by decide +kernel) rfl (fun G35 S35 => ?_)
  have C35 := S35.cx C34 (by rw [k34, R34]; exact Nat.le_of_ble_eq_true rfl) (by rw [n34, R34]; exact Nat.le_of_ble_eq_true rfl)
  have K35 := S35.ck K34
  have y35 : gly G35 = LY_113 := S35.ly
  have k35 : gk G35 = 57 := by rw [S35.k, k34]
  have n35 : gn G35 = 13005 := by rw [S35.n, n34]
  have R35 := S35.R.trans R34
  have d35 := S35.d.trans d34
  have l35 := S35.nL.trans l34
  have a35 : ∀ j, j < 1 → gad G35 j = gad G0 j := fun j h => (S35.ad (by rw [y34]; exact Nat.lt_of_lt_of_le h (Nat.le_of_ble_eq_true rfl))).trans (a34 j h)
  show AW _ _ _ [(0, .ref (gad G35 0))] [.ref (gad G35 56), .ref (gad G35 0)]
  refine aw_putr C35 K35 (k := 11) (r0 := 56) fc_11 (hl := by rw [y35]; decide +kernel) (fs := [some (some 1), some (some 6), some (some 11), some (some 13), some (some 24), some (some 27), some (some 30), some (some 34), some (some 42), some (some 46), some (some 52), some none, none, none, none]) (by decide +kernel) (by decide) rfl rfl ⟨ty11 11, by decide +kernel, fun _ => rfl, fun _ => rfl⟩ tb_407 LC (by rw [y35]; decide +kernel) (by decide +kernel) rfl (fun G36 S36 b36 => ?_)
  rw [← b36]
  have C36 := S36.cx C35 (by rw [k35, R35]; exact Nat.le_of_ble_eq_true rfl) (by rw [n35, R35]; exact Nat.le_of_ble_eq_true rfl)
  have K36 := S36.ck K35
  have y36 : gly G36 = LC := S36.ly
  have k36 : gk G36 = 57 := by rw [S36.k, k35]
  have n36 : gn G36 = 13005 := by rw [S36.n, n35]
  have R36 := S36.R.trans R35
  have d36 := S36.d.trans d35
  have l36 := S36.nL.trans l35
  have a36 : ∀ j, j < 1 → gad G36 j = gad G0 j := fun j h => (S36.ad (by rw [y35]; exact Nat.lt_of_lt_of_le h (Nat.le_of_ble_eq_true rfl))).trans (a35 j h)
  refine aw_aload_n C36 0 0 (j := 0) rfl rfl (by decide +kernel) rfl ?_
  refine aw_iconst C36 (i0 := 0) (v := 0) (by decide) (by decide +kernel) rfl ?_
  refine aw_putZ C36 (k := 12) (fs := [some (some 1), some (some 6), some (some 11), some (some 13), some (some 24), some (some 27), some (some 30), some (some 34), some (some 42), some (some 46), some (some 52), some (some 56), none, none, none]) fc_11 (by rw [y36]; decide +kernel) rfl (by decide) rfl rfl (by decide) tb_408 (by decide +kernel) rfl ?_
  refine aw_aload_n C36 0 0 (j := 0) rfl rfl (by decide +kernel) rfl ?_
  refine aw_iconst C36 (i0 := 0) (v := 0) (by decide) (by decide +kernel) rfl ?_
  refine aw_putZ C36 (k := 13) (fs := [some (some 1), some (some 6), some (some 11), some (some 13), some (some 24), some (some 27), some (some 30), some (some 34), some (some 42), some (some 46), some (some 52), some (some 56), none, none, none]) fc_11 (by rw [y36]; decide +kernel) rfl (by decide) rfl rfl (by decide) tb_409 (by decide +kernel) rfl ?_
  refine aw_aload_n C36 0 0 (j := 0) rfl rfl (by decide +kernel) rfl ?_
  refine aw_iconst C36 (i0 := 0) (v := 0) (by decide) (by decide +kernel) rfl ?_
  refine aw_put C36 (k := 14) (fs := [some (some 1), some (some 6), some (some 11), some (some 13), some (some 24), some (some 27), some (some 30), some (some 34), some (some 42), some (some 46), some (some 52), some (some 56), none, none, none]) fc_11 (by rw [y36]; decide +kernel) rfl (by decide) rfl rfl tb_410 (by decide +kernel) rfl ?_
  refine aw_aload_n C36 0 0 (j := 0) rfl rfl (by decide +kernel) rfl ?_
  refine aw_callV C36 (rest := []) (by rw [y36]; exact c_x_reopen (lay := LC) (fun c x h => h) _ q2 hq2) tb_359 yf_14 yi_14 (q0 := 0) (fs := [some (some 1), some (some 6), some (some 11), some (some 13), some (some 24), some (some 27), some (some 30), some (some 34), some (some 42), some (some 46), some (some 52), some (some 56), none, none, none]) (by rw [y36]; decide +kernel) [] rfl rfl _ rfl (by rw [d36]; exact Nat.le_of_ble_eq_true rfl) (Nat.le_of_ble_eq_true rfl) (by decide +kernel) rfl ?_
  show AW _ _ _ _ []
  exact aw_cret C36 K36 a36 y36 rfl k36 n36 (by decide +kernel)
theorem kc_16 (st : Mm) (q0 : Unit × Mm) (hq0 : f_m_begins 16 (sI (sZ (sZ (sZ (sZ (sZ (sZ (sZ (sZ (sZ (sZ (sZ (sZ (sZ (sZ (sZ (sZ (sZ (sZ (sZ (sZ (sZ (sZ (sZ (sZ (sZ (sZ (sZ (sZ (sZ (sZ (sZ (sZ st 59) 60) 61) 62) 63) 64) 65) 66) 67) 68) 69) 70) 71) 72) 73) 74) 75) 76) 77) 78) 79) 80) 81) 82) 83) 84) 85) 86) 87) 88) 89) 90) 58 3 1) = some q0) : ConK 1 Y139 prog_14_method_1_code LY_114 58 st (LC ++ LM) q0.2 32 23599 := by
  refine am_metK yf_139.2.2.2.2.2 rfl (fun G0 C0 K0 y0 l0 k0 n0 R0 d0 => ?_)
  have a0 : ∀ j, j < 59 → gad G0 j = gad G0 j := fun _ _ => rfl
  refine aw_aload_n C0 0 0 (j := 0) rfl rfl (by decide +kernel) rfl ?_
  refine aw_obj C0 (by rw [d0]; exact Nat.le_of_ble_eq_true rfl) (Nat.le_of_ble_eq_true rfl) tb_937 tb_24 tb_25 (by decide +kernel) rfl ?_
  refine aw_aload_n C0 0 0 (j := 0) rfl rfl (by decide +kernel) rfl ?_
  refine aw_bipush C0 (i0 := 9) (v := 9) (by decide) (by decide +kernel) rfl ?_
  refine aw_newarr C0 (fun ad => [(0, .ref (ad 58))]) (fun ad => [.ref (ad 58)]) (atype := .int) (N := 9) (Or.inl ⟨rfl, rfl⟩) (by rw [y0]; decide +kernel) ta_int (by decide) (by decide) (by decide) (by rw [k0, R0]; exact Nat.le_of_ble_eq_true rfl) (by rw [n0, R0]; exact Nat.le_of_ble_eq_true rfl) (fun a b h => by have z58 := h 58 (by rw [y0]; exact Nat.le_of_ble_eq_true rfl); exact ⟨by first | rfl | simp only [z58], by first | rfl | simp only [z58]⟩) (by decide +kernel) rfl (fun G1 S1 => ?_)
  have e1 : (gly G0).length = 59 := by rw [y0]; exact rfl
  rw [e1]
  have C1 := S1.cx C0 (by rw [k0, R0]; exact Nat.le_of_ble_eq_true rfl) (by rw [n0, R0]; exact Nat.le_of_ble_eq_true rfl)
  have K1 := S1.ck K0
  have y1 : gly G1 = LY_115 := by rw [S1.ly, y0]; decide +kernel
  have k1 : gk G1 = 1 := by rw [S1.k, k0]
  have n1 : gn G1 = 9 := by rw [S1.n, n0]
  have R1 := S1.R.trans R0
  have d1 := S1.d.trans d0
  have l1 := S1.nL.trans l0
  have a1 : ∀ j, j < 59 → gad G1 j = gad G0 j := fun j h => (S1.ad (by rw [y0]; exact Nat.lt_of_lt_of_le h (Nat.le_of_ble_eq_true rfl))).trans (a0 j h)
  show AW _ _ _ [(0, .ref (gad G1 58))] [.ref (gad G1 59), .ref (gad G1 58)]
  refine aw_putr C1 K1 (k := 4) (r0 := 59) fc_12 (hl := by rw [y1]; decide +kernel) (fs := [none, none, none, none, some none, some none, some none, some none, none, none, none, some none, none, none, none, none, none, some none, some none, none, none, none, none, none, none, none, none, none, none, none, some none, some none, some none, some none, some none, some none, some none, some none, some none, none, none, none, some none, some none, some none, some none, some none, some none, none, none, some none, some none, some none, some none, some none, some none, none, none, none, none, none, some none, some none, some none, some none]) (by decide +kernel) (by decide) rfl rfl ⟨ty12 4, by decide +kernel, fun _ => rfl, fun _ => rfl⟩ tb_946 LY_116 (by rw [y1]; decide +kernel) (by decide +kernel) rfl (fun G2 S2 b2 => ?_)
  rw [← b2]
  have C2 := S2.cx C1 (by rw [k1, R1]; exact Nat.le_of_ble_eq_true rfl) (by rw [n1, R1]; exact Nat.le_of_ble_eq_true rfl)
  have K2 := S2.ck K1
  have y2 : gly G2 = LY_116 := S2.ly
  have k2 : gk G2 = 1 := by rw [S2.k, k1]
  have n2 : gn G2 = 9 := by rw [S2.n, n1]
  have R2 := S2.R.trans R1
  have d2 := S2.d.trans d1
  have l2 := S2.nL.trans l1
  have a2 : ∀ j, j < 59 → gad G2 j = gad G0 j := fun j h => (S2.ad (by rw [y1]; exact Nat.lt_of_lt_of_le h (Nat.le_of_ble_eq_true rfl))).trans (a1 j h)
  refine aw_aload_n C2 0 0 (j := 0) rfl rfl (by decide +kernel) rfl ?_
  refine aw_bipush C2 (i0 := 16) (v := 16) (by decide) (by decide +kernel) rfl ?_
  refine aw_newarr C2 (fun ad => [(0, .ref (ad 58))]) (fun ad => [.ref (ad 58)]) (atype := .int) (N := 16) (Or.inl ⟨rfl, rfl⟩) (by rw [y2]; decide +kernel) ta_int (by decide) (by decide) (by decide) (by rw [k2, R2]; exact Nat.le_of_ble_eq_true rfl) (by rw [n2, R2]; exact Nat.le_of_ble_eq_true rfl) (fun a b h => by have z58 := h 58 (by rw [y2]; exact Nat.le_of_ble_eq_true rfl); exact ⟨by first | rfl | simp only [z58], by first | rfl | simp only [z58]⟩) (by decide +kernel) rfl (fun G3 S3 => ?_)
  have e3 : (gly G2).length = 60 := by rw [y2]; exact rfl
  rw [e3]
  have C3 := S3.cx C2 (by rw [k2, R2]; exact Nat.le_of_ble_eq_true rfl) (by rw [n2, R2]; exact Nat.le_of_ble_eq_true rfl)
  have K3 := S3.ck K2
  have y3 : gly G3 = LY_117 := by rw [S3.ly, y2]; decide +kernel
  have k3 : gk G3 = 2 := by rw [S3.k, k2]
  have n3 : gn G3 = 25 := by rw [S3.n, n2]
  have R3 := S3.R.trans R2
  have d3 := S3.d.trans d2
  have l3 := S3.nL.trans l2
  have a3 : ∀ j, j < 59 → gad G3 j = gad G0 j := fun j h => (S3.ad (by rw [y2]; exact Nat.lt_of_lt_of_le h (Nat.le_of_ble_eq_true rfl))).trans (a2 j h)
  show AW _ _ _ [(0, .ref (gad G3 58))] [.ref (gad G3 60), .ref (gad G3 58)]
  refine aw_putr C3 K3 (k := 5) (r0 := 60) fc_12 (hl := by rw [y3]; decide +kernel) (fs := [none, none, none, none, some (some 59), some none, some none, some none, none, none, none, some none, none, none, none, none, none, some none, some none, none, none, none, none, none, none, none, none, none, none, none, some none, some none, some none, some none, some none, some none, some none, some none, some none, none, none, none, some none, some none, some none, some none, some none, some none, none, none, some none, some none, some none, some none, some none, some none, none, none, none, none, none, some none, some none, some none, some none]) (by decide +kernel) (by decide) rfl rfl ⟨ty12 5, by decide +kernel, fun _ => rfl, fun _ => rfl⟩ tb_947 LY_118 (by rw [y3]; decide +kernel) (by decide +kernel) rfl (fun G4 S4 b4 => ?_)
  rw [← b4]
  have C4 := S4.cx C3 (by rw [k3, R3]; exact Nat.le_of_ble_eq_true rfl) (by rw [n3, R3]; exact Nat.le_of_ble_eq_true rfl)
  have K4 := S4.ck K3
  have y4 : gly G4 = LY_118 := S4.ly
  have k4 : gk G4 = 2 := by rw [S4.k, k3]
  have n4 : gn G4 = 25 := by rw [S4.n, n3]
  have R4 := S4.R.trans R3
  have d4 := S4.d.trans d3
  have l4 := S4.nL.trans l3
  have a4 : ∀ j, j < 59 → gad G4 j = gad G0 j := fun j h => (S4.ad (by rw [y3]; exact Nat.lt_of_lt_of_le h (Nat.le_of_ble_eq_true rfl))).trans (a3 j h)
  refine aw_aload_n C4 0 0 (j := 0) rfl rfl (by decide +kernel) rfl ?_
  refine aw_sipush C4 (i0 := 256) (v := 256) (by decide) (by decide +kernel) rfl ?_
  refine aw_newarr C4 (fun ad => [(0, .ref (ad 58))]) (fun ad => [.ref (ad 58)]) (atype := .boolean) (N := 256) (Or.inr (Or.inl ⟨rfl, rfl⟩)) (by rw [y4]; decide +kernel) ta_boolean (by decide) (by decide) (by decide) (by rw [k4, R4]; exact Nat.le_of_ble_eq_true rfl) (by rw [n4, R4]; exact Nat.le_of_ble_eq_true rfl) (fun a b h => by have z58 := h 58 (by rw [y4]; exact Nat.le_of_ble_eq_true rfl); exact ⟨by first | rfl | simp only [z58], by first | rfl | simp only [z58]⟩) (by decide +kernel) rfl (fun G5 S5 => ?_)
  have e5 : (gly G4).length = 61 := by rw [y4]; exact rfl
  rw [e5]
  have C5 := S5.cx C4 (by rw [k4, R4]; exact Nat.le_of_ble_eq_true rfl) (by rw [n4, R4]; exact Nat.le_of_ble_eq_true rfl)
  have K5 := S5.ck K4
  have y5 : gly G5 = LY_119 := by rw [S5.ly, y4]; decide +kernel
  have k5 : gk G5 = 3 := by rw [S5.k, k4]
  have n5 : gn G5 = 281 := by rw [S5.n, n4]
  have R5 := S5.R.trans R4
  have d5 := S5.d.trans d4
  have l5 := S5.nL.trans l4
  have a5 : ∀ j, j < 59 → gad G5 j = gad G0 j := fun j h => (S5.ad (by rw [y4]; exact Nat.lt_of_lt_of_le h (Nat.le_of_ble_eq_true rfl))).trans (a4 j h)
  show AW _ _ _ [(0, .ref (gad G5 58))] [.ref (gad G5 61), .ref (gad G5 58)]
  refine aw_putr C5 K5 (k := 6) (r0 := 61) fc_12 (hl := by rw [y5]; decide +kernel) (fs := [none, none, none, none, some (some 59), some (some 60), some none, some none, none, none, none, some none, none, none, none, none, none, some none, some none, none, none, none, none, none, none, none, none, none, none, none, some none, some none, some none, some none, some none, some none, some none, some none, some none, none, none, none, some none, some none, some none, some none, some none, some none, none, none, some none, some none, some none, some none, some none, some none, none, none, none, none, none, some none, some none, some none, some none]) (by decide +kernel) (by decide) rfl rfl ⟨ty12 6, by decide +kernel, fun _ => rfl, fun _ => rfl⟩ tb_948 LY_120 (by rw [y5]; decide +kernel) (by decide +kernel) rfl (fun G6 S6 b6 => ?_)
  rw [← b6]
  have C6 := S6.cx C5 (by rw [k5, R5]; exact Nat.le_of_ble_eq_true rfl) (by rw [n5, R5]; exact Nat.le_of_ble_eq_true rfl)
  have K6 := S6.ck K5
  have y6 : gly G6 = LY_120 := S6.ly
  have k6 : gk G6 = 3 := by rw [S6.k, k5]
  have n6 : gn G6 = 281 := by rw [S6.n, n5]
  have R6 := S6.R.trans R5
  have d6 := S6.d.trans d5
  have l6 := S6.nL.trans l5
  have a6 : ∀ j, j < 59 → gad G6 j = gad G0 j := fun j h => (S6.ad (by rw [y5]; exact Nat.lt_of_lt_of_le h (Nat.le_of_ble_eq_true rfl))).trans (a5 j h)
  refine aw_aload_n C6 0 0 (j := 0) rfl rfl (by decide +kernel) rfl ?_
  refine aw_sipush C6 (i0 := 256) (v := 256) (by decide) (by decide +kernel) rfl ?_
  refine aw_newarr C6 (fun ad => [(0, .ref (ad 58))]) (fun ad => [.ref (ad 58)]) (atype := .boolean) (N := 256) (Or.inr (Or.inl ⟨rfl, rfl⟩)) (by rw [y6]; decide +kernel) ta_boolean (by decide) (by decide) (by decide) (by rw [k6, R6]; exact Nat.le_of_ble_eq_true rfl) (by rw [n6, R6]; exact Nat.le_of_ble_eq_true rfl) (fun a b h => by have z58 := h 58 (by rw [y6]; exact Nat.le_of_ble_eq_true rfl); exact ⟨by first | rfl | simp only [z58], by first | rfl | simp only [z58]⟩) (by decide +kernel) rfl (fun G7 S7 => ?_)
  have e7 : (gly G6).length = 62 := by rw [y6]; exact rfl
  rw [e7]
  have C7 := S7.cx C6 (by rw [k6, R6]; exact Nat.le_of_ble_eq_true rfl) (by rw [n6, R6]; exact Nat.le_of_ble_eq_true rfl)
  have K7 := S7.ck K6
  have y7 : gly G7 = LY_121 := by rw [S7.ly, y6]; decide +kernel
  have k7 : gk G7 = 4 := by rw [S7.k, k6]
  have n7 : gn G7 = 537 := by rw [S7.n, n6]
  have R7 := S7.R.trans R6
  have d7 := S7.d.trans d6
  have l7 := S7.nL.trans l6
  have a7 : ∀ j, j < 59 → gad G7 j = gad G0 j := fun j h => (S7.ad (by rw [y6]; exact Nat.lt_of_lt_of_le h (Nat.le_of_ble_eq_true rfl))).trans (a6 j h)
  show AW _ _ _ [(0, .ref (gad G7 58))] [.ref (gad G7 62), .ref (gad G7 58)]
  refine aw_putr C7 K7 (k := 7) (r0 := 62) fc_12 (hl := by rw [y7]; decide +kernel) (fs := [none, none, none, none, some (some 59), some (some 60), some (some 61), some none, none, none, none, some none, none, none, none, none, none, some none, some none, none, none, none, none, none, none, none, none, none, none, none, some none, some none, some none, some none, some none, some none, some none, some none, some none, none, none, none, some none, some none, some none, some none, some none, some none, none, none, some none, some none, some none, some none, some none, some none, none, none, none, none, none, some none, some none, some none, some none]) (by decide +kernel) (by decide) rfl rfl ⟨ty12 7, by decide +kernel, fun _ => rfl, fun _ => rfl⟩ tb_949 LY_122 (by rw [y7]; decide +kernel) (by decide +kernel) rfl (fun G8 S8 b8 => ?_)
  rw [← b8]
  have C8 := S8.cx C7 (by rw [k7, R7]; exact Nat.le_of_ble_eq_true rfl) (by rw [n7, R7]; exact Nat.le_of_ble_eq_true rfl)
  have K8 := S8.ck K7
  have y8 : gly G8 = LY_122 := S8.ly
  have k8 : gk G8 = 4 := by rw [S8.k, k7]
  have n8 : gn G8 = 537 := by rw [S8.n, n7]
  have R8 := S8.R.trans R7
  have d8 := S8.d.trans d7
  have l8 := S8.nL.trans l7
  have a8 : ∀ j, j < 59 → gad G8 j = gad G0 j := fun j h => (S8.ad (by rw [y7]; exact Nat.lt_of_lt_of_le h (Nat.le_of_ble_eq_true rfl))).trans (a7 j h)
  refine aw_aload_n C8 0 0 (j := 0) rfl rfl (by decide +kernel) rfl ?_
  refine aw_bipush C8 (i0 := 9) (v := 9) (by decide) (by decide +kernel) rfl ?_
  refine aw_newarr C8 (fun ad => [(0, .ref (ad 58))]) (fun ad => [.ref (ad 58)]) (atype := .int) (N := 9) (Or.inl ⟨rfl, rfl⟩) (by rw [y8]; decide +kernel) ta_int (by decide) (by decide) (by decide) (by rw [k8, R8]; exact Nat.le_of_ble_eq_true rfl) (by rw [n8, R8]; exact Nat.le_of_ble_eq_true rfl) (fun a b h => by have z58 := h 58 (by rw [y8]; exact Nat.le_of_ble_eq_true rfl); exact ⟨by first | rfl | simp only [z58], by first | rfl | simp only [z58]⟩) (by decide +kernel) rfl (fun G9 S9 => ?_)
  have e9 : (gly G8).length = 63 := by rw [y8]; exact rfl
  rw [e9]
  have C9 := S9.cx C8 (by rw [k8, R8]; exact Nat.le_of_ble_eq_true rfl) (by rw [n8, R8]; exact Nat.le_of_ble_eq_true rfl)
  have K9 := S9.ck K8
  have y9 : gly G9 = LY_123 := by rw [S9.ly, y8]; decide +kernel
  have k9 : gk G9 = 5 := by rw [S9.k, k8]
  have n9 : gn G9 = 546 := by rw [S9.n, n8]
  have R9 := S9.R.trans R8
  have d9 := S9.d.trans d8
  have l9 := S9.nL.trans l8
  have a9 : ∀ j, j < 59 → gad G9 j = gad G0 j := fun j h => (S9.ad (by rw [y8]; exact Nat.lt_of_lt_of_le h (Nat.le_of_ble_eq_true rfl))).trans (a8 j h)
  show AW _ _ _ [(0, .ref (gad G9 58))] [.ref (gad G9 63), .ref (gad G9 58)]
  refine aw_putr C9 K9 (k := 11) (r0 := 63) fc_12 (hl := by rw [y9]; decide +kernel) (fs := [none, none, none, none, some (some 59), some (some 60), some (some 61), some (some 62), none, none, none, some none, none, none, none, none, none, some none, some none, none, none, none, none, none, none, none, none, none, none, none, some none, some none, some none, some none, some none, some none, some none, some none, some none, none, none, none, some none, some none, some none, some none, some none, some none, none, none, some none, some none, some none, some none, some none, some none, none, none, none, none, none, some none, some none, some none, some none]) (by decide +kernel) (by decide) rfl rfl ⟨ty12 11, by decide +kernel, fun _ => rfl, fun _ => rfl⟩ tb_953 LY_124 (by rw [y9]; decide +kernel) (by decide +kernel) rfl (fun G10 S10 b10 => ?_)
  rw [← b10]
  have C10 := S10.cx C9 (by rw [k9, R9]; exact Nat.le_of_ble_eq_true rfl) (by rw [n9, R9]; exact Nat.le_of_ble_eq_true rfl)
  have K10 := S10.ck K9
  have y10 : gly G10 = LY_124 := S10.ly
  have k10 : gk G10 = 5 := by rw [S10.k, k9]
  have n10 : gn G10 = 546 := by rw [S10.n, n9]
  have R10 := S10.R.trans R9
  have d10 := S10.d.trans d9
  have l10 := S10.nL.trans l9
  have a10 : ∀ j, j < 59 → gad G10 j = gad G0 j := fun j h => (S10.ad (by rw [y9]; exact Nat.lt_of_lt_of_le h (Nat.le_of_ble_eq_true rfl))).trans (a9 j h)
  refine aw_aload_n C10 0 0 (j := 0) rfl rfl (by decide +kernel) rfl ?_
  refine aw_sipush C10 (i0 := 256) (v := 256) (by decide) (by decide +kernel) rfl ?_
  refine aw_newarr C10 (fun ad => [(0, .ref (ad 58))]) (fun ad => [.ref (ad 58)]) (atype := .int) (N := 256) (Or.inl ⟨rfl, rfl⟩) (by rw [y10]; decide +kernel) ta_int (by decide) (by decide) (by decide) (by rw [k10, R10]; exact Nat.le_of_ble_eq_true rfl) (by rw [n10, R10]; exact Nat.le_of_ble_eq_true rfl) (fun a b h => by have z58 := h 58 (by rw [y10]; exact Nat.le_of_ble_eq_true rfl); exact ⟨by first | rfl | simp only [z58], by first | rfl | simp only [z58]⟩) (by decide +kernel) rfl (fun G11 S11 => ?_)
  have e11 : (gly G10).length = 64 := by rw [y10]; exact rfl
  rw [e11]
  have C11 := S11.cx C10 (by rw [k10, R10]; exact Nat.le_of_ble_eq_true rfl) (by rw [n10, R10]; exact Nat.le_of_ble_eq_true rfl)
  have K11 := S11.ck K10
  have y11 : gly G11 = LY_125 := by rw [S11.ly, y10]; decide +kernel
  have k11 : gk G11 = 6 := by rw [S11.k, k10]
  have n11 : gn G11 = 802 := by rw [S11.n, n10]
  have R11 := S11.R.trans R10
  have d11 := S11.d.trans d10
  have l11 := S11.nL.trans l10
  have a11 : ∀ j, j < 59 → gad G11 j = gad G0 j := fun j h => (S11.ad (by rw [y10]; exact Nat.lt_of_lt_of_le h (Nat.le_of_ble_eq_true rfl))).trans (a10 j h)
  show AW _ _ _ [(0, .ref (gad G11 58))] [.ref (gad G11 64), .ref (gad G11 58)]
  refine aw_putr C11 K11 (k := 17) (r0 := 64) fc_12 (hl := by rw [y11]; decide +kernel) (fs := [none, none, none, none, some (some 59), some (some 60), some (some 61), some (some 62), none, none, none, some (some 63), none, none, none, none, none, some none, some none, none, none, none, none, none, none, none, none, none, none, none, some none, some none, some none, some none, some none, some none, some none, some none, some none, none, none, none, some none, some none, some none, some none, some none, some none, none, none, some none, some none, some none, some none, some none, some none, none, none, none, none, none, some none, some none, some none, some none]) (by decide +kernel) (by decide) rfl rfl ⟨ty12 17, by decide +kernel, fun _ => rfl, fun _ => rfl⟩ tb_959 LY_126 (by rw [y11]; decide +kernel) (by decide +kernel) rfl (fun G12 S12 b12 => ?_)
  rw [← b12]
  have C12 := S12.cx C11 (by rw [k11, R11]; exact Nat.le_of_ble_eq_true rfl) (by rw [n11, R11]; exact Nat.le_of_ble_eq_true rfl)
  have K12 := S12.ck K11
  have y12 : gly G12 = LY_126 := S12.ly
  have k12 : gk G12 = 6 := by rw [S12.k, k11]
  have n12 : gn G12 = 802 := by rw [S12.n, n11]
  have R12 := S12.R.trans R11
  have d12 := S12.d.trans d11
  have l12 := S12.nL.trans l11
  have a12 : ∀ j, j < 59 → gad G12 j = gad G0 j := fun j h => (S12.ad (by rw [y11]; exact Nat.lt_of_lt_of_le h (Nat.le_of_ble_eq_true rfl))).trans (a11 j h)
  refine aw_aload_n C12 0 0 (j := 0) rfl rfl (by decide +kernel) rfl ?_
  refine aw_sipush C12 (i0 := 200) (v := 200) (by decide) (by decide +kernel) rfl ?_
  refine aw_newarr C12 (fun ad => [(0, .ref (ad 58))]) (fun ad => [.ref (ad 58)]) (atype := .byte) (N := 200) (Or.inr (Or.inr (Or.inl ⟨rfl, rfl⟩))) (by rw [y12]; decide +kernel) ta_byte (by decide) (by decide) (by decide) (by rw [k12, R12]; exact Nat.le_of_ble_eq_true rfl) (by rw [n12, R12]; exact Nat.le_of_ble_eq_true rfl) (fun a b h => by have z58 := h 58 (by rw [y12]; exact Nat.le_of_ble_eq_true rfl); exact ⟨by first | rfl | simp only [z58], by first | rfl | simp only [z58]⟩) (by decide +kernel) rfl (fun G13 S13 => ?_)
  have e13 : (gly G12).length = 65 := by rw [y12]; exact rfl
  rw [e13]
  have C13 := S13.cx C12 (by rw [k12, R12]; exact Nat.le_of_ble_eq_true rfl) (by rw [n12, R12]; exact Nat.le_of_ble_eq_true rfl)
  have K13 := S13.ck K12
  have y13 : gly G13 = LY_127 := by rw [S13.ly, y12]; decide +kernel
  have k13 : gk G13 = 7 := by rw [S13.k, k12]
  have n13 : gn G13 = 1002 := by rw [S13.n, n12]
  have R13 := S13.R.trans R12
  have d13 := S13.d.trans d12
  have l13 := S13.nL.trans l12
  have a13 : ∀ j, j < 59 → gad G13 j = gad G0 j := fun j h => (S13.ad (by rw [y12]; exact Nat.lt_of_lt_of_le h (Nat.le_of_ble_eq_true rfl))).trans (a12 j h)
  show AW _ _ _ [(0, .ref (gad G13 58))] [.ref (gad G13 65), .ref (gad G13 58)]
  refine aw_putr C13 K13 (k := 18) (r0 := 65) fc_12 (hl := by rw [y13]; decide +kernel) (fs := [none, none, none, none, some (some 59), some (some 60), some (some 61), some (some 62), none, none, none, some (some 63), none, none, none, none, none, some (some 64), some none, none, none, none, none, none, none, none, none, none, none, none, some none, some none, some none, some none, some none, some none, some none, some none, some none, none, none, none, some none, some none, some none, some none, some none, some none, none, none, some none, some none, some none, some none, some none, some none, none, none, none, none, none, some none, some none, some none, some none]) (by decide +kernel) (by decide) rfl rfl ⟨ty12 18, by decide +kernel, fun _ => rfl, fun _ => rfl⟩ tb_960 LY_128 (by rw [y13]; decide +kernel) (by decide +kernel) rfl (fun G14 S14 b14 => ?_)
  rw [← b14]
  have C14 := S14.cx C13 (by rw [k13, R13]; exact Nat.le_of_ble_eq_true rfl) (by rw [n13, R13]; exact Nat.le_of_ble_eq_true rfl)
  have K14 := S14.ck K13
  have y14 : gly G14 = LY_128 := S14.ly
  have k14 : gk G14 = 7 := by rw [S14.k, k13]
  have n14 : gn G14 = 1002 := by rw [S14.n, n13]
  have R14 := S14.R.trans R13
  have d14 := S14.d.trans d13
  have l14 := S14.nL.trans l13
  have a14 : ∀ j, j < 59 → gad G14 j = gad G0 j := fun j h => (S14.ad (by rw [y13]; exact Nat.lt_of_lt_of_le h (Nat.le_of_ble_eq_true rfl))).trans (a13 j h)
  refine aw_aload_n C14 0 0 (j := 0) rfl rfl (by decide +kernel) rfl ?_
  refine aw_sipush C14 (i0 := 180) (v := 180) (by decide) (by decide +kernel) rfl ?_
  refine aw_newarr C14 (fun ad => [(0, .ref (ad 58))]) (fun ad => [.ref (ad 58)]) (atype := .int) (N := 180) (Or.inl ⟨rfl, rfl⟩) (by rw [y14]; decide +kernel) ta_int (by decide) (by decide) (by decide) (by rw [k14, R14]; exact Nat.le_of_ble_eq_true rfl) (by rw [n14, R14]; exact Nat.le_of_ble_eq_true rfl) (fun a b h => by have z58 := h 58 (by rw [y14]; exact Nat.le_of_ble_eq_true rfl); exact ⟨by first | rfl | simp only [z58], by first | rfl | simp only [z58]⟩) (by decide +kernel) rfl (fun G15 S15 => ?_)
  have e15 : (gly G14).length = 66 := by rw [y14]; exact rfl
  rw [e15]
  have C15 := S15.cx C14 (by rw [k14, R14]; exact Nat.le_of_ble_eq_true rfl) (by rw [n14, R14]; exact Nat.le_of_ble_eq_true rfl)
  have K15 := S15.ck K14
  have y15 : gly G15 = LY_129 := by rw [S15.ly, y14]; decide +kernel
  have k15 : gk G15 = 8 := by rw [S15.k, k14]
  have n15 : gn G15 = 1182 := by rw [S15.n, n14]
  have R15 := S15.R.trans R14
  have d15 := S15.d.trans d14
  have l15 := S15.nL.trans l14
  have a15 : ∀ j, j < 59 → gad G15 j = gad G0 j := fun j h => (S15.ad (by rw [y14]; exact Nat.lt_of_lt_of_le h (Nat.le_of_ble_eq_true rfl))).trans (a14 j h)
  show AW _ _ _ [(0, .ref (gad G15 58))] [.ref (gad G15 66), .ref (gad G15 58)]
  refine aw_putr C15 K15 (k := 30) (r0 := 66) fc_12 (hl := by rw [y15]; decide +kernel) (fs := [none, none, none, none, some (some 59), some (some 60), some (some 61), some (some 62), none, none, none, some (some 63), none, none, none, none, none, some (some 64), some (some 65), none, none, none, none, none, none, none, none, none, none, none, some none, some none, some none, some none, some none, some none, some none, some none, some none, none, none, none, some none, some none, some none, some none, some none, some none, none, none, some none, some none, some none, some none, some none, some none, none, none, none, none, none, some none, some none, some none, some none]) (by decide +kernel) (by decide) rfl rfl ⟨ty12 30, by decide +kernel, fun _ => rfl, fun _ => rfl⟩ tb_972 LY_130 (by rw [y15]; decide +kernel) (by decide +kernel) rfl (fun G16 S16 b16 => ?_)
  rw [← b16]
  have C16 := S16.cx C15 (by rw [k15, R15]; exact Nat.le_of_ble_eq_true rfl) (by rw [n15, R15]; exact Nat.le_of_ble_eq_true rfl)
  have K16 := S16.ck K15
  have y16 : gly G16 = LY_130 := S16.ly
  have k16 : gk G16 = 8 := by rw [S16.k, k15]
  have n16 : gn G16 = 1182 := by rw [S16.n, n15]
  have R16 := S16.R.trans R15
  have d16 := S16.d.trans d15
  have l16 := S16.nL.trans l15
  have a16 : ∀ j, j < 59 → gad G16 j = gad G0 j := fun j h => (S16.ad (by rw [y15]; exact Nat.lt_of_lt_of_le h (Nat.le_of_ble_eq_true rfl))).trans (a15 j h)
  refine aw_aload_n C16 0 0 (j := 0) rfl rfl (by decide +kernel) rfl ?_
  refine aw_sipush C16 (i0 := 180) (v := 180) (by decide) (by decide +kernel) rfl ?_
  refine aw_newarr C16 (fun ad => [(0, .ref (ad 58))]) (fun ad => [.ref (ad 58)]) (atype := .int) (N := 180) (Or.inl ⟨rfl, rfl⟩) (by rw [y16]; decide +kernel) ta_int (by decide) (by decide) (by decide) (by rw [k16, R16]; exact Nat.le_of_ble_eq_true rfl) (by rw [n16, R16]; exact Nat.le_of_ble_eq_true rfl) (fun a b h => by have z58 := h 58 (by rw [y16]; exact Nat.le_of_ble_eq_true rfl); exact ⟨by first | rfl | simp only [z58], by first | rfl | simp only [z58]⟩) (by decide +kernel) rfl (fun G17 S17 => ?_)
  have e17 : (gly G16).length = 67 := by rw [y16]; exact rfl
  rw [e17]
  have C17 := S17.cx C16 (by rw [k16, R16]; exact Nat.le_of_ble_eq_true rfl) (by rw [n16, R16]; exact Nat.le_of_ble_eq_true rfl)
  have K17 := S17.ck K16
  have y17 : gly G17 = LY_131 := by rw [S17.ly, y16]; decide +kernel
  have k17 : gk G17 = 9 := by rw [S17.k, k16]
  have n17 : gn G17 = 1362 := by rw [S17.n, n16]
  have R17 := S17.R.trans R16
  have d17 := S17.d.trans d16
  have l17 := S17.nL.trans l16
  have a17 : ∀ j, j < 59 → gad G17 j = gad G0 j := fun j h => (S17.ad (by rw [y16]; exact Nat.lt_of_lt_of_le h (Nat.le_of_ble_eq_true rfl))).trans (a16 j h)
  show AW _ _ _ [(0, .ref (gad G17 58))] [.ref (gad G17 67), .ref (gad G17 58)]
  refine aw_putr C17 K17 (k := 31) (r0 := 67) fc_12 (hl := by rw [y17]; decide +kernel) (fs := [none, none, none, none, some (some 59), some (some 60), some (some 61), some (some 62), none, none, none, some (some 63), none, none, none, none, none, some (some 64), some (some 65), none, none, none, none, none, none, none, none, none, none, none, some (some 66), some none, some none, some none, some none, some none, some none, some none, some none, none, none, none, some none, some none, some none, some none, some none, some none, none, none, some none, some none, some none, some none, some none, some none, none, none, none, none, none, some none, some none, some none, some none]) (by decide +kernel) (by decide) rfl rfl ⟨ty12 31, by decide +kernel, fun _ => rfl, fun _ => rfl⟩ tb_973 LY_132 (by rw [y17]; decide +kernel) (by decide +kernel) rfl (fun G18 S18 b18 => ?_)
  rw [← b18]
  have C18 := S18.cx C17 (by rw [k17, R17]; exact Nat.le_of_ble_eq_true rfl) (by rw [n17, R17]; exact Nat.le_of_ble_eq_true rfl)
  have K18 := S18.ck K17
  have y18 : gly G18 = LY_132 := S18.ly
  have k18 : gk G18 = 9 := by rw [S18.k, k17]
  have n18 : gn G18 = 1362 := by rw [S18.n, n17]
  have R18 := S18.R.trans R17
  have d18 := S18.d.trans d17
  have l18 := S18.nL.trans l17
  have a18 : ∀ j, j < 59 → gad G18 j = gad G0 j := fun j h => (S18.ad (by rw [y17]; exact Nat.lt_of_lt_of_le h (Nat.le_of_ble_eq_true rfl))).trans (a17 j h)
  refine aw_aload_n C18 0 0 (j := 0) rfl rfl (by decide +kernel) rfl ?_
  refine aw_sipush C18 (i0 := 180) (v := 180) (by decide) (by decide +kernel) rfl ?_
  refine aw_newarr C18 (fun ad => [(0, .ref (ad 58))]) (fun ad => [.ref (ad 58)]) (atype := .int) (N := 180) (Or.inl ⟨rfl, rfl⟩) (by rw [y18]; decide +kernel) ta_int (by decide) (by decide) (by decide) (by rw [k18, R18]; exact Nat.le_of_ble_eq_true rfl) (by rw [n18, R18]; exact Nat.le_of_ble_eq_true rfl) (fun a b h => by have z58 := h 58 (by rw [y18]; exact Nat.le_of_ble_eq_true rfl); exact ⟨by first | rfl | simp only [z58], by first | rfl | simp only [z58]⟩) (by decide +kernel) rfl (fun G19 S19 => ?_)
  have e19 : (gly G18).length = 68 := by rw [y18]; exact rfl
  rw [e19]
  have C19 := S19.cx C18 (by rw [k18, R18]; exact Nat.le_of_ble_eq_true rfl) (by rw [n18, R18]; exact Nat.le_of_ble_eq_true rfl)
  have K19 := S19.ck K18
  have y19 : gly G19 = LY_133 := by rw [S19.ly, y18]; decide +kernel
  have k19 : gk G19 = 10 := by rw [S19.k, k18]
  have n19 : gn G19 = 1542 := by rw [S19.n, n18]
  have R19 := S19.R.trans R18
  have d19 := S19.d.trans d18
  have l19 := S19.nL.trans l18
  have a19 : ∀ j, j < 59 → gad G19 j = gad G0 j := fun j h => (S19.ad (by rw [y18]; exact Nat.lt_of_lt_of_le h (Nat.le_of_ble_eq_true rfl))).trans (a18 j h)
  show AW _ _ _ [(0, .ref (gad G19 58))] [.ref (gad G19 68), .ref (gad G19 58)]
  refine aw_putr C19 K19 (k := 32) (r0 := 68) fc_12 (hl := by rw [y19]; decide +kernel) (fs := [none, none, none, none, some (some 59), some (some 60), some (some 61), some (some 62), none, none, none, some (some 63), none, none, none, none, none, some (some 64), some (some 65), none, none, none, none, none, none, none, none, none, none, none, some (some 66), some (some 67), some none, some none, some none, some none, some none, some none, some none, none, none, none, some none, some none, some none, some none, some none, some none, none, none, some none, some none, some none, some none, some none, some none, none, none, none, none, none, some none, some none, some none, some none]) (by decide +kernel) (by decide) rfl rfl ⟨ty12 32, by decide +kernel, fun _ => rfl, fun _ => rfl⟩ tb_974 LY_134 (by rw [y19]; decide +kernel) (by decide +kernel) rfl (fun G20 S20 b20 => ?_)
  rw [← b20]
  have C20 := S20.cx C19 (by rw [k19, R19]; exact Nat.le_of_ble_eq_true rfl) (by rw [n19, R19]; exact Nat.le_of_ble_eq_true rfl)
  have K20 := S20.ck K19
  have y20 : gly G20 = LY_134 := S20.ly
  have k20 : gk G20 = 10 := by rw [S20.k, k19]
  have n20 : gn G20 = 1542 := by rw [S20.n, n19]
  have R20 := S20.R.trans R19
  have d20 := S20.d.trans d19
  have l20 := S20.nL.trans l19
  have a20 : ∀ j, j < 59 → gad G20 j = gad G0 j := fun j h => (S20.ad (by rw [y19]; exact Nat.lt_of_lt_of_le h (Nat.le_of_ble_eq_true rfl))).trans (a19 j h)
  refine aw_aload_n C20 0 0 (j := 0) rfl rfl (by decide +kernel) rfl ?_
  refine aw_sipush C20 (i0 := 256) (v := 256) (by decide) (by decide +kernel) rfl ?_
  refine aw_newarr C20 (fun ad => [(0, .ref (ad 58))]) (fun ad => [.ref (ad 58)]) (atype := .boolean) (N := 256) (Or.inr (Or.inl ⟨rfl, rfl⟩)) (by rw [y20]; decide +kernel) ta_boolean (by decide) (by decide) (by decide) (by rw [k20, R20]; exact Nat.le_of_ble_eq_true rfl) (by rw [n20, R20]; exact Nat.le_of_ble_eq_true rfl) (fun a b h => by have z58 := h 58 (by rw [y20]; exact Nat.le_of_ble_eq_true rfl); exact ⟨by first | rfl | simp only [z58], by first | rfl | simp only [z58]⟩) (by decide +kernel) rfl (fun G21 S21 => ?_)
  have e21 : (gly G20).length = 69 := by rw [y20]; exact rfl
  rw [e21]
  have C21 := S21.cx C20 (by rw [k20, R20]; exact Nat.le_of_ble_eq_true rfl) (by rw [n20, R20]; exact Nat.le_of_ble_eq_true rfl)
  have K21 := S21.ck K20
  have y21 : gly G21 = LY_135 := by rw [S21.ly, y20]; decide +kernel
  have k21 : gk G21 = 11 := by rw [S21.k, k20]
  have n21 : gn G21 = 1798 := by rw [S21.n, n20]
  have R21 := S21.R.trans R20
  have d21 := S21.d.trans d20
  have l21 := S21.nL.trans l20
  have a21 : ∀ j, j < 59 → gad G21 j = gad G0 j := fun j h => (S21.ad (by rw [y20]; exact Nat.lt_of_lt_of_le h (Nat.le_of_ble_eq_true rfl))).trans (a20 j h)
  show AW _ _ _ [(0, .ref (gad G21 58))] [.ref (gad G21 69), .ref (gad G21 58)]
  refine aw_putr C21 K21 (k := 33) (r0 := 69) fc_12 (hl := by rw [y21]; decide +kernel) (fs := [none, none, none, none, some (some 59), some (some 60), some (some 61), some (some 62), none, none, none, some (some 63), none, none, none, none, none, some (some 64), some (some 65), none, none, none, none, none, none, none, none, none, none, none, some (some 66), some (some 67), some (some 68), some none, some none, some none, some none, some none, some none, none, none, none, some none, some none, some none, some none, some none, some none, none, none, some none, some none, some none, some none, some none, some none, none, none, none, none, none, some none, some none, some none, some none]) (by decide +kernel) (by decide) rfl rfl ⟨ty12 33, by decide +kernel, fun _ => rfl, fun _ => rfl⟩ tb_975 LY_136 (by rw [y21]; decide +kernel) (by decide +kernel) rfl (fun G22 S22 b22 => ?_)
  rw [← b22]
  have C22 := S22.cx C21 (by rw [k21, R21]; exact Nat.le_of_ble_eq_true rfl) (by rw [n21, R21]; exact Nat.le_of_ble_eq_true rfl)
  have K22 := S22.ck K21
  have y22 : gly G22 = LY_136 := S22.ly
  have k22 : gk G22 = 11 := by rw [S22.k, k21]
  have n22 : gn G22 = 1798 := by rw [S22.n, n21]
  have R22 := S22.R.trans R21
  have d22 := S22.d.trans d21
  have l22 := S22.nL.trans l21
  have a22 : ∀ j, j < 59 → gad G22 j = gad G0 j := fun j h => (S22.ad (by rw [y21]; exact Nat.lt_of_lt_of_le h (Nat.le_of_ble_eq_true rfl))).trans (a21 j h)
  refine aw_aload_n C22 0 0 (j := 0) rfl rfl (by decide +kernel) rfl ?_
  refine aw_sipush C22 (i0 := 180) (v := 180) (by decide) (by decide +kernel) rfl ?_
  refine aw_newarr C22 (fun ad => [(0, .ref (ad 58))]) (fun ad => [.ref (ad 58)]) (atype := .int) (N := 180) (Or.inl ⟨rfl, rfl⟩) (by rw [y22]; decide +kernel) ta_int (by decide) (by decide) (by decide) (by rw [k22, R22]; exact Nat.le_of_ble_eq_true rfl) (by rw [n22, R22]; exact Nat.le_of_ble_eq_true rfl) (fun a b h => by have z58 := h 58 (by rw [y22]; exact Nat.le_of_ble_eq_true rfl); exact ⟨by first | rfl | simp only [z58], by first | rfl | simp only [z58]⟩) (by decide +kernel) rfl (fun G23 S23 => ?_)
  have e23 : (gly G22).length = 70 := by rw [y22]; exact rfl
  rw [e23]
  have C23 := S23.cx C22 (by rw [k22, R22]; exact Nat.le_of_ble_eq_true rfl) (by rw [n22, R22]; exact Nat.le_of_ble_eq_true rfl)
  have K23 := S23.ck K22
  have y23 : gly G23 = LY_137 := by rw [S23.ly, y22]; decide +kernel
  have k23 : gk G23 = 12 := by rw [S23.k, k22]
  have n23 : gn G23 = 1978 := by rw [S23.n, n22]
  have R23 := S23.R.trans R22
  have d23 := S23.d.trans d22
  have l23 := S23.nL.trans l22
  have a23 : ∀ j, j < 59 → gad G23 j = gad G0 j := fun j h => (S23.ad (by rw [y22]; exact Nat.lt_of_lt_of_le h (Nat.le_of_ble_eq_true rfl))).trans (a22 j h)
  show AW _ _ _ [(0, .ref (gad G23 58))] [.ref (gad G23 70), .ref (gad G23 58)]
  refine aw_putr C23 K23 (k := 34) (r0 := 70) fc_12 (hl := by rw [y23]; decide +kernel) (fs := [none, none, none, none, some (some 59), some (some 60), some (some 61), some (some 62), none, none, none, some (some 63), none, none, none, none, none, some (some 64), some (some 65), none, none, none, none, none, none, none, none, none, none, none, some (some 66), some (some 67), some (some 68), some (some 69), some none, some none, some none, some none, some none, none, none, none, some none, some none, some none, some none, some none, some none, none, none, some none, some none, some none, some none, some none, some none, none, none, none, none, none, some none, some none, some none, some none]) (by decide +kernel) (by decide) rfl rfl ⟨ty12 34, by decide +kernel, fun _ => rfl, fun _ => rfl⟩ tb_976 LY_138 (by rw [y23]; decide +kernel) (by decide +kernel) rfl (fun G24 S24 b24 => ?_)
  rw [← b24]
  have C24 := S24.cx C23 (by rw [k23, R23]; exact Nat.le_of_ble_eq_true rfl) (by rw [n23, R23]; exact Nat.le_of_ble_eq_true rfl)
  have K24 := S24.ck K23
  have y24 : gly G24 = LY_138 := S24.ly
  have k24 : gk G24 = 12 := by rw [S24.k, k23]
  have n24 : gn G24 = 1978 := by rw [S24.n, n23]
  have R24 := S24.R.trans R23
  have d24 := S24.d.trans d23
  have l24 := S24.nL.trans l23
  have a24 : ∀ j, j < 59 → gad G24 j = gad G0 j := fun j h => (S24.ad (by rw [y23]; exact Nat.lt_of_lt_of_le h (Nat.le_of_ble_eq_true rfl))).trans (a23 j h)
  refine aw_aload_n C24 0 0 (j := 0) rfl rfl (by decide +kernel) rfl ?_
  refine aw_bipush C24 (i0 := 7) (v := 7) (by decide) (by decide +kernel) rfl ?_
  refine aw_newarr C24 (fun ad => [(0, .ref (ad 58))]) (fun ad => [.ref (ad 58)]) (atype := .int) (N := 7) (Or.inl ⟨rfl, rfl⟩) (by rw [y24]; decide +kernel) ta_int (by decide) (by decide) (by decide) (by rw [k24, R24]; exact Nat.le_of_ble_eq_true rfl) (by rw [n24, R24]; exact Nat.le_of_ble_eq_true rfl) (fun a b h => by have z58 := h 58 (by rw [y24]; exact Nat.le_of_ble_eq_true rfl); exact ⟨by first | rfl | simp only [z58], by first | rfl | simp only [z58]⟩) (by decide +kernel) rfl (fun G25 S25 => ?_)
  have e25 : (gly G24).length = 71 := by rw [y24]; exact rfl
  rw [e25]
  have C25 := S25.cx C24 (by rw [k24, R24]; exact Nat.le_of_ble_eq_true rfl) (by rw [n24, R24]; exact Nat.le_of_ble_eq_true rfl)
  have K25 := S25.ck K24
  have y25 : gly G25 = LY_139 := by rw [S25.ly, y24]; decide +kernel
  have k25 : gk G25 = 13 := by rw [S25.k, k24]
  have n25 : gn G25 = 1985 := by rw [S25.n, n24]
  have R25 := S25.R.trans R24
  have d25 := S25.d.trans d24
  have l25 := S25.nL.trans l24
  have a25 : ∀ j, j < 59 → gad G25 j = gad G0 j := fun j h => (S25.ad (by rw [y24]; exact Nat.lt_of_lt_of_le h (Nat.le_of_ble_eq_true rfl))).trans (a24 j h)
  show AW _ _ _ [(0, .ref (gad G25 58))] [.ref (gad G25 71), .ref (gad G25 58)]
  refine aw_putr C25 K25 (k := 35) (r0 := 71) fc_12 (hl := by rw [y25]; decide +kernel) (fs := [none, none, none, none, some (some 59), some (some 60), some (some 61), some (some 62), none, none, none, some (some 63), none, none, none, none, none, some (some 64), some (some 65), none, none, none, none, none, none, none, none, none, none, none, some (some 66), some (some 67), some (some 68), some (some 69), some (some 70), some none, some none, some none, some none, none, none, none, some none, some none, some none, some none, some none, some none, none, none, some none, some none, some none, some none, some none, some none, none, none, none, none, none, some none, some none, some none, some none]) (by decide +kernel) (by decide) rfl rfl ⟨ty12 35, by decide +kernel, fun _ => rfl, fun _ => rfl⟩ tb_977 LY_140 (by rw [y25]; decide +kernel) (by decide +kernel) rfl (fun G26 S26 b26 => ?_)
  rw [← b26]
  have C26 := S26.cx C25 (by rw [k25, R25]; exact Nat.le_of_ble_eq_true rfl) (by rw [n25, R25]; exact Nat.le_of_ble_eq_true rfl)
  have K26 := S26.ck K25
  have y26 : gly G26 = LY_140 := S26.ly
  have k26 : gk G26 = 13 := by rw [S26.k, k25]
  have n26 : gn G26 = 1985 := by rw [S26.n, n25]
  have R26 := S26.R.trans R25
  have d26 := S26.d.trans d25
  have l26 := S26.nL.trans l25
  have a26 : ∀ j, j < 59 → gad G26 j = gad G0 j := fun j h => (S26.ad (by rw [y25]; exact Nat.lt_of_lt_of_le h (Nat.le_of_ble_eq_true rfl))).trans (a25 j h)
  refine aw_aload_n C26 0 0 (j := 0) rfl rfl (by decide +kernel) rfl ?_
  refine aw_sipush C26 (i0 := 256) (v := 256) (by decide) (by decide +kernel) rfl ?_
  refine aw_newarr C26 (fun ad => [(0, .ref (ad 58))]) (fun ad => [.ref (ad 58)]) (atype := .boolean) (N := 256) (Or.inr (Or.inl ⟨rfl, rfl⟩)) (by rw [y26]; decide +kernel) ta_boolean (by decide) (by decide) (by decide) (by rw [k26, R26]; exact Nat.le_of_ble_eq_true rfl) (by rw [n26, R26]; exact Nat.le_of_ble_eq_true rfl) (fun a b h => by have z58 := h 58 (by rw [y26]; exact Nat.le_of_ble_eq_true rfl); exact ⟨by first | rfl | simp only [z58], by first | rfl | simp only [z58]⟩) (by decide +kernel) rfl (fun G27 S27 => ?_)
  have e27 : (gly G26).length = 72 := by rw [y26]; exact rfl
  rw [e27]
  have C27 := S27.cx C26 (by rw [k26, R26]; exact Nat.le_of_ble_eq_true rfl) (by rw [n26, R26]; exact Nat.le_of_ble_eq_true rfl)
  have K27 := S27.ck K26
  have y27 : gly G27 = LY_141 := by rw [S27.ly, y26]; decide +kernel
  have k27 : gk G27 = 14 := by rw [S27.k, k26]
  have n27 : gn G27 = 2241 := by rw [S27.n, n26]
  have R27 := S27.R.trans R26
  have d27 := S27.d.trans d26
  have l27 := S27.nL.trans l26
  have a27 : ∀ j, j < 59 → gad G27 j = gad G0 j := fun j h => (S27.ad (by rw [y26]; exact Nat.lt_of_lt_of_le h (Nat.le_of_ble_eq_true rfl))).trans (a26 j h)
  show AW _ _ _ [(0, .ref (gad G27 58))] [.ref (gad G27 72), .ref (gad G27 58)]
  refine aw_putr C27 K27 (k := 36) (r0 := 72) fc_12 (hl := by rw [y27]; decide +kernel) (fs := [none, none, none, none, some (some 59), some (some 60), some (some 61), some (some 62), none, none, none, some (some 63), none, none, none, none, none, some (some 64), some (some 65), none, none, none, none, none, none, none, none, none, none, none, some (some 66), some (some 67), some (some 68), some (some 69), some (some 70), some (some 71), some none, some none, some none, none, none, none, some none, some none, some none, some none, some none, some none, none, none, some none, some none, some none, some none, some none, some none, none, none, none, none, none, some none, some none, some none, some none]) (by decide +kernel) (by decide) rfl rfl ⟨ty12 36, by decide +kernel, fun _ => rfl, fun _ => rfl⟩ tb_978 LY_142 (by rw [y27]; decide +kernel) (by decide +kernel) rfl (fun G28 S28 b28 => ?_)
  rw [← b28]
  have C28 := S28.cx C27 (by rw [k27, R27]; exact Nat.le_of_ble_eq_true rfl) (by rw [n27, R27]; exact Nat.le_of_ble_eq_true rfl)
  have K28 := S28.ck K27
  have y28 : gly G28 = LY_142 := S28.ly
  have k28 : gk G28 = 14 := by rw [S28.k, k27]
  have n28 : gn G28 = 2241 := by rw [S28.n, n27]
  have R28 := S28.R.trans R27
  have d28 := S28.d.trans d27
  have l28 := S28.nL.trans l27
  have a28 : ∀ j, j < 59 → gad G28 j = gad G0 j := fun j h => (S28.ad (by rw [y27]; exact Nat.lt_of_lt_of_le h (Nat.le_of_ble_eq_true rfl))).trans (a27 j h)
  refine aw_aload_n C28 0 0 (j := 0) rfl rfl (by decide +kernel) rfl ?_
  refine aw_sipush C28 (i0 := 256) (v := 256) (by decide) (by decide +kernel) rfl ?_
  refine aw_newarr C28 (fun ad => [(0, .ref (ad 58))]) (fun ad => [.ref (ad 58)]) (atype := .int) (N := 256) (Or.inl ⟨rfl, rfl⟩) (by rw [y28]; decide +kernel) ta_int (by decide) (by decide) (by decide) (by rw [k28, R28]; exact Nat.le_of_ble_eq_true rfl) (by rw [n28, R28]; exact Nat.le_of_ble_eq_true rfl) (fun a b h => by have z58 := h 58 (by rw [y28]; exact Nat.le_of_ble_eq_true rfl); exact ⟨by first | rfl | simp only [z58], by first | rfl | simp only [z58]⟩) (by decide +kernel) rfl (fun G29 S29 => ?_)
  have e29 : (gly G28).length = 73 := by rw [y28]; exact rfl
  rw [e29]
  have C29 := S29.cx C28 (by rw [k28, R28]; exact Nat.le_of_ble_eq_true rfl) (by rw [n28, R28]; exact Nat.le_of_ble_eq_true rfl)
  have K29 := S29.ck K28
  have y29 : gly G29 = LY_143 := by rw [S29.ly, y28]; decide +kernel
  have k29 : gk G29 = 15 := by rw [S29.k, k28]
  have n29 : gn G29 = 2497 := by rw [S29.n, n28]
  have R29 := S29.R.trans R28
  have d29 := S29.d.trans d28
  have l29 := S29.nL.trans l28
  have a29 : ∀ j, j < 59 → gad G29 j = gad G0 j := fun j h => (S29.ad (by rw [y28]; exact Nat.lt_of_lt_of_le h (Nat.le_of_ble_eq_true rfl))).trans (a28 j h)
  show AW _ _ _ [(0, .ref (gad G29 58))] [.ref (gad G29 73), .ref (gad G29 58)]
  refine aw_putr C29 K29 (k := 37) (r0 := 73) fc_12 (hl := by rw [y29]; decide +kernel) (fs := [none, none, none, none, some (some 59), some (some 60), some (some 61), some (some 62), none, none, none, some (some 63), none, none, none, none, none, some (some 64), some (some 65), none, none, none, none, none, none, none, none, none, none, none, some (some 66), some (some 67), some (some 68), some (some 69), some (some 70), some (some 71), some (some 72), some none, some none, none, none, none, some none, some none, some none, some none, some none, some none, none, none, some none, some none, some none, some none, some none, some none, none, none, none, none, none, some none, some none, some none, some none]) (by decide +kernel) (by decide) rfl rfl ⟨ty12 37, by decide +kernel, fun _ => rfl, fun _ => rfl⟩ tb_979 LY_144 (by rw [y29]; decide +kernel) (by decide +kernel) rfl (fun G30 S30 b30 => ?_)
  rw [← b30]
  have C30 := S30.cx C29 (by rw [k29, R29]; exact Nat.le_of_ble_eq_true rfl) (by rw [n29, R29]; exact Nat.le_of_ble_eq_true rfl)
  have K30 := S30.ck K29
  have y30 : gly G30 = LY_144 := S30.ly
  have k30 : gk G30 = 15 := by rw [S30.k, k29]
  have n30 : gn G30 = 2497 := by rw [S30.n, n29]
  have R30 := S30.R.trans R29
  have d30 := S30.d.trans d29
  have l30 := S30.nL.trans l29
  have a30 : ∀ j, j < 59 → gad G30 j = gad G0 j := fun j h => (S30.ad (by rw [y29]; exact Nat.lt_of_lt_of_le h (Nat.le_of_ble_eq_true rfl))).trans (a29 j h)
  refine aw_aload_n C30 0 0 (j := 0) rfl rfl (by decide +kernel) rfl ?_
  refine aw_sipush C30 (i0 := 256) (v := 256) (by decide) (by decide +kernel) rfl ?_
  refine aw_newarr C30 (fun ad => [(0, .ref (ad 58))]) (fun ad => [.ref (ad 58)]) (atype := .int) (N := 256) (Or.inl ⟨rfl, rfl⟩) (by rw [y30]; decide +kernel) ta_int (by decide) (by decide) (by decide) (by rw [k30, R30]; exact Nat.le_of_ble_eq_true rfl) (by rw [n30, R30]; exact Nat.le_of_ble_eq_true rfl) (fun a b h => by have z58 := h 58 (by rw [y30]; exact Nat.le_of_ble_eq_true rfl); exact ⟨by first | rfl | simp only [z58], by first | rfl | simp only [z58]⟩) (by decide +kernel) rfl (fun G31 S31 => ?_)
  have e31 : (gly G30).length = 74 := by rw [y30]; exact rfl
  rw [e31]
  have C31 := S31.cx C30 (by rw [k30, R30]; exact Nat.le_of_ble_eq_true rfl) (by rw [n30, R30]; exact Nat.le_of_ble_eq_true rfl)
  have K31 := S31.ck K30
  have y31 : gly G31 = LY_145 := by rw [S31.ly, y30]; decide +kernel
  have k31 : gk G31 = 16 := by rw [S31.k, k30]
  have n31 : gn G31 = 2753 := by rw [S31.n, n30]
  have R31 := S31.R.trans R30
  have d31 := S31.d.trans d30
  have l31 := S31.nL.trans l30
  have a31 : ∀ j, j < 59 → gad G31 j = gad G0 j := fun j h => (S31.ad (by rw [y30]; exact Nat.lt_of_lt_of_le h (Nat.le_of_ble_eq_true rfl))).trans (a30 j h)
  show AW _ _ _ [(0, .ref (gad G31 58))] [.ref (gad G31 74), .ref (gad G31 58)]
  refine aw_putr C31 K31 (k := 38) (r0 := 74) fc_12 (hl := by rw [y31]; decide +kernel) (fs := [none, none, none, none, some (some 59), some (some 60), some (some 61), some (some 62), none, none, none, some (some 63), none, none, none, none, none, some (some 64), some (some 65), none, none, none, none, none, none, none, none, none, none, none, some (some 66), some (some 67), some (some 68), some (some 69), some (some 70), some (some 71), some (some 72), some (some 73), some none, none, none, none, some none, some none, some none, some none, some none, some none, none, none, some none, some none, some none, some none, some none, some none, none, none, none, none, none, some none, some none, some none, some none]) (by decide +kernel) (by decide) rfl rfl ⟨ty12 38, by decide +kernel, fun _ => rfl, fun _ => rfl⟩ tb_980 LY_146 (by rw [y31]; decide +kernel) (by decide +kernel) rfl (fun G32 S32 b32 => ?_)
  rw [← b32]
  have C32 := S32.cx C31 (by rw [k31, R31]; exact Nat.le_of_ble_eq_true rfl) (by rw [n31, R31]; exact Nat.le_of_ble_eq_true rfl)
  have K32 := S32.ck K31
  have y32 : gly G32 = LY_146 := S32.ly
  have k32 : gk G32 = 16 := by rw [S32.k, k31]
  have n32 : gn G32 = 2753 := by rw [S32.n, n31]
  have R32 := S32.R.trans R31
  have d32 := S32.d.trans d31
  have l32 := S32.nL.trans l31
  have a32 : ∀ j, j < 59 → gad G32 j = gad G0 j := fun j h => (S32.ad (by rw [y31]; exact Nat.lt_of_lt_of_le h (Nat.le_of_ble_eq_true rfl))).trans (a31 j h)
  refine aw_aload_n C32 0 0 (j := 0) rfl rfl (by decide +kernel) rfl ?_
  refine aw_sipush C32 (i0 := 16384) (v := 16384) (by decide) (by decide +kernel) rfl ?_
  refine aw_newarr C32 (fun ad => [(0, .ref (ad 58))]) (fun ad => [.ref (ad 58)]) (atype := .int) (N := 16384) (Or.inl ⟨rfl, rfl⟩) (by rw [y32]; decide +kernel) ta_int (by decide) (by decide) (by decide) (by rw [k32, R32]; exact Nat.le_of_ble_eq_true rfl) (by rw [n32, R32]; exact Nat.le_of_ble_eq_true rfl) (fun a b h => by have z58 := h 58 (by rw [y32]; exact Nat.le_of_ble_eq_true rfl); exact ⟨by first | rfl | simp only [z58], by first | rfl | simp only [z58]⟩) (by decide +kernel) rfl (fun G33 S33 => ?_)
  have e33 : (gly G32).length = 75 := by rw [y32]; exact rfl
  rw [e33]
  have C33 := S33.cx C32 (by rw [k32, R32]; exact Nat.le_of_ble_eq_true rfl) (by rw [n32, R32]; exact Nat.le_of_ble_eq_true rfl)
  have K33 := S33.ck K32
  have y33 : gly G33 = LY_147 := by rw [S33.ly, y32]; decide +kernel
  have k33 : gk G33 = 17 := by rw [S33.k, k32]
  have n33 : gn G33 = 19137 := by rw [S33.n, n32]
  have R33 := S33.R.trans R32
  have d33 := S33.d.trans d32
  have l33 := S33.nL.trans l32
  have a33 : ∀ j, j < 59 → gad G33 j = gad G0 j := fun j h => (S33.ad (by rw [y32]; exact Nat.lt_of_lt_of_le h (Nat.le_of_ble_eq_true rfl))).trans (a32 j h)
  show AW _ _ _ [(0, .ref (gad G33 58))] [.ref (gad G33 75), .ref (gad G33 58)]
  refine aw_putr C33 K33 (k := 42) (r0 := 75) fc_12 (hl := by rw [y33]; decide +kernel) (fs := [none, none, none, none, some (some 59), some (some 60), some (some 61), some (some 62), none, none, none, some (some 63), none, none, none, none, none, some (some 64), some (some 65), none, none, none, none, none, none, none, none, none, none, none, some (some 66), some (some 67), some (some 68), some (some 69), some (some 70), some (some 71), some (some 72), some (some 73), some (some 74), none, none, none, some none, some none, some none, some none, some none, some none, none, none, some none, some none, some none, some none, some none, some none, none, none, none, none, none, some none, some none, some none, some none]) (by decide +kernel) (by decide) rfl rfl ⟨ty12 42, by decide +kernel, fun _ => rfl, fun _ => rfl⟩ tb_984 LY_148 (by rw [y33]; decide +kernel) (by decide +kernel) rfl (fun G34 S34 b34 => ?_)
  rw [← b34]
  have C34 := S34.cx C33 (by rw [k33, R33]; exact Nat.le_of_ble_eq_true rfl) (by rw [n33, R33]; exact Nat.le_of_ble_eq_true rfl)
  have K34 := S34.ck K33
  have y34 : gly G34 = LY_148 := S34.ly
  have k34 : gk G34 = 17 := by rw [S34.k, k33]
  have n34 : gn G34 = 19137 := by rw [S34.n, n33]
  have R34 := S34.R.trans R33
  have d34 := S34.d.trans d33
  have l34 := S34.nL.trans l33
  have a34 : ∀ j, j < 59 → gad G34 j = gad G0 j := fun j h => (S34.ad (by rw [y33]; exact Nat.lt_of_lt_of_le h (Nat.le_of_ble_eq_true rfl))).trans (a33 j h)
  refine aw_aload_n C34 0 0 (j := 0) rfl rfl (by decide +kernel) rfl ?_
  refine aw_bipush C34 (i0 := 6) (v := 6) (by decide) (by decide +kernel) rfl ?_
  refine aw_newarr C34 (fun ad => [(0, .ref (ad 58))]) (fun ad => [.ref (ad 58)]) (atype := .int) (N := 6) (Or.inl ⟨rfl, rfl⟩) (by rw [y34]; decide +kernel) ta_int (by decide) (by decide) (by decide) (by rw [k34, R34]; exact Nat.le_of_ble_eq_true rfl) (by rw [n34, R34]; exact Nat.le_of_ble_eq_true rfl) (fun a b h => by have z58 := h 58 (by rw [y34]; exact Nat.le_of_ble_eq_true rfl); exact ⟨by first | rfl | simp only [z58], by first | rfl | simp only [z58]⟩) (by decide +kernel) rfl (fun G35 S35 => ?_)
  have e35 : (gly G34).length = 76 := by rw [y34]; exact rfl
  rw [e35]
  have C35 := S35.cx C34 (by rw [k34, R34]; exact Nat.le_of_ble_eq_true rfl) (by rw [n34, R34]; exact Nat.le_of_ble_eq_true rfl)
  have K35 := S35.ck K34
  have y35 : gly G35 = LY_149 := by rw [S35.ly, y34]; decide +kernel
  have k35 : gk G35 = 18 := by rw [S35.k, k34]
  have n35 : gn G35 = 19143 := by rw [S35.n, n34]
  have R35 := S35.R.trans R34
  have d35 := S35.d.trans d34
  have l35 := S35.nL.trans l34
  have a35 : ∀ j, j < 59 → gad G35 j = gad G0 j := fun j h => (S35.ad (by rw [y34]; exact Nat.lt_of_lt_of_le h (Nat.le_of_ble_eq_true rfl))).trans (a34 j h)
  show AW _ _ _ [(0, .ref (gad G35 58))] [.ref (gad G35 76), .ref (gad G35 58)]
  refine aw_putr C35 K35 (k := 43) (r0 := 76) fc_12 (hl := by rw [y35]; decide +kernel) (fs := [none, none, none, none, some (some 59), some (some 60), some (some 61), some (some 62), none, none, none, some (some 63), none, none, none, none, none, some (some 64), some (some 65), none, none, none, none, none, none, none, none, none, none, none, some (some 66), some (some 67), some (some 68), some (some 69), some (some 70), some (some 71), some (some 72), some (some 73), some (some 74), none, none, none, some (some 75), some none, some none, some none, some none, some none, none, none, some none, some none, some none, some none, some none, some none, none, none, none, none, none, some none, some none, some none, some none]) (by decide +kernel) (by decide) rfl rfl ⟨ty12 43, by decide +kernel, fun _ => rfl, fun _ => rfl⟩ tb_985 LY_150 (by rw [y35]; decide +kernel) (by decide +kernel) rfl (fun G36 S36 b36 => ?_)
  rw [← b36]
  have C36 := S36.cx C35 (by rw [k35, R35]; exact Nat.le_of_ble_eq_true rfl) (by rw [n35, R35]; exact Nat.le_of_ble_eq_true rfl)
  have K36 := S36.ck K35
  have y36 : gly G36 = LY_150 := S36.ly
  have k36 : gk G36 = 18 := by rw [S36.k, k35]
  have n36 : gn G36 = 19143 := by rw [S36.n, n35]
  have R36 := S36.R.trans R35
  have d36 := S36.d.trans d35
  have l36 := S36.nL.trans l35
  have a36 : ∀ j, j < 59 → gad G36 j = gad G0 j := fun j h => (S36.ad (by rw [y35]; exact Nat.lt_of_lt_of_le h (Nat.le_of_ble_eq_true rfl))).trans (a35 j h)
  refine aw_aload_n C36 0 0 (j := 0) rfl rfl (by decide +kernel) rfl ?_
  refine aw_sipush C36 (i0 := 256) (v := 256) (by decide) (by decide +kernel) rfl ?_
  refine aw_newarr C36 (fun ad => [(0, .ref (ad 58))]) (fun ad => [.ref (ad 58)]) (atype := .boolean) (N := 256) (Or.inr (Or.inl ⟨rfl, rfl⟩)) (by rw [y36]; decide +kernel) ta_boolean (by decide) (by decide) (by decide) (by rw [k36, R36]; exact Nat.le_of_ble_eq_true rfl) (by rw [n36, R36]; exact Nat.le_of_ble_eq_true rfl) (fun a b h => by have z58 := h 58 (by rw [y36]; exact Nat.le_of_ble_eq_true rfl); exact ⟨by first | rfl | simp only [z58], by first | rfl | simp only [z58]⟩) (by decide +kernel) rfl (fun G37 S37 => ?_)
  have e37 : (gly G36).length = 77 := by rw [y36]; exact rfl
  rw [e37]
  have C37 := S37.cx C36 (by rw [k36, R36]; exact Nat.le_of_ble_eq_true rfl) (by rw [n36, R36]; exact Nat.le_of_ble_eq_true rfl)
  have K37 := S37.ck K36
  have y37 : gly G37 = LY_151 := by rw [S37.ly, y36]; decide +kernel
  have k37 : gk G37 = 19 := by rw [S37.k, k36]
  have n37 : gn G37 = 19399 := by rw [S37.n, n36]
  have R37 := S37.R.trans R36
  have d37 := S37.d.trans d36
  have l37 := S37.nL.trans l36
  have a37 : ∀ j, j < 59 → gad G37 j = gad G0 j := fun j h => (S37.ad (by rw [y36]; exact Nat.lt_of_lt_of_le h (Nat.le_of_ble_eq_true rfl))).trans (a36 j h)
  show AW _ _ _ [(0, .ref (gad G37 58))] [.ref (gad G37 77), .ref (gad G37 58)]
  refine aw_putr C37 K37 (k := 44) (r0 := 77) fc_12 (hl := by rw [y37]; decide +kernel) (fs := [none, none, none, none, some (some 59), some (some 60), some (some 61), some (some 62), none, none, none, some (some 63), none, none, none, none, none, some (some 64), some (some 65), none, none, none, none, none, none, none, none, none, none, none, some (some 66), some (some 67), some (some 68), some (some 69), some (some 70), some (some 71), some (some 72), some (some 73), some (some 74), none, none, none, some (some 75), some (some 76), some none, some none, some none, some none, none, none, some none, some none, some none, some none, some none, some none, none, none, none, none, none, some none, some none, some none, some none]) (by decide +kernel) (by decide) rfl rfl ⟨ty12 44, by decide +kernel, fun _ => rfl, fun _ => rfl⟩ tb_986 LY_152 (by rw [y37]; decide +kernel) (by decide +kernel) rfl (fun G38 S38 b38 => ?_)
  rw [← b38]
  have C38 := S38.cx C37 (by rw [k37, R37]; exact Nat.le_of_ble_eq_true rfl) (by rw [n37, R37]; exact Nat.le_of_ble_eq_true rfl)
  have K38 := S38.ck K37
  have y38 : gly G38 = LY_152 := S38.ly
  have k38 : gk G38 = 19 := by rw [S38.k, k37]
  have n38 : gn G38 = 19399 := by rw [S38.n, n37]
  have R38 := S38.R.trans R37
  have d38 := S38.d.trans d37
  have l38 := S38.nL.trans l37
  have a38 : ∀ j, j < 59 → gad G38 j = gad G0 j := fun j h => (S38.ad (by rw [y37]; exact Nat.lt_of_lt_of_le h (Nat.le_of_ble_eq_true rfl))).trans (a37 j h)
  refine aw_aload_n C38 0 0 (j := 0) rfl rfl (by decide +kernel) rfl ?_
  refine aw_sipush C38 (i0 := 256) (v := 256) (by decide) (by decide +kernel) rfl ?_
  refine aw_newarr C38 (fun ad => [(0, .ref (ad 58))]) (fun ad => [.ref (ad 58)]) (atype := .boolean) (N := 256) (Or.inr (Or.inl ⟨rfl, rfl⟩)) (by rw [y38]; decide +kernel) ta_boolean (by decide) (by decide) (by decide) (by rw [k38, R38]; exact Nat.le_of_ble_eq_true rfl) (by rw [n38, R38]; exact Nat.le_of_ble_eq_true rfl) (fun a b h => by have z58 := h 58 (by rw [y38]; exact Nat.le_of_ble_eq_true rfl); exact ⟨by first | rfl | simp only [z58], by first | rfl | simp only [z58]⟩) (by decide +kernel) rfl (fun G39 S39 => ?_)
  have e39 : (gly G38).length = 78 := by rw [y38]; exact rfl
  rw [e39]
  have C39 := S39.cx C38 (by rw [k38, R38]; exact Nat.le_of_ble_eq_true rfl) (by rw [n38, R38]; exact Nat.le_of_ble_eq_true rfl)
  have K39 := S39.ck K38
  have y39 : gly G39 = LY_153 := by rw [S39.ly, y38]; decide +kernel
  have k39 : gk G39 = 20 := by rw [S39.k, k38]
  have n39 : gn G39 = 19655 := by rw [S39.n, n38]
  have R39 := S39.R.trans R38
  have d39 := S39.d.trans d38
  have l39 := S39.nL.trans l38
  have a39 : ∀ j, j < 59 → gad G39 j = gad G0 j := fun j h => (S39.ad (by rw [y38]; exact Nat.lt_of_lt_of_le h (Nat.le_of_ble_eq_true rfl))).trans (a38 j h)
  show AW _ _ _ [(0, .ref (gad G39 58))] [.ref (gad G39 78), .ref (gad G39 58)]
  refine aw_putr C39 K39 (k := 45) (r0 := 78) fc_12 (hl := by rw [y39]; decide +kernel) (fs := [none, none, none, none, some (some 59), some (some 60), some (some 61), some (some 62), none, none, none, some (some 63), none, none, none, none, none, some (some 64), some (some 65), none, none, none, none, none, none, none, none, none, none, none, some (some 66), some (some 67), some (some 68), some (some 69), some (some 70), some (some 71), some (some 72), some (some 73), some (some 74), none, none, none, some (some 75), some (some 76), some (some 77), some none, some none, some none, none, none, some none, some none, some none, some none, some none, some none, none, none, none, none, none, some none, some none, some none, some none]) (by decide +kernel) (by decide) rfl rfl ⟨ty12 45, by decide +kernel, fun _ => rfl, fun _ => rfl⟩ tb_987 LY_154 (by rw [y39]; decide +kernel) (by decide +kernel) rfl (fun G40 S40 b40 => ?_)
  rw [← b40]
  have C40 := S40.cx C39 (by rw [k39, R39]; exact Nat.le_of_ble_eq_true rfl) (by rw [n39, R39]; exact Nat.le_of_ble_eq_true rfl)
  have K40 := S40.ck K39
  have y40 : gly G40 = LY_154 := S40.ly
  have k40 : gk G40 = 20 := by rw [S40.k, k39]
  have n40 : gn G40 = 19655 := by rw [S40.n, n39]
  have R40 := S40.R.trans R39
  have d40 := S40.d.trans d39
  have l40 := S40.nL.trans l39
  have a40 : ∀ j, j < 59 → gad G40 j = gad G0 j := fun j h => (S40.ad (by rw [y39]; exact Nat.lt_of_lt_of_le h (Nat.le_of_ble_eq_true rfl))).trans (a39 j h)
  refine aw_aload_n C40 0 0 (j := 0) rfl rfl (by decide +kernel) rfl ?_
  refine aw_bipush C40 (i0 := 64) (v := 64) (by decide) (by decide +kernel) rfl ?_
  refine aw_newarr C40 (fun ad => [(0, .ref (ad 58))]) (fun ad => [.ref (ad 58)]) (atype := .int) (N := 64) (Or.inl ⟨rfl, rfl⟩) (by rw [y40]; decide +kernel) ta_int (by decide) (by decide) (by decide) (by rw [k40, R40]; exact Nat.le_of_ble_eq_true rfl) (by rw [n40, R40]; exact Nat.le_of_ble_eq_true rfl) (fun a b h => by have z58 := h 58 (by rw [y40]; exact Nat.le_of_ble_eq_true rfl); exact ⟨by first | rfl | simp only [z58], by first | rfl | simp only [z58]⟩) (by decide +kernel) rfl (fun G41 S41 => ?_)
  have e41 : (gly G40).length = 79 := by rw [y40]; exact rfl
  rw [e41]
  have C41 := S41.cx C40 (by rw [k40, R40]; exact Nat.le_of_ble_eq_true rfl) (by rw [n40, R40]; exact Nat.le_of_ble_eq_true rfl)
  have K41 := S41.ck K40
  have y41 : gly G41 = LY_155 := by rw [S41.ly, y40]; decide +kernel
  have k41 : gk G41 = 21 := by rw [S41.k, k40]
  have n41 : gn G41 = 19719 := by rw [S41.n, n40]
  have R41 := S41.R.trans R40
  have d41 := S41.d.trans d40
  have l41 := S41.nL.trans l40
  have a41 : ∀ j, j < 59 → gad G41 j = gad G0 j := fun j h => (S41.ad (by rw [y40]; exact Nat.lt_of_lt_of_le h (Nat.le_of_ble_eq_true rfl))).trans (a40 j h)
  show AW _ _ _ [(0, .ref (gad G41 58))] [.ref (gad G41 79), .ref (gad G41 58)]
  refine aw_putr C41 K41 (k := 46) (r0 := 79) fc_12 (hl := by rw [y41]; decide +kernel) (fs := [none, none, none, none, some (some 59), some (some 60), some (some 61), some (some 62), none, none, none, some (some 63), none, none, none, none, none, some (some 64), some (some 65), none, none, none, none, none, none, none, none, none, none, none, some (some 66), some (some 67), some (some 68), some (some 69), some (some 70), some (some 71), some (some 72), some (some 73), some (some 74), none, none, none, some (some 75), some (some 76), some (some 77), some (some 78), some none, some none, none, none, some none, some none, some none, some none, some none, some none, none, none, none, none, none, some none, some none, some none, some none]) (by decide +kernel) (by decide) rfl rfl ⟨ty12 46, by decide +kernel, fun _ => rfl, fun _ => rfl⟩ tb_988 LY_156 (by rw [y41]; decide +kernel) (by decide +kernel) rfl (fun G42 S42 b42 => ?_)
  rw [← b42]
  have C42 := S42.cx C41 (by rw [k41, R41]; exact Nat.le_of_ble_eq_true rfl) (by rw [n41, R41]; exact Nat.le_of_ble_eq_true rfl)
  have K42 := S42.ck K41
  have y42 : gly G42 = LY_156 := S42.ly
  have k42 : gk G42 = 21 := by rw [S42.k, k41]
  have n42 : gn G42 = 19719 := by rw [S42.n, n41]
  have R42 := S42.R.trans R41
  have d42 := S42.d.trans d41
  have l42 := S42.nL.trans l41
  have a42 : ∀ j, j < 59 → gad G42 j = gad G0 j := fun j h => (S42.ad (by rw [y41]; exact Nat.lt_of_lt_of_le h (Nat.le_of_ble_eq_true rfl))).trans (a41 j h)
  refine aw_aload_n C42 0 0 (j := 0) rfl rfl (by decide +kernel) rfl ?_
  refine aw_sipush C42 (i0 := 2200) (v := 2200) (by decide) (by decide +kernel) rfl ?_
  refine aw_newarr C42 (fun ad => [(0, .ref (ad 58))]) (fun ad => [.ref (ad 58)]) (atype := .long) (N := 2200) (Or.inr (Or.inr (Or.inr ⟨rfl, rfl⟩))) (by rw [y42]; decide +kernel) ta_long (by decide) (by decide) (by decide) (by rw [k42, R42]; exact Nat.le_of_ble_eq_true rfl) (by rw [n42, R42]; exact Nat.le_of_ble_eq_true rfl) (fun a b h => by have z58 := h 58 (by rw [y42]; exact Nat.le_of_ble_eq_true rfl); exact ⟨by first | rfl | simp only [z58], by first | rfl | simp only [z58]⟩) (by decide +kernel) rfl (fun G43 S43 => ?_)
  have e43 : (gly G42).length = 80 := by rw [y42]; exact rfl
  rw [e43]
  have C43 := S43.cx C42 (by rw [k42, R42]; exact Nat.le_of_ble_eq_true rfl) (by rw [n42, R42]; exact Nat.le_of_ble_eq_true rfl)
  have K43 := S43.ck K42
  have y43 : gly G43 = LY_157 := by rw [S43.ly, y42]; decide +kernel
  have k43 : gk G43 = 22 := by rw [S43.k, k42]
  have n43 : gn G43 = 21919 := by rw [S43.n, n42]
  have R43 := S43.R.trans R42
  have d43 := S43.d.trans d42
  have l43 := S43.nL.trans l42
  have a43 : ∀ j, j < 59 → gad G43 j = gad G0 j := fun j h => (S43.ad (by rw [y42]; exact Nat.lt_of_lt_of_le h (Nat.le_of_ble_eq_true rfl))).trans (a42 j h)
  show AW _ _ _ [(0, .ref (gad G43 58))] [.ref (gad G43 80), .ref (gad G43 58)]
  refine aw_putr C43 K43 (k := 47) (r0 := 80) fc_12 (hl := by rw [y43]; decide +kernel) (fs := [none, none, none, none, some (some 59), some (some 60), some (some 61), some (some 62), none, none, none, some (some 63), none, none, none, none, none, some (some 64), some (some 65), none, none, none, none, none, none, none, none, none, none, none, some (some 66), some (some 67), some (some 68), some (some 69), some (some 70), some (some 71), some (some 72), some (some 73), some (some 74), none, none, none, some (some 75), some (some 76), some (some 77), some (some 78), some (some 79), some none, none, none, some none, some none, some none, some none, some none, some none, none, none, none, none, none, some none, some none, some none, some none]) (by decide +kernel) (by decide) rfl rfl ⟨ty12 47, by decide +kernel, fun _ => rfl, fun _ => rfl⟩ tb_989 LY_158 (by rw [y43]; decide +kernel) (by decide +kernel) rfl (fun G44 S44 b44 => ?_)
  rw [← b44]
  have C44 := S44.cx C43 (by rw [k43, R43]; exact Nat.le_of_ble_eq_true rfl) (by rw [n43, R43]; exact Nat.le_of_ble_eq_true rfl)
  have K44 := S44.ck K43
  have y44 : gly G44 = LY_158 := S44.ly
  have k44 : gk G44 = 22 := by rw [S44.k, k43]
  have n44 : gn G44 = 21919 := by rw [S44.n, n43]
  have R44 := S44.R.trans R43
  have d44 := S44.d.trans d43
  have l44 := S44.nL.trans l43
  have a44 : ∀ j, j < 59 → gad G44 j = gad G0 j := fun j h => (S44.ad (by rw [y43]; exact Nat.lt_of_lt_of_le h (Nat.le_of_ble_eq_true rfl))).trans (a43 j h)
  refine aw_aload_n C44 0 0 (j := 0) rfl rfl (by decide +kernel) rfl ?_
  refine aw_iconst C44 (i0 := 5) (v := 5) (by decide) (by decide +kernel) rfl ?_
  refine aw_newarr C44 (fun ad => [(0, .ref (ad 58))]) (fun ad => [.ref (ad 58)]) (atype := .int) (N := 5) (Or.inl ⟨rfl, rfl⟩) (by rw [y44]; decide +kernel) ta_int (by decide) (by decide) (by decide) (by rw [k44, R44]; exact Nat.le_of_ble_eq_true rfl) (by rw [n44, R44]; exact Nat.le_of_ble_eq_true rfl) (fun a b h => by have z58 := h 58 (by rw [y44]; exact Nat.le_of_ble_eq_true rfl); exact ⟨by first | rfl | simp only [z58], by first | rfl | simp only [z58]⟩) (by decide +kernel) rfl (fun G45 S45 => ?_)
  have e45 : (gly G44).length = 81 := by rw [y44]; exact rfl
  rw [e45]
  have C45 := S45.cx C44 (by rw [k44, R44]; exact Nat.le_of_ble_eq_true rfl) (by rw [n44, R44]; exact Nat.le_of_ble_eq_true rfl)
  have K45 := S45.ck K44
  have y45 : gly G45 = LY_159 := by rw [S45.ly, y44]; decide +kernel
  have k45 : gk G45 = 23 := by rw [S45.k, k44]
  have n45 : gn G45 = 21924 := by rw [S45.n, n44]
  have R45 := S45.R.trans R44
  have d45 := S45.d.trans d44
  have l45 := S45.nL.trans l44
  have a45 : ∀ j, j < 59 → gad G45 j = gad G0 j := fun j h => (S45.ad (by rw [y44]; exact Nat.lt_of_lt_of_le h (Nat.le_of_ble_eq_true rfl))).trans (a44 j h)
  show AW _ _ _ [(0, .ref (gad G45 58))] [.ref (gad G45 81), .ref (gad G45 58)]
  refine aw_putr C45 K45 (k := 50) (r0 := 81) fc_12 (hl := by rw [y45]; decide +kernel) (fs := [none, none, none, none, some (some 59), some (some 60), some (some 61), some (some 62), none, none, none, some (some 63), none, none, none, none, none, some (some 64), some (some 65), none, none, none, none, none, none, none, none, none, none, none, some (some 66), some (some 67), some (some 68), some (some 69), some (some 70), some (some 71), some (some 72), some (some 73), some (some 74), none, none, none, some (some 75), some (some 76), some (some 77), some (some 78), some (some 79), some (some 80), none, none, some none, some none, some none, some none, some none, some none, none, none, none, none, none, some none, some none, some none, some none]) (by decide +kernel) (by decide) rfl rfl ⟨ty12 50, by decide +kernel, fun _ => rfl, fun _ => rfl⟩ tb_992 LY_160 (by rw [y45]; decide +kernel) (by decide +kernel) rfl (fun G46 S46 b46 => ?_)
  rw [← b46]
  have C46 := S46.cx C45 (by rw [k45, R45]; exact Nat.le_of_ble_eq_true rfl) (by rw [n45, R45]; exact Nat.le_of_ble_eq_true rfl)
  have K46 := S46.ck K45
  have y46 : gly G46 = LY_160 := S46.ly
  have k46 : gk G46 = 23 := by rw [S46.k, k45]
  have n46 : gn G46 = 21924 := by rw [S46.n, n45]
  have R46 := S46.R.trans R45
  have d46 := S46.d.trans d45
  have l46 := S46.nL.trans l45
  have a46 : ∀ j, j < 59 → gad G46 j = gad G0 j := fun j h => (S46.ad (by rw [y45]; exact Nat.lt_of_lt_of_le h (Nat.le_of_ble_eq_true rfl))).trans (a45 j h)
  refine aw_aload_n C46 0 0 (j := 0) rfl rfl (by decide +kernel) rfl ?_
  refine aw_iconst C46 (i0 := 5) (v := 5) (by decide) (by decide +kernel) rfl ?_
  refine aw_newarr C46 (fun ad => [(0, .ref (ad 58))]) (fun ad => [.ref (ad 58)]) (atype := .long) (N := 5) (Or.inr (Or.inr (Or.inr ⟨rfl, rfl⟩))) (by rw [y46]; decide +kernel) ta_long (by decide) (by decide) (by decide) (by rw [k46, R46]; exact Nat.le_of_ble_eq_true rfl) (by rw [n46, R46]; exact Nat.le_of_ble_eq_true rfl) (fun a b h => by have z58 := h 58 (by rw [y46]; exact Nat.le_of_ble_eq_true rfl); exact ⟨by first | rfl | simp only [z58], by first | rfl | simp only [z58]⟩) (by decide +kernel) rfl (fun G47 S47 => ?_)
  have e47 : (gly G46).length = 82 := by rw [y46]; exact rfl
  rw [e47]
  have C47 := S47.cx C46 (by rw [k46, R46]; exact Nat.le_of_ble_eq_true rfl) (by rw [n46, R46]; exact Nat.le_of_ble_eq_true rfl)
  have K47 := S47.ck K46
  have y47 : gly G47 = LY_161 := by rw [S47.ly, y46]; decide +kernel
  have k47 : gk G47 = 24 := by rw [S47.k, k46]
  have n47 : gn G47 = 21929 := by rw [S47.n, n46]
  have R47 := S47.R.trans R46
  have d47 := S47.d.trans d46
  have l47 := S47.nL.trans l46
  have a47 : ∀ j, j < 59 → gad G47 j = gad G0 j := fun j h => (S47.ad (by rw [y46]; exact Nat.lt_of_lt_of_le h (Nat.le_of_ble_eq_true rfl))).trans (a46 j h)
  show AW _ _ _ [(0, .ref (gad G47 58))] [.ref (gad G47 82), .ref (gad G47 58)]
  refine aw_putr C47 K47 (k := 51) (r0 := 82) fc_12 (hl := by rw [y47]; decide +kernel) (fs := [none, none, none, none, some (some 59), some (some 60), some (some 61), some (some 62), none, none, none, some (some 63), none, none, none, none, none, some (some 64), some (some 65), none, none, none, none, none, none, none, none, none, none, none, some (some 66), some (some 67), some (some 68), some (some 69), some (some 70), some (some 71), some (some 72), some (some 73), some (some 74), none, none, none, some (some 75), some (some 76), some (some 77), some (some 78), some (some 79), some (some 80), none, none, some (some 81), some none, some none, some none, some none, some none, none, none, none, none, none, some none, some none, some none, some none]) (by decide +kernel) (by decide) rfl rfl ⟨ty12 51, by decide +kernel, fun _ => rfl, fun _ => rfl⟩ tb_993 LY_162 (by rw [y47]; decide +kernel) (by decide +kernel) rfl (fun G48 S48 b48 => ?_)
  rw [← b48]
  have C48 := S48.cx C47 (by rw [k47, R47]; exact Nat.le_of_ble_eq_true rfl) (by rw [n47, R47]; exact Nat.le_of_ble_eq_true rfl)
  have K48 := S48.ck K47
  have y48 : gly G48 = LY_162 := S48.ly
  have k48 : gk G48 = 24 := by rw [S48.k, k47]
  have n48 : gn G48 = 21929 := by rw [S48.n, n47]
  have R48 := S48.R.trans R47
  have d48 := S48.d.trans d47
  have l48 := S48.nL.trans l47
  have a48 : ∀ j, j < 59 → gad G48 j = gad G0 j := fun j h => (S48.ad (by rw [y47]; exact Nat.lt_of_lt_of_le h (Nat.le_of_ble_eq_true rfl))).trans (a47 j h)
  refine aw_aload_n C48 0 0 (j := 0) rfl rfl (by decide +kernel) rfl ?_
  refine aw_bipush C48 (i0 := 50) (v := 50) (by decide) (by decide +kernel) rfl ?_
  refine aw_newarr C48 (fun ad => [(0, .ref (ad 58))]) (fun ad => [.ref (ad 58)]) (atype := .long) (N := 50) (Or.inr (Or.inr (Or.inr ⟨rfl, rfl⟩))) (by rw [y48]; decide +kernel) ta_long (by decide) (by decide) (by decide) (by rw [k48, R48]; exact Nat.le_of_ble_eq_true rfl) (by rw [n48, R48]; exact Nat.le_of_ble_eq_true rfl) (fun a b h => by have z58 := h 58 (by rw [y48]; exact Nat.le_of_ble_eq_true rfl); exact ⟨by first | rfl | simp only [z58], by first | rfl | simp only [z58]⟩) (by decide +kernel) rfl (fun G49 S49 => ?_)
  have e49 : (gly G48).length = 83 := by rw [y48]; exact rfl
  rw [e49]
  have C49 := S49.cx C48 (by rw [k48, R48]; exact Nat.le_of_ble_eq_true rfl) (by rw [n48, R48]; exact Nat.le_of_ble_eq_true rfl)
  have K49 := S49.ck K48
  have y49 : gly G49 = LY_163 := by rw [S49.ly, y48]; decide +kernel
  have k49 : gk G49 = 25 := by rw [S49.k, k48]
  have n49 : gn G49 = 21979 := by rw [S49.n, n48]
  have R49 := S49.R.trans R48
  have d49 := S49.d.trans d48
  have l49 := S49.nL.trans l48
  have a49 : ∀ j, j < 59 → gad G49 j = gad G0 j := fun j h => (S49.ad (by rw [y48]; exact Nat.lt_of_lt_of_le h (Nat.le_of_ble_eq_true rfl))).trans (a48 j h)
  show AW _ _ _ [(0, .ref (gad G49 58))] [.ref (gad G49 83), .ref (gad G49 58)]
  refine aw_putr C49 K49 (k := 52) (r0 := 83) fc_12 (hl := by rw [y49]; decide +kernel) (fs := [none, none, none, none, some (some 59), some (some 60), some (some 61), some (some 62), none, none, none, some (some 63), none, none, none, none, none, some (some 64), some (some 65), none, none, none, none, none, none, none, none, none, none, none, some (some 66), some (some 67), some (some 68), some (some 69), some (some 70), some (some 71), some (some 72), some (some 73), some (some 74), none, none, none, some (some 75), some (some 76), some (some 77), some (some 78), some (some 79), some (some 80), none, none, some (some 81), some (some 82), some none, some none, some none, some none, none, none, none, none, none, some none, some none, some none, some none]) (by decide +kernel) (by decide) rfl rfl ⟨ty12 52, by decide +kernel, fun _ => rfl, fun _ => rfl⟩ tb_994 LY_164 (by rw [y49]; decide +kernel) (by decide +kernel) rfl (fun G50 S50 b50 => ?_)
  rw [← b50]
  have C50 := S50.cx C49 (by rw [k49, R49]; exact Nat.le_of_ble_eq_true rfl) (by rw [n49, R49]; exact Nat.le_of_ble_eq_true rfl)
  have K50 := S50.ck K49
  have y50 : gly G50 = LY_164 := S50.ly
  have k50 : gk G50 = 25 := by rw [S50.k, k49]
  have n50 : gn G50 = 21979 := by rw [S50.n, n49]
  have R50 := S50.R.trans R49
  have d50 := S50.d.trans d49
  have l50 := S50.nL.trans l49
  have a50 : ∀ j, j < 59 → gad G50 j = gad G0 j := fun j h => (S50.ad (by rw [y49]; exact Nat.lt_of_lt_of_le h (Nat.le_of_ble_eq_true rfl))).trans (a49 j h)
  refine aw_aload_n C50 0 0 (j := 0) rfl rfl (by decide +kernel) rfl ?_
  refine aw_bipush C50 (i0 := 49) (v := 49) (by decide) (by decide +kernel) rfl ?_
  refine aw_newarr C50 (fun ad => [(0, .ref (ad 58))]) (fun ad => [.ref (ad 58)]) (atype := .boolean) (N := 49) (Or.inr (Or.inl ⟨rfl, rfl⟩)) (by rw [y50]; decide +kernel) ta_boolean (by decide) (by decide) (by decide) (by rw [k50, R50]; exact Nat.le_of_ble_eq_true rfl) (by rw [n50, R50]; exact Nat.le_of_ble_eq_true rfl) (fun a b h => by have z58 := h 58 (by rw [y50]; exact Nat.le_of_ble_eq_true rfl); exact ⟨by first | rfl | simp only [z58], by first | rfl | simp only [z58]⟩) (by decide +kernel) rfl (fun G51 S51 => ?_)
  have e51 : (gly G50).length = 84 := by rw [y50]; exact rfl
  rw [e51]
  have C51 := S51.cx C50 (by rw [k50, R50]; exact Nat.le_of_ble_eq_true rfl) (by rw [n50, R50]; exact Nat.le_of_ble_eq_true rfl)
  have K51 := S51.ck K50
  have y51 : gly G51 = LY_165 := by rw [S51.ly, y50]; decide +kernel
  have k51 : gk G51 = 26 := by rw [S51.k, k50]
  have n51 : gn G51 = 22028 := by rw [S51.n, n50]
  have R51 := S51.R.trans R50
  have d51 := S51.d.trans d50
  have l51 := S51.nL.trans l50
  have a51 : ∀ j, j < 59 → gad G51 j = gad G0 j := fun j h => (S51.ad (by rw [y50]; exact Nat.lt_of_lt_of_le h (Nat.le_of_ble_eq_true rfl))).trans (a50 j h)
  show AW _ _ _ [(0, .ref (gad G51 58))] [.ref (gad G51 84), .ref (gad G51 58)]
  refine aw_putr C51 K51 (k := 53) (r0 := 84) fc_12 (hl := by rw [y51]; decide +kernel) (fs := [none, none, none, none, some (some 59), some (some 60), some (some 61), some (some 62), none, none, none, some (some 63), none, none, none, none, none, some (some 64), some (some 65), none, none, none, none, none, none, none, none, none, none, none, some (some 66), some (some 67), some (some 68), some (some 69), some (some 70), some (some 71), some (some 72), some (some 73), some (some 74), none, none, none, some (some 75), some (some 76), some (some 77), some (some 78), some (some 79), some (some 80), none, none, some (some 81), some (some 82), some (some 83), some none, some none, some none, none, none, none, none, none, some none, some none, some none, some none]) (by decide +kernel) (by decide) rfl rfl ⟨ty12 53, by decide +kernel, fun _ => rfl, fun _ => rfl⟩ tb_995 LY_166 (by rw [y51]; decide +kernel) (by decide +kernel) rfl (fun G52 S52 b52 => ?_)
  rw [← b52]
  have C52 := S52.cx C51 (by rw [k51, R51]; exact Nat.le_of_ble_eq_true rfl) (by rw [n51, R51]; exact Nat.le_of_ble_eq_true rfl)
  have K52 := S52.ck K51
  have y52 : gly G52 = LY_166 := S52.ly
  have k52 : gk G52 = 26 := by rw [S52.k, k51]
  have n52 : gn G52 = 22028 := by rw [S52.n, n51]
  have R52 := S52.R.trans R51
  have d52 := S52.d.trans d51
  have l52 := S52.nL.trans l51
  have a52 : ∀ j, j < 59 → gad G52 j = gad G0 j := fun j h => (S52.ad (by rw [y51]; exact Nat.lt_of_lt_of_le h (Nat.le_of_ble_eq_true rfl))).trans (a51 j h)
  refine aw_aload_n C52 0 0 (j := 0) rfl rfl (by decide +kernel) rfl ?_
  refine aw_bipush C52 (i0 := 10) (v := 10) (by decide) (by decide +kernel) rfl ?_
  refine aw_newarr C52 (fun ad => [(0, .ref (ad 58))]) (fun ad => [.ref (ad 58)]) (atype := .int) (N := 10) (Or.inl ⟨rfl, rfl⟩) (by rw [y52]; decide +kernel) ta_int (by decide) (by decide) (by decide) (by rw [k52, R52]; exact Nat.le_of_ble_eq_true rfl) (by rw [n52, R52]; exact Nat.le_of_ble_eq_true rfl) (fun a b h => by have z58 := h 58 (by rw [y52]; exact Nat.le_of_ble_eq_true rfl); exact ⟨by first | rfl | simp only [z58], by first | rfl | simp only [z58]⟩) (by decide +kernel) rfl (fun G53 S53 => ?_)
  have e53 : (gly G52).length = 85 := by rw [y52]; exact rfl
  rw [e53]
  have C53 := S53.cx C52 (by rw [k52, R52]; exact Nat.le_of_ble_eq_true rfl) (by rw [n52, R52]; exact Nat.le_of_ble_eq_true rfl)
  have K53 := S53.ck K52
  have y53 : gly G53 = LY_167 := by rw [S53.ly, y52]; decide +kernel
  have k53 : gk G53 = 27 := by rw [S53.k, k52]
  have n53 : gn G53 = 22038 := by rw [S53.n, n52]
  have R53 := S53.R.trans R52
  have d53 := S53.d.trans d52
  have l53 := S53.nL.trans l52
  have a53 : ∀ j, j < 59 → gad G53 j = gad G0 j := fun j h => (S53.ad (by rw [y52]; exact Nat.lt_of_lt_of_le h (Nat.le_of_ble_eq_true rfl))).trans (a52 j h)
  show AW _ _ _ [(0, .ref (gad G53 58))] [.ref (gad G53 85), .ref (gad G53 58)]
  refine aw_putr C53 K53 (k := 54) (r0 := 85) fc_12 (hl := by rw [y53]; decide +kernel) (fs := [none, none, none, none, some (some 59), some (some 60), some (some 61), some (some 62), none, none, none, some (some 63), none, none, none, none, none, some (some 64), some (some 65), none, none, none, none, none, none, none, none, none, none, none, some (some 66), some (some 67), some (some 68), some (some 69), some (some 70), some (some 71), some (some 72), some (some 73), some (some 74), none, none, none, some (some 75), some (some 76), some (some 77), some (some 78), some (some 79), some (some 80), none, none, some (some 81), some (some 82), some (some 83), some (some 84), some none, some none, none, none, none, none, none, some none, some none, some none, some none]) (by decide +kernel) (by decide) rfl rfl ⟨ty12 54, by decide +kernel, fun _ => rfl, fun _ => rfl⟩ tb_996 LY_168 (by rw [y53]; decide +kernel) (by decide +kernel) rfl (fun G54 S54 b54 => ?_)
  rw [← b54]
  have C54 := S54.cx C53 (by rw [k53, R53]; exact Nat.le_of_ble_eq_true rfl) (by rw [n53, R53]; exact Nat.le_of_ble_eq_true rfl)
  have K54 := S54.ck K53
  have y54 : gly G54 = LY_168 := S54.ly
  have k54 : gk G54 = 27 := by rw [S54.k, k53]
  have n54 : gn G54 = 22038 := by rw [S54.n, n53]
  have R54 := S54.R.trans R53
  have d54 := S54.d.trans d53
  have l54 := S54.nL.trans l53
  have a54 : ∀ j, j < 59 → gad G54 j = gad G0 j := fun j h => (S54.ad (by rw [y53]; exact Nat.lt_of_lt_of_le h (Nat.le_of_ble_eq_true rfl))).trans (a53 j h)
  refine aw_aload_n C54 0 0 (j := 0) rfl rfl (by decide +kernel) rfl ?_
  refine aw_sipush C54 (i0 := 1024) (v := 1024) (by decide) (by decide +kernel) rfl ?_
  refine aw_newarr C54 (fun ad => [(0, .ref (ad 58))]) (fun ad => [.ref (ad 58)]) (atype := .int) (N := 1024) (Or.inl ⟨rfl, rfl⟩) (by rw [y54]; decide +kernel) ta_int (by decide) (by decide) (by decide) (by rw [k54, R54]; exact Nat.le_of_ble_eq_true rfl) (by rw [n54, R54]; exact Nat.le_of_ble_eq_true rfl) (fun a b h => by have z58 := h 58 (by rw [y54]; exact Nat.le_of_ble_eq_true rfl); exact ⟨by first | rfl | simp only [z58], by first | rfl | simp only [z58]⟩) (by decide +kernel) rfl (fun G55 S55 => ?_)
  have e55 : (gly G54).length = 86 := by rw [y54]; exact rfl
  rw [e55]
  have C55 := S55.cx C54 (by rw [k54, R54]; exact Nat.le_of_ble_eq_true rfl) (by rw [n54, R54]; exact Nat.le_of_ble_eq_true rfl)
  have K55 := S55.ck K54
  have y55 : gly G55 = LY_169 := by rw [S55.ly, y54]; decide +kernel
  have k55 : gk G55 = 28 := by rw [S55.k, k54]
  have n55 : gn G55 = 23062 := by rw [S55.n, n54]
  have R55 := S55.R.trans R54
  have d55 := S55.d.trans d54
  have l55 := S55.nL.trans l54
  have a55 : ∀ j, j < 59 → gad G55 j = gad G0 j := fun j h => (S55.ad (by rw [y54]; exact Nat.lt_of_lt_of_le h (Nat.le_of_ble_eq_true rfl))).trans (a54 j h)
  show AW _ _ _ [(0, .ref (gad G55 58))] [.ref (gad G55 86), .ref (gad G55 58)]
  refine aw_putr C55 K55 (k := 55) (r0 := 86) fc_12 (hl := by rw [y55]; decide +kernel) (fs := [none, none, none, none, some (some 59), some (some 60), some (some 61), some (some 62), none, none, none, some (some 63), none, none, none, none, none, some (some 64), some (some 65), none, none, none, none, none, none, none, none, none, none, none, some (some 66), some (some 67), some (some 68), some (some 69), some (some 70), some (some 71), some (some 72), some (some 73), some (some 74), none, none, none, some (some 75), some (some 76), some (some 77), some (some 78), some (some 79), some (some 80), none, none, some (some 81), some (some 82), some (some 83), some (some 84), some (some 85), some none, none, none, none, none, none, some none, some none, some none, some none]) (by decide +kernel) (by decide) rfl rfl ⟨ty12 55, by decide +kernel, fun _ => rfl, fun _ => rfl⟩ tb_997 LY_170 (by rw [y55]; decide +kernel) (by decide +kernel) rfl (fun G56 S56 b56 => ?_)
  rw [← b56]
  have C56 := S56.cx C55 (by rw [k55, R55]; exact Nat.le_of_ble_eq_true rfl) (by rw [n55, R55]; exact Nat.le_of_ble_eq_true rfl)
  have K56 := S56.ck K55
  have y56 : gly G56 = LY_170 := S56.ly
  have k56 : gk G56 = 28 := by rw [S56.k, k55]
  have n56 : gn G56 = 23062 := by rw [S56.n, n55]
  have R56 := S56.R.trans R55
  have d56 := S56.d.trans d55
  have l56 := S56.nL.trans l55
  have a56 : ∀ j, j < 59 → gad G56 j = gad G0 j := fun j h => (S56.ad (by rw [y55]; exact Nat.lt_of_lt_of_le h (Nat.le_of_ble_eq_true rfl))).trans (a55 j h)
  refine aw_aload_n C56 0 0 (j := 0) rfl rfl (by decide +kernel) rfl ?_
  refine aw_bipush C56 (i0 := 9) (v := 9) (by decide) (by decide +kernel) rfl ?_
  refine aw_newarr C56 (fun ad => [(0, .ref (ad 58))]) (fun ad => [.ref (ad 58)]) (atype := .int) (N := 9) (Or.inl ⟨rfl, rfl⟩) (by rw [y56]; decide +kernel) ta_int (by decide) (by decide) (by decide) (by rw [k56, R56]; exact Nat.le_of_ble_eq_true rfl) (by rw [n56, R56]; exact Nat.le_of_ble_eq_true rfl) (fun a b h => by have z58 := h 58 (by rw [y56]; exact Nat.le_of_ble_eq_true rfl); exact ⟨by first | rfl | simp only [z58], by first | rfl | simp only [z58]⟩) (by decide +kernel) rfl (fun G57 S57 => ?_)
  have e57 : (gly G56).length = 87 := by rw [y56]; exact rfl
  rw [e57]
  have C57 := S57.cx C56 (by rw [k56, R56]; exact Nat.le_of_ble_eq_true rfl) (by rw [n56, R56]; exact Nat.le_of_ble_eq_true rfl)
  have K57 := S57.ck K56
  have y57 : gly G57 = LY_171 := by rw [S57.ly, y56]; decide +kernel
  have k57 : gk G57 = 29 := by rw [S57.k, k56]
  have n57 : gn G57 = 23071 := by rw [S57.n, n56]
  have R57 := S57.R.trans R56
  have d57 := S57.d.trans d56
  have l57 := S57.nL.trans l56
  have a57 : ∀ j, j < 59 → gad G57 j = gad G0 j := fun j h => (S57.ad (by rw [y56]; exact Nat.lt_of_lt_of_le h (Nat.le_of_ble_eq_true rfl))).trans (a56 j h)
  show AW _ _ _ [(0, .ref (gad G57 58))] [.ref (gad G57 87), .ref (gad G57 58)]
  refine aw_putr C57 K57 (k := 61) (r0 := 87) fc_12 (hl := by rw [y57]; decide +kernel) (fs := [none, none, none, none, some (some 59), some (some 60), some (some 61), some (some 62), none, none, none, some (some 63), none, none, none, none, none, some (some 64), some (some 65), none, none, none, none, none, none, none, none, none, none, none, some (some 66), some (some 67), some (some 68), some (some 69), some (some 70), some (some 71), some (some 72), some (some 73), some (some 74), none, none, none, some (some 75), some (some 76), some (some 77), some (some 78), some (some 79), some (some 80), none, none, some (some 81), some (some 82), some (some 83), some (some 84), some (some 85), some (some 86), none, none, none, none, none, some none, some none, some none, some none]) (by decide +kernel) (by decide) rfl rfl ⟨ty12 61, by decide +kernel, fun _ => rfl, fun _ => rfl⟩ tb_1003 LY_172 (by rw [y57]; decide +kernel) (by decide +kernel) rfl (fun G58 S58 b58 => ?_)
  rw [← b58]
  have C58 := S58.cx C57 (by rw [k57, R57]; exact Nat.le_of_ble_eq_true rfl) (by rw [n57, R57]; exact Nat.le_of_ble_eq_true rfl)
  have K58 := S58.ck K57
  have y58 : gly G58 = LY_172 := S58.ly
  have k58 : gk G58 = 29 := by rw [S58.k, k57]
  have n58 : gn G58 = 23071 := by rw [S58.n, n57]
  have R58 := S58.R.trans R57
  have d58 := S58.d.trans d57
  have l58 := S58.nL.trans l57
  have a58 : ∀ j, j < 59 → gad G58 j = gad G0 j := fun j h => (S58.ad (by rw [y57]; exact Nat.lt_of_lt_of_le h (Nat.le_of_ble_eq_true rfl))).trans (a57 j h)
  refine aw_aload_n C58 0 0 (j := 0) rfl rfl (by decide +kernel) rfl ?_
  refine aw_bipush C58 (i0 := 16) (v := 16) (by decide) (by decide +kernel) rfl ?_
  refine aw_newarr C58 (fun ad => [(0, .ref (ad 58))]) (fun ad => [.ref (ad 58)]) (atype := .int) (N := 16) (Or.inl ⟨rfl, rfl⟩) (by rw [y58]; decide +kernel) ta_int (by decide) (by decide) (by decide) (by rw [k58, R58]; exact Nat.le_of_ble_eq_true rfl) (by rw [n58, R58]; exact Nat.le_of_ble_eq_true rfl) (fun a b h => by have z58 := h 58 (by rw [y58]; exact Nat.le_of_ble_eq_true rfl); exact ⟨by first | rfl | simp only [z58], by first | rfl | simp only [z58]⟩) (by decide +kernel) rfl (fun G59 S59 => ?_)
  have e59 : (gly G58).length = 88 := by rw [y58]; exact rfl
  rw [e59]
  have C59 := S59.cx C58 (by rw [k58, R58]; exact Nat.le_of_ble_eq_true rfl) (by rw [n58, R58]; exact Nat.le_of_ble_eq_true rfl)
  have K59 := S59.ck K58
  have y59 : gly G59 = LY_173 := by rw [S59.ly, y58]; decide +kernel
  have k59 : gk G59 = 30 := by rw [S59.k, k58]
  have n59 : gn G59 = 23087 := by rw [S59.n, n58]
  have R59 := S59.R.trans R58
  have d59 := S59.d.trans d58
  have l59 := S59.nL.trans l58
  have a59 : ∀ j, j < 59 → gad G59 j = gad G0 j := fun j h => (S59.ad (by rw [y58]; exact Nat.lt_of_lt_of_le h (Nat.le_of_ble_eq_true rfl))).trans (a58 j h)
  show AW _ _ _ [(0, .ref (gad G59 58))] [.ref (gad G59 88), .ref (gad G59 58)]
  refine aw_putr C59 K59 (k := 62) (r0 := 88) fc_12 (hl := by rw [y59]; decide +kernel) (fs := [none, none, none, none, some (some 59), some (some 60), some (some 61), some (some 62), none, none, none, some (some 63), none, none, none, none, none, some (some 64), some (some 65), none, none, none, none, none, none, none, none, none, none, none, some (some 66), some (some 67), some (some 68), some (some 69), some (some 70), some (some 71), some (some 72), some (some 73), some (some 74), none, none, none, some (some 75), some (some 76), some (some 77), some (some 78), some (some 79), some (some 80), none, none, some (some 81), some (some 82), some (some 83), some (some 84), some (some 85), some (some 86), none, none, none, none, none, some (some 87), some none, some none, some none]) (by decide +kernel) (by decide) rfl rfl ⟨ty12 62, by decide +kernel, fun _ => rfl, fun _ => rfl⟩ tb_1004 LY_174 (by rw [y59]; decide +kernel) (by decide +kernel) rfl (fun G60 S60 b60 => ?_)
  rw [← b60]
  have C60 := S60.cx C59 (by rw [k59, R59]; exact Nat.le_of_ble_eq_true rfl) (by rw [n59, R59]; exact Nat.le_of_ble_eq_true rfl)
  have K60 := S60.ck K59
  have y60 : gly G60 = LY_174 := S60.ly
  have k60 : gk G60 = 30 := by rw [S60.k, k59]
  have n60 : gn G60 = 23087 := by rw [S60.n, n59]
  have R60 := S60.R.trans R59
  have d60 := S60.d.trans d59
  have l60 := S60.nL.trans l59
  have a60 : ∀ j, j < 59 → gad G60 j = gad G0 j := fun j h => (S60.ad (by rw [y59]; exact Nat.lt_of_lt_of_le h (Nat.le_of_ble_eq_true rfl))).trans (a59 j h)
  refine aw_aload_n C60 0 0 (j := 0) rfl rfl (by decide +kernel) rfl ?_
  refine aw_sipush C60 (i0 := 256) (v := 256) (by decide) (by decide +kernel) rfl ?_
  refine aw_newarr C60 (fun ad => [(0, .ref (ad 58))]) (fun ad => [.ref (ad 58)]) (atype := .boolean) (N := 256) (Or.inr (Or.inl ⟨rfl, rfl⟩)) (by rw [y60]; decide +kernel) ta_boolean (by decide) (by decide) (by decide) (by rw [k60, R60]; exact Nat.le_of_ble_eq_true rfl) (by rw [n60, R60]; exact Nat.le_of_ble_eq_true rfl) (fun a b h => by have z58 := h 58 (by rw [y60]; exact Nat.le_of_ble_eq_true rfl); exact ⟨by first | rfl | simp only [z58], by first | rfl | simp only [z58]⟩) (by decide +kernel) rfl (fun G61 S61 => ?_)
  have e61 : (gly G60).length = 89 := by rw [y60]; exact rfl
  rw [e61]
  have C61 := S61.cx C60 (by rw [k60, R60]; exact Nat.le_of_ble_eq_true rfl) (by rw [n60, R60]; exact Nat.le_of_ble_eq_true rfl)
  have K61 := S61.ck K60
  have y61 : gly G61 = LY_175 := by rw [S61.ly, y60]; decide +kernel
  have k61 : gk G61 = 31 := by rw [S61.k, k60]
  have n61 : gn G61 = 23343 := by rw [S61.n, n60]
  have R61 := S61.R.trans R60
  have d61 := S61.d.trans d60
  have l61 := S61.nL.trans l60
  have a61 : ∀ j, j < 59 → gad G61 j = gad G0 j := fun j h => (S61.ad (by rw [y60]; exact Nat.lt_of_lt_of_le h (Nat.le_of_ble_eq_true rfl))).trans (a60 j h)
  show AW _ _ _ [(0, .ref (gad G61 58))] [.ref (gad G61 89), .ref (gad G61 58)]
  refine aw_putr C61 K61 (k := 63) (r0 := 89) fc_12 (hl := by rw [y61]; decide +kernel) (fs := [none, none, none, none, some (some 59), some (some 60), some (some 61), some (some 62), none, none, none, some (some 63), none, none, none, none, none, some (some 64), some (some 65), none, none, none, none, none, none, none, none, none, none, none, some (some 66), some (some 67), some (some 68), some (some 69), some (some 70), some (some 71), some (some 72), some (some 73), some (some 74), none, none, none, some (some 75), some (some 76), some (some 77), some (some 78), some (some 79), some (some 80), none, none, some (some 81), some (some 82), some (some 83), some (some 84), some (some 85), some (some 86), none, none, none, none, none, some (some 87), some (some 88), some none, some none]) (by decide +kernel) (by decide) rfl rfl ⟨ty12 63, by decide +kernel, fun _ => rfl, fun _ => rfl⟩ tb_1005 LY_176 (by rw [y61]; decide +kernel) (by decide +kernel) rfl (fun G62 S62 b62 => ?_)
  rw [← b62]
  have C62 := S62.cx C61 (by rw [k61, R61]; exact Nat.le_of_ble_eq_true rfl) (by rw [n61, R61]; exact Nat.le_of_ble_eq_true rfl)
  have K62 := S62.ck K61
  have y62 : gly G62 = LY_176 := S62.ly
  have k62 : gk G62 = 31 := by rw [S62.k, k61]
  have n62 : gn G62 = 23343 := by rw [S62.n, n61]
  have R62 := S62.R.trans R61
  have d62 := S62.d.trans d61
  have l62 := S62.nL.trans l61
  have a62 : ∀ j, j < 59 → gad G62 j = gad G0 j := fun j h => (S62.ad (by rw [y61]; exact Nat.lt_of_lt_of_le h (Nat.le_of_ble_eq_true rfl))).trans (a61 j h)
  refine aw_aload_n C62 0 0 (j := 0) rfl rfl (by decide +kernel) rfl ?_
  refine aw_sipush C62 (i0 := 256) (v := 256) (by decide) (by decide +kernel) rfl ?_
  refine aw_newarr C62 (fun ad => [(0, .ref (ad 58))]) (fun ad => [.ref (ad 58)]) (atype := .boolean) (N := 256) (Or.inr (Or.inl ⟨rfl, rfl⟩)) (by rw [y62]; decide +kernel) ta_boolean (by decide) (by decide) (by decide) (by rw [k62, R62]; exact Nat.le_of_ble_eq_true rfl) (by rw [n62, R62]; exact Nat.le_of_ble_eq_true rfl) (fun a b h => by have z58 := h 58 (by rw [y62]; exact Nat.le_of_ble_eq_true rfl); exact ⟨by first | rfl | simp only [z58], by first | rfl | simp only [z58]⟩) (by decide +kernel) rfl (fun G63 S63 => ?_)
  have e63 : (gly G62).length = 90 := by rw [y62]; exact rfl
  rw [e63]
  have C63 := S63.cx C62 (by rw [k62, R62]; exact Nat.le_of_ble_eq_true rfl) (by rw [n62, R62]; exact Nat.le_of_ble_eq_true rfl)
  have K63 := S63.ck K62
  have y63 : gly G63 = LY_177 := by rw [S63.ly, y62]; decide +kernel
  have k63 : gk G63 = 32 := by rw [S63.k, k62]
  have n63 : gn G63 = 23599 := by rw [S63.n, n62]
  have R63 := S63.R.trans R62
  have d63 := S63.d.trans d62
  have l63 := S63.nL.trans l62
  have a63 : ∀ j, j < 59 → gad G63 j = gad G0 j := fun j h => (S63.ad (by rw [y62]; exact Nat.lt_of_lt_of_le h (Nat.le_of_ble_eq_true rfl))).trans (a62 j h)
  show AW _ _ _ [(0, .ref (gad G63 58))] [.ref (gad G63 90), .ref (gad G63 58)]
  refine aw_putr C63 K63 (k := 64) (r0 := 90) fc_12 (hl := by rw [y63]; decide +kernel) (fs := [none, none, none, none, some (some 59), some (some 60), some (some 61), some (some 62), none, none, none, some (some 63), none, none, none, none, none, some (some 64), some (some 65), none, none, none, none, none, none, none, none, none, none, none, some (some 66), some (some 67), some (some 68), some (some 69), some (some 70), some (some 71), some (some 72), some (some 73), some (some 74), none, none, none, some (some 75), some (some 76), some (some 77), some (some 78), some (some 79), some (some 80), none, none, some (some 81), some (some 82), some (some 83), some (some 84), some (some 85), some (some 86), none, none, none, none, none, some (some 87), some (some 88), some (some 89), some none]) (by decide +kernel) (by decide) rfl rfl ⟨ty12 64, by decide +kernel, fun _ => rfl, fun _ => rfl⟩ tb_1006 (LC ++ LM) (by rw [y63]; decide +kernel) (by decide +kernel) rfl (fun G64 S64 b64 => ?_)
  rw [← b64]
  have C64 := S64.cx C63 (by rw [k63, R63]; exact Nat.le_of_ble_eq_true rfl) (by rw [n63, R63]; exact Nat.le_of_ble_eq_true rfl)
  have K64 := S64.ck K63
  have y64 : gly G64 = (LC ++ LM) := S64.ly
  have k64 : gk G64 = 32 := by rw [S64.k, k63]
  have n64 : gn G64 = 23599 := by rw [S64.n, n63]
  have R64 := S64.R.trans R63
  have d64 := S64.d.trans d63
  have l64 := S64.nL.trans l63
  have a64 : ∀ j, j < 59 → gad G64 j = gad G0 j := fun j h => (S64.ad (by rw [y63]; exact Nat.lt_of_lt_of_le h (Nat.le_of_ble_eq_true rfl))).trans (a63 j h)
  refine aw_aload_n C64 0 0 (j := 0) rfl rfl (by decide +kernel) rfl ?_
  refine aw_iconst C64 (i0 := 1) (v := 1) (by decide) (by decide +kernel) rfl ?_
  refine aw_put C64 (k := 3) (fs := [none, none, none, none, some (some 59), some (some 60), some (some 61), some (some 62), none, none, none, some (some 63), none, none, none, none, none, some (some 64), some (some 65), none, none, none, none, none, none, none, none, none, none, none, some (some 66), some (some 67), some (some 68), some (some 69), some (some 70), some (some 71), some (some 72), some (some 73), some (some 74), none, none, none, some (some 75), some (some 76), some (some 77), some (some 78), some (some 79), some (some 80), none, none, some (some 81), some (some 82), some (some 83), some (some 84), some (some 85), some (some 86), none, none, none, none, none, some (some 87), some (some 88), some (some 89), some (some 90)]) fc_12 (by rw [y64]; decide +kernel) rfl (by decide) rfl rfl tb_945 (by decide +kernel) rfl ?_
  refine aw_aload_n C64 0 0 (j := 0) rfl rfl (by decide +kernel) rfl ?_
  refine aw_bipush C64 (i0 := 16) (v := 16) (by decide) (by decide +kernel) rfl ?_
  refine aw_callV C64 (rest := []) (by rw [y64]; exact c_m_begins (lay := (LC ++ LM)) (fun c x h => h) 16 _ q0 hq0) tb_938 yf_140 yi_140 (q0 := 58) (fs := [none, none, none, none, some (some 59), some (some 60), some (some 61), some (some 62), none, none, none, some (some 63), none, none, none, none, none, some (some 64), some (some 65), none, none, none, none, none, none, none, none, none, none, none, some (some 66), some (some 67), some (some 68), some (some 69), some (some 70), some (some 71), some (some 72), some (some 73), some (some 74), none, none, none, some (some 75), some (some 76), some (some 77), some (some 78), some (some 79), some (some 80), none, none, some (some 81), some (some 82), some (some 83), some (some 84), some (some 85), some (some 86), none, none, none, none, none, some (some 87), some (some 88), some (some 89), some (some 90)]) (by rw [y64]; decide +kernel) [.int 16] rfl rfl _ rfl (by rw [d64]; exact Nat.le_of_ble_eq_true rfl) (Nat.le_of_ble_eq_true rfl) (by decide +kernel) rfl ?_
  show AW _ _ _ _ []
  exact aw_cret C64 K64 a64 y64 rfl k64 n64 (by decide +kernel)
