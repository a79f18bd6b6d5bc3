def f_m_factOf (v0 : Int32) (st : Mm) : Option (Int32 × Mm) :=
  if v0 = 104 then (some ((3 : Int32), st)) else (if v0 = 105 then (some ((-1 : Int32), st)) else (if v0 = 106 then (some ((-1 : Int32), st)) else (if v0 = 107 then (some ((-1 : Int32), st)) else (if v0 = 108 then (some ((4 : Int32), st)) else (if v0 = 109 then (some ((-1 : Int32), st)) else (if v0 = 110 then (some ((5 : Int32), st)) else (if v0 = 111 then (some ((-1 : Int32), st)) else (if v0 = 112 then (some ((-1 : Int32), st)) else (if v0 = 113 then (some ((-1 : Int32), st)) else (if v0 = 114 then (some ((-1 : Int32), st)) else (if v0 = 115 then (some ((-1 : Int32), st)) else (if v0 = 116 then (some ((-1 : Int32), st)) else (if v0 = 117 then (some ((-1 : Int32), st)) else (if v0 = 118 then (some ((-1 : Int32), st)) else (if v0 = 119 then (some ((2 : Int32), st)) else (if v0 = 120 then (some ((0 : Int32), st)) else (if v0 = 121 then (some ((1 : Int32), st)) else (if v0 = 122 then (some ((6 : Int32), st)) else (some ((-1 : Int32), st))))))))))))))))))))
theorem t_m_factOf {G : Cx} (C : CX G prog_14_method_27_code "PaperStarsModel") (CR0 : CR G (Option.some FieldType.int)) (E : LAin (gly G)) (hnL : gnL G = 1) (hgd : 0 ≤ gd G) {q : Int32 × Mm} (hgr : gr G = some (.int q.1)) (hgs : gsf G = q.2) (v0 : Int32) (st : Mm) (hf : f_m_factOf v0 st = some q) : AW G st 0 [(0, .int v0)] [] := by
  unfold f_m_factOf at hf
  refine aw_iload_n C 0 0 (j := 0) rfl rfl (by decide +kernel) rfl ?_
  by_cases w1 : v0 = 104
  · have hf := ift w1 hf
    refine aw_tin C (tgt := 98) (off := 97) (dflt := 106) (lo := 104) (hi := 122) (offs := #[97, 106, 106, 106, 99, 106, 101, 106, 106, 106, 106, 106, 106, 106, 106, 95, 91, 93, 103]) (len := 91) (by decide +kernel) (by rw [w1]; decide) (by rw [w1]; decide) (by rw [w1]; decide) (by decide) ?_
    refine aw_iconst C (i0 := 3) (v := 3) (by decide) (by decide +kernel) rfl ?_
    exact aw_iretq C CR0 hgr hgs hf (by decide +kernel)
  · have hf := iff_ w1 hf
    by_cases w2 : v0 = 105
    · have hf := ift w2 hf
      refine aw_tin C (tgt := 107) (off := 106) (dflt := 106) (lo := 104) (hi := 122) (offs := #[97, 106, 106, 106, 99, 106, 101, 106, 106, 106, 106, 106, 106, 106, 106, 95, 91, 93, 103]) (len := 91) (by decide +kernel) (by rw [w2]; decide) (by rw [w2]; decide) (by rw [w2]; decide) (by decide) ?_
      refine aw_iconst C (i0 := -1) (v := -1) (by decide) (by decide +kernel) rfl ?_
      exact aw_iretq C CR0 hgr hgs hf (by decide +kernel)
    · have hf := iff_ w2 hf
      by_cases w3 : v0 = 106
      · have hf := ift w3 hf
        refine aw_tin C (tgt := 107) (off := 106) (dflt := 106) (lo := 104) (hi := 122) (offs := #[97, 106, 106, 106, 99, 106, 101, 106, 106, 106, 106, 106, 106, 106, 106, 95, 91, 93, 103]) (len := 91) (by decide +kernel) (by rw [w3]; decide) (by rw [w3]; decide) (by rw [w3]; decide) (by decide) ?_
        refine aw_iconst C (i0 := -1) (v := -1) (by decide) (by decide +kernel) rfl ?_
        exact aw_iretq C CR0 hgr hgs hf (by decide +kernel)
      · have hf := iff_ w3 hf
        by_cases w4 : v0 = 107
        · have hf := ift w4 hf
          refine aw_tin C (tgt := 107) (off := 106) (dflt := 106) (lo := 104) (hi := 122) (offs := #[97, 106, 106, 106, 99, 106, 101, 106, 106, 106, 106, 106, 106, 106, 106, 95, 91, 93, 103]) (len := 91) (by decide +kernel) (by rw [w4]; decide) (by rw [w4]; decide) (by rw [w4]; decide) (by decide) ?_
          refine aw_iconst C (i0 := -1) (v := -1) (by decide) (by decide +kernel) rfl ?_
          exact aw_iretq C CR0 hgr hgs hf (by decide +kernel)
        · have hf := iff_ w4 hf
          by_cases w5 : v0 = 108
          · have hf := ift w5 hf
            refine aw_tin C (tgt := 100) (off := 99) (dflt := 106) (lo := 104) (hi := 122) (offs := #[97, 106, 106, 106, 99, 106, 101, 106, 106, 106, 106, 106, 106, 106, 106, 95, 91, 93, 103]) (len := 91) (by decide +kernel) (by rw [w5]; decide) (by rw [w5]; decide) (by rw [w5]; decide) (by decide) ?_
            refine aw_iconst C (i0 := 4) (v := 4) (by decide) (by decide +kernel) rfl ?_
            exact aw_iretq C CR0 hgr hgs hf (by decide +kernel)
          · have hf := iff_ w5 hf
            by_cases w6 : v0 = 109
            · have hf := ift w6 hf
              refine aw_tin C (tgt := 107) (off := 106) (dflt := 106) (lo := 104) (hi := 122) (offs := #[97, 106, 106, 106, 99, 106, 101, 106, 106, 106, 106, 106, 106, 106, 106, 95, 91, 93, 103]) (len := 91) (by decide +kernel) (by rw [w6]; decide) (by rw [w6]; decide) (by rw [w6]; decide) (by decide) ?_
              refine aw_iconst C (i0 := -1) (v := -1) (by decide) (by decide +kernel) rfl ?_
              exact aw_iretq C CR0 hgr hgs hf (by decide +kernel)
            · have hf := iff_ w6 hf
              by_cases w7 : v0 = 110
              · have hf := ift w7 hf
                refine aw_tin C (tgt := 102) (off := 101) (dflt := 106) (lo := 104) (hi := 122) (offs := #[97, 106, 106, 106, 99, 106, 101, 106, 106, 106, 106, 106, 106, 106, 106, 95, 91, 93, 103]) (len := 91) (by decide +kernel) (by rw [w7]; decide) (by rw [w7]; decide) (by rw [w7]; decide) (by decide) ?_
                refine aw_iconst C (i0 := 5) (v := 5) (by decide) (by decide +kernel) rfl ?_
                exact aw_iretq C CR0 hgr hgs hf (by decide +kernel)
              · have hf := iff_ w7 hf
                by_cases w8 : v0 = 111
                · have hf := ift w8 hf
                  refine aw_tin C (tgt := 107) (off := 106) (dflt := 106) (lo := 104) (hi := 122) (offs := #[97, 106, 106, 106, 99, 106, 101, 106, 106, 106, 106, 106, 106, 106, 106, 95, 91, 93, 103]) (len := 91) (by decide +kernel) (by rw [w8]; decide) (by rw [w8]; decide) (by rw [w8]; decide) (by decide) ?_
                  refine aw_iconst C (i0 := -1) (v := -1) (by decide) (by decide +kernel) rfl ?_
                  exact aw_iretq C CR0 hgr hgs hf (by decide +kernel)
                · have hf := iff_ w8 hf
                  by_cases w9 : v0 = 112
                  · have hf := ift w9 hf
                    refine aw_tin C (tgt := 107) (off := 106) (dflt := 106) (lo := 104) (hi := 122) (offs := #[97, 106, 106, 106, 99, 106, 101, 106, 106, 106, 106, 106, 106, 106, 106, 95, 91, 93, 103]) (len := 91) (by decide +kernel) (by rw [w9]; decide) (by rw [w9]; decide) (by rw [w9]; decide) (by decide) ?_
                    refine aw_iconst C (i0 := -1) (v := -1) (by decide) (by decide +kernel) rfl ?_
                    exact aw_iretq C CR0 hgr hgs hf (by decide +kernel)
                  · have hf := iff_ w9 hf
                    by_cases w10 : v0 = 113
                    · have hf := ift w10 hf
                      refine aw_tin C (tgt := 107) (off := 106) (dflt := 106) (lo := 104) (hi := 122) (offs := #[97, 106, 106, 106, 99, 106, 101, 106, 106, 106, 106, 106, 106, 106, 106, 95, 91, 93, 103]) (len := 91) (by decide +kernel) (by rw [w10]; decide) (by rw [w10]; decide) (by rw [w10]; decide) (by decide) ?_
                      refine aw_iconst C (i0 := -1) (v := -1) (by decide) (by decide +kernel) rfl ?_
                      exact aw_iretq C CR0 hgr hgs hf (by decide +kernel)
                    · have hf := iff_ w10 hf
                      by_cases w11 : v0 = 114
                      · have hf := ift w11 hf
                        refine aw_tin C (tgt := 107) (off := 106) (dflt := 106) (lo := 104) (hi := 122) (offs := #[97, 106, 106, 106, 99, 106, 101, 106, 106, 106, 106, 106, 106, 106, 106, 95, 91, 93, 103]) (len := 91) (by decide +kernel) (by rw [w11]; decide) (by rw [w11]; decide) (by rw [w11]; decide) (by decide) ?_
                        refine aw_iconst C (i0 := -1) (v := -1) (by decide) (by decide +kernel) rfl ?_
                        exact aw_iretq C CR0 hgr hgs hf (by decide +kernel)
                      · have hf := iff_ w11 hf
                        by_cases w12 : v0 = 115
                        · have hf := ift w12 hf
                          refine aw_tin C (tgt := 107) (off := 106) (dflt := 106) (lo := 104) (hi := 122) (offs := #[97, 106, 106, 106, 99, 106, 101, 106, 106, 106, 106, 106, 106, 106, 106, 95, 91, 93, 103]) (len := 91) (by decide +kernel) (by rw [w12]; decide) (by rw [w12]; decide) (by rw [w12]; decide) (by decide) ?_
                          refine aw_iconst C (i0 := -1) (v := -1) (by decide) (by decide +kernel) rfl ?_
                          exact aw_iretq C CR0 hgr hgs hf (by decide +kernel)
                        · have hf := iff_ w12 hf
                          by_cases w13 : v0 = 116
                          · have hf := ift w13 hf
                            refine aw_tin C (tgt := 107) (off := 106) (dflt := 106) (lo := 104) (hi := 122) (offs := #[97, 106, 106, 106, 99, 106, 101, 106, 106, 106, 106, 106, 106, 106, 106, 95, 91, 93, 103]) (len := 91) (by decide +kernel) (by rw [w13]; decide) (by rw [w13]; decide) (by rw [w13]; decide) (by decide) ?_
                            refine aw_iconst C (i0 := -1) (v := -1) (by decide) (by decide +kernel) rfl ?_
                            exact aw_iretq C CR0 hgr hgs hf (by decide +kernel)
                          · have hf := iff_ w13 hf
                            by_cases w14 : v0 = 117
                            · have hf := ift w14 hf
                              refine aw_tin C (tgt := 107) (off := 106) (dflt := 106) (lo := 104) (hi := 122) (offs := #[97, 106, 106, 106, 99, 106, 101, 106, 106, 106, 106, 106, 106, 106, 106, 95, 91, 93, 103]) (len := 91) (by decide +kernel) (by rw [w14]; decide) (by rw [w14]; decide) (by rw [w14]; decide) (by decide) ?_
                              refine aw_iconst C (i0 := -1) (v := -1) (by decide) (by decide +kernel) rfl ?_
                              exact aw_iretq C CR0 hgr hgs hf (by decide +kernel)
                            · have hf := iff_ w14 hf
                              by_cases w15 : v0 = 118
                              · have hf := ift w15 hf
                                refine aw_tin C (tgt := 107) (off := 106) (dflt := 106) (lo := 104) (hi := 122) (offs := #[97, 106, 106, 106, 99, 106, 101, 106, 106, 106, 106, 106, 106, 106, 106, 95, 91, 93, 103]) (len := 91) (by decide +kernel) (by rw [w15]; decide) (by rw [w15]; decide) (by rw [w15]; decide) (by decide) ?_
                                refine aw_iconst C (i0 := -1) (v := -1) (by decide) (by decide +kernel) rfl ?_
                                exact aw_iretq C CR0 hgr hgs hf (by decide +kernel)
                              · have hf := iff_ w15 hf
                                by_cases w16 : v0 = 119
                                · have hf := ift w16 hf
                                  refine aw_tin C (tgt := 96) (off := 95) (dflt := 106) (lo := 104) (hi := 122) (offs := #[97, 106, 106, 106, 99, 106, 101, 106, 106, 106, 106, 106, 106, 106, 106, 95, 91, 93, 103]) (len := 91) (by decide +kernel) (by rw [w16]; decide) (by rw [w16]; decide) (by rw [w16]; decide) (by decide) ?_
                                  refine aw_iconst C (i0 := 2) (v := 2) (by decide) (by decide +kernel) rfl ?_
                                  exact aw_iretq C CR0 hgr hgs hf (by decide +kernel)
                                · have hf := iff_ w16 hf
                                  by_cases w17 : v0 = 120
                                  · have hf := ift w17 hf
                                    refine aw_tin C (tgt := 92) (off := 91) (dflt := 106) (lo := 104) (hi := 122) (offs := #[97, 106, 106, 106, 99, 106, 101, 106, 106, 106, 106, 106, 106, 106, 106, 95, 91, 93, 103]) (len := 91) (by decide +kernel) (by rw [w17]; decide) (by rw [w17]; decide) (by rw [w17]; decide) (by decide) ?_
                                    refine aw_iconst C (i0 := 0) (v := 0) (by decide) (by decide +kernel) rfl ?_
                                    exact aw_iretq C CR0 hgr hgs hf (by decide +kernel)
                                  · have hf := iff_ w17 hf
                                    by_cases w18 : v0 = 121
                                    · have hf := ift w18 hf
                                      refine aw_tin C (tgt := 94) (off := 93) (dflt := 106) (lo := 104) (hi := 122) (offs := #[97, 106, 106, 106, 99, 106, 101, 106, 106, 106, 106, 106, 106, 106, 106, 95, 91, 93, 103]) (len := 91) (by decide +kernel) (by rw [w18]; decide) (by rw [w18]; decide) (by rw [w18]; decide) (by decide) ?_
                                      refine aw_iconst C (i0 := 1) (v := 1) (by decide) (by decide +kernel) rfl ?_
                                      exact aw_iretq C CR0 hgr hgs hf (by decide +kernel)
                                    · have hf := iff_ w18 hf
                                      by_cases w19 : v0 = 122
                                      · have hf := ift w19 hf
                                        refine aw_tin C (tgt := 104) (off := 103) (dflt := 106) (lo := 104) (hi := 122) (offs := #[97, 106, 106, 106, 99, 106, 101, 106, 106, 106, 106, 106, 106, 106, 106, 95, 91, 93, 103]) (len := 91) (by decide +kernel) (by rw [w19]; decide) (by rw [w19]; decide) (by rw [w19]; decide) (by decide) ?_
                                        refine aw_bipush C (i0 := 6) (v := 6) (by decide) (by decide +kernel) rfl ?_
                                        exact aw_iretq C CR0 hgr hgs hf (by decide +kernel)
                                      · have hf := iff_ w19 hf
                                        have zw1 := am_ne w1 (k := 104) (by decide)
                                        have zw2 := am_ne w2 (k := 105) (by decide)
                                        have zw3 := am_ne w3 (k := 106) (by decide)
                                        have zw4 := am_ne w4 (k := 107) (by decide)
                                        have zw5 := am_ne w5 (k := 108) (by decide)
                                        have zw6 := am_ne w6 (k := 109) (by decide)
                                        have zw7 := am_ne w7 (k := 110) (by decide)
                                        have zw8 := am_ne w8 (k := 111) (by decide)
                                        have zw9 := am_ne w9 (k := 112) (by decide)
                                        have zw10 := am_ne w10 (k := 113) (by decide)
                                        have zw11 := am_ne w11 (k := 114) (by decide)
                                        have zw12 := am_ne w12 (k := 115) (by decide)
                                        have zw13 := am_ne w13 (k := 116) (by decide)
                                        have zw14 := am_ne w14 (k := 117) (by decide)
                                        have zw15 := am_ne w15 (k := 118) (by decide)
                                        have zw16 := am_ne w16 (k := 119) (by decide)
                                        have zw17 := am_ne w17 (k := 120) (by decide)
                                        have zw18 := am_ne w18 (k := 121) (by decide)
                                        have zw19 := am_ne w19 (k := 122) (by decide)
                                        refine aw_tout C (tgt := 107) (dflt := 106) (lo := 104) (hi := 122) (offs := #[97, 106, 106, 106, 99, 106, 101, 106, 106, 106, 106, 106, 106, 106, 106, 95, 91, 93, 103]) (len := 91) (by decide +kernel) (by omega) (by decide) ?_
                                        refine aw_iconst C (i0 := -1) (v := -1) (by decide) (by decide +kernel) rfl ?_
                                        exact aw_iretq C CR0 hgr hgs hf (by decide +kernel)
theorem c_m_factOf {lay : Ly} (E : LAin lay) (v0 : Int32) (st : Mm) (q : Int32 × Mm) (hf : f_m_factOf v0 st = some q) : Con 0 Y172 prog_14_method_27_code 1 (Option.some FieldType.int) lay (fun ad => [.int v0]) st (some (.int q.1)) q.2 :=
  am_met yf_172.2.2.2.2.2 (fun ad => Nat.le_of_ble_eq_true rfl) (fun G C CR0 e1 e2 e3 e4 e5 => t_m_factOf C CR0 (by rw [e1]; exact E) e2 (Nat.le_of_eq e5.symm) e3 e4 v0 st hf)
def f_m_isDigit (st : Mm) : Option (Int32 × Mm) :=
  (f_m_here st).bind (fun q1 => if q1.1 < (48 : Int32) then (some ((0 : Int32), q1.2)) else ((f_m_here q1.2).bind (fun q3 => if (57 : Int32) < q3.1 then (some ((0 : Int32), q3.2)) else (some ((1 : Int32), q3.2)))))
theorem t_m_isDigit {G : Cx} (C : CX G prog_14_method_20_code "PaperStarsModel") (CR0 : CR G (Option.some FieldType.boolean)) (E : LAin (gly G)) (hnL : gnL G = 1) (hgd : 1 ≤ gd G) {q : Int32 × Mm} (hgr : gr G = some (.int q.1)) (hgs : gsf G = q.2) (st : Mm) (hf : f_m_isDigit st = some q) : AW G st 0 [(0, .ref (gad G 58))] [] := by
  unfold f_m_isDigit at hf
  refine aw_aload_n C 0 0 (j := 0) rfl rfl (by decide +kernel) rfl ?_
  obtain ⟨q1, hq1, hf⟩ := ibd hf
  refine aw_callV C (rest := []) (c_m_here E _ q1 hq1) tb_1171 yf_149 yi_149 (la_58 E) [] rfl rfl _ rfl (Nat.le_trans (by decide) hgd) (Nat.le_of_ble_eq_true rfl) (by decide +kernel) rfl ?_
  show AW _ _ _ _ [.int q1.1]
  refine aw_bipush C (i0 := 48) (v := 48) (by decide) (by decide +kernel) rfl ?_
  refine aw_icmp_lt C (tgt := 22) (off := 16) (by decide +kernel) (by decide) rfl (fun c2 => ?_) (fun c2 => ?_)
  · have hf := ift c2 hf
    refine aw_iconst C (i0 := 0) (v := 0) (by decide) (by decide +kernel) rfl ?_
    exact aw_zretq C CR0 hgr hgs (by decide) hf (by decide +kernel)
  · have hf := iff_ c2 hf
    refine aw_aload_n C 0 0 (j := 0) rfl rfl (by decide +kernel) rfl ?_
    obtain ⟨q3, hq3, hf⟩ := ibd hf
    refine aw_callV C (rest := []) (c_m_here E _ q3 hq3) tb_1171 yf_149 yi_149 (la_58 E) [] rfl rfl _ rfl (Nat.le_trans (by decide) hgd) (Nat.le_of_ble_eq_true rfl) (by decide +kernel) rfl ?_
    show AW _ _ _ _ [.int q3.1]
    refine aw_bipush C (i0 := 57) (v := 57) (by decide) (by decide +kernel) rfl ?_
    refine aw_icmp_gt C (tgt := 22) (off := 7) (by decide +kernel) (by decide) rfl (fun c4 => ?_) (fun c4 => ?_)
    · have hf := ift c4 hf
      refine aw_iconst C (i0 := 0) (v := 0) (by decide) (by decide +kernel) rfl ?_
      exact aw_zretq C CR0 hgr hgs (by decide) hf (by decide +kernel)
    · have hf := iff_ c4 hf
      refine aw_iconst C (i0 := 1) (v := 1) (by decide) (by decide +kernel) rfl ?_
      refine aw_goto C (tgt := 23) (off := 4) (by decide +kernel) (by decide) ?_
      exact aw_zretq C CR0 hgr hgs (by decide) hf (by decide +kernel)
theorem c_m_isDigit {lay : Ly} (E : LAin lay) (st : Mm) (q : Int32 × Mm) (hf : f_m_isDigit st = some q) : Con 1 Y160 prog_14_method_20_code 1 (Option.some FieldType.boolean) lay (fun ad => [.ref (ad 58)]) st (some (.int q.1)) q.2 :=
  am_met yf_160.2.2.2.2.2 (fun ad => Nat.le_of_ble_eq_true rfl) (fun G C CR0 e1 e2 e3 e4 e5 => t_m_isDigit C CR0 (by rw [e1]; exact E) e2 (Nat.le_of_eq e5.symm) e3 e4 st hf)
def b_m_readsNumber_27 (st : Mm) : Option (Int32 × Mm) :=
  (f_m_wrongAt (2 : Int32) (st.1 58 20) st).bind (fun q1 => if q1.1 = 0 ∨ q1.1 = 1 then some (q1.1, q1.2) else none)
def b_m_readsNumber_10 (k10 : Int32 → Mm → Option (Int32 × Mm)) (v1 : Int32) (st : Mm) : Option (Int32 × Mm) :=
  (f_m_isDigit st).bind (fun q1 => if q1.1 = 0 then (some ((1 : Int32), q1.2)) else (if (q1.2.1 58 20) = (v1 + (5 : Int32)) then (b_m_readsNumber_27 q1.2) else ((f_m_here q1.2).bind (fun q4 => lt_ ((((10 : Int32) * (q1.2.1 58 26)) + q4.1) - (48 : Int32)) (fun a5 => lt_ (((sI q4.2 58 26 a5).1 58 20) + (1 : Int32)) (fun a6 => k10 v1 (sI (sI q4.2 58 26 a5) 58 20 a6)))))))
def f_m_readsNumber_10 : Nat → Int32 → Mm → Option (Int32 × Mm)
  | 0 => fun _ _ => none
  | n + 1 => b_m_readsNumber_10 (f_m_readsNumber_10 n)
def f_m_readsNumber (st : Mm) : Option (Int32 × Mm) :=
  lt_ (st.1 58 20) (fun a1 => f_m_readsNumber_10 1000000 a1 (sI st 58 26 (0 : Int32)))
theorem t_m_readsNumber_27 {G : Cx} (C : CX G prog_14_method_23_code "PaperStarsModel") (CR0 : CR G (Option.some FieldType.boolean)) (E : LAin (gly G)) (hnL : gnL G = 2) (hgd : 2 ≤ gd G) {q : Int32 × Mm} (hgr : gr G = some (.int q.1)) (hgs : gsf G = q.2) (st : Mm) (hf : b_m_readsNumber_27 st = some q) : AW G st 27 [(0, .ref (gad G 58))] [] := by
  unfold b_m_readsNumber_27 at hf
  refine aw_aload_n C 0 0 (j := 0) rfl rfl (by decide +kernel) rfl ?_
  refine aw_iconst C (i0 := 2) (v := 2) (by decide) (by decide +kernel) rfl ?_
  refine aw_aload_n C 0 0 (j := 0) rfl rfl (by decide +kernel) rfl ?_
  refine aw_get C (k := 20) fc_12 (la_58 E) rfl (by decide) tb_962 (by decide +kernel) rfl ?_
  obtain ⟨q1, hq1, hf⟩ := ibd hf
  refine aw_callV C (rest := []) (c_m_wrongAt E (2 : Int32) (st.1 58 20) _ q1 hq1) tb_1179 yf_151 yi_151 (la_58 E) [.int (2 : Int32), .int (st.1 58 20)] rfl rfl _ rfl (Nat.le_trans (by decide) hgd) (Nat.le_of_ble_eq_true rfl) (by decide +kernel) rfl ?_
  show AW _ _ _ _ [.int q1.1]
  obtain ⟨g2, hf⟩ := igd hf
  exact aw_zretq C CR0 hgr hgs g2 hf (by decide +kernel)
theorem t_m_readsNumber_10 {G : Cx} (C : CX G prog_14_method_23_code "PaperStarsModel") (CR0 : CR G (Option.some FieldType.boolean)) (E : LAin (gly G)) (hnL : gnL G = 2) (hgd : 2 ≤ gd G) {q : Int32 × Mm} (hgr : gr G = some (.int q.1)) (hgs : gsf G = q.2) (k10 : Int32 → Mm → Option (Int32 × Mm)) (hk10 : ∀ (v1 : Int32) (st : Mm), k10 v1 st = some q → AW G st 10 [(0, .ref (gad G 58)), (1, .int v1)] []) (v1 : Int32) (st : Mm) (hf : b_m_readsNumber_10 k10 v1 st = some q) : AW G st 10 [(0, .ref (gad G 58)), (1, .int v1)] [] := by
  unfold b_m_readsNumber_10 at hf
  refine aw_aload_n C 0 0 (j := 0) rfl rfl (by decide +kernel) rfl ?_
  obtain ⟨q1, hq1, hf⟩ := ibd hf
  refine aw_callV C (rest := []) (c_m_isDigit E _ q1 hq1) tb_1214 yf_160 yi_160 (la_58 E) [] rfl rfl _ rfl (Nat.le_trans (by decide) hgd) (Nat.le_of_ble_eq_true rfl) (by decide +kernel) rfl ?_
  show AW _ _ _ _ [.int q1.1]
  refine aw_if_eq C (tgt := 69) (off := 55) (by decide +kernel) (by decide) rfl (fun c2 => ?_) (fun c2 => ?_)
  · have hf := ift c2 hf
    refine aw_iconst C (i0 := 1) (v := 1) (by decide) (by decide +kernel) rfl ?_
    exact aw_zretq C CR0 hgr hgs (by decide) hf (by decide +kernel)
  · have hf := iff_ c2 hf
    refine aw_aload_n C 0 0 (j := 0) rfl rfl (by decide +kernel) rfl ?_
    refine aw_get C (k := 20) fc_12 (la_58 E) rfl (by decide) tb_962 (by decide +kernel) rfl ?_
    refine aw_iload_n C 1 1 (j := 1) rfl rfl (by decide +kernel) rfl ?_
    refine aw_iconst C (i0 := 5) (v := 5) (by decide) (by decide +kernel) rfl ?_
    refine aw_iadd C (by decide +kernel) rfl ?_
    refine aw_icmp_ne C (tgt := 37) (off := 13) (by decide +kernel) (by decide) rfl (fun c3 => ?_) (fun c3 => ?_)
    · have hf := ift c3 hf
      refine aw_sub [(0, .ref (gad G 58))] [0] rfl ?_
      exact t_m_readsNumber_27 C CR0 E hnL hgd hgr hgs _ hf
    · have hf := iff_ c3 hf
      refine aw_aload_n C 0 0 (j := 0) rfl rfl (by decide +kernel) rfl ?_
      refine aw_bipush C (i0 := 10) (v := 10) (by decide) (by decide +kernel) rfl ?_
      refine aw_aload_n C 0 0 (j := 0) rfl rfl (by decide +kernel) rfl ?_
      refine aw_get C (k := 26) fc_12 (la_58 E) rfl (by decide) tb_968 (by decide +kernel) rfl ?_
      refine aw_imul C (by decide +kernel) rfl ?_
      refine aw_aload_n C 0 0 (j := 0) rfl rfl (by decide +kernel) rfl ?_
      obtain ⟨q4, hq4, hf⟩ := ibd hf
      refine aw_callV C (rest := [.int ((10 : Int32) * (q1.2.1 58 26)), .ref (gad G 58)]) (c_m_here E _ q4 hq4) tb_1171 yf_149 yi_149 (la_58 E) [] rfl rfl _ rfl (Nat.le_trans (by decide) hgd) (Nat.le_of_ble_eq_true rfl) (by decide +kernel) rfl ?_
      show AW _ _ _ _ [.int q4.1, .int ((10 : Int32) * (q1.2.1 58 26)), .ref (gad G 58)]
      refine aw_iadd C (by decide +kernel) rfl ?_
      refine aw_bipush C (i0 := 48) (v := 48) (by decide) (by decide +kernel) rfl ?_
      refine aw_isub C (by decide +kernel) rfl ?_
      obtain ⟨a5, ha5⟩ : ∃ z, z = ((((10 : Int32) * (q1.2.1 58 26)) + q4.1) - (48 : Int32)) := ⟨_, rfl⟩
      refine aw_nmi ha5 ?_
      have hf := ilt ha5 hf
      refine aw_put C (k := 26) fc_12 (la_58 E) rfl (by decide) rfl rfl tb_968 (by decide +kernel) rfl ?_
      refine aw_aload_n C 0 0 (j := 0) rfl rfl (by decide +kernel) rfl ?_
      refine aw_aload_n C 0 0 (j := 0) rfl rfl (by decide +kernel) rfl ?_
      refine aw_get C (k := 20) fc_12 (la_58 E) rfl (by decide) tb_962 (by decide +kernel) rfl ?_
      refine aw_iconst C (i0 := 1) (v := 1) (by decide) (by decide +kernel) rfl ?_
      refine aw_iadd C (by decide +kernel) rfl ?_
      obtain ⟨a6, ha6⟩ : ∃ z, z = (((sI q4.2 58 26 a5).1 58 20) + (1 : Int32)) := ⟨_, rfl⟩
      refine aw_nmi ha6 ?_
      have hf := ilt ha6 hf
      refine aw_put C (k := 20) fc_12 (la_58 E) rfl (by decide) rfl rfl tb_962 (by decide +kernel) rfl ?_
      refine aw_goto C (tgt := 10) (off := -56) (by decide +kernel) (by decide) ?_
      exact hk10 v1 _ hf
theorem u_m_readsNumber_10 {G : Cx} (C : CX G prog_14_method_23_code "PaperStarsModel") (CR0 : CR G (Option.some FieldType.boolean)) (E : LAin (gly G)) (hnL : gnL G = 2) (hgd : 2 ≤ gd G) {q : Int32 × Mm} (hgr : gr G = some (.int q.1)) (hgs : gsf G = q.2) : ∀ (n : Nat) (v1 : Int32) (st : Mm), f_m_readsNumber_10 n v1 st = some q → AW G st 10 [(0, .ref (gad G 58)), (1, .int v1)] [] := by
  intro n
  induction n with
  | zero => intro v1 st hf; cases hf
  | succ n ih => intro v1 st hf; exact t_m_readsNumber_10 C CR0 E hnL hgd hgr hgs (f_m_readsNumber_10 n) ih v1 st hf
theorem t_m_readsNumber {G : Cx} (C : CX G prog_14_method_23_code "PaperStarsModel") (CR0 : CR G (Option.some FieldType.boolean)) (E : LAin (gly G)) (hnL : gnL G = 2) (hgd : 2 ≤ gd G) {q : Int32 × Mm} (hgr : gr G = some (.int q.1)) (hgs : gsf G = q.2) (st : Mm) (hf : f_m_readsNumber st = some q) : AW G st 0 [(0, .ref (gad G 58))] [] := by
  unfold f_m_readsNumber at hf
  refine aw_aload_n C 0 0 (j := 0) rfl rfl (by decide +kernel) rfl ?_
  refine aw_get C (k := 20) fc_12 (la_58 E) rfl (by decide) tb_962 (by decide +kernel) rfl ?_
  obtain ⟨a1, ha1⟩ : ∃ z, z = (st.1 58 20) := ⟨_, rfl⟩
  refine aw_nmi ha1 ?_
  have hf := ilt ha1 hf
  refine aw_istore_n C [(1, .int a1), (0, .ref (gad G 58))] (j := 1) rfl (by rw [hnL]; decide) rfl (by decide +kernel) rfl ?_
  refine aw_aload_n C 0 1 (j := 0) rfl rfl (by decide +kernel) rfl ?_
  refine aw_iconst C (i0 := 0) (v := 0) (by decide) (by decide +kernel) rfl ?_
  refine aw_put C (k := 26) fc_12 (la_58 E) rfl (by decide) rfl rfl tb_968 (by decide +kernel) rfl ?_
  refine aw_sub [(0, .ref (gad G 58)), (1, .int a1)] [1, 0] rfl ?_
  exact u_m_readsNumber_10 C CR0 E hnL hgd hgr hgs _ a1 _ hf
theorem c_m_readsNumber {lay : Ly} (E : LAin lay) (st : Mm) (q : Int32 × Mm) (hf : f_m_readsNumber st = some q) : Con 2 Y170 prog_14_method_23_code 2 (Option.some FieldType.boolean) lay (fun ad => [.ref (ad 58)]) st (some (.int q.1)) q.2 :=
  am_met yf_170.2.2.2.2.2 (fun ad => Nat.le_of_ble_eq_true rfl) (fun G C CR0 e1 e2 e3 e4 e5 => t_m_readsNumber C CR0 (by rw [e1]; exact E) e2 (Nat.le_of_eq e5.symm) e3 e4 st hf)
def b_m_readsFactor_20 (st : Mm) : Option (Int32 × Mm) :=
  (f_m_isDigit st).bind (fun q1 => if q1.1 = 0 then ((f_m_here q1.2).bind (fun q3 => (f_m_factOf q3.1 q3.2).bind (fun q4 => if q4.1 = (-1 : Int32) then ((f_m_wrongAt (1 : Int32) (q4.2.1 58 20) q4.2).bind (fun q6 => if q6.1 = 0 ∨ q6.1 = 1 then some (q6.1, q6.2) else none)) else ((f_m_notes (1 : Int32) q4.1 q4.2).bind (fun q8 => lt_ ((q8.2.1 58 20) + (1 : Int32)) (fun a9 => some ((1 : Int32), (sI q8.2 58 20 a9)))))))) else ((f_m_readsNumber q1.2).bind (fun q10 => if q10.1 = 0 then (some ((0 : Int32), q10.2)) else ((f_m_notes (0 : Int32) (q10.2.1 58 26) q10.2).bind (fun q12 => some ((1 : Int32), q12.2))))))
def b_m_readsFactor_0 (k0 : Mm → Option (Int32 × Mm)) (st : Mm) : Option (Int32 × Mm) :=
  (f_m_here st).bind (fun q1 => if q1.1 = (91 : Int32) then ((f_m_opens (14 : Int32) q1.2).bind (fun q3 => if q3.1 = 0 then (some ((0 : Int32), q3.2)) else (k0 q3.2))) else (b_m_readsFactor_20 q1.2))
def f_m_readsFactor_0 : Nat → Mm → Option (Int32 × Mm)
  | 0 => fun  _ => none
  | n + 1 => b_m_readsFactor_0 (f_m_readsFactor_0 n)
def f_m_readsFactor (st : Mm) : Option (Int32 × Mm) :=
  f_m_readsFactor_0 1000000 st
theorem t_m_readsFactor_20 {G : Cx} (C : CX G prog_14_method_30_code "PaperStarsModel") (CR0 : CR G (Option.some FieldType.boolean)) (E : LAin (gly G)) (hnL : gnL G = 2) (hgd : 3 ≤ gd G) {q : Int32 × Mm} (hgr : gr G = some (.int q.1)) (hgs : gsf G = q.2) (st : Mm) (hf : b_m_readsFactor_20 st = some q) : AW G st 20 [(0, .ref (gad G 58))] [] := by
  unfold b_m_readsFactor_20 at hf
  refine aw_aload_n C 0 0 (j := 0) rfl rfl (by decide +kernel) rfl ?_
  obtain ⟨q1, hq1, hf⟩ := ibd hf
  refine aw_callV C (rest := []) (c_m_isDigit E _ q1 hq1) tb_1214 yf_160 yi_160 (la_58 E) [] rfl rfl _ rfl (Nat.le_trans (by decide) hgd) (Nat.le_of_ble_eq_true rfl) (by decide +kernel) rfl ?_
  show AW _ _ _ _ [.int q1.1]
  refine aw_if_eq C (tgt := 47) (off := 23) (by decide +kernel) (by decide) rfl (fun c2 => ?_) (fun c2 => ?_)
  · have hf := ift c2 hf
    refine aw_aload_n C 0 0 (j := 0) rfl rfl (by decide +kernel) rfl ?_
    obtain ⟨q3, hq3, hf⟩ := ibd hf
    refine aw_callV C (rest := []) (c_m_here E _ q3 hq3) tb_1171 yf_149 yi_149 (la_58 E) [] rfl rfl _ rfl (Nat.le_trans (by decide) hgd) (Nat.le_of_ble_eq_true rfl) (by decide +kernel) rfl ?_
    show AW _ _ _ _ [.int q3.1]
    obtain ⟨q4, hq4, hf⟩ := ibd hf
    refine aw_callS C (rest := []) (c_m_factOf E q3.1 _ q4 hq4) tb_1263 yf_172 tb_1264 rfl _ rfl (Nat.le_trans (by decide) hgd) (Nat.le_of_ble_eq_true rfl) (by decide +kernel) rfl ?_
    show AW _ _ _ _ [.int q4.1]
    refine aw_istore_n C [(1, .int q4.1), (0, .ref (gad G 58))] (j := 1) rfl (by rw [hnL]; decide) rfl (by decide +kernel) rfl ?_
    refine aw_iload_n C 1 0 (j := 1) rfl rfl (by decide +kernel) rfl ?_
    refine aw_iconst C (i0 := -1) (v := -1) (by decide) (by decide +kernel) rfl ?_
    refine aw_icmp_ne C (tgt := 70) (off := 13) (by decide +kernel) (by decide) rfl (fun c5 => ?_) (fun c5 => ?_)
    · have hf := ift c5 hf
      refine aw_aload_n C 0 1 (j := 0) rfl rfl (by decide +kernel) rfl ?_
      refine aw_iconst C (i0 := 1) (v := 1) (by decide) (by decide +kernel) rfl ?_
      refine aw_aload_n C 0 1 (j := 0) rfl rfl (by decide +kernel) rfl ?_
      refine aw_get C (k := 20) fc_12 (la_58 E) rfl (by decide) tb_962 (by decide +kernel) rfl ?_
      obtain ⟨q6, hq6, hf⟩ := ibd hf
      refine aw_callV C (rest := []) (c_m_wrongAt E (1 : Int32) (q4.2.1 58 20) _ q6 hq6) tb_1179 yf_151 yi_151 (la_58 E) [.int (1 : Int32), .int (q4.2.1 58 20)] rfl rfl _ rfl (Nat.le_trans (by decide) hgd) (Nat.le_of_ble_eq_true rfl) (by decide +kernel) rfl ?_
      show AW _ _ _ _ [.int q6.1]
      obtain ⟨g7, hf⟩ := igd hf
      exact aw_zretq C CR0 hgr hgs g7 hf (by decide +kernel)
    · have hf := iff_ c5 hf
      refine aw_aload_n C 0 1 (j := 0) rfl rfl (by decide +kernel) rfl ?_
      refine aw_iconst C (i0 := 1) (v := 1) (by decide) (by decide +kernel) rfl ?_
      refine aw_iload_n C 1 0 (j := 1) rfl rfl (by decide +kernel) rfl ?_
      obtain ⟨q8, hq8, hf⟩ := ibd hf
      refine aw_callV C (rest := []) (c_m_notes E (1 : Int32) q4.1 _ q8 hq8) tb_1259 yf_171 yi_171 (la_58 E) [.int (1 : Int32), .int q4.1] rfl rfl _ rfl (Nat.le_trans (by decide) hgd) (Nat.le_of_ble_eq_true rfl) (by decide +kernel) rfl ?_
      show AW _ _ _ _ []
      refine aw_aload_n C 0 1 (j := 0) rfl rfl (by decide +kernel) rfl ?_
      refine aw_aload_n C 0 1 (j := 0) rfl rfl (by decide +kernel) rfl ?_
      refine aw_get C (k := 20) fc_12 (la_58 E) rfl (by decide) tb_962 (by decide +kernel) rfl ?_
      refine aw_iconst C (i0 := 1) (v := 1) (by decide) (by decide +kernel) rfl ?_
      refine aw_iadd C (by decide +kernel) rfl ?_
      obtain ⟨a9, ha9⟩ : ∃ z, z = ((q8.2.1 58 20) + (1 : Int32)) := ⟨_, rfl⟩
      refine aw_nmi ha9 ?_
      have hf := ilt ha9 hf
      refine aw_put C (k := 20) fc_12 (la_58 E) rfl (by decide) rfl rfl tb_962 (by decide +kernel) rfl ?_
      refine aw_iconst C (i0 := 1) (v := 1) (by decide) (by decide +kernel) rfl ?_
      exact aw_zretq C CR0 hgr hgs (by decide) hf (by decide +kernel)
  · have hf := iff_ c2 hf
    refine aw_aload_n C 0 0 (j := 0) rfl rfl (by decide +kernel) rfl ?_
    obtain ⟨q10, hq10, hf⟩ := ibd hf
    refine aw_callV C (rest := []) (c_m_readsNumber E _ q10 hq10) tb_1255 yf_170 yi_170 (la_58 E) [] rfl rfl _ rfl (Nat.le_trans (by decide) hgd) (Nat.le_of_ble_eq_true rfl) (by decide +kernel) rfl ?_
    show AW _ _ _ _ [.int q10.1]
    refine aw_if_ne C (tgt := 36) (off := 5) (by decide +kernel) (by decide) rfl (fun c11 => ?_) (fun c11 => ?_)
    · have hf := ift c11 hf
      refine aw_iconst C (i0 := 0) (v := 0) (by decide) (by decide +kernel) rfl ?_
      exact aw_zretq C CR0 hgr hgs (by decide) hf (by decide +kernel)
    · have hf := iff_ c11 hf
      refine aw_aload_n C 0 0 (j := 0) rfl rfl (by decide +kernel) rfl ?_
      refine aw_iconst C (i0 := 0) (v := 0) (by decide) (by decide +kernel) rfl ?_
      refine aw_aload_n C 0 0 (j := 0) rfl rfl (by decide +kernel) rfl ?_
      refine aw_get C (k := 26) fc_12 (la_58 E) rfl (by decide) tb_968 (by decide +kernel) rfl ?_
      obtain ⟨q12, hq12, hf⟩ := ibd hf
      refine aw_callV C (rest := []) (c_m_notes E (0 : Int32) (q10.2.1 58 26) _ q12 hq12) tb_1259 yf_171 yi_171 (la_58 E) [.int (0 : Int32), .int (q10.2.1 58 26)] rfl rfl _ rfl (Nat.le_trans (by decide) hgd) (Nat.le_of_ble_eq_true rfl) (by decide +kernel) rfl ?_
      show AW _ _ _ _ []
      refine aw_iconst C (i0 := 1) (v := 1) (by decide) (by decide +kernel) rfl ?_
      exact aw_zretq C CR0 hgr hgs (by decide) hf (by decide +kernel)
theorem t_m_readsFactor_0 {G : Cx} (C : CX G prog_14_method_30_code "PaperStarsModel") (CR0 : CR G (Option.some FieldType.boolean)) (E : LAin (gly G)) (hnL : gnL G = 2) (hgd : 3 ≤ gd G) {q : Int32 × Mm} (hgr : gr G = some (.int q.1)) (hgs : gsf G = q.2) (k0 : Mm → Option (Int32 × Mm)) (hk0 : ∀ (st : Mm), k0 st = some q → AW G st 0 [(0, .ref (gad G 58))] []) (st : Mm) (hf : b_m_readsFactor_0 k0 st = some q) : AW G st 0 [(0, .ref (gad G 58))] [] := by
  unfold b_m_readsFactor_0 at hf
  refine aw_aload_n C 0 0 (j := 0) rfl rfl (by decide +kernel) rfl ?_
  obtain ⟨q1, hq1, hf⟩ := ibd hf
  refine aw_callV C (rest := []) (c_m_here E _ q1 hq1) tb_1171 yf_149 yi_149 (la_58 E) [] rfl rfl _ rfl (Nat.le_trans (by decide) hgd) (Nat.le_of_ble_eq_true rfl) (by decide +kernel) rfl ?_
  show AW _ _ _ _ [.int q1.1]
  refine aw_bipush C (i0 := 91) (v := 91) (by decide) (by decide +kernel) rfl ?_
  refine aw_icmp_ne C (tgt := 20) (off := 14) (by decide +kernel) (by decide) rfl (fun c2 => ?_) (fun c2 => ?_)
  · have hf := ift c2 hf
    refine aw_aload_n C 0 0 (j := 0) rfl rfl (by decide +kernel) rfl ?_
    refine aw_bipush C (i0 := 14) (v := 14) (by decide) (by decide +kernel) rfl ?_
    obtain ⟨q3, hq3, hf⟩ := ibd hf
    refine aw_callV C (rest := []) (c_m_opens E (14 : Int32) _ q3 hq3) tb_1238 yf_166 yi_166 (la_58 E) [.int (14 : Int32)] rfl rfl _ rfl (Nat.le_trans (by decide) hgd) (Nat.le_of_ble_eq_true rfl) (by decide +kernel) rfl ?_
    show AW _ _ _ _ [.int q3.1]
    refine aw_if_ne C (tgt := 0) (off := -15) (by decide +kernel) (by decide) rfl (fun c4 => ?_) (fun c4 => ?_)
    · have hf := ift c4 hf
      refine aw_iconst C (i0 := 0) (v := 0) (by decide) (by decide +kernel) rfl ?_
      exact aw_zretq C CR0 hgr hgs (by decide) hf (by decide +kernel)
    · have hf := iff_ c4 hf
      exact hk0 _ hf
  · have hf := iff_ c2 hf
    exact t_m_readsFactor_20 C CR0 E hnL hgd hgr hgs _ hf
theorem u_m_readsFactor_0 {G : Cx} (C : CX G prog_14_method_30_code "PaperStarsModel") (CR0 : CR G (Option.some FieldType.boolean)) (E : LAin (gly G)) (hnL : gnL G = 2) (hgd : 3 ≤ gd G) {q : Int32 × Mm} (hgr : gr G = some (.int q.1)) (hgs : gsf G = q.2) : ∀ (n : Nat) (st : Mm), f_m_readsFactor_0 n st = some q → AW G st 0 [(0, .ref (gad G 58))] [] := by
  intro n
  induction n with
  | zero => intro st hf; cases hf
  | succ n ih => intro st hf; exact t_m_readsFactor_0 C CR0 E hnL hgd hgr hgs (f_m_readsFactor_0 n) ih st hf
theorem t_m_readsFactor {G : Cx} (C : CX G prog_14_method_30_code "PaperStarsModel") (CR0 : CR G (Option.some FieldType.boolean)) (E : LAin (gly G)) (hnL : gnL G = 2) (hgd : 3 ≤ gd G) {q : Int32 × Mm} (hgr : gr G = some (.int q.1)) (hgs : gsf G = q.2) (st : Mm) (hf : f_m_readsFactor st = some q) : AW G st 0 [(0, .ref (gad G 58))] [] := by
  unfold f_m_readsFactor at hf
  exact u_m_readsFactor_0 C CR0 E hnL hgd hgr hgs _ _ hf
theorem c_m_readsFactor {lay : Ly} (E : LAin lay) (st : Mm) (q : Int32 × Mm) (hf : f_m_readsFactor st = some q) : Con 3 Y169 prog_14_method_30_code 2 (Option.some FieldType.boolean) lay (fun ad => [.ref (ad 58)]) st (some (.int q.1)) q.2 :=
  am_met yf_169.2.2.2.2.2 (fun ad => Nat.le_of_ble_eq_true rfl) (fun G C CR0 e1 e2 e3 e4 e5 => t_m_readsFactor C CR0 (by rw [e1]; exact E) e2 (Nat.le_of_eq e5.symm) e3 e4 st hf)
def f_m_sumSign (v0 : Int32) (st : Mm) : Option (Int32 × Mm) :=
  if v0 = (43 : Int32) then (some ((2 : Int32), st)) else (if v0 = (45 : Int32) then (some ((3 : Int32), st)) else (if v0 = (42 : Int32) then (some ((4 : Int32), st)) else (if v0 = (47 : Int32) then (some ((5 : Int32), st)) else (if v0 = (37 : Int32) then (some ((6 : Int32), st)) else (some ((-1 : Int32), st))))))
theorem t_m_sumSign {G : Cx} (C : CX G prog_14_method_28_code "PaperStarsModel") (CR0 : CR G (Option.some FieldType.int)) (E : LAin (gly G)) (hnL : gnL G = 1) (hgd : 0 ≤ gd G) {q : Int32 × Mm} (hgr : gr G = some (.int q.1)) (hgs : gsf G = q.2) (v0 : Int32) (st : Mm) (hf : f_m_sumSign v0 st = some q) : AW G st 0 [(0, .int v0)] [] := by
  unfold f_m_sumSign at hf
  refine aw_iload_n C 0 0 (j := 0) rfl rfl (by decide +kernel) rfl ?_
  refine aw_bipush C (i0 := 43) (v := 43) (by decide) (by decide +kernel) rfl ?_
  refine aw_icmp_ne C (tgt := 10) (off := 7) (by decide +kernel) (by decide) rfl (fun c1 => ?_) (fun c1 => ?_)
  · have hf := ift c1 hf
    refine aw_iconst C (i0 := 2) (v := 2) (by decide) (by decide +kernel) rfl ?_
    refine aw_goto C (tgt := 52) (off := 45) (by decide +kernel) (by decide) ?_
    exact aw_iretq C CR0 hgr hgs hf (by decide +kernel)
  · have hf := iff_ c1 hf
    refine aw_iload_n C 0 0 (j := 0) rfl rfl (by decide +kernel) rfl ?_
    refine aw_bipush C (i0 := 45) (v := 45) (by decide) (by decide +kernel) rfl ?_
    refine aw_icmp_ne C (tgt := 20) (off := 7) (by decide +kernel) (by decide) rfl (fun c2 => ?_) (fun c2 => ?_)
    · have hf := ift c2 hf
      refine aw_iconst C (i0 := 3) (v := 3) (by decide) (by decide +kernel) rfl ?_
      refine aw_goto C (tgt := 52) (off := 35) (by decide +kernel) (by decide) ?_
      exact aw_iretq C CR0 hgr hgs hf (by decide +kernel)
    · have hf := iff_ c2 hf
      refine aw_iload_n C 0 0 (j := 0) rfl rfl (by decide +kernel) rfl ?_
      refine aw_bipush C (i0 := 42) (v := 42) (by decide) (by decide +kernel) rfl ?_
      refine aw_icmp_ne C (tgt := 30) (off := 7) (by decide +kernel) (by decide) rfl (fun c3 => ?_) (fun c3 => ?_)
      · have hf := ift c3 hf
        refine aw_iconst C (i0 := 4) (v := 4) (by decide) (by decide +kernel) rfl ?_
        refine aw_goto C (tgt := 52) (off := 25) (by decide +kernel) (by decide) ?_
        exact aw_iretq C CR0 hgr hgs hf (by decide +kernel)
      · have hf := iff_ c3 hf
        refine aw_iload_n C 0 0 (j := 0) rfl rfl (by decide +kernel) rfl ?_
        refine aw_bipush C (i0 := 47) (v := 47) (by decide) (by decide +kernel) rfl ?_
        refine aw_icmp_ne C (tgt := 40) (off := 7) (by decide +kernel) (by decide) rfl (fun c4 => ?_) (fun c4 => ?_)
        · have hf := ift c4 hf
          refine aw_iconst C (i0 := 5) (v := 5) (by decide) (by decide +kernel) rfl ?_
          refine aw_goto C (tgt := 52) (off := 15) (by decide +kernel) (by decide) ?_
          exact aw_iretq C CR0 hgr hgs hf (by decide +kernel)
        · have hf := iff_ c4 hf
          refine aw_iload_n C 0 0 (j := 0) rfl rfl (by decide +kernel) rfl ?_
          refine aw_bipush C (i0 := 37) (v := 37) (by decide) (by decide +kernel) rfl ?_
          refine aw_icmp_ne C (tgt := 51) (off := 8) (by decide +kernel) (by decide) rfl (fun c5 => ?_) (fun c5 => ?_)
          · have hf := ift c5 hf
            refine aw_bipush C (i0 := 6) (v := 6) (by decide) (by decide +kernel) rfl ?_
            refine aw_goto C (tgt := 52) (off := 4) (by decide +kernel) (by decide) ?_
            exact aw_iretq C CR0 hgr hgs hf (by decide +kernel)
          · have hf := iff_ c5 hf
            refine aw_iconst C (i0 := -1) (v := -1) (by decide) (by decide +kernel) rfl ?_
            exact aw_iretq C CR0 hgr hgs hf (by decide +kernel)
theorem c_m_sumSign {lay : Ly} (E : LAin lay) (v0 : Int32) (st : Mm) (q : Int32 × Mm) (hf : f_m_sumSign v0 st = some q) : Con 0 Y173 prog_14_method_28_code 1 (Option.some FieldType.int) lay (fun ad => [.int v0]) st (some (.int q.1)) q.2 :=
  am_met yf_173.2.2.2.2.2 (fun ad => Nat.le_of_ble_eq_true rfl) (fun G C CR0 e1 e2 e3 e4 e5 => t_m_sumSign C CR0 (by rw [e1]; exact E) e2 (Nat.le_of_eq e5.symm) e3 e4 v0 st hf)
def b_m_readsSum_38 (k14 : Int32 → Mm → Option (Int32 × Mm)) (v1 : Int32) (v2 : Int32) (s1 : Int32) (st : Mm) : Option (Int32 × Mm) :=
  (f_m_closesSums s1 st).bind (fun q1 => lt_ ((1048576 : Int32) * v2) (fun a2 => if inb (q1.2.1 58 25) 180 then lt_ (((sI q1.2 67 (q1.2.1 58 25).toNatClampNeg a2).1 58 25) + (1 : Int32)) (fun a4 => lt_ (((sI (sI q1.2 67 (q1.2.1 58 25).toNatClampNeg a2) 58 25 a4).1 58 20) + (1 : Int32)) (fun a5 => (f_m_readsFactor (sI (sI (sI q1.2 67 (q1.2.1 58 25).toNatClampNeg a2) 58 25 a4) 58 20 a5)).bind (fun q6 => if q6.1 = 0 then (some ((0 : Int32), q6.2)) else (k14 v1 q6.2)))) else none))
def b_m_readsSum_138 (v1 : Int32) (st : Mm) : Option (Int32 × Mm) :=
  (f_m_hasOpenSum v1 st).bind (fun q1 => if q1.1 = 0 then ((f_m_closesSums (1 : Int32) q1.2).bind (fun q3 => some ((1 : Int32), q3.2))) else ((f_m_wrongAt (1 : Int32) (q1.2.1 58 20) q1.2).bind (fun q4 => if q4.1 = 0 ∨ q4.1 = 1 then some (q4.1, q4.2) else none)))
def b_m_readsSum_14 (k14 : Int32 → Mm → Option (Int32 × Mm)) (v1 : Int32) (st : Mm) : Option (Int32 × Mm) :=
  (f_m_here st).bind (fun q1 => (f_m_sumSign q1.1 q1.2).bind (fun q2 => if q2.1 = (-1 : Int32) then ((f_m_here q2.2).bind (fun q4 => if q4.1 = (93 : Int32) then ((f_m_hasOpenSum v1 q4.2).bind (fun q6 => if q6.1 = 0 then (b_m_readsSum_138 v1 q6.2) else ((f_m_closesSums (1 : Int32) q6.2).bind (fun q8 => lt_ ((q8.2.1 58 25) - (1 : Int32)) (fun a9 => lt_ (((sI q8.2 58 25 a9).1 58 23) - (1 : Int32)) (fun a10 => lt_ (((sI (sI q8.2 58 25 a9) 58 23 a10).1 58 20) + (1 : Int32)) (fun a11 => k14 v1 (sI (sI (sI q8.2 58 25 a9) 58 23 a10) 58 20 a11)))))))) else (b_m_readsSum_138 v1 q4.2))) else (if (4 : Int32) ≤ q2.1 then (b_m_readsSum_38 k14 v1 q2.1 (0 : Int32) q2.2) else (b_m_readsSum_38 k14 v1 q2.1 (1 : Int32) q2.2))))
def f_m_readsSum_14 : Nat → Int32 → Mm → Option (Int32 × Mm)
  | 0 => fun _ _ => none
  | n + 1 => b_m_readsSum_14 (f_m_readsSum_14 n)
def f_m_readsSum (st : Mm) : Option (Int32 × Mm) :=
  lt_ (st.1 58 25) (fun a1 => (f_m_readsFactor st).bind (fun q2 => if q2.1 = 0 then (some ((0 : Int32), q2.2)) else (f_m_readsSum_14 1000000 a1 q2.2)))
theorem t_m_readsSum_38 {G : Cx} (C : CX G prog_14_method_32_code "PaperStarsModel") (CR0 : CR G (Option.some FieldType.boolean)) (E : LAin (gly G)) (hnL : gnL G = 3) (hgd : 4 ≤ gd G) {q : Int32 × Mm} (hgr : gr G = some (.int q.1)) (hgs : gsf G = q.2) (k14 : Int32 → Mm → Option (Int32 × Mm)) (hk14 : ∀ (v1 : Int32) (st : Mm), k14 v1 st = some q → AW G st 14 [(0, .ref (gad G 58)), (1, .int v1)] []) (v1 : Int32) (v2 : Int32) (s1 : Int32) (st : Mm) (hf : b_m_readsSum_38 k14 v1 v2 s1 st = some q) : AW G st 38 [(0, .ref (gad G 58)), (1, .int v1), (2, .int v2)] [.int s1, .ref (gad G 58)] := by
  unfold b_m_readsSum_38 at hf
  obtain ⟨q1, hq1, hf⟩ := ibd hf
  refine aw_callV C (rest := []) (c_m_closesSums E s1 _ q1 hq1) tb_1269 yf_174 yi_174 (la_58 E) [.int s1] rfl rfl _ rfl (Nat.le_trans (by decide) hgd) (Nat.le_of_ble_eq_true rfl) (by decide +kernel) rfl ?_
  show AW _ _ _ _ []
  refine aw_aload_n C 0 0 (j := 0) rfl rfl (by decide +kernel) rfl ?_
  refine aw_getr C (k := 31) fc_12 (la_58 E) rfl (by decide) tb_973 (by decide +kernel) rfl ?_
  refine aw_aload_n C 0 0 (j := 0) rfl rfl (by decide +kernel) rfl ?_
  refine aw_get C (k := 25) fc_12 (la_58 E) rfl (by decide) tb_967 (by decide +kernel) rfl ?_
  refine aw_ldc C tb_1242 (by decide +kernel) rfl ?_
  refine aw_iload_n C 2 2 (j := 2) rfl rfl (by decide +kernel) rfl ?_
  refine aw_imul C (by decide +kernel) rfl ?_
  obtain ⟨a2, ha2⟩ : ∃ z, z = ((1048576 : Int32) * v2) := ⟨_, rfl⟩
  refine aw_nmi ha2 ?_
  have hf := ilt ha2 hf
  obtain ⟨g3, hf⟩ := igd hf
  refine aw_iast C (la_67 E) g3 (by decide +kernel) rfl ?_
  refine aw_aload_n C 0 0 (j := 0) rfl rfl (by decide +kernel) rfl ?_
  refine aw_aload_n C 0 0 (j := 0) rfl rfl (by decide +kernel) rfl ?_
  refine aw_get C (k := 25) fc_12 (la_58 E) rfl (by decide) tb_967 (by decide +kernel) rfl ?_
  refine aw_iconst C (i0 := 1) (v := 1) (by decide) (by decide +kernel) rfl ?_
  refine aw_iadd C (by decide +kernel) rfl ?_
  obtain ⟨a4, ha4⟩ : ∃ z, z = (((sI q1.2 67 (q1.2.1 58 25).toNatClampNeg a2).1 58 25) + (1 : Int32)) := ⟨_, rfl⟩
  refine aw_nmi ha4 ?_
  have hf := ilt ha4 hf
  refine aw_put C (k := 25) fc_12 (la_58 E) rfl (by decide) rfl rfl tb_967 (by decide +kernel) rfl ?_
  refine aw_aload_n C 0 0 (j := 0) rfl rfl (by decide +kernel) rfl ?_
  refine aw_aload_n C 0 0 (j := 0) rfl rfl (by decide +kernel) rfl ?_
  refine aw_get C (k := 20) fc_12 (la_58 E) rfl (by decide) tb_962 (by decide +kernel) rfl ?_
  refine aw_iconst C (i0 := 1) (v := 1) (by decide) (by decide +kernel) rfl ?_
  refine aw_iadd C (by decide +kernel) rfl ?_
  obtain ⟨a5, ha5⟩ : ∃ z, z = (((sI (sI q1.2 67 (q1.2.1 58 25).toNatClampNeg a2) 58 25 a4).1 58 20) + (1 : Int32)) := ⟨_, rfl⟩
  refine aw_nmi ha5 ?_
  have hf := ilt ha5 hf
  refine aw_put C (k := 20) fc_12 (la_58 E) rfl (by decide) rfl rfl tb_962 (by decide +kernel) rfl ?_
  refine aw_aload_n C 0 0 (j := 0) rfl rfl (by decide +kernel) rfl ?_
  obtain ⟨q6, hq6, hf⟩ := ibd hf
  refine aw_callV C (rest := []) (c_m_readsFactor E _ q6 hq6) tb_1251 yf_169 yi_169 (la_58 E) [] rfl rfl _ rfl (Nat.le_trans (by decide) hgd) (Nat.le_of_ble_eq_true rfl) (by decide +kernel) rfl ?_
  show AW _ _ _ _ [.int q6.1]
  refine aw_if_ne C (tgt := 163) (off := 85) (by decide +kernel) (by decide) rfl (fun c7 => ?_) (fun c7 => ?_)
  · have hf := ift c7 hf
    refine aw_iconst C (i0 := 0) (v := 0) (by decide) (by decide +kernel) rfl ?_
    exact aw_zretq C CR0 hgr hgs (by decide) hf (by decide +kernel)
  · have hf := iff_ c7 hf
    refine aw_goto C (tgt := 14) (off := -149) (by decide +kernel) (by decide) ?_
    refine aw_sub [(0, .ref (gad G 58)), (1, .int v1)] [0, 1] rfl ?_
    exact hk14 v1 _ hf
theorem t_m_readsSum_138 {G : Cx} (C : CX G prog_14_method_32_code "PaperStarsModel") (CR0 : CR G (Option.some FieldType.boolean)) (E : LAin (gly G)) (hnL : gnL G = 3) (hgd : 4 ≤ gd G) {q : Int32 × Mm} (hgr : gr G = some (.int q.1)) (hgs : gsf G = q.2) (v1 : Int32) (st : Mm) (hf : b_m_readsSum_138 v1 st = some q) : AW G st 138 [(0, .ref (gad G 58)), (1, .int v1)] [] := by
  unfold b_m_readsSum_138 at hf
  refine aw_aload_n C 0 0 (j := 0) rfl rfl (by decide +kernel) rfl ?_
  refine aw_iload_n C 1 1 (j := 1) rfl rfl (by decide +kernel) rfl ?_
  obtain ⟨q1, hq1, hf⟩ := ibd hf
  refine aw_callV C (rest := []) (c_m_hasOpenSum E v1 _ q1 hq1) tb_1277 yf_176 yi_176 (la_58 E) [.int v1] rfl rfl _ rfl (Nat.le_trans (by decide) hgd) (Nat.le_of_ble_eq_true rfl) (by decide +kernel) rfl ?_
  show AW _ _ _ _ [.int q1.1]
  refine aw_if_eq C (tgt := 156) (off := 13) (by decide +kernel) (by decide) rfl (fun c2 => ?_) (fun c2 => ?_)
  · have hf := ift c2 hf
    refine aw_aload_n C 0 0 (j := 0) rfl rfl (by decide +kernel) rfl ?_
    refine aw_iconst C (i0 := 1) (v := 1) (by decide) (by decide +kernel) rfl ?_
    obtain ⟨q3, hq3, hf⟩ := ibd hf
    refine aw_callV C (rest := []) (c_m_closesSums E (1 : Int32) _ q3 hq3) tb_1269 yf_174 yi_174 (la_58 E) [.int (1 : Int32)] rfl rfl _ rfl (Nat.le_trans (by decide) hgd) (Nat.le_of_ble_eq_true rfl) (by decide +kernel) rfl ?_
    show AW _ _ _ _ []
    refine aw_iconst C (i0 := 1) (v := 1) (by decide) (by decide +kernel) rfl ?_
    exact aw_zretq C CR0 hgr hgs (by decide) hf (by decide +kernel)
  · have hf := iff_ c2 hf
    refine aw_aload_n C 0 0 (j := 0) rfl rfl (by decide +kernel) rfl ?_
    refine aw_iconst C (i0 := 1) (v := 1) (by decide) (by decide +kernel) rfl ?_
    refine aw_aload_n C 0 0 (j := 0) rfl rfl (by decide +kernel) rfl ?_
    refine aw_get C (k := 20) fc_12 (la_58 E) rfl (by decide) tb_962 (by decide +kernel) rfl ?_
    obtain ⟨q4, hq4, hf⟩ := ibd hf
    refine aw_callV C (rest := []) (c_m_wrongAt E (1 : Int32) (q1.2.1 58 20) _ q4 hq4) tb_1179 yf_151 yi_151 (la_58 E) [.int (1 : Int32), .int (q1.2.1 58 20)] rfl rfl _ rfl (Nat.le_trans (by decide) hgd) (Nat.le_of_ble_eq_true rfl) (by decide +kernel) rfl ?_
    show AW _ _ _ _ [.int q4.1]
    obtain ⟨g5, hf⟩ := igd hf
    exact aw_zretq C CR0 hgr hgs g5 hf (by decide +kernel)
theorem t_m_readsSum_14 {G : Cx} (C : CX G prog_14_method_32_code "PaperStarsModel") (CR0 : CR G (Option.some FieldType.boolean)) (E : LAin (gly G)) (hnL : gnL G = 3) (hgd : 4 ≤ gd G) {q : Int32 × Mm} (hgr : gr G = some (.int q.1)) (hgs : gsf G = q.2) (k14 : Int32 → Mm → Option (Int32 × Mm)) (hk14 : ∀ (v1 : Int32) (st : Mm), k14 v1 st = some q → AW G st 14 [(0, .ref (gad G 58)), (1, .int v1)] []) (v1 : Int32) (st : Mm) (hf : b_m_readsSum_14 k14 v1 st = some q) : AW G st 14 [(0, .ref (gad G 58)), (1, .int v1)] [] := by
  unfold b_m_readsSum_14 at hf
  refine aw_aload_n C 0 0 (j := 0) rfl rfl (by decide +kernel) rfl ?_
  obtain ⟨q1, hq1, hf⟩ := ibd hf
  refine aw_callV C (rest := []) (c_m_here E _ q1 hq1) tb_1171 yf_149 yi_149 (la_58 E) [] rfl rfl _ rfl (Nat.le_trans (by decide) hgd) (Nat.le_of_ble_eq_true rfl) (by decide +kernel) rfl ?_
  show AW _ _ _ _ [.int q1.1]
  obtain ⟨q2, hq2, hf⟩ := ibd hf
  refine aw_callS C (rest := []) (c_m_sumSign E q1.1 _ q2 hq2) tb_1266 yf_173 tb_1267 rfl _ rfl (Nat.le_trans (by decide) hgd) (Nat.le_of_ble_eq_true rfl) (by decide +kernel) rfl ?_
  show AW _ _ _ _ [.int q2.1]
  refine aw_istore_n C [(2, .int q2.1), (0, .ref (gad G 58)), (1, .int v1)] (j := 2) rfl (by rw [hnL]; decide) rfl (by decide +kernel) rfl ?_
  refine aw_iload_n C 2 0 (j := 2) rfl rfl (by decide +kernel) rfl ?_
  refine aw_iconst C (i0 := -1) (v := -1) (by decide) (by decide +kernel) rfl ?_
  refine aw_icmp_eq C (tgt := 83) (off := 59) (by decide +kernel) (by decide) rfl (fun c3 => ?_) (fun c3 => ?_)
  · have hf := ift c3 hf
    refine aw_aload_n C 0 1 (j := 0) rfl rfl (by decide +kernel) rfl ?_
    obtain ⟨q4, hq4, hf⟩ := ibd hf
    refine aw_callV C (rest := []) (c_m_here E _ q4 hq4) tb_1171 yf_149 yi_149 (la_58 E) [] rfl rfl _ rfl (Nat.le_trans (by decide) hgd) (Nat.le_of_ble_eq_true rfl) (by decide +kernel) rfl ?_
    show AW _ _ _ _ [.int q4.1]
    refine aw_bipush C (i0 := 93) (v := 93) (by decide) (by decide +kernel) rfl ?_
    refine aw_icmp_ne C (tgt := 138) (off := 49) (by decide +kernel) (by decide) rfl (fun c5 => ?_) (fun c5 => ?_)
    · have hf := ift c5 hf
      refine aw_aload_n C 0 1 (j := 0) rfl rfl (by decide +kernel) rfl ?_
      refine aw_iload_n C 1 2 (j := 1) rfl rfl (by decide +kernel) rfl ?_
      obtain ⟨q6, hq6, hf⟩ := ibd hf
      refine aw_callV C (rest := []) (c_m_hasOpenSum E v1 _ q6 hq6) tb_1277 yf_176 yi_176 (la_58 E) [.int v1] rfl rfl _ rfl (Nat.le_trans (by decide) hgd) (Nat.le_of_ble_eq_true rfl) (by decide +kernel) rfl ?_
      show AW _ _ _ _ [.int q6.1]
      refine aw_if_eq C (tgt := 138) (off := 41) (by decide +kernel) (by decide) rfl (fun c7 => ?_) (fun c7 => ?_)
      · have hf := ift c7 hf
        refine aw_sub [(0, .ref (gad G 58)), (1, .int v1)] [1, 2] rfl ?_
        exact t_m_readsSum_138 C CR0 E hnL hgd hgr hgs v1 _ hf
      · have hf := iff_ c7 hf
        refine aw_aload_n C 0 1 (j := 0) rfl rfl (by decide +kernel) rfl ?_
        refine aw_iconst C (i0 := 1) (v := 1) (by decide) (by decide +kernel) rfl ?_
        obtain ⟨q8, hq8, hf⟩ := ibd hf
        refine aw_callV C (rest := []) (c_m_closesSums E (1 : Int32) _ q8 hq8) tb_1269 yf_174 yi_174 (la_58 E) [.int (1 : Int32)] rfl rfl _ rfl (Nat.le_trans (by decide) hgd) (Nat.le_of_ble_eq_true rfl) (by decide +kernel) rfl ?_
        show AW _ _ _ _ []
        refine aw_aload_n C 0 1 (j := 0) rfl rfl (by decide +kernel) rfl ?_
        refine aw_aload_n C 0 1 (j := 0) rfl rfl (by decide +kernel) rfl ?_
        refine aw_get C (k := 25) fc_12 (la_58 E) rfl (by decide) tb_967 (by decide +kernel) rfl ?_
        refine aw_iconst C (i0 := 1) (v := 1) (by decide) (by decide +kernel) rfl ?_
        refine aw_isub C (by decide +kernel) rfl ?_
        obtain ⟨a9, ha9⟩ : ∃ z, z = ((q8.2.1 58 25) - (1 : Int32)) := ⟨_, rfl⟩
        refine aw_nmi ha9 ?_
        have hf := ilt ha9 hf
        refine aw_put C (k := 25) fc_12 (la_58 E) rfl (by decide) rfl rfl tb_967 (by decide +kernel) rfl ?_
        refine aw_aload_n C 0 1 (j := 0) rfl rfl (by decide +kernel) rfl ?_
        refine aw_aload_n C 0 1 (j := 0) rfl rfl (by decide +kernel) rfl ?_
        refine aw_get C (k := 23) fc_12 (la_58 E) rfl (by decide) tb_965 (by decide +kernel) rfl ?_
        refine aw_iconst C (i0 := 1) (v := 1) (by decide) (by decide +kernel) rfl ?_
        refine aw_isub C (by decide +kernel) rfl ?_
        obtain ⟨a10, ha10⟩ : ∃ z, z = (((sI q8.2 58 25 a9).1 58 23) - (1 : Int32)) := ⟨_, rfl⟩
        refine aw_nmi ha10 ?_
        have hf := ilt ha10 hf
        refine aw_put C (k := 23) fc_12 (la_58 E) rfl (by decide) rfl rfl tb_965 (by decide +kernel) rfl ?_
        refine aw_aload_n C 0 1 (j := 0) rfl rfl (by decide +kernel) rfl ?_
        refine aw_aload_n C 0 1 (j := 0) rfl rfl (by decide +kernel) rfl ?_
        refine aw_get C (k := 20) fc_12 (la_58 E) rfl (by decide) tb_962 (by decide +kernel) rfl ?_
        refine aw_iconst C (i0 := 1) (v := 1) (by decide) (by decide +kernel) rfl ?_
        refine aw_iadd C (by decide +kernel) rfl ?_
        obtain ⟨a11, ha11⟩ : ∃ z, z = (((sI (sI q8.2 58 25 a9) 58 23 a10).1 58 20) + (1 : Int32)) := ⟨_, rfl⟩
        refine aw_nmi ha11 ?_
        have hf := ilt ha11 hf
        refine aw_put C (k := 20) fc_12 (la_58 E) rfl (by decide) rfl rfl tb_962 (by decide +kernel) rfl ?_
        refine aw_goto C (tgt := 163) (off := 28) (by decide +kernel) (by decide) ?_
        refine aw_goto C (tgt := 14) (off := -149) (by decide +kernel) (by decide) ?_
        refine aw_sub [(0, .ref (gad G 58)), (1, .int v1)] [1, 2] rfl ?_
        exact hk14 v1 _ hf
    · have hf := iff_ c5 hf
      refine aw_sub [(0, .ref (gad G 58)), (1, .int v1)] [1, 2] rfl ?_
      exact t_m_readsSum_138 C CR0 E hnL hgd hgr hgs v1 _ hf
  · have hf := iff_ c3 hf
    refine aw_aload_n C 0 1 (j := 0) rfl rfl (by decide +kernel) rfl ?_
    refine aw_iload_n C 2 0 (j := 2) rfl rfl (by decide +kernel) rfl ?_
    refine aw_iconst C (i0 := 4) (v := 4) (by decide) (by decide +kernel) rfl ?_
    refine aw_icmp_ge C (tgt := 37) (off := 7) (by decide +kernel) (by decide) rfl (fun c12 => ?_) (fun c12 => ?_)
    · have hf := ift c12 hf
      refine aw_iconst C (i0 := 0) (v := 0) (by decide) (by decide +kernel) rfl ?_
      refine aw_sub [(0, .ref (gad G 58)), (1, .int v1), (2, .int q2.1)] [1, 2, 0] rfl ?_
      exact t_m_readsSum_38 C CR0 E hnL hgd hgr hgs k14 hk14 v1 q2.1 (0 : Int32) _ hf
    · have hf := iff_ c12 hf
      refine aw_iconst C (i0 := 1) (v := 1) (by decide) (by decide +kernel) rfl ?_
      refine aw_goto C (tgt := 38) (off := 4) (by decide +kernel) (by decide) ?_
      refine aw_sub [(0, .ref (gad G 58)), (1, .int v1), (2, .int q2.1)] [1, 2, 0] rfl ?_
      exact t_m_readsSum_38 C CR0 E hnL hgd hgr hgs k14 hk14 v1 q2.1 (1 : Int32) _ hf
theorem u_m_readsSum_14 {G : Cx} (C : CX G prog_14_method_32_code "PaperStarsModel") (CR0 : CR G (Option.some FieldType.boolean)) (E : LAin (gly G)) (hnL : gnL G = 3) (hgd : 4 ≤ gd G) {q : Int32 × Mm} (hgr : gr G = some (.int q.1)) (hgs : gsf G = q.2) : ∀ (n : Nat) (v1 : Int32) (st : Mm), f_m_readsSum_14 n v1 st = some q → AW G st 14 [(0, .ref (gad G 58)), (1, .int v1)] [] := by
  intro n
  induction n with
  | zero => intro v1 st hf; cases hf
  | succ n ih => intro v1 st hf; exact t_m_readsSum_14 C CR0 E hnL hgd hgr hgs (f_m_readsSum_14 n) ih v1 st hf
theorem t_m_readsSum {G : Cx} (C : CX G prog_14_method_32_code "PaperStarsModel") (CR0 : CR G (Option.some FieldType.boolean)) (E : LAin (gly G)) (hnL : gnL G = 3) (hgd : 4 ≤ gd G) {q : Int32 × Mm} (hgr : gr G = some (.int q.1)) (hgs : gsf G = q.2) (st : Mm) (hf : f_m_readsSum st = some q) : AW G st 0 [(0, .ref (gad G 58))] [] := by
  unfold f_m_readsSum at hf
  refine aw_aload_n C 0 0 (j := 0) rfl rfl (by decide +kernel) rfl ?_
  refine aw_get C (k := 25) fc_12 (la_58 E) rfl (by decide) tb_967 (by decide +kernel) rfl ?_
  obtain ⟨a1, ha1⟩ : ∃ z, z = (st.1 58 25) := ⟨_, rfl⟩
  refine aw_nmi ha1 ?_
  have hf := ilt ha1 hf
  refine aw_istore_n C [(1, .int a1), (0, .ref (gad G 58))] (j := 1) rfl (by rw [hnL]; decide) rfl (by decide +kernel) rfl ?_
  refine aw_aload_n C 0 1 (j := 0) rfl rfl (by decide +kernel) rfl ?_
  obtain ⟨q2, hq2, hf⟩ := ibd hf
  refine aw_callV C (rest := []) (c_m_readsFactor E _ q2 hq2) tb_1251 yf_169 yi_169 (la_58 E) [] rfl rfl _ rfl (Nat.le_trans (by decide) hgd) (Nat.le_of_ble_eq_true rfl) (by decide +kernel) rfl ?_
  show AW _ _ _ _ [.int q2.1]
  refine aw_if_ne C (tgt := 14) (off := 5) (by decide +kernel) (by decide) rfl (fun c3 => ?_) (fun c3 => ?_)
  · have hf := ift c3 hf
    refine aw_iconst C (i0 := 0) (v := 0) (by decide) (by decide +kernel) rfl ?_
    exact aw_zretq C CR0 hgr hgs (by decide) hf (by decide +kernel)
  · have hf := iff_ c3 hf
    refine aw_sub [(0, .ref (gad G 58)), (1, .int a1)] [1, 0] rfl ?_
    exact u_m_readsSum_14 C CR0 E hnL hgd hgr hgs _ a1 _ hf
theorem c_m_readsSum {lay : Ly} (E : LAin lay) (st : Mm) (q : Int32 × Mm) (hf : f_m_readsSum st = some q) : Con 4 Y168 prog_14_method_32_code 3 (Option.some FieldType.boolean) lay (fun ad => [.ref (ad 58)]) st (some (.int q.1)) q.2 :=
  am_met yf_168.2.2.2.2.2 (fun ad => Nat.le_of_ble_eq_true rfl) (fun G C CR0 e1 e2 e3 e4 e5 => t_m_readsSum C CR0 (by rw [e1]; exact E) e2 (Nat.le_of_eq e5.symm) e3 e4 st hf)
def b_m_readsCompared_52 (s0 : Int32) (st : Mm) : Option (Int32 × Mm) :=
  if s0 = (-1 : Int32) then ((f_m_wrongAt (1 : Int32) (st.1 58 20) st).bind (fun q2 => if q2.1 = 0 ∨ q2.1 = 1 then some (q2.1, q2.2) else none)) else (lt_ ((st.1 58 20) + (1 : Int32)) (fun a4 => (f_m_readsSum (sI st 58 20 a4)).bind (fun q5 => if q5.1 = 0 then (some ((0 : Int32), q5.2)) else ((f_m_notes s0 (0 : Int32) q5.2).bind (fun q7 => (f_m_endsPiece q7.2).bind (fun q8 => some ((1 : Int32), q8.2)))))))
def f_m_readsCompared (st : Mm) : Option (Int32 × Mm) :=
  (f_m_readsSum st).bind (fun q1 => if q1.1 = 0 then (some ((0 : Int32), q1.2)) else ((f_m_here q1.2).bind (fun q3 => if q3.1 = (60 : Int32) then (b_m_readsCompared_52 (7 : Int32) q3.2) else ((f_m_here q3.2).bind (fun q5 => if q5.1 = (62 : Int32) then (b_m_readsCompared_52 (8 : Int32) q5.2) else ((f_m_here q5.2).bind (fun q7 => if q7.1 = (61 : Int32) then (b_m_readsCompared_52 (9 : Int32) q7.2) else (b_m_readsCompared_52 (-1 : Int32) q7.2))))))))
theorem t_m_readsCompared_52 {G : Cx} (C : CX G prog_14_method_36_code "PaperStarsModel") (CR0 : CR G (Option.some FieldType.boolean)) (E : LAin (gly G)) (hnL : gnL G = 2) (hgd : 5 ≤ gd G) {q : Int32 × Mm} (hgr : gr G = some (.int q.1)) (hgs : gsf G = q.2) (s0 : Int32) (st : Mm) (hf : b_m_readsCompared_52 s0 st = some q) : AW G st 52 [(0, .ref (gad G 58))] [.int s0] := by
  unfold b_m_readsCompared_52 at hf
  refine aw_istore_n C [(1, .int s0), (0, .ref (gad G 58))] (j := 1) rfl (by rw [hnL]; decide) rfl (by decide +kernel) rfl ?_
  refine aw_iload_n C 1 0 (j := 1) rfl rfl (by decide +kernel) rfl ?_
  refine aw_iconst C (i0 := -1) (v := -1) (by decide) (by decide +kernel) rfl ?_
  refine aw_icmp_ne C (tgt := 68) (off := 13) (by decide +kernel) (by decide) rfl (fun c1 => ?_) (fun c1 => ?_)
  · have hf := ift c1 hf
    refine aw_aload_n C 0 1 (j := 0) rfl rfl (by decide +kernel) rfl ?_
    refine aw_iconst C (i0 := 1) (v := 1) (by decide) (by decide +kernel) rfl ?_
    refine aw_aload_n C 0 1 (j := 0) rfl rfl (by decide +kernel) rfl ?_
    refine aw_get C (k := 20) fc_12 (la_58 E) rfl (by decide) tb_962 (by decide +kernel) rfl ?_
    obtain ⟨q2, hq2, hf⟩ := ibd hf
    refine aw_callV C (rest := []) (c_m_wrongAt E (1 : Int32) (st.1 58 20) _ q2 hq2) tb_1179 yf_151 yi_151 (la_58 E) [.int (1 : Int32), .int (st.1 58 20)] rfl rfl _ rfl (Nat.le_trans (by decide) hgd) (Nat.le_of_ble_eq_true rfl) (by decide +kernel) rfl ?_
    show AW _ _ _ _ [.int q2.1]
    obtain ⟨g3, hf⟩ := igd hf
    exact aw_zretq C CR0 hgr hgs g3 hf (by decide +kernel)
  · have hf := iff_ c1 hf
    refine aw_aload_n C 0 1 (j := 0) rfl rfl (by decide +kernel) rfl ?_
    refine aw_aload_n C 0 1 (j := 0) rfl rfl (by decide +kernel) rfl ?_
    refine aw_get C (k := 20) fc_12 (la_58 E) rfl (by decide) tb_962 (by decide +kernel) rfl ?_
    refine aw_iconst C (i0 := 1) (v := 1) (by decide) (by decide +kernel) rfl ?_
    refine aw_iadd C (by decide +kernel) rfl ?_
    obtain ⟨a4, ha4⟩ : ∃ z, z = ((st.1 58 20) + (1 : Int32)) := ⟨_, rfl⟩
    refine aw_nmi ha4 ?_
    have hf := ilt ha4 hf
    refine aw_put C (k := 20) fc_12 (la_58 E) rfl (by decide) rfl rfl tb_962 (by decide +kernel) rfl ?_
    refine aw_aload_n C 0 1 (j := 0) rfl rfl (by decide +kernel) rfl ?_
    obtain ⟨q5, hq5, hf⟩ := ibd hf
    refine aw_callV C (rest := []) (c_m_readsSum E _ q5 hq5) tb_1247 yf_168 yi_168 (la_58 E) [] rfl rfl _ rfl (Nat.le_trans (by decide) hgd) (Nat.le_of_ble_eq_true rfl) (by decide +kernel) rfl ?_
    show AW _ _ _ _ [.int q5.1]
    refine aw_if_ne C (tgt := 87) (off := 5) (by decide +kernel) (by decide) rfl (fun c6 => ?_) (fun c6 => ?_)
    · have hf := ift c6 hf
      refine aw_iconst C (i0 := 0) (v := 0) (by decide) (by decide +kernel) rfl ?_
      exact aw_zretq C CR0 hgr hgs (by decide) hf (by decide +kernel)
    · have hf := iff_ c6 hf
      refine aw_aload_n C 0 1 (j := 0) rfl rfl (by decide +kernel) rfl ?_
      refine aw_iload_n C 1 0 (j := 1) rfl rfl (by decide +kernel) rfl ?_
      refine aw_iconst C (i0 := 0) (v := 0) (by decide) (by decide +kernel) rfl ?_
      obtain ⟨q7, hq7, hf⟩ := ibd hf
      refine aw_callV C (rest := []) (c_m_notes E s0 (0 : Int32) _ q7 hq7) tb_1259 yf_171 yi_171 (la_58 E) [.int s0, .int (0 : Int32)] rfl rfl _ rfl (Nat.le_trans (by decide) hgd) (Nat.le_of_ble_eq_true rfl) (by decide +kernel) rfl ?_
      show AW _ _ _ _ []
      refine aw_aload_n C 0 1 (j := 0) rfl rfl (by decide +kernel) rfl ?_
      obtain ⟨q8, hq8, hf⟩ := ibd hf
      refine aw_callV C (rest := []) (c_m_endsPiece E _ q8 hq8) tb_1281 yf_177 yi_177 (la_58 E) [] rfl rfl _ rfl (Nat.le_trans (by decide) hgd) (Nat.le_of_ble_eq_true rfl) (by decide +kernel) rfl ?_
      show AW _ _ _ _ []
      refine aw_iconst C (i0 := 1) (v := 1) (by decide) (by decide +kernel) rfl ?_
      exact aw_zretq C CR0 hgr hgs (by decide) hf (by decide +kernel)
theorem t_m_readsCompared {G : Cx} (C : CX G prog_14_method_36_code "PaperStarsModel") (CR0 : CR G (Option.some FieldType.boolean)) (E : LAin (gly G)) (hnL : gnL G = 2) (hgd : 5 ≤ gd G) {q : Int32 × Mm} (hgr : gr G = some (.int q.1)) (hgs : gsf G = q.2) (st : Mm) (hf : f_m_readsCompared st = some q) : AW G st 0 [(0, .ref (gad G 58))] [] := by
  unfold f_m_readsCompared at hf
  refine aw_aload_n C 0 0 (j := 0) rfl rfl (by decide +kernel) rfl ?_
  obtain ⟨q1, hq1, hf⟩ := ibd hf
  refine aw_callV C (rest := []) (c_m_readsSum E _ q1 hq1) tb_1247 yf_168 yi_168 (la_58 E) [] rfl rfl _ rfl (Nat.le_trans (by decide) hgd) (Nat.le_of_ble_eq_true rfl) (by decide +kernel) rfl ?_
  show AW _ _ _ _ [.int q1.1]
  refine aw_if_ne C (tgt := 9) (off := 5) (by decide +kernel) (by decide) rfl (fun c2 => ?_) (fun c2 => ?_)
  · have hf := ift c2 hf
    refine aw_iconst C (i0 := 0) (v := 0) (by decide) (by decide +kernel) rfl ?_
    exact aw_zretq C CR0 hgr hgs (by decide) hf (by decide +kernel)
  · have hf := iff_ c2 hf
    refine aw_aload_n C 0 0 (j := 0) rfl rfl (by decide +kernel) rfl ?_
    obtain ⟨q3, hq3, hf⟩ := ibd hf
    refine aw_callV C (rest := []) (c_m_here E _ q3 hq3) tb_1171 yf_149 yi_149 (la_58 E) [] rfl rfl _ rfl (Nat.le_trans (by decide) hgd) (Nat.le_of_ble_eq_true rfl) (by decide +kernel) rfl ?_
    show AW _ _ _ _ [.int q3.1]
    refine aw_bipush C (i0 := 60) (v := 60) (by decide) (by decide +kernel) rfl ?_
    refine aw_icmp_ne C (tgt := 23) (off := 8) (by decide +kernel) (by decide) rfl (fun c4 => ?_) (fun c4 => ?_)
    · have hf := ift c4 hf
      refine aw_bipush C (i0 := 7) (v := 7) (by decide) (by decide +kernel) rfl ?_
      refine aw_goto C (tgt := 52) (off := 32) (by decide +kernel) (by decide) ?_
      exact t_m_readsCompared_52 C CR0 E hnL hgd hgr hgs (7 : Int32) _ hf
    · have hf := iff_ c4 hf
      refine aw_aload_n C 0 0 (j := 0) rfl rfl (by decide +kernel) rfl ?_
      obtain ⟨q5, hq5, hf⟩ := ibd hf
      refine aw_callV C (rest := []) (c_m_here E _ q5 hq5) tb_1171 yf_149 yi_149 (la_58 E) [] rfl rfl _ rfl (Nat.le_trans (by decide) hgd) (Nat.le_of_ble_eq_true rfl) (by decide +kernel) rfl ?_
      show AW _ _ _ _ [.int q5.1]
      refine aw_bipush C (i0 := 62) (v := 62) (by decide) (by decide +kernel) rfl ?_
      refine aw_icmp_ne C (tgt := 37) (off := 8) (by decide +kernel) (by decide) rfl (fun c6 => ?_) (fun c6 => ?_)
      · have hf := ift c6 hf
        refine aw_bipush C (i0 := 8) (v := 8) (by decide) (by decide +kernel) rfl ?_
        refine aw_goto C (tgt := 52) (off := 18) (by decide +kernel) (by decide) ?_
        exact t_m_readsCompared_52 C CR0 E hnL hgd hgr hgs (8 : Int32) _ hf
      · have hf := iff_ c6 hf
        refine aw_aload_n C 0 0 (j := 0) rfl rfl (by decide +kernel) rfl ?_
        obtain ⟨q7, hq7, hf⟩ := ibd hf
        refine aw_callV C (rest := []) (c_m_here E _ q7 hq7) tb_1171 yf_149 yi_149 (la_58 E) [] rfl rfl _ rfl (Nat.le_trans (by decide) hgd) (Nat.le_of_ble_eq_true rfl) (by decide +kernel) rfl ?_
        show AW _ _ _ _ [.int q7.1]
        refine aw_bipush C (i0 := 61) (v := 61) (by decide) (by decide +kernel) rfl ?_
        refine aw_icmp_ne C (tgt := 51) (off := 8) (by decide +kernel) (by decide) rfl (fun c8 => ?_) (fun c8 => ?_)
        · have hf := ift c8 hf
          refine aw_bipush C (i0 := 9) (v := 9) (by decide) (by decide +kernel) rfl ?_
          refine aw_goto C (tgt := 52) (off := 4) (by decide +kernel) (by decide) ?_
          exact t_m_readsCompared_52 C CR0 E hnL hgd hgr hgs (9 : Int32) _ hf
        · have hf := iff_ c8 hf
          refine aw_iconst C (i0 := -1) (v := -1) (by decide) (by decide +kernel) rfl ?_
          exact t_m_readsCompared_52 C CR0 E hnL hgd hgr hgs (-1 : Int32) _ hf
theorem c_m_readsCompared {lay : Ly} (E : LAin lay) (st : Mm) (q : Int32 × Mm) (hf : f_m_readsCompared st = some q) : Con 5 Y167 prog_14_method_36_code 2 (Option.some FieldType.boolean) lay (fun ad => [.ref (ad 58)]) st (some (.int q.1)) q.2 :=
  am_met yf_167.2.2.2.2.2 (fun ad => Nat.le_of_ble_eq_true rfl) (fun G C CR0 e1 e2 e3 e4 e5 => t_m_readsCompared C CR0 (by rw [e1]; exact E) e2 (Nat.le_of_eq e5.symm) e3 e4 st hf)
def b_m_readsCondition_75 (k40 : Mm → Option (Int32 × Mm)) (s1 : Int32) (st : Mm) : Option (Int32 × Mm) :=
  (f_m_opens s1 st).bind (fun q1 => if q1.1 = 0 then (some ((0 : Int32), q1.2)) else (k40 q1.2))
def b_m_readsCondition_58 (k40 : Mm → Option (Int32 × Mm)) (st : Mm) : Option (Int32 × Mm) :=
  (f_m_here st).bind (fun q1 => if q1.1 = (33 : Int32) then (b_m_readsCondition_75 k40 (10 : Int32) q1.2) else (b_m_readsCondition_75 k40 (13 : Int32) q1.2))
def b_m_readsCondition_170 (st : Mm) : Option (Int32 × Mm) :=
  (f_m_wrongAt (1 : Int32) (st.1 58 20) st).bind (fun q1 => if q1.1 = 0 ∨ q1.1 = 1 then some (q1.1, q1.2) else none)
def b_m_readsCondition_195 (k40 : Mm → Option (Int32 × Mm)) (s1 : Int32) (st : Mm) : Option (Int32 × Mm) :=
  (f_m_lands s1 st).bind (fun q1 => (f_m_here q1.2).bind (fun q2 => if q2.1 = (38 : Int32) then ((f_m_jumps (11 : Int32) q2.2).bind (fun q4 => k40 q4.2)) else ((f_m_jumps (12 : Int32) q2.2).bind (fun q5 => k40 q5.2))))
def b_m_readsCondition_180 (k40 : Mm → Option (Int32 × Mm)) (st : Mm) : Option (Int32 × Mm) :=
  (f_m_here st).bind (fun q1 => if q1.1 = (124 : Int32) then (b_m_readsCondition_195 k40 (1 : Int32) q1.2) else (b_m_readsCondition_195 k40 (0 : Int32) q1.2))
def b_m_readsCondition_152 (k40 : Mm → Option (Int32 × Mm)) (st : Mm) : Option (Int32 × Mm) :=
  (f_m_here st).bind (fun q1 => if q1.1 = (38 : Int32) then (b_m_readsCondition_180 k40 q1.2) else ((f_m_here q1.2).bind (fun q3 => if q3.1 = (124 : Int32) then (b_m_readsCondition_180 k40 q3.2) else (b_m_readsCondition_170 q3.2))))
def b_m_readsCondition_92 (k40 : Mm → Option (Int32 × Mm)) (k92 : Mm → Option (Int32 × Mm)) (st : Mm) : Option (Int32 × Mm) :=
  (f_m_here st).bind (fun q1 => if q1.1 = (41 : Int32) then ((f_m_lands (1 : Int32) q1.2).bind (fun q3 => lt_ ((q3.2.1 58 25) - (1 : Int32)) (fun a4 => lt_ (((sI q3.2 58 25 a4).1 58 23) - (1 : Int32)) (fun a5 => lt_ (((sI (sI q3.2 58 25 a4) 58 23 a5).1 58 20) + (1 : Int32)) (fun a6 => if ((sI (sI (sI q3.2 58 25 a4) 58 23 a5) 58 20 a6).1 58 25) = 0 then (some ((1 : Int32), (sI (sI (sI q3.2 58 25 a4) 58 23 a5) 58 20 a6))) else ((f_m_endsPiece (sI (sI (sI q3.2 58 25 a4) 58 23 a5) 58 20 a6)).bind (fun q8 => k92 q8.2))))))) else (b_m_readsCondition_152 k40 q1.2))
def f_m_readsCondition_92 (k40 : Mm → Option (Int32 × Mm)) : Nat → Mm → Option (Int32 × Mm)
  | 0 => fun  _ => none
  | n + 1 => b_m_readsCondition_92 k40 (f_m_readsCondition_92 k40 n)
def b_m_readsCondition_40 (k40 : Mm → Option (Int32 × Mm)) (st : Mm) : Option (Int32 × Mm) :=
  (f_m_here st).bind (fun q1 => if q1.1 = (33 : Int32) then (b_m_readsCondition_58 k40 q1.2) else ((f_m_here q1.2).bind (fun q3 => if q3.1 = (40 : Int32) then (b_m_readsCondition_58 k40 q3.2) else ((f_m_readsCompared q3.2).bind (fun q5 => if q5.1 = 0 then (some ((0 : Int32), q5.2)) else (f_m_readsCondition_92 k40 1000000 q5.2))))))
def f_m_readsCondition_40 : Nat → Mm → Option (Int32 × Mm)
  | 0 => fun  _ => none
  | n + 1 => b_m_readsCondition_40 (f_m_readsCondition_40 n)
def f_m_readsCondition (st : Mm) : Option (Int32 × Mm) :=
  (f_m_here st).bind (fun q1 => if q1.1 = (40 : Int32) then ((f_m_opens (13 : Int32) (sI (sI q1.2 58 23 (0 : Int32)) 58 25 (0 : Int32))).bind (fun q3 => if q3.1 = 0 then (some ((0 : Int32), q3.2)) else (f_m_readsCondition_40 1000000 q3.2))) else ((f_m_wrongAt (1 : Int32) (q1.2.1 58 20) q1.2).bind (fun q5 => if q5.1 = 0 ∨ q5.1 = 1 then some (q5.1, q5.2) else none)))
theorem t_m_readsCondition_75 {G : Cx} (C : CX G prog_14_method_37_code "PaperStarsModel") (CR0 : CR G (Option.some FieldType.boolean)) (E : LAin (gly G)) (hnL : gnL G = 1) (hgd : 6 ≤ gd G) {q : Int32 × Mm} (hgr : gr G = some (.int q.1)) (hgs : gsf G = q.2) (k40 : Mm → Option (Int32 × Mm)) (hk40 : ∀ (st : Mm), k40 st = some q → AW G st 40 [(0, .ref (gad G 58))] []) (s1 : Int32) (st : Mm) (hf : b_m_readsCondition_75 k40 s1 st = some q) : AW G st 75 [(0, .ref (gad G 58))] [.int s1, .ref (gad G 58)] := by
  unfold b_m_readsCondition_75 at hf
  obtain ⟨q1, hq1, hf⟩ := ibd hf
  refine aw_callV C (rest := []) (c_m_opens E s1 _ q1 hq1) tb_1238 yf_166 yi_166 (la_58 E) [.int s1] rfl rfl _ rfl (Nat.le_trans (by decide) hgd) (Nat.le_of_ble_eq_true rfl) (by decide +kernel) rfl ?_
  show AW _ _ _ _ [.int q1.1]
  refine aw_if_ne C (tgt := 40) (off := -38) (by decide +kernel) (by decide) rfl (fun c2 => ?_) (fun c2 => ?_)
  · have hf := ift c2 hf
    refine aw_iconst C (i0 := 0) (v := 0) (by decide) (by decide +kernel) rfl ?_
    exact aw_zretq C CR0 hgr hgs (by decide) hf (by decide +kernel)
  · have hf := iff_ c2 hf
    exact hk40 _ hf
theorem t_m_readsCondition_58 {G : Cx} (C : CX G prog_14_method_37_code "PaperStarsModel") (CR0 : CR G (Option.some FieldType.boolean)) (E : LAin (gly G)) (hnL : gnL G = 1) (hgd : 6 ≤ gd G) {q : Int32 × Mm} (hgr : gr G = some (.int q.1)) (hgs : gsf G = q.2) (k40 : Mm → Option (Int32 × Mm)) (hk40 : ∀ (st : Mm), k40 st = some q → AW G st 40 [(0, .ref (gad G 58))] []) (st : Mm) (hf : b_m_readsCondition_58 k40 st = some q) : AW G st 58 [(0, .ref (gad G 58))] [] := by
  unfold b_m_readsCondition_58 at hf
  refine aw_aload_n C 0 0 (j := 0) rfl rfl (by decide +kernel) rfl ?_
  refine aw_aload_n C 0 0 (j := 0) rfl rfl (by decide +kernel) rfl ?_
  obtain ⟨q1, hq1, hf⟩ := ibd hf
  refine aw_callV C (rest := [.ref (gad G 58)]) (c_m_here E _ q1 hq1) tb_1171 yf_149 yi_149 (la_58 E) [] rfl rfl _ rfl (Nat.le_trans (by decide) hgd) (Nat.le_of_ble_eq_true rfl) (by decide +kernel) rfl ?_
  show AW _ _ _ _ [.int q1.1, .ref (gad G 58)]
  refine aw_bipush C (i0 := 33) (v := 33) (by decide) (by decide +kernel) rfl ?_
  refine aw_icmp_ne C (tgt := 73) (off := 8) (by decide +kernel) (by decide) rfl (fun c2 => ?_) (fun c2 => ?_)
  · have hf := ift c2 hf
    refine aw_bipush C (i0 := 10) (v := 10) (by decide) (by decide +kernel) rfl ?_
    refine aw_goto C (tgt := 75) (off := 5) (by decide +kernel) (by decide) ?_
    exact t_m_readsCondition_75 C CR0 E hnL hgd hgr hgs k40 hk40 (10 : Int32) _ hf
  · have hf := iff_ c2 hf
    refine aw_bipush C (i0 := 13) (v := 13) (by decide) (by decide +kernel) rfl ?_
    exact t_m_readsCondition_75 C CR0 E hnL hgd hgr hgs k40 hk40 (13 : Int32) _ hf
theorem t_m_readsCondition_170 {G : Cx} (C : CX G prog_14_method_37_code "PaperStarsModel") (CR0 : CR G (Option.some FieldType.boolean)) (E : LAin (gly G)) (hnL : gnL G = 1) (hgd : 6 ≤ gd G) {q : Int32 × Mm} (hgr : gr G = some (.int q.1)) (hgs : gsf G = q.2) (st : Mm) (hf : b_m_readsCondition_170 st = some q) : AW G st 170 [(0, .ref (gad G 58))] [] := by
  unfold b_m_readsCondition_170 at hf
  refine aw_aload_n C 0 0 (j := 0) rfl rfl (by decide +kernel) rfl ?_
  refine aw_iconst C (i0 := 1) (v := 1) (by decide) (by decide +kernel) rfl ?_
  refine aw_aload_n C 0 0 (j := 0) rfl rfl (by decide +kernel) rfl ?_
  refine aw_get C (k := 20) fc_12 (la_58 E) rfl (by decide) tb_962 (by decide +kernel) rfl ?_
  obtain ⟨q1, hq1, hf⟩ := ibd hf
  refine aw_callV C (rest := []) (c_m_wrongAt E (1 : Int32) (st.1 58 20) _ q1 hq1) tb_1179 yf_151 yi_151 (la_58 E) [.int (1 : Int32), .int (st.1 58 20)] rfl rfl _ rfl (Nat.le_trans (by decide) hgd) (Nat.le_of_ble_eq_true rfl) (by decide +kernel) rfl ?_
  show AW _ _ _ _ [.int q1.1]
  obtain ⟨g2, hf⟩ := igd hf
  exact aw_zretq C CR0 hgr hgs g2 hf (by decide +kernel)
theorem t_m_readsCondition_195 {G : Cx} (C : CX G prog_14_method_37_code "PaperStarsModel") (CR0 : CR G (Option.some FieldType.boolean)) (E : LAin (gly G)) (hnL : gnL G = 1) (hgd : 6 ≤ gd G) {q : Int32 × Mm} (hgr : gr G = some (.int q.1)) (hgs : gsf G = q.2) (k40 : Mm → Option (Int32 × Mm)) (hk40 : ∀ (st : Mm), k40 st = some q → AW G st 40 [(0, .ref (gad G 58))] []) (s1 : Int32) (st : Mm) (hf : b_m_readsCondition_195 k40 s1 st = some q) : AW G st 195 [(0, .ref (gad G 58))] [.int s1, .ref (gad G 58)] := by
  unfold b_m_readsCondition_195 at hf
  obtain ⟨q1, hq1, hf⟩ := ibd hf
  refine aw_callV C (rest := []) (c_m_lands E s1 _ q1 hq1) tb_1285 yf_178 yi_178 (la_58 E) [.int s1] rfl rfl _ rfl (Nat.le_trans (by decide) hgd) (Nat.le_of_ble_eq_true rfl) (by decide +kernel) rfl ?_
  show AW _ _ _ _ []
  refine aw_aload_n C 0 0 (j := 0) rfl rfl (by decide +kernel) rfl ?_
  refine aw_aload_n C 0 0 (j := 0) rfl rfl (by decide +kernel) rfl ?_
  obtain ⟨q2, hq2, hf⟩ := ibd hf
  refine aw_callV C (rest := [.ref (gad G 58)]) (c_m_here E _ q2 hq2) tb_1171 yf_149 yi_149 (la_58 E) [] rfl rfl _ rfl (Nat.le_trans (by decide) hgd) (Nat.le_of_ble_eq_true rfl) (by decide +kernel) rfl ?_
  show AW _ _ _ _ [.int q2.1, .ref (gad G 58)]
  refine aw_bipush C (i0 := 38) (v := 38) (by decide) (by decide +kernel) rfl ?_
  refine aw_icmp_ne C (tgt := 213) (off := 8) (by decide +kernel) (by decide) rfl (fun c3 => ?_) (fun c3 => ?_)
  · have hf := ift c3 hf
    refine aw_bipush C (i0 := 11) (v := 11) (by decide) (by decide +kernel) rfl ?_
    refine aw_goto C (tgt := 215) (off := 5) (by decide +kernel) (by decide) ?_
    obtain ⟨q4, hq4, hf⟩ := ibd hf
    refine aw_callV C (rest := []) (c_m_jumps E (11 : Int32) _ q4 hq4) tb_1289 yf_179 yi_179 (la_58 E) [.int (11 : Int32)] rfl rfl _ rfl (Nat.le_trans (by decide) hgd) (Nat.le_of_ble_eq_true rfl) (by decide +kernel) rfl ?_
    show AW _ _ _ _ []
    refine aw_goto C (tgt := 40) (off := -178) (by decide +kernel) (by decide) ?_
    exact hk40 _ hf
  · have hf := iff_ c3 hf
    refine aw_bipush C (i0 := 12) (v := 12) (by decide) (by decide +kernel) rfl ?_
    obtain ⟨q5, hq5, hf⟩ := ibd hf
    refine aw_callV C (rest := []) (c_m_jumps E (12 : Int32) _ q5 hq5) tb_1289 yf_179 yi_179 (la_58 E) [.int (12 : Int32)] rfl rfl _ rfl (Nat.le_trans (by decide) hgd) (Nat.le_of_ble_eq_true rfl) (by decide +kernel) rfl ?_
    show AW _ _ _ _ []
    refine aw_goto C (tgt := 40) (off := -178) (by decide +kernel) (by decide) ?_
    exact hk40 _ hf
theorem t_m_readsCondition_180 {G : Cx} (C : CX G prog_14_method_37_code "PaperStarsModel") (CR0 : CR G (Option.some FieldType.boolean)) (E : LAin (gly G)) (hnL : gnL G = 1) (hgd : 6 ≤ gd G) {q : Int32 × Mm} (hgr : gr G = some (.int q.1)) (hgs : gsf G = q.2) (k40 : Mm → Option (Int32 × Mm)) (hk40 : ∀ (st : Mm), k40 st = some q → AW G st 40 [(0, .ref (gad G 58))] []) (st : Mm) (hf : b_m_readsCondition_180 k40 st = some q) : AW G st 180 [(0, .ref (gad G 58))] [] := by
  unfold b_m_readsCondition_180 at hf
  refine aw_aload_n C 0 0 (j := 0) rfl rfl (by decide +kernel) rfl ?_
  refine aw_aload_n C 0 0 (j := 0) rfl rfl (by decide +kernel) rfl ?_
  obtain ⟨q1, hq1, hf⟩ := ibd hf
  refine aw_callV C (rest := [.ref (gad G 58)]) (c_m_here E _ q1 hq1) tb_1171 yf_149 yi_149 (la_58 E) [] rfl rfl _ rfl (Nat.le_trans (by decide) hgd) (Nat.le_of_ble_eq_true rfl) (by decide +kernel) rfl ?_
  show AW _ _ _ _ [.int q1.1, .ref (gad G 58)]
  refine aw_bipush C (i0 := 124) (v := 124) (by decide) (by decide +kernel) rfl ?_
  refine aw_icmp_ne C (tgt := 194) (off := 7) (by decide +kernel) (by decide) rfl (fun c2 => ?_) (fun c2 => ?_)
  · have hf := ift c2 hf
    refine aw_iconst C (i0 := 1) (v := 1) (by decide) (by decide +kernel) rfl ?_
    refine aw_goto C (tgt := 195) (off := 4) (by decide +kernel) (by decide) ?_
    exact t_m_readsCondition_195 C CR0 E hnL hgd hgr hgs k40 hk40 (1 : Int32) _ hf
  · have hf := iff_ c2 hf
    refine aw_iconst C (i0 := 0) (v := 0) (by decide) (by decide +kernel) rfl ?_
    exact t_m_readsCondition_195 C CR0 E hnL hgd hgr hgs k40 hk40 (0 : Int32) _ hf
theorem t_m_readsCondition_152 {G : Cx} (C : CX G prog_14_method_37_code "PaperStarsModel") (CR0 : CR G (Option.some FieldType.boolean)) (E : LAin (gly G)) (hnL : gnL G = 1) (hgd : 6 ≤ gd G) {q : Int32 × Mm} (hgr : gr G = some (.int q.1)) (hgs : gsf G = q.2) (k40 : Mm → Option (Int32 × Mm)) (hk40 : ∀ (st : Mm), k40 st = some q → AW G st 40 [(0, .ref (gad G 58))] []) (st : Mm) (hf : b_m_readsCondition_152 k40 st = some q) : AW G st 152 [(0, .ref (gad G 58))] [] := by
  unfold b_m_readsCondition_152 at hf
  refine aw_aload_n C 0 0 (j := 0) rfl rfl (by decide +kernel) rfl ?_
  obtain ⟨q1, hq1, hf⟩ := ibd hf
  refine aw_callV C (rest := []) (c_m_here E _ q1 hq1) tb_1171 yf_149 yi_149 (la_58 E) [] rfl rfl _ rfl (Nat.le_trans (by decide) hgd) (Nat.le_of_ble_eq_true rfl) (by decide +kernel) rfl ?_
  show AW _ _ _ _ [.int q1.1]
  refine aw_bipush C (i0 := 38) (v := 38) (by decide) (by decide +kernel) rfl ?_
  refine aw_icmp_eq C (tgt := 180) (off := 22) (by decide +kernel) (by decide) rfl (fun c2 => ?_) (fun c2 => ?_)
  · have hf := ift c2 hf
    exact t_m_readsCondition_180 C CR0 E hnL hgd hgr hgs k40 hk40 _ hf
  · have hf := iff_ c2 hf
    refine aw_aload_n C 0 0 (j := 0) rfl rfl (by decide +kernel) rfl ?_
    obtain ⟨q3, hq3, hf⟩ := ibd hf
    refine aw_callV C (rest := []) (c_m_here E _ q3 hq3) tb_1171 yf_149 yi_149 (la_58 E) [] rfl rfl _ rfl (Nat.le_trans (by decide) hgd) (Nat.le_of_ble_eq_true rfl) (by decide +kernel) rfl ?_
    show AW _ _ _ _ [.int q3.1]
    refine aw_bipush C (i0 := 124) (v := 124) (by decide) (by decide +kernel) rfl ?_
    refine aw_icmp_eq C (tgt := 180) (off := 13) (by decide +kernel) (by decide) rfl (fun c4 => ?_) (fun c4 => ?_)
    · have hf := ift c4 hf
      exact t_m_readsCondition_180 C CR0 E hnL hgd hgr hgs k40 hk40 _ hf
    · have hf := iff_ c4 hf
      exact t_m_readsCondition_170 C CR0 E hnL hgd hgr hgs _ hf
theorem t_m_readsCondition_92 {G : Cx} (C : CX G prog_14_method_37_code "PaperStarsModel") (CR0 : CR G (Option.some FieldType.boolean)) (E : LAin (gly G)) (hnL : gnL G = 1) (hgd : 6 ≤ gd G) {q : Int32 × Mm} (hgr : gr G = some (.int q.1)) (hgs : gsf G = q.2) (k40 : Mm → Option (Int32 × Mm)) (k92 : Mm → Option (Int32 × Mm)) (hk40 : ∀ (st : Mm), k40 st = some q → AW G st 40 [(0, .ref (gad G 58))] []) (hk92 : ∀ (st : Mm), k92 st = some q → AW G st 92 [(0, .ref (gad G 58))] []) (st : Mm) (hf : b_m_readsCondition_92 k40 k92 st = some q) : AW G st 92 [(0, .ref (gad G 58))] [] := by
  unfold b_m_readsCondition_92 at hf
  refine aw_aload_n C 0 0 (j := 0) rfl rfl (by decide +kernel) rfl ?_
  obtain ⟨q1, hq1, hf⟩ := ibd hf
  refine aw_callV C (rest := []) (c_m_here E _ q1 hq1) tb_1171 yf_149 yi_149 (la_58 E) [] rfl rfl _ rfl (Nat.le_trans (by decide) hgd) (Nat.le_of_ble_eq_true rfl) (by decide +kernel) rfl ?_
  show AW _ _ _ _ [.int q1.1]
  refine aw_bipush C (i0 := 41) (v := 41) (by decide) (by decide +kernel) rfl ?_
  refine aw_icmp_ne C (tgt := 152) (off := 54) (by decide +kernel) (by decide) rfl (fun c2 => ?_) (fun c2 => ?_)
  · have hf := ift c2 hf
    refine aw_aload_n C 0 0 (j := 0) rfl rfl (by decide +kernel) rfl ?_
    refine aw_iconst C (i0 := 1) (v := 1) (by decide) (by decide +kernel) rfl ?_
    obtain ⟨q3, hq3, hf⟩ := ibd hf
    refine aw_callV C (rest := []) (c_m_lands E (1 : Int32) _ q3 hq3) tb_1285 yf_178 yi_178 (la_58 E) [.int (1 : Int32)] rfl rfl _ rfl (Nat.le_trans (by decide) hgd) (Nat.le_of_ble_eq_true rfl) (by decide +kernel) rfl ?_
    show AW _ _ _ _ []
    refine aw_aload_n C 0 0 (j := 0) rfl rfl (by decide +kernel) rfl ?_
    refine aw_aload_n C 0 0 (j := 0) rfl rfl (by decide +kernel) rfl ?_
    refine aw_get C (k := 25) fc_12 (la_58 E) rfl (by decide) tb_967 (by decide +kernel) rfl ?_
    refine aw_iconst C (i0 := 1) (v := 1) (by decide) (by decide +kernel) rfl ?_
    refine aw_isub C (by decide +kernel) rfl ?_
    obtain ⟨a4, ha4⟩ : ∃ z, z = ((q3.2.1 58 25) - (1 : Int32)) := ⟨_, rfl⟩
    refine aw_nmi ha4 ?_
    have hf := ilt ha4 hf
    refine aw_put C (k := 25) fc_12 (la_58 E) rfl (by decide) rfl rfl tb_967 (by decide +kernel) rfl ?_
    refine aw_aload_n C 0 0 (j := 0) rfl rfl (by decide +kernel) rfl ?_
    refine aw_aload_n C 0 0 (j := 0) rfl rfl (by decide +kernel) rfl ?_
    refine aw_get C (k := 23) fc_12 (la_58 E) rfl (by decide) tb_965 (by decide +kernel) rfl ?_
    refine aw_iconst C (i0 := 1) (v := 1) (by decide) (by decide +kernel) rfl ?_
    refine aw_isub C (by decide +kernel) rfl ?_
    obtain ⟨a5, ha5⟩ : ∃ z, z = (((sI q3.2 58 25 a4).1 58 23) - (1 : Int32)) := ⟨_, rfl⟩
    refine aw_nmi ha5 ?_
    have hf := ilt ha5 hf
    refine aw_put C (k := 23) fc_12 (la_58 E) rfl (by decide) rfl rfl tb_965 (by decide +kernel) rfl ?_
    refine aw_aload_n C 0 0 (j := 0) rfl rfl (by decide +kernel) rfl ?_
    refine aw_aload_n C 0 0 (j := 0) rfl rfl (by decide +kernel) rfl ?_
    refine aw_get C (k := 20) fc_12 (la_58 E) rfl (by decide) tb_962 (by decide +kernel) rfl ?_
    refine aw_iconst C (i0 := 1) (v := 1) (by decide) (by decide +kernel) rfl ?_
    refine aw_iadd C (by decide +kernel) rfl ?_
    obtain ⟨a6, ha6⟩ : ∃ z, z = (((sI (sI q3.2 58 25 a4) 58 23 a5).1 58 20) + (1 : Int32)) := ⟨_, rfl⟩
    refine aw_nmi ha6 ?_
    have hf := ilt ha6 hf
    refine aw_put C (k := 20) fc_12 (la_58 E) rfl (by decide) rfl rfl tb_962 (by decide +kernel) rfl ?_
    refine aw_aload_n C 0 0 (j := 0) rfl rfl (by decide +kernel) rfl ?_
    refine aw_get C (k := 25) fc_12 (la_58 E) rfl (by decide) tb_967 (by decide +kernel) rfl ?_
    refine aw_if_ne C (tgt := 145) (off := 5) (by decide +kernel) (by decide) rfl (fun c7 => ?_) (fun c7 => ?_)
    · have hf := ift c7 hf
      refine aw_iconst C (i0 := 1) (v := 1) (by decide) (by decide +kernel) rfl ?_
      exact aw_zretq C CR0 hgr hgs (by decide) hf (by decide +kernel)
    · have hf := iff_ c7 hf
      refine aw_aload_n C 0 0 (j := 0) rfl rfl (by decide +kernel) rfl ?_
      obtain ⟨q8, hq8, hf⟩ := ibd hf
      refine aw_callV C (rest := []) (c_m_endsPiece E _ q8 hq8) tb_1281 yf_177 yi_177 (la_58 E) [] rfl rfl _ rfl (Nat.le_trans (by decide) hgd) (Nat.le_of_ble_eq_true rfl) (by decide +kernel) rfl ?_
      show AW _ _ _ _ []
      refine aw_goto C (tgt := 92) (off := -57) (by decide +kernel) (by decide) ?_
      exact hk92 _ hf
  · have hf := iff_ c2 hf
    exact t_m_readsCondition_152 C CR0 E hnL hgd hgr hgs k40 hk40 _ hf
theorem u_m_readsCondition_92 {G : Cx} (C : CX G prog_14_method_37_code "PaperStarsModel") (CR0 : CR G (Option.some FieldType.boolean)) (E : LAin (gly G)) (hnL : gnL G = 1) (hgd : 6 ≤ gd G) {q : Int32 × Mm} (hgr : gr G = some (.int q.1)) (hgs : gsf G = q.2) (k40 : Mm → Option (Int32 × Mm)) (hk40 : ∀ (st : Mm), k40 st = some q → AW G st 40 [(0, .ref (gad G 58))] []) : ∀ (n : Nat) (st : Mm), f_m_readsCondition_92 k40 n st = some q → AW G st 92 [(0, .ref (gad G 58))] [] := by
  intro n
  induction n with
  | zero => intro st hf; cases hf
  | succ n ih => intro st hf; exact t_m_readsCondition_92 C CR0 E hnL hgd hgr hgs k40 (f_m_readsCondition_92 k40 n) hk40 ih st hf
theorem t_m_readsCondition_40 {G : Cx} (C : CX G prog_14_method_37_code "PaperStarsModel") (CR0 : CR G (Option.some FieldType.boolean)) (E : LAin (gly G)) (hnL : gnL G = 1) (hgd : 6 ≤ gd G) {q : Int32 × Mm} (hgr : gr G = some (.int q.1)) (hgs : gsf G = q.2) (k40 : Mm → Option (Int32 × Mm)) (hk40 : ∀ (st : Mm), k40 st = some q → AW G st 40 [(0, .ref (gad G 58))] []) (st : Mm) (hf : b_m_readsCondition_40 k40 st = some q) : AW G st 40 [(0, .ref (gad G 58))] [] := by
  unfold b_m_readsCondition_40 at hf
  refine aw_aload_n C 0 0 (j := 0) rfl rfl (by decide +kernel) rfl ?_
  obtain ⟨q1, hq1, hf⟩ := ibd hf
  refine aw_callV C (rest := []) (c_m_here E _ q1 hq1) tb_1171 yf_149 yi_149 (la_58 E) [] rfl rfl _ rfl (Nat.le_trans (by decide) hgd) (Nat.le_of_ble_eq_true rfl) (by decide +kernel) rfl ?_
  show AW _ _ _ _ [.int q1.1]
  refine aw_bipush C (i0 := 33) (v := 33) (by decide) (by decide +kernel) rfl ?_
  refine aw_icmp_eq C (tgt := 58) (off := 12) (by decide +kernel) (by decide) rfl (fun c2 => ?_) (fun c2 => ?_)
  · have hf := ift c2 hf
    exact t_m_readsCondition_58 C CR0 E hnL hgd hgr hgs k40 hk40 _ hf
  · have hf := iff_ c2 hf
    refine aw_aload_n C 0 0 (j := 0) rfl rfl (by decide +kernel) rfl ?_
    obtain ⟨q3, hq3, hf⟩ := ibd hf
    refine aw_callV C (rest := []) (c_m_here E _ q3 hq3) tb_1171 yf_149 yi_149 (la_58 E) [] rfl rfl _ rfl (Nat.le_trans (by decide) hgd) (Nat.le_of_ble_eq_true rfl) (by decide +kernel) rfl ?_
    show AW _ _ _ _ [.int q3.1]
    refine aw_bipush C (i0 := 40) (v := 40) (by decide) (by decide +kernel) rfl ?_
    refine aw_icmp_ne C (tgt := 83) (off := 28) (by decide +kernel) (by decide) rfl (fun c4 => ?_) (fun c4 => ?_)
    · have hf := ift c4 hf
      exact t_m_readsCondition_58 C CR0 E hnL hgd hgr hgs k40 hk40 _ hf
    · have hf := iff_ c4 hf
      refine aw_aload_n C 0 0 (j := 0) rfl rfl (by decide +kernel) rfl ?_
      obtain ⟨q5, hq5, hf⟩ := ibd hf
      refine aw_callV C (rest := []) (c_m_readsCompared E _ q5 hq5) tb_1243 yf_167 yi_167 (la_58 E) [] rfl rfl _ rfl (Nat.le_trans (by decide) hgd) (Nat.le_of_ble_eq_true rfl) (by decide +kernel) rfl ?_
      show AW _ _ _ _ [.int q5.1]
      refine aw_if_ne C (tgt := 92) (off := 5) (by decide +kernel) (by decide) rfl (fun c6 => ?_) (fun c6 => ?_)
      · have hf := ift c6 hf
        refine aw_iconst C (i0 := 0) (v := 0) (by decide) (by decide +kernel) rfl ?_
        exact aw_zretq C CR0 hgr hgs (by decide) hf (by decide +kernel)
      · have hf := iff_ c6 hf
        exact u_m_readsCondition_92 C CR0 E hnL hgd hgr hgs k40 hk40 _ _ hf
theorem u_m_readsCondition_40 {G : Cx} (C : CX G prog_14_method_37_code "PaperStarsModel") (CR0 : CR G (Option.some FieldType.boolean)) (E : LAin (gly G)) (hnL : gnL G = 1) (hgd : 6 ≤ gd G) {q : Int32 × Mm} (hgr : gr G = some (.int q.1)) (hgs : gsf G = q.2) : ∀ (n : Nat) (st : Mm), f_m_readsCondition_40 n st = some q → AW G st 40 [(0, .ref (gad G 58))] [] := by
  intro n
  induction n with
  | zero => intro st hf; cases hf
  | succ n ih => intro st hf; exact t_m_readsCondition_40 C CR0 E hnL hgd hgr hgs (f_m_readsCondition_40 n) ih st hf
theorem t_m_readsCondition {G : Cx} (C : CX G prog_14_method_37_code "PaperStarsModel") (CR0 : CR G (Option.some FieldType.boolean)) (E : LAin (gly G)) (hnL : gnL G = 1) (hgd : 6 ≤ gd G) {q : Int32 × Mm} (hgr : gr G = some (.int q.1)) (hgs : gsf G = q.2) (st : Mm) (hf : f_m_readsCondition st = some q) : AW G st 0 [(0, .ref (gad G 58))] [] := by
  unfold f_m_readsCondition at hf
  refine aw_aload_n C 0 0 (j := 0) rfl rfl (by decide +kernel) rfl ?_
  obtain ⟨q1, hq1, hf⟩ := ibd hf
  refine aw_callV C (rest := []) (c_m_here E _ q1 hq1) tb_1171 yf_149 yi_149 (la_58 E) [] rfl rfl _ rfl (Nat.le_trans (by decide) hgd) (Nat.le_of_ble_eq_true rfl) (by decide +kernel) rfl ?_
  show AW _ _ _ _ [.int q1.1]
  refine aw_bipush C (i0 := 40) (v := 40) (by decide) (by decide +kernel) rfl ?_
  refine aw_icmp_eq C (tgt := 19) (off := 13) (by decide +kernel) (by decide) rfl (fun c2 => ?_) (fun c2 => ?_)
  · have hf := ift c2 hf
    refine aw_aload_n C 0 0 (j := 0) rfl rfl (by decide +kernel) rfl ?_
    refine aw_iconst C (i0 := 0) (v := 0) (by decide) (by decide +kernel) rfl ?_
    refine aw_put C (k := 23) fc_12 (la_58 E) rfl (by decide) rfl rfl tb_965 (by decide +kernel) rfl ?_
    refine aw_aload_n C 0 0 (j := 0) rfl rfl (by decide +kernel) rfl ?_
    refine aw_iconst C (i0 := 0) (v := 0) (by decide) (by decide +kernel) rfl ?_
    refine aw_put C (k := 25) fc_12 (la_58 E) rfl (by decide) rfl rfl tb_967 (by decide +kernel) rfl ?_
    refine aw_aload_n C 0 0 (j := 0) rfl rfl (by decide +kernel) rfl ?_
    refine aw_bipush C (i0 := 13) (v := 13) (by decide) (by decide +kernel) rfl ?_
    obtain ⟨q3, hq3, hf⟩ := ibd hf
    refine aw_callV C (rest := []) (c_m_opens E (13 : Int32) _ q3 hq3) tb_1238 yf_166 yi_166 (la_58 E) [.int (13 : Int32)] rfl rfl _ rfl (Nat.le_trans (by decide) hgd) (Nat.le_of_ble_eq_true rfl) (by decide +kernel) rfl ?_
    show AW _ _ _ _ [.int q3.1]
    refine aw_if_ne C (tgt := 40) (off := 5) (by decide +kernel) (by decide) rfl (fun c4 => ?_) (fun c4 => ?_)
    · have hf := ift c4 hf
      refine aw_iconst C (i0 := 0) (v := 0) (by decide) (by decide +kernel) rfl ?_
      exact aw_zretq C CR0 hgr hgs (by decide) hf (by decide +kernel)
    · have hf := iff_ c4 hf
      exact u_m_readsCondition_40 C CR0 E hnL hgd hgr hgs _ _ hf
  · have hf := iff_ c2 hf
    refine aw_aload_n C 0 0 (j := 0) rfl rfl (by decide +kernel) rfl ?_
    refine aw_iconst C (i0 := 1) (v := 1) (by decide) (by decide +kernel) rfl ?_
    refine aw_aload_n C 0 0 (j := 0) rfl rfl (by decide +kernel) rfl ?_
    refine aw_get C (k := 20) fc_12 (la_58 E) rfl (by decide) tb_962 (by decide +kernel) rfl ?_
    obtain ⟨q5, hq5, hf⟩ := ibd hf
    refine aw_callV C (rest := []) (c_m_wrongAt E (1 : Int32) (q1.2.1 58 20) _ q5 hq5) tb_1179 yf_151 yi_151 (la_58 E) [.int (1 : Int32), .int (q1.2.1 58 20)] rfl rfl _ rfl (Nat.le_trans (by decide) hgd) (Nat.le_of_ble_eq_true rfl) (by decide +kernel) rfl ?_
    show AW _ _ _ _ [.int q5.1]
    obtain ⟨g6, hf⟩ := igd hf
    exact aw_zretq C CR0 hgr hgs g6 hf (by decide +kernel)
theorem c_m_readsCondition {lay : Ly} (E : LAin lay) (st : Mm) (q : Int32 × Mm) (hf : f_m_readsCondition st = some q) : Con 6 Y165 prog_14_method_37_code 1 (Option.some FieldType.boolean) lay (fun ad => [.ref (ad 58)]) st (some (.int q.1)) q.2 :=
  am_met yf_165.2.2.2.2.2 (fun ad => Nat.le_of_ble_eq_true rfl) (fun G C CR0 e1 e2 e3 e4 e5 => t_m_readsCondition C CR0 (by rw [e1]; exact E) e2 (Nat.le_of_eq e5.symm) e3 e4 st hf)
def b_m_readsLawful_44 (k44 : Int32 → Mm → Option (Int32 × Mm)) (v1 : Int32) (st : Mm) : Option (Int32 × Mm) :=
  if (256 : Int32) ≤ v1 then (some ((1 : Int32), st)) else ((f_m_isPlace (v1 - v1 / (16 : Int32) * (16 : Int32)) (v1 / (16 : Int32)) st).bind (fun q2 => if q2.1 = 0 then (lt_ (v1 + (1 : Int32)) (fun a4 => k44 a4 q2.2)) else (lt_ (v1 - v1 / (16 : Int32) * (16 : Int32)) (fun a5 => lt_ (v1 / (16 : Int32)) (fun a6 => lt_ ((sI (sI q2.2 71 (0 : Int32).toNatClampNeg a5) 71 (1 : Int32).toNatClampNeg a6).1 58 8) (fun a7 => lt_ ((sI (sI (sI q2.2 71 (0 : Int32).toNatClampNeg a5) 71 (1 : Int32).toNatClampNeg a6) 71 (2 : Int32).toNatClampNeg a7).1 58 9) (fun a8 => if inb v1 256 then lt_ ((sI (sI (sI (sI q2.2 71 (0 : Int32).toNatClampNeg a5) 71 (1 : Int32).toNatClampNeg a6) 71 (2 : Int32).toNatClampNeg a7) 71 (3 : Int32).toNatClampNeg a8).1 64 v1.toNatClampNeg) (fun a10 => lt_ ((sI (sI (sI (sI (sI q2.2 71 (0 : Int32).toNatClampNeg a5) 71 (1 : Int32).toNatClampNeg a6) 71 (2 : Int32).toNatClampNeg a7) 71 (3 : Int32).toNatClampNeg a8) 71 (4 : Int32).toNatClampNeg a10).1 58 27) (fun a11 => lt_ ((sI (sI (sI (sI (sI (sI q2.2 71 (0 : Int32).toNatClampNeg a5) 71 (1 : Int32).toNatClampNeg a6) 71 (2 : Int32).toNatClampNeg a7) 71 (3 : Int32).toNatClampNeg a8) 71 (4 : Int32).toNatClampNeg a10) 71 (5 : Int32).toNatClampNeg a11).1 58 0) (fun a12 => (f_m_comesTo (0 : Int32) ((sI (sI (sI (sI (sI (sI (sI q2.2 71 (0 : Int32).toNatClampNeg a5) 71 (1 : Int32).toNatClampNeg a6) 71 (2 : Int32).toNatClampNeg a7) 71 (3 : Int32).toNatClampNeg a8) 71 (4 : Int32).toNatClampNeg a10) 71 (5 : Int32).toNatClampNeg a11) 71 (6 : Int32).toNatClampNeg a12).1 58 24) (sI (sI (sI (sI (sI (sI (sI q2.2 71 (0 : Int32).toNatClampNeg a5) 71 (1 : Int32).toNatClampNeg a6) 71 (2 : Int32).toNatClampNeg a7) 71 (3 : Int32).toNatClampNeg a8) 71 (4 : Int32).toNatClampNeg a10) 71 (5 : Int32).toNatClampNeg a11) 71 (6 : Int32).toNatClampNeg a12)).bind (fun q13 => if q13.1 = (1 : Int32) then (if inb v1 256 then lt_ (v1 + (1 : Int32)) (fun a16 => k44 a16 (sI q13.2 69 v1.toNatClampNeg (1 : Int32))) else none) else (lt_ (v1 + (1 : Int32)) (fun a17 => k44 a17 q13.2)))))) else none)))))))
def f_m_readsLawful_44 : Nat → Int32 → Mm → Option (Int32 × Mm)
  | 0 => fun _ _ => none
  | n + 1 => b_m_readsLawful_44 (f_m_readsLawful_44 n)
def b_m_readsLawful_42 (st : Mm) : Option (Int32 × Mm) :=
  f_m_readsLawful_44 1000000 (0 : Int32) st
def b_m_readsLawful_16 (k16 : Int32 → Mm → Option (Int32 × Mm)) (v1 : Int32) (st : Mm) : Option (Int32 × Mm) :=
  if (st.1 58 24) ≤ v1 then (b_m_readsLawful_42 st) else (if inb v1 180 then lt_ (st.1 66 v1.toNatClampNeg) (fun a3 => if inb v1 180 then lt_ (v1 + (1 : Int32)) (fun a5 => k16 a5 (sI st 68 v1.toNatClampNeg a3)) else none) else none)
def f_m_readsLawful_16 : Nat → Int32 → Mm → Option (Int32 × Mm)
  | 0 => fun _ _ => none
  | n + 1 => b_m_readsLawful_16 (f_m_readsLawful_16 n)
def f_m_readsLawful (st : Mm) : Option (Int32 × Mm) :=
  (f_m_readsCondition (sI st 58 24 (0 : Int32))).bind (fun q1 => if q1.1 = 0 then (some ((0 : Int32), q1.2)) else (f_m_readsLawful_16 1000000 (0 : Int32) q1.2))
theorem t_m_readsLawful_44 {G : Cx} (C : CX G prog_14_method_44_code "PaperStarsModel") (CR0 : CR G (Option.some FieldType.boolean)) (E : LAin (gly G)) (hnL : gnL G = 2) (hgd : 7 ≤ gd G) {q : Int32 × Mm} (hgr : gr G = some (.int q.1)) (hgs : gsf G = q.2) (k44 : Int32 → Mm → Option (Int32 × Mm)) (hk44 : ∀ (v1 : Int32) (st : Mm), k44 v1 st = some q → AW G st 44 [(0, .ref (gad G 58)), (1, .int v1)] []) (v1 : Int32) (st : Mm) (hf : b_m_readsLawful_44 k44 v1 st = some q) : AW G st 44 [(0, .ref (gad G 58)), (1, .int v1)] [] := by
  unfold b_m_readsLawful_44 at hf
  refine aw_iload_n C 1 1 (j := 1) rfl rfl (by decide +kernel) rfl ?_
  refine aw_sipush C (i0 := 256) (v := 256) (by decide) (by decide +kernel) rfl ?_
  refine aw_icmp_ge C (tgt := 168) (off := 120) (by decide +kernel) (by decide) rfl (fun c1 => ?_) (fun c1 => ?_)
  · have hf := ift c1 hf
    refine aw_iconst C (i0 := 1) (v := 1) (by decide) (by decide +kernel) rfl ?_
    exact aw_zretq C CR0 hgr hgs (by decide) hf (by decide +kernel)
  · have hf := iff_ c1 hf
    refine aw_aload_n C 0 0 (j := 0) rfl rfl (by decide +kernel) rfl ?_
    refine aw_iload_n C 1 1 (j := 1) rfl rfl (by decide +kernel) rfl ?_
    refine aw_bipush C (i0 := 16) (v := 16) (by decide) (by decide +kernel) rfl ?_
    refine aw_irem C (by decide) (by decide +kernel) rfl ?_
    refine aw_iload_n C 1 1 (j := 1) rfl rfl (by decide +kernel) rfl ?_
    refine aw_bipush C (i0 := 16) (v := 16) (by decide) (by decide +kernel) rfl ?_
    refine aw_idiv C (by decide) (by decide +kernel) rfl ?_
    obtain ⟨q2, hq2, hf⟩ := ibd hf
    refine aw_callV C (rest := []) (c_m_isPlace E (v1 - v1 / (16 : Int32) * (16 : Int32)) (v1 / (16 : Int32)) _ q2 hq2) tb_1218 yf_161 yi_161 (la_58 E) [.int (v1 - v1 / (16 : Int32) * (16 : Int32)), .int (v1 / (16 : Int32))] rfl rfl _ rfl (Nat.le_trans (by decide) hgd) (Nat.le_of_ble_eq_true rfl) (by decide +kernel) rfl ?_
    show AW _ _ _ _ [.int q2.1]
    refine aw_if_ne C (tgt := 69) (off := 6) (by decide +kernel) (by decide) rfl (fun c3 => ?_) (fun c3 => ?_)
    · have hf := ift c3 hf
      refine aw_goto C (tgt := 162) (off := 96) (by decide +kernel) (by decide) ?_
      obtain ⟨a4, ha4⟩ : ∃ z, z = (v1 + (1 : Int32)) := ⟨_, rfl⟩
      have hf := ilt ha4 hf
      refine aw_iinc C [(1, .int a4), (0, .ref (gad G 58))] 1 (n := 1) rfl (by rw [ha4]; rfl) (by rw [hnL]; decide) rfl (by decide +kernel) rfl ?_
      refine aw_goto C (tgt := 44) (off := -121) (by decide +kernel) (by decide) ?_
      refine aw_sub [(0, .ref (gad G 58)), (1, .int a4)] [1, 0] rfl ?_
      exact hk44 a4 _ hf
    · have hf := iff_ c3 hf
      refine aw_aload_n C 0 0 (j := 0) rfl rfl (by decide +kernel) rfl ?_
      refine aw_getr C (k := 35) fc_12 (la_58 E) rfl (by decide) tb_977 (by decide +kernel) rfl ?_
      refine aw_iconst C (i0 := 0) (v := 0) (by decide) (by decide +kernel) rfl ?_
      refine aw_iload_n C 1 1 (j := 1) rfl rfl (by decide +kernel) rfl ?_
      refine aw_bipush C (i0 := 16) (v := 16) (by decide) (by decide +kernel) rfl ?_
      refine aw_irem C (by decide) (by decide +kernel) rfl ?_
      obtain ⟨a5, ha5⟩ : ∃ z, z = (v1 - v1 / (16 : Int32) * (16 : Int32)) := ⟨_, rfl⟩
      refine aw_nmi ha5 ?_
      have hf := ilt ha5 hf
      refine aw_iast C (la_71 E) (by decide) (by decide +kernel) rfl ?_
      refine aw_aload_n C 0 0 (j := 0) rfl rfl (by decide +kernel) rfl ?_
      refine aw_getr C (k := 35) fc_12 (la_58 E) rfl (by decide) tb_977 (by decide +kernel) rfl ?_
      refine aw_iconst C (i0 := 1) (v := 1) (by decide) (by decide +kernel) rfl ?_
      refine aw_iload_n C 1 1 (j := 1) rfl rfl (by decide +kernel) rfl ?_
      refine aw_bipush C (i0 := 16) (v := 16) (by decide) (by decide +kernel) rfl ?_
      refine aw_idiv C (by decide) (by decide +kernel) rfl ?_
      obtain ⟨a6, ha6⟩ : ∃ z, z = (v1 / (16 : Int32)) := ⟨_, rfl⟩
      refine aw_nmi ha6 ?_
      have hf := ilt ha6 hf
      refine aw_iast C (la_71 E) (by decide) (by decide +kernel) rfl ?_
      refine aw_aload_n C 0 0 (j := 0) rfl rfl (by decide +kernel) rfl ?_
      refine aw_getr C (k := 35) fc_12 (la_58 E) rfl (by decide) tb_977 (by decide +kernel) rfl ?_
      refine aw_iconst C (i0 := 2) (v := 2) (by decide) (by decide +kernel) rfl ?_
      refine aw_aload_n C 0 0 (j := 0) rfl rfl (by decide +kernel) rfl ?_
      refine aw_get C (k := 8) fc_12 (la_58 E) rfl (by decide) tb_950 (by decide +kernel) rfl ?_
      obtain ⟨a7, ha7⟩ : ∃ z, z = ((sI (sI q2.2 71 (0 : Int32).toNatClampNeg a5) 71 (1 : Int32).toNatClampNeg a6).1 58 8) := ⟨_, rfl⟩
      refine aw_nmi ha7 ?_
      have hf := ilt ha7 hf
      refine aw_iast C (la_71 E) (by decide) (by decide +kernel) rfl ?_
      refine aw_aload_n C 0 0 (j := 0) rfl rfl (by decide +kernel) rfl ?_
      refine aw_getr C (k := 35) fc_12 (la_58 E) rfl (by decide) tb_977 (by decide +kernel) rfl ?_
      refine aw_iconst C (i0 := 3) (v := 3) (by decide) (by decide +kernel) rfl ?_
      refine aw_aload_n C 0 0 (j := 0) rfl rfl (by decide +kernel) rfl ?_
      refine aw_get C (k := 9) fc_12 (la_58 E) rfl (by decide) tb_951 (by decide +kernel) rfl ?_
      obtain ⟨a8, ha8⟩ : ∃ z, z = ((sI (sI (sI q2.2 71 (0 : Int32).toNatClampNeg a5) 71 (1 : Int32).toNatClampNeg a6) 71 (2 : Int32).toNatClampNeg a7).1 58 9) := ⟨_, rfl⟩
      refine aw_nmi ha8 ?_
      have hf := ilt ha8 hf
      refine aw_iast C (la_71 E) (by decide) (by decide +kernel) rfl ?_
      refine aw_aload_n C 0 0 (j := 0) rfl rfl (by decide +kernel) rfl ?_
      refine aw_getr C (k := 35) fc_12 (la_58 E) rfl (by decide) tb_977 (by decide +kernel) rfl ?_
      refine aw_iconst C (i0 := 4) (v := 4) (by decide) (by decide +kernel) rfl ?_
      refine aw_aload_n C 0 0 (j := 0) rfl rfl (by decide +kernel) rfl ?_
      refine aw_getr C (k := 17) fc_12 (la_58 E) rfl (by decide) tb_959 (by decide +kernel) rfl ?_
      refine aw_iload_n C 1 1 (j := 1) rfl rfl (by decide +kernel) rfl ?_
      obtain ⟨g9, hf⟩ := igd hf
      refine aw_iald C (la_64 E) g9 (by decide +kernel) rfl ?_
      obtain ⟨a10, ha10⟩ : ∃ z, z = ((sI (sI (sI (sI q2.2 71 (0 : Int32).toNatClampNeg a5) 71 (1 : Int32).toNatClampNeg a6) 71 (2 : Int32).toNatClampNeg a7) 71 (3 : Int32).toNatClampNeg a8).1 64 v1.toNatClampNeg) := ⟨_, rfl⟩
      refine aw_nmi ha10 ?_
      have hf := ilt ha10 hf
      refine aw_iast C (la_71 E) (by decide) (by decide +kernel) rfl ?_
      refine aw_aload_n C 0 0 (j := 0) rfl rfl (by decide +kernel) rfl ?_
      refine aw_getr C (k := 35) fc_12 (la_58 E) rfl (by decide) tb_977 (by decide +kernel) rfl ?_
      refine aw_iconst C (i0 := 5) (v := 5) (by decide) (by decide +kernel) rfl ?_
      refine aw_aload_n C 0 0 (j := 0) rfl rfl (by decide +kernel) rfl ?_
      refine aw_get C (k := 27) fc_12 (la_58 E) rfl (by decide) tb_969 (by decide +kernel) rfl ?_
      obtain ⟨a11, ha11⟩ : ∃ z, z = ((sI (sI (sI (sI (sI q2.2 71 (0 : Int32).toNatClampNeg a5) 71 (1 : Int32).toNatClampNeg a6) 71 (2 : Int32).toNatClampNeg a7) 71 (3 : Int32).toNatClampNeg a8) 71 (4 : Int32).toNatClampNeg a10).1 58 27) := ⟨_, rfl⟩
      refine aw_nmi ha11 ?_
      have hf := ilt ha11 hf
      refine aw_iast C (la_71 E) (by decide) (by decide +kernel) rfl ?_
      refine aw_aload_n C 0 0 (j := 0) rfl rfl (by decide +kernel) rfl ?_
      refine aw_getr C (k := 35) fc_12 (la_58 E) rfl (by decide) tb_977 (by decide +kernel) rfl ?_
      refine aw_bipush C (i0 := 6) (v := 6) (by decide) (by decide +kernel) rfl ?_
      refine aw_aload_n C 0 0 (j := 0) rfl rfl (by decide +kernel) rfl ?_
      refine aw_get C (k := 0) fc_12 (la_58 E) rfl (by decide) tb_942 (by decide +kernel) rfl ?_
      obtain ⟨a12, ha12⟩ : ∃ z, z = ((sI (sI (sI (sI (sI (sI q2.2 71 (0 : Int32).toNatClampNeg a5) 71 (1 : Int32).toNatClampNeg a6) 71 (2 : Int32).toNatClampNeg a7) 71 (3 : Int32).toNatClampNeg a8) 71 (4 : Int32).toNatClampNeg a10) 71 (5 : Int32).toNatClampNeg a11).1 58 0) := ⟨_, rfl⟩
      refine aw_nmi ha12 ?_
      have hf := ilt ha12 hf
      refine aw_iast C (la_71 E) (by decide) (by decide +kernel) rfl ?_
      refine aw_aload_n C 0 0 (j := 0) rfl rfl (by decide +kernel) rfl ?_
      refine aw_iconst C (i0 := 0) (v := 0) (by decide) (by decide +kernel) rfl ?_
      refine aw_aload_n C 0 0 (j := 0) rfl rfl (by decide +kernel) rfl ?_
      refine aw_get C (k := 24) fc_12 (la_58 E) rfl (by decide) tb_966 (by decide +kernel) rfl ?_
      obtain ⟨q13, hq13, hf⟩ := ibd hf
      refine aw_callV C (rest := []) (c_m_comesTo E (0 : Int32) ((sI (sI (sI (sI (sI (sI (sI q2.2 71 (0 : Int32).toNatClampNeg a5) 71 (1 : Int32).toNatClampNeg a6) 71 (2 : Int32).toNatClampNeg a7) 71 (3 : Int32).toNatClampNeg a8) 71 (4 : Int32).toNatClampNeg a10) 71 (5 : Int32).toNatClampNeg a11) 71 (6 : Int32).toNatClampNeg a12).1 58 24) _ q13 hq13) tb_1293 yf_180 yi_180 (la_58 E) [.int (0 : Int32), .int ((sI (sI (sI (sI (sI (sI (sI q2.2 71 (0 : Int32).toNatClampNeg a5) 71 (1 : Int32).toNatClampNeg a6) 71 (2 : Int32).toNatClampNeg a7) 71 (3 : Int32).toNatClampNeg a8) 71 (4 : Int32).toNatClampNeg a10) 71 (5 : Int32).toNatClampNeg a11) 71 (6 : Int32).toNatClampNeg a12).1 58 24)] rfl rfl _ rfl (Nat.le_trans (by decide) hgd) (Nat.le_of_ble_eq_true rfl) (by decide +kernel) rfl ?_
      show AW _ _ _ _ [.int q13.1]
      refine aw_iconst C (i0 := 1) (v := 1) (by decide) (by decide +kernel) rfl ?_
      refine aw_icmp_ne C (tgt := 162) (off := 10) (by decide +kernel) (by decide) rfl (fun c14 => ?_) (fun c14 => ?_)
      · have hf := ift c14 hf
        refine aw_aload_n C 0 0 (j := 0) rfl rfl (by decide +kernel) rfl ?_
        refine aw_getr C (k := 33) fc_12 (la_58 E) rfl (by decide) tb_975 (by decide +kernel) rfl ?_
        refine aw_iload_n C 1 1 (j := 1) rfl rfl (by decide +kernel) rfl ?_
        refine aw_iconst C (i0 := 1) (v := 1) (by decide) (by decide +kernel) rfl ?_
        obtain ⟨g15, hf⟩ := igd hf
        refine aw_zastB C (la_69 E) g15 (by decide) (by decide +kernel) rfl ?_
        obtain ⟨a16, ha16⟩ : ∃ z, z = (v1 + (1 : Int32)) := ⟨_, rfl⟩
        have hf := ilt ha16 hf
        refine aw_iinc C [(1, .int a16), (0, .ref (gad G 58))] 1 (n := 1) rfl (by rw [ha16]; rfl) (by rw [hnL]; decide) rfl (by decide +kernel) rfl ?_
        refine aw_goto C (tgt := 44) (off := -121) (by decide +kernel) (by decide) ?_
        refine aw_sub [(0, .ref (gad G 58)), (1, .int a16)] [1, 0] rfl ?_
        exact hk44 a16 _ hf
      · have hf := iff_ c14 hf
        obtain ⟨a17, ha17⟩ : ∃ z, z = (v1 + (1 : Int32)) := ⟨_, rfl⟩
        have hf := ilt ha17 hf
        refine aw_iinc C [(1, .int a17), (0, .ref (gad G 58))] 1 (n := 1) rfl (by rw [ha17]; rfl) (by rw [hnL]; decide) rfl (by decide +kernel) rfl ?_
        refine aw_goto C (tgt := 44) (off := -121) (by decide +kernel) (by decide) ?_
        refine aw_sub [(0, .ref (gad G 58)), (1, .int a17)] [1, 0] rfl ?_
        exact hk44 a17 _ hf
theorem u_m_readsLawful_44 {G : Cx} (C : CX G prog_14_method_44_code "PaperStarsModel") (CR0 : CR G (Option.some FieldType.boolean)) (E : LAin (gly G)) (hnL : gnL G = 2) (hgd : 7 ≤ gd G) {q : Int32 × Mm} (hgr : gr G = some (.int q.1)) (hgs : gsf G = q.2) : ∀ (n : Nat) (v1 : Int32) (st : Mm), f_m_readsLawful_44 n v1 st = some q → AW G st 44 [(0, .ref (gad G 58)), (1, .int v1)] [] := by
  intro n
  induction n with
  | zero => intro v1 st hf; cases hf
  | succ n ih => intro v1 st hf; exact t_m_readsLawful_44 C CR0 E hnL hgd hgr hgs (f_m_readsLawful_44 n) ih v1 st hf
theorem t_m_readsLawful_42 {G : Cx} (C : CX G prog_14_method_44_code "PaperStarsModel") (CR0 : CR G (Option.some FieldType.boolean)) (E : LAin (gly G)) (hnL : gnL G = 2) (hgd : 7 ≤ gd G) {q : Int32 × Mm} (hgr : gr G = some (.int q.1)) (hgs : gsf G = q.2) (st : Mm) (hf : b_m_readsLawful_42 st = some q) : AW G st 42 [(0, .ref (gad G 58))] [] := by
  unfold b_m_readsLawful_42 at hf
  refine aw_iconst C (i0 := 0) (v := 0) (by decide) (by decide +kernel) rfl ?_
  refine aw_istore_n C [(1, .int (0 : Int32)), (0, .ref (gad G 58))] (j := 1) rfl (by rw [hnL]; decide) rfl (by decide +kernel) rfl ?_
  refine aw_sub [(0, .ref (gad G 58)), (1, .int (0 : Int32))] [1, 0] rfl ?_
  exact u_m_readsLawful_44 C CR0 E hnL hgd hgr hgs _ (0 : Int32) _ hf
theorem t_m_readsLawful_16 {G : Cx} (C : CX G prog_14_method_44_code "PaperStarsModel") (CR0 : CR G (Option.some FieldType.boolean)) (E : LAin (gly G)) (hnL : gnL G = 2) (hgd : 7 ≤ gd G) {q : Int32 × Mm} (hgr : gr G = some (.int q.1)) (hgs : gsf G = q.2) (k16 : Int32 → Mm → Option (Int32 × Mm)) (hk16 : ∀ (v1 : Int32) (st : Mm), k16 v1 st = some q → AW G st 16 [(0, .ref (gad G 58)), (1, .int v1)] []) (v1 : Int32) (st : Mm) (hf : b_m_readsLawful_16 k16 v1 st = some q) : AW G st 16 [(0, .ref (gad G 58)), (1, .int v1)] [] := by
  unfold b_m_readsLawful_16 at hf
  refine aw_iload_n C 1 1 (j := 1) rfl rfl (by decide +kernel) rfl ?_
  refine aw_aload_n C 0 0 (j := 0) rfl rfl (by decide +kernel) rfl ?_
  refine aw_get C (k := 24) fc_12 (la_58 E) rfl (by decide) tb_966 (by decide +kernel) rfl ?_
  refine aw_icmp_ge C (tgt := 42) (off := 21) (by decide +kernel) (by decide) rfl (fun c1 => ?_) (fun c1 => ?_)
  · have hf := ift c1 hf
    refine aw_sub [(0, .ref (gad G 58))] [0] rfl ?_
    exact t_m_readsLawful_42 C CR0 E hnL hgd hgr hgs _ hf
  · have hf := iff_ c1 hf
    refine aw_aload_n C 0 0 (j := 0) rfl rfl (by decide +kernel) rfl ?_
    refine aw_getr C (k := 32) fc_12 (la_58 E) rfl (by decide) tb_974 (by decide +kernel) rfl ?_
    refine aw_iload_n C 1 1 (j := 1) rfl rfl (by decide +kernel) rfl ?_
    refine aw_aload_n C 0 0 (j := 0) rfl rfl (by decide +kernel) rfl ?_
    refine aw_getr C (k := 30) fc_12 (la_58 E) rfl (by decide) tb_972 (by decide +kernel) rfl ?_
    refine aw_iload_n C 1 1 (j := 1) rfl rfl (by decide +kernel) rfl ?_
    obtain ⟨g2, hf⟩ := igd hf
    refine aw_iald C (la_66 E) g2 (by decide +kernel) rfl ?_
    obtain ⟨a3, ha3⟩ : ∃ z, z = (st.1 66 v1.toNatClampNeg) := ⟨_, rfl⟩
    refine aw_nmi ha3 ?_
    have hf := ilt ha3 hf
    obtain ⟨g4, hf⟩ := igd hf
    refine aw_iast C (la_68 E) g4 (by decide +kernel) rfl ?_
    obtain ⟨a5, ha5⟩ : ∃ z, z = (v1 + (1 : Int32)) := ⟨_, rfl⟩
    have hf := ilt ha5 hf
    refine aw_iinc C [(1, .int a5), (0, .ref (gad G 58))] 1 (n := 1) rfl (by rw [ha5]; rfl) (by rw [hnL]; decide) rfl (by decide +kernel) rfl ?_
    refine aw_goto C (tgt := 16) (off := -23) (by decide +kernel) (by decide) ?_
    refine aw_sub [(0, .ref (gad G 58)), (1, .int a5)] [1, 0] rfl ?_
    exact hk16 a5 _ hf
theorem u_m_readsLawful_16 {G : Cx} (C : CX G prog_14_method_44_code "PaperStarsModel") (CR0 : CR G (Option.some FieldType.boolean)) (E : LAin (gly G)) (hnL : gnL G = 2) (hgd : 7 ≤ gd G) {q : Int32 × Mm} (hgr : gr G = some (.int q.1)) (hgs : gsf G = q.2) : ∀ (n : Nat) (v1 : Int32) (st : Mm), f_m_readsLawful_16 n v1 st = some q → AW G st 16 [(0, .ref (gad G 58)), (1, .int v1)] [] := by
  intro n
  induction n with
  | zero => intro v1 st hf; cases hf
  | succ n ih => intro v1 st hf; exact t_m_readsLawful_16 C CR0 E hnL hgd hgr hgs (f_m_readsLawful_16 n) ih v1 st hf
theorem t_m_readsLawful {G : Cx} (C : CX G prog_14_method_44_code "PaperStarsModel") (CR0 : CR G (Option.some FieldType.boolean)) (E : LAin (gly G)) (hnL : gnL G = 2) (hgd : 7 ≤ gd G) {q : Int32 × Mm} (hgr : gr G = some (.int q.1)) (hgs : gsf G = q.2) (st : Mm) (hf : f_m_readsLawful st = some q) : AW G st 0 [(0, .ref (gad G 58))] [] := by
  unfold f_m_readsLawful at hf
  refine aw_aload_n C 0 0 (j := 0) rfl rfl (by decide +kernel) rfl ?_
  refine aw_iconst C (i0 := 0) (v := 0) (by decide) (by decide +kernel) rfl ?_
  refine aw_put C (k := 24) fc_12 (la_58 E) rfl (by decide) rfl rfl tb_966 (by decide +kernel) rfl ?_
  refine aw_aload_n C 0 0 (j := 0) rfl rfl (by decide +kernel) rfl ?_
  obtain ⟨q1, hq1, hf⟩ := ibd hf
  refine aw_callV C (rest := []) (c_m_readsCondition E _ q1 hq1) tb_1234 yf_165 yi_165 (la_58 E) [] rfl rfl _ rfl (Nat.le_trans (by decide) hgd) (Nat.le_of_ble_eq_true rfl) (by decide +kernel) rfl ?_
  show AW _ _ _ _ [.int q1.1]
  refine aw_if_ne C (tgt := 14) (off := 5) (by decide +kernel) (by decide) rfl (fun c2 => ?_) (fun c2 => ?_)
  · have hf := ift c2 hf
    refine aw_iconst C (i0 := 0) (v := 0) (by decide) (by decide +kernel) rfl ?_
    exact aw_zretq C CR0 hgr hgs (by decide) hf (by decide +kernel)
  · have hf := iff_ c2 hf
    refine aw_iconst C (i0 := 0) (v := 0) (by decide) (by decide +kernel) rfl ?_
    refine aw_istore_n C [(1, .int (0 : Int32)), (0, .ref (gad G 58))] (j := 1) rfl (by rw [hnL]; decide) rfl (by decide +kernel) rfl ?_
    refine aw_sub [(0, .ref (gad G 58)), (1, .int (0 : Int32))] [1, 0] rfl ?_
    exact u_m_readsLawful_16 C CR0 E hnL hgd hgr hgs _ (0 : Int32) _ hf
theorem c_m_readsLawful {lay : Ly} (E : LAin lay) (st : Mm) (q : Int32 × Mm) (hf : f_m_readsLawful st = some q) : Con 7 Y164 prog_14_method_44_code 2 (Option.some FieldType.boolean) lay (fun ad => [.ref (ad 58)]) st (some (.int q.1)) q.2 :=
  am_met yf_164.2.2.2.2.2 (fun ad => Nat.le_of_ble_eq_true rfl) (fun G C CR0 e1 e2 e3 e4 e5 => t_m_readsLawful C CR0 (by rw [e1]; exact E) e2 (Nat.le_of_eq e5.symm) e3 e4 st hf)
def b_m_readsTwo_59 (v1 : Int32) (st : Mm) : Option (Int32 × Mm) :=
  if v1 < (st.1 58 20) then (some ((1 : Int32), st)) else ((f_m_wrongAt (1 : Int32) (st.1 58 20) st).bind (fun q2 => if q2.1 = 0 then (some ((0 : Int32), q2.2)) else (some ((1 : Int32), q2.2))))
def b_m_readsTwo_10 (k10 : Int32 → Mm → Option (Int32 × Mm)) (v1 : Int32) (st : Mm) : Option (Int32 × Mm) :=
  (f_m_isDigit st).bind (fun q1 => if q1.1 = 0 then (b_m_readsTwo_59 v1 q1.2) else (if (v1 + (2 : Int32)) ≤ (q1.2.1 58 20) then (b_m_readsTwo_59 v1 q1.2) else ((f_m_here q1.2).bind (fun q4 => lt_ ((((10 : Int32) * (q1.2.1 58 26)) + q4.1) - (48 : Int32)) (fun a5 => lt_ (((sI q4.2 58 26 a5).1 58 20) + (1 : Int32)) (fun a6 => k10 v1 (sI (sI q4.2 58 26 a5) 58 20 a6)))))))
def f_m_readsTwo_10 : Nat → Int32 → Mm → Option (Int32 × Mm)
  | 0 => fun _ _ => none
  | n + 1 => b_m_readsTwo_10 (f_m_readsTwo_10 n)
def f_m_readsTwo (st : Mm) : Option (Int32 × Mm) :=
  lt_ (st.1 58 20) (fun a1 => f_m_readsTwo_10 1000000 a1 (sI st 58 26 (0 : Int32)))
theorem t_m_readsTwo_59 {G : Cx} (C : CX G prog_14_method_40_code "PaperStarsModel") (CR0 : CR G (Option.some FieldType.boolean)) (E : LAin (gly G)) (hnL : gnL G = 2) (hgd : 2 ≤ gd G) {q : Int32 × Mm} (hgr : gr G = some (.int q.1)) (hgs : gsf G = q.2) (v1 : Int32) (st : Mm) (hf : b_m_readsTwo_59 v1 st = some q) : AW G st 59 [(0, .ref (gad G 58)), (1, .int v1)] [] := by
  unfold b_m_readsTwo_59 at hf
  refine aw_aload_n C 0 0 (j := 0) rfl rfl (by decide +kernel) rfl ?_
  refine aw_get C (k := 20) fc_12 (la_58 E) rfl (by decide) tb_962 (by decide +kernel) rfl ?_
  refine aw_iload_n C 1 1 (j := 1) rfl rfl (by decide +kernel) rfl ?_
  refine aw_icmp_gt C (tgt := 79) (off := 15) (by decide +kernel) (by decide) rfl (fun c1 => ?_) (fun c1 => ?_)
  · have hf := ift c1 hf
    refine aw_iconst C (i0 := 1) (v := 1) (by decide) (by decide +kernel) rfl ?_
    refine aw_goto C (tgt := 84) (off := 4) (by decide +kernel) (by decide) ?_
    exact aw_zretq C CR0 hgr hgs (by decide) hf (by decide +kernel)
  · have hf := iff_ c1 hf
    refine aw_aload_n C 0 0 (j := 0) rfl rfl (by decide +kernel) rfl ?_
    refine aw_iconst C (i0 := 1) (v := 1) (by decide) (by decide +kernel) rfl ?_
    refine aw_aload_n C 0 0 (j := 0) rfl rfl (by decide +kernel) rfl ?_
    refine aw_get C (k := 20) fc_12 (la_58 E) rfl (by decide) tb_962 (by decide +kernel) rfl ?_
    obtain ⟨q2, hq2, hf⟩ := ibd hf
    refine aw_callV C (rest := []) (c_m_wrongAt E (1 : Int32) (st.1 58 20) _ q2 hq2) tb_1179 yf_151 yi_151 (la_58 E) [.int (1 : Int32), .int (st.1 58 20)] rfl rfl _ rfl (Nat.le_trans (by decide) hgd) (Nat.le_of_ble_eq_true rfl) (by decide +kernel) rfl ?_
    show AW _ _ _ _ [.int q2.1]
    refine aw_if_eq C (tgt := 83) (off := 7) (by decide +kernel) (by decide) rfl (fun c3 => ?_) (fun c3 => ?_)
    · have hf := ift c3 hf
      refine aw_iconst C (i0 := 0) (v := 0) (by decide) (by decide +kernel) rfl ?_
      exact aw_zretq C CR0 hgr hgs (by decide) hf (by decide +kernel)
    · have hf := iff_ c3 hf
      refine aw_iconst C (i0 := 1) (v := 1) (by decide) (by decide +kernel) rfl ?_
      refine aw_goto C (tgt := 84) (off := 4) (by decide +kernel) (by decide) ?_
      exact aw_zretq C CR0 hgr hgs (by decide) hf (by decide +kernel)
theorem t_m_readsTwo_10 {G : Cx} (C : CX G prog_14_method_40_code "PaperStarsModel") (CR0 : CR G (Option.some FieldType.boolean)) (E : LAin (gly G)) (hnL : gnL G = 2) (hgd : 2 ≤ gd G) {q : Int32 × Mm} (hgr : gr G = some (.int q.1)) (hgs : gsf G = q.2) (k10 : Int32 → Mm → Option (Int32 × Mm)) (hk10 : ∀ (v1 : Int32) (st : Mm), k10 v1 st = some q → AW G st 10 [(0, .ref (gad G 58)), (1, .int v1)] []) (v1 : Int32) (st : Mm) (hf : b_m_readsTwo_10 k10 v1 st = some q) : AW G st 10 [(0, .ref (gad G 58)), (1, .int v1)] [] := by
  unfold b_m_readsTwo_10 at hf
  refine aw_aload_n C 0 0 (j := 0) rfl rfl (by decide +kernel) rfl ?_
  obtain ⟨q1, hq1, hf⟩ := ibd hf
  refine aw_callV C (rest := []) (c_m_isDigit E _ q1 hq1) tb_1214 yf_160 yi_160 (la_58 E) [] rfl rfl _ rfl (Nat.le_trans (by decide) hgd) (Nat.le_of_ble_eq_true rfl) (by decide +kernel) rfl ?_
  show AW _ _ _ _ [.int q1.1]
  refine aw_if_eq C (tgt := 59) (off := 45) (by decide +kernel) (by decide) rfl (fun c2 => ?_) (fun c2 => ?_)
  · have hf := ift c2 hf
    exact t_m_readsTwo_59 C CR0 E hnL hgd hgr hgs v1 _ hf
  · have hf := iff_ c2 hf
    refine aw_aload_n C 0 0 (j := 0) rfl rfl (by decide +kernel) rfl ?_
    refine aw_get C (k := 20) fc_12 (la_58 E) rfl (by decide) tb_962 (by decide +kernel) rfl ?_
    refine aw_iload_n C 1 1 (j := 1) rfl rfl (by decide +kernel) rfl ?_
    refine aw_iconst C (i0 := 2) (v := 2) (by decide) (by decide +kernel) rfl ?_
    refine aw_iadd C (by decide +kernel) rfl ?_
    refine aw_icmp_ge C (tgt := 59) (off := 35) (by decide +kernel) (by decide) rfl (fun c3 => ?_) (fun c3 => ?_)
    · have hf := ift c3 hf
      exact t_m_readsTwo_59 C CR0 E hnL hgd hgr hgs v1 _ hf
    · have hf := iff_ c3 hf
      refine aw_aload_n C 0 0 (j := 0) rfl rfl (by decide +kernel) rfl ?_
      refine aw_bipush C (i0 := 10) (v := 10) (by decide) (by decide +kernel) rfl ?_
      refine aw_aload_n C 0 0 (j := 0) rfl rfl (by decide +kernel) rfl ?_
      refine aw_get C (k := 26) fc_12 (la_58 E) rfl (by decide) tb_968 (by decide +kernel) rfl ?_
      refine aw_imul C (by decide +kernel) rfl ?_
      refine aw_aload_n C 0 0 (j := 0) rfl rfl (by decide +kernel) rfl ?_
      obtain ⟨q4, hq4, hf⟩ := ibd hf
      refine aw_callV C (rest := [.int ((10 : Int32) * (q1.2.1 58 26)), .ref (gad G 58)]) (c_m_here E _ q4 hq4) tb_1171 yf_149 yi_149 (la_58 E) [] rfl rfl _ rfl (Nat.le_trans (by decide) hgd) (Nat.le_of_ble_eq_true rfl) (by decide +kernel) rfl ?_
      show AW _ _ _ _ [.int q4.1, .int ((10 : Int32) * (q1.2.1 58 26)), .ref (gad G 58)]
      refine aw_iadd C (by decide +kernel) rfl ?_
      refine aw_bipush C (i0 := 48) (v := 48) (by decide) (by decide +kernel) rfl ?_
      refine aw_isub C (by decide +kernel) rfl ?_
      obtain ⟨a5, ha5⟩ : ∃ z, z = ((((10 : Int32) * (q1.2.1 58 26)) + q4.1) - (48 : Int32)) := ⟨_, rfl⟩
      refine aw_nmi ha5 ?_
      have hf := ilt ha5 hf
      refine aw_put C (k := 26) fc_12 (la_58 E) rfl (by decide) rfl rfl tb_968 (by decide +kernel) rfl ?_
      refine aw_aload_n C 0 0 (j := 0) rfl rfl (by decide +kernel) rfl ?_
      refine aw_aload_n C 0 0 (j := 0) rfl rfl (by decide +kernel) rfl ?_
      refine aw_get C (k := 20) fc_12 (la_58 E) rfl (by decide) tb_962 (by decide +kernel) rfl ?_
      refine aw_iconst C (i0 := 1) (v := 1) (by decide) (by decide +kernel) rfl ?_
      refine aw_iadd C (by decide +kernel) rfl ?_
      obtain ⟨a6, ha6⟩ : ∃ z, z = (((sI q4.2 58 26 a5).1 58 20) + (1 : Int32)) := ⟨_, rfl⟩
      refine aw_nmi ha6 ?_
      have hf := ilt ha6 hf
      refine aw_put C (k := 20) fc_12 (la_58 E) rfl (by decide) rfl rfl tb_962 (by decide +kernel) rfl ?_
      refine aw_goto C (tgt := 10) (off := -46) (by decide +kernel) (by decide) ?_
      exact hk10 v1 _ hf
theorem u_m_readsTwo_10 {G : Cx} (C : CX G prog_14_method_40_code "PaperStarsModel") (CR0 : CR G (Option.some FieldType.boolean)) (E : LAin (gly G)) (hnL : gnL G = 2) (hgd : 2 ≤ gd G) {q : Int32 × Mm} (hgr : gr G = some (.int q.1)) (hgs : gsf G = q.2) : ∀ (n : Nat) (v1 : Int32) (st : Mm), f_m_readsTwo_10 n v1 st = some q → AW G st 10 [(0, .ref (gad G 58)), (1, .int v1)] [] := by
  intro n
  induction n with
  | zero => intro v1 st hf; cases hf
  | succ n ih => intro v1 st hf; exact t_m_readsTwo_10 C CR0 E hnL hgd hgr hgs (f_m_readsTwo_10 n) ih v1 st hf
theorem t_m_readsTwo {G : Cx} (C : CX G prog_14_method_40_code "PaperStarsModel") (CR0 : CR G (Option.some FieldType.boolean)) (E : LAin (gly G)) (hnL : gnL G = 2) (hgd : 2 ≤ gd G) {q : Int32 × Mm} (hgr : gr G = some (.int q.1)) (hgs : gsf G = q.2) (st : Mm) (hf : f_m_readsTwo st = some q) : AW G st 0 [(0, .ref (gad G 58))] [] := by
  unfold f_m_readsTwo at hf
  refine aw_aload_n C 0 0 (j := 0) rfl rfl (by decide +kernel) rfl ?_
  refine aw_get C (k := 20) fc_12 (la_58 E) rfl (by decide) tb_962 (by decide +kernel) rfl ?_
  obtain ⟨a1, ha1⟩ : ∃ z, z = (st.1 58 20) := ⟨_, rfl⟩
  refine aw_nmi ha1 ?_
  have hf := ilt ha1 hf
  refine aw_istore_n C [(1, .int a1), (0, .ref (gad G 58))] (j := 1) rfl (by rw [hnL]; decide) rfl (by decide +kernel) rfl ?_
  refine aw_aload_n C 0 1 (j := 0) rfl rfl (by decide +kernel) rfl ?_
  refine aw_iconst C (i0 := 0) (v := 0) (by decide) (by decide +kernel) rfl ?_
  refine aw_put C (k := 26) fc_12 (la_58 E) rfl (by decide) rfl rfl tb_968 (by decide +kernel) rfl ?_
  refine aw_sub [(0, .ref (gad G 58)), (1, .int a1)] [1, 0] rfl ?_
  exact u_m_readsTwo_10 C CR0 E hnL hgd hgr hgs _ a1 _ hf
theorem c_m_readsTwo {lay : Ly} (E : LAin lay) (st : Mm) (q : Int32 × Mm) (hf : f_m_readsTwo st = some q) : Con 2 Y159 prog_14_method_40_code 2 (Option.some FieldType.boolean) lay (fun ad => [.ref (ad 58)]) st (some (.int q.1)) q.2 :=
  am_met yf_159.2.2.2.2.2 (fun ad => Nat.le_of_ble_eq_true rfl) (fun G C CR0 e1 e2 e3 e4 e5 => t_m_readsTwo C CR0 (by rw [e1]; exact E) e2 (Nat.le_of_eq e5.symm) e3 e4 st hf)
def b_m_readsPlace_79 (v3 : Int32) (st : Mm) : Option (Int32 × Mm) :=
  (f_m_wrongAt (6 : Int32) v3 st).bind (fun q1 => if q1.1 = 0 ∨ q1.1 = 1 then some (q1.1, q1.2) else none)
def f_m_readsPlace (v1 : Int32) (v2 : Int32) (st : Mm) : Option (Int32 × Mm) :=
  lt_ (st.1 58 20) (fun a1 => (f_m_readsTwo st).bind (fun q2 => if q2.1 = 0 then (some ((0 : Int32), q2.2)) else (lt_ (q2.2.1 58 26) (fun a4 => (f_m_takes (44 : Int32) (sI q2.2 58 28 a4)).bind (fun q5 => if q5.1 = 0 then (some ((0 : Int32), q5.2)) else ((f_m_readsTwo q5.2).bind (fun q7 => if q7.1 = 0 then (some ((0 : Int32), q7.2)) else (lt_ (q7.2.1 58 26) (fun a9 => (f_m_isPlace ((sI q7.2 58 29 a9).1 58 28) ((sI q7.2 58 29 a9).1 58 29) (sI q7.2 58 29 a9)).bind (fun q10 => if q10.1 = 0 then (b_m_readsPlace_79 a1 q10.2) else (if (q10.2.1 58 28) < v1 then (b_m_readsPlace_79 a1 q10.2) else (if v2 ≤ (q10.2.1 58 29) then ((f_m_isDigit q10.2).bind (fun q14 => if q14.1 = 0 then (some ((1 : Int32), q14.2)) else ((f_m_wrongAt (1 : Int32) (q14.2.1 58 20) q14.2).bind (fun q16 => if q16.1 = 0 then (some ((0 : Int32), q16.2)) else (some ((1 : Int32), q16.2)))))) else (b_m_readsPlace_79 a1 q10.2)))))))))))))
theorem t_m_readsPlace_79 {G : Cx} (C : CX G prog_14_method_41_code "PaperStarsModel") (CR0 : CR G (Option.some FieldType.boolean)) (E : LAin (gly G)) (hnL : gnL G = 4) (hgd : 3 ≤ gd G) {q : Int32 × Mm} (hgr : gr G = some (.int q.1)) (hgs : gsf G = q.2) (v3 : Int32) (st : Mm) (hf : b_m_readsPlace_79 v3 st = some q) : AW G st 79 [(0, .ref (gad G 58)), (3, .int v3)] [] := by
  unfold b_m_readsPlace_79 at hf
  refine aw_aload_n C 0 0 (j := 0) rfl rfl (by decide +kernel) rfl ?_
  refine aw_bipush C (i0 := 6) (v := 6) (by decide) (by decide +kernel) rfl ?_
  refine aw_iload_n C 3 1 (j := 3) rfl rfl (by decide +kernel) rfl ?_
  obtain ⟨q1, hq1, hf⟩ := ibd hf
  refine aw_callV C (rest := []) (c_m_wrongAt E (6 : Int32) v3 _ q1 hq1) tb_1179 yf_151 yi_151 (la_58 E) [.int (6 : Int32), .int v3] rfl rfl _ rfl (Nat.le_trans (by decide) hgd) (Nat.le_of_ble_eq_true rfl) (by decide +kernel) rfl ?_
  show AW _ _ _ _ [.int q1.1]
  obtain ⟨g2, hf⟩ := igd hf
  exact aw_zretq C CR0 hgr hgs g2 hf (by decide +kernel)
theorem t_m_readsPlace {G : Cx} (C : CX G prog_14_method_41_code "PaperStarsModel") (CR0 : CR G (Option.some FieldType.boolean)) (E : LAin (gly G)) (hnL : gnL G = 4) (hgd : 3 ≤ gd G) {q : Int32 × Mm} (hgr : gr G = some (.int q.1)) (hgs : gsf G = q.2) (v1 : Int32) (v2 : Int32) (st : Mm) (hf : f_m_readsPlace v1 v2 st = some q) : AW G st 0 [(0, .ref (gad G 58)), (1, .int v1), (2, .int v2)] [] := by
  unfold f_m_readsPlace at hf
  refine aw_aload_n C 0 0 (j := 0) rfl rfl (by decide +kernel) rfl ?_
  refine aw_get C (k := 20) fc_12 (la_58 E) rfl (by decide) tb_962 (by decide +kernel) rfl ?_
  obtain ⟨a1, ha1⟩ : ∃ z, z = (st.1 58 20) := ⟨_, rfl⟩
  refine aw_nmi ha1 ?_
  have hf := ilt ha1 hf
  refine aw_istore_n C [(3, .int a1), (0, .ref (gad G 58)), (1, .int v1), (2, .int v2)] (j := 3) rfl (by rw [hnL]; decide) rfl (by decide +kernel) rfl ?_
  refine aw_aload_n C 0 1 (j := 0) rfl rfl (by decide +kernel) rfl ?_
  obtain ⟨q2, hq2, hf⟩ := ibd hf
  refine aw_callV C (rest := []) (c_m_readsTwo E _ q2 hq2) tb_1210 yf_159 yi_159 (la_58 E) [] rfl rfl _ rfl (Nat.le_trans (by decide) hgd) (Nat.le_of_ble_eq_true rfl) (by decide +kernel) rfl ?_
  show AW _ _ _ _ [.int q2.1]
  refine aw_if_ne C (tgt := 14) (off := 5) (by decide +kernel) (by decide) rfl (fun c3 => ?_) (fun c3 => ?_)
  · have hf := ift c3 hf
    refine aw_iconst C (i0 := 0) (v := 0) (by decide) (by decide +kernel) rfl ?_
    exact aw_zretq C CR0 hgr hgs (by decide) hf (by decide +kernel)
  · have hf := iff_ c3 hf
    refine aw_aload_n C 0 1 (j := 0) rfl rfl (by decide +kernel) rfl ?_
    refine aw_aload_n C 0 1 (j := 0) rfl rfl (by decide +kernel) rfl ?_
    refine aw_get C (k := 26) fc_12 (la_58 E) rfl (by decide) tb_968 (by decide +kernel) rfl ?_
    obtain ⟨a4, ha4⟩ : ∃ z, z = (q2.2.1 58 26) := ⟨_, rfl⟩
    refine aw_nmi ha4 ?_
    have hf := ilt ha4 hf
    refine aw_put C (k := 28) fc_12 (la_58 E) rfl (by decide) rfl rfl tb_970 (by decide +kernel) rfl ?_
    refine aw_aload_n C 0 1 (j := 0) rfl rfl (by decide +kernel) rfl ?_
    refine aw_bipush C (i0 := 44) (v := 44) (by decide) (by decide +kernel) rfl ?_
    obtain ⟨q5, hq5, hf⟩ := ibd hf
    refine aw_callV C (rest := []) (c_m_takes E (44 : Int32) _ q5 hq5) tb_1183 yf_152 yi_152 (la_58 E) [.int (44 : Int32)] rfl rfl _ rfl (Nat.le_trans (by decide) hgd) (Nat.le_of_ble_eq_true rfl) (by decide +kernel) rfl ?_
    show AW _ _ _ _ [.int q5.1]
    refine aw_if_eq C (tgt := 38) (off := 10) (by decide +kernel) (by decide) rfl (fun c6 => ?_) (fun c6 => ?_)
    · have hf := ift c6 hf
      refine aw_iconst C (i0 := 0) (v := 0) (by decide) (by decide +kernel) rfl ?_
      exact aw_zretq C CR0 hgr hgs (by decide) hf (by decide +kernel)
    · have hf := iff_ c6 hf
      refine aw_aload_n C 0 1 (j := 0) rfl rfl (by decide +kernel) rfl ?_
      obtain ⟨q7, hq7, hf⟩ := ibd hf
      refine aw_callV C (rest := []) (c_m_readsTwo E _ q7 hq7) tb_1210 yf_159 yi_159 (la_58 E) [] rfl rfl _ rfl (Nat.le_trans (by decide) hgd) (Nat.le_of_ble_eq_true rfl) (by decide +kernel) rfl ?_
      show AW _ _ _ _ [.int q7.1]
      refine aw_if_ne C (tgt := 40) (off := 5) (by decide +kernel) (by decide) rfl (fun c8 => ?_) (fun c8 => ?_)
      · have hf := ift c8 hf
        refine aw_iconst C (i0 := 0) (v := 0) (by decide) (by decide +kernel) rfl ?_
        exact aw_zretq C CR0 hgr hgs (by decide) hf (by decide +kernel)
      · have hf := iff_ c8 hf
        refine aw_aload_n C 0 1 (j := 0) rfl rfl (by decide +kernel) rfl ?_
        refine aw_aload_n C 0 1 (j := 0) rfl rfl (by decide +kernel) rfl ?_
        refine aw_get C (k := 26) fc_12 (la_58 E) rfl (by decide) tb_968 (by decide +kernel) rfl ?_
        obtain ⟨a9, ha9⟩ : ∃ z, z = (q7.2.1 58 26) := ⟨_, rfl⟩
        refine aw_nmi ha9 ?_
        have hf := ilt ha9 hf
        refine aw_put C (k := 29) fc_12 (la_58 E) rfl (by decide) rfl rfl tb_971 (by decide +kernel) rfl ?_
        refine aw_aload_n C 0 1 (j := 0) rfl rfl (by decide +kernel) rfl ?_
        refine aw_aload_n C 0 1 (j := 0) rfl rfl (by decide +kernel) rfl ?_
        refine aw_get C (k := 28) fc_12 (la_58 E) rfl (by decide) tb_970 (by decide +kernel) rfl ?_
        refine aw_aload_n C 0 1 (j := 0) rfl rfl (by decide +kernel) rfl ?_
        refine aw_get C (k := 29) fc_12 (la_58 E) rfl (by decide) tb_971 (by decide +kernel) rfl ?_
        obtain ⟨q10, hq10, hf⟩ := ibd hf
        refine aw_callV C (rest := []) (c_m_isPlace E ((sI q7.2 58 29 a9).1 58 28) ((sI q7.2 58 29 a9).1 58 29) _ q10 hq10) tb_1218 yf_161 yi_161 (la_58 E) [.int ((sI q7.2 58 29 a9).1 58 28), .int ((sI q7.2 58 29 a9).1 58 29)] rfl rfl _ rfl (Nat.le_trans (by decide) hgd) (Nat.le_of_ble_eq_true rfl) (by decide +kernel) rfl ?_
        show AW _ _ _ _ [.int q10.1]
        refine aw_if_eq C (tgt := 79) (off := 19) (by decide +kernel) (by decide) rfl (fun c11 => ?_) (fun c11 => ?_)
        · have hf := ift c11 hf
          refine aw_sub [(0, .ref (gad G 58)), (3, .int a1)] [1, 0] rfl ?_
          exact t_m_readsPlace_79 C CR0 E hnL hgd hgr hgs a1 _ hf
        · have hf := iff_ c11 hf
          refine aw_aload_n C 0 1 (j := 0) rfl rfl (by decide +kernel) rfl ?_
          refine aw_get C (k := 28) fc_12 (la_58 E) rfl (by decide) tb_970 (by decide +kernel) rfl ?_
          refine aw_iload_n C 1 2 (j := 1) rfl rfl (by decide +kernel) rfl ?_
          refine aw_icmp_lt C (tgt := 79) (off := 11) (by decide +kernel) (by decide) rfl (fun c12 => ?_) (fun c12 => ?_)
          · have hf := ift c12 hf
            refine aw_sub [(0, .ref (gad G 58)), (3, .int a1)] [1, 0] rfl ?_
            exact t_m_readsPlace_79 C CR0 E hnL hgd hgr hgs a1 _ hf
          · have hf := iff_ c12 hf
            refine aw_aload_n C 0 1 (j := 0) rfl rfl (by decide +kernel) rfl ?_
            refine aw_get C (k := 29) fc_12 (la_58 E) rfl (by decide) tb_971 (by decide +kernel) rfl ?_
            refine aw_iload_n C 2 3 (j := 2) rfl rfl (by decide +kernel) rfl ?_
            refine aw_icmp_ge C (tgt := 87) (off := 11) (by decide +kernel) (by decide) rfl (fun c13 => ?_) (fun c13 => ?_)
            · have hf := ift c13 hf
              refine aw_aload_n C 0 1 (j := 0) rfl rfl (by decide +kernel) rfl ?_
              obtain ⟨q14, hq14, hf⟩ := ibd hf
              refine aw_callV C (rest := []) (c_m_isDigit E _ q14 hq14) tb_1214 yf_160 yi_160 (la_58 E) [] rfl rfl _ rfl (Nat.le_trans (by decide) hgd) (Nat.le_of_ble_eq_true rfl) (by decide +kernel) rfl ?_
              show AW _ _ _ _ [.int q14.1]
              refine aw_if_eq C (tgt := 106) (off := 15) (by decide +kernel) (by decide) rfl (fun c15 => ?_) (fun c15 => ?_)
              · have hf := ift c15 hf
                refine aw_iconst C (i0 := 1) (v := 1) (by decide) (by decide +kernel) rfl ?_
                refine aw_goto C (tgt := 111) (off := 4) (by decide +kernel) (by decide) ?_
                exact aw_zretq C CR0 hgr hgs (by decide) hf (by decide +kernel)
              · have hf := iff_ c15 hf
                refine aw_aload_n C 0 1 (j := 0) rfl rfl (by decide +kernel) rfl ?_
                refine aw_iconst C (i0 := 1) (v := 1) (by decide) (by decide +kernel) rfl ?_
                refine aw_aload_n C 0 1 (j := 0) rfl rfl (by decide +kernel) rfl ?_
                refine aw_get C (k := 20) fc_12 (la_58 E) rfl (by decide) tb_962 (by decide +kernel) rfl ?_
                obtain ⟨q16, hq16, hf⟩ := ibd hf
                refine aw_callV C (rest := []) (c_m_wrongAt E (1 : Int32) (q14.2.1 58 20) _ q16 hq16) tb_1179 yf_151 yi_151 (la_58 E) [.int (1 : Int32), .int (q14.2.1 58 20)] rfl rfl _ rfl (Nat.le_trans (by decide) hgd) (Nat.le_of_ble_eq_true rfl) (by decide +kernel) rfl ?_
                show AW _ _ _ _ [.int q16.1]
                refine aw_if_eq C (tgt := 110) (off := 7) (by decide +kernel) (by decide) rfl (fun c17 => ?_) (fun c17 => ?_)
                · have hf := ift c17 hf
                  refine aw_iconst C (i0 := 0) (v := 0) (by decide) (by decide +kernel) rfl ?_
                  exact aw_zretq C CR0 hgr hgs (by decide) hf (by decide +kernel)
                · have hf := iff_ c17 hf
                  refine aw_iconst C (i0 := 1) (v := 1) (by decide) (by decide +kernel) rfl ?_
                  refine aw_goto C (tgt := 111) (off := 4) (by decide +kernel) (by decide) ?_
                  exact aw_zretq C CR0 hgr hgs (by decide) hf (by decide +kernel)
            · have hf := iff_ c13 hf
              refine aw_sub [(0, .ref (gad G 58)), (3, .int a1)] [1, 0] rfl ?_
              exact t_m_readsPlace_79 C CR0 E hnL hgd hgr hgs a1 _ hf
theorem c_m_readsPlace {lay : Ly} (E : LAin lay) (v1 : Int32) (v2 : Int32) (st : Mm) (q : Int32 × Mm) (hf : f_m_readsPlace v1 v2 st = some q) : Con 3 Y158 prog_14_method_41_code 4 (Option.some FieldType.boolean) lay (fun ad => [.ref (ad 58), .int v1, .int v2]) st (some (.int q.1)) q.2 :=
  am_met yf_158.2.2.2.2.2 (fun ad => Nat.le_of_ble_eq_true rfl) (fun G C CR0 e1 e2 e3 e4 e5 => t_m_readsPlace C CR0 (by rw [e1]; exact E) e2 (Nat.le_of_eq e5.symm) e3 e4 v1 v2 st hf)
def f_m_readsMany (st : Mm) : Option (Int32 × Mm) :=
  (f_m_readsPlace (0 : Int32) (0 : Int32) st).bind (fun q1 => if q1.1 = 0 then (some ((0 : Int32), q1.2)) else (lt_ (q1.2.1 58 28) (fun a3 => lt_ (q1.2.1 58 29) (fun a4 => (f_m_takes (45 : Int32) q1.2).bind (fun q5 => if q5.1 = 0 then (some ((0 : Int32), q5.2)) else ((f_m_readsPlace a3 a4 q5.2).bind (fun q7 => if q7.1 = 0 then (some ((0 : Int32), q7.2)) else ((f_m_cuts a3 a4 (q7.2.1 58 28) (q7.2.1 58 29) q7.2).bind (fun q9 => some ((1 : Int32), q9.2))))))))))
theorem t_m_readsMany {G : Cx} (C : CX G prog_14_method_43_code "PaperStarsModel") (CR0 : CR G (Option.some FieldType.boolean)) (E : LAin (gly G)) (hnL : gnL G = 3) (hgd : 4 ≤ gd G) {q : Int32 × Mm} (hgr : gr G = some (.int q.1)) (hgs : gsf G = q.2) (st : Mm) (hf : f_m_readsMany st = some q) : AW G st 0 [(0, .ref (gad G 58))] [] := by
  unfold f_m_readsMany at hf
  refine aw_aload_n C 0 0 (j := 0) rfl rfl (by decide +kernel) rfl ?_
  refine aw_iconst C (i0 := 0) (v := 0) (by decide) (by decide +kernel) rfl ?_
  refine aw_iconst C (i0 := 0) (v := 0) (by decide) (by decide +kernel) rfl ?_
  obtain ⟨q1, hq1, hf⟩ := ibd hf
  refine aw_callV C (rest := []) (c_m_readsPlace E (0 : Int32) (0 : Int32) _ q1 hq1) tb_1206 yf_158 yi_158 (la_58 E) [.int (0 : Int32), .int (0 : Int32)] rfl rfl _ rfl (Nat.le_trans (by decide) hgd) (Nat.le_of_ble_eq_true rfl) (by decide +kernel) rfl ?_
  show AW _ _ _ _ [.int q1.1]
  refine aw_if_ne C (tgt := 11) (off := 5) (by decide +kernel) (by decide) rfl (fun c2 => ?_) (fun c2 => ?_)
  · have hf := ift c2 hf
    refine aw_iconst C (i0 := 0) (v := 0) (by decide) (by decide +kernel) rfl ?_
    exact aw_zretq C CR0 hgr hgs (by decide) hf (by decide +kernel)
  · have hf := iff_ c2 hf
    refine aw_aload_n C 0 0 (j := 0) rfl rfl (by decide +kernel) rfl ?_
    refine aw_get C (k := 28) fc_12 (la_58 E) rfl (by decide) tb_970 (by decide +kernel) rfl ?_
    obtain ⟨a3, ha3⟩ : ∃ z, z = (q1.2.1 58 28) := ⟨_, rfl⟩
    refine aw_nmi ha3 ?_
    have hf := ilt ha3 hf
    refine aw_istore_n C [(1, .int a3), (0, .ref (gad G 58))] (j := 1) rfl (by rw [hnL]; decide) rfl (by decide +kernel) rfl ?_
    refine aw_aload_n C 0 1 (j := 0) rfl rfl (by decide +kernel) rfl ?_
    refine aw_get C (k := 29) fc_12 (la_58 E) rfl (by decide) tb_971 (by decide +kernel) rfl ?_
    obtain ⟨a4, ha4⟩ : ∃ z, z = (q1.2.1 58 29) := ⟨_, rfl⟩
    refine aw_nmi ha4 ?_
    have hf := ilt ha4 hf
    refine aw_istore_n C [(2, .int a4), (1, .int a3), (0, .ref (gad G 58))] (j := 2) rfl (by rw [hnL]; decide) rfl (by decide +kernel) rfl ?_
    refine aw_aload_n C 0 2 (j := 0) rfl rfl (by decide +kernel) rfl ?_
    refine aw_bipush C (i0 := 45) (v := 45) (by decide) (by decide +kernel) rfl ?_
    obtain ⟨q5, hq5, hf⟩ := ibd hf
    refine aw_callV C (rest := []) (c_m_takes E (45 : Int32) _ q5 hq5) tb_1183 yf_152 yi_152 (la_58 E) [.int (45 : Int32)] rfl rfl _ rfl (Nat.le_trans (by decide) hgd) (Nat.le_of_ble_eq_true rfl) (by decide +kernel) rfl ?_
    show AW _ _ _ _ [.int q5.1]
    refine aw_if_eq C (tgt := 39) (off := 12) (by decide +kernel) (by decide) rfl (fun c6 => ?_) (fun c6 => ?_)
    · have hf := ift c6 hf
      refine aw_iconst C (i0 := 0) (v := 0) (by decide) (by decide +kernel) rfl ?_
      exact aw_zretq C CR0 hgr hgs (by decide) hf (by decide +kernel)
    · have hf := iff_ c6 hf
      refine aw_aload_n C 0 2 (j := 0) rfl rfl (by decide +kernel) rfl ?_
      refine aw_iload_n C 1 1 (j := 1) rfl rfl (by decide +kernel) rfl ?_
      refine aw_iload_n C 2 0 (j := 2) rfl rfl (by decide +kernel) rfl ?_
      obtain ⟨q7, hq7, hf⟩ := ibd hf
      refine aw_callV C (rest := []) (c_m_readsPlace E a3 a4 _ q7 hq7) tb_1206 yf_158 yi_158 (la_58 E) [.int a3, .int a4] rfl rfl _ rfl (Nat.le_trans (by decide) hgd) (Nat.le_of_ble_eq_true rfl) (by decide +kernel) rfl ?_
      show AW _ _ _ _ [.int q7.1]
      refine aw_if_ne C (tgt := 41) (off := 5) (by decide +kernel) (by decide) rfl (fun c8 => ?_) (fun c8 => ?_)
      · have hf := ift c8 hf
        refine aw_iconst C (i0 := 0) (v := 0) (by decide) (by decide +kernel) rfl ?_
        exact aw_zretq C CR0 hgr hgs (by decide) hf (by decide +kernel)
      · have hf := iff_ c8 hf
        refine aw_aload_n C 0 2 (j := 0) rfl rfl (by decide +kernel) rfl ?_
        refine aw_iload_n C 1 1 (j := 1) rfl rfl (by decide +kernel) rfl ?_
        refine aw_iload_n C 2 0 (j := 2) rfl rfl (by decide +kernel) rfl ?_
        refine aw_aload_n C 0 2 (j := 0) rfl rfl (by decide +kernel) rfl ?_
        refine aw_get C (k := 28) fc_12 (la_58 E) rfl (by decide) tb_970 (by decide +kernel) rfl ?_
        refine aw_aload_n C 0 2 (j := 0) rfl rfl (by decide +kernel) rfl ?_
        refine aw_get C (k := 29) fc_12 (la_58 E) rfl (by decide) tb_971 (by decide +kernel) rfl ?_
        obtain ⟨q9, hq9, hf⟩ := ibd hf
        refine aw_callV C (rest := []) (c_m_cuts E a3 a4 (q7.2.1 58 28) (q7.2.1 58 29) _ q9 hq9) tb_1222 yf_162 yi_162 (la_58 E) [.int a3, .int a4, .int (q7.2.1 58 28), .int (q7.2.1 58 29)] rfl rfl _ rfl (Nat.le_trans (by decide) hgd) (Nat.le_of_ble_eq_true rfl) (by decide +kernel) rfl ?_
        show AW _ _ _ _ []
        refine aw_iconst C (i0 := 1) (v := 1) (by decide) (by decide +kernel) rfl ?_
        exact aw_zretq C CR0 hgr hgs (by decide) hf (by decide +kernel)
theorem c_m_readsMany {lay : Ly} (E : LAin lay) (st : Mm) (q : Int32 × Mm) (hf : f_m_readsMany st = some q) : Con 4 Y163 prog_14_method_43_code 3 (Option.some FieldType.boolean) lay (fun ad => [.ref (ad 58)]) st (some (.int q.1)) q.2 :=
  am_met yf_163.2.2.2.2.2 (fun ad => Nat.le_of_ble_eq_true rfl) (fun G C CR0 e1 e2 e3 e4 e5 => t_m_readsMany C CR0 (by rw [e1]; exact E) e2 (Nat.le_of_eq e5.symm) e3 e4 st hf)
def b_m_readsSnip_33 (v1 : Int32) (st : Mm) : Option (Int32 × Mm) :=
  if (st.1 58 27) = (12 : Int32) then ((f_m_wrongAt (4 : Int32) (st.1 58 20) st).bind (fun q2 => if q2.1 = 0 ∨ q2.1 = 1 then some (q2.1, q2.2) else none)) else (lt_ ((st.1 58 20) + (1 : Int32)) (fun a4 => if v1 = (115 : Int32) then ((f_m_readsPlace (0 : Int32) (0 : Int32) (sI st 58 20 a4)).bind (fun q6 => if q6.1 = 0 then (some ((0 : Int32), q6.2)) else ((f_m_cuts (q6.2.1 58 28) (q6.2.1 58 29) (q6.2.1 58 28) (q6.2.1 58 29) q6.2).bind (fun q8 => lt_ ((q8.2.1 58 27) + (1 : Int32)) (fun a9 => some ((1 : Int32), (sI q8.2 58 27 a9))))))) else (if v1 = (114 : Int32) then ((f_m_readsMany (sI st 58 20 a4)).bind (fun q11 => if q11.1 = 0 then (some ((0 : Int32), q11.2)) else (lt_ ((q11.2.1 58 27) + (1 : Int32)) (fun a13 => some ((1 : Int32), (sI q11.2 58 27 a13)))))) else ((f_m_readsLawful (sI st 58 20 a4)).bind (fun q14 => if q14.1 = 0 then (some ((0 : Int32), q14.2)) else (lt_ ((q14.2.1 58 27) + (1 : Int32)) (fun a16 => some ((1 : Int32), (sI q14.2 58 27 a16)))))))))
def f_m_readsSnip (st : Mm) : Option (Int32 × Mm) :=
  (f_m_here st).bind (fun q1 => if q1.1 = (115 : Int32) then (b_m_readsSnip_33 q1.1 q1.2) else (if q1.1 = (114 : Int32) then (b_m_readsSnip_33 q1.1 q1.2) else (if q1.1 = (99 : Int32) then (b_m_readsSnip_33 q1.1 q1.2) else ((f_m_wrongAt (1 : Int32) (q1.2.1 58 20) q1.2).bind (fun q5 => if q5.1 = 0 ∨ q5.1 = 1 then some (q5.1, q5.2) else none)))))
theorem t_m_readsSnip_33 {G : Cx} (C : CX G prog_14_method_45_code "PaperStarsModel") (CR0 : CR G (Option.some FieldType.boolean)) (E : LAin (gly G)) (hnL : gnL G = 2) (hgd : 8 ≤ gd G) {q : Int32 × Mm} (hgr : gr G = some (.int q.1)) (hgs : gsf G = q.2) (v1 : Int32) (st : Mm) (hf : b_m_readsSnip_33 v1 st = some q) : AW G st 33 [(0, .ref (gad G 58)), (1, .int v1)] [] := by
  unfold b_m_readsSnip_33 at hf
  refine aw_aload_n C 0 0 (j := 0) rfl rfl (by decide +kernel) rfl ?_
  refine aw_get C (k := 27) fc_12 (la_58 E) rfl (by decide) tb_969 (by decide +kernel) rfl ?_
  refine aw_bipush C (i0 := 12) (v := 12) (by decide) (by decide +kernel) rfl ?_
  refine aw_icmp_ne C (tgt := 52) (off := 13) (by decide +kernel) (by decide) rfl (fun c1 => ?_) (fun c1 => ?_)
  · have hf := ift c1 hf
    refine aw_aload_n C 0 0 (j := 0) rfl rfl (by decide +kernel) rfl ?_
    refine aw_iconst C (i0 := 4) (v := 4) (by decide) (by decide +kernel) rfl ?_
    refine aw_aload_n C 0 0 (j := 0) rfl rfl (by decide +kernel) rfl ?_
    refine aw_get C (k := 20) fc_12 (la_58 E) rfl (by decide) tb_962 (by decide +kernel) rfl ?_
    obtain ⟨q2, hq2, hf⟩ := ibd hf
    refine aw_callV C (rest := []) (c_m_wrongAt E (4 : Int32) (st.1 58 20) _ q2 hq2) tb_1179 yf_151 yi_151 (la_58 E) [.int (4 : Int32), .int (st.1 58 20)] rfl rfl _ rfl (Nat.le_trans (by decide) hgd) (Nat.le_of_ble_eq_true rfl) (by decide +kernel) rfl ?_
    show AW _ _ _ _ [.int q2.1]
    obtain ⟨g3, hf⟩ := igd hf
    exact aw_zretq C CR0 hgr hgs g3 hf (by decide +kernel)
  · have hf := iff_ c1 hf
    refine aw_aload_n C 0 0 (j := 0) rfl rfl (by decide +kernel) rfl ?_
    refine aw_aload_n C 0 0 (j := 0) rfl rfl (by decide +kernel) rfl ?_
    refine aw_get C (k := 20) fc_12 (la_58 E) rfl (by decide) tb_962 (by decide +kernel) rfl ?_
    refine aw_iconst C (i0 := 1) (v := 1) (by decide) (by decide +kernel) rfl ?_
    refine aw_iadd C (by decide +kernel) rfl ?_
    obtain ⟨a4, ha4⟩ : ∃ z, z = ((st.1 58 20) + (1 : Int32)) := ⟨_, rfl⟩
    refine aw_nmi ha4 ?_
    have hf := ilt ha4 hf
    refine aw_put C (k := 20) fc_12 (la_58 E) rfl (by decide) rfl rfl tb_962 (by decide +kernel) rfl ?_
    refine aw_iload_n C 1 1 (j := 1) rfl rfl (by decide +kernel) rfl ?_
    refine aw_bipush C (i0 := 115) (v := 115) (by decide) (by decide +kernel) rfl ?_
    refine aw_icmp_ne C (tgt := 102) (off := 37) (by decide +kernel) (by decide) rfl (fun c5 => ?_) (fun c5 => ?_)
    · have hf := ift c5 hf
      refine aw_aload_n C 0 0 (j := 0) rfl rfl (by decide +kernel) rfl ?_
      refine aw_iconst C (i0 := 0) (v := 0) (by decide) (by decide +kernel) rfl ?_
      refine aw_iconst C (i0 := 0) (v := 0) (by decide) (by decide +kernel) rfl ?_
      obtain ⟨q6, hq6, hf⟩ := ibd hf
      refine aw_callV C (rest := []) (c_m_readsPlace E (0 : Int32) (0 : Int32) _ q6 hq6) tb_1206 yf_158 yi_158 (la_58 E) [.int (0 : Int32), .int (0 : Int32)] rfl rfl _ rfl (Nat.le_trans (by decide) hgd) (Nat.le_of_ble_eq_true rfl) (by decide +kernel) rfl ?_
      show AW _ _ _ _ [.int q6.1]
      refine aw_if_ne C (tgt := 79) (off := 5) (by decide +kernel) (by decide) rfl (fun c7 => ?_) (fun c7 => ?_)
      · have hf := ift c7 hf
        refine aw_iconst C (i0 := 0) (v := 0) (by decide) (by decide +kernel) rfl ?_
        exact aw_zretq C CR0 hgr hgs (by decide) hf (by decide +kernel)
      · have hf := iff_ c7 hf
        refine aw_aload_n C 0 0 (j := 0) rfl rfl (by decide +kernel) rfl ?_
        refine aw_aload_n C 0 0 (j := 0) rfl rfl (by decide +kernel) rfl ?_
        refine aw_get C (k := 28) fc_12 (la_58 E) rfl (by decide) tb_970 (by decide +kernel) rfl ?_
        refine aw_aload_n C 0 0 (j := 0) rfl rfl (by decide +kernel) rfl ?_
        refine aw_get C (k := 29) fc_12 (la_58 E) rfl (by decide) tb_971 (by decide +kernel) rfl ?_
        refine aw_aload_n C 0 0 (j := 0) rfl rfl (by decide +kernel) rfl ?_
        refine aw_get C (k := 28) fc_12 (la_58 E) rfl (by decide) tb_970 (by decide +kernel) rfl ?_
        refine aw_aload_n C 0 0 (j := 0) rfl rfl (by decide +kernel) rfl ?_
        refine aw_get C (k := 29) fc_12 (la_58 E) rfl (by decide) tb_971 (by decide +kernel) rfl ?_
        obtain ⟨q8, hq8, hf⟩ := ibd hf
        refine aw_callV C (rest := []) (c_m_cuts E (q6.2.1 58 28) (q6.2.1 58 29) (q6.2.1 58 28) (q6.2.1 58 29) _ q8 hq8) tb_1222 yf_162 yi_162 (la_58 E) [.int (q6.2.1 58 28), .int (q6.2.1 58 29), .int (q6.2.1 58 28), .int (q6.2.1 58 29)] rfl rfl _ rfl (Nat.le_trans (by decide) hgd) (Nat.le_of_ble_eq_true rfl) (by decide +kernel) rfl ?_
        show AW _ _ _ _ []
        refine aw_goto C (tgt := 127) (off := 28) (by decide +kernel) (by decide) ?_
        refine aw_aload_n C 0 0 (j := 0) rfl rfl (by decide +kernel) rfl ?_
        refine aw_aload_n C 0 0 (j := 0) rfl rfl (by decide +kernel) rfl ?_
        refine aw_get C (k := 27) fc_12 (la_58 E) rfl (by decide) tb_969 (by decide +kernel) rfl ?_
        refine aw_iconst C (i0 := 1) (v := 1) (by decide) (by decide +kernel) rfl ?_
        refine aw_iadd C (by decide +kernel) rfl ?_
        obtain ⟨a9, ha9⟩ : ∃ z, z = ((q8.2.1 58 27) + (1 : Int32)) := ⟨_, rfl⟩
        refine aw_nmi ha9 ?_
        have hf := ilt ha9 hf
        refine aw_put C (k := 27) fc_12 (la_58 E) rfl (by decide) rfl rfl tb_969 (by decide +kernel) rfl ?_
        refine aw_iconst C (i0 := 1) (v := 1) (by decide) (by decide +kernel) rfl ?_
        exact aw_zretq C CR0 hgr hgs (by decide) hf (by decide +kernel)
    · have hf := iff_ c5 hf
      refine aw_iload_n C 1 1 (j := 1) rfl rfl (by decide +kernel) rfl ?_
      refine aw_bipush C (i0 := 114) (v := 114) (by decide) (by decide +kernel) rfl ?_
      refine aw_icmp_ne C (tgt := 118) (off := 13) (by decide +kernel) (by decide) rfl (fun c10 => ?_) (fun c10 => ?_)
      · have hf := ift c10 hf
        refine aw_aload_n C 0 0 (j := 0) rfl rfl (by decide +kernel) rfl ?_
        obtain ⟨q11, hq11, hf⟩ := ibd hf
        refine aw_callV C (rest := []) (c_m_readsMany E _ q11 hq11) tb_1226 yf_163 yi_163 (la_58 E) [] rfl rfl _ rfl (Nat.le_trans (by decide) hgd) (Nat.le_of_ble_eq_true rfl) (by decide +kernel) rfl ?_
        show AW _ _ _ _ [.int q11.1]
        refine aw_if_ne C (tgt := 127) (off := 15) (by decide +kernel) (by decide) rfl (fun c12 => ?_) (fun c12 => ?_)
        · have hf := ift c12 hf
          refine aw_goto C (tgt := 125) (off := 10) (by decide +kernel) (by decide) ?_
          refine aw_iconst C (i0 := 0) (v := 0) (by decide) (by decide +kernel) rfl ?_
          exact aw_zretq C CR0 hgr hgs (by decide) hf (by decide +kernel)
        · have hf := iff_ c12 hf
          refine aw_aload_n C 0 0 (j := 0) rfl rfl (by decide +kernel) rfl ?_
          refine aw_aload_n C 0 0 (j := 0) rfl rfl (by decide +kernel) rfl ?_
          refine aw_get C (k := 27) fc_12 (la_58 E) rfl (by decide) tb_969 (by decide +kernel) rfl ?_
          refine aw_iconst C (i0 := 1) (v := 1) (by decide) (by decide +kernel) rfl ?_
          refine aw_iadd C (by decide +kernel) rfl ?_
          obtain ⟨a13, ha13⟩ : ∃ z, z = ((q11.2.1 58 27) + (1 : Int32)) := ⟨_, rfl⟩
          refine aw_nmi ha13 ?_
          have hf := ilt ha13 hf
          refine aw_put C (k := 27) fc_12 (la_58 E) rfl (by decide) rfl rfl tb_969 (by decide +kernel) rfl ?_
          refine aw_iconst C (i0 := 1) (v := 1) (by decide) (by decide +kernel) rfl ?_
          exact aw_zretq C CR0 hgr hgs (by decide) hf (by decide +kernel)
      · have hf := iff_ c10 hf
        refine aw_aload_n C 0 0 (j := 0) rfl rfl (by decide +kernel) rfl ?_
        obtain ⟨q14, hq14, hf⟩ := ibd hf
        refine aw_callV C (rest := []) (c_m_readsLawful E _ q14 hq14) tb_1230 yf_164 yi_164 (la_58 E) [] rfl rfl _ rfl (Nat.le_trans (by decide) hgd) (Nat.le_of_ble_eq_true rfl) (by decide +kernel) rfl ?_
        show AW _ _ _ _ [.int q14.1]
        refine aw_if_ne C (tgt := 127) (off := 5) (by decide +kernel) (by decide) rfl (fun c15 => ?_) (fun c15 => ?_)
        · have hf := ift c15 hf
          refine aw_iconst C (i0 := 0) (v := 0) (by decide) (by decide +kernel) rfl ?_
          exact aw_zretq C CR0 hgr hgs (by decide) hf (by decide +kernel)
        · have hf := iff_ c15 hf
          refine aw_aload_n C 0 0 (j := 0) rfl rfl (by decide +kernel) rfl ?_
          refine aw_aload_n C 0 0 (j := 0) rfl rfl (by decide +kernel) rfl ?_
          refine aw_get C (k := 27) fc_12 (la_58 E) rfl (by decide) tb_969 (by decide +kernel) rfl ?_
          refine aw_iconst C (i0 := 1) (v := 1) (by decide) (by decide +kernel) rfl ?_
          refine aw_iadd C (by decide +kernel) rfl ?_
          obtain ⟨a16, ha16⟩ : ∃ z, z = ((q14.2.1 58 27) + (1 : Int32)) := ⟨_, rfl⟩
          refine aw_nmi ha16 ?_
          have hf := ilt ha16 hf
          refine aw_put C (k := 27) fc_12 (la_58 E) rfl (by decide) rfl rfl tb_969 (by decide +kernel) rfl ?_
          refine aw_iconst C (i0 := 1) (v := 1) (by decide) (by decide +kernel) rfl ?_
          exact aw_zretq C CR0 hgr hgs (by decide) hf (by decide +kernel)
theorem t_m_readsSnip {G : Cx} (C : CX G prog_14_method_45_code "PaperStarsModel") (CR0 : CR G (Option.some FieldType.boolean)) (E : LAin (gly G)) (hnL : gnL G = 2) (hgd : 8 ≤ gd G) {q : Int32 × Mm} (hgr : gr G = some (.int q.1)) (hgs : gsf G = q.2) (st : Mm) (hf : f_m_readsSnip st = some q) : AW G st 0 [(0, .ref (gad G 58))] [] := by
  unfold f_m_readsSnip at hf
  refine aw_aload_n C 0 0 (j := 0) rfl rfl (by decide +kernel) rfl ?_
  obtain ⟨q1, hq1, hf⟩ := ibd hf
  refine aw_callV C (rest := []) (c_m_here E _ q1 hq1) tb_1171 yf_149 yi_149 (la_58 E) [] rfl rfl _ rfl (Nat.le_trans (by decide) hgd) (Nat.le_of_ble_eq_true rfl) (by decide +kernel) rfl ?_
  show AW _ _ _ _ [.int q1.1]
  refine aw_istore_n C [(1, .int q1.1), (0, .ref (gad G 58))] (j := 1) rfl (by rw [hnL]; decide) rfl (by decide +kernel) rfl ?_
  refine aw_iload_n C 1 0 (j := 1) rfl rfl (by decide +kernel) rfl ?_
  refine aw_bipush C (i0 := 115) (v := 115) (by decide) (by decide +kernel) rfl ?_
  refine aw_icmp_eq C (tgt := 33) (off := 25) (by decide +kernel) (by decide) rfl (fun c2 => ?_) (fun c2 => ?_)
  · have hf := ift c2 hf
    refine aw_sub [(0, .ref (gad G 58)), (1, .int q1.1)] [1, 0] rfl ?_
    exact t_m_readsSnip_33 C CR0 E hnL hgd hgr hgs q1.1 _ hf
  · have hf := iff_ c2 hf
    refine aw_iload_n C 1 0 (j := 1) rfl rfl (by decide +kernel) rfl ?_
    refine aw_bipush C (i0 := 114) (v := 114) (by decide) (by decide +kernel) rfl ?_
    refine aw_icmp_eq C (tgt := 33) (off := 19) (by decide +kernel) (by decide) rfl (fun c3 => ?_) (fun c3 => ?_)
    · have hf := ift c3 hf
      refine aw_sub [(0, .ref (gad G 58)), (1, .int q1.1)] [1, 0] rfl ?_
      exact t_m_readsSnip_33 C CR0 E hnL hgd hgr hgs q1.1 _ hf
    · have hf := iff_ c3 hf
      refine aw_iload_n C 1 0 (j := 1) rfl rfl (by decide +kernel) rfl ?_
      refine aw_bipush C (i0 := 99) (v := 99) (by decide) (by decide +kernel) rfl ?_
      refine aw_icmp_eq C (tgt := 33) (off := 13) (by decide +kernel) (by decide) rfl (fun c4 => ?_) (fun c4 => ?_)
      · have hf := ift c4 hf
        refine aw_sub [(0, .ref (gad G 58)), (1, .int q1.1)] [1, 0] rfl ?_
        exact t_m_readsSnip_33 C CR0 E hnL hgd hgr hgs q1.1 _ hf
      · have hf := iff_ c4 hf
        refine aw_aload_n C 0 1 (j := 0) rfl rfl (by decide +kernel) rfl ?_
        refine aw_iconst C (i0 := 1) (v := 1) (by decide) (by decide +kernel) rfl ?_
        refine aw_aload_n C 0 1 (j := 0) rfl rfl (by decide +kernel) rfl ?_
        refine aw_get C (k := 20) fc_12 (la_58 E) rfl (by decide) tb_962 (by decide +kernel) rfl ?_
        obtain ⟨q5, hq5, hf⟩ := ibd hf
        refine aw_callV C (rest := []) (c_m_wrongAt E (1 : Int32) (q1.2.1 58 20) _ q5 hq5) tb_1179 yf_151 yi_151 (la_58 E) [.int (1 : Int32), .int (q1.2.1 58 20)] rfl rfl _ rfl (Nat.le_trans (by decide) hgd) (Nat.le_of_ble_eq_true rfl) (by decide +kernel) rfl ?_
        show AW _ _ _ _ [.int q5.1]
        obtain ⟨g6, hf⟩ := igd hf
        exact aw_zretq C CR0 hgr hgs g6 hf (by decide +kernel)
theorem c_m_readsSnip {lay : Ly} (E : LAin lay) (st : Mm) (q : Int32 × Mm) (hf : f_m_readsSnip st = some q) : Con 8 Y157 prog_14_method_45_code 2 (Option.some FieldType.boolean) lay (fun ad => [.ref (ad 58)]) st (some (.int q.1)) q.2 :=
  am_met yf_157.2.2.2.2.2 (fun ad => Nat.le_of_ble_eq_true rfl) (fun G C CR0 e1 e2 e3 e4 e5 => t_m_readsSnip C CR0 (by rw [e1]; exact E) e2 (Nat.le_of_eq e5.symm) e3 e4 st hf)
def b_m_readsRecipe_49 (k49 : Mm → Option (Int32 × Mm)) (st : Mm) : Option (Int32 × Mm) :=
  if (st.1 58 21) ≤ (st.1 58 20) then (some ((1 : Int32), st)) else ((f_m_takes (59 : Int32) st).bind (fun q2 => if q2.1 = 0 then (some ((0 : Int32), q2.2)) else ((f_m_readsSnip q2.2).bind (fun q4 => if q4.1 = 0 then (some ((0 : Int32), q4.2)) else (k49 q4.2)))))
def f_m_readsRecipe_49 : Nat → Mm → Option (Int32 × Mm)
  | 0 => fun  _ => none
  | n + 1 => b_m_readsRecipe_49 (f_m_readsRecipe_49 n)
def b_m_readsRecipe_35 (st : Mm) : Option (Int32 × Mm) :=
  (f_m_readsSnip (sI st 58 27 (0 : Int32))).bind (fun q1 => if q1.1 = 0 then (some ((0 : Int32), q1.2)) else (f_m_readsRecipe_49 1000000 q1.2))
def b_m_readsRecipe_15 (k15 : Int32 → Mm → Option (Int32 × Mm)) (v1 : Int32) (st : Mm) : Option (Int32 × Mm) :=
  if (256 : Int32) ≤ v1 then (b_m_readsRecipe_35 st) else (if inb v1 256 then lt_ (v1 + (1 : Int32)) (fun a3 => k15 a3 (sI st 69 v1.toNatClampNeg (0 : Int32))) else none)
def f_m_readsRecipe_15 : Nat → Int32 → Mm → Option (Int32 × Mm)
  | 0 => fun _ _ => none
  | n + 1 => b_m_readsRecipe_15 (f_m_readsRecipe_15 n)
def f_m_readsRecipe (st : Mm) : Option (Int32 × Mm) :=
  (f_m_readsFolds st).bind (fun q1 => if q1.1 = 0 then (some ((0 : Int32), q1.2)) else ((f_m_laysLayers q1.2).bind (fun q3 => f_m_readsRecipe_15 1000000 (0 : Int32) q3.2)))
theorem t_m_readsRecipe_49 {G : Cx} (C : CX G prog_14_method_47_code "PaperStarsModel") (CR0 : CR G (Option.some FieldType.boolean)) (E : LAin (gly G)) (hnL : gnL G = 2) (hgd : 9 ≤ gd G) {q : Int32 × Mm} (hgr : gr G = some (.int q.1)) (hgs : gsf G = q.2) (k49 : Mm → Option (Int32 × Mm)) (hk49 : ∀ (st : Mm), k49 st = some q → AW G st 49 [(0, .ref (gad G 58))] []) (st : Mm) (hf : b_m_readsRecipe_49 k49 st = some q) : AW G st 49 [(0, .ref (gad G 58))] [] := by
  unfold b_m_readsRecipe_49 at hf
  refine aw_aload_n C 0 0 (j := 0) rfl rfl (by decide +kernel) rfl ?_
  refine aw_get C (k := 20) fc_12 (la_58 E) rfl (by decide) tb_962 (by decide +kernel) rfl ?_
  refine aw_aload_n C 0 0 (j := 0) rfl rfl (by decide +kernel) rfl ?_
  refine aw_get C (k := 21) fc_12 (la_58 E) rfl (by decide) tb_963 (by decide +kernel) rfl ?_
  refine aw_icmp_ge C (tgt := 78) (off := 21) (by decide +kernel) (by decide) rfl (fun c1 => ?_) (fun c1 => ?_)
  · have hf := ift c1 hf
    refine aw_iconst C (i0 := 1) (v := 1) (by decide) (by decide +kernel) rfl ?_
    exact aw_zretq C CR0 hgr hgs (by decide) hf (by decide +kernel)
  · have hf := iff_ c1 hf
    refine aw_aload_n C 0 0 (j := 0) rfl rfl (by decide +kernel) rfl ?_
    refine aw_bipush C (i0 := 59) (v := 59) (by decide) (by decide +kernel) rfl ?_
    obtain ⟨q2, hq2, hf⟩ := ibd hf
    refine aw_callV C (rest := []) (c_m_takes E (59 : Int32) _ q2 hq2) tb_1183 yf_152 yi_152 (la_58 E) [.int (59 : Int32)] rfl rfl _ rfl (Nat.le_trans (by decide) hgd) (Nat.le_of_ble_eq_true rfl) (by decide +kernel) rfl ?_
    show AW _ _ _ _ [.int q2.1]
    refine aw_if_eq C (tgt := 76) (off := 10) (by decide +kernel) (by decide) rfl (fun c3 => ?_) (fun c3 => ?_)
    · have hf := ift c3 hf
      refine aw_iconst C (i0 := 0) (v := 0) (by decide) (by decide +kernel) rfl ?_
      exact aw_zretq C CR0 hgr hgs (by decide) hf (by decide +kernel)
    · have hf := iff_ c3 hf
      refine aw_aload_n C 0 0 (j := 0) rfl rfl (by decide +kernel) rfl ?_
      obtain ⟨q4, hq4, hf⟩ := ibd hf
      refine aw_callV C (rest := []) (c_m_readsSnip E _ q4 hq4) tb_1202 yf_157 yi_157 (la_58 E) [] rfl rfl _ rfl (Nat.le_trans (by decide) hgd) (Nat.le_of_ble_eq_true rfl) (by decide +kernel) rfl ?_
      show AW _ _ _ _ [.int q4.1]
      refine aw_if_ne C (tgt := 49) (off := -24) (by decide +kernel) (by decide) rfl (fun c5 => ?_) (fun c5 => ?_)
      · have hf := ift c5 hf
        refine aw_iconst C (i0 := 0) (v := 0) (by decide) (by decide +kernel) rfl ?_
        exact aw_zretq C CR0 hgr hgs (by decide) hf (by decide +kernel)
      · have hf := iff_ c5 hf
        exact hk49 _ hf
theorem u_m_readsRecipe_49 {G : Cx} (C : CX G prog_14_method_47_code "PaperStarsModel") (CR0 : CR G (Option.some FieldType.boolean)) (E : LAin (gly G)) (hnL : gnL G = 2) (hgd : 9 ≤ gd G) {q : Int32 × Mm} (hgr : gr G = some (.int q.1)) (hgs : gsf G = q.2) : ∀ (n : Nat) (st : Mm), f_m_readsRecipe_49 n st = some q → AW G st 49 [(0, .ref (gad G 58))] [] := by
  intro n
  induction n with
  | zero => intro st hf; cases hf
  | succ n ih => intro st hf; exact t_m_readsRecipe_49 C CR0 E hnL hgd hgr hgs (f_m_readsRecipe_49 n) ih st hf
theorem t_m_readsRecipe_35 {G : Cx} (C : CX G prog_14_method_47_code "PaperStarsModel") (CR0 : CR G (Option.some FieldType.boolean)) (E : LAin (gly G)) (hnL : gnL G = 2) (hgd : 9 ≤ gd G) {q : Int32 × Mm} (hgr : gr G = some (.int q.1)) (hgs : gsf G = q.2) (st : Mm) (hf : b_m_readsRecipe_35 st = some q) : AW G st 35 [(0, .ref (gad G 58))] [] := by
  unfold b_m_readsRecipe_35 at hf
  refine aw_aload_n C 0 0 (j := 0) rfl rfl (by decide +kernel) rfl ?_
  refine aw_iconst C (i0 := 0) (v := 0) (by decide) (by decide +kernel) rfl ?_
  refine aw_put C (k := 27) fc_12 (la_58 E) rfl (by decide) rfl rfl tb_969 (by decide +kernel) rfl ?_
  refine aw_aload_n C 0 0 (j := 0) rfl rfl (by decide +kernel) rfl ?_
  obtain ⟨q1, hq1, hf⟩ := ibd hf
  refine aw_callV C (rest := []) (c_m_readsSnip E _ q1 hq1) tb_1202 yf_157 yi_157 (la_58 E) [] rfl rfl _ rfl (Nat.le_trans (by decide) hgd) (Nat.le_of_ble_eq_true rfl) (by decide +kernel) rfl ?_
  show AW _ _ _ _ [.int q1.1]
  refine aw_if_ne C (tgt := 49) (off := 5) (by decide +kernel) (by decide) rfl (fun c2 => ?_) (fun c2 => ?_)
  · have hf := ift c2 hf
    refine aw_iconst C (i0 := 0) (v := 0) (by decide) (by decide +kernel) rfl ?_
    exact aw_zretq C CR0 hgr hgs (by decide) hf (by decide +kernel)
  · have hf := iff_ c2 hf
    exact u_m_readsRecipe_49 C CR0 E hnL hgd hgr hgs _ _ hf
theorem t_m_readsRecipe_15 {G : Cx} (C : CX G prog_14_method_47_code "PaperStarsModel") (CR0 : CR G (Option.some FieldType.boolean)) (E : LAin (gly G)) (hnL : gnL G = 2) (hgd : 9 ≤ gd G) {q : Int32 × Mm} (hgr : gr G = some (.int q.1)) (hgs : gsf G = q.2) (k15 : Int32 → Mm → Option (Int32 × Mm)) (hk15 : ∀ (v1 : Int32) (st : Mm), k15 v1 st = some q → AW G st 15 [(0, .ref (gad G 58)), (1, .int v1)] []) (v1 : Int32) (st : Mm) (hf : b_m_readsRecipe_15 k15 v1 st = some q) : AW G st 15 [(0, .ref (gad G 58)), (1, .int v1)] [] := by
  unfold b_m_readsRecipe_15 at hf
  refine aw_iload_n C 1 1 (j := 1) rfl rfl (by decide +kernel) rfl ?_
  refine aw_sipush C (i0 := 256) (v := 256) (by decide) (by decide +kernel) rfl ?_
  refine aw_icmp_ge C (tgt := 35) (off := 16) (by decide +kernel) (by decide) rfl (fun c1 => ?_) (fun c1 => ?_)
  · have hf := ift c1 hf
    refine aw_sub [(0, .ref (gad G 58))] [0] rfl ?_
    exact t_m_readsRecipe_35 C CR0 E hnL hgd hgr hgs _ hf
  · have hf := iff_ c1 hf
    refine aw_aload_n C 0 0 (j := 0) rfl rfl (by decide +kernel) rfl ?_
    refine aw_getr C (k := 33) fc_12 (la_58 E) rfl (by decide) tb_975 (by decide +kernel) rfl ?_
    refine aw_iload_n C 1 1 (j := 1) rfl rfl (by decide +kernel) rfl ?_
    refine aw_iconst C (i0 := 0) (v := 0) (by decide) (by decide +kernel) rfl ?_
    obtain ⟨g2, hf⟩ := igd hf
    refine aw_zastB C (la_69 E) g2 (by decide) (by decide +kernel) rfl ?_
    obtain ⟨a3, ha3⟩ : ∃ z, z = (v1 + (1 : Int32)) := ⟨_, rfl⟩
    have hf := ilt ha3 hf
    refine aw_iinc C [(1, .int a3), (0, .ref (gad G 58))] 1 (n := 1) rfl (by rw [ha3]; rfl) (by rw [hnL]; decide) rfl (by decide +kernel) rfl ?_
    refine aw_goto C (tgt := 15) (off := -17) (by decide +kernel) (by decide) ?_
    refine aw_sub [(0, .ref (gad G 58)), (1, .int a3)] [1, 0] rfl ?_
    exact hk15 a3 _ hf
theorem u_m_readsRecipe_15 {G : Cx} (C : CX G prog_14_method_47_code "PaperStarsModel") (CR0 : CR G (Option.some FieldType.boolean)) (E : LAin (gly G)) (hnL : gnL G = 2) (hgd : 9 ≤ gd G) {q : Int32 × Mm} (hgr : gr G = some (.int q.1)) (hgs : gsf G = q.2) : ∀ (n : Nat) (v1 : Int32) (st : Mm), f_m_readsRecipe_15 n v1 st = some q → AW G st 15 [(0, .ref (gad G 58)), (1, .int v1)] [] := by
  intro n
  induction n with
  | zero => intro v1 st hf; cases hf
  | succ n ih => intro v1 st hf; exact t_m_readsRecipe_15 C CR0 E hnL hgd hgr hgs (f_m_readsRecipe_15 n) ih v1 st hf
theorem t_m_readsRecipe {G : Cx} (C : CX G prog_14_method_47_code "PaperStarsModel") (CR0 : CR G (Option.some FieldType.boolean)) (E : LAin (gly G)) (hnL : gnL G = 2) (hgd : 9 ≤ gd G) {q : Int32 × Mm} (hgr : gr G = some (.int q.1)) (hgs : gsf G = q.2) (st : Mm) (hf : f_m_readsRecipe st = some q) : AW G st 0 [(0, .ref (gad G 58))] [] := by
  unfold f_m_readsRecipe at hf
  refine aw_aload_n C 0 0 (j := 0) rfl rfl (by decide +kernel) rfl ?_
  obtain ⟨q1, hq1, hf⟩ := ibd hf
  refine aw_callV C (rest := []) (c_m_readsFolds E _ q1 hq1) tb_1163 yf_147 yi_147 (la_58 E) [] rfl rfl _ rfl (Nat.le_trans (by decide) hgd) (Nat.le_of_ble_eq_true rfl) (by decide +kernel) rfl ?_
  show AW _ _ _ _ [.int q1.1]
  refine aw_if_ne C (tgt := 9) (off := 5) (by decide +kernel) (by decide) rfl (fun c2 => ?_) (fun c2 => ?_)
  · have hf := ift c2 hf
    refine aw_iconst C (i0 := 0) (v := 0) (by decide) (by decide +kernel) rfl ?_
    exact aw_zretq C CR0 hgr hgs (by decide) hf (by decide +kernel)
  · have hf := iff_ c2 hf
    refine aw_aload_n C 0 0 (j := 0) rfl rfl (by decide +kernel) rfl ?_
    obtain ⟨q3, hq3, hf⟩ := ibd hf
    refine aw_callV C (rest := []) (c_m_laysLayers E _ q3 hq3) tb_1187 yf_153 yi_153 (la_58 E) [] rfl rfl _ rfl (Nat.le_trans (by decide) hgd) (Nat.le_of_ble_eq_true rfl) (by decide +kernel) rfl ?_
    show AW _ _ _ _ []
    refine aw_iconst C (i0 := 0) (v := 0) (by decide) (by decide +kernel) rfl ?_
    refine aw_istore_n C [(1, .int (0 : Int32)), (0, .ref (gad G 58))] (j := 1) rfl (by rw [hnL]; decide) rfl (by decide +kernel) rfl ?_
    refine aw_sub [(0, .ref (gad G 58)), (1, .int (0 : Int32))] [1, 0] rfl ?_
    exact u_m_readsRecipe_15 C CR0 E hnL hgd hgr hgs _ (0 : Int32) _ hf
theorem c_m_readsRecipe {lay : Ly} (E : LAin lay) (st : Mm) (q : Int32 × Mm) (hf : f_m_readsRecipe st = some q) : Con 9 Y146 prog_14_method_47_code 2 (Option.some FieldType.boolean) lay (fun ad => [.ref (ad 58)]) st (some (.int q.1)) q.2 :=
  am_met yf_146.2.2.2.2.2 (fun ad => Nat.le_of_ble_eq_true rfl) (fun G C CR0 e1 e2 e3 e4 e5 => t_m_readsRecipe C CR0 (by rw [e1]; exact E) e2 (Nat.le_of_eq e5.symm) e3 e4 st hf)
def b_m_recipe_96 (k96 : Int32 → Mm → Option (Int32 × Mm)) (v3 : Int32) (st : Mm) : Option (Int32 × Mm) :=
  if (256 : Int32) ≤ v3 then (some ((st.1 58 2), st)) else (if inb v3 256 then lt_ (st.1 69 v3.toNatClampNeg) (fun a3 => if inb v3 256 then if a3 = 0 ∨ a3 = 1 then lt_ (v3 + (1 : Int32)) (fun a6 => k96 a6 (sI st 61 v3.toNatClampNeg a3)) else none else none) else none)
def f_m_recipe_96 : Nat → Int32 → Mm → Option (Int32 × Mm)
  | 0 => fun _ _ => none
  | n + 1 => b_m_recipe_96 (f_m_recipe_96 n)
def b_m_recipe_86 (st : Mm) : Option (Int32 × Mm) :=
  lt_ (st.1 58 27) (fun a1 => f_m_recipe_96 1000000 (0 : Int32) (sI st 58 2 a1))
def b_m_recipe_60 (k60 : Int32 → Mm → Option (Int32 × Mm)) (v3 : Int32) (st : Mm) : Option (Int32 × Mm) :=
  if (st.1 58 1) ≤ v3 then (b_m_recipe_86 st) else (if inb v3 9 then lt_ (st.1 63 v3.toNatClampNeg) (fun a3 => if inb v3 9 then lt_ (v3 + (1 : Int32)) (fun a5 => k60 a5 (sI st 59 v3.toNatClampNeg a3)) else none) else none)
def f_m_recipe_60 : Nat → Int32 → Mm → Option (Int32 × Mm)
  | 0 => fun _ _ => none
  | n + 1 => b_m_recipe_60 (f_m_recipe_60 n)
def f_m_recipe (v1 : Int32) (st : Mm) : Option (Int32 × Mm) :=
  (f_m_in v1 (1 : Int32) (160 : Int32) st).bind (fun q1 => if q1.1 = 0 then (some ((-1 : Int32), q1.2)) else (if v1 ≤ (q1.2.1 58 19) then ((f_m_readsRecipe (sI (sI q1.2 58 20 (0 : Int32)) 58 21 v1)).bind (fun q4 => if q4.1 = 0 then (some (((sI q4.2 58 19 (0 : Int32)).1 58 22), (sI q4.2 58 19 (0 : Int32)))) else (lt_ ((sI q4.2 58 19 (0 : Int32)).1 58 12) (fun a6 => f_m_recipe_60 1000000 (0 : Int32) (sI (sI q4.2 58 19 (0 : Int32)) 58 1 a6))))) else (some ((-1 : Int32), q1.2))))
theorem t_m_recipe_96 {G : Cx} (C : CX G prog_14_method_48_code "PaperStarsModel") (CR0 : CR G (Option.some FieldType.int)) (E : LAin (gly G)) (hnL : gnL G = 4) (hgd : 10 ≤ gd G) {q : Int32 × Mm} (hgr : gr G = some (.int q.1)) (hgs : gsf G = q.2) (k96 : Int32 → Mm → Option (Int32 × Mm)) (hk96 : ∀ (v3 : Int32) (st : Mm), k96 v3 st = some q → AW G st 96 [(0, .ref (gad G 58)), (3, .int v3)] []) (v3 : Int32) (st : Mm) (hf : b_m_recipe_96 k96 v3 st = some q) : AW G st 96 [(0, .ref (gad G 58)), (3, .int v3)] [] := by
  unfold b_m_recipe_96 at hf
  refine aw_iload_n C 3 1 (j := 3) rfl rfl (by decide +kernel) rfl ?_
  refine aw_sipush C (i0 := 256) (v := 256) (by decide) (by decide +kernel) rfl ?_
  refine aw_icmp_ge C (tgt := 121) (off := 21) (by decide +kernel) (by decide) rfl (fun c1 => ?_) (fun c1 => ?_)
  · have hf := ift c1 hf
    refine aw_aload_n C 0 0 (j := 0) rfl rfl (by decide +kernel) rfl ?_
    refine aw_get C (k := 2) fc_12 (la_58 E) rfl (by decide) tb_944 (by decide +kernel) rfl ?_
    exact aw_iretq C CR0 hgr hgs hf (by decide +kernel)
  · have hf := iff_ c1 hf
    refine aw_aload_n C 0 0 (j := 0) rfl rfl (by decide +kernel) rfl ?_
    refine aw_getr C (k := 6) fc_12 (la_58 E) rfl (by decide) tb_948 (by decide +kernel) rfl ?_
    refine aw_iload_n C 3 1 (j := 3) rfl rfl (by decide +kernel) rfl ?_
    refine aw_aload_n C 0 0 (j := 0) rfl rfl (by decide +kernel) rfl ?_
    refine aw_getr C (k := 33) fc_12 (la_58 E) rfl (by decide) tb_975 (by decide +kernel) rfl ?_
    refine aw_iload_n C 3 1 (j := 3) rfl rfl (by decide +kernel) rfl ?_
    obtain ⟨g2, hf⟩ := igd hf
    refine aw_zald C (la_69 E) g2 (by decide +kernel) rfl ?_
    obtain ⟨a3, ha3⟩ : ∃ z, z = (st.1 69 v3.toNatClampNeg) := ⟨_, rfl⟩
    refine aw_nmi ha3 ?_
    have hf := ilt ha3 hf
    obtain ⟨g4, hf⟩ := igd hf
    obtain ⟨g5, hf⟩ := igd hf
    refine aw_zastB C (la_61 E) g4 g5 (by decide +kernel) rfl ?_
    obtain ⟨a6, ha6⟩ : ∃ z, z = (v3 + (1 : Int32)) := ⟨_, rfl⟩
    have hf := ilt ha6 hf
    refine aw_iinc C [(3, .int a6), (0, .ref (gad G 58))] 1 (n := 1) rfl (by rw [ha6]; rfl) (by rw [hnL]; decide) rfl (by decide +kernel) rfl ?_
    refine aw_goto C (tgt := 96) (off := -22) (by decide +kernel) (by decide) ?_
    refine aw_sub [(0, .ref (gad G 58)), (3, .int a6)] [1, 0] rfl ?_
    exact hk96 a6 _ hf
theorem u_m_recipe_96 {G : Cx} (C : CX G prog_14_method_48_code "PaperStarsModel") (CR0 : CR G (Option.some FieldType.int)) (E : LAin (gly G)) (hnL : gnL G = 4) (hgd : 10 ≤ gd G) {q : Int32 × Mm} (hgr : gr G = some (.int q.1)) (hgs : gsf G = q.2) : ∀ (n : Nat) (v3 : Int32) (st : Mm), f_m_recipe_96 n v3 st = some q → AW G st 96 [(0, .ref (gad G 58)), (3, .int v3)] [] := by
  intro n
  induction n with
  | zero => intro v3 st hf; cases hf
  | succ n ih => intro v3 st hf; exact t_m_recipe_96 C CR0 E hnL hgd hgr hgs (f_m_recipe_96 n) ih v3 st hf
theorem t_m_recipe_86 {G : Cx} (C : CX G prog_14_method_48_code "PaperStarsModel") (CR0 : CR G (Option.some FieldType.int)) (E : LAin (gly G)) (hnL : gnL G = 4) (hgd : 10 ≤ gd G) {q : Int32 × Mm} (hgr : gr G = some (.int q.1)) (hgs : gsf G = q.2) (st : Mm) (hf : b_m_recipe_86 st = some q) : AW G st 86 [(0, .ref (gad G 58))] [] := by
  unfold b_m_recipe_86 at hf
  refine aw_aload_n C 0 0 (j := 0) rfl rfl (by decide +kernel) rfl ?_
  refine aw_aload_n C 0 0 (j := 0) rfl rfl (by decide +kernel) rfl ?_
  refine aw_get C (k := 27) fc_12 (la_58 E) rfl (by decide) tb_969 (by decide +kernel) rfl ?_
  obtain ⟨a1, ha1⟩ : ∃ z, z = (st.1 58 27) := ⟨_, rfl⟩
  refine aw_nmi ha1 ?_
  have hf := ilt ha1 hf
  refine aw_put C (k := 2) fc_12 (la_58 E) rfl (by decide) rfl rfl tb_944 (by decide +kernel) rfl ?_
  refine aw_iconst C (i0 := 0) (v := 0) (by decide) (by decide +kernel) rfl ?_
  refine aw_istore_n C [(3, .int (0 : Int32)), (0, .ref (gad G 58))] (j := 3) rfl (by rw [hnL]; decide) rfl (by decide +kernel) rfl ?_
  refine aw_sub [(0, .ref (gad G 58)), (3, .int (0 : Int32))] [1, 0] rfl ?_
  exact u_m_recipe_96 C CR0 E hnL hgd hgr hgs _ (0 : Int32) _ hf
theorem t_m_recipe_60 {G : Cx} (C : CX G prog_14_method_48_code "PaperStarsModel") (CR0 : CR G (Option.some FieldType.int)) (E : LAin (gly G)) (hnL : gnL G = 4) (hgd : 10 ≤ gd G) {q : Int32 × Mm} (hgr : gr G = some (.int q.1)) (hgs : gsf G = q.2) (k60 : Int32 → Mm → Option (Int32 × Mm)) (hk60 : ∀ (v3 : Int32) (st : Mm), k60 v3 st = some q → AW G st 60 [(0, .ref (gad G 58)), (3, .int v3)] []) (v3 : Int32) (st : Mm) (hf : b_m_recipe_60 k60 v3 st = some q) : AW G st 60 [(0, .ref (gad G 58)), (3, .int v3)] [] := by
  unfold b_m_recipe_60 at hf
  refine aw_iload_n C 3 1 (j := 3) rfl rfl (by decide +kernel) rfl ?_
  refine aw_aload_n C 0 0 (j := 0) rfl rfl (by decide +kernel) rfl ?_
  refine aw_get C (k := 1) fc_12 (la_58 E) rfl (by decide) tb_943 (by decide +kernel) rfl ?_
  refine aw_icmp_ge C (tgt := 86) (off := 21) (by decide +kernel) (by decide) rfl (fun c1 => ?_) (fun c1 => ?_)
  · have hf := ift c1 hf
    refine aw_sub [(0, .ref (gad G 58))] [0] rfl ?_
    exact t_m_recipe_86 C CR0 E hnL hgd hgr hgs _ hf
  · have hf := iff_ c1 hf
    refine aw_aload_n C 0 0 (j := 0) rfl rfl (by decide +kernel) rfl ?_
    refine aw_getr C (k := 4) fc_12 (la_58 E) rfl (by decide) tb_946 (by decide +kernel) rfl ?_
    refine aw_iload_n C 3 1 (j := 3) rfl rfl (by decide +kernel) rfl ?_
    refine aw_aload_n C 0 0 (j := 0) rfl rfl (by decide +kernel) rfl ?_
    refine aw_getr C (k := 11) fc_12 (la_58 E) rfl (by decide) tb_953 (by decide +kernel) rfl ?_
    refine aw_iload_n C 3 1 (j := 3) rfl rfl (by decide +kernel) rfl ?_
    obtain ⟨g2, hf⟩ := igd hf
    refine aw_iald C (la_63 E) g2 (by decide +kernel) rfl ?_
    obtain ⟨a3, ha3⟩ : ∃ z, z = (st.1 63 v3.toNatClampNeg) := ⟨_, rfl⟩
    refine aw_nmi ha3 ?_
    have hf := ilt ha3 hf
    obtain ⟨g4, hf⟩ := igd hf
    refine aw_iast C (la_59 E) g4 (by decide +kernel) rfl ?_
    obtain ⟨a5, ha5⟩ : ∃ z, z = (v3 + (1 : Int32)) := ⟨_, rfl⟩
    have hf := ilt ha5 hf
    refine aw_iinc C [(3, .int a5), (0, .ref (gad G 58))] 1 (n := 1) rfl (by rw [ha5]; rfl) (by rw [hnL]; decide) rfl (by decide +kernel) rfl ?_
    refine aw_goto C (tgt := 60) (off := -23) (by decide +kernel) (by decide) ?_
    refine aw_sub [(0, .ref (gad G 58)), (3, .int a5)] [1, 0] rfl ?_
    exact hk60 a5 _ hf
theorem u_m_recipe_60 {G : Cx} (C : CX G prog_14_method_48_code "PaperStarsModel") (CR0 : CR G (Option.some FieldType.int)) (E : LAin (gly G)) (hnL : gnL G = 4) (hgd : 10 ≤ gd G) {q : Int32 × Mm} (hgr : gr G = some (.int q.1)) (hgs : gsf G = q.2) : ∀ (n : Nat) (v3 : Int32) (st : Mm), f_m_recipe_60 n v3 st = some q → AW G st 60 [(0, .ref (gad G 58)), (3, .int v3)] [] := by
  intro n
  induction n with
  | zero => intro v3 st hf; cases hf
  | succ n ih => intro v3 st hf; exact t_m_recipe_60 C CR0 E hnL hgd hgr hgs (f_m_recipe_60 n) ih v3 st hf
theorem t_m_recipe {G : Cx} (C : CX G prog_14_method_48_code "PaperStarsModel") (CR0 : CR G (Option.some FieldType.int)) (E : LAin (gly G)) (hnL : gnL G = 4) (hgd : 10 ≤ gd G) {q : Int32 × Mm} (hgr : gr G = some (.int q.1)) (hgs : gsf G = q.2) (v1 : Int32) (st : Mm) (hf : f_m_recipe v1 st = some q) : AW G st 0 [(0, .ref (gad G 58)), (1, .int v1)] [] := by
  unfold f_m_recipe at hf
  refine aw_iload_n C 1 1 (j := 1) rfl rfl (by decide +kernel) rfl ?_
  refine aw_iconst C (i0 := 1) (v := 1) (by decide) (by decide +kernel) rfl ?_
  refine aw_sipush C (i0 := 160) (v := 160) (by decide) (by decide +kernel) rfl ?_
  obtain ⟨q1, hq1, hf⟩ := ibd hf
  refine aw_callS C (rest := []) (c_m_in E v1 (1 : Int32) (160 : Int32) _ q1 hq1) tb_1144 yf_142 tb_1145 rfl _ rfl (Nat.le_trans (by decide) hgd) (Nat.le_of_ble_eq_true rfl) (by decide +kernel) rfl ?_
  show AW _ _ _ _ [.int q1.1]
  refine aw_if_eq C (tgt := 19) (off := 11) (by decide +kernel) (by decide) rfl (fun c2 => ?_) (fun c2 => ?_)
  · have hf := ift c2 hf
    refine aw_iconst C (i0 := -1) (v := -1) (by decide) (by decide +kernel) rfl ?_
    exact aw_iretq C CR0 hgr hgs hf (by decide +kernel)
  · have hf := iff_ c2 hf
    refine aw_iload_n C 1 1 (j := 1) rfl rfl (by decide +kernel) rfl ?_
    refine aw_aload_n C 0 0 (j := 0) rfl rfl (by decide +kernel) rfl ?_
    refine aw_get C (k := 19) fc_12 (la_58 E) rfl (by decide) tb_961 (by decide +kernel) rfl ?_
    refine aw_icmp_le C (tgt := 21) (off := 5) (by decide +kernel) (by decide) rfl (fun c3 => ?_) (fun c3 => ?_)
    · have hf := ift c3 hf
      refine aw_aload_n C 0 0 (j := 0) rfl rfl (by decide +kernel) rfl ?_
      refine aw_iconst C (i0 := 0) (v := 0) (by decide) (by decide +kernel) rfl ?_
      refine aw_put C (k := 20) fc_12 (la_58 E) rfl (by decide) rfl rfl tb_962 (by decide +kernel) rfl ?_
      refine aw_aload_n C 0 0 (j := 0) rfl rfl (by decide +kernel) rfl ?_
      refine aw_iload_n C 1 1 (j := 1) rfl rfl (by decide +kernel) rfl ?_
      refine aw_put C (k := 21) fc_12 (la_58 E) rfl (by decide) rfl rfl tb_963 (by decide +kernel) rfl ?_
      refine aw_aload_n C 0 0 (j := 0) rfl rfl (by decide +kernel) rfl ?_
      obtain ⟨q4, hq4, hf⟩ := ibd hf
      refine aw_callV C (rest := []) (c_m_readsRecipe E _ q4 hq4) tb_1159 yf_146 yi_146 (la_58 E) [] rfl rfl _ rfl (Nat.le_trans (by decide) hgd) (Nat.le_of_ble_eq_true rfl) (by decide +kernel) rfl ?_
      show AW _ _ _ _ [.int q4.1]
      refine aw_istore_n C [(2, .int q4.1), (0, .ref (gad G 58)), (1, .int v1)] (j := 2) rfl (by rw [hnL]; decide) rfl (by decide +kernel) rfl ?_
      refine aw_aload_n C 0 1 (j := 0) rfl rfl (by decide +kernel) rfl ?_
      refine aw_iconst C (i0 := 0) (v := 0) (by decide) (by decide +kernel) rfl ?_
      refine aw_put C (k := 19) fc_12 (la_58 E) rfl (by decide) rfl rfl tb_961 (by decide +kernel) rfl ?_
      refine aw_iload_n C 2 0 (j := 2) rfl rfl (by decide +kernel) rfl ?_
      refine aw_if_ne C (tgt := 50) (off := 8) (by decide +kernel) (by decide) rfl (fun c5 => ?_) (fun c5 => ?_)
      · have hf := ift c5 hf
        refine aw_aload_n C 0 1 (j := 0) rfl rfl (by decide +kernel) rfl ?_
        refine aw_get C (k := 22) fc_12 (la_58 E) rfl (by decide) tb_964 (by decide +kernel) rfl ?_
        exact aw_iretq C CR0 hgr hgs hf (by decide +kernel)
      · have hf := iff_ c5 hf
        refine aw_aload_n C 0 1 (j := 0) rfl rfl (by decide +kernel) rfl ?_
        refine aw_aload_n C 0 1 (j := 0) rfl rfl (by decide +kernel) rfl ?_
        refine aw_get C (k := 12) fc_12 (la_58 E) rfl (by decide) tb_954 (by decide +kernel) rfl ?_
        obtain ⟨a6, ha6⟩ : ∃ z, z = ((sI q4.2 58 19 (0 : Int32)).1 58 12) := ⟨_, rfl⟩
        refine aw_nmi ha6 ?_
        have hf := ilt ha6 hf
        refine aw_put C (k := 1) fc_12 (la_58 E) rfl (by decide) rfl rfl tb_943 (by decide +kernel) rfl ?_
        refine aw_iconst C (i0 := 0) (v := 0) (by decide) (by decide +kernel) rfl ?_
        refine aw_istore_n C [(3, .int (0 : Int32)), (2, .int q4.1), (0, .ref (gad G 58)), (1, .int v1)] (j := 3) rfl (by rw [hnL]; decide) rfl (by decide +kernel) rfl ?_
        refine aw_sub [(0, .ref (gad G 58)), (3, .int (0 : Int32))] [2, 0] rfl ?_
        exact u_m_recipe_60 C CR0 E hnL hgd hgr hgs _ (0 : Int32) _ hf
    · have hf := iff_ c3 hf
      refine aw_iconst C (i0 := -1) (v := -1) (by decide) (by decide +kernel) rfl ?_
      exact aw_iretq C CR0 hgr hgs hf (by decide +kernel)
theorem c_m_recipe {lay : Ly} (E : LAin lay) (v1 : Int32) (st : Mm) (q : Int32 × Mm) (hf : f_m_recipe v1 st = some q) : Con 10 Y145 prog_14_method_48_code 4 (Option.some FieldType.int) lay (fun ad => [.ref (ad 58), .int v1]) st (some (.int q.1)) q.2 :=
  am_met yf_145.2.2.2.2.2 (fun ad => Nat.le_of_ble_eq_true rfl) (fun G C CR0 e1 e2 e3 e4 e5 => t_m_recipe C CR0 (by rw [e1]; exact E) e2 (Nat.le_of_eq e5.symm) e3 e4 v1 st hf)
def b_m_cutMany_4 (k4 : Int32 → Int32 → Mm → Option (Int32 × Mm)) (v1 : Int32) (v2 : Int32) (st : Mm) : Option (Int32 × Mm) :=
  if (256 : Int32) ≤ v2 then (some (v1, st)) else (if inb v2 256 then if (st.1 61 v2.toNatClampNeg) = 0 then (lt_ (v1 + (0 : Int32)) (fun a4 => lt_ (v2 + (1 : Int32)) (fun a5 => k4 a4 a5 st))) else (lt_ (v1 + (1 : Int32)) (fun a6 => lt_ (v2 + (1 : Int32)) (fun a7 => k4 a6 a7 st))) else none)
def f_m_cutMany_4 : Nat → Int32 → Int32 → Mm → Option (Int32 × Mm)
  | 0 => fun _ _ _ => none
  | n + 1 => b_m_cutMany_4 (f_m_cutMany_4 n)
def f_m_cutMany (st : Mm) : Option (Int32 × Mm) :=
  f_m_cutMany_4 1000000 (0 : Int32) (0 : Int32) st
theorem t_m_cutMany_4 {G : Cx} (C : CX G prog_14_method_50_code "PaperStarsModel") (CR0 : CR G (Option.some FieldType.int)) (E : LAin (gly G)) (hnL : gnL G = 3) (hgd : 0 ≤ gd G) {q : Int32 × Mm} (hgr : gr G = some (.int q.1)) (hgs : gsf G = q.2) (k4 : Int32 → Int32 → Mm → Option (Int32 × Mm)) (hk4 : ∀ (v1 : Int32) (v2 : Int32) (st : Mm), k4 v1 v2 st = some q → AW G st 4 [(0, .ref (gad G 58)), (1, .int v1), (2, .int v2)] []) (v1 : Int32) (v2 : Int32) (st : Mm) (hf : b_m_cutMany_4 k4 v1 v2 st = some q) : AW G st 4 [(0, .ref (gad G 58)), (1, .int v1), (2, .int v2)] [] := by
  unfold b_m_cutMany_4 at hf
  refine aw_iload_n C 2 2 (j := 2) rfl rfl (by decide +kernel) rfl ?_
  refine aw_sipush C (i0 := 256) (v := 256) (by decide) (by decide +kernel) rfl ?_
  refine aw_icmp_ge C (tgt := 34) (off := 26) (by decide +kernel) (by decide) rfl (fun c1 => ?_) (fun c1 => ?_)
  · have hf := ift c1 hf
    refine aw_iload_n C 1 1 (j := 1) rfl rfl (by decide +kernel) rfl ?_
    exact aw_iretq C CR0 hgr hgs hf (by decide +kernel)
  · have hf := iff_ c1 hf
    refine aw_iload_n C 1 1 (j := 1) rfl rfl (by decide +kernel) rfl ?_
    refine aw_aload_n C 0 0 (j := 0) rfl rfl (by decide +kernel) rfl ?_
    refine aw_getr C (k := 6) fc_12 (la_58 E) rfl (by decide) tb_948 (by decide +kernel) rfl ?_
    refine aw_iload_n C 2 2 (j := 2) rfl rfl (by decide +kernel) rfl ?_
    obtain ⟨g2, hf⟩ := igd hf
    refine aw_zald C (la_61 E) g2 (by decide +kernel) rfl ?_
    refine aw_if_eq C (tgt := 25) (off := 7) (by decide +kernel) (by decide) rfl (fun c3 => ?_) (fun c3 => ?_)
    · have hf := ift c3 hf
      refine aw_iconst C (i0 := 0) (v := 0) (by decide) (by decide +kernel) rfl ?_
      refine aw_iadd C (by decide +kernel) rfl ?_
      obtain ⟨a4, ha4⟩ : ∃ z, z = (v1 + (0 : Int32)) := ⟨_, rfl⟩
      refine aw_nmi ha4 ?_
      have hf := ilt ha4 hf
      refine aw_istore_n C [(1, .int a4), (0, .ref (gad G 58)), (2, .int v2)] (j := 1) rfl (by rw [hnL]; decide) rfl (by decide +kernel) rfl ?_
      obtain ⟨a5, ha5⟩ : ∃ z, z = (v2 + (1 : Int32)) := ⟨_, rfl⟩
      have hf := ilt ha5 hf
      refine aw_iinc C [(2, .int a5), (1, .int a4), (0, .ref (gad G 58))] 2 (n := 1) rfl (by rw [ha5]; rfl) (by rw [hnL]; decide) rfl (by decide +kernel) rfl ?_
      refine aw_goto C (tgt := 4) (off := -27) (by decide +kernel) (by decide) ?_
      refine aw_sub [(0, .ref (gad G 58)), (1, .int a4), (2, .int a5)] [2, 1, 0] rfl ?_
      exact hk4 a4 a5 _ hf
    · have hf := iff_ c3 hf
      refine aw_iconst C (i0 := 1) (v := 1) (by decide) (by decide +kernel) rfl ?_
      refine aw_goto C (tgt := 26) (off := 4) (by decide +kernel) (by decide) ?_
      refine aw_iadd C (by decide +kernel) rfl ?_
      obtain ⟨a6, ha6⟩ : ∃ z, z = (v1 + (1 : Int32)) := ⟨_, rfl⟩
      refine aw_nmi ha6 ?_
      have hf := ilt ha6 hf
      refine aw_istore_n C [(1, .int a6), (0, .ref (gad G 58)), (2, .int v2)] (j := 1) rfl (by rw [hnL]; decide) rfl (by decide +kernel) rfl ?_
      obtain ⟨a7, ha7⟩ : ∃ z, z = (v2 + (1 : Int32)) := ⟨_, rfl⟩
      have hf := ilt ha7 hf
      refine aw_iinc C [(2, .int a7), (1, .int a6), (0, .ref (gad G 58))] 2 (n := 1) rfl (by rw [ha7]; rfl) (by rw [hnL]; decide) rfl (by decide +kernel) rfl ?_
      refine aw_goto C (tgt := 4) (off := -27) (by decide +kernel) (by decide) ?_
      refine aw_sub [(0, .ref (gad G 58)), (1, .int a6), (2, .int a7)] [2, 1, 0] rfl ?_
      exact hk4 a6 a7 _ hf
theorem u_m_cutMany_4 {G : Cx} (C : CX G prog_14_method_50_code "PaperStarsModel") (CR0 : CR G (Option.some FieldType.int)) (E : LAin (gly G)) (hnL : gnL G = 3) (hgd : 0 ≤ gd G) {q : Int32 × Mm} (hgr : gr G = some (.int q.1)) (hgs : gsf G = q.2) : ∀ (n : Nat) (v1 : Int32) (v2 : Int32) (st : Mm), f_m_cutMany_4 n v1 v2 st = some q → AW G st 4 [(0, .ref (gad G 58)), (1, .int v1), (2, .int v2)] [] := by
  intro n
  induction n with
  | zero => intro v1 v2 st hf; cases hf
  | succ n ih => intro v1 v2 st hf; exact t_m_cutMany_4 C CR0 E hnL hgd hgr hgs (f_m_cutMany_4 n) ih v1 v2 st hf
theorem t_m_cutMany {G : Cx} (C : CX G prog_14_method_50_code "PaperStarsModel") (CR0 : CR G (Option.some FieldType.int)) (E : LAin (gly G)) (hnL : gnL G = 3) (hgd : 0 ≤ gd G) {q : Int32 × Mm} (hgr : gr G = some (.int q.1)) (hgs : gsf G = q.2) (st : Mm) (hf : f_m_cutMany st = some q) : AW G st 0 [(0, .ref (gad G 58))] [] := by
  unfold f_m_cutMany at hf
  refine aw_iconst C (i0 := 0) (v := 0) (by decide) (by decide +kernel) rfl ?_
  refine aw_istore_n C [(1, .int (0 : Int32)), (0, .ref (gad G 58))] (j := 1) rfl (by rw [hnL]; decide) rfl (by decide +kernel) rfl ?_
  refine aw_iconst C (i0 := 0) (v := 0) (by decide) (by decide +kernel) rfl ?_
  refine aw_istore_n C [(2, .int (0 : Int32)), (1, .int (0 : Int32)), (0, .ref (gad G 58))] (j := 2) rfl (by rw [hnL]; decide) rfl (by decide +kernel) rfl ?_
  refine aw_sub [(0, .ref (gad G 58)), (1, .int (0 : Int32)), (2, .int (0 : Int32))] [2, 1, 0] rfl ?_
  exact u_m_cutMany_4 C CR0 E hnL hgd hgr hgs _ (0 : Int32) (0 : Int32) _ hf
theorem c_m_cutMany {lay : Ly} (E : LAin lay) (st : Mm) (q : Int32 × Mm) (hf : f_m_cutMany st = some q) : Con 0 Y185 prog_14_method_50_code 3 (Option.some FieldType.int) lay (fun ad => [.ref (ad 58)]) st (some (.int q.1)) q.2 :=
  am_met yf_185.2.2.2.2.2 (fun ad => Nat.le_of_ble_eq_true rfl) (fun G C CR0 e1 e2 e3 e4 e5 => t_m_cutMany C CR0 (by rw [e1]; exact E) e2 (Nat.le_of_eq e5.symm) e3 e4 st hf)
