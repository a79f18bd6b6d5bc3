def f_x_piece (v1 : Int32) (v2 : Int32) (v3 : Int32) (st : Mm) : Option (Int32 × Mm) :=
  (f_x_isCell v1 v2 st).bind (fun q1 => if q1.1 = 0 then (some ((-1 : Int32), q1.2)) else (if v3 < 0 then (some ((-1 : Int32), q1.2)) else (if v3 ≤ (3 : Int32) then ((f_x_cellAt v1 v2 q1.2).bind (fun q5 => (f_x_hasBit 31 q5.1 q5.2).bind (fun q6 => if q6.1 = 0 then (some ((-2 : Int32), q6.2)) else ((f_x_walkPieces q6.2).bind (fun q8 => if inb q5.1 256 then lt_ (q8.2.1 35 q5.1.toNatClampNeg) (fun a10 => if v3 = 0 then (some (a10, q8.2)) else (if v3 = 1 then (if a10 < 0 then (some ((0 : Int32), q8.2)) else (if (256 : Int32) ≤ a10 then (some ((0 : Int32), q8.2)) else (if inb a10 256 then some ((q8.2.1 36 a10.toNatClampNeg), q8.2) else none))) else (if v3 = 2 then ((f_x_hasBit 37 q5.1 q8.2).bind (fun q17 => if q17.1 = 0 then (some ((0 : Int32), q17.2)) else (some ((1 : Int32), q17.2)))) else (if a10 = (q8.2.1 34 2) then (some ((0 : Int32), q8.2)) else (some ((1 : Int32), q8.2)))))) else none))))) else (some ((-1 : Int32), q1.2)))))
theorem t_x_piece {G : Cx} (C : CX G prog_1_method_10_code "PaperStars") (CR0 : CR G (Option.some FieldType.int)) (E : LCin (gly G)) (hnL : gnL G = 6) (hgd : 5 ≤ gd G) {q : Int32 × Mm} (hgr : gr G = some (.int q.1)) (hgs : gsf G = q.2) (v1 : Int32) (v2 : Int32) (v3 : Int32) (st : Mm) (hf : f_x_piece v1 v2 v3 st = some q) : AW G st 0 [(0, .ref (gad G 0)), (1, .int v1), (2, .int v2), (3, .int v3)] [] := by
  unfold f_x_piece at hf
  refine aw_aload_n C 0 0 (j := 0) rfl rfl (by decide +kernel) rfl ?_
  refine aw_iload_n C 1 1 (j := 1) rfl rfl (by decide +kernel) rfl ?_
  refine aw_iload_n C 2 2 (j := 2) rfl rfl (by decide +kernel) rfl ?_
  obtain ⟨q1, hq1, hf⟩ := ibd hf
  refine aw_callV C (rest := []) (c_x_isCell E v1 v2 _ q1 hq1) tb_623 yf_68 yi_68 (lc_0 E) [.int v1, .int v2] rfl rfl _ rfl (Nat.le_trans (by decide) hgd) (Nat.le_of_ble_eq_true rfl) (by decide +kernel) rfl ?_
  show AW _ _ _ _ [.int q1.1]
  refine aw_if_eq C (tgt := 18) (off := 12) (by decide +kernel) (by decide) rfl (fun c2 => ?_) (fun c2 => ?_)
  · have hf := ift c2 hf
    refine aw_iconst C (i0 := -1) (v := -1) (by decide) (by decide +kernel) rfl ?_
    exact aw_iretq C CR0 hgr hgs hf (by decide +kernel)
  · have hf := iff_ c2 hf
    refine aw_iload_n C 3 3 (j := 3) rfl rfl (by decide +kernel) rfl ?_
    refine aw_if_lt C (tgt := 18) (off := 8) (by decide +kernel) (by decide) rfl (fun c3 => ?_) (fun c3 => ?_)
    · have hf := ift c3 hf
      refine aw_iconst C (i0 := -1) (v := -1) (by decide) (by decide +kernel) rfl ?_
      exact aw_iretq C CR0 hgr hgs hf (by decide +kernel)
    · have hf := iff_ c3 hf
      refine aw_iload_n C 3 3 (j := 3) rfl rfl (by decide +kernel) rfl ?_
      refine aw_iconst C (i0 := 3) (v := 3) (by decide) (by decide +kernel) rfl ?_
      refine aw_icmp_le C (tgt := 20) (off := 5) (by decide +kernel) (by decide) rfl (fun c4 => ?_) (fun c4 => ?_)
      · have hf := ift c4 hf
        refine aw_iload_n C 1 1 (j := 1) rfl rfl (by decide +kernel) rfl ?_
        refine aw_iload_n C 2 2 (j := 2) rfl rfl (by decide +kernel) rfl ?_
        obtain ⟨q5, hq5, hf⟩ := ibd hf
        refine aw_callS C (rest := []) (c_x_cellAt v1 v2 _ q5 hq5) tb_618 yf_22 tb_391 rfl _ rfl (Nat.le_trans (by decide) hgd) (Nat.le_of_ble_eq_true rfl) (by decide +kernel) rfl ?_
        show AW _ _ _ _ [.int q5.1]
        refine aw_istore C [(4, .int q5.1), (0, .ref (gad G 0)), (1, .int v1), (2, .int v2), (3, .int v3)] (by rw [hnL]; decide) rfl (by decide +kernel) rfl ?_
        refine aw_aload_n C 0 1 (j := 0) rfl rfl (by decide +kernel) rfl ?_
        refine aw_getr C (k := 6) fc_11 (lc_0 E) rfl (by decide) tb_402 (by decide +kernel) rfl ?_
        refine aw_getr C (k := 1) fc_6 (lc_30 E) rfl (by decide) tb_221 (by decide +kernel) rfl ?_
        refine aw_iload C 4 0 rfl (by decide +kernel) rfl ?_
        obtain ⟨q6, hq6, hf⟩ := ibd hf
        refine aw_callS C (rest := []) (c_x_hasBit 31 (lc_31 E) q5.1 _ q6 hq6) tb_393 yf_23 tb_394 rfl _ rfl (Nat.le_trans (by decide) hgd) (Nat.le_of_ble_eq_true rfl) (by decide +kernel) rfl ?_
        show AW _ _ _ _ [.int q6.1]
        refine aw_if_ne C (tgt := 45) (off := 6) (by decide +kernel) (by decide) rfl (fun c7 => ?_) (fun c7 => ?_)
        · have hf := ift c7 hf
          refine aw_bipush C (i0 := -2) (v := -2) (by decide) (by decide +kernel) rfl ?_
          exact aw_iretq C CR0 hgr hgs hf (by decide +kernel)
        · have hf := iff_ c7 hf
          refine aw_aload_n C 0 1 (j := 0) rfl rfl (by decide +kernel) rfl ?_
          obtain ⟨q8, hq8, hf⟩ := ibd hf
          refine aw_callV C (rest := []) (c_x_walkPieces E _ q8 hq8) tb_631 yf_70 yi_70 (lc_0 E) [] rfl rfl _ rfl (Nat.le_trans (by decide) hgd) (Nat.le_of_ble_eq_true rfl) (by decide +kernel) rfl ?_
          show AW _ _ _ _ []
          refine aw_aload_n C 0 1 (j := 0) rfl rfl (by decide +kernel) rfl ?_
          refine aw_getr C (k := 7) fc_11 (lc_0 E) rfl (by decide) tb_403 (by decide +kernel) rfl ?_
          refine aw_getr C (k := 3) fc_7 (lc_34 E) rfl (by decide) tb_247 (by decide +kernel) rfl ?_
          refine aw_iload C 4 0 rfl (by decide +kernel) rfl ?_
          obtain ⟨g9, hf⟩ := igd hf
          refine aw_iald C (lc_35 E) g9 (by decide +kernel) rfl ?_
          obtain ⟨a10, ha10⟩ : ∃ z, z = (q8.2.1 35 q5.1.toNatClampNeg) := ⟨_, rfl⟩
          refine aw_nmi ha10 ?_
          have hf := ilt ha10 hf
          refine aw_istore C [(5, .int a10), (4, .int q5.1), (0, .ref (gad G 0)), (1, .int v1), (2, .int v2), (3, .int v3)] (by rw [hnL]; decide) rfl (by decide +kernel) rfl ?_
          refine aw_iload_n C 3 5 (j := 3) rfl rfl (by decide +kernel) rfl ?_
          by_cases w11 : v3 = 0
          · have hf := ift w11 hf
            refine aw_tin C (tgt := 88) (off := 26) (dflt := 78) (lo := 0) (hi := 2) (offs := #[26, 29, 57]) (len := 26) (by decide +kernel) (by rw [w11]; decide) (by rw [w11]; decide) (by rw [w11]; decide) (by decide) ?_
            refine aw_iload C 5 0 rfl (by decide +kernel) rfl ?_
            exact aw_iretq C CR0 hgr hgs hf (by decide +kernel)
          · have hf := iff_ w11 hf
            by_cases w12 : v3 = 1
            · have hf := ift w12 hf
              refine aw_tin C (tgt := 91) (off := 29) (dflt := 78) (lo := 0) (hi := 2) (offs := #[26, 29, 57]) (len := 26) (by decide +kernel) (by rw [w12]; decide) (by rw [w12]; decide) (by rw [w12]; decide) (by decide) ?_
              refine aw_iload C 5 0 rfl (by decide +kernel) rfl ?_
              refine aw_if_lt C (tgt := 117) (off := 24) (by decide +kernel) (by decide) rfl (fun c13 => ?_) (fun c13 => ?_)
              · have hf := ift c13 hf
                refine aw_iconst C (i0 := 0) (v := 0) (by decide) (by decide +kernel) rfl ?_
                exact aw_iretq C CR0 hgr hgs hf (by decide +kernel)
              · have hf := iff_ c13 hf
                refine aw_iload C 5 0 rfl (by decide +kernel) rfl ?_
                refine aw_sipush C (i0 := 256) (v := 256) (by decide) (by decide +kernel) rfl ?_
                refine aw_icmp_ge C (tgt := 117) (off := 16) (by decide +kernel) (by decide) rfl (fun c14 => ?_) (fun c14 => ?_)
                · have hf := ift c14 hf
                  refine aw_iconst C (i0 := 0) (v := 0) (by decide) (by decide +kernel) rfl ?_
                  exact aw_iretq C CR0 hgr hgs hf (by decide +kernel)
                · have hf := iff_ c14 hf
                  refine aw_aload_n C 0 2 (j := 0) rfl rfl (by decide +kernel) rfl ?_
                  refine aw_getr C (k := 7) fc_11 (lc_0 E) rfl (by decide) tb_403 (by decide +kernel) rfl ?_
                  refine aw_getr C (k := 4) fc_7 (lc_34 E) rfl (by decide) tb_249 (by decide +kernel) rfl ?_
                  refine aw_iload C 5 0 rfl (by decide +kernel) rfl ?_
                  obtain ⟨g15, hf⟩ := igd hf
                  refine aw_iald C (lc_36 E) g15 (by decide +kernel) rfl ?_
                  refine aw_goto C (tgt := 118) (off := 4) (by decide +kernel) (by decide) ?_
                  exact aw_iretq C CR0 hgr hgs hf (by decide +kernel)
            · have hf := iff_ w12 hf
              by_cases w16 : v3 = 2
              · have hf := ift w16 hf
                refine aw_tin C (tgt := 119) (off := 57) (dflt := 78) (lo := 0) (hi := 2) (offs := #[26, 29, 57]) (len := 26) (by decide +kernel) (by rw [w16]; decide) (by rw [w16]; decide) (by rw [w16]; decide) (by decide) ?_
                refine aw_aload_n C 0 2 (j := 0) rfl rfl (by decide +kernel) rfl ?_
                refine aw_getr C (k := 7) fc_11 (lc_0 E) rfl (by decide) tb_403 (by decide +kernel) rfl ?_
                refine aw_getr C (k := 5) fc_7 (lc_34 E) rfl (by decide) tb_251 (by decide +kernel) rfl ?_
                refine aw_iload C 4 1 rfl (by decide +kernel) rfl ?_
                obtain ⟨q17, hq17, hf⟩ := ibd hf
                refine aw_callS C (rest := []) (c_x_hasBit 37 (lc_37 E) q5.1 _ q17 hq17) tb_393 yf_23 tb_394 rfl _ rfl (Nat.le_trans (by decide) hgd) (Nat.le_of_ble_eq_true rfl) (by decide +kernel) rfl ?_
                show AW _ _ _ _ [.int q17.1]
                refine aw_if_eq C (tgt := 138) (off := 7) (by decide +kernel) (by decide) rfl (fun c18 => ?_) (fun c18 => ?_)
                · have hf := ift c18 hf
                  refine aw_iconst C (i0 := 0) (v := 0) (by decide) (by decide +kernel) rfl ?_
                  exact aw_iretq C CR0 hgr hgs hf (by decide +kernel)
                · have hf := iff_ c18 hf
                  refine aw_iconst C (i0 := 1) (v := 1) (by decide) (by decide +kernel) rfl ?_
                  refine aw_goto C (tgt := 139) (off := 4) (by decide +kernel) (by decide) ?_
                  exact aw_iretq C CR0 hgr hgs hf (by decide +kernel)
              · have hf := iff_ w16 hf
                have zw11 := am_ne w11 (k := 0) (by decide)
                have zw12 := am_ne w12 (k := 1) (by decide)
                have zw16 := am_ne w16 (k := 2) (by decide)
                refine aw_tout C (tgt := 140) (dflt := 78) (lo := 0) (hi := 2) (offs := #[26, 29, 57]) (len := 26) (by decide +kernel) (by omega) (by decide) ?_
                refine aw_iload C 5 0 rfl (by decide +kernel) rfl ?_
                refine aw_aload_n C 0 2 (j := 0) rfl rfl (by decide +kernel) rfl ?_
                refine aw_getr C (k := 7) fc_11 (lc_0 E) rfl (by decide) tb_403 (by decide +kernel) rfl ?_
                refine aw_get C (k := 2) fc_7 (lc_34 E) rfl (by decide) tb_244 (by decide +kernel) rfl ?_
                refine aw_icmp_ne C (tgt := 156) (off := 7) (by decide +kernel) (by decide) rfl (fun c19 => ?_) (fun c19 => ?_)
                · have hf := ift c19 hf
                  refine aw_iconst C (i0 := 0) (v := 0) (by decide) (by decide +kernel) rfl ?_
                  refine aw_goto C (tgt := 157) (off := 4) (by decide +kernel) (by decide) ?_
                  exact aw_iretq C CR0 hgr hgs hf (by decide +kernel)
                · have hf := iff_ c19 hf
                  refine aw_iconst C (i0 := 1) (v := 1) (by decide) (by decide +kernel) rfl ?_
                  exact aw_iretq C CR0 hgr hgs hf (by decide +kernel)
      · have hf := iff_ c4 hf
        refine aw_iconst C (i0 := -1) (v := -1) (by decide) (by decide +kernel) rfl ?_
        exact aw_iretq C CR0 hgr hgs hf (by decide +kernel)
theorem c_x_piece {lay : Ly} (E : LCin lay) (v1 : Int32) (v2 : Int32) (v3 : Int32) (st : Mm) (q : Int32 × Mm) (hf : f_x_piece v1 v2 v3 st = some q) : Con 5 Y82 prog_1_method_10_code 6 (Option.some FieldType.int) lay (fun ad => [.ref (ad 0), .int v1, .int v2, .int v3]) st (some (.int q.1)) q.2 :=
  am_met yf_82.2.2.2.2.2 (fun ad => Nat.le_of_ble_eq_true rfl) (fun G C CR0 e1 e2 e3 e4 e5 => t_x_piece C CR0 (by rw [e1]; exact E) e2 (Nat.le_of_eq e5.symm) e3 e4 v1 v2 v3 st hf)
def f_x_deer (v1 : Int32) (v2 : Int32) (v3 : Int32) (st : Mm) : Option (Int32 × Mm) :=
  (f_x_isCell v1 v2 st).bind (fun q1 => if q1.1 = 0 then (some ((0 : Int32), q1.2)) else ((f_x_cellAt v1 v2 q1.2).bind (fun q3 => (f_x_hasBit 5 q3.1 q3.2).bind (fun q4 => if q4.1 = v3 then (some ((0 : Int32), q4.2)) else (if inb v2 16 then lt_ ((q4.2.1 5 v2.toNatClampNeg) ^^^ ((1 : Int32) <<< (v1 &&& 31))) (fun a7 => if inb v2 16 then some ((1 : Int32), (sI (sI q4.2 5 v2.toNatClampNeg a7) 0 13 (0 : Int32))) else none) else none)))))
theorem t_x_deer {G : Cx} (C : CX G prog_1_method_11_code "PaperStars") (CR0 : CR G (Option.some FieldType.boolean)) (E : LCin (gly G)) (hnL : gnL G = 4) (hgd : 1 ≤ gd G) {q : Int32 × Mm} (hgr : gr G = some (.int q.1)) (hgs : gsf G = q.2) (v1 : Int32) (v2 : Int32) (v3 : Int32) (st : Mm) (hf : f_x_deer v1 v2 v3 st = some q) : AW G st 0 [(0, .ref (gad G 0)), (1, .int v1), (2, .int v2), (3, .int v3)] [] := by
  unfold f_x_deer at hf
  refine aw_aload_n C 0 0 (j := 0) rfl rfl (by decide +kernel) rfl ?_
  refine aw_iload_n C 1 1 (j := 1) rfl rfl (by decide +kernel) rfl ?_
  refine aw_iload_n C 2 2 (j := 2) rfl rfl (by decide +kernel) rfl ?_
  obtain ⟨q1, hq1, hf⟩ := ibd hf
  refine aw_callV C (rest := []) (c_x_isCell E v1 v2 _ q1 hq1) tb_623 yf_68 yi_68 (lc_0 E) [.int v1, .int v2] rfl rfl _ rfl (Nat.le_trans (by decide) hgd) (Nat.le_of_ble_eq_true rfl) (by decide +kernel) rfl ?_
  show AW _ _ _ _ [.int q1.1]
  refine aw_if_eq C (tgt := 28) (off := 22) (by decide +kernel) (by decide) rfl (fun c2 => ?_) (fun c2 => ?_)
  · have hf := ift c2 hf
    refine aw_iconst C (i0 := 0) (v := 0) (by decide) (by decide +kernel) rfl ?_
    exact aw_zretq C CR0 hgr hgs (by decide) hf (by decide +kernel)
  · have hf := iff_ c2 hf
    refine aw_aload_n C 0 0 (j := 0) rfl rfl (by decide +kernel) rfl ?_
    refine aw_getr C (k := 0) fc_11 (lc_0 E) rfl (by decide) tb_396 (by decide +kernel) rfl ?_
    refine aw_getr C (k := 7) fc_9 (lc_1 E) rfl (by decide) tb_55 (by decide +kernel) rfl ?_
    refine aw_iload_n C 1 1 (j := 1) rfl rfl (by decide +kernel) rfl ?_
    refine aw_iload_n C 2 2 (j := 2) rfl rfl (by decide +kernel) rfl ?_
    obtain ⟨q3, hq3, hf⟩ := ibd hf
    refine aw_callS C (rest := [.ref (gad G 5)]) (c_x_cellAt v1 v2 _ q3 hq3) tb_618 yf_22 tb_391 rfl _ rfl (Nat.le_trans (by decide) hgd) (Nat.le_of_ble_eq_true rfl) (by decide +kernel) rfl ?_
    show AW _ _ _ _ [.int q3.1, .ref (gad G 5)]
    obtain ⟨q4, hq4, hf⟩ := ibd hf
    refine aw_callS C (rest := []) (c_x_hasBit 5 (lc_5 E) q3.1 _ q4 hq4) tb_393 yf_23 tb_394 rfl _ rfl (Nat.le_trans (by decide) hgd) (Nat.le_of_ble_eq_true rfl) (by decide +kernel) rfl ?_
    show AW _ _ _ _ [.int q4.1]
    refine aw_iload_n C 3 3 (j := 3) rfl rfl (by decide +kernel) rfl ?_
    refine aw_icmp_ne C (tgt := 30) (off := 5) (by decide +kernel) (by decide) rfl (fun c5 => ?_) (fun c5 => ?_)
    · have hf := ift c5 hf
      refine aw_iconst C (i0 := 0) (v := 0) (by decide) (by decide +kernel) rfl ?_
      exact aw_zretq C CR0 hgr hgs (by decide) hf (by decide +kernel)
    · have hf := iff_ c5 hf
      refine aw_aload_n C 0 0 (j := 0) rfl rfl (by decide +kernel) rfl ?_
      refine aw_getr C (k := 0) fc_11 (lc_0 E) rfl (by decide) tb_396 (by decide +kernel) rfl ?_
      refine aw_getr C (k := 7) fc_9 (lc_1 E) rfl (by decide) tb_55 (by decide +kernel) rfl ?_
      refine aw_iload_n C 2 2 (j := 2) rfl rfl (by decide +kernel) rfl ?_
      refine aw_dup2_11 C rfl rfl (by decide +kernel) rfl ?_
      obtain ⟨g6, hf⟩ := igd hf
      refine aw_iald C (lc_5 E) g6 (by decide +kernel) rfl ?_
      refine aw_iconst C (i0 := 1) (v := 1) (by decide) (by decide +kernel) rfl ?_
      refine aw_iload_n C 1 1 (j := 1) rfl rfl (by decide +kernel) rfl ?_
      refine aw_ishl C (by decide +kernel) rfl ?_
      refine aw_ixor C (by decide +kernel) rfl ?_
      obtain ⟨a7, ha7⟩ : ∃ z, z = ((q4.2.1 5 v2.toNatClampNeg) ^^^ ((1 : Int32) <<< (v1 &&& 31))) := ⟨_, rfl⟩
      refine aw_nmi ha7 ?_
      have hf := ilt ha7 hf
      obtain ⟨g8, hf⟩ := igd hf
      refine aw_iast C (lc_5 E) g8 (by decide +kernel) rfl ?_
      refine aw_aload_n C 0 0 (j := 0) rfl rfl (by decide +kernel) rfl ?_
      refine aw_iconst C (i0 := 0) (v := 0) (by decide) (by decide +kernel) rfl ?_
      refine aw_putZ C (k := 13) fc_11 (lc_0 E) rfl (by decide) rfl rfl (by decide) tb_409 (by decide +kernel) rfl ?_
      refine aw_iconst C (i0 := 1) (v := 1) (by decide) (by decide +kernel) rfl ?_
      exact aw_zretq C CR0 hgr hgs (by decide) hf (by decide +kernel)
theorem c_x_deer {lay : Ly} (E : LCin lay) (v1 : Int32) (v2 : Int32) (v3 : Int32) (st : Mm) (q : Int32 × Mm) (hf : f_x_deer v1 v2 v3 st = some q) : Con 1 Y83 prog_1_method_11_code 4 (Option.some FieldType.boolean) lay (fun ad => [.ref (ad 0), .int v1, .int v2, .int v3]) st (some (.int q.1)) q.2 :=
  am_met yf_83.2.2.2.2.2 (fun ad => Nat.le_of_ble_eq_true rfl) (fun G C CR0 e1 e2 e3 e4 e5 => t_x_deer C CR0 (by rw [e1]; exact E) e2 (Nat.le_of_eq e5.symm) e3 e4 v1 v2 v3 st hf)
def b_Hng_joinTwo_89 (k3 : Int32 → Int32 → Int32 → Int32 → Int32 → Mm → Option (Unit × Mm)) (v1 : Int32) (v2 : Int32) (v3 : Int32) (v4 : Int32) (v5 : Int32) (st : Mm) : Option (Unit × Mm) :=
  lt_ (v5 + (1 : Int32)) (fun a1 => k3 v1 v2 v3 v4 a1 st)
def b_Hng_joinTwo_13 (k3 : Int32 → Int32 → Int32 → Int32 → Int32 → Mm → Option (Unit × Mm)) (k13 : Int32 → Int32 → Int32 → Int32 → Int32 → Int32 → Mm → Option (Unit × Mm)) (v1 : Int32) (v2 : Int32) (v3 : Int32) (v4 : Int32) (v5 : Int32) (v6 : Int32) (st : Mm) : Option (Unit × Mm) :=
  if v4 ≤ v6 then (b_Hng_joinTwo_89 k3 v1 v2 v3 v4 v5 st) else ((f_x_cellAt v6 v5 st).bind (fun q2 => if inb (v2 + q2.1) 8192 then if inb (v3 + q2.1) 8192 then if inb q2.1 256 then lt_ (((q2.2.1 43 (v2 + q2.1).toNatClampNeg) + (q2.2.1 43 (v3 + q2.1).toNatClampNeg)) - (q2.2.1 44 q2.1.toNatClampNeg)) (fun a6 => if inb (v1 + q2.1) 8192 then if (q2.2.1 43 (v1 + q2.1).toNatClampNeg) ≤ a6 then (lt_ (v6 + (1 : Int32)) (fun a9 => k13 v1 v2 v3 v4 v5 a9 q2.2)) else (if inb (v1 + q2.1) 8192 then lt_ (v6 + (1 : Int32)) (fun a11 => k13 v1 v2 v3 v4 v5 a11 (sI q2.2 43 (v1 + q2.1).toNatClampNeg a6)) else none) else none) else none else none else none))
def f_Hng_joinTwo_13 (k3 : Int32 → Int32 → Int32 → Int32 → Int32 → Mm → Option (Unit × Mm)) : Nat → Int32 → Int32 → Int32 → Int32 → Int32 → Int32 → Mm → Option (Unit × Mm)
  | 0 => fun _ _ _ _ _ _ _ => none
  | n + 1 => b_Hng_joinTwo_13 k3 (f_Hng_joinTwo_13 k3 n)
def b_Hng_joinTwo_3 (k3 : Int32 → Int32 → Int32 → Int32 → Int32 → Mm → Option (Unit × Mm)) (v1 : Int32) (v2 : Int32) (v3 : Int32) (v4 : Int32) (v5 : Int32) (st : Mm) : Option (Unit × Mm) :=
  if v4 ≤ v5 then (some ((), st)) else (f_Hng_joinTwo_13 k3 1000000 v1 v2 v3 v4 v5 (0 : Int32) st)
def f_Hng_joinTwo_3 : Nat → Int32 → Int32 → Int32 → Int32 → Int32 → Mm → Option (Unit × Mm)
  | 0 => fun _ _ _ _ _ _ => none
  | n + 1 => b_Hng_joinTwo_3 (f_Hng_joinTwo_3 n)
def f_Hng_joinTwo (v1 : Int32) (v2 : Int32) (v3 : Int32) (v4 : Int32) (st : Mm) : Option (Unit × Mm) :=
  f_Hng_joinTwo_3 1000000 v1 v2 v3 v4 (0 : Int32) st
theorem t_Hng_joinTwo_89 {G : Cx} (C : CX G prog_6_method_6_code "PaperStars$Hanging") (CR0 : CR G (Option.none)) (E : LCin (gly G)) (hnL : gnL G = 9) (hgd : 1 ≤ gd G) {q : Unit × Mm} (hgr : gr G = none) (hgs : gsf G = q.2) (k3 : Int32 → Int32 → Int32 → Int32 → Int32 → Mm → Option (Unit × Mm)) (hk3 : ∀ (v1 : Int32) (v2 : Int32) (v3 : Int32) (v4 : Int32) (v5 : Int32) (st : Mm), k3 v1 v2 v3 v4 v5 st = some q → AW G st 3 [(0, .ref (gad G 42)), (1, .int v1), (2, .int v2), (3, .int v3), (4, .int v4), (5, .int v5)] []) (v1 : Int32) (v2 : Int32) (v3 : Int32) (v4 : Int32) (v5 : Int32) (st : Mm) (hf : b_Hng_joinTwo_89 k3 v1 v2 v3 v4 v5 st = some q) : AW G st 89 [(0, .ref (gad G 42)), (1, .int v1), (2, .int v2), (3, .int v3), (4, .int v4), (5, .int v5)] [] := by
  unfold b_Hng_joinTwo_89 at hf
  obtain ⟨a1, ha1⟩ : ∃ z, z = (v5 + (1 : Int32)) := ⟨_, rfl⟩
  have hf := ilt ha1 hf
  refine aw_iinc C [(5, .int a1), (0, .ref (gad G 42)), (1, .int v1), (2, .int v2), (3, .int v3), (4, .int v4)] 5 (n := 1) rfl (by rw [ha1]; rfl) (by rw [hnL]; decide) rfl (by decide +kernel) rfl ?_
  refine aw_goto C (tgt := 3) (off := -89) (by decide +kernel) (by decide) ?_
  refine aw_sub [(0, .ref (gad G 42)), (1, .int v1), (2, .int v2), (3, .int v3), (4, .int v4), (5, .int a1)] [1, 2, 3, 4, 5, 0] rfl ?_
  exact hk3 v1 v2 v3 v4 a1 _ hf
theorem t_Hng_joinTwo_13 {G : Cx} (C : CX G prog_6_method_6_code "PaperStars$Hanging") (CR0 : CR G (Option.none)) (E : LCin (gly G)) (hnL : gnL G = 9) (hgd : 1 ≤ gd G) {q : Unit × Mm} (hgr : gr G = none) (hgs : gsf G = q.2) (k3 : Int32 → Int32 → Int32 → Int32 → Int32 → Mm → Option (Unit × Mm)) (k13 : Int32 → Int32 → Int32 → Int32 → Int32 → Int32 → Mm → Option (Unit × Mm)) (hk3 : ∀ (v1 : Int32) (v2 : Int32) (v3 : Int32) (v4 : Int32) (v5 : Int32) (st : Mm), k3 v1 v2 v3 v4 v5 st = some q → AW G st 3 [(0, .ref (gad G 42)), (1, .int v1), (2, .int v2), (3, .int v3), (4, .int v4), (5, .int v5)] []) (hk13 : ∀ (v1 : Int32) (v2 : Int32) (v3 : Int32) (v4 : Int32) (v5 : Int32) (v6 : Int32) (st : Mm), k13 v1 v2 v3 v4 v5 v6 st = some q → AW G st 13 [(0, .ref (gad G 42)), (1, .int v1), (2, .int v2), (3, .int v3), (4, .int v4), (5, .int v5), (6, .int v6)] []) (v1 : Int32) (v2 : Int32) (v3 : Int32) (v4 : Int32) (v5 : Int32) (v6 : Int32) (st : Mm) (hf : b_Hng_joinTwo_13 k3 k13 v1 v2 v3 v4 v5 v6 st = some q) : AW G st 13 [(0, .ref (gad G 42)), (1, .int v1), (2, .int v2), (3, .int v3), (4, .int v4), (5, .int v5), (6, .int v6)] [] := by
  unfold b_Hng_joinTwo_13 at hf
  refine aw_iload C 6 6 rfl (by decide +kernel) rfl ?_
  refine aw_iload C 4 4 rfl (by decide +kernel) rfl ?_
  refine aw_icmp_ge C (tgt := 89) (off := 72) (by decide +kernel) (by decide) rfl (fun c1 => ?_) (fun c1 => ?_)
  · have hf := ift c1 hf
    refine aw_sub [(0, .ref (gad G 42)), (1, .int v1), (2, .int v2), (3, .int v3), (4, .int v4), (5, .int v5)] [0, 1, 2, 3, 4, 5] rfl ?_
    exact t_Hng_joinTwo_89 C CR0 E hnL hgd hgr hgs k3 hk3 v1 v2 v3 v4 v5 _ hf
  · have hf := iff_ c1 hf
    refine aw_iload C 6 6 rfl (by decide +kernel) rfl ?_
    refine aw_iload C 5 5 rfl (by decide +kernel) rfl ?_
    obtain ⟨q2, hq2, hf⟩ := ibd hf
    refine aw_callSN C (rest := []) (c_x_cellAt v6 v5 _ q2 hq2) nw_18 yf_22 tb_391 rfl _ rfl (Nat.le_trans (by decide) hgd) (Nat.le_of_ble_eq_true rfl) (by decide +kernel) rfl ?_
    show AW _ _ _ _ [.int q2.1]
    refine aw_istore C [(7, .int q2.1), (0, .ref (gad G 42)), (1, .int v1), (2, .int v2), (3, .int v3), (4, .int v4), (5, .int v5), (6, .int v6)] (by rw [hnL]; decide) rfl (by decide +kernel) rfl ?_
    refine aw_aload_n C 0 1 (j := 0) rfl rfl (by decide +kernel) rfl ?_
    refine aw_getr C (k := 0) fc_4 (lc_42 E) rfl (by decide) tb_286 (by decide +kernel) rfl ?_
    refine aw_iload_n C 2 3 (j := 2) rfl rfl (by decide +kernel) rfl ?_
    refine aw_iload C 7 0 rfl (by decide +kernel) rfl ?_
    refine aw_iadd C (by decide +kernel) rfl ?_
    obtain ⟨g3, hf⟩ := igd hf
    refine aw_iald C (lc_43 E) g3 (by decide +kernel) rfl ?_
    refine aw_aload_n C 0 1 (j := 0) rfl rfl (by decide +kernel) rfl ?_
    refine aw_getr C (k := 0) fc_4 (lc_42 E) rfl (by decide) tb_286 (by decide +kernel) rfl ?_
    refine aw_iload_n C 3 4 (j := 3) rfl rfl (by decide +kernel) rfl ?_
    refine aw_iload C 7 0 rfl (by decide +kernel) rfl ?_
    refine aw_iadd C (by decide +kernel) rfl ?_
    obtain ⟨g4, hf⟩ := igd hf
    refine aw_iald C (lc_43 E) g4 (by decide +kernel) rfl ?_
    refine aw_iadd C (by decide +kernel) rfl ?_
    refine aw_aload_n C 0 1 (j := 0) rfl rfl (by decide +kernel) rfl ?_
    refine aw_getr C (k := 1) fc_4 (lc_42 E) rfl (by decide) tb_287 (by decide +kernel) rfl ?_
    refine aw_iload C 7 0 rfl (by decide +kernel) rfl ?_
    obtain ⟨g5, hf⟩ := igd hf
    refine aw_iald C (lc_44 E) g5 (by decide +kernel) rfl ?_
    refine aw_isub C (by decide +kernel) rfl ?_
    obtain ⟨a6, ha6⟩ : ∃ z, z = (((q2.2.1 43 (v2 + q2.1).toNatClampNeg) + (q2.2.1 43 (v3 + q2.1).toNatClampNeg)) - (q2.2.1 44 q2.1.toNatClampNeg)) := ⟨_, rfl⟩
    refine aw_nmi ha6 ?_
    have hf := ilt ha6 hf
    refine aw_istore C [(8, .int a6), (7, .int q2.1), (0, .ref (gad G 42)), (1, .int v1), (2, .int v2), (3, .int v3), (4, .int v4), (5, .int v5), (6, .int v6)] (by rw [hnL]; decide) rfl (by decide +kernel) rfl ?_
    refine aw_iload C 8 0 rfl (by decide +kernel) rfl ?_
    refine aw_aload_n C 0 2 (j := 0) rfl rfl (by decide +kernel) rfl ?_
    refine aw_getr C (k := 0) fc_4 (lc_42 E) rfl (by decide) tb_286 (by decide +kernel) rfl ?_
    refine aw_iload_n C 1 3 (j := 1) rfl rfl (by decide +kernel) rfl ?_
    refine aw_iload C 7 1 rfl (by decide +kernel) rfl ?_
    refine aw_iadd C (by decide +kernel) rfl ?_
    obtain ⟨g7, hf⟩ := igd hf
    refine aw_iald C (lc_43 E) g7 (by decide +kernel) rfl ?_
    refine aw_icmp_ge C (tgt := 83) (off := 14) (by decide +kernel) (by decide) rfl (fun c8 => ?_) (fun c8 => ?_)
    · have hf := ift c8 hf
      obtain ⟨a9, ha9⟩ : ∃ z, z = (v6 + (1 : Int32)) := ⟨_, rfl⟩
      have hf := ilt ha9 hf
      refine aw_iinc C [(6, .int a9), (8, .int a6), (7, .int q2.1), (0, .ref (gad G 42)), (1, .int v1), (2, .int v2), (3, .int v3), (4, .int v4), (5, .int v5)] 8 (n := 1) rfl (by rw [ha9]; rfl) (by rw [hnL]; decide) rfl (by decide +kernel) rfl ?_
      refine aw_goto C (tgt := 13) (off := -73) (by decide +kernel) (by decide) ?_
      refine aw_sub [(0, .ref (gad G 42)), (1, .int v1), (2, .int v2), (3, .int v3), (4, .int v4), (5, .int v5), (6, .int a9)] [3, 4, 5, 6, 7, 8, 0] rfl ?_
      exact hk13 v1 v2 v3 v4 v5 a9 _ hf
    · have hf := iff_ c8 hf
      refine aw_aload_n C 0 2 (j := 0) rfl rfl (by decide +kernel) rfl ?_
      refine aw_getr C (k := 0) fc_4 (lc_42 E) rfl (by decide) tb_286 (by decide +kernel) rfl ?_
      refine aw_iload_n C 1 3 (j := 1) rfl rfl (by decide +kernel) rfl ?_
      refine aw_iload C 7 1 rfl (by decide +kernel) rfl ?_
      refine aw_iadd C (by decide +kernel) rfl ?_
      refine aw_iload C 8 0 rfl (by decide +kernel) rfl ?_
      obtain ⟨g10, hf⟩ := igd hf
      refine aw_iast C (lc_43 E) g10 (by decide +kernel) rfl ?_
      obtain ⟨a11, ha11⟩ : ∃ z, z = (v6 + (1 : Int32)) := ⟨_, rfl⟩
      have hf := ilt ha11 hf
      refine aw_iinc C [(6, .int a11), (8, .int a6), (7, .int q2.1), (0, .ref (gad G 42)), (1, .int v1), (2, .int v2), (3, .int v3), (4, .int v4), (5, .int v5)] 8 (n := 1) rfl (by rw [ha11]; rfl) (by rw [hnL]; decide) rfl (by decide +kernel) rfl ?_
      refine aw_goto C (tgt := 13) (off := -73) (by decide +kernel) (by decide) ?_
      refine aw_sub [(0, .ref (gad G 42)), (1, .int v1), (2, .int v2), (3, .int v3), (4, .int v4), (5, .int v5), (6, .int a11)] [3, 4, 5, 6, 7, 8, 0] rfl ?_
      exact hk13 v1 v2 v3 v4 v5 a11 _ hf
theorem u_Hng_joinTwo_13 {G : Cx} (C : CX G prog_6_method_6_code "PaperStars$Hanging") (CR0 : CR G (Option.none)) (E : LCin (gly G)) (hnL : gnL G = 9) (hgd : 1 ≤ gd G) {q : Unit × Mm} (hgr : gr G = none) (hgs : gsf G = q.2) (k3 : Int32 → Int32 → Int32 → Int32 → Int32 → Mm → Option (Unit × Mm)) (hk3 : ∀ (v1 : Int32) (v2 : Int32) (v3 : Int32) (v4 : Int32) (v5 : Int32) (st : Mm), k3 v1 v2 v3 v4 v5 st = some q → AW G st 3 [(0, .ref (gad G 42)), (1, .int v1), (2, .int v2), (3, .int v3), (4, .int v4), (5, .int v5)] []) : ∀ (n : Nat) (v1 : Int32) (v2 : Int32) (v3 : Int32) (v4 : Int32) (v5 : Int32) (v6 : Int32) (st : Mm), f_Hng_joinTwo_13 k3 n v1 v2 v3 v4 v5 v6 st = some q → AW G st 13 [(0, .ref (gad G 42)), (1, .int v1), (2, .int v2), (3, .int v3), (4, .int v4), (5, .int v5), (6, .int v6)] [] := by
  intro n
  induction n with
  | zero => intro v1 v2 v3 v4 v5 v6 st hf; cases hf
  | succ n ih => intro v1 v2 v3 v4 v5 v6 st hf; exact t_Hng_joinTwo_13 C CR0 E hnL hgd hgr hgs k3 (f_Hng_joinTwo_13 k3 n) hk3 ih v1 v2 v3 v4 v5 v6 st hf
theorem t_Hng_joinTwo_3 {G : Cx} (C : CX G prog_6_method_6_code "PaperStars$Hanging") (CR0 : CR G (Option.none)) (E : LCin (gly G)) (hnL : gnL G = 9) (hgd : 1 ≤ gd G) {q : Unit × Mm} (hgr : gr G = none) (hgs : gsf G = q.2) (k3 : Int32 → Int32 → Int32 → Int32 → Int32 → Mm → Option (Unit × Mm)) (hk3 : ∀ (v1 : Int32) (v2 : Int32) (v3 : Int32) (v4 : Int32) (v5 : Int32) (st : Mm), k3 v1 v2 v3 v4 v5 st = some q → AW G st 3 [(0, .ref (gad G 42)), (1, .int v1), (2, .int v2), (3, .int v3), (4, .int v4), (5, .int v5)] []) (v1 : Int32) (v2 : Int32) (v3 : Int32) (v4 : Int32) (v5 : Int32) (st : Mm) (hf : b_Hng_joinTwo_3 k3 v1 v2 v3 v4 v5 st = some q) : AW G st 3 [(0, .ref (gad G 42)), (1, .int v1), (2, .int v2), (3, .int v3), (4, .int v4), (5, .int v5)] [] := by
  unfold b_Hng_joinTwo_3 at hf
  refine aw_iload C 5 5 rfl (by decide +kernel) rfl ?_
  refine aw_iload C 4 4 rfl (by decide +kernel) rfl ?_
  refine aw_icmp_ge C (tgt := 95) (off := 88) (by decide +kernel) (by decide) rfl (fun c1 => ?_) (fun c1 => ?_)
  · have hf := ift c1 hf
    exact aw_vretq C CR0 hgr hgs hf (by decide +kernel)
  · have hf := iff_ c1 hf
    refine aw_iconst C (i0 := 0) (v := 0) (by decide) (by decide +kernel) rfl ?_
    refine aw_istore C [(6, .int (0 : Int32)), (0, .ref (gad G 42)), (1, .int v1), (2, .int v2), (3, .int v3), (4, .int v4), (5, .int v5)] (by rw [hnL]; decide) rfl (by decide +kernel) rfl ?_
    refine aw_sub [(0, .ref (gad G 42)), (1, .int v1), (2, .int v2), (3, .int v3), (4, .int v4), (5, .int v5), (6, .int (0 : Int32))] [1, 2, 3, 4, 5, 6, 0] rfl ?_
    exact u_Hng_joinTwo_13 C CR0 E hnL hgd hgr hgs k3 hk3 _ v1 v2 v3 v4 v5 (0 : Int32) _ hf
theorem u_Hng_joinTwo_3 {G : Cx} (C : CX G prog_6_method_6_code "PaperStars$Hanging") (CR0 : CR G (Option.none)) (E : LCin (gly G)) (hnL : gnL G = 9) (hgd : 1 ≤ gd G) {q : Unit × Mm} (hgr : gr G = none) (hgs : gsf G = q.2) : ∀ (n : Nat) (v1 : Int32) (v2 : Int32) (v3 : Int32) (v4 : Int32) (v5 : Int32) (st : Mm), f_Hng_joinTwo_3 n v1 v2 v3 v4 v5 st = some q → AW G st 3 [(0, .ref (gad G 42)), (1, .int v1), (2, .int v2), (3, .int v3), (4, .int v4), (5, .int v5)] [] := by
  intro n
  induction n with
  | zero => intro v1 v2 v3 v4 v5 st hf; cases hf
  | succ n ih => intro v1 v2 v3 v4 v5 st hf; exact t_Hng_joinTwo_3 C CR0 E hnL hgd hgr hgs (f_Hng_joinTwo_3 n) ih v1 v2 v3 v4 v5 st hf
theorem t_Hng_joinTwo {G : Cx} (C : CX G prog_6_method_6_code "PaperStars$Hanging") (CR0 : CR G (Option.none)) (E : LCin (gly G)) (hnL : gnL G = 9) (hgd : 1 ≤ gd G) {q : Unit × Mm} (hgr : gr G = none) (hgs : gsf G = q.2) (v1 : Int32) (v2 : Int32) (v3 : Int32) (v4 : Int32) (st : Mm) (hf : f_Hng_joinTwo v1 v2 v3 v4 st = some q) : AW G st 0 [(0, .ref (gad G 42)), (1, .int v1), (2, .int v2), (3, .int v3), (4, .int v4)] [] := by
  unfold f_Hng_joinTwo at hf
  refine aw_iconst C (i0 := 0) (v := 0) (by decide) (by decide +kernel) rfl ?_
  refine aw_istore C [(5, .int (0 : Int32)), (0, .ref (gad G 42)), (1, .int v1), (2, .int v2), (3, .int v3), (4, .int v4)] (by rw [hnL]; decide) rfl (by decide +kernel) rfl ?_
  refine aw_sub [(0, .ref (gad G 42)), (1, .int v1), (2, .int v2), (3, .int v3), (4, .int v4), (5, .int (0 : Int32))] [1, 2, 3, 4, 5, 0] rfl ?_
  exact u_Hng_joinTwo_3 C CR0 E hnL hgd hgr hgs _ v1 v2 v3 v4 (0 : Int32) _ hf
theorem c_Hng_joinTwo {lay : Ly} (E : LCin lay) (v1 : Int32) (v2 : Int32) (v3 : Int32) (v4 : Int32) (st : Mm) (q : Unit × Mm) (hf : f_Hng_joinTwo v1 v2 v3 v4 st = some q) : Con 1 Y91 prog_6_method_6_code 9 (Option.none) lay (fun ad => [.ref (ad 42), .int v1, .int v2, .int v3, .int v4]) st (none) q.2 :=
  am_met yf_91.2.2.2.2.2 (fun ad => Nat.le_of_ble_eq_true rfl) (fun G C CR0 e1 e2 e3 e4 e5 => t_Hng_joinTwo C CR0 (by rw [e1]; exact E) e2 (Nat.le_of_eq e5.symm) e3 e4 v1 v2 v3 v4 st hf)
def b_Hng_joinParts_8 (k8 : Int32 → Int32 → Int32 → Int32 → Mm → Option (Unit × Mm)) (v1 : Int32) (v2 : Int32) (v3 : Int32) (v4 : Int32) (st : Mm) : Option (Unit × Mm) :=
  if v1 ≤ v4 then (some ((), st)) else (if (v4 &&& v1) = v4 then (if (v4 &&& v3) = 0 then (lt_ (v4 + (1 : Int32)) (fun a4 => k8 v1 v2 v3 a4 st)) else ((f_Hng_joinTwo (v1 * (256 : Int32)) (v4 * (256 : Int32)) ((v1 ^^^ v4) * (256 : Int32)) v2 st).bind (fun q5 => lt_ (v4 + (1 : Int32)) (fun a6 => k8 v1 v2 v3 a6 q5.2)))) else (lt_ (v4 + (1 : Int32)) (fun a7 => k8 v1 v2 v3 a7 st)))
def f_Hng_joinParts_8 : Nat → Int32 → Int32 → Int32 → Int32 → Mm → Option (Unit × Mm)
  | 0 => fun _ _ _ _ _ => none
  | n + 1 => b_Hng_joinParts_8 (f_Hng_joinParts_8 n)
def f_Hng_joinParts (v1 : Int32) (v2 : Int32) (st : Mm) : Option (Unit × Mm) :=
  lt_ (v1 &&& (-v1)) (fun a1 => f_Hng_joinParts_8 1000000 v1 v2 a1 (1 : Int32) st)
theorem t_Hng_joinParts_8 {G : Cx} (C : CX G prog_6_method_5_code "PaperStars$Hanging") (CR0 : CR G (Option.none)) (E : LCin (gly G)) (hnL : gnL G = 5) (hgd : 2 ≤ gd G) {q : Unit × Mm} (hgr : gr G = none) (hgs : gsf G = q.2) (k8 : Int32 → Int32 → Int32 → Int32 → Mm → Option (Unit × Mm)) (hk8 : ∀ (v1 : Int32) (v2 : Int32) (v3 : Int32) (v4 : Int32) (st : Mm), k8 v1 v2 v3 v4 st = some q → AW G st 8 [(0, .ref (gad G 42)), (1, .int v1), (2, .int v2), (3, .int v3), (4, .int v4)] []) (v1 : Int32) (v2 : Int32) (v3 : Int32) (v4 : Int32) (st : Mm) (hf : b_Hng_joinParts_8 k8 v1 v2 v3 v4 st = some q) : AW G st 8 [(0, .ref (gad G 42)), (1, .int v1), (2, .int v2), (3, .int v3), (4, .int v4)] [] := by
  unfold b_Hng_joinParts_8 at hf
  refine aw_iload C 4 4 rfl (by decide +kernel) rfl ?_
  refine aw_iload_n C 1 1 (j := 1) rfl rfl (by decide +kernel) rfl ?_
  refine aw_icmp_ge C (tgt := 60) (off := 49) (by decide +kernel) (by decide) rfl (fun c1 => ?_) (fun c1 => ?_)
  · have hf := ift c1 hf
    exact aw_vretq C CR0 hgr hgs hf (by decide +kernel)
  · have hf := iff_ c1 hf
    refine aw_iload C 4 4 rfl (by decide +kernel) rfl ?_
    refine aw_iload_n C 1 1 (j := 1) rfl rfl (by decide +kernel) rfl ?_
    refine aw_iand C (by decide +kernel) rfl ?_
    refine aw_iload C 4 4 rfl (by decide +kernel) rfl ?_
    refine aw_icmp_ne C (tgt := 54) (off := 34) (by decide +kernel) (by decide) rfl (fun c2 => ?_) (fun c2 => ?_)
    · have hf := ift c2 hf
      refine aw_iload C 4 4 rfl (by decide +kernel) rfl ?_
      refine aw_iload_n C 3 3 (j := 3) rfl rfl (by decide +kernel) rfl ?_
      refine aw_iand C (by decide +kernel) rfl ?_
      refine aw_if_eq C (tgt := 54) (off := 27) (by decide +kernel) (by decide) rfl (fun c3 => ?_) (fun c3 => ?_)
      · have hf := ift c3 hf
        obtain ⟨a4, ha4⟩ : ∃ z, z = (v4 + (1 : Int32)) := ⟨_, rfl⟩
        have hf := ilt ha4 hf
        refine aw_iinc C [(4, .int a4), (0, .ref (gad G 42)), (1, .int v1), (2, .int v2), (3, .int v3)] 4 (n := 1) rfl (by rw [ha4]; rfl) (by rw [hnL]; decide) rfl (by decide +kernel) rfl ?_
        refine aw_goto C (tgt := 8) (off := -49) (by decide +kernel) (by decide) ?_
        refine aw_sub [(0, .ref (gad G 42)), (1, .int v1), (2, .int v2), (3, .int v3), (4, .int a4)] [1, 2, 3, 4, 0] rfl ?_
        exact hk8 v1 v2 v3 a4 _ hf
      · have hf := iff_ c3 hf
        refine aw_aload_n C 0 0 (j := 0) rfl rfl (by decide +kernel) rfl ?_
        refine aw_iload_n C 1 1 (j := 1) rfl rfl (by decide +kernel) rfl ?_
        refine aw_sipush C (i0 := 256) (v := 256) (by decide) (by decide +kernel) rfl ?_
        refine aw_imul C (by decide +kernel) rfl ?_
        refine aw_iload C 4 4 rfl (by decide +kernel) rfl ?_
        refine aw_sipush C (i0 := 256) (v := 256) (by decide) (by decide +kernel) rfl ?_
        refine aw_imul C (by decide +kernel) rfl ?_
        refine aw_iload_n C 1 1 (j := 1) rfl rfl (by decide +kernel) rfl ?_
        refine aw_iload C 4 4 rfl (by decide +kernel) rfl ?_
        refine aw_ixor C (by decide +kernel) rfl ?_
        refine aw_sipush C (i0 := 256) (v := 256) (by decide) (by decide +kernel) rfl ?_
        refine aw_imul C (by decide +kernel) rfl ?_
        refine aw_iload_n C 2 2 (j := 2) rfl rfl (by decide +kernel) rfl ?_
        obtain ⟨q5, hq5, hf⟩ := ibd hf
        refine aw_callV C (rest := []) (c_Hng_joinTwo E (v1 * (256 : Int32)) (v4 * (256 : Int32)) ((v1 ^^^ v4) * (256 : Int32)) v2 _ q5 hq5) tb_724 yf_91 yi_91 (lc_42 E) [.int (v1 * (256 : Int32)), .int (v4 * (256 : Int32)), .int ((v1 ^^^ v4) * (256 : Int32)), .int v2] rfl rfl _ rfl (Nat.le_trans (by decide) hgd) (Nat.le_of_ble_eq_true rfl) (by decide +kernel) rfl ?_
        show AW _ _ _ _ []
        obtain ⟨a6, ha6⟩ : ∃ z, z = (v4 + (1 : Int32)) := ⟨_, rfl⟩
        have hf := ilt ha6 hf
        refine aw_iinc C [(4, .int a6), (0, .ref (gad G 42)), (1, .int v1), (2, .int v2), (3, .int v3)] 4 (n := 1) rfl (by rw [ha6]; rfl) (by rw [hnL]; decide) rfl (by decide +kernel) rfl ?_
        refine aw_goto C (tgt := 8) (off := -49) (by decide +kernel) (by decide) ?_
        refine aw_sub [(0, .ref (gad G 42)), (1, .int v1), (2, .int v2), (3, .int v3), (4, .int a6)] [1, 2, 3, 4, 0] rfl ?_
        exact hk8 v1 v2 v3 a6 _ hf
    · have hf := iff_ c2 hf
      obtain ⟨a7, ha7⟩ : ∃ z, z = (v4 + (1 : Int32)) := ⟨_, rfl⟩
      have hf := ilt ha7 hf
      refine aw_iinc C [(4, .int a7), (0, .ref (gad G 42)), (1, .int v1), (2, .int v2), (3, .int v3)] 4 (n := 1) rfl (by rw [ha7]; rfl) (by rw [hnL]; decide) rfl (by decide +kernel) rfl ?_
      refine aw_goto C (tgt := 8) (off := -49) (by decide +kernel) (by decide) ?_
      refine aw_sub [(0, .ref (gad G 42)), (1, .int v1), (2, .int v2), (3, .int v3), (4, .int a7)] [1, 2, 3, 4, 0] rfl ?_
      exact hk8 v1 v2 v3 a7 _ hf
theorem u_Hng_joinParts_8 {G : Cx} (C : CX G prog_6_method_5_code "PaperStars$Hanging") (CR0 : CR G (Option.none)) (E : LCin (gly G)) (hnL : gnL G = 5) (hgd : 2 ≤ gd G) {q : Unit × Mm} (hgr : gr G = none) (hgs : gsf G = q.2) : ∀ (n : Nat) (v1 : Int32) (v2 : Int32) (v3 : Int32) (v4 : Int32) (st : Mm), f_Hng_joinParts_8 n v1 v2 v3 v4 st = some q → AW G st 8 [(0, .ref (gad G 42)), (1, .int v1), (2, .int v2), (3, .int v3), (4, .int v4)] [] := by
  intro n
  induction n with
  | zero => intro v1 v2 v3 v4 st hf; cases hf
  | succ n ih => intro v1 v2 v3 v4 st hf; exact t_Hng_joinParts_8 C CR0 E hnL hgd hgr hgs (f_Hng_joinParts_8 n) ih v1 v2 v3 v4 st hf
theorem t_Hng_joinParts {G : Cx} (C : CX G prog_6_method_5_code "PaperStars$Hanging") (CR0 : CR G (Option.none)) (E : LCin (gly G)) (hnL : gnL G = 5) (hgd : 2 ≤ gd G) {q : Unit × Mm} (hgr : gr G = none) (hgs : gsf G = q.2) (v1 : Int32) (v2 : Int32) (st : Mm) (hf : f_Hng_joinParts v1 v2 st = some q) : AW G st 0 [(0, .ref (gad G 42)), (1, .int v1), (2, .int v2)] [] := by
  unfold f_Hng_joinParts at hf
  refine aw_iload_n C 1 1 (j := 1) rfl rfl (by decide +kernel) rfl ?_
  refine aw_iload_n C 1 1 (j := 1) rfl rfl (by decide +kernel) rfl ?_
  refine aw_ineg C (by decide +kernel) rfl ?_
  refine aw_iand C (by decide +kernel) rfl ?_
  obtain ⟨a1, ha1⟩ : ∃ z, z = (v1 &&& (-v1)) := ⟨_, rfl⟩
  refine aw_nmi ha1 ?_
  have hf := ilt ha1 hf
  refine aw_istore_n C [(3, .int a1), (0, .ref (gad G 42)), (1, .int v1), (2, .int v2)] (j := 3) rfl (by rw [hnL]; decide) rfl (by decide +kernel) rfl ?_
  refine aw_iconst C (i0 := 1) (v := 1) (by decide) (by decide +kernel) rfl ?_
  refine aw_istore C [(4, .int (1 : Int32)), (3, .int a1), (0, .ref (gad G 42)), (1, .int v1), (2, .int v2)] (by rw [hnL]; decide) rfl (by decide +kernel) rfl ?_
  refine aw_sub [(0, .ref (gad G 42)), (1, .int v1), (2, .int v2), (3, .int a1), (4, .int (1 : Int32))] [2, 3, 4, 1, 0] rfl ?_
  exact u_Hng_joinParts_8 C CR0 E hnL hgd hgr hgs _ v1 v2 a1 (1 : Int32) _ hf
theorem c_Hng_joinParts {lay : Ly} (E : LCin lay) (v1 : Int32) (v2 : Int32) (st : Mm) (q : Unit × Mm) (hf : f_Hng_joinParts v1 v2 st = some q) : Con 2 Y90 prog_6_method_5_code 5 (Option.none) lay (fun ad => [.ref (ad 42), .int v1, .int v2]) st (none) q.2 :=
  am_met yf_90.2.2.2.2.2 (fun ad => Nat.le_of_ble_eq_true rfl) (fun G C CR0 e1 e2 e3 e4 e5 => t_Hng_joinParts C CR0 (by rw [e1]; exact E) e2 (Nat.le_of_eq e5.symm) e3 e4 v1 v2 st hf)
def b_Hng_listEnds_4 (k4 : Int32 → Int32 → Mm → Option (Int32 × Mm)) (v2 : Int32) (v3 : Int32) (st : Mm) : Option (Int32 × Mm) :=
  if (256 : Int32) ≤ v3 then (some (v2, st)) else (if (6 : Int32) ≤ v2 then (some (v2, st)) else (if inb v3 256 then if (st.1 35 v3.toNatClampNeg) = v3 then (if inb v2 6 then lt_ (v2 + (1 : Int32)) (fun a6 => lt_ (v3 + (1 : Int32)) (fun a7 => k4 a6 a7 (sI st 45 v2.toNatClampNeg v3))) else none) else (lt_ (v3 + (1 : Int32)) (fun a8 => k4 v2 a8 st)) else none))
def f_Hng_listEnds_4 : Nat → Int32 → Int32 → Mm → Option (Int32 × Mm)
  | 0 => fun _ _ _ => none
  | n + 1 => b_Hng_listEnds_4 (f_Hng_listEnds_4 n)
def f_Hng_listEnds (st : Mm) : Option (Int32 × Mm) :=
  f_Hng_listEnds_4 1000000 (0 : Int32) (0 : Int32) st
theorem t_Hng_listEnds_4 {G : Cx} (C : CX G prog_6_method_4_code "PaperStars$Hanging") (CR0 : CR G (Option.some FieldType.int)) (E : LCin (gly G)) (hnL : gnL G = 4) (hgd : 0 ≤ gd G) {q : Int32 × Mm} (hgr : gr G = some (.int q.1)) (hgs : gsf G = q.2) (k4 : Int32 → Int32 → Mm → Option (Int32 × Mm)) (hk4 : ∀ (v2 : Int32) (v3 : Int32) (st : Mm), k4 v2 v3 st = some q → AW G st 4 [(0, .ref (gad G 42)), (1, .ref (gad G 34)), (2, .int v2), (3, .int v3)] []) (v2 : Int32) (v3 : Int32) (st : Mm) (hf : b_Hng_listEnds_4 k4 v2 v3 st = some q) : AW G st 4 [(0, .ref (gad G 42)), (1, .ref (gad G 34)), (2, .int v2), (3, .int v3)] [] := by
  unfold b_Hng_listEnds_4 at hf
  refine aw_iload_n C 3 3 (j := 3) rfl rfl (by decide +kernel) rfl ?_
  refine aw_sipush C (i0 := 256) (v := 256) (by decide) (by decide +kernel) rfl ?_
  refine aw_icmp_ge C (tgt := 43) (off := 35) (by decide +kernel) (by decide) rfl (fun c1 => ?_) (fun c1 => ?_)
  · have hf := ift c1 hf
    refine aw_iload_n C 2 2 (j := 2) rfl rfl (by decide +kernel) rfl ?_
    exact aw_iretq C CR0 hgr hgs hf (by decide +kernel)
  · have hf := iff_ c1 hf
    refine aw_iload_n C 2 2 (j := 2) rfl rfl (by decide +kernel) rfl ?_
    refine aw_bipush C (i0 := 6) (v := 6) (by decide) (by decide +kernel) rfl ?_
    refine aw_icmp_ge C (tgt := 43) (off := 29) (by decide +kernel) (by decide) rfl (fun c2 => ?_) (fun c2 => ?_)
    · have hf := ift c2 hf
      refine aw_iload_n C 2 2 (j := 2) rfl rfl (by decide +kernel) rfl ?_
      exact aw_iretq C CR0 hgr hgs hf (by decide +kernel)
    · have hf := iff_ c2 hf
      refine aw_aload_n C 1 1 (j := 1) rfl rfl (by decide +kernel) rfl ?_
      refine aw_getr C (k := 3) fc_7 (lc_34 E) rfl (by decide) tb_246 (by decide +kernel) rfl ?_
      refine aw_iload_n C 3 3 (j := 3) rfl rfl (by decide +kernel) rfl ?_
      obtain ⟨g3, hf⟩ := igd hf
      refine aw_iald C (lc_35 E) g3 (by decide +kernel) rfl ?_
      refine aw_iload_n C 3 3 (j := 3) rfl rfl (by decide +kernel) rfl ?_
      refine aw_icmp_ne C (tgt := 37) (off := 13) (by decide +kernel) (by decide) rfl (fun c4 => ?_) (fun c4 => ?_)
      · have hf := ift c4 hf
        refine aw_aload_n C 0 0 (j := 0) rfl rfl (by decide +kernel) rfl ?_
        refine aw_getr C (k := 2) fc_4 (lc_42 E) rfl (by decide) tb_288 (by decide +kernel) rfl ?_
        refine aw_iload_n C 2 2 (j := 2) rfl rfl (by decide +kernel) rfl ?_
        refine aw_iload_n C 3 3 (j := 3) rfl rfl (by decide +kernel) rfl ?_
        obtain ⟨g5, hf⟩ := igd hf
        refine aw_iast C (lc_45 E) g5 (by decide +kernel) rfl ?_
        obtain ⟨a6, ha6⟩ : ∃ z, z = (v2 + (1 : Int32)) := ⟨_, rfl⟩
        have hf := ilt ha6 hf
        refine aw_iinc C [(2, .int a6), (0, .ref (gad G 42)), (1, .ref (gad G 34)), (3, .int v3)] 2 (n := 1) rfl (by rw [ha6]; rfl) (by rw [hnL]; decide) rfl (by decide +kernel) rfl ?_
        obtain ⟨a7, ha7⟩ : ∃ z, z = (v3 + (1 : Int32)) := ⟨_, rfl⟩
        have hf := ilt ha7 hf
        refine aw_iinc C [(3, .int a7), (2, .int a6), (0, .ref (gad G 42)), (1, .ref (gad G 34))] 3 (n := 1) rfl (by rw [ha7]; rfl) (by rw [hnL]; decide) rfl (by decide +kernel) rfl ?_
        refine aw_goto C (tgt := 4) (off := -36) (by decide +kernel) (by decide) ?_
        refine aw_sub [(0, .ref (gad G 42)), (1, .ref (gad G 34)), (2, .int a6), (3, .int a7)] [2, 3, 1, 0] rfl ?_
        exact hk4 a6 a7 _ hf
      · have hf := iff_ c4 hf
        obtain ⟨a8, ha8⟩ : ∃ z, z = (v3 + (1 : Int32)) := ⟨_, rfl⟩
        have hf := ilt ha8 hf
        refine aw_iinc C [(3, .int a8), (0, .ref (gad G 42)), (1, .ref (gad G 34)), (2, .int v2)] 3 (n := 1) rfl (by rw [ha8]; rfl) (by rw [hnL]; decide) rfl (by decide +kernel) rfl ?_
        refine aw_goto C (tgt := 4) (off := -36) (by decide +kernel) (by decide) ?_
        refine aw_sub [(0, .ref (gad G 42)), (1, .ref (gad G 34)), (2, .int v2), (3, .int a8)] [1, 2, 3, 0] rfl ?_
        exact hk4 v2 a8 _ hf
theorem u_Hng_listEnds_4 {G : Cx} (C : CX G prog_6_method_4_code "PaperStars$Hanging") (CR0 : CR G (Option.some FieldType.int)) (E : LCin (gly G)) (hnL : gnL G = 4) (hgd : 0 ≤ gd G) {q : Int32 × Mm} (hgr : gr G = some (.int q.1)) (hgs : gsf G = q.2) : ∀ (n : Nat) (v2 : Int32) (v3 : Int32) (st : Mm), f_Hng_listEnds_4 n v2 v3 st = some q → AW G st 4 [(0, .ref (gad G 42)), (1, .ref (gad G 34)), (2, .int v2), (3, .int v3)] [] := by
  intro n
  induction n with
  | zero => intro v2 v3 st hf; cases hf
  | succ n ih => intro v2 v3 st hf; exact t_Hng_listEnds_4 C CR0 E hnL hgd hgr hgs (f_Hng_listEnds_4 n) ih v2 v3 st hf
theorem t_Hng_listEnds {G : Cx} (C : CX G prog_6_method_4_code "PaperStars$Hanging") (CR0 : CR G (Option.some FieldType.int)) (E : LCin (gly G)) (hnL : gnL G = 4) (hgd : 0 ≤ gd G) {q : Int32 × Mm} (hgr : gr G = some (.int q.1)) (hgs : gsf G = q.2) (st : Mm) (hf : f_Hng_listEnds st = some q) : AW G st 0 [(0, .ref (gad G 42)), (1, .ref (gad G 34))] [] := by
  unfold f_Hng_listEnds at hf
  refine aw_iconst C (i0 := 0) (v := 0) (by decide) (by decide +kernel) rfl ?_
  refine aw_istore_n C [(2, .int (0 : Int32)), (0, .ref (gad G 42)), (1, .ref (gad G 34))] (j := 2) rfl (by rw [hnL]; decide) rfl (by decide +kernel) rfl ?_
  refine aw_iconst C (i0 := 0) (v := 0) (by decide) (by decide +kernel) rfl ?_
  refine aw_istore_n C [(3, .int (0 : Int32)), (2, .int (0 : Int32)), (0, .ref (gad G 42)), (1, .ref (gad G 34))] (j := 3) rfl (by rw [hnL]; decide) rfl (by decide +kernel) rfl ?_
  refine aw_sub [(0, .ref (gad G 42)), (1, .ref (gad G 34)), (2, .int (0 : Int32)), (3, .int (0 : Int32))] [2, 3, 1, 0] rfl ?_
  exact u_Hng_listEnds_4 C CR0 E hnL hgd hgr hgs _ (0 : Int32) (0 : Int32) _ hf
theorem c_Hng_listEnds {lay : Ly} (E : LCin lay) (st : Mm) (q : Int32 × Mm) (hf : f_Hng_listEnds st = some q) : Con 0 Y88 prog_6_method_4_code 4 (Option.some FieldType.int) lay (fun ad => [.ref (ad 42), .ref (ad 34)]) st (some (.int q.1)) q.2 :=
  am_met yf_88.2.2.2.2.2 (fun ad => Nat.le_of_ble_eq_true rfl) (fun G C CR0 e1 e2 e3 e4 e5 => t_Hng_listEnds C CR0 (by rw [e1]; exact E) e2 (Nat.le_of_eq e5.symm) e3 e4 st hf)
def b_Hng_setPrices_2 (k2 : Int32 → Mm → Option (Unit × Mm)) (v3 : Int32) (st : Mm) : Option (Unit × Mm) :=
  if (256 : Int32) ≤ v3 then (some ((), st)) else ((f_x_hasBit 31 v3 st).bind (fun q2 => if q2.1 = 0 then ((f_x_hasBit 5 v3 q2.2).bind (fun q4 => if q4.1 = 0 then (if inb v3 256 then lt_ (v3 + (1 : Int32)) (fun a7 => k2 a7 (sI q4.2 44 v3.toNatClampNeg (1 : Int32))) else none) else (if inb v3 256 then lt_ (v3 + (1 : Int32)) (fun a9 => k2 a9 (sI q4.2 44 v3.toNatClampNeg (1000000 : Int32))) else none))) else (if inb v3 256 then lt_ (v3 + (1 : Int32)) (fun a11 => k2 a11 (sI q2.2 44 v3.toNatClampNeg (0 : Int32))) else none)))
def f_Hng_setPrices_2 : Nat → Int32 → Mm → Option (Unit × Mm)
  | 0 => fun _ _ => none
  | n + 1 => b_Hng_setPrices_2 (f_Hng_setPrices_2 n)
def f_Hng_setPrices (st : Mm) : Option (Unit × Mm) :=
  f_Hng_setPrices_2 1000000 (0 : Int32) st
theorem t_Hng_setPrices_2 {G : Cx} (C : CX G prog_6_method_3_code "PaperStars$Hanging") (CR0 : CR G (Option.none)) (E : LCin (gly G)) (hnL : gnL G = 4) (hgd : 1 ≤ gd G) {q : Unit × Mm} (hgr : gr G = none) (hgs : gsf G = q.2) (k2 : Int32 → Mm → Option (Unit × Mm)) (hk2 : ∀ (v3 : Int32) (st : Mm), k2 v3 st = some q → AW G st 2 [(0, .ref (gad G 42)), (1, .ref (gad G 30)), (2, .ref (gad G 5)), (3, .int v3)] []) (v3 : Int32) (st : Mm) (hf : b_Hng_setPrices_2 k2 v3 st = some q) : AW G st 2 [(0, .ref (gad G 42)), (1, .ref (gad G 30)), (2, .ref (gad G 5)), (3, .int v3)] [] := by
  unfold b_Hng_setPrices_2 at hf
  refine aw_iload_n C 3 3 (j := 3) rfl rfl (by decide +kernel) rfl ?_
  refine aw_sipush C (i0 := 256) (v := 256) (by decide) (by decide +kernel) rfl ?_
  refine aw_icmp_ge C (tgt := 56) (off := 50) (by decide +kernel) (by decide) rfl (fun c1 => ?_) (fun c1 => ?_)
  · have hf := ift c1 hf
    exact aw_vretq C CR0 hgr hgs hf (by decide +kernel)
  · have hf := iff_ c1 hf
    refine aw_aload_n C 1 1 (j := 1) rfl rfl (by decide +kernel) rfl ?_
    refine aw_getr C (k := 1) fc_6 (lc_30 E) rfl (by decide) tb_219 (by decide +kernel) rfl ?_
    refine aw_iload_n C 3 3 (j := 3) rfl rfl (by decide +kernel) rfl ?_
    obtain ⟨q2, hq2, hf⟩ := ibd hf
    refine aw_callSN C (rest := []) (c_x_hasBit 31 (lc_31 E) v3 _ q2 hq2) nw_17 yf_23 tb_394 rfl _ rfl (Nat.le_trans (by decide) hgd) (Nat.le_of_ble_eq_true rfl) (by decide +kernel) rfl ?_
    show AW _ _ _ _ [.int q2.1]
    refine aw_if_eq C (tgt := 30) (off := 13) (by decide +kernel) (by decide) rfl (fun c3 => ?_) (fun c3 => ?_)
    · have hf := ift c3 hf
      refine aw_aload_n C 0 0 (j := 0) rfl rfl (by decide +kernel) rfl ?_
      refine aw_getr C (k := 1) fc_4 (lc_42 E) rfl (by decide) tb_287 (by decide +kernel) rfl ?_
      refine aw_iload_n C 3 3 (j := 3) rfl rfl (by decide +kernel) rfl ?_
      refine aw_aload_n C 2 2 (j := 2) rfl rfl (by decide +kernel) rfl ?_
      refine aw_iload_n C 3 3 (j := 3) rfl rfl (by decide +kernel) rfl ?_
      obtain ⟨q4, hq4, hf⟩ := ibd hf
      refine aw_callSN C (rest := [.int v3, .ref (gad G 44)]) (c_x_hasBit 5 (lc_5 E) v3 _ q4 hq4) nw_17 yf_23 tb_394 rfl _ rfl (Nat.le_trans (by decide) hgd) (Nat.le_of_ble_eq_true rfl) (by decide +kernel) rfl ?_
      show AW _ _ _ _ [.int q4.1, .int v3, .ref (gad G 44)]
      refine aw_if_eq C (tgt := 48) (off := 8) (by decide +kernel) (by decide) rfl (fun c5 => ?_) (fun c5 => ?_)
      · have hf := ift c5 hf
        refine aw_iconst C (i0 := 1) (v := 1) (by decide) (by decide +kernel) rfl ?_
        obtain ⟨g6, hf⟩ := igd hf
        refine aw_iast C (lc_44 E) g6 (by decide +kernel) rfl ?_
        obtain ⟨a7, ha7⟩ : ∃ z, z = (v3 + (1 : Int32)) := ⟨_, rfl⟩
        have hf := ilt ha7 hf
        refine aw_iinc C [(3, .int a7), (0, .ref (gad G 42)), (1, .ref (gad G 30)), (2, .ref (gad G 5))] 3 (n := 1) rfl (by rw [ha7]; rfl) (by rw [hnL]; decide) rfl (by decide +kernel) rfl ?_
        refine aw_goto C (tgt := 2) (off := -51) (by decide +kernel) (by decide) ?_
        refine aw_sub [(0, .ref (gad G 42)), (1, .ref (gad G 30)), (2, .ref (gad G 5)), (3, .int a7)] [1, 2, 3, 0] rfl ?_
        exact hk2 a7 _ hf
      · have hf := iff_ c5 hf
        refine aw_ldc C tb_710 (by decide +kernel) rfl ?_
        refine aw_goto C (tgt := 49) (off := 4) (by decide +kernel) (by decide) ?_
        obtain ⟨g8, hf⟩ := igd hf
        refine aw_iast C (lc_44 E) g8 (by decide +kernel) rfl ?_
        obtain ⟨a9, ha9⟩ : ∃ z, z = (v3 + (1 : Int32)) := ⟨_, rfl⟩
        have hf := ilt ha9 hf
        refine aw_iinc C [(3, .int a9), (0, .ref (gad G 42)), (1, .ref (gad G 30)), (2, .ref (gad G 5))] 3 (n := 1) rfl (by rw [ha9]; rfl) (by rw [hnL]; decide) rfl (by decide +kernel) rfl ?_
        refine aw_goto C (tgt := 2) (off := -51) (by decide +kernel) (by decide) ?_
        refine aw_sub [(0, .ref (gad G 42)), (1, .ref (gad G 30)), (2, .ref (gad G 5)), (3, .int a9)] [1, 2, 3, 0] rfl ?_
        exact hk2 a9 _ hf
    · have hf := iff_ c3 hf
      refine aw_aload_n C 0 0 (j := 0) rfl rfl (by decide +kernel) rfl ?_
      refine aw_getr C (k := 1) fc_4 (lc_42 E) rfl (by decide) tb_287 (by decide +kernel) rfl ?_
      refine aw_iload_n C 3 3 (j := 3) rfl rfl (by decide +kernel) rfl ?_
      refine aw_iconst C (i0 := 0) (v := 0) (by decide) (by decide +kernel) rfl ?_
      obtain ⟨g10, hf⟩ := igd hf
      refine aw_iast C (lc_44 E) g10 (by decide +kernel) rfl ?_
      refine aw_goto C (tgt := 50) (off := 23) (by decide +kernel) (by decide) ?_
      obtain ⟨a11, ha11⟩ : ∃ z, z = (v3 + (1 : Int32)) := ⟨_, rfl⟩
      have hf := ilt ha11 hf
      refine aw_iinc C [(3, .int a11), (0, .ref (gad G 42)), (1, .ref (gad G 30)), (2, .ref (gad G 5))] 3 (n := 1) rfl (by rw [ha11]; rfl) (by rw [hnL]; decide) rfl (by decide +kernel) rfl ?_
      refine aw_goto C (tgt := 2) (off := -51) (by decide +kernel) (by decide) ?_
      refine aw_sub [(0, .ref (gad G 42)), (1, .ref (gad G 30)), (2, .ref (gad G 5)), (3, .int a11)] [1, 2, 3, 0] rfl ?_
      exact hk2 a11 _ hf
theorem u_Hng_setPrices_2 {G : Cx} (C : CX G prog_6_method_3_code "PaperStars$Hanging") (CR0 : CR G (Option.none)) (E : LCin (gly G)) (hnL : gnL G = 4) (hgd : 1 ≤ gd G) {q : Unit × Mm} (hgr : gr G = none) (hgs : gsf G = q.2) : ∀ (n : Nat) (v3 : Int32) (st : Mm), f_Hng_setPrices_2 n v3 st = some q → AW G st 2 [(0, .ref (gad G 42)), (1, .ref (gad G 30)), (2, .ref (gad G 5)), (3, .int v3)] [] := by
  intro n
  induction n with
  | zero => intro v3 st hf; cases hf
  | succ n ih => intro v3 st hf; exact t_Hng_setPrices_2 C CR0 E hnL hgd hgr hgs (f_Hng_setPrices_2 n) ih v3 st hf
theorem t_Hng_setPrices {G : Cx} (C : CX G prog_6_method_3_code "PaperStars$Hanging") (CR0 : CR G (Option.none)) (E : LCin (gly G)) (hnL : gnL G = 4) (hgd : 1 ≤ gd G) {q : Unit × Mm} (hgr : gr G = none) (hgs : gsf G = q.2) (st : Mm) (hf : f_Hng_setPrices st = some q) : AW G st 0 [(0, .ref (gad G 42)), (1, .ref (gad G 30)), (2, .ref (gad G 5))] [] := by
  unfold f_Hng_setPrices at hf
  refine aw_iconst C (i0 := 0) (v := 0) (by decide) (by decide +kernel) rfl ?_
  refine aw_istore_n C [(3, .int (0 : Int32)), (0, .ref (gad G 42)), (1, .ref (gad G 30)), (2, .ref (gad G 5))] (j := 3) rfl (by rw [hnL]; decide) rfl (by decide +kernel) rfl ?_
  refine aw_sub [(0, .ref (gad G 42)), (1, .ref (gad G 30)), (2, .ref (gad G 5)), (3, .int (0 : Int32))] [1, 2, 3, 0] rfl ?_
  exact u_Hng_setPrices_2 C CR0 E hnL hgd hgr hgs _ (0 : Int32) _ hf
theorem c_Hng_setPrices {lay : Ly} (E : LCin lay) (st : Mm) (q : Unit × Mm) (hf : f_Hng_setPrices st = some q) : Con 1 Y87 prog_6_method_3_code 4 (Option.none) lay (fun ad => [.ref (ad 42), .ref (ad 30), .ref (ad 5)]) st (none) q.2 :=
  am_met yf_87.2.2.2.2.2 (fun ad => Nat.le_of_ble_eq_true rfl) (fun G C CR0 e1 e2 e3 e4 e5 => t_Hng_setPrices C CR0 (by rw [e1]; exact E) e2 (Nat.le_of_eq e5.symm) e3 e4 st hf)
def f_Hng_lower (v1 : Int32) (v2 : Int32) (st : Mm) : Option (Int32 × Mm) :=
  if inb v1 8192 then if v2 < (st.1 43 v1.toNatClampNeg) then (if inb v1 8192 then some ((1 : Int32), (sI st 43 v1.toNatClampNeg v2)) else none) else (some ((0 : Int32), st)) else none
theorem t_Hng_lower {G : Cx} (C : CX G prog_6_method_8_code "PaperStars$Hanging") (CR0 : CR G (Option.some FieldType.boolean)) (E : LCin (gly G)) (hnL : gnL G = 3) (hgd : 0 ≤ gd G) {q : Int32 × Mm} (hgr : gr G = some (.int q.1)) (hgs : gsf G = q.2) (v1 : Int32) (v2 : Int32) (st : Mm) (hf : f_Hng_lower v1 v2 st = some q) : AW G st 0 [(0, .ref (gad G 42)), (1, .int v1), (2, .int v2)] [] := by
  unfold f_Hng_lower at hf
  refine aw_iload_n C 2 2 (j := 2) rfl rfl (by decide +kernel) rfl ?_
  refine aw_aload_n C 0 0 (j := 0) rfl rfl (by decide +kernel) rfl ?_
  refine aw_getr C (k := 0) fc_4 (lc_42 E) rfl (by decide) tb_286 (by decide +kernel) rfl ?_
  refine aw_iload_n C 1 1 (j := 1) rfl rfl (by decide +kernel) rfl ?_
  obtain ⟨g1, hf⟩ := igd hf
  refine aw_iald C (lc_43 E) g1 (by decide +kernel) rfl ?_
  refine aw_icmp_lt C (tgt := 12) (off := 5) (by decide +kernel) (by decide) rfl (fun c2 => ?_) (fun c2 => ?_)
  · have hf := ift c2 hf
    refine aw_aload_n C 0 0 (j := 0) rfl rfl (by decide +kernel) rfl ?_
    refine aw_getr C (k := 0) fc_4 (lc_42 E) rfl (by decide) tb_286 (by decide +kernel) rfl ?_
    refine aw_iload_n C 1 1 (j := 1) rfl rfl (by decide +kernel) rfl ?_
    refine aw_iload_n C 2 2 (j := 2) rfl rfl (by decide +kernel) rfl ?_
    obtain ⟨g3, hf⟩ := igd hf
    refine aw_iast C (lc_43 E) g3 (by decide +kernel) rfl ?_
    refine aw_iconst C (i0 := 1) (v := 1) (by decide) (by decide +kernel) rfl ?_
    exact aw_zretq C CR0 hgr hgs (by decide) hf (by decide +kernel)
  · have hf := iff_ c2 hf
    refine aw_iconst C (i0 := 0) (v := 0) (by decide) (by decide +kernel) rfl ?_
    exact aw_zretq C CR0 hgr hgs (by decide) hf (by decide +kernel)
theorem c_Hng_lower {lay : Ly} (E : LCin lay) (v1 : Int32) (v2 : Int32) (st : Mm) (q : Int32 × Mm) (hf : f_Hng_lower v1 v2 st = some q) : Con 0 Y93 prog_6_method_8_code 3 (Option.some FieldType.boolean) lay (fun ad => [.ref (ad 42), .int v1, .int v2]) st (some (.int q.1)) q.2 :=
  am_met yf_93.2.2.2.2.2 (fun ad => Nat.le_of_ble_eq_true rfl) (fun G C CR0 e1 e2 e3 e4 e5 => t_Hng_lower C CR0 (by rw [e1]; exact E) e2 (Nat.le_of_eq e5.symm) e3 e4 v1 v2 st hf)
def b_Hng_spread_89 (k5 : Int32 → Int32 → Int32 → Int32 → Mm → Option (Unit × Mm)) (k22 : Int32 → Int32 → Int32 → Int32 → Int32 → Mm → Option (Unit × Mm)) (k31 : Int32 → Int32 → Int32 → Int32 → Int32 → Int32 → Mm → Option (Unit × Mm)) (v1 : Int32) (v2 : Int32) (v3 : Int32) (v4 : Int32) (v5 : Int32) (v6 : Int32) (v7 : Int32) (v8 : Int32) (s0 : Int32) (st : Mm) : Option (Unit × Mm) :=
  if inb (v7 - v1) 256 then (f_Hng_lower v7 ((if s0 < v8 then s0 else v8) + (st.1 44 (v7 - v1).toNatClampNeg)) st).bind (fun q2 => lt_ (v3 ||| q2.1) (fun a3 => lt_ (v6 + (1 : Int32)) (fun a4 => k31 v1 v2 a3 v4 v5 a4 q2.2))) else none
def b_Hng_spread_67 (k5 : Int32 → Int32 → Int32 → Int32 → Mm → Option (Unit × Mm)) (k22 : Int32 → Int32 → Int32 → Int32 → Int32 → Mm → Option (Unit × Mm)) (k31 : Int32 → Int32 → Int32 → Int32 → Int32 → Int32 → Mm → Option (Unit × Mm)) (v1 : Int32) (v2 : Int32) (v3 : Int32) (v4 : Int32) (v5 : Int32) (v6 : Int32) (v7 : Int32) (s0 : Int32) (st : Mm) : Option (Unit × Mm) :=
  if v5 ≤ 0 then (b_Hng_spread_89 k5 k22 k31 v1 v2 v3 v4 v5 v6 v7 s0 (1000000 : Int32) st) else (if inb (v7 - (16 : Int32)) 8192 then b_Hng_spread_89 k5 k22 k31 v1 v2 v3 v4 v5 v6 v7 s0 (st.1 43 (v7 - (16 : Int32)).toNatClampNeg) st else none)
def b_Hng_spread_123 (k5 : Int32 → Int32 → Int32 → Int32 → Mm → Option (Unit × Mm)) (k22 : Int32 → Int32 → Int32 → Int32 → Int32 → Mm → Option (Unit × Mm)) (v1 : Int32) (v2 : Int32) (v3 : Int32) (v4 : Int32) (v5 : Int32) (st : Mm) : Option (Unit × Mm) :=
  lt_ (v5 + (1 : Int32)) (fun a1 => k22 v1 v2 v3 v4 a1 st)
def b_Hng_spread_31 (k5 : Int32 → Int32 → Int32 → Int32 → Mm → Option (Unit × Mm)) (k22 : Int32 → Int32 → Int32 → Int32 → Int32 → Mm → Option (Unit × Mm)) (k31 : Int32 → Int32 → Int32 → Int32 → Int32 → Int32 → Mm → Option (Unit × Mm)) (v1 : Int32) (v2 : Int32) (v3 : Int32) (v4 : Int32) (v5 : Int32) (v6 : Int32) (st : Mm) : Option (Unit × Mm) :=
  if v2 ≤ v6 then (b_Hng_spread_123 k5 k22 v1 v2 v3 v4 v5 st) else ((f_x_cellAt v6 v5 st).bind (fun q2 => lt_ (v1 + q2.1) (fun a3 => if v6 ≤ 0 then (b_Hng_spread_67 k5 k22 k31 v1 v2 v3 v4 v5 v6 a3 (1000000 : Int32) q2.2) else (if inb (a3 - (1 : Int32)) 8192 then b_Hng_spread_67 k5 k22 k31 v1 v2 v3 v4 v5 v6 a3 (q2.2.1 43 (a3 - (1 : Int32)).toNatClampNeg) q2.2 else none))))
def f_Hng_spread_31 (k5 : Int32 → Int32 → Int32 → Int32 → Mm → Option (Unit × Mm)) (k22 : Int32 → Int32 → Int32 → Int32 → Int32 → Mm → Option (Unit × Mm)) : Nat → Int32 → Int32 → Int32 → Int32 → Int32 → Int32 → Mm → Option (Unit × Mm)
  | 0 => fun _ _ _ _ _ _ _ => none
  | n + 1 => b_Hng_spread_31 k5 k22 (f_Hng_spread_31 k5 k22 n)
def b_Hng_spread_207 (k5 : Int32 → Int32 → Int32 → Int32 → Mm → Option (Unit × Mm)) (k134 : Int32 → Int32 → Int32 → Int32 → Int32 → Mm → Option (Unit × Mm)) (k144 : Int32 → Int32 → Int32 → Int32 → Int32 → Int32 → Mm → Option (Unit × Mm)) (v1 : Int32) (v2 : Int32) (v3 : Int32) (v4 : Int32) (v5 : Int32) (v6 : Int32) (v7 : Int32) (v8 : Int32) (s0 : Int32) (st : Mm) : Option (Unit × Mm) :=
  if inb (v7 - v1) 256 then (f_Hng_lower v7 ((if s0 < v8 then s0 else v8) + (st.1 44 (v7 - v1).toNatClampNeg)) st).bind (fun q2 => lt_ (v3 ||| q2.1) (fun a3 => lt_ (v6 + (-1 : Int32)) (fun a4 => k144 v1 v2 a3 v4 v5 a4 q2.2))) else none
def b_Hng_spread_182 (k5 : Int32 → Int32 → Int32 → Int32 → Mm → Option (Unit × Mm)) (k134 : Int32 → Int32 → Int32 → Int32 → Int32 → Mm → Option (Unit × Mm)) (k144 : Int32 → Int32 → Int32 → Int32 → Int32 → Int32 → Mm → Option (Unit × Mm)) (v1 : Int32) (v2 : Int32) (v3 : Int32) (v4 : Int32) (v5 : Int32) (v6 : Int32) (v7 : Int32) (s0 : Int32) (st : Mm) : Option (Unit × Mm) :=
  if (v2 - (1 : Int32)) ≤ v5 then (b_Hng_spread_207 k5 k134 k144 v1 v2 v3 v4 v5 v6 v7 s0 (1000000 : Int32) st) else (if inb (v7 + (16 : Int32)) 8192 then b_Hng_spread_207 k5 k134 k144 v1 v2 v3 v4 v5 v6 v7 s0 (st.1 43 (v7 + (16 : Int32)).toNatClampNeg) st else none)
def b_Hng_spread_241 (k5 : Int32 → Int32 → Int32 → Int32 → Mm → Option (Unit × Mm)) (k134 : Int32 → Int32 → Int32 → Int32 → Int32 → Mm → Option (Unit × Mm)) (v1 : Int32) (v2 : Int32) (v3 : Int32) (v4 : Int32) (v5 : Int32) (st : Mm) : Option (Unit × Mm) :=
  lt_ (v5 + (-1 : Int32)) (fun a1 => k134 v1 v2 v3 v4 a1 st)
def b_Hng_spread_144 (k5 : Int32 → Int32 → Int32 → Int32 → Mm → Option (Unit × Mm)) (k134 : Int32 → Int32 → Int32 → Int32 → Int32 → Mm → Option (Unit × Mm)) (k144 : Int32 → Int32 → Int32 → Int32 → Int32 → Int32 → Mm → Option (Unit × Mm)) (v1 : Int32) (v2 : Int32) (v3 : Int32) (v4 : Int32) (v5 : Int32) (v6 : Int32) (st : Mm) : Option (Unit × Mm) :=
  if v6 < 0 then (b_Hng_spread_241 k5 k134 v1 v2 v3 v4 v5 st) else ((f_x_cellAt v6 v5 st).bind (fun q2 => lt_ (v1 + q2.1) (fun a3 => if (v2 - (1 : Int32)) ≤ v6 then (b_Hng_spread_182 k5 k134 k144 v1 v2 v3 v4 v5 v6 a3 (1000000 : Int32) q2.2) else (if inb (a3 + (1 : Int32)) 8192 then b_Hng_spread_182 k5 k134 k144 v1 v2 v3 v4 v5 v6 a3 (q2.2.1 43 (a3 + (1 : Int32)).toNatClampNeg) q2.2 else none))))
def f_Hng_spread_144 (k5 : Int32 → Int32 → Int32 → Int32 → Mm → Option (Unit × Mm)) (k134 : Int32 → Int32 → Int32 → Int32 → Int32 → Mm → Option (Unit × Mm)) : Nat → Int32 → Int32 → Int32 → Int32 → Int32 → Int32 → Mm → Option (Unit × Mm)
  | 0 => fun _ _ _ _ _ _ _ => none
  | n + 1 => b_Hng_spread_144 k5 k134 (f_Hng_spread_144 k5 k134 n)
def b_Hng_spread_247 (k5 : Int32 → Int32 → Int32 → Int32 → Mm → Option (Unit × Mm)) (v1 : Int32) (v2 : Int32) (v3 : Int32) (v4 : Int32) (st : Mm) : Option (Unit × Mm) :=
  lt_ (v4 + (1 : Int32)) (fun a1 => k5 v1 v2 v3 a1 st)
def b_Hng_spread_134 (k5 : Int32 → Int32 → Int32 → Int32 → Mm → Option (Unit × Mm)) (k134 : Int32 → Int32 → Int32 → Int32 → Int32 → Mm → Option (Unit × Mm)) (v1 : Int32) (v2 : Int32) (v3 : Int32) (v4 : Int32) (v5 : Int32) (st : Mm) : Option (Unit × Mm) :=
  if v5 < 0 then (b_Hng_spread_247 k5 v1 v2 v3 v4 st) else (lt_ (v2 - (1 : Int32)) (fun a2 => f_Hng_spread_144 k5 k134 1000000 v1 v2 v3 v4 v5 a2 st))
def f_Hng_spread_134 (k5 : Int32 → Int32 → Int32 → Int32 → Mm → Option (Unit × Mm)) : Nat → Int32 → Int32 → Int32 → Int32 → Int32 → Mm → Option (Unit × Mm)
  | 0 => fun _ _ _ _ _ _ => none
  | n + 1 => b_Hng_spread_134 k5 (f_Hng_spread_134 k5 n)
def b_Hng_spread_129 (k5 : Int32 → Int32 → Int32 → Int32 → Mm → Option (Unit × Mm)) (v1 : Int32) (v2 : Int32) (v3 : Int32) (v4 : Int32) (st : Mm) : Option (Unit × Mm) :=
  lt_ (v2 - (1 : Int32)) (fun a1 => f_Hng_spread_134 k5 1000000 v1 v2 v3 v4 a1 st)
def b_Hng_spread_22 (k5 : Int32 → Int32 → Int32 → Int32 → Mm → Option (Unit × Mm)) (k22 : Int32 → Int32 → Int32 → Int32 → Int32 → Mm → Option (Unit × Mm)) (v1 : Int32) (v2 : Int32) (v3 : Int32) (v4 : Int32) (v5 : Int32) (st : Mm) : Option (Unit × Mm) :=
  if v2 ≤ v5 then (b_Hng_spread_129 k5 v1 v2 v3 v4 st) else (f_Hng_spread_31 k5 k22 1000000 v1 v2 v3 v4 v5 (0 : Int32) st)
def f_Hng_spread_22 (k5 : Int32 → Int32 → Int32 → Int32 → Mm → Option (Unit × Mm)) : Nat → Int32 → Int32 → Int32 → Int32 → Int32 → Mm → Option (Unit × Mm)
  | 0 => fun _ _ _ _ _ _ => none
  | n + 1 => b_Hng_spread_22 k5 (f_Hng_spread_22 k5 n)
def b_Hng_spread_5 (k5 : Int32 → Int32 → Int32 → Int32 → Mm → Option (Unit × Mm)) (v1 : Int32) (v2 : Int32) (v3 : Int32) (v4 : Int32) (st : Mm) : Option (Unit × Mm) :=
  if (256 : Int32) ≤ v4 then (some ((), st)) else (if v3 = 0 then (some ((), st)) else (f_Hng_spread_22 k5 1000000 v1 v2 (0 : Int32) v4 (0 : Int32) st))
def f_Hng_spread_5 : Nat → Int32 → Int32 → Int32 → Int32 → Mm → Option (Unit × Mm)
  | 0 => fun _ _ _ _ _ => none
  | n + 1 => b_Hng_spread_5 (f_Hng_spread_5 n)
def f_Hng_spread (v1 : Int32) (v2 : Int32) (st : Mm) : Option (Unit × Mm) :=
  f_Hng_spread_5 1000000 v1 v2 (1 : Int32) (0 : Int32) st
theorem t_Hng_spread_89 {G : Cx} (C : CX G prog_6_method_7_code "PaperStars$Hanging") (CR0 : CR G (Option.none)) (E : LCin (gly G)) (hnL : gnL G = 10) (hgd : 1 ≤ gd G) {q : Unit × Mm} (hgr : gr G = none) (hgs : gsf G = q.2) (k5 : Int32 → Int32 → Int32 → Int32 → Mm → Option (Unit × Mm)) (k22 : Int32 → Int32 → Int32 → Int32 → Int32 → Mm → Option (Unit × Mm)) (k31 : Int32 → Int32 → Int32 → Int32 → Int32 → Int32 → Mm → Option (Unit × Mm)) (hk5 : ∀ (v1 : Int32) (v2 : Int32) (v3 : Int32) (v4 : Int32) (st : Mm), k5 v1 v2 v3 v4 st = some q → AW G st 5 [(0, .ref (gad G 42)), (1, .int v1), (2, .int v2), (3, .int v3), (4, .int v4)] []) (hk22 : ∀ (v1 : Int32) (v2 : Int32) (v3 : Int32) (v4 : Int32) (v5 : Int32) (st : Mm), k22 v1 v2 v3 v4 v5 st = some q → AW G st 22 [(0, .ref (gad G 42)), (1, .int v1), (2, .int v2), (3, .int v3), (4, .int v4), (5, .int v5)] []) (hk31 : ∀ (v1 : Int32) (v2 : Int32) (v3 : Int32) (v4 : Int32) (v5 : Int32) (v6 : Int32) (st : Mm), k31 v1 v2 v3 v4 v5 v6 st = some q → AW G st 31 [(0, .ref (gad G 42)), (1, .int v1), (2, .int v2), (3, .int v3), (4, .int v4), (5, .int v5), (6, .int v6)] []) (v1 : Int32) (v2 : Int32) (v3 : Int32) (v4 : Int32) (v5 : Int32) (v6 : Int32) (v7 : Int32) (v8 : Int32) (s0 : Int32) (st : Mm) (hf : b_Hng_spread_89 k5 k22 k31 v1 v2 v3 v4 v5 v6 v7 v8 s0 st = some q) : AW G st 89 [(0, .ref (gad G 42)), (1, .int v1), (2, .int v2), (3, .int v3), (4, .int v4), (5, .int v5), (6, .int v6), (7, .int v7), (8, .int v8)] [.int s0] := by
  unfold b_Hng_spread_89 at hf
  refine aw_istore C [(9, .int s0), (0, .ref (gad G 42)), (1, .int v1), (2, .int v2), (3, .int v3), (4, .int v4), (5, .int v5), (6, .int v6), (7, .int v7), (8, .int v8)] (by rw [hnL]; decide) rfl (by decide +kernel) rfl ?_
  refine aw_iload_n C 3 4 (j := 3) rfl rfl (by decide +kernel) rfl ?_
  refine aw_aload_n C 0 1 (j := 0) rfl rfl (by decide +kernel) rfl ?_
  refine aw_iload C 7 8 rfl (by decide +kernel) rfl ?_
  refine aw_iload C 8 9 rfl (by decide +kernel) rfl ?_
  refine aw_iload C 9 0 rfl (by decide +kernel) rfl ?_
  refine aw_mmin C (Nat.le_trans (by decide) hgd) (Nat.le_of_ble_eq_true rfl) tb_733 tb_468 tb_14 tb_469 (by decide +kernel) rfl ?_
  refine aw_aload_n C 0 1 (j := 0) rfl rfl (by decide +kernel) rfl ?_
  refine aw_getr C (k := 1) fc_4 (lc_42 E) rfl (by decide) tb_287 (by decide +kernel) rfl ?_
  refine aw_iload C 7 8 rfl (by decide +kernel) rfl ?_
  refine aw_iload_n C 1 2 (j := 1) rfl rfl (by decide +kernel) rfl ?_
  refine aw_isub C (by decide +kernel) rfl ?_
  obtain ⟨g1, hf⟩ := igd hf
  refine aw_iald C (lc_44 E) g1 (by decide +kernel) rfl ?_
  refine aw_iadd C (by decide +kernel) rfl ?_
  obtain ⟨q2, hq2, hf⟩ := ibd hf
  refine aw_callV C (rest := [.int v3]) (c_Hng_lower E v7 ((if s0 < v8 then s0 else v8) + (st.1 44 (v7 - v1).toNatClampNeg)) _ q2 hq2) tb_734 yf_93 yi_93 (lc_42 E) [.int v7, .int ((if s0 < v8 then s0 else v8) + (st.1 44 (v7 - v1).toNatClampNeg))] rfl rfl _ rfl (Nat.le_trans (by decide) hgd) (Nat.le_of_ble_eq_true rfl) (by decide +kernel) rfl ?_
  show AW _ _ _ _ [.int q2.1, .int v3]
  refine aw_ior C (by decide +kernel) rfl ?_
  obtain ⟨a3, ha3⟩ : ∃ z, z = (v3 ||| q2.1) := ⟨_, rfl⟩
  refine aw_nmi ha3 ?_
  have hf := ilt ha3 hf
  refine aw_istore_n C [(3, .int a3), (9, .int s0), (0, .ref (gad G 42)), (1, .int v1), (2, .int v2), (4, .int v4), (5, .int v5), (6, .int v6), (7, .int v7), (8, .int v8)] (j := 3) rfl (by rw [hnL]; decide) rfl (by decide +kernel) rfl ?_
  obtain ⟨a4, ha4⟩ : ∃ z, z = (v6 + (1 : Int32)) := ⟨_, rfl⟩
  have hf := ilt ha4 hf
  refine aw_iinc C [(6, .int a4), (3, .int a3), (9, .int s0), (0, .ref (gad G 42)), (1, .int v1), (2, .int v2), (4, .int v4), (5, .int v5), (7, .int v7), (8, .int v8)] 7 (n := 1) rfl (by rw [ha4]; rfl) (by rw [hnL]; decide) rfl (by decide +kernel) rfl ?_
  refine aw_goto C (tgt := 31) (off := -89) (by decide +kernel) (by decide) ?_
  refine aw_sub [(0, .ref (gad G 42)), (1, .int v1), (2, .int v2), (3, .int a3), (4, .int v4), (5, .int v5), (6, .int a4)] [3, 4, 5, 1, 6, 7, 0] rfl ?_
  exact hk31 v1 v2 a3 v4 v5 a4 _ hf
theorem t_Hng_spread_67 {G : Cx} (C : CX G prog_6_method_7_code "PaperStars$Hanging") (CR0 : CR G (Option.none)) (E : LCin (gly G)) (hnL : gnL G = 10) (hgd : 1 ≤ gd G) {q : Unit × Mm} (hgr : gr G = none) (hgs : gsf G = q.2) (k5 : Int32 → Int32 → Int32 → Int32 → Mm → Option (Unit × Mm)) (k22 : Int32 → Int32 → Int32 → Int32 → Int32 → Mm → Option (Unit × Mm)) (k31 : Int32 → Int32 → Int32 → Int32 → Int32 → Int32 → Mm → Option (Unit × Mm)) (hk5 : ∀ (v1 : Int32) (v2 : Int32) (v3 : Int32) (v4 : Int32) (st : Mm), k5 v1 v2 v3 v4 st = some q → AW G st 5 [(0, .ref (gad G 42)), (1, .int v1), (2, .int v2), (3, .int v3), (4, .int v4)] []) (hk22 : ∀ (v1 : Int32) (v2 : Int32) (v3 : Int32) (v4 : Int32) (v5 : Int32) (st : Mm), k22 v1 v2 v3 v4 v5 st = some q → AW G st 22 [(0, .ref (gad G 42)), (1, .int v1), (2, .int v2), (3, .int v3), (4, .int v4), (5, .int v5)] []) (hk31 : ∀ (v1 : Int32) (v2 : Int32) (v3 : Int32) (v4 : Int32) (v5 : Int32) (v6 : Int32) (st : Mm), k31 v1 v2 v3 v4 v5 v6 st = some q → AW G st 31 [(0, .ref (gad G 42)), (1, .int v1), (2, .int v2), (3, .int v3), (4, .int v4), (5, .int v5), (6, .int v6)] []) (v1 : Int32) (v2 : Int32) (v3 : Int32) (v4 : Int32) (v5 : Int32) (v6 : Int32) (v7 : Int32) (s0 : Int32) (st : Mm) (hf : b_Hng_spread_67 k5 k22 k31 v1 v2 v3 v4 v5 v6 v7 s0 st = some q) : AW G st 67 [(0, .ref (gad G 42)), (1, .int v1), (2, .int v2), (3, .int v3), (4, .int v4), (5, .int v5), (6, .int v6), (7, .int v7)] [.int s0] := by
  unfold b_Hng_spread_67 at hf
  refine aw_istore C [(8, .int s0), (0, .ref (gad G 42)), (1, .int v1), (2, .int v2), (3, .int v3), (4, .int v4), (5, .int v5), (6, .int v6), (7, .int v7)] (by rw [hnL]; decide) rfl (by decide +kernel) rfl ?_
  refine aw_iload C 5 6 rfl (by decide +kernel) rfl ?_
  refine aw_if_le C (tgt := 87) (off := 16) (by decide +kernel) (by decide) rfl (fun c1 => ?_) (fun c1 => ?_)
  · have hf := ift c1 hf
    refine aw_ldc C tb_710 (by decide +kernel) rfl ?_
    refine aw_sub [(0, .ref (gad G 42)), (1, .int v1), (2, .int v2), (3, .int v3), (4, .int v4), (5, .int v5), (6, .int v6), (7, .int v7), (8, .int s0)] [1, 2, 3, 4, 5, 6, 7, 8, 0] rfl ?_
    exact t_Hng_spread_89 C CR0 E hnL hgd hgr hgs k5 k22 k31 hk5 hk22 hk31 v1 v2 v3 v4 v5 v6 v7 s0 (1000000 : Int32) _ hf
  · have hf := iff_ c1 hf
    refine aw_aload_n C 0 1 (j := 0) rfl rfl (by decide +kernel) rfl ?_
    refine aw_getr C (k := 0) fc_4 (lc_42 E) rfl (by decide) tb_286 (by decide +kernel) rfl ?_
    refine aw_iload C 7 8 rfl (by decide +kernel) rfl ?_
    refine aw_bipush C (i0 := 16) (v := 16) (by decide) (by decide +kernel) rfl ?_
    refine aw_isub C (by decide +kernel) rfl ?_
    obtain ⟨g2, hf⟩ := igd hf
    refine aw_iald C (lc_43 E) g2 (by decide +kernel) rfl ?_
    refine aw_goto C (tgt := 89) (off := 5) (by decide +kernel) (by decide) ?_
    refine aw_sub [(0, .ref (gad G 42)), (1, .int v1), (2, .int v2), (3, .int v3), (4, .int v4), (5, .int v5), (6, .int v6), (7, .int v7), (8, .int s0)] [1, 2, 3, 4, 5, 6, 7, 8, 0] rfl ?_
    exact t_Hng_spread_89 C CR0 E hnL hgd hgr hgs k5 k22 k31 hk5 hk22 hk31 v1 v2 v3 v4 v5 v6 v7 s0 (st.1 43 (v7 - (16 : Int32)).toNatClampNeg) _ hf
theorem t_Hng_spread_123 {G : Cx} (C : CX G prog_6_method_7_code "PaperStars$Hanging") (CR0 : CR G (Option.none)) (E : LCin (gly G)) (hnL : gnL G = 10) (hgd : 1 ≤ gd G) {q : Unit × Mm} (hgr : gr G = none) (hgs : gsf G = q.2) (k5 : Int32 → Int32 → Int32 → Int32 → Mm → Option (Unit × Mm)) (k22 : Int32 → Int32 → Int32 → Int32 → Int32 → Mm → Option (Unit × Mm)) (hk5 : ∀ (v1 : Int32) (v2 : Int32) (v3 : Int32) (v4 : Int32) (st : Mm), k5 v1 v2 v3 v4 st = some q → AW G st 5 [(0, .ref (gad G 42)), (1, .int v1), (2, .int v2), (3, .int v3), (4, .int v4)] []) (hk22 : ∀ (v1 : Int32) (v2 : Int32) (v3 : Int32) (v4 : Int32) (v5 : Int32) (st : Mm), k22 v1 v2 v3 v4 v5 st = some q → AW G st 22 [(0, .ref (gad G 42)), (1, .int v1), (2, .int v2), (3, .int v3), (4, .int v4), (5, .int v5)] []) (v1 : Int32) (v2 : Int32) (v3 : Int32) (v4 : Int32) (v5 : Int32) (st : Mm) (hf : b_Hng_spread_123 k5 k22 v1 v2 v3 v4 v5 st = some q) : AW G st 123 [(0, .ref (gad G 42)), (1, .int v1), (2, .int v2), (3, .int v3), (4, .int v4), (5, .int v5)] [] := by
  unfold b_Hng_spread_123 at hf
  obtain ⟨a1, ha1⟩ : ∃ z, z = (v5 + (1 : Int32)) := ⟨_, rfl⟩
  have hf := ilt ha1 hf
  refine aw_iinc C [(5, .int a1), (0, .ref (gad G 42)), (1, .int v1), (2, .int v2), (3, .int v3), (4, .int v4)] 5 (n := 1) rfl (by rw [ha1]; rfl) (by rw [hnL]; decide) rfl (by decide +kernel) rfl ?_
  refine aw_goto C (tgt := 22) (off := -104) (by decide +kernel) (by decide) ?_
  refine aw_sub [(0, .ref (gad G 42)), (1, .int v1), (2, .int v2), (3, .int v3), (4, .int v4), (5, .int a1)] [1, 2, 3, 4, 5, 0] rfl ?_
  exact hk22 v1 v2 v3 v4 a1 _ hf
theorem t_Hng_spread_31 {G : Cx} (C : CX G prog_6_method_7_code "PaperStars$Hanging") (CR0 : CR G (Option.none)) (E : LCin (gly G)) (hnL : gnL G = 10) (hgd : 1 ≤ gd G) {q : Unit × Mm} (hgr : gr G = none) (hgs : gsf G = q.2) (k5 : Int32 → Int32 → Int32 → Int32 → Mm → Option (Unit × Mm)) (k22 : Int32 → Int32 → Int32 → Int32 → Int32 → Mm → Option (Unit × Mm)) (k31 : Int32 → Int32 → Int32 → Int32 → Int32 → Int32 → Mm → Option (Unit × Mm)) (hk5 : ∀ (v1 : Int32) (v2 : Int32) (v3 : Int32) (v4 : Int32) (st : Mm), k5 v1 v2 v3 v4 st = some q → AW G st 5 [(0, .ref (gad G 42)), (1, .int v1), (2, .int v2), (3, .int v3), (4, .int v4)] []) (hk22 : ∀ (v1 : Int32) (v2 : Int32) (v3 : Int32) (v4 : Int32) (v5 : Int32) (st : Mm), k22 v1 v2 v3 v4 v5 st = some q → AW G st 22 [(0, .ref (gad G 42)), (1, .int v1), (2, .int v2), (3, .int v3), (4, .int v4), (5, .int v5)] []) (hk31 : ∀ (v1 : Int32) (v2 : Int32) (v3 : Int32) (v4 : Int32) (v5 : Int32) (v6 : Int32) (st : Mm), k31 v1 v2 v3 v4 v5 v6 st = some q → AW G st 31 [(0, .ref (gad G 42)), (1, .int v1), (2, .int v2), (3, .int v3), (4, .int v4), (5, .int v5), (6, .int v6)] []) (v1 : Int32) (v2 : Int32) (v3 : Int32) (v4 : Int32) (v5 : Int32) (v6 : Int32) (st : Mm) (hf : b_Hng_spread_31 k5 k22 k31 v1 v2 v3 v4 v5 v6 st = some q) : AW G st 31 [(0, .ref (gad G 42)), (1, .int v1), (2, .int v2), (3, .int v3), (4, .int v4), (5, .int v5), (6, .int v6)] [] := by
  unfold b_Hng_spread_31 at hf
  refine aw_iload C 6 6 rfl (by decide +kernel) rfl ?_
  refine aw_iload_n C 2 2 (j := 2) rfl rfl (by decide +kernel) rfl ?_
  refine aw_icmp_ge C (tgt := 123) (off := 89) (by decide +kernel) (by decide) rfl (fun c1 => ?_) (fun c1 => ?_)
  · have hf := ift c1 hf
    refine aw_sub [(0, .ref (gad G 42)), (1, .int v1), (2, .int v2), (3, .int v3), (4, .int v4), (5, .int v5)] [0, 1, 2, 3, 4, 5] rfl ?_
    exact t_Hng_spread_123 C CR0 E hnL hgd hgr hgs k5 k22 hk5 hk22 v1 v2 v3 v4 v5 _ hf
  · have hf := iff_ c1 hf
    refine aw_iload_n C 1 1 (j := 1) rfl rfl (by decide +kernel) rfl ?_
    refine aw_iload C 6 6 rfl (by decide +kernel) rfl ?_
    refine aw_iload C 5 5 rfl (by decide +kernel) rfl ?_
    obtain ⟨q2, hq2, hf⟩ := ibd hf
    refine aw_callSN C (rest := [.int v1]) (c_x_cellAt v6 v5 _ q2 hq2) nw_18 yf_22 tb_391 rfl _ rfl (Nat.le_trans (by decide) hgd) (Nat.le_of_ble_eq_true rfl) (by decide +kernel) rfl ?_
    show AW _ _ _ _ [.int q2.1, .int v1]
    refine aw_iadd C (by decide +kernel) rfl ?_
    obtain ⟨a3, ha3⟩ : ∃ z, z = (v1 + q2.1) := ⟨_, rfl⟩
    refine aw_nmi ha3 ?_
    have hf := ilt ha3 hf
    refine aw_istore C [(7, .int a3), (0, .ref (gad G 42)), (1, .int v1), (2, .int v2), (3, .int v3), (4, .int v4), (5, .int v5), (6, .int v6)] (by rw [hnL]; decide) rfl (by decide +kernel) rfl ?_
    refine aw_iload C 6 7 rfl (by decide +kernel) rfl ?_
    refine aw_if_le C (tgt := 65) (off := 15) (by decide +kernel) (by decide) rfl (fun c4 => ?_) (fun c4 => ?_)
    · have hf := ift c4 hf
      refine aw_ldc C tb_710 (by decide +kernel) rfl ?_
      refine aw_sub [(0, .ref (gad G 42)), (1, .int v1), (2, .int v2), (3, .int v3), (4, .int v4), (5, .int v5), (6, .int v6), (7, .int a3)] [1, 2, 3, 4, 5, 6, 7, 0] rfl ?_
      exact t_Hng_spread_67 C CR0 E hnL hgd hgr hgs k5 k22 k31 hk5 hk22 hk31 v1 v2 v3 v4 v5 v6 a3 (1000000 : Int32) _ hf
    · have hf := iff_ c4 hf
      refine aw_aload_n C 0 1 (j := 0) rfl rfl (by decide +kernel) rfl ?_
      refine aw_getr C (k := 0) fc_4 (lc_42 E) rfl (by decide) tb_286 (by decide +kernel) rfl ?_
      refine aw_iload C 7 0 rfl (by decide +kernel) rfl ?_
      refine aw_iconst C (i0 := 1) (v := 1) (by decide) (by decide +kernel) rfl ?_
      refine aw_isub C (by decide +kernel) rfl ?_
      obtain ⟨g5, hf⟩ := igd hf
      refine aw_iald C (lc_43 E) g5 (by decide +kernel) rfl ?_
      refine aw_goto C (tgt := 67) (off := 5) (by decide +kernel) (by decide) ?_
      refine aw_sub [(0, .ref (gad G 42)), (1, .int v1), (2, .int v2), (3, .int v3), (4, .int v4), (5, .int v5), (6, .int v6), (7, .int a3)] [1, 2, 3, 4, 5, 6, 7, 0] rfl ?_
      exact t_Hng_spread_67 C CR0 E hnL hgd hgr hgs k5 k22 k31 hk5 hk22 hk31 v1 v2 v3 v4 v5 v6 a3 (q2.2.1 43 (a3 - (1 : Int32)).toNatClampNeg) _ hf
theorem u_Hng_spread_31 {G : Cx} (C : CX G prog_6_method_7_code "PaperStars$Hanging") (CR0 : CR G (Option.none)) (E : LCin (gly G)) (hnL : gnL G = 10) (hgd : 1 ≤ gd G) {q : Unit × Mm} (hgr : gr G = none) (hgs : gsf G = q.2) (k5 : Int32 → Int32 → Int32 → Int32 → Mm → Option (Unit × Mm)) (k22 : Int32 → Int32 → Int32 → Int32 → Int32 → Mm → Option (Unit × Mm)) (hk5 : ∀ (v1 : Int32) (v2 : Int32) (v3 : Int32) (v4 : Int32) (st : Mm), k5 v1 v2 v3 v4 st = some q → AW G st 5 [(0, .ref (gad G 42)), (1, .int v1), (2, .int v2), (3, .int v3), (4, .int v4)] []) (hk22 : ∀ (v1 : Int32) (v2 : Int32) (v3 : Int32) (v4 : Int32) (v5 : Int32) (st : Mm), k22 v1 v2 v3 v4 v5 st = some q → AW G st 22 [(0, .ref (gad G 42)), (1, .int v1), (2, .int v2), (3, .int v3), (4, .int v4), (5, .int v5)] []) : ∀ (n : Nat) (v1 : Int32) (v2 : Int32) (v3 : Int32) (v4 : Int32) (v5 : Int32) (v6 : Int32) (st : Mm), f_Hng_spread_31 k5 k22 n v1 v2 v3 v4 v5 v6 st = some q → AW G st 31 [(0, .ref (gad G 42)), (1, .int v1), (2, .int v2), (3, .int v3), (4, .int v4), (5, .int v5), (6, .int v6)] [] := by
  intro n
  induction n with
  | zero => intro v1 v2 v3 v4 v5 v6 st hf; cases hf
  | succ n ih => intro v1 v2 v3 v4 v5 v6 st hf; exact t_Hng_spread_31 C CR0 E hnL hgd hgr hgs k5 k22 (f_Hng_spread_31 k5 k22 n) hk5 hk22 ih v1 v2 v3 v4 v5 v6 st hf
theorem t_Hng_spread_207 {G : Cx} (C : CX G prog_6_method_7_code "PaperStars$Hanging") (CR0 : CR G (Option.none)) (E : LCin (gly G)) (hnL : gnL G = 10) (hgd : 1 ≤ gd G) {q : Unit × Mm} (hgr : gr G = none) (hgs : gsf G = q.2) (k5 : Int32 → Int32 → Int32 → Int32 → Mm → Option (Unit × Mm)) (k134 : Int32 → Int32 → Int32 → Int32 → Int32 → Mm → Option (Unit × Mm)) (k144 : Int32 → Int32 → Int32 → Int32 → Int32 → Int32 → Mm → Option (Unit × Mm)) (hk5 : ∀ (v1 : Int32) (v2 : Int32) (v3 : Int32) (v4 : Int32) (st : Mm), k5 v1 v2 v3 v4 st = some q → AW G st 5 [(0, .ref (gad G 42)), (1, .int v1), (2, .int v2), (3, .int v3), (4, .int v4)] []) (hk134 : ∀ (v1 : Int32) (v2 : Int32) (v3 : Int32) (v4 : Int32) (v5 : Int32) (st : Mm), k134 v1 v2 v3 v4 v5 st = some q → AW G st 134 [(0, .ref (gad G 42)), (1, .int v1), (2, .int v2), (3, .int v3), (4, .int v4), (5, .int v5)] []) (hk144 : ∀ (v1 : Int32) (v2 : Int32) (v3 : Int32) (v4 : Int32) (v5 : Int32) (v6 : Int32) (st : Mm), k144 v1 v2 v3 v4 v5 v6 st = some q → AW G st 144 [(0, .ref (gad G 42)), (1, .int v1), (2, .int v2), (3, .int v3), (4, .int v4), (5, .int v5), (6, .int v6)] []) (v1 : Int32) (v2 : Int32) (v3 : Int32) (v4 : Int32) (v5 : Int32) (v6 : Int32) (v7 : Int32) (v8 : Int32) (s0 : Int32) (st : Mm) (hf : b_Hng_spread_207 k5 k134 k144 v1 v2 v3 v4 v5 v6 v7 v8 s0 st = some q) : AW G st 207 [(0, .ref (gad G 42)), (1, .int v1), (2, .int v2), (3, .int v3), (4, .int v4), (5, .int v5), (6, .int v6), (7, .int v7), (8, .int v8)] [.int s0] := by
  unfold b_Hng_spread_207 at hf
  refine aw_istore C [(9, .int s0), (0, .ref (gad G 42)), (1, .int v1), (2, .int v2), (3, .int v3), (4, .int v4), (5, .int v5), (6, .int v6), (7, .int v7), (8, .int v8)] (by rw [hnL]; decide) rfl (by decide +kernel) rfl ?_
  refine aw_iload_n C 3 4 (j := 3) rfl rfl (by decide +kernel) rfl ?_
  refine aw_aload_n C 0 1 (j := 0) rfl rfl (by decide +kernel) rfl ?_
  refine aw_iload C 7 8 rfl (by decide +kernel) rfl ?_
  refine aw_iload C 8 9 rfl (by decide +kernel) rfl ?_
  refine aw_iload C 9 0 rfl (by decide +kernel) rfl ?_
  refine aw_mmin C (Nat.le_trans (by decide) hgd) (Nat.le_of_ble_eq_true rfl) tb_733 tb_468 tb_14 tb_469 (by decide +kernel) rfl ?_
  refine aw_aload_n C 0 1 (j := 0) rfl rfl (by decide +kernel) rfl ?_
  refine aw_getr C (k := 1) fc_4 (lc_42 E) rfl (by decide) tb_287 (by decide +kernel) rfl ?_
  refine aw_iload C 7 8 rfl (by decide +kernel) rfl ?_
  refine aw_iload_n C 1 2 (j := 1) rfl rfl (by decide +kernel) rfl ?_
  refine aw_isub C (by decide +kernel) rfl ?_
  obtain ⟨g1, hf⟩ := igd hf
  refine aw_iald C (lc_44 E) g1 (by decide +kernel) rfl ?_
  refine aw_iadd C (by decide +kernel) rfl ?_
  obtain ⟨q2, hq2, hf⟩ := ibd hf
  refine aw_callV C (rest := [.int v3]) (c_Hng_lower E v7 ((if s0 < v8 then s0 else v8) + (st.1 44 (v7 - v1).toNatClampNeg)) _ q2 hq2) tb_734 yf_93 yi_93 (lc_42 E) [.int v7, .int ((if s0 < v8 then s0 else v8) + (st.1 44 (v7 - v1).toNatClampNeg))] rfl rfl _ rfl (Nat.le_trans (by decide) hgd) (Nat.le_of_ble_eq_true rfl) (by decide +kernel) rfl ?_
  show AW _ _ _ _ [.int q2.1, .int v3]
  refine aw_ior C (by decide +kernel) rfl ?_
  obtain ⟨a3, ha3⟩ : ∃ z, z = (v3 ||| q2.1) := ⟨_, rfl⟩
  refine aw_nmi ha3 ?_
  have hf := ilt ha3 hf
  refine aw_istore_n C [(3, .int a3), (9, .int s0), (0, .ref (gad G 42)), (1, .int v1), (2, .int v2), (4, .int v4), (5, .int v5), (6, .int v6), (7, .int v7), (8, .int v8)] (j := 3) rfl (by rw [hnL]; decide) rfl (by decide +kernel) rfl ?_
  obtain ⟨a4, ha4⟩ : ∃ z, z = (v6 + (-1 : Int32)) := ⟨_, rfl⟩
  have hf := ilt ha4 hf
  refine aw_iinc C [(6, .int a4), (3, .int a3), (9, .int s0), (0, .ref (gad G 42)), (1, .int v1), (2, .int v2), (4, .int v4), (5, .int v5), (7, .int v7), (8, .int v8)] 7 (n := -1) rfl (by rw [ha4]; rfl) (by rw [hnL]; decide) rfl (by decide +kernel) rfl ?_
  refine aw_goto C (tgt := 144) (off := -94) (by decide +kernel) (by decide) ?_
  refine aw_sub [(0, .ref (gad G 42)), (1, .int v1), (2, .int v2), (3, .int a3), (4, .int v4), (5, .int v5), (6, .int a4)] [3, 4, 5, 1, 6, 7, 0] rfl ?_
  exact hk144 v1 v2 a3 v4 v5 a4 _ hf
theorem t_Hng_spread_182 {G : Cx} (C : CX G prog_6_method_7_code "PaperStars$Hanging") (CR0 : CR G (Option.none)) (E : LCin (gly G)) (hnL : gnL G = 10) (hgd : 1 ≤ gd G) {q : Unit × Mm} (hgr : gr G = none) (hgs : gsf G = q.2) (k5 : Int32 → Int32 → Int32 → Int32 → Mm → Option (Unit × Mm)) (k134 : Int32 → Int32 → Int32 → Int32 → Int32 → Mm → Option (Unit × Mm)) (k144 : Int32 → Int32 → Int32 → Int32 → Int32 → Int32 → Mm → Option (Unit × Mm)) (hk5 : ∀ (v1 : Int32) (v2 : Int32) (v3 : Int32) (v4 : Int32) (st : Mm), k5 v1 v2 v3 v4 st = some q → AW G st 5 [(0, .ref (gad G 42)), (1, .int v1), (2, .int v2), (3, .int v3), (4, .int v4)] []) (hk134 : ∀ (v1 : Int32) (v2 : Int32) (v3 : Int32) (v4 : Int32) (v5 : Int32) (st : Mm), k134 v1 v2 v3 v4 v5 st = some q → AW G st 134 [(0, .ref (gad G 42)), (1, .int v1), (2, .int v2), (3, .int v3), (4, .int v4), (5, .int v5)] []) (hk144 : ∀ (v1 : Int32) (v2 : Int32) (v3 : Int32) (v4 : Int32) (v5 : Int32) (v6 : Int32) (st : Mm), k144 v1 v2 v3 v4 v5 v6 st = some q → AW G st 144 [(0, .ref (gad G 42)), (1, .int v1), (2, .int v2), (3, .int v3), (4, .int v4), (5, .int v5), (6, .int v6)] []) (v1 : Int32) (v2 : Int32) (v3 : Int32) (v4 : Int32) (v5 : Int32) (v6 : Int32) (v7 : Int32) (s0 : Int32) (st : Mm) (hf : b_Hng_spread_182 k5 k134 k144 v1 v2 v3 v4 v5 v6 v7 s0 st = some q) : AW G st 182 [(0, .ref (gad G 42)), (1, .int v1), (2, .int v2), (3, .int v3), (4, .int v4), (5, .int v5), (6, .int v6), (7, .int v7)] [.int s0] := by
  unfold b_Hng_spread_182 at hf
  refine aw_istore C [(8, .int s0), (0, .ref (gad G 42)), (1, .int v1), (2, .int v2), (3, .int v3), (4, .int v4), (5, .int v5), (6, .int v6), (7, .int v7)] (by rw [hnL]; decide) rfl (by decide +kernel) rfl ?_
  refine aw_iload C 5 6 rfl (by decide +kernel) rfl ?_
  refine aw_iload_n C 2 3 (j := 2) rfl rfl (by decide +kernel) rfl ?_
  refine aw_iconst C (i0 := 1) (v := 1) (by decide) (by decide +kernel) rfl ?_
  refine aw_isub C (by decide +kernel) rfl ?_
  refine aw_icmp_ge C (tgt := 205) (off := 16) (by decide +kernel) (by decide) rfl (fun c1 => ?_) (fun c1 => ?_)
  · have hf := ift c1 hf
    refine aw_ldc C tb_710 (by decide +kernel) rfl ?_
    refine aw_sub [(0, .ref (gad G 42)), (1, .int v1), (2, .int v2), (3, .int v3), (4, .int v4), (5, .int v5), (6, .int v6), (7, .int v7), (8, .int s0)] [1, 2, 3, 4, 5, 6, 7, 8, 0] rfl ?_
    exact t_Hng_spread_207 C CR0 E hnL hgd hgr hgs k5 k134 k144 hk5 hk134 hk144 v1 v2 v3 v4 v5 v6 v7 s0 (1000000 : Int32) _ hf
  · have hf := iff_ c1 hf
    refine aw_aload_n C 0 1 (j := 0) rfl rfl (by decide +kernel) rfl ?_
    refine aw_getr C (k := 0) fc_4 (lc_42 E) rfl (by decide) tb_286 (by decide +kernel) rfl ?_
    refine aw_iload C 7 8 rfl (by decide +kernel) rfl ?_
    refine aw_bipush C (i0 := 16) (v := 16) (by decide) (by decide +kernel) rfl ?_
    refine aw_iadd C (by decide +kernel) rfl ?_
    obtain ⟨g2, hf⟩ := igd hf
    refine aw_iald C (lc_43 E) g2 (by decide +kernel) rfl ?_
    refine aw_goto C (tgt := 207) (off := 5) (by decide +kernel) (by decide) ?_
    refine aw_sub [(0, .ref (gad G 42)), (1, .int v1), (2, .int v2), (3, .int v3), (4, .int v4), (5, .int v5), (6, .int v6), (7, .int v7), (8, .int s0)] [1, 2, 3, 4, 5, 6, 7, 8, 0] rfl ?_
    exact t_Hng_spread_207 C CR0 E hnL hgd hgr hgs k5 k134 k144 hk5 hk134 hk144 v1 v2 v3 v4 v5 v6 v7 s0 (st.1 43 (v7 + (16 : Int32)).toNatClampNeg) _ hf
theorem t_Hng_spread_241 {G : Cx} (C : CX G prog_6_method_7_code "PaperStars$Hanging") (CR0 : CR G (Option.none)) (E : LCin (gly G)) (hnL : gnL G = 10) (hgd : 1 ≤ gd G) {q : Unit × Mm} (hgr : gr G = none) (hgs : gsf G = q.2) (k5 : Int32 → Int32 → Int32 → Int32 → Mm → Option (Unit × Mm)) (k134 : Int32 → Int32 → Int32 → Int32 → Int32 → Mm → Option (Unit × Mm)) (hk5 : ∀ (v1 : Int32) (v2 : Int32) (v3 : Int32) (v4 : Int32) (st : Mm), k5 v1 v2 v3 v4 st = some q → AW G st 5 [(0, .ref (gad G 42)), (1, .int v1), (2, .int v2), (3, .int v3), (4, .int v4)] []) (hk134 : ∀ (v1 : Int32) (v2 : Int32) (v3 : Int32) (v4 : Int32) (v5 : Int32) (st : Mm), k134 v1 v2 v3 v4 v5 st = some q → AW G st 134 [(0, .ref (gad G 42)), (1, .int v1), (2, .int v2), (3, .int v3), (4, .int v4), (5, .int v5)] []) (v1 : Int32) (v2 : Int32) (v3 : Int32) (v4 : Int32) (v5 : Int32) (st : Mm) (hf : b_Hng_spread_241 k5 k134 v1 v2 v3 v4 v5 st = some q) : AW G st 241 [(0, .ref (gad G 42)), (1, .int v1), (2, .int v2), (3, .int v3), (4, .int v4), (5, .int v5)] [] := by
  unfold b_Hng_spread_241 at hf
  obtain ⟨a1, ha1⟩ : ∃ z, z = (v5 + (-1 : Int32)) := ⟨_, rfl⟩
  have hf := ilt ha1 hf
  refine aw_iinc C [(5, .int a1), (0, .ref (gad G 42)), (1, .int v1), (2, .int v2), (3, .int v3), (4, .int v4)] 5 (n := -1) rfl (by rw [ha1]; rfl) (by rw [hnL]; decide) rfl (by decide +kernel) rfl ?_
  refine aw_goto C (tgt := 134) (off := -110) (by decide +kernel) (by decide) ?_
  refine aw_sub [(0, .ref (gad G 42)), (1, .int v1), (2, .int v2), (3, .int v3), (4, .int v4), (5, .int a1)] [1, 2, 3, 4, 5, 0] rfl ?_
  exact hk134 v1 v2 v3 v4 a1 _ hf
theorem t_Hng_spread_144 {G : Cx} (C : CX G prog_6_method_7_code "PaperStars$Hanging") (CR0 : CR G (Option.none)) (E : LCin (gly G)) (hnL : gnL G = 10) (hgd : 1 ≤ gd G) {q : Unit × Mm} (hgr : gr G = none) (hgs : gsf G = q.2) (k5 : Int32 → Int32 → Int32 → Int32 → Mm → Option (Unit × Mm)) (k134 : Int32 → Int32 → Int32 → Int32 → Int32 → Mm → Option (Unit × Mm)) (k144 : Int32 → Int32 → Int32 → Int32 → Int32 → Int32 → Mm → Option (Unit × Mm)) (hk5 : ∀ (v1 : Int32) (v2 : Int32) (v3 : Int32) (v4 : Int32) (st : Mm), k5 v1 v2 v3 v4 st = some q → AW G st 5 [(0, .ref (gad G 42)), (1, .int v1), (2, .int v2), (3, .int v3), (4, .int v4)] []) (hk134 : ∀ (v1 : Int32) (v2 : Int32) (v3 : Int32) (v4 : Int32) (v5 : Int32) (st : Mm), k134 v1 v2 v3 v4 v5 st = some q → AW G st 134 [(0, .ref (gad G 42)), (1, .int v1), (2, .int v2), (3, .int v3), (4, .int v4), (5, .int v5)] []) (hk144 : ∀ (v1 : Int32) (v2 : Int32) (v3 : Int32) (v4 : Int32) (v5 : Int32) (v6 : Int32) (st : Mm), k144 v1 v2 v3 v4 v5 v6 st = some q → AW G st 144 [(0, .ref (gad G 42)), (1, .int v1), (2, .int v2), (3, .int v3), (4, .int v4), (5, .int v5), (6, .int v6)] []) (v1 : Int32) (v2 : Int32) (v3 : Int32) (v4 : Int32) (v5 : Int32) (v6 : Int32) (st : Mm) (hf : b_Hng_spread_144 k5 k134 k144 v1 v2 v3 v4 v5 v6 st = some q) : AW G st 144 [(0, .ref (gad G 42)), (1, .int v1), (2, .int v2), (3, .int v3), (4, .int v4), (5, .int v5), (6, .int v6)] [] := by
  unfold b_Hng_spread_144 at hf
  refine aw_iload C 6 6 rfl (by decide +kernel) rfl ?_
  refine aw_if_lt C (tgt := 241) (off := 95) (by decide +kernel) (by decide) rfl (fun c1 => ?_) (fun c1 => ?_)
  · have hf := ift c1 hf
    refine aw_sub [(0, .ref (gad G 42)), (1, .int v1), (2, .int v2), (3, .int v3), (4, .int v4), (5, .int v5)] [0, 1, 2, 3, 4, 5] rfl ?_
    exact t_Hng_spread_241 C CR0 E hnL hgd hgr hgs k5 k134 hk5 hk134 v1 v2 v3 v4 v5 _ hf
  · have hf := iff_ c1 hf
    refine aw_iload_n C 1 1 (j := 1) rfl rfl (by decide +kernel) rfl ?_
    refine aw_iload C 6 6 rfl (by decide +kernel) rfl ?_
    refine aw_iload C 5 5 rfl (by decide +kernel) rfl ?_
    obtain ⟨q2, hq2, hf⟩ := ibd hf
    refine aw_callSN C (rest := [.int v1]) (c_x_cellAt v6 v5 _ q2 hq2) nw_18 yf_22 tb_391 rfl _ rfl (Nat.le_trans (by decide) hgd) (Nat.le_of_ble_eq_true rfl) (by decide +kernel) rfl ?_
    show AW _ _ _ _ [.int q2.1, .int v1]
    refine aw_iadd C (by decide +kernel) rfl ?_
    obtain ⟨a3, ha3⟩ : ∃ z, z = (v1 + q2.1) := ⟨_, rfl⟩
    refine aw_nmi ha3 ?_
    have hf := ilt ha3 hf
    refine aw_istore C [(7, .int a3), (0, .ref (gad G 42)), (1, .int v1), (2, .int v2), (3, .int v3), (4, .int v4), (5, .int v5), (6, .int v6)] (by rw [hnL]; decide) rfl (by decide +kernel) rfl ?_
    refine aw_iload C 6 7 rfl (by decide +kernel) rfl ?_
    refine aw_iload_n C 2 3 (j := 2) rfl rfl (by decide +kernel) rfl ?_
    refine aw_iconst C (i0 := 1) (v := 1) (by decide) (by decide +kernel) rfl ?_
    refine aw_isub C (by decide +kernel) rfl ?_
    refine aw_icmp_ge C (tgt := 180) (off := 15) (by decide +kernel) (by decide) rfl (fun c4 => ?_) (fun c4 => ?_)
    · have hf := ift c4 hf
      refine aw_ldc C tb_710 (by decide +kernel) rfl ?_
      refine aw_sub [(0, .ref (gad G 42)), (1, .int v1), (2, .int v2), (3, .int v3), (4, .int v4), (5, .int v5), (6, .int v6), (7, .int a3)] [1, 2, 3, 4, 5, 6, 7, 0] rfl ?_
      exact t_Hng_spread_182 C CR0 E hnL hgd hgr hgs k5 k134 k144 hk5 hk134 hk144 v1 v2 v3 v4 v5 v6 a3 (1000000 : Int32) _ hf
    · have hf := iff_ c4 hf
      refine aw_aload_n C 0 1 (j := 0) rfl rfl (by decide +kernel) rfl ?_
      refine aw_getr C (k := 0) fc_4 (lc_42 E) rfl (by decide) tb_286 (by decide +kernel) rfl ?_
      refine aw_iload C 7 0 rfl (by decide +kernel) rfl ?_
      refine aw_iconst C (i0 := 1) (v := 1) (by decide) (by decide +kernel) rfl ?_
      refine aw_iadd C (by decide +kernel) rfl ?_
      obtain ⟨g5, hf⟩ := igd hf
      refine aw_iald C (lc_43 E) g5 (by decide +kernel) rfl ?_
      refine aw_goto C (tgt := 182) (off := 5) (by decide +kernel) (by decide) ?_
      refine aw_sub [(0, .ref (gad G 42)), (1, .int v1), (2, .int v2), (3, .int v3), (4, .int v4), (5, .int v5), (6, .int v6), (7, .int a3)] [1, 2, 3, 4, 5, 6, 7, 0] rfl ?_
      exact t_Hng_spread_182 C CR0 E hnL hgd hgr hgs k5 k134 k144 hk5 hk134 hk144 v1 v2 v3 v4 v5 v6 a3 (q2.2.1 43 (a3 + (1 : Int32)).toNatClampNeg) _ hf
theorem u_Hng_spread_144 {G : Cx} (C : CX G prog_6_method_7_code "PaperStars$Hanging") (CR0 : CR G (Option.none)) (E : LCin (gly G)) (hnL : gnL G = 10) (hgd : 1 ≤ gd G) {q : Unit × Mm} (hgr : gr G = none) (hgs : gsf G = q.2) (k5 : Int32 → Int32 → Int32 → Int32 → Mm → Option (Unit × Mm)) (k134 : Int32 → Int32 → Int32 → Int32 → Int32 → Mm → Option (Unit × Mm)) (hk5 : ∀ (v1 : Int32) (v2 : Int32) (v3 : Int32) (v4 : Int32) (st : Mm), k5 v1 v2 v3 v4 st = some q → AW G st 5 [(0, .ref (gad G 42)), (1, .int v1), (2, .int v2), (3, .int v3), (4, .int v4)] []) (hk134 : ∀ (v1 : Int32) (v2 : Int32) (v3 : Int32) (v4 : Int32) (v5 : Int32) (st : Mm), k134 v1 v2 v3 v4 v5 st = some q → AW G st 134 [(0, .ref (gad G 42)), (1, .int v1), (2, .int v2), (3, .int v3), (4, .int v4), (5, .int v5)] []) : ∀ (n : Nat) (v1 : Int32) (v2 : Int32) (v3 : Int32) (v4 : Int32) (v5 : Int32) (v6 : Int32) (st : Mm), f_Hng_spread_144 k5 k134 n v1 v2 v3 v4 v5 v6 st = some q → AW G st 144 [(0, .ref (gad G 42)), (1, .int v1), (2, .int v2), (3, .int v3), (4, .int v4), (5, .int v5), (6, .int v6)] [] := by
  intro n
  induction n with
  | zero => intro v1 v2 v3 v4 v5 v6 st hf; cases hf
  | succ n ih => intro v1 v2 v3 v4 v5 v6 st hf; exact t_Hng_spread_144 C CR0 E hnL hgd hgr hgs k5 k134 (f_Hng_spread_144 k5 k134 n) hk5 hk134 ih v1 v2 v3 v4 v5 v6 st hf
theorem t_Hng_spread_247 {G : Cx} (C : CX G prog_6_method_7_code "PaperStars$Hanging") (CR0 : CR G (Option.none)) (E : LCin (gly G)) (hnL : gnL G = 10) (hgd : 1 ≤ gd G) {q : Unit × Mm} (hgr : gr G = none) (hgs : gsf G = q.2) (k5 : Int32 → Int32 → Int32 → Int32 → Mm → Option (Unit × Mm)) (hk5 : ∀ (v1 : Int32) (v2 : Int32) (v3 : Int32) (v4 : Int32) (st : Mm), k5 v1 v2 v3 v4 st = some q → AW G st 5 [(0, .ref (gad G 42)), (1, .int v1), (2, .int v2), (3, .int v3), (4, .int v4)] []) (v1 : Int32) (v2 : Int32) (v3 : Int32) (v4 : Int32) (st : Mm) (hf : b_Hng_spread_247 k5 v1 v2 v3 v4 st = some q) : AW G st 247 [(0, .ref (gad G 42)), (1, .int v1), (2, .int v2), (3, .int v3), (4, .int v4)] [] := by
  unfold b_Hng_spread_247 at hf
  obtain ⟨a1, ha1⟩ : ∃ z, z = (v4 + (1 : Int32)) := ⟨_, rfl⟩
  have hf := ilt ha1 hf
  refine aw_iinc C [(4, .int a1), (0, .ref (gad G 42)), (1, .int v1), (2, .int v2), (3, .int v3)] 4 (n := 1) rfl (by rw [ha1]; rfl) (by rw [hnL]; decide) rfl (by decide +kernel) rfl ?_
  refine aw_goto C (tgt := 5) (off := -245) (by decide +kernel) (by decide) ?_
  refine aw_sub [(0, .ref (gad G 42)), (1, .int v1), (2, .int v2), (3, .int v3), (4, .int a1)] [1, 2, 3, 4, 0] rfl ?_
  exact hk5 v1 v2 v3 a1 _ hf
theorem t_Hng_spread_134 {G : Cx} (C : CX G prog_6_method_7_code "PaperStars$Hanging") (CR0 : CR G (Option.none)) (E : LCin (gly G)) (hnL : gnL G = 10) (hgd : 1 ≤ gd G) {q : Unit × Mm} (hgr : gr G = none) (hgs : gsf G = q.2) (k5 : Int32 → Int32 → Int32 → Int32 → Mm → Option (Unit × Mm)) (k134 : Int32 → Int32 → Int32 → Int32 → Int32 → Mm → Option (Unit × Mm)) (hk5 : ∀ (v1 : Int32) (v2 : Int32) (v3 : Int32) (v4 : Int32) (st : Mm), k5 v1 v2 v3 v4 st = some q → AW G st 5 [(0, .ref (gad G 42)), (1, .int v1), (2, .int v2), (3, .int v3), (4, .int v4)] []) (hk134 : ∀ (v1 : Int32) (v2 : Int32) (v3 : Int32) (v4 : Int32) (v5 : Int32) (st : Mm), k134 v1 v2 v3 v4 v5 st = some q → AW G st 134 [(0, .ref (gad G 42)), (1, .int v1), (2, .int v2), (3, .int v3), (4, .int v4), (5, .int v5)] []) (v1 : Int32) (v2 : Int32) (v3 : Int32) (v4 : Int32) (v5 : Int32) (st : Mm) (hf : b_Hng_spread_134 k5 k134 v1 v2 v3 v4 v5 st = some q) : AW G st 134 [(0, .ref (gad G 42)), (1, .int v1), (2, .int v2), (3, .int v3), (4, .int v4), (5, .int v5)] [] := by
  unfold b_Hng_spread_134 at hf
  refine aw_iload C 5 5 rfl (by decide +kernel) rfl ?_
  refine aw_if_lt C (tgt := 247) (off := 111) (by decide +kernel) (by decide) rfl (fun c1 => ?_) (fun c1 => ?_)
  · have hf := ift c1 hf
    refine aw_sub [(0, .ref (gad G 42)), (1, .int v1), (2, .int v2), (3, .int v3), (4, .int v4)] [0, 1, 2, 3, 4] rfl ?_
    exact t_Hng_spread_247 C CR0 E hnL hgd hgr hgs k5 hk5 v1 v2 v3 v4 _ hf
  · have hf := iff_ c1 hf
    refine aw_iload_n C 2 2 (j := 2) rfl rfl (by decide +kernel) rfl ?_
    refine aw_iconst C (i0 := 1) (v := 1) (by decide) (by decide +kernel) rfl ?_
    refine aw_isub C (by decide +kernel) rfl ?_
    obtain ⟨a2, ha2⟩ : ∃ z, z = (v2 - (1 : Int32)) := ⟨_, rfl⟩
    refine aw_nmi ha2 ?_
    have hf := ilt ha2 hf
    refine aw_istore C [(6, .int a2), (0, .ref (gad G 42)), (1, .int v1), (2, .int v2), (3, .int v3), (4, .int v4), (5, .int v5)] (by rw [hnL]; decide) rfl (by decide +kernel) rfl ?_
    refine aw_sub [(0, .ref (gad G 42)), (1, .int v1), (2, .int v2), (3, .int v3), (4, .int v4), (5, .int v5), (6, .int a2)] [1, 2, 3, 4, 5, 6, 0] rfl ?_
    exact u_Hng_spread_144 C CR0 E hnL hgd hgr hgs k5 k134 hk5 hk134 _ v1 v2 v3 v4 v5 a2 _ hf
theorem u_Hng_spread_134 {G : Cx} (C : CX G prog_6_method_7_code "PaperStars$Hanging") (CR0 : CR G (Option.none)) (E : LCin (gly G)) (hnL : gnL G = 10) (hgd : 1 ≤ gd G) {q : Unit × Mm} (hgr : gr G = none) (hgs : gsf G = q.2) (k5 : Int32 → Int32 → Int32 → Int32 → Mm → Option (Unit × Mm)) (hk5 : ∀ (v1 : Int32) (v2 : Int32) (v3 : Int32) (v4 : Int32) (st : Mm), k5 v1 v2 v3 v4 st = some q → AW G st 5 [(0, .ref (gad G 42)), (1, .int v1), (2, .int v2), (3, .int v3), (4, .int v4)] []) : ∀ (n : Nat) (v1 : Int32) (v2 : Int32) (v3 : Int32) (v4 : Int32) (v5 : Int32) (st : Mm), f_Hng_spread_134 k5 n v1 v2 v3 v4 v5 st = some q → AW G st 134 [(0, .ref (gad G 42)), (1, .int v1), (2, .int v2), (3, .int v3), (4, .int v4), (5, .int v5)] [] := by
  intro n
  induction n with
  | zero => intro v1 v2 v3 v4 v5 st hf; cases hf
  | succ n ih => intro v1 v2 v3 v4 v5 st hf; exact t_Hng_spread_134 C CR0 E hnL hgd hgr hgs k5 (f_Hng_spread_134 k5 n) hk5 ih v1 v2 v3 v4 v5 st hf
theorem t_Hng_spread_129 {G : Cx} (C : CX G prog_6_method_7_code "PaperStars$Hanging") (CR0 : CR G (Option.none)) (E : LCin (gly G)) (hnL : gnL G = 10) (hgd : 1 ≤ gd G) {q : Unit × Mm} (hgr : gr G = none) (hgs : gsf G = q.2) (k5 : Int32 → Int32 → Int32 → Int32 → Mm → Option (Unit × Mm)) (hk5 : ∀ (v1 : Int32) (v2 : Int32) (v3 : Int32) (v4 : Int32) (st : Mm), k5 v1 v2 v3 v4 st = some q → AW G st 5 [(0, .ref (gad G 42)), (1, .int v1), (2, .int v2), (3, .int v3), (4, .int v4)] []) (v1 : Int32) (v2 : Int32) (v3 : Int32) (v4 : Int32) (st : Mm) (hf : b_Hng_spread_129 k5 v1 v2 v3 v4 st = some q) : AW G st 129 [(0, .ref (gad G 42)), (1, .int v1), (2, .int v2), (3, .int v3), (4, .int v4)] [] := by
  unfold b_Hng_spread_129 at hf
  refine aw_iload_n C 2 2 (j := 2) rfl rfl (by decide +kernel) rfl ?_
  refine aw_iconst C (i0 := 1) (v := 1) (by decide) (by decide +kernel) rfl ?_
  refine aw_isub C (by decide +kernel) rfl ?_
  obtain ⟨a1, ha1⟩ : ∃ z, z = (v2 - (1 : Int32)) := ⟨_, rfl⟩
  refine aw_nmi ha1 ?_
  have hf := ilt ha1 hf
  refine aw_istore C [(5, .int a1), (0, .ref (gad G 42)), (1, .int v1), (2, .int v2), (3, .int v3), (4, .int v4)] (by rw [hnL]; decide) rfl (by decide +kernel) rfl ?_
  refine aw_sub [(0, .ref (gad G 42)), (1, .int v1), (2, .int v2), (3, .int v3), (4, .int v4), (5, .int a1)] [1, 2, 3, 4, 5, 0] rfl ?_
  exact u_Hng_spread_134 C CR0 E hnL hgd hgr hgs k5 hk5 _ v1 v2 v3 v4 a1 _ hf
theorem t_Hng_spread_22 {G : Cx} (C : CX G prog_6_method_7_code "PaperStars$Hanging") (CR0 : CR G (Option.none)) (E : LCin (gly G)) (hnL : gnL G = 10) (hgd : 1 ≤ gd G) {q : Unit × Mm} (hgr : gr G = none) (hgs : gsf G = q.2) (k5 : Int32 → Int32 → Int32 → Int32 → Mm → Option (Unit × Mm)) (k22 : Int32 → Int32 → Int32 → Int32 → Int32 → Mm → Option (Unit × Mm)) (hk5 : ∀ (v1 : Int32) (v2 : Int32) (v3 : Int32) (v4 : Int32) (st : Mm), k5 v1 v2 v3 v4 st = some q → AW G st 5 [(0, .ref (gad G 42)), (1, .int v1), (2, .int v2), (3, .int v3), (4, .int v4)] []) (hk22 : ∀ (v1 : Int32) (v2 : Int32) (v3 : Int32) (v4 : Int32) (v5 : Int32) (st : Mm), k22 v1 v2 v3 v4 v5 st = some q → AW G st 22 [(0, .ref (gad G 42)), (1, .int v1), (2, .int v2), (3, .int v3), (4, .int v4), (5, .int v5)] []) (v1 : Int32) (v2 : Int32) (v3 : Int32) (v4 : Int32) (v5 : Int32) (st : Mm) (hf : b_Hng_spread_22 k5 k22 v1 v2 v3 v4 v5 st = some q) : AW G st 22 [(0, .ref (gad G 42)), (1, .int v1), (2, .int v2), (3, .int v3), (4, .int v4), (5, .int v5)] [] := by
  unfold b_Hng_spread_22 at hf
  refine aw_iload C 5 5 rfl (by decide +kernel) rfl ?_
  refine aw_iload_n C 2 2 (j := 2) rfl rfl (by decide +kernel) rfl ?_
  refine aw_icmp_ge C (tgt := 129) (off := 104) (by decide +kernel) (by decide) rfl (fun c1 => ?_) (fun c1 => ?_)
  · have hf := ift c1 hf
    refine aw_sub [(0, .ref (gad G 42)), (1, .int v1), (2, .int v2), (3, .int v3), (4, .int v4)] [0, 1, 2, 3, 4] rfl ?_
    exact t_Hng_spread_129 C CR0 E hnL hgd hgr hgs k5 hk5 v1 v2 v3 v4 _ hf
  · have hf := iff_ c1 hf
    refine aw_iconst C (i0 := 0) (v := 0) (by decide) (by decide +kernel) rfl ?_
    refine aw_istore C [(6, .int (0 : Int32)), (0, .ref (gad G 42)), (1, .int v1), (2, .int v2), (3, .int v3), (4, .int v4), (5, .int v5)] (by rw [hnL]; decide) rfl (by decide +kernel) rfl ?_
    refine aw_sub [(0, .ref (gad G 42)), (1, .int v1), (2, .int v2), (3, .int v3), (4, .int v4), (5, .int v5), (6, .int (0 : Int32))] [1, 2, 3, 4, 5, 6, 0] rfl ?_
    exact u_Hng_spread_31 C CR0 E hnL hgd hgr hgs k5 k22 hk5 hk22 _ v1 v2 v3 v4 v5 (0 : Int32) _ hf
theorem u_Hng_spread_22 {G : Cx} (C : CX G prog_6_method_7_code "PaperStars$Hanging") (CR0 : CR G (Option.none)) (E : LCin (gly G)) (hnL : gnL G = 10) (hgd : 1 ≤ gd G) {q : Unit × Mm} (hgr : gr G = none) (hgs : gsf G = q.2) (k5 : Int32 → Int32 → Int32 → Int32 → Mm → Option (Unit × Mm)) (hk5 : ∀ (v1 : Int32) (v2 : Int32) (v3 : Int32) (v4 : Int32) (st : Mm), k5 v1 v2 v3 v4 st = some q → AW G st 5 [(0, .ref (gad G 42)), (1, .int v1), (2, .int v2), (3, .int v3), (4, .int v4)] []) : ∀ (n : Nat) (v1 : Int32) (v2 : Int32) (v3 : Int32) (v4 : Int32) (v5 : Int32) (st : Mm), f_Hng_spread_22 k5 n v1 v2 v3 v4 v5 st = some q → AW G st 22 [(0, .ref (gad G 42)), (1, .int v1), (2, .int v2), (3, .int v3), (4, .int v4), (5, .int v5)] [] := by
  intro n
  induction n with
  | zero => intro v1 v2 v3 v4 v5 st hf; cases hf
  | succ n ih => intro v1 v2 v3 v4 v5 st hf; exact t_Hng_spread_22 C CR0 E hnL hgd hgr hgs k5 (f_Hng_spread_22 k5 n) hk5 ih v1 v2 v3 v4 v5 st hf
theorem t_Hng_spread_5 {G : Cx} (C : CX G prog_6_method_7_code "PaperStars$Hanging") (CR0 : CR G (Option.none)) (E : LCin (gly G)) (hnL : gnL G = 10) (hgd : 1 ≤ gd G) {q : Unit × Mm} (hgr : gr G = none) (hgs : gsf G = q.2) (k5 : Int32 → Int32 → Int32 → Int32 → Mm → Option (Unit × Mm)) (hk5 : ∀ (v1 : Int32) (v2 : Int32) (v3 : Int32) (v4 : Int32) (st : Mm), k5 v1 v2 v3 v4 st = some q → AW G st 5 [(0, .ref (gad G 42)), (1, .int v1), (2, .int v2), (3, .int v3), (4, .int v4)] []) (v1 : Int32) (v2 : Int32) (v3 : Int32) (v4 : Int32) (st : Mm) (hf : b_Hng_spread_5 k5 v1 v2 v3 v4 st = some q) : AW G st 5 [(0, .ref (gad G 42)), (1, .int v1), (2, .int v2), (3, .int v3), (4, .int v4)] [] := by
  unfold b_Hng_spread_5 at hf
  refine aw_iload C 4 4 rfl (by decide +kernel) rfl ?_
  refine aw_sipush C (i0 := 256) (v := 256) (by decide) (by decide +kernel) rfl ?_
  refine aw_icmp_ge C (tgt := 253) (off := 243) (by decide +kernel) (by decide) rfl (fun c1 => ?_) (fun c1 => ?_)
  · have hf := ift c1 hf
    exact aw_vretq C CR0 hgr hgs hf (by decide +kernel)
  · have hf := iff_ c1 hf
    refine aw_iload_n C 3 3 (j := 3) rfl rfl (by decide +kernel) rfl ?_
    refine aw_if_eq C (tgt := 253) (off := 239) (by decide +kernel) (by decide) rfl (fun c2 => ?_) (fun c2 => ?_)
    · have hf := ift c2 hf
      exact aw_vretq C CR0 hgr hgs hf (by decide +kernel)
    · have hf := iff_ c2 hf
      refine aw_iconst C (i0 := 0) (v := 0) (by decide) (by decide +kernel) rfl ?_
      refine aw_istore_n C [(3, .int (0 : Int32)), (0, .ref (gad G 42)), (1, .int v1), (2, .int v2), (4, .int v4)] (j := 3) rfl (by rw [hnL]; decide) rfl (by decide +kernel) rfl ?_
      refine aw_iconst C (i0 := 0) (v := 0) (by decide) (by decide +kernel) rfl ?_
      refine aw_istore C [(5, .int (0 : Int32)), (3, .int (0 : Int32)), (0, .ref (gad G 42)), (1, .int v1), (2, .int v2), (4, .int v4)] (by rw [hnL]; decide) rfl (by decide +kernel) rfl ?_
      refine aw_sub [(0, .ref (gad G 42)), (1, .int v1), (2, .int v2), (3, .int (0 : Int32)), (4, .int v4), (5, .int (0 : Int32))] [2, 3, 4, 1, 5, 0] rfl ?_
      exact u_Hng_spread_22 C CR0 E hnL hgd hgr hgs k5 hk5 _ v1 v2 (0 : Int32) v4 (0 : Int32) _ hf
theorem u_Hng_spread_5 {G : Cx} (C : CX G prog_6_method_7_code "PaperStars$Hanging") (CR0 : CR G (Option.none)) (E : LCin (gly G)) (hnL : gnL G = 10) (hgd : 1 ≤ gd G) {q : Unit × Mm} (hgr : gr G = none) (hgs : gsf G = q.2) : ∀ (n : Nat) (v1 : Int32) (v2 : Int32) (v3 : Int32) (v4 : Int32) (st : Mm), f_Hng_spread_5 n v1 v2 v3 v4 st = some q → AW G st 5 [(0, .ref (gad G 42)), (1, .int v1), (2, .int v2), (3, .int v3), (4, .int v4)] [] := by
  intro n
  induction n with
  | zero => intro v1 v2 v3 v4 st hf; cases hf
  | succ n ih => intro v1 v2 v3 v4 st hf; exact t_Hng_spread_5 C CR0 E hnL hgd hgr hgs (f_Hng_spread_5 n) ih v1 v2 v3 v4 st hf
theorem t_Hng_spread {G : Cx} (C : CX G prog_6_method_7_code "PaperStars$Hanging") (CR0 : CR G (Option.none)) (E : LCin (gly G)) (hnL : gnL G = 10) (hgd : 1 ≤ gd G) {q : Unit × Mm} (hgr : gr G = none) (hgs : gsf G = q.2) (v1 : Int32) (v2 : Int32) (st : Mm) (hf : f_Hng_spread v1 v2 st = some q) : AW G st 0 [(0, .ref (gad G 42)), (1, .int v1), (2, .int v2)] [] := by
  unfold f_Hng_spread at hf
  refine aw_iconst C (i0 := 1) (v := 1) (by decide) (by decide +kernel) rfl ?_
  refine aw_istore_n C [(3, .int (1 : Int32)), (0, .ref (gad G 42)), (1, .int v1), (2, .int v2)] (j := 3) rfl (by rw [hnL]; decide) rfl (by decide +kernel) rfl ?_
  refine aw_iconst C (i0 := 0) (v := 0) (by decide) (by decide +kernel) rfl ?_
  refine aw_istore C [(4, .int (0 : Int32)), (3, .int (1 : Int32)), (0, .ref (gad G 42)), (1, .int v1), (2, .int v2)] (by rw [hnL]; decide) rfl (by decide +kernel) rfl ?_
  refine aw_sub [(0, .ref (gad G 42)), (1, .int v1), (2, .int v2), (3, .int (1 : Int32)), (4, .int (0 : Int32))] [2, 3, 4, 1, 0] rfl ?_
  exact u_Hng_spread_5 C CR0 E hnL hgd hgr hgs _ v1 v2 (1 : Int32) (0 : Int32) _ hf
theorem c_Hng_spread {lay : Ly} (E : LCin lay) (v1 : Int32) (v2 : Int32) (st : Mm) (q : Unit × Mm) (hf : f_Hng_spread v1 v2 st = some q) : Con 1 Y92 prog_6_method_7_code 10 (Option.none) lay (fun ad => [.ref (ad 42), .int v1, .int v2]) st (none) q.2 :=
  am_met yf_92.2.2.2.2.2 (fun ad => Nat.le_of_ble_eq_true rfl) (fun G C CR0 e1 e2 e3 e4 e5 => t_Hng_spread C CR0 (by rw [e1]; exact E) e2 (Nat.le_of_eq e5.symm) e3 e4 v1 v2 st hf)
def b_Hng_fewest_123 (k38 : Int32 → Int32 → Int32 → Mm → Option (Int32 × Mm)) (v5 : Int32) (v6 : Int32) (v7 : Int32) (v8 : Int32) (st : Mm) : Option (Int32 × Mm) :=
  (f_Hng_spread v8 (st.1 30 0) st).bind (fun q1 => lt_ (v7 + (1 : Int32)) (fun a2 => k38 v5 v6 a2 q1.2))
def b_Hng_fewest_82 (k38 : Int32 → Int32 → Int32 → Mm → Option (Int32 × Mm)) (v5 : Int32) (v6 : Int32) (v7 : Int32) (v8 : Int32) (st : Mm) : Option (Int32 × Mm) :=
  (f_Int_bitCount v7 st).bind (fun q1 => if q1.1 = (1 : Int32) then ((f_Int_numberOfTrailingZeros v7 q1.2).bind (fun q3 => if inb q3.1 6 then if inb (v8 + (q3.2.1 45 q3.1.toNatClampNeg)) 8192 then b_Hng_fewest_123 k38 v5 v6 v7 v8 (sI q3.2 43 (v8 + (q3.2.1 45 q3.1.toNatClampNeg)).toNatClampNeg (0 : Int32)) else none else none)) else ((f_Hng_joinParts v7 (q1.2.1 30 0) q1.2).bind (fun q6 => b_Hng_fewest_123 k38 v5 v6 v7 v8 q6.2)))
def b_Hng_fewest_56 (k38 : Int32 → Int32 → Int32 → Mm → Option (Int32 × Mm)) (k56 : Int32 → Int32 → Int32 → Int32 → Int32 → Mm → Option (Int32 × Mm)) (v5 : Int32) (v6 : Int32) (v7 : Int32) (v8 : Int32) (v9 : Int32) (st : Mm) : Option (Int32 × Mm) :=
  if (256 : Int32) ≤ v9 then (b_Hng_fewest_82 k38 v5 v6 v7 v8 st) else (if inb (v8 + v9) 8192 then lt_ (v9 + (1 : Int32)) (fun a3 => k56 v5 v6 v7 v8 a3 (sI st 43 (v8 + v9).toNatClampNeg (1000000 : Int32))) else none)
def f_Hng_fewest_56 (k38 : Int32 → Int32 → Int32 → Mm → Option (Int32 × Mm)) : Nat → Int32 → Int32 → Int32 → Int32 → Int32 → Mm → Option (Int32 × Mm)
  | 0 => fun _ _ _ _ _ _ => none
  | n + 1 => b_Hng_fewest_56 k38 (f_Hng_fewest_56 k38 n)
def b_Hng_fewest_139 (v5 : Int32) (v6 : Int32) (st : Mm) : Option (Int32 × Mm) :=
  if inb v5 6 then if inb ((v6 * (256 : Int32)) + (st.1 45 v5.toNatClampNeg)) 8192 then lt_ (st.1 43 ((v6 * (256 : Int32)) + (st.1 45 v5.toNatClampNeg)).toNatClampNeg) (fun a3 => if (1000000 : Int32) ≤ a3 then (some ((-2 : Int32), st)) else (some (a3, st))) else none else none
def b_Hng_fewest_38 (k38 : Int32 → Int32 → Int32 → Mm → Option (Int32 × Mm)) (v5 : Int32) (v6 : Int32) (v7 : Int32) (st : Mm) : Option (Int32 × Mm) :=
  if v6 < v7 then (b_Hng_fewest_139 v5 v6 st) else (lt_ (v7 * (256 : Int32)) (fun a2 => f_Hng_fewest_56 k38 1000000 v5 v6 v7 a2 (0 : Int32) st))
def f_Hng_fewest_38 : Nat → Int32 → Int32 → Int32 → Mm → Option (Int32 × Mm)
  | 0 => fun _ _ _ _ => none
  | n + 1 => b_Hng_fewest_38 (f_Hng_fewest_38 n)
def f_Hng_fewest (st : Mm) : Option (Int32 × Mm) :=
  (f_Hng_setPrices st).bind (fun q1 => (f_Hng_listEnds q1.2).bind (fun q2 => if (2 : Int32) ≤ q2.1 then (lt_ (q2.1 - (1 : Int32)) (fun a4 => lt_ (((1 : Int32) <<< (a4 &&& 31)) - (1 : Int32)) (fun a5 => f_Hng_fewest_38 1000000 a4 a5 (1 : Int32) q2.2))) else (some ((0 : Int32), q2.2))))
theorem t_Hng_fewest_123 {G : Cx} (C : CX G prog_6_method_2_code "PaperStars$Hanging") (CR0 : CR G (Option.some FieldType.int)) (E : LCin (gly G)) (hnL : gnL G = 10) (hgd : 3 ≤ gd G) {q : Int32 × Mm} (hgr : gr G = some (.int q.1)) (hgs : gsf G = q.2) (k38 : Int32 → Int32 → Int32 → Mm → Option (Int32 × Mm)) (hk38 : ∀ (v5 : Int32) (v6 : Int32) (v7 : Int32) (st : Mm), k38 v5 v6 v7 st = some q → AW G st 38 [(0, .ref (gad G 42)), (1, .ref (gad G 30)), (5, .int v5), (6, .int v6), (7, .int v7)] []) (v5 : Int32) (v6 : Int32) (v7 : Int32) (v8 : Int32) (st : Mm) (hf : b_Hng_fewest_123 k38 v5 v6 v7 v8 st = some q) : AW G st 123 [(0, .ref (gad G 42)), (1, .ref (gad G 30)), (5, .int v5), (6, .int v6), (7, .int v7), (8, .int v8)] [] := by
  unfold b_Hng_fewest_123 at hf
  refine aw_aload_n C 0 0 (j := 0) rfl rfl (by decide +kernel) rfl ?_
  refine aw_iload C 8 5 rfl (by decide +kernel) rfl ?_
  refine aw_aload_n C 1 1 (j := 1) rfl rfl (by decide +kernel) rfl ?_
  refine aw_get C (k := 0) fc_6 (lc_30 E) rfl (by decide) tb_214 (by decide +kernel) rfl ?_
  obtain ⟨q1, hq1, hf⟩ := ibd hf
  refine aw_callV C (rest := []) (c_Hng_spread E v8 (st.1 30 0) _ q1 hq1) tb_729 yf_92 yi_92 (lc_42 E) [.int v8, .int (st.1 30 0)] rfl rfl _ rfl (Nat.le_trans (by decide) hgd) (Nat.le_of_ble_eq_true rfl) (by decide +kernel) rfl ?_
  show AW _ _ _ _ []
  obtain ⟨a2, ha2⟩ : ∃ z, z = (v7 + (1 : Int32)) := ⟨_, rfl⟩
  have hf := ilt ha2 hf
  refine aw_iinc C [(7, .int a2), (0, .ref (gad G 42)), (1, .ref (gad G 30)), (5, .int v5), (6, .int v6), (8, .int v8)] 4 (n := 1) rfl (by rw [ha2]; rfl) (by rw [hnL]; decide) rfl (by decide +kernel) rfl ?_
  refine aw_goto C (tgt := 38) (off := -98) (by decide +kernel) (by decide) ?_
  refine aw_sub [(0, .ref (gad G 42)), (1, .ref (gad G 30)), (5, .int v5), (6, .int v6), (7, .int a2)] [1, 2, 3, 4, 0] rfl ?_
  exact hk38 v5 v6 a2 _ hf
theorem t_Hng_fewest_82 {G : Cx} (C : CX G prog_6_method_2_code "PaperStars$Hanging") (CR0 : CR G (Option.some FieldType.int)) (E : LCin (gly G)) (hnL : gnL G = 10) (hgd : 3 ≤ gd G) {q : Int32 × Mm} (hgr : gr G = some (.int q.1)) (hgs : gsf G = q.2) (k38 : Int32 → Int32 → Int32 → Mm → Option (Int32 × Mm)) (hk38 : ∀ (v5 : Int32) (v6 : Int32) (v7 : Int32) (st : Mm), k38 v5 v6 v7 st = some q → AW G st 38 [(0, .ref (gad G 42)), (1, .ref (gad G 30)), (5, .int v5), (6, .int v6), (7, .int v7)] []) (v5 : Int32) (v6 : Int32) (v7 : Int32) (v8 : Int32) (st : Mm) (hf : b_Hng_fewest_82 k38 v5 v6 v7 v8 st = some q) : AW G st 82 [(0, .ref (gad G 42)), (1, .ref (gad G 30)), (5, .int v5), (6, .int v6), (7, .int v7), (8, .int v8)] [] := by
  unfold b_Hng_fewest_82 at hf
  refine aw_iload C 7 4 rfl (by decide +kernel) rfl ?_
  obtain ⟨q1, hq1, hf⟩ := ibd hf
  refine aw_callS C (rest := []) (c_Int_bitCount v7 _ q1 hq1) tb_715 yf_64 tb_603 rfl _ rfl (Nat.le_trans (by decide) hgd) (Nat.le_of_ble_eq_true rfl) (by decide +kernel) rfl ?_
  show AW _ _ _ _ [.int q1.1]
  refine aw_iconst C (i0 := 1) (v := 1) (by decide) (by decide +kernel) rfl ?_
  refine aw_icmp_ne C (tgt := 113) (off := 25) (by decide +kernel) (by decide) rfl (fun c2 => ?_) (fun c2 => ?_)
  · have hf := ift c2 hf
    refine aw_aload_n C 0 0 (j := 0) rfl rfl (by decide +kernel) rfl ?_
    refine aw_getr C (k := 0) fc_4 (lc_42 E) rfl (by decide) tb_286 (by decide +kernel) rfl ?_
    refine aw_iload C 8 5 rfl (by decide +kernel) rfl ?_
    refine aw_aload_n C 0 0 (j := 0) rfl rfl (by decide +kernel) rfl ?_
    refine aw_getr C (k := 2) fc_4 (lc_42 E) rfl (by decide) tb_288 (by decide +kernel) rfl ?_
    refine aw_iload C 7 4 rfl (by decide +kernel) rfl ?_
    obtain ⟨q3, hq3, hf⟩ := ibd hf
    refine aw_callS C (rest := [.ref (gad G 45), .int v8, .ref (gad G 43)]) (c_Int_numberOfTrailingZeros v7 _ q3 hq3) tb_716 yf_89 tb_717 rfl _ rfl (Nat.le_trans (by decide) hgd) (Nat.le_of_ble_eq_true rfl) (by decide +kernel) rfl ?_
    show AW _ _ _ _ [.int q3.1, .ref (gad G 45), .int v8, .ref (gad G 43)]
    obtain ⟨g4, hf⟩ := igd hf
    refine aw_iald C (lc_45 E) g4 (by decide +kernel) rfl ?_
    refine aw_iadd C (by decide +kernel) rfl ?_
    refine aw_iconst C (i0 := 0) (v := 0) (by decide) (by decide +kernel) rfl ?_
    obtain ⟨g5, hf⟩ := igd hf
    refine aw_iast C (lc_43 E) g5 (by decide +kernel) rfl ?_
    refine aw_goto C (tgt := 123) (off := 13) (by decide +kernel) (by decide) ?_
    exact t_Hng_fewest_123 C CR0 E hnL hgd hgr hgs k38 hk38 v5 v6 v7 v8 _ hf
  · have hf := iff_ c2 hf
    refine aw_aload_n C 0 0 (j := 0) rfl rfl (by decide +kernel) rfl ?_
    refine aw_iload C 7 4 rfl (by decide +kernel) rfl ?_
    refine aw_aload_n C 1 1 (j := 1) rfl rfl (by decide +kernel) rfl ?_
    refine aw_get C (k := 0) fc_6 (lc_30 E) rfl (by decide) tb_214 (by decide +kernel) rfl ?_
    obtain ⟨q6, hq6, hf⟩ := ibd hf
    refine aw_callV C (rest := []) (c_Hng_joinParts E v7 (q1.2.1 30 0) _ q6 hq6) tb_720 yf_90 yi_90 (lc_42 E) [.int v7, .int (q1.2.1 30 0)] rfl rfl _ rfl (Nat.le_trans (by decide) hgd) (Nat.le_of_ble_eq_true rfl) (by decide +kernel) rfl ?_
    show AW _ _ _ _ []
    exact t_Hng_fewest_123 C CR0 E hnL hgd hgr hgs k38 hk38 v5 v6 v7 v8 _ hf
theorem t_Hng_fewest_56 {G : Cx} (C : CX G prog_6_method_2_code "PaperStars$Hanging") (CR0 : CR G (Option.some FieldType.int)) (E : LCin (gly G)) (hnL : gnL G = 10) (hgd : 3 ≤ gd G) {q : Int32 × Mm} (hgr : gr G = some (.int q.1)) (hgs : gsf G = q.2) (k38 : Int32 → Int32 → Int32 → Mm → Option (Int32 × Mm)) (k56 : Int32 → Int32 → Int32 → Int32 → Int32 → Mm → Option (Int32 × Mm)) (hk38 : ∀ (v5 : Int32) (v6 : Int32) (v7 : Int32) (st : Mm), k38 v5 v6 v7 st = some q → AW G st 38 [(0, .ref (gad G 42)), (1, .ref (gad G 30)), (5, .int v5), (6, .int v6), (7, .int v7)] []) (hk56 : ∀ (v5 : Int32) (v6 : Int32) (v7 : Int32) (v8 : Int32) (v9 : Int32) (st : Mm), k56 v5 v6 v7 v8 v9 st = some q → AW G st 56 [(0, .ref (gad G 42)), (1, .ref (gad G 30)), (5, .int v5), (6, .int v6), (7, .int v7), (8, .int v8), (9, .int v9)] []) (v5 : Int32) (v6 : Int32) (v7 : Int32) (v8 : Int32) (v9 : Int32) (st : Mm) (hf : b_Hng_fewest_56 k38 k56 v5 v6 v7 v8 v9 st = some q) : AW G st 56 [(0, .ref (gad G 42)), (1, .ref (gad G 30)), (5, .int v5), (6, .int v6), (7, .int v7), (8, .int v8), (9, .int v9)] [] := by
  unfold b_Hng_fewest_56 at hf
  refine aw_iload C 9 6 rfl (by decide +kernel) rfl ?_
  refine aw_sipush C (i0 := 256) (v := 256) (by decide) (by decide +kernel) rfl ?_
  refine aw_icmp_ge C (tgt := 82) (off := 21) (by decide +kernel) (by decide) rfl (fun c1 => ?_) (fun c1 => ?_)
  · have hf := ift c1 hf
    refine aw_sub [(0, .ref (gad G 42)), (1, .ref (gad G 30)), (5, .int v5), (6, .int v6), (7, .int v7), (8, .int v8)] [0, 1, 2, 3, 4, 5] rfl ?_
    exact t_Hng_fewest_82 C CR0 E hnL hgd hgr hgs k38 hk38 v5 v6 v7 v8 _ hf
  · have hf := iff_ c1 hf
    refine aw_aload_n C 0 0 (j := 0) rfl rfl (by decide +kernel) rfl ?_
    refine aw_getr C (k := 0) fc_4 (lc_42 E) rfl (by decide) tb_286 (by decide +kernel) rfl ?_
    refine aw_iload C 8 5 rfl (by decide +kernel) rfl ?_
    refine aw_iload C 9 6 rfl (by decide +kernel) rfl ?_
    refine aw_iadd C (by decide +kernel) rfl ?_
    refine aw_ldc C tb_710 (by decide +kernel) rfl ?_
    obtain ⟨g2, hf⟩ := igd hf
    refine aw_iast C (lc_43 E) g2 (by decide +kernel) rfl ?_
    obtain ⟨a3, ha3⟩ : ∃ z, z = (v9 + (1 : Int32)) := ⟨_, rfl⟩
    have hf := ilt ha3 hf
    refine aw_iinc C [(9, .int a3), (0, .ref (gad G 42)), (1, .ref (gad G 30)), (5, .int v5), (6, .int v6), (7, .int v7), (8, .int v8)] 6 (n := 1) rfl (by rw [ha3]; rfl) (by rw [hnL]; decide) rfl (by decide +kernel) rfl ?_
    refine aw_goto C (tgt := 56) (off := -23) (by decide +kernel) (by decide) ?_
    refine aw_sub [(0, .ref (gad G 42)), (1, .ref (gad G 30)), (5, .int v5), (6, .int v6), (7, .int v7), (8, .int v8), (9, .int a3)] [1, 2, 3, 4, 5, 6, 0] rfl ?_
    exact hk56 v5 v6 v7 v8 a3 _ hf
theorem u_Hng_fewest_56 {G : Cx} (C : CX G prog_6_method_2_code "PaperStars$Hanging") (CR0 : CR G (Option.some FieldType.int)) (E : LCin (gly G)) (hnL : gnL G = 10) (hgd : 3 ≤ gd G) {q : Int32 × Mm} (hgr : gr G = some (.int q.1)) (hgs : gsf G = q.2) (k38 : Int32 → Int32 → Int32 → Mm → Option (Int32 × Mm)) (hk38 : ∀ (v5 : Int32) (v6 : Int32) (v7 : Int32) (st : Mm), k38 v5 v6 v7 st = some q → AW G st 38 [(0, .ref (gad G 42)), (1, .ref (gad G 30)), (5, .int v5), (6, .int v6), (7, .int v7)] []) : ∀ (n : Nat) (v5 : Int32) (v6 : Int32) (v7 : Int32) (v8 : Int32) (v9 : Int32) (st : Mm), f_Hng_fewest_56 k38 n v5 v6 v7 v8 v9 st = some q → AW G st 56 [(0, .ref (gad G 42)), (1, .ref (gad G 30)), (5, .int v5), (6, .int v6), (7, .int v7), (8, .int v8), (9, .int v9)] [] := by
  intro n
  induction n with
  | zero => intro v5 v6 v7 v8 v9 st hf; cases hf
  | succ n ih => intro v5 v6 v7 v8 v9 st hf; exact t_Hng_fewest_56 C CR0 E hnL hgd hgr hgs k38 (f_Hng_fewest_56 k38 n) hk38 ih v5 v6 v7 v8 v9 st hf
theorem t_Hng_fewest_139 {G : Cx} (C : CX G prog_6_method_2_code "PaperStars$Hanging") (CR0 : CR G (Option.some FieldType.int)) (E : LCin (gly G)) (hnL : gnL G = 10) (hgd : 3 ≤ gd G) {q : Int32 × Mm} (hgr : gr G = some (.int q.1)) (hgs : gsf G = q.2) (v5 : Int32) (v6 : Int32) (st : Mm) (hf : b_Hng_fewest_139 v5 v6 st = some q) : AW G st 139 [(0, .ref (gad G 42)), (5, .int v5), (6, .int v6)] [] := by
  unfold b_Hng_fewest_139 at hf
  refine aw_aload_n C 0 0 (j := 0) rfl rfl (by decide +kernel) rfl ?_
  refine aw_getr C (k := 0) fc_4 (lc_42 E) rfl (by decide) tb_286 (by decide +kernel) rfl ?_
  refine aw_iload C 6 2 rfl (by decide +kernel) rfl ?_
  refine aw_sipush C (i0 := 256) (v := 256) (by decide) (by decide +kernel) rfl ?_
  refine aw_imul C (by decide +kernel) rfl ?_
  refine aw_aload_n C 0 0 (j := 0) rfl rfl (by decide +kernel) rfl ?_
  refine aw_getr C (k := 2) fc_4 (lc_42 E) rfl (by decide) tb_288 (by decide +kernel) rfl ?_
  refine aw_iload C 5 1 rfl (by decide +kernel) rfl ?_
  obtain ⟨g1, hf⟩ := igd hf
  refine aw_iald C (lc_45 E) g1 (by decide +kernel) rfl ?_
  refine aw_iadd C (by decide +kernel) rfl ?_
  obtain ⟨g2, hf⟩ := igd hf
  refine aw_iald C (lc_43 E) g2 (by decide +kernel) rfl ?_
  obtain ⟨a3, ha3⟩ : ∃ z, z = (st.1 43 ((v6 * (256 : Int32)) + (st.1 45 v5.toNatClampNeg)).toNatClampNeg) := ⟨_, rfl⟩
  refine aw_nmi ha3 ?_
  have hf := ilt ha3 hf
  refine aw_istore C [(7, .int a3), (0, .ref (gad G 42)), (5, .int v5), (6, .int v6)] (by rw [hnL]; decide) rfl (by decide +kernel) rfl ?_
  refine aw_iload C 7 0 rfl (by decide +kernel) rfl ?_
  refine aw_ldc C tb_710 (by decide +kernel) rfl ?_
  refine aw_icmp_ge C (tgt := 172) (off := 8) (by decide +kernel) (by decide) rfl (fun c4 => ?_) (fun c4 => ?_)
  · have hf := ift c4 hf
    refine aw_bipush C (i0 := -2) (v := -2) (by decide) (by decide +kernel) rfl ?_
    exact aw_iretq C CR0 hgr hgs hf (by decide +kernel)
  · have hf := iff_ c4 hf
    refine aw_iload C 7 0 rfl (by decide +kernel) rfl ?_
    refine aw_goto C (tgt := 174) (off := 5) (by decide +kernel) (by decide) ?_
    exact aw_iretq C CR0 hgr hgs hf (by decide +kernel)
theorem t_Hng_fewest_38 {G : Cx} (C : CX G prog_6_method_2_code "PaperStars$Hanging") (CR0 : CR G (Option.some FieldType.int)) (E : LCin (gly G)) (hnL : gnL G = 10) (hgd : 3 ≤ gd G) {q : Int32 × Mm} (hgr : gr G = some (.int q.1)) (hgs : gsf G = q.2) (k38 : Int32 → Int32 → Int32 → Mm → Option (Int32 × Mm)) (hk38 : ∀ (v5 : Int32) (v6 : Int32) (v7 : Int32) (st : Mm), k38 v5 v6 v7 st = some q → AW G st 38 [(0, .ref (gad G 42)), (1, .ref (gad G 30)), (5, .int v5), (6, .int v6), (7, .int v7)] []) (v5 : Int32) (v6 : Int32) (v7 : Int32) (st : Mm) (hf : b_Hng_fewest_38 k38 v5 v6 v7 st = some q) : AW G st 38 [(0, .ref (gad G 42)), (1, .ref (gad G 30)), (5, .int v5), (6, .int v6), (7, .int v7)] [] := by
  unfold b_Hng_fewest_38 at hf
  refine aw_iload C 7 4 rfl (by decide +kernel) rfl ?_
  refine aw_iload C 6 3 rfl (by decide +kernel) rfl ?_
  refine aw_icmp_gt C (tgt := 139) (off := 97) (by decide +kernel) (by decide) rfl (fun c1 => ?_) (fun c1 => ?_)
  · have hf := ift c1 hf
    refine aw_sub [(0, .ref (gad G 42)), (5, .int v5), (6, .int v6)] [0, 2, 3] rfl ?_
    exact t_Hng_fewest_139 C CR0 E hnL hgd hgr hgs v5 v6 _ hf
  · have hf := iff_ c1 hf
    refine aw_iload C 7 4 rfl (by decide +kernel) rfl ?_
    refine aw_sipush C (i0 := 256) (v := 256) (by decide) (by decide +kernel) rfl ?_
    refine aw_imul C (by decide +kernel) rfl ?_
    obtain ⟨a2, ha2⟩ : ∃ z, z = (v7 * (256 : Int32)) := ⟨_, rfl⟩
    refine aw_nmi ha2 ?_
    have hf := ilt ha2 hf
    refine aw_istore C [(8, .int a2), (0, .ref (gad G 42)), (1, .ref (gad G 30)), (5, .int v5), (6, .int v6), (7, .int v7)] (by rw [hnL]; decide) rfl (by decide +kernel) rfl ?_
    refine aw_iconst C (i0 := 0) (v := 0) (by decide) (by decide +kernel) rfl ?_
    refine aw_istore C [(9, .int (0 : Int32)), (8, .int a2), (0, .ref (gad G 42)), (1, .ref (gad G 30)), (5, .int v5), (6, .int v6), (7, .int v7)] (by rw [hnL]; decide) rfl (by decide +kernel) rfl ?_
    refine aw_sub [(0, .ref (gad G 42)), (1, .ref (gad G 30)), (5, .int v5), (6, .int v6), (7, .int v7), (8, .int a2), (9, .int (0 : Int32))] [2, 3, 4, 5, 6, 1, 0] rfl ?_
    exact u_Hng_fewest_56 C CR0 E hnL hgd hgr hgs k38 hk38 _ v5 v6 v7 a2 (0 : Int32) _ hf
theorem u_Hng_fewest_38 {G : Cx} (C : CX G prog_6_method_2_code "PaperStars$Hanging") (CR0 : CR G (Option.some FieldType.int)) (E : LCin (gly G)) (hnL : gnL G = 10) (hgd : 3 ≤ gd G) {q : Int32 × Mm} (hgr : gr G = some (.int q.1)) (hgs : gsf G = q.2) : ∀ (n : Nat) (v5 : Int32) (v6 : Int32) (v7 : Int32) (st : Mm), f_Hng_fewest_38 n v5 v6 v7 st = some q → AW G st 38 [(0, .ref (gad G 42)), (1, .ref (gad G 30)), (5, .int v5), (6, .int v6), (7, .int v7)] [] := by
  intro n
  induction n with
  | zero => intro v5 v6 v7 st hf; cases hf
  | succ n ih => intro v5 v6 v7 st hf; exact t_Hng_fewest_38 C CR0 E hnL hgd hgr hgs (f_Hng_fewest_38 n) ih v5 v6 v7 st hf
theorem t_Hng_fewest {G : Cx} (C : CX G prog_6_method_2_code "PaperStars$Hanging") (CR0 : CR G (Option.some FieldType.int)) (E : LCin (gly G)) (hnL : gnL G = 10) (hgd : 3 ≤ gd G) {q : Int32 × Mm} (hgr : gr G = some (.int q.1)) (hgs : gsf G = q.2) (st : Mm) (hf : f_Hng_fewest st = some q) : AW G st 0 [(0, .ref (gad G 42)), (1, .ref (gad G 30)), (2, .ref (gad G 34)), (3, .ref (gad G 5))] [] := by
  unfold f_Hng_fewest at hf
  refine aw_aload_n C 0 0 (j := 0) rfl rfl (by decide +kernel) rfl ?_
  refine aw_aload_n C 1 1 (j := 1) rfl rfl (by decide +kernel) rfl ?_
  refine aw_aload_n C 3 3 (j := 3) rfl rfl (by decide +kernel) rfl ?_
  obtain ⟨q1, hq1, hf⟩ := ibd hf
  refine aw_callV C (rest := []) (c_Hng_setPrices E _ q1 hq1) tb_705 yf_87 yi_87 (lc_42 E) [.ref (gad G 30), .ref (gad G 5)] rfl rfl _ rfl (Nat.le_trans (by decide) hgd) (Nat.le_of_ble_eq_true rfl) (by decide +kernel) rfl ?_
  show AW _ _ _ _ []
  refine aw_aload_n C 0 0 (j := 0) rfl rfl (by decide +kernel) rfl ?_
  refine aw_aload_n C 2 2 (j := 2) rfl rfl (by decide +kernel) rfl ?_
  obtain ⟨q2, hq2, hf⟩ := ibd hf
  refine aw_callV C (rest := []) (c_Hng_listEnds E _ q2 hq2) tb_711 yf_88 yi_88 (lc_42 E) [.ref (gad G 34)] rfl rfl _ rfl (Nat.le_trans (by decide) hgd) (Nat.le_of_ble_eq_true rfl) (by decide +kernel) rfl ?_
  show AW _ _ _ _ [.int q2.1]
  refine aw_istore C [(4, .int q2.1), (0, .ref (gad G 42)), (1, .ref (gad G 30)), (2, .ref (gad G 34)), (3, .ref (gad G 5))] (by rw [hnL]; decide) rfl (by decide +kernel) rfl ?_
  refine aw_iload C 4 0 rfl (by decide +kernel) rfl ?_
  refine aw_iconst C (i0 := 2) (v := 2) (by decide) (by decide +kernel) rfl ?_
  refine aw_icmp_ge C (tgt := 21) (off := 5) (by decide +kernel) (by decide) rfl (fun c3 => ?_) (fun c3 => ?_)
  · have hf := ift c3 hf
    refine aw_iload C 4 0 rfl (by decide +kernel) rfl ?_
    refine aw_iconst C (i0 := 1) (v := 1) (by decide) (by decide +kernel) rfl ?_
    refine aw_isub C (by decide +kernel) rfl ?_
    obtain ⟨a4, ha4⟩ : ∃ z, z = (q2.1 - (1 : Int32)) := ⟨_, rfl⟩
    refine aw_nmi ha4 ?_
    have hf := ilt ha4 hf
    refine aw_istore C [(5, .int a4), (4, .int q2.1), (0, .ref (gad G 42)), (1, .ref (gad G 30)), (2, .ref (gad G 34)), (3, .ref (gad G 5))] (by rw [hnL]; decide) rfl (by decide +kernel) rfl ?_
    refine aw_iconst C (i0 := 1) (v := 1) (by decide) (by decide +kernel) rfl ?_
    refine aw_iload C 5 0 rfl (by decide +kernel) rfl ?_
    refine aw_ishl C (by decide +kernel) rfl ?_
    refine aw_iconst C (i0 := 1) (v := 1) (by decide) (by decide +kernel) rfl ?_
    refine aw_isub C (by decide +kernel) rfl ?_
    obtain ⟨a5, ha5⟩ : ∃ z, z = (((1 : Int32) <<< (a4 &&& 31)) - (1 : Int32)) := ⟨_, rfl⟩
    refine aw_nmi ha5 ?_
    have hf := ilt ha5 hf
    refine aw_istore C [(6, .int a5), (5, .int a4), (4, .int q2.1), (0, .ref (gad G 42)), (1, .ref (gad G 30)), (2, .ref (gad G 34)), (3, .ref (gad G 5))] (by rw [hnL]; decide) rfl (by decide +kernel) rfl ?_
    refine aw_iconst C (i0 := 1) (v := 1) (by decide) (by decide +kernel) rfl ?_
    refine aw_istore C [(7, .int (1 : Int32)), (6, .int a5), (5, .int a4), (4, .int q2.1), (0, .ref (gad G 42)), (1, .ref (gad G 30)), (2, .ref (gad G 34)), (3, .ref (gad G 5))] (by rw [hnL]; decide) rfl (by decide +kernel) rfl ?_
    refine aw_sub [(0, .ref (gad G 42)), (1, .ref (gad G 30)), (5, .int a4), (6, .int a5), (7, .int (1 : Int32))] [4, 5, 2, 1, 0] rfl ?_
    exact u_Hng_fewest_38 C CR0 E hnL hgd hgr hgs _ a4 a5 (1 : Int32) _ hf
  · have hf := iff_ c3 hf
    refine aw_iconst C (i0 := 0) (v := 0) (by decide) (by decide +kernel) rfl ?_
    exact aw_iretq C CR0 hgr hgs hf (by decide +kernel)
theorem c_Hng_fewest {lay : Ly} (E : LCin lay) (st : Mm) (q : Int32 × Mm) (hf : f_Hng_fewest st = some q) : Con 3 Y86 prog_6_method_2_code 10 (Option.some FieldType.int) lay (fun ad => [.ref (ad 42), .ref (ad 30), .ref (ad 34), .ref (ad 5)]) st (some (.int q.1)) q.2 :=
  am_met yf_86.2.2.2.2.2 (fun ad => Nat.le_of_ble_eq_true rfl) (fun G C CR0 e1 e2 e3 e4 e5 => t_Hng_fewest C CR0 (by rw [e1]; exact E) e2 (Nat.le_of_eq e5.symm) e3 e4 st hf)
def f_x_reckonHang (st : Mm) : Option (Int32 × Mm) :=
  (f_x_walkPieces st).bind (fun q1 => if (2 : Int32) ≤ (q1.2.1 34 1) then (if (q1.2.1 34 1) ≤ (6 : Int32) then ((f_Hng_fewest q1.2).bind (fun q4 => some (q4.1, q4.2))) else (some ((-3 : Int32), q1.2))) else (some ((0 : Int32), q1.2)))
theorem t_x_reckonHang {G : Cx} (C : CX G prog_1_method_36_code "PaperStars") (CR0 : CR G (Option.some FieldType.int)) (E : LCin (gly G)) (hnL : gnL G = 1) (hgd : 5 ≤ gd G) {q : Int32 × Mm} (hgr : gr G = some (.int q.1)) (hgs : gsf G = q.2) (st : Mm) (hf : f_x_reckonHang st = some q) : AW G st 0 [(0, .ref (gad G 0))] [] := by
  unfold f_x_reckonHang at hf
  refine aw_aload_n C 0 0 (j := 0) rfl rfl (by decide +kernel) rfl ?_
  obtain ⟨q1, hq1, hf⟩ := ibd hf
  refine aw_callV C (rest := []) (c_x_walkPieces E _ q1 hq1) tb_631 yf_70 yi_70 (lc_0 E) [] rfl rfl _ rfl (Nat.le_trans (by decide) hgd) (Nat.le_of_ble_eq_true rfl) (by decide +kernel) rfl ?_
  show AW _ _ _ _ []
  refine aw_aload_n C 0 0 (j := 0) rfl rfl (by decide +kernel) rfl ?_
  refine aw_getr C (k := 7) fc_11 (lc_0 E) rfl (by decide) tb_403 (by decide +kernel) rfl ?_
  refine aw_get C (k := 1) fc_7 (lc_34 E) rfl (by decide) tb_242 (by decide +kernel) rfl ?_
  refine aw_iconst C (i0 := 2) (v := 2) (by decide) (by decide +kernel) rfl ?_
  refine aw_icmp_ge C (tgt := 17) (off := 5) (by decide +kernel) (by decide) rfl (fun c2 => ?_) (fun c2 => ?_)
  · have hf := ift c2 hf
    refine aw_aload_n C 0 0 (j := 0) rfl rfl (by decide +kernel) rfl ?_
    refine aw_getr C (k := 7) fc_11 (lc_0 E) rfl (by decide) tb_403 (by decide +kernel) rfl ?_
    refine aw_get C (k := 1) fc_7 (lc_34 E) rfl (by decide) tb_242 (by decide +kernel) rfl ?_
    refine aw_bipush C (i0 := 6) (v := 6) (by decide) (by decide +kernel) rfl ?_
    refine aw_icmp_le C (tgt := 32) (off := 6) (by decide +kernel) (by decide) rfl (fun c3 => ?_) (fun c3 => ?_)
    · have hf := ift c3 hf
      refine aw_aload_n C 0 0 (j := 0) rfl rfl (by decide +kernel) rfl ?_
      refine aw_getr C (k := 8) fc_11 (lc_0 E) rfl (by decide) tb_404 (by decide +kernel) rfl ?_
      refine aw_aload_n C 0 0 (j := 0) rfl rfl (by decide +kernel) rfl ?_
      refine aw_getr C (k := 6) fc_11 (lc_0 E) rfl (by decide) tb_402 (by decide +kernel) rfl ?_
      refine aw_aload_n C 0 0 (j := 0) rfl rfl (by decide +kernel) rfl ?_
      refine aw_getr C (k := 7) fc_11 (lc_0 E) rfl (by decide) tb_403 (by decide +kernel) rfl ?_
      refine aw_aload_n C 0 0 (j := 0) rfl rfl (by decide +kernel) rfl ?_
      refine aw_getr C (k := 0) fc_11 (lc_0 E) rfl (by decide) tb_396 (by decide +kernel) rfl ?_
      refine aw_getr C (k := 7) fc_9 (lc_1 E) rfl (by decide) tb_55 (by decide +kernel) rfl ?_
      obtain ⟨q4, hq4, hf⟩ := ibd hf
      refine aw_callV C (rest := []) (c_Hng_fewest E _ q4 hq4) tb_701 yf_86 yi_86 (lc_42 E) [.ref (gad G 30), .ref (gad G 34), .ref (gad G 5)] rfl rfl _ rfl (Nat.le_trans (by decide) hgd) (Nat.le_of_ble_eq_true rfl) (by decide +kernel) rfl ?_
      show AW _ _ _ _ [.int q4.1]
      exact aw_iretq C CR0 hgr hgs hf (by decide +kernel)
    · have hf := iff_ c3 hf
      refine aw_bipush C (i0 := -3) (v := -3) (by decide) (by decide +kernel) rfl ?_
      exact aw_iretq C CR0 hgr hgs hf (by decide +kernel)
  · have hf := iff_ c2 hf
    refine aw_iconst C (i0 := 0) (v := 0) (by decide) (by decide +kernel) rfl ?_
    exact aw_iretq C CR0 hgr hgs hf (by decide +kernel)
theorem c_x_reckonHang {lay : Ly} (E : LCin lay) (st : Mm) (q : Int32 × Mm) (hf : f_x_reckonHang st = some q) : Con 5 Y85 prog_1_method_36_code 1 (Option.some FieldType.int) lay (fun ad => [.ref (ad 0)]) st (some (.int q.1)) q.2 :=
  am_met yf_85.2.2.2.2.2 (fun ad => Nat.le_of_ble_eq_true rfl) (fun G C CR0 e1 e2 e3 e4 e5 => t_x_reckonHang C CR0 (by rw [e1]; exact E) e2 (Nat.le_of_eq e5.symm) e3 e4 st hf)
def f_x_hang (st : Mm) : Option (Int32 × Mm) :=
  if (st.1 0 13) = 0 then ((f_x_reckonHang st).bind (fun q2 => some (((sI (sI q2.2 0 14 q2.1) 0 13 (1 : Int32)).1 0 14), (sI (sI q2.2 0 14 q2.1) 0 13 (1 : Int32))))) else (some ((st.1 0 14), st))
theorem t_x_hang {G : Cx} (C : CX G prog_1_method_12_code "PaperStars") (CR0 : CR G (Option.some FieldType.int)) (E : LCin (gly G)) (hnL : gnL G = 1) (hgd : 6 ≤ gd G) {q : Int32 × Mm} (hgr : gr G = some (.int q.1)) (hgs : gsf G = q.2) (st : Mm) (hf : f_x_hang st = some q) : AW G st 0 [(0, .ref (gad G 0))] [] := by
  unfold f_x_hang at hf
  refine aw_aload_n C 0 0 (j := 0) rfl rfl (by decide +kernel) rfl ?_
  refine aw_get C (k := 13) fc_11 (lc_0 E) rfl (by decide) tb_409 (by decide +kernel) rfl ?_
  refine aw_if_ne C (tgt := 20) (off := 16) (by decide +kernel) (by decide) rfl (fun c1 => ?_) (fun c1 => ?_)
  · have hf := ift c1 hf
    refine aw_aload_n C 0 0 (j := 0) rfl rfl (by decide +kernel) rfl ?_
    refine aw_aload_n C 0 0 (j := 0) rfl rfl (by decide +kernel) rfl ?_
    obtain ⟨q2, hq2, hf⟩ := ibd hf
    refine aw_callV C (rest := [.ref (gad G 0)]) (c_x_reckonHang E _ q2 hq2) tb_697 yf_85 yi_85 (lc_0 E) [] rfl rfl _ rfl (Nat.le_trans (by decide) hgd) (Nat.le_of_ble_eq_true rfl) (by decide +kernel) rfl ?_
    show AW _ _ _ _ [.int q2.1, .ref (gad G 0)]
    refine aw_put C (k := 14) fc_11 (lc_0 E) rfl (by decide) rfl rfl tb_410 (by decide +kernel) rfl ?_
    refine aw_aload_n C 0 0 (j := 0) rfl rfl (by decide +kernel) rfl ?_
    refine aw_iconst C (i0 := 1) (v := 1) (by decide) (by decide +kernel) rfl ?_
    refine aw_putZ C (k := 13) fc_11 (lc_0 E) rfl (by decide) rfl rfl (by decide) tb_409 (by decide +kernel) rfl ?_
    refine aw_aload_n C 0 0 (j := 0) rfl rfl (by decide +kernel) rfl ?_
    refine aw_get C (k := 14) fc_11 (lc_0 E) rfl (by decide) tb_410 (by decide +kernel) rfl ?_
    exact aw_iretq C CR0 hgr hgs hf (by decide +kernel)
  · have hf := iff_ c1 hf
    refine aw_aload_n C 0 0 (j := 0) rfl rfl (by decide +kernel) rfl ?_
    refine aw_get C (k := 14) fc_11 (lc_0 E) rfl (by decide) tb_410 (by decide +kernel) rfl ?_
    exact aw_iretq C CR0 hgr hgs hf (by decide +kernel)
theorem c_x_hang {lay : Ly} (E : LCin lay) (st : Mm) (q : Int32 × Mm) (hf : f_x_hang st = some q) : Con 6 Y84 prog_1_method_12_code 1 (Option.some FieldType.int) lay (fun ad => [.ref (ad 0)]) st (some (.int q.1)) q.2 :=
  am_met yf_84.2.2.2.2.2 (fun ad => Nat.le_of_ble_eq_true rfl) (fun G C CR0 e1 e2 e3 e4 e5 => t_x_hang C CR0 (by rw [e1]; exact E) e2 (Nat.le_of_eq e5.symm) e3 e4 st hf)
def f_x_want (v1 : Int32) (v2 : Int32) (st : Mm) : Option (Int32 × Mm) :=
  if v1 < 0 then (some ((0 : Int32), st)) else (if (st.1 1 0) ≤ v1 then (some ((0 : Int32), st)) else (if v2 < 0 then (some ((0 : Int32), st)) else (if v2 < ((1 : Int32) <<< ((st.1 1 0) &&& 31)) then (if inb v1 16 then some ((1 : Int32), (sI st 4 v1.toNatClampNeg v2)) else none) else (some ((0 : Int32), st)))))
theorem t_x_want {G : Cx} (C : CX G prog_1_method_13_code "PaperStars") (CR0 : CR G (Option.some FieldType.boolean)) (E : LCin (gly G)) (hnL : gnL G = 3) (hgd : 0 ≤ gd G) {q : Int32 × Mm} (hgr : gr G = some (.int q.1)) (hgs : gsf G = q.2) (v1 : Int32) (v2 : Int32) (st : Mm) (hf : f_x_want v1 v2 st = some q) : AW G st 0 [(0, .ref (gad G 0)), (1, .int v1), (2, .int v2)] [] := by
  unfold f_x_want at hf
  refine aw_iload_n C 1 1 (j := 1) rfl rfl (by decide +kernel) rfl ?_
  refine aw_if_lt C (tgt := 32) (off := 31) (by decide +kernel) (by decide) rfl (fun c1 => ?_) (fun c1 => ?_)
  · have hf := ift c1 hf
    refine aw_iconst C (i0 := 0) (v := 0) (by decide) (by decide +kernel) rfl ?_
    exact aw_zretq C CR0 hgr hgs (by decide) hf (by decide +kernel)
  · have hf := iff_ c1 hf
    refine aw_iload_n C 1 1 (j := 1) rfl rfl (by decide +kernel) rfl ?_
    refine aw_aload_n C 0 0 (j := 0) rfl rfl (by decide +kernel) rfl ?_
    refine aw_getr C (k := 0) fc_11 (lc_0 E) rfl (by decide) tb_396 (by decide +kernel) rfl ?_
    refine aw_get C (k := 0) fc_9 (lc_1 E) rfl (by decide) tb_37 (by decide +kernel) rfl ?_
    refine aw_icmp_ge C (tgt := 32) (off := 20) (by decide +kernel) (by decide) rfl (fun c2 => ?_) (fun c2 => ?_)
    · have hf := ift c2 hf
      refine aw_iconst C (i0 := 0) (v := 0) (by decide) (by decide +kernel) rfl ?_
      exact aw_zretq C CR0 hgr hgs (by decide) hf (by decide +kernel)
    · have hf := iff_ c2 hf
      refine aw_iload_n C 2 2 (j := 2) rfl rfl (by decide +kernel) rfl ?_
      refine aw_if_lt C (tgt := 32) (off := 16) (by decide +kernel) (by decide) rfl (fun c3 => ?_) (fun c3 => ?_)
      · have hf := ift c3 hf
        refine aw_iconst C (i0 := 0) (v := 0) (by decide) (by decide +kernel) rfl ?_
        exact aw_zretq C CR0 hgr hgs (by decide) hf (by decide +kernel)
      · have hf := iff_ c3 hf
        refine aw_iload_n C 2 2 (j := 2) rfl rfl (by decide +kernel) rfl ?_
        refine aw_iconst C (i0 := 1) (v := 1) (by decide) (by decide +kernel) rfl ?_
        refine aw_aload_n C 0 0 (j := 0) rfl rfl (by decide +kernel) rfl ?_
        refine aw_getr C (k := 0) fc_11 (lc_0 E) rfl (by decide) tb_396 (by decide +kernel) rfl ?_
        refine aw_get C (k := 0) fc_9 (lc_1 E) rfl (by decide) tb_37 (by decide +kernel) rfl ?_
        refine aw_ishl C (by decide +kernel) rfl ?_
        refine aw_icmp_lt C (tgt := 34) (off := 5) (by decide +kernel) (by decide) rfl (fun c4 => ?_) (fun c4 => ?_)
        · have hf := ift c4 hf
          refine aw_aload_n C 0 0 (j := 0) rfl rfl (by decide +kernel) rfl ?_
          refine aw_getr C (k := 0) fc_11 (lc_0 E) rfl (by decide) tb_396 (by decide +kernel) rfl ?_
          refine aw_getr C (k := 6) fc_9 (lc_1 E) rfl (by decide) tb_53 (by decide +kernel) rfl ?_
          refine aw_iload_n C 1 1 (j := 1) rfl rfl (by decide +kernel) rfl ?_
          refine aw_iload_n C 2 2 (j := 2) rfl rfl (by decide +kernel) rfl ?_
          obtain ⟨g5, hf⟩ := igd hf
          refine aw_iast C (lc_4 E) g5 (by decide +kernel) rfl ?_
          refine aw_iconst C (i0 := 1) (v := 1) (by decide) (by decide +kernel) rfl ?_
          exact aw_zretq C CR0 hgr hgs (by decide) hf (by decide +kernel)
        · have hf := iff_ c4 hf
          refine aw_iconst C (i0 := 0) (v := 0) (by decide) (by decide +kernel) rfl ?_
          exact aw_zretq C CR0 hgr hgs (by decide) hf (by decide +kernel)
theorem c_x_want {lay : Ly} (E : LCin lay) (v1 : Int32) (v2 : Int32) (st : Mm) (q : Int32 × Mm) (hf : f_x_want v1 v2 st = some q) : Con 0 Y94 prog_1_method_13_code 3 (Option.some FieldType.boolean) lay (fun ad => [.ref (ad 0), .int v1, .int v2]) st (some (.int q.1)) q.2 :=
  am_met yf_94.2.2.2.2.2 (fun ad => Nat.le_of_ble_eq_true rfl) (fun G C CR0 e1 e2 e3 e4 e5 => t_x_want C CR0 (by rw [e1]; exact E) e2 (Nat.le_of_eq e5.symm) e3 e4 v1 v2 st hf)
def f_x_wantOpened (st : Mm) : Option (Int32 × Mm) :=
  (f_x_bitsOf 31 (sR st 4 (va_cpy (st.1 31) (st.1 4) (0 : Int32).toNatClampNeg (0 : Int32).toNatClampNeg (16 : Int32).toNatClampNeg))).bind (fun q1 => some (q1.1, q1.2))
theorem t_x_wantOpened {G : Cx} (C : CX G prog_1_method_14_code "PaperStars") (CR0 : CR G (Option.some FieldType.int)) (E : LCin (gly G)) (hnL : gnL G = 1) (hgd : 2 ≤ gd G) {q : Int32 × Mm} (hgr : gr G = some (.int q.1)) (hgs : gsf G = q.2) (st : Mm) (hf : f_x_wantOpened st = some q) : AW G st 0 [(0, .ref (gad G 0))] [] := by
  unfold f_x_wantOpened at hf
  refine aw_aload_n C 0 0 (j := 0) rfl rfl (by decide +kernel) rfl ?_
  refine aw_getr C (k := 6) fc_11 (lc_0 E) rfl (by decide) tb_402 (by decide +kernel) rfl ?_
  refine aw_getr C (k := 1) fc_6 (lc_30 E) rfl (by decide) tb_221 (by decide +kernel) rfl ?_
  refine aw_iconst C (i0 := 0) (v := 0) (by decide) (by decide +kernel) rfl ?_
  refine aw_aload_n C 0 0 (j := 0) rfl rfl (by decide +kernel) rfl ?_
  refine aw_getr C (k := 0) fc_11 (lc_0 E) rfl (by decide) tb_396 (by decide +kernel) rfl ?_
  refine aw_getr C (k := 6) fc_9 (lc_1 E) rfl (by decide) tb_53 (by decide +kernel) rfl ?_
  refine aw_iconst C (i0 := 0) (v := 0) (by decide) (by decide +kernel) rfl ?_
  refine aw_bipush C (i0 := 16) (v := 16) (by decide) (by decide +kernel) rfl ?_
  refine aw_copy C (Nat.le_trans (by decide) hgd) (Nat.le_of_ble_eq_true rfl) (lc_31 E) (lc_4 E) tb_746 tb_475 tb_474 tb_15 (by decide) (by decide) (by decide) (by decide) (by decide) (by decide +kernel) rfl ?_
  refine aw_aload_n C 0 0 (j := 0) rfl rfl (by decide +kernel) rfl ?_
  refine aw_getr C (k := 6) fc_11 (lc_0 E) rfl (by decide) tb_402 (by decide +kernel) rfl ?_
  refine aw_getr C (k := 1) fc_6 (lc_30 E) rfl (by decide) tb_221 (by decide +kernel) rfl ?_
  obtain ⟨q1, hq1, hf⟩ := ibd hf
  refine aw_callS C (rest := []) (c_x_bitsOf 31 (lc_31 E) _ q1 hq1) tb_599 yf_63 tb_600 rfl _ rfl (Nat.le_trans (by decide) hgd) (Nat.le_of_ble_eq_true rfl) (by decide +kernel) rfl ?_
  show AW _ _ _ _ [.int q1.1]
  exact aw_iretq C CR0 hgr hgs hf (by decide +kernel)
theorem c_x_wantOpened {lay : Ly} (E : LCin lay) (st : Mm) (q : Int32 × Mm) (hf : f_x_wantOpened st = some q) : Con 2 Y95 prog_1_method_14_code 1 (Option.some FieldType.int) lay (fun ad => [.ref (ad 0)]) st (some (.int q.1)) q.2 :=
  am_met yf_95.2.2.2.2.2 (fun ad => Nat.le_of_ble_eq_true rfl) (fun G C CR0 e1 e2 e3 e4 e5 => t_x_wantOpened C CR0 (by rw [e1]; exact E) e2 (Nat.le_of_eq e5.symm) e3 e4 st hf)
def b_x_differs_77 (v1 : Int32) (v2 : Int32) (v3 : Int32) (st : Mm) : Option (Int32 × Mm) :=
  if v1 = 0 then (some (v2, st)) else (some (v3, st))
def b_x_differs_19 (k19 : Int32 → Int32 → Int32 → Int32 → Mm → Option (Int32 × Mm)) (v1 : Int32) (v2 : Int32) (v3 : Int32) (v4 : Int32) (st : Mm) : Option (Int32 × Mm) :=
  if v4 < 0 then (b_x_differs_77 v1 v2 v3 st) else (if inb v4 16 then if inb v4 16 then lt_ ((st.1 31 v4.toNatClampNeg) ^^^ (st.1 4 v4.toNatClampNeg)) (fun a4 => (f_Int_bitCount a4 st).bind (fun q5 => lt_ (v2 + q5.1) (fun a6 => if a4 = 0 then (lt_ (v4 + (-1 : Int32)) (fun a8 => k19 v1 a6 v3 a8 q5.2)) else ((f_Int_numberOfTrailingZeros a4 q5.2).bind (fun q9 => (f_x_cellAt q9.1 v4 q9.2).bind (fun q10 => lt_ (v4 + (-1 : Int32)) (fun a11 => k19 v1 a6 q10.1 a11 q10.2))))))) else none else none)
def f_x_differs_19 : Nat → Int32 → Int32 → Int32 → Int32 → Mm → Option (Int32 × Mm)
  | 0 => fun _ _ _ _ _ => none
  | n + 1 => b_x_differs_19 (f_x_differs_19 n)
def f_x_differs (v1 : Int32) (st : Mm) : Option (Int32 × Mm) :=
  if v1 < 0 then (some ((-1 : Int32), st)) else (if v1 ≤ (1 : Int32) then (f_x_differs_19 1000000 v1 (0 : Int32) (-1 : Int32) (15 : Int32) st) else (some ((-1 : Int32), st)))
theorem t_x_differs_77 {G : Cx} (C : CX G prog_1_method_15_code "PaperStars") (CR0 : CR G (Option.some FieldType.int)) (E : LCin (gly G)) (hnL : gnL G = 6) (hgd : 1 ≤ gd G) {q : Int32 × Mm} (hgr : gr G = some (.int q.1)) (hgs : gsf G = q.2) (v1 : Int32) (v2 : Int32) (v3 : Int32) (st : Mm) (hf : b_x_differs_77 v1 v2 v3 st = some q) : AW G st 77 [(1, .int v1), (2, .int v2), (3, .int v3)] [] := by
  unfold b_x_differs_77 at hf
  refine aw_iload_n C 1 0 (j := 1) rfl rfl (by decide +kernel) rfl ?_
  refine aw_if_ne C (tgt := 85) (off := 7) (by decide +kernel) (by decide) rfl (fun c1 => ?_) (fun c1 => ?_)
  · have hf := ift c1 hf
    refine aw_iload_n C 2 1 (j := 2) rfl rfl (by decide +kernel) rfl ?_
    refine aw_goto C (tgt := 86) (off := 4) (by decide +kernel) (by decide) ?_
    exact aw_iretq C CR0 hgr hgs hf (by decide +kernel)
  · have hf := iff_ c1 hf
    refine aw_iload_n C 3 2 (j := 3) rfl rfl (by decide +kernel) rfl ?_
    exact aw_iretq C CR0 hgr hgs hf (by decide +kernel)
theorem t_x_differs_19 {G : Cx} (C : CX G prog_1_method_15_code "PaperStars") (CR0 : CR G (Option.some FieldType.int)) (E : LCin (gly G)) (hnL : gnL G = 6) (hgd : 1 ≤ gd G) {q : Int32 × Mm} (hgr : gr G = some (.int q.1)) (hgs : gsf G = q.2) (k19 : Int32 → Int32 → Int32 → Int32 → Mm → Option (Int32 × Mm)) (hk19 : ∀ (v1 : Int32) (v2 : Int32) (v3 : Int32) (v4 : Int32) (st : Mm), k19 v1 v2 v3 v4 st = some q → AW G st 19 [(0, .ref (gad G 0)), (1, .int v1), (2, .int v2), (3, .int v3), (4, .int v4)] []) (v1 : Int32) (v2 : Int32) (v3 : Int32) (v4 : Int32) (st : Mm) (hf : b_x_differs_19 k19 v1 v2 v3 v4 st = some q) : AW G st 19 [(0, .ref (gad G 0)), (1, .int v1), (2, .int v2), (3, .int v3), (4, .int v4)] [] := by
  unfold b_x_differs_19 at hf
  refine aw_iload C 4 4 rfl (by decide +kernel) rfl ?_
  refine aw_if_lt C (tgt := 77) (off := 56) (by decide +kernel) (by decide) rfl (fun c1 => ?_) (fun c1 => ?_)
  · have hf := ift c1 hf
    refine aw_sub [(1, .int v1), (2, .int v2), (3, .int v3)] [1, 2, 3] rfl ?_
    exact t_x_differs_77 C CR0 E hnL hgd hgr hgs v1 v2 v3 _ hf
  · have hf := iff_ c1 hf
    refine aw_aload_n C 0 0 (j := 0) rfl rfl (by decide +kernel) rfl ?_
    refine aw_getr C (k := 6) fc_11 (lc_0 E) rfl (by decide) tb_402 (by decide +kernel) rfl ?_
    refine aw_getr C (k := 1) fc_6 (lc_30 E) rfl (by decide) tb_221 (by decide +kernel) rfl ?_
    refine aw_iload C 4 4 rfl (by decide +kernel) rfl ?_
    obtain ⟨g2, hf⟩ := igd hf
    refine aw_iald C (lc_31 E) g2 (by decide +kernel) rfl ?_
    refine aw_aload_n C 0 0 (j := 0) rfl rfl (by decide +kernel) rfl ?_
    refine aw_getr C (k := 0) fc_11 (lc_0 E) rfl (by decide) tb_396 (by decide +kernel) rfl ?_
    refine aw_getr C (k := 6) fc_9 (lc_1 E) rfl (by decide) tb_53 (by decide +kernel) rfl ?_
    refine aw_iload C 4 4 rfl (by decide +kernel) rfl ?_
    obtain ⟨g3, hf⟩ := igd hf
    refine aw_iald C (lc_4 E) g3 (by decide +kernel) rfl ?_
    refine aw_ixor C (by decide +kernel) rfl ?_
    obtain ⟨a4, ha4⟩ : ∃ z, z = ((st.1 31 v4.toNatClampNeg) ^^^ (st.1 4 v4.toNatClampNeg)) := ⟨_, rfl⟩
    refine aw_nmi ha4 ?_
    have hf := ilt ha4 hf
    refine aw_istore C [(5, .int a4), (0, .ref (gad G 0)), (1, .int v1), (2, .int v2), (3, .int v3), (4, .int v4)] (by rw [hnL]; decide) rfl (by decide +kernel) rfl ?_
    refine aw_iload_n C 2 3 (j := 2) rfl rfl (by decide +kernel) rfl ?_
    refine aw_iload C 5 0 rfl (by decide +kernel) rfl ?_
    obtain ⟨q5, hq5, hf⟩ := ibd hf
    refine aw_callS C (rest := [.int v2]) (c_Int_bitCount a4 _ q5 hq5) tb_602 yf_64 tb_603 rfl _ rfl (Nat.le_trans (by decide) hgd) (Nat.le_of_ble_eq_true rfl) (by decide +kernel) rfl ?_
    show AW _ _ _ _ [.int q5.1, .int v2]
    refine aw_iadd C (by decide +kernel) rfl ?_
    obtain ⟨a6, ha6⟩ : ∃ z, z = (v2 + q5.1) := ⟨_, rfl⟩
    refine aw_nmi ha6 ?_
    have hf := ilt ha6 hf
    refine aw_istore_n C [(2, .int a6), (5, .int a4), (0, .ref (gad G 0)), (1, .int v1), (3, .int v3), (4, .int v4)] (j := 2) rfl (by rw [hnL]; decide) rfl (by decide +kernel) rfl ?_
    refine aw_iload C 5 1 rfl (by decide +kernel) rfl ?_
    refine aw_if_eq C (tgt := 71) (off := 14) (by decide +kernel) (by decide) rfl (fun c7 => ?_) (fun c7 => ?_)
    · have hf := ift c7 hf
      obtain ⟨a8, ha8⟩ : ∃ z, z = (v4 + (-1 : Int32)) := ⟨_, rfl⟩
      have hf := ilt ha8 hf
      refine aw_iinc C [(4, .int a8), (2, .int a6), (5, .int a4), (0, .ref (gad G 0)), (1, .int v1), (3, .int v3)] 5 (n := -1) rfl (by rw [ha8]; rfl) (by rw [hnL]; decide) rfl (by decide +kernel) rfl ?_
      refine aw_goto C (tgt := 19) (off := -55) (by decide +kernel) (by decide) ?_
      refine aw_sub [(0, .ref (gad G 0)), (1, .int v1), (2, .int a6), (3, .int v3), (4, .int a8)] [3, 4, 1, 5, 0] rfl ?_
      exact hk19 v1 a6 v3 a8 _ hf
    · have hf := iff_ c7 hf
      refine aw_iload C 5 1 rfl (by decide +kernel) rfl ?_
      obtain ⟨q9, hq9, hf⟩ := ibd hf
      refine aw_callS C (rest := []) (c_Int_numberOfTrailingZeros a4 _ q9 hq9) tb_751 yf_89 tb_717 rfl _ rfl (Nat.le_trans (by decide) hgd) (Nat.le_of_ble_eq_true rfl) (by decide +kernel) rfl ?_
      show AW _ _ _ _ [.int q9.1]
      refine aw_iload C 4 5 rfl (by decide +kernel) rfl ?_
      obtain ⟨q10, hq10, hf⟩ := ibd hf
      refine aw_callS C (rest := []) (c_x_cellAt q9.1 v4 _ q10 hq10) tb_618 yf_22 tb_391 rfl _ rfl (Nat.le_trans (by decide) hgd) (Nat.le_of_ble_eq_true rfl) (by decide +kernel) rfl ?_
      show AW _ _ _ _ [.int q10.1]
      refine aw_istore_n C [(3, .int q10.1), (2, .int a6), (5, .int a4), (0, .ref (gad G 0)), (1, .int v1), (4, .int v4)] (j := 3) rfl (by rw [hnL]; decide) rfl (by decide +kernel) rfl ?_
      obtain ⟨a11, ha11⟩ : ∃ z, z = (v4 + (-1 : Int32)) := ⟨_, rfl⟩
      have hf := ilt ha11 hf
      refine aw_iinc C [(4, .int a11), (3, .int q10.1), (2, .int a6), (5, .int a4), (0, .ref (gad G 0)), (1, .int v1)] 5 (n := -1) rfl (by rw [ha11]; rfl) (by rw [hnL]; decide) rfl (by decide +kernel) rfl ?_
      refine aw_goto C (tgt := 19) (off := -55) (by decide +kernel) (by decide) ?_
      refine aw_sub [(0, .ref (gad G 0)), (1, .int v1), (2, .int a6), (3, .int q10.1), (4, .int a11)] [4, 5, 2, 1, 0] rfl ?_
      exact hk19 v1 a6 q10.1 a11 _ hf
theorem u_x_differs_19 {G : Cx} (C : CX G prog_1_method_15_code "PaperStars") (CR0 : CR G (Option.some FieldType.int)) (E : LCin (gly G)) (hnL : gnL G = 6) (hgd : 1 ≤ gd G) {q : Int32 × Mm} (hgr : gr G = some (.int q.1)) (hgs : gsf G = q.2) : ∀ (n : Nat) (v1 : Int32) (v2 : Int32) (v3 : Int32) (v4 : Int32) (st : Mm), f_x_differs_19 n v1 v2 v3 v4 st = some q → AW G st 19 [(0, .ref (gad G 0)), (1, .int v1), (2, .int v2), (3, .int v3), (4, .int v4)] [] := by
  intro n
  induction n with
  | zero => intro v1 v2 v3 v4 st hf; cases hf
  | succ n ih => intro v1 v2 v3 v4 st hf; exact t_x_differs_19 C CR0 E hnL hgd hgr hgs (f_x_differs_19 n) ih v1 v2 v3 v4 st hf
theorem t_x_differs {G : Cx} (C : CX G prog_1_method_15_code "PaperStars") (CR0 : CR G (Option.some FieldType.int)) (E : LCin (gly G)) (hnL : gnL G = 6) (hgd : 1 ≤ gd G) {q : Int32 × Mm} (hgr : gr G = some (.int q.1)) (hgs : gsf G = q.2) (v1 : Int32) (st : Mm) (hf : f_x_differs v1 st = some q) : AW G st 0 [(0, .ref (gad G 0)), (1, .int v1)] [] := by
  unfold f_x_differs at hf
  refine aw_iload_n C 1 1 (j := 1) rfl rfl (by decide +kernel) rfl ?_
  refine aw_if_lt C (tgt := 9) (off := 8) (by decide +kernel) (by decide) rfl (fun c1 => ?_) (fun c1 => ?_)
  · have hf := ift c1 hf
    refine aw_iconst C (i0 := -1) (v := -1) (by decide) (by decide +kernel) rfl ?_
    exact aw_iretq C CR0 hgr hgs hf (by decide +kernel)
  · have hf := iff_ c1 hf
    refine aw_iload_n C 1 1 (j := 1) rfl rfl (by decide +kernel) rfl ?_
    refine aw_iconst C (i0 := 1) (v := 1) (by decide) (by decide +kernel) rfl ?_
    refine aw_icmp_le C (tgt := 11) (off := 5) (by decide +kernel) (by decide) rfl (fun c2 => ?_) (fun c2 => ?_)
    · have hf := ift c2 hf
      refine aw_iconst C (i0 := 0) (v := 0) (by decide) (by decide +kernel) rfl ?_
      refine aw_istore_n C [(2, .int (0 : Int32)), (0, .ref (gad G 0)), (1, .int v1)] (j := 2) rfl (by rw [hnL]; decide) rfl (by decide +kernel) rfl ?_
      refine aw_iconst C (i0 := -1) (v := -1) (by decide) (by decide +kernel) rfl ?_
      refine aw_istore_n C [(3, .int (-1 : Int32)), (2, .int (0 : Int32)), (0, .ref (gad G 0)), (1, .int v1)] (j := 3) rfl (by rw [hnL]; decide) rfl (by decide +kernel) rfl ?_
      refine aw_bipush C (i0 := 15) (v := 15) (by decide) (by decide +kernel) rfl ?_
      refine aw_istore C [(4, .int (15 : Int32)), (3, .int (-1 : Int32)), (2, .int (0 : Int32)), (0, .ref (gad G 0)), (1, .int v1)] (by rw [hnL]; decide) rfl (by decide +kernel) rfl ?_
      refine aw_sub [(0, .ref (gad G 0)), (1, .int v1), (2, .int (0 : Int32)), (3, .int (-1 : Int32)), (4, .int (15 : Int32))] [3, 4, 2, 1, 0] rfl ?_
      exact u_x_differs_19 C CR0 E hnL hgd hgr hgs _ v1 (0 : Int32) (-1 : Int32) (15 : Int32) _ hf
    · have hf := iff_ c2 hf
      refine aw_iconst C (i0 := -1) (v := -1) (by decide) (by decide +kernel) rfl ?_
      exact aw_iretq C CR0 hgr hgs hf (by decide +kernel)
theorem c_x_differs {lay : Ly} (E : LCin lay) (v1 : Int32) (st : Mm) (q : Int32 × Mm) (hf : f_x_differs v1 st = some q) : Con 1 Y96 prog_1_method_15_code 6 (Option.some FieldType.int) lay (fun ad => [.ref (ad 0), .int v1]) st (some (.int q.1)) q.2 :=
  am_met yf_96.2.2.2.2.2 (fun ad => Nat.le_of_ble_eq_true rfl) (fun G C CR0 e1 e2 e3 e4 e5 => t_x_differs C CR0 (by rw [e1]; exact E) e2 (Nat.le_of_eq e5.symm) e3 e4 v1 st hf)
def b_Fit_fold_106 (v4 : Int32) (v5 : Int32) (st : Mm) : Option (Int32 × Mm) :=
  if v5 = 0 then (some ((0 : Int32), st)) else (if v4 = 0 then (some ((1 : Int32), st)) else ((f_Fold_fold 47 48 49 (100 : Int32) (0 : Int32) st).bind (fun q3 => if q3.1 = 0 then (some ((0 : Int32), q3.2)) else (some ((1 : Int32), q3.2)))))
def b_Fit_fold_77 (k77 : Int32 → Int32 → Int32 → Int32 → Mm → Option (Int32 × Mm)) (v3 : Int32) (v4 : Int32) (v5 : Int32) (v6 : Int32) (st : Mm) : Option (Int32 × Mm) :=
  if v3 ≤ v6 then (b_Fit_fold_106 v4 v5 st) else (if v5 = 0 then (b_Fit_fold_106 v4 v5 st) else ((f_Fold_fold 47 48 49 (118 : Int32) (0 : Int32) st).bind (fun q3 => lt_ (v6 + (1 : Int32)) (fun a4 => k77 v3 v4 q3.1 a4 q3.2))))
def f_Fit_fold_77 : Nat → Int32 → Int32 → Int32 → Int32 → Mm → Option (Int32 × Mm)
  | 0 => fun _ _ _ _ _ => none
  | n + 1 => b_Fit_fold_77 (f_Fit_fold_77 n)
def b_Fit_fold_74 (v3 : Int32) (v4 : Int32) (v5 : Int32) (st : Mm) : Option (Int32 × Mm) :=
  f_Fit_fold_77 1000000 v3 v4 v5 (0 : Int32) st
def b_Fit_fold_45 (k45 : Int32 → Int32 → Int32 → Int32 → Int32 → Mm → Option (Int32 × Mm)) (v2 : Int32) (v3 : Int32) (v4 : Int32) (v5 : Int32) (v6 : Int32) (st : Mm) : Option (Int32 × Mm) :=
  if v2 ≤ v6 then (b_Fit_fold_74 v3 v4 v5 st) else (if v5 = 0 then (b_Fit_fold_74 v3 v4 v5 st) else ((f_Fold_fold 47 48 49 (104 : Int32) (0 : Int32) st).bind (fun q3 => lt_ (v6 + (1 : Int32)) (fun a4 => k45 v2 v3 v4 q3.1 a4 q3.2))))
def f_Fit_fold_45 : Nat → Int32 → Int32 → Int32 → Int32 → Int32 → Mm → Option (Int32 × Mm)
  | 0 => fun _ _ _ _ _ _ => none
  | n + 1 => b_Fit_fold_45 (f_Fit_fold_45 n)
def f_Fit_fold (v1 : Int32) (v2 : Int32) (v3 : Int32) (v4 : Int32) (st : Mm) : Option (Int32 × Mm) :=
  if v2 < 0 then (some ((0 : Int32), st)) else (if (4 : Int32) < v2 then (some ((0 : Int32), st)) else (if v3 < 0 then (some ((0 : Int32), st)) else (if (4 : Int32) < v3 then (some ((0 : Int32), st)) else (if v4 < 0 then (some ((0 : Int32), st)) else (if v4 ≤ (1 : Int32) then ((f_Fold_start 47 48 49 v1 st).bind (fun q7 => f_Fit_fold_45 1000000 v2 v3 v4 (1 : Int32) (0 : Int32) q7.2)) else (some ((0 : Int32), st)))))))
theorem t_Fit_fold_106 {G : Cx} (C : CX G prog_4_method_6_code "PaperStars$Fit") (CR0 : CR G (Option.some FieldType.boolean)) (E : LCin (gly G)) (hnL : gnL G = 7) (hgd : 2 ≤ gd G) {q : Int32 × Mm} (hgr : gr G = some (.int q.1)) (hgs : gsf G = q.2) (v4 : Int32) (v5 : Int32) (st : Mm) (hf : b_Fit_fold_106 v4 v5 st = some q) : AW G st 106 [(0, .ref (gad G 46)), (4, .int v4), (5, .int v5)] [] := by
  unfold b_Fit_fold_106 at hf
  refine aw_iload C 5 2 rfl (by decide +kernel) rfl ?_
  refine aw_if_eq C (tgt := 133) (off := 25) (by decide +kernel) (by decide) rfl (fun c1 => ?_) (fun c1 => ?_)
  · have hf := ift c1 hf
    refine aw_iconst C (i0 := 0) (v := 0) (by decide) (by decide +kernel) rfl ?_
    exact aw_zretq C CR0 hgr hgs (by decide) hf (by decide +kernel)
  · have hf := iff_ c1 hf
    refine aw_iload C 4 1 rfl (by decide +kernel) rfl ?_
    refine aw_if_eq C (tgt := 129) (off := 16) (by decide +kernel) (by decide) rfl (fun c2 => ?_) (fun c2 => ?_)
    · have hf := ift c2 hf
      refine aw_iconst C (i0 := 1) (v := 1) (by decide) (by decide +kernel) rfl ?_
      refine aw_goto C (tgt := 134) (off := 4) (by decide +kernel) (by decide) ?_
      exact aw_zretq C CR0 hgr hgs (by decide) hf (by decide +kernel)
    · have hf := iff_ c2 hf
      refine aw_aload_n C 0 0 (j := 0) rfl rfl (by decide +kernel) rfl ?_
      refine aw_getr C (k := 0) fc_2 (lc_46 E) rfl (by decide) tb_304 (by decide +kernel) rfl ?_
      refine aw_bipush C (i0 := 100) (v := 100) (by decide) (by decide +kernel) rfl ?_
      refine aw_iconst C (i0 := 0) (v := 0) (by decide) (by decide +kernel) rfl ?_
      obtain ⟨q3, hq3, hf⟩ := ibd hf
      refine aw_callV C (rest := []) (c_Fold_fold 47 48 49 ⟨(lc_47 E), (lc_48 E), (lc_49 E)⟩ (100 : Int32) (0 : Int32) _ q3 hq3) tb_761 yf_17 yi_17 (lc_47 E) [.int (100 : Int32), .int (0 : Int32)] rfl rfl _ rfl (Nat.le_trans (by decide) hgd) (Nat.le_of_ble_eq_true rfl) (by decide +kernel) rfl ?_
      show AW _ _ _ _ [.int q3.1]
      refine aw_if_eq C (tgt := 133) (off := 7) (by decide +kernel) (by decide) rfl (fun c4 => ?_) (fun c4 => ?_)
      · have hf := ift c4 hf
        refine aw_iconst C (i0 := 0) (v := 0) (by decide) (by decide +kernel) rfl ?_
        exact aw_zretq C CR0 hgr hgs (by decide) hf (by decide +kernel)
      · have hf := iff_ c4 hf
        refine aw_iconst C (i0 := 1) (v := 1) (by decide) (by decide +kernel) rfl ?_
        refine aw_goto C (tgt := 134) (off := 4) (by decide +kernel) (by decide) ?_
        exact aw_zretq C CR0 hgr hgs (by decide) hf (by decide +kernel)
theorem t_Fit_fold_77 {G : Cx} (C : CX G prog_4_method_6_code "PaperStars$Fit") (CR0 : CR G (Option.some FieldType.boolean)) (E : LCin (gly G)) (hnL : gnL G = 7) (hgd : 2 ≤ gd G) {q : Int32 × Mm} (hgr : gr G = some (.int q.1)) (hgs : gsf G = q.2) (k77 : Int32 → Int32 → Int32 → Int32 → Mm → Option (Int32 × Mm)) (hk77 : ∀ (v3 : Int32) (v4 : Int32) (v5 : Int32) (v6 : Int32) (st : Mm), k77 v3 v4 v5 v6 st = some q → AW G st 77 [(0, .ref (gad G 46)), (3, .int v3), (4, .int v4), (5, .int v5), (6, .int v6)] []) (v3 : Int32) (v4 : Int32) (v5 : Int32) (v6 : Int32) (st : Mm) (hf : b_Fit_fold_77 k77 v3 v4 v5 v6 st = some q) : AW G st 77 [(0, .ref (gad G 46)), (3, .int v3), (4, .int v4), (5, .int v5), (6, .int v6)] [] := by
  unfold b_Fit_fold_77 at hf
  refine aw_iload C 6 4 rfl (by decide +kernel) rfl ?_
  refine aw_iload_n C 3 1 (j := 3) rfl rfl (by decide +kernel) rfl ?_
  refine aw_icmp_ge C (tgt := 106) (off := 26) (by decide +kernel) (by decide) rfl (fun c1 => ?_) (fun c1 => ?_)
  · have hf := ift c1 hf
    refine aw_sub [(0, .ref (gad G 46)), (4, .int v4), (5, .int v5)] [0, 2, 3] rfl ?_
    exact t_Fit_fold_106 C CR0 E hnL hgd hgr hgs v4 v5 _ hf
  · have hf := iff_ c1 hf
    refine aw_iload C 5 3 rfl (by decide +kernel) rfl ?_
    refine aw_if_eq C (tgt := 106) (off := 21) (by decide +kernel) (by decide) rfl (fun c2 => ?_) (fun c2 => ?_)
    · have hf := ift c2 hf
      refine aw_sub [(0, .ref (gad G 46)), (4, .int v4), (5, .int v5)] [0, 2, 3] rfl ?_
      exact t_Fit_fold_106 C CR0 E hnL hgd hgr hgs v4 v5 _ hf
    · have hf := iff_ c2 hf
      refine aw_aload_n C 0 0 (j := 0) rfl rfl (by decide +kernel) rfl ?_
      refine aw_getr C (k := 0) fc_2 (lc_46 E) rfl (by decide) tb_304 (by decide +kernel) rfl ?_
      refine aw_bipush C (i0 := 118) (v := 118) (by decide) (by decide +kernel) rfl ?_
      refine aw_iconst C (i0 := 0) (v := 0) (by decide) (by decide +kernel) rfl ?_
      obtain ⟨q3, hq3, hf⟩ := ibd hf
      refine aw_callV C (rest := []) (c_Fold_fold 47 48 49 ⟨(lc_47 E), (lc_48 E), (lc_49 E)⟩ (118 : Int32) (0 : Int32) _ q3 hq3) tb_761 yf_17 yi_17 (lc_47 E) [.int (118 : Int32), .int (0 : Int32)] rfl rfl _ rfl (Nat.le_trans (by decide) hgd) (Nat.le_of_ble_eq_true rfl) (by decide +kernel) rfl ?_
      show AW _ _ _ _ [.int q3.1]
      refine aw_istore C [(5, .int q3.1), (0, .ref (gad G 46)), (3, .int v3), (4, .int v4), (6, .int v6)] (by rw [hnL]; decide) rfl (by decide +kernel) rfl ?_
      obtain ⟨a4, ha4⟩ : ∃ z, z = (v6 + (1 : Int32)) := ⟨_, rfl⟩
      have hf := ilt ha4 hf
      refine aw_iinc C [(6, .int a4), (5, .int q3.1), (0, .ref (gad G 46)), (3, .int v3), (4, .int v4)] 4 (n := 1) rfl (by rw [ha4]; rfl) (by rw [hnL]; decide) rfl (by decide +kernel) rfl ?_
      refine aw_goto C (tgt := 77) (off := -26) (by decide +kernel) (by decide) ?_
      refine aw_sub [(0, .ref (gad G 46)), (3, .int v3), (4, .int v4), (5, .int q3.1), (6, .int a4)] [2, 3, 4, 1, 0] rfl ?_
      exact hk77 v3 v4 q3.1 a4 _ hf
theorem u_Fit_fold_77 {G : Cx} (C : CX G prog_4_method_6_code "PaperStars$Fit") (CR0 : CR G (Option.some FieldType.boolean)) (E : LCin (gly G)) (hnL : gnL G = 7) (hgd : 2 ≤ gd G) {q : Int32 × Mm} (hgr : gr G = some (.int q.1)) (hgs : gsf G = q.2) : ∀ (n : Nat) (v3 : Int32) (v4 : Int32) (v5 : Int32) (v6 : Int32) (st : Mm), f_Fit_fold_77 n v3 v4 v5 v6 st = some q → AW G st 77 [(0, .ref (gad G 46)), (3, .int v3), (4, .int v4), (5, .int v5), (6, .int v6)] [] := by
  intro n
  induction n with
  | zero => intro v3 v4 v5 v6 st hf; cases hf
  | succ n ih => intro v3 v4 v5 v6 st hf; exact t_Fit_fold_77 C CR0 E hnL hgd hgr hgs (f_Fit_fold_77 n) ih v3 v4 v5 v6 st hf
theorem t_Fit_fold_74 {G : Cx} (C : CX G prog_4_method_6_code "PaperStars$Fit") (CR0 : CR G (Option.some FieldType.boolean)) (E : LCin (gly G)) (hnL : gnL G = 7) (hgd : 2 ≤ gd G) {q : Int32 × Mm} (hgr : gr G = some (.int q.1)) (hgs : gsf G = q.2) (v3 : Int32) (v4 : Int32) (v5 : Int32) (st : Mm) (hf : b_Fit_fold_74 v3 v4 v5 st = some q) : AW G st 74 [(0, .ref (gad G 46)), (3, .int v3), (4, .int v4), (5, .int v5)] [] := by
  unfold b_Fit_fold_74 at hf
  refine aw_iconst C (i0 := 0) (v := 0) (by decide) (by decide +kernel) rfl ?_
  refine aw_istore C [(6, .int (0 : Int32)), (0, .ref (gad G 46)), (3, .int v3), (4, .int v4), (5, .int v5)] (by rw [hnL]; decide) rfl (by decide +kernel) rfl ?_
  refine aw_sub [(0, .ref (gad G 46)), (3, .int v3), (4, .int v4), (5, .int v5), (6, .int (0 : Int32))] [1, 2, 3, 4, 0] rfl ?_
  exact u_Fit_fold_77 C CR0 E hnL hgd hgr hgs _ v3 v4 v5 (0 : Int32) _ hf
theorem t_Fit_fold_45 {G : Cx} (C : CX G prog_4_method_6_code "PaperStars$Fit") (CR0 : CR G (Option.some FieldType.boolean)) (E : LCin (gly G)) (hnL : gnL G = 7) (hgd : 2 ≤ gd G) {q : Int32 × Mm} (hgr : gr G = some (.int q.1)) (hgs : gsf G = q.2) (k45 : Int32 → Int32 → Int32 → Int32 → Int32 → Mm → Option (Int32 × Mm)) (hk45 : ∀ (v2 : Int32) (v3 : Int32) (v4 : Int32) (v5 : Int32) (v6 : Int32) (st : Mm), k45 v2 v3 v4 v5 v6 st = some q → AW G st 45 [(0, .ref (gad G 46)), (2, .int v2), (3, .int v3), (4, .int v4), (5, .int v5), (6, .int v6)] []) (v2 : Int32) (v3 : Int32) (v4 : Int32) (v5 : Int32) (v6 : Int32) (st : Mm) (hf : b_Fit_fold_45 k45 v2 v3 v4 v5 v6 st = some q) : AW G st 45 [(0, .ref (gad G 46)), (2, .int v2), (3, .int v3), (4, .int v4), (5, .int v5), (6, .int v6)] [] := by
  unfold b_Fit_fold_45 at hf
  refine aw_iload C 6 5 rfl (by decide +kernel) rfl ?_
  refine aw_iload_n C 2 1 (j := 2) rfl rfl (by decide +kernel) rfl ?_
  refine aw_icmp_ge C (tgt := 74) (off := 26) (by decide +kernel) (by decide) rfl (fun c1 => ?_) (fun c1 => ?_)
  · have hf := ift c1 hf
    refine aw_sub [(0, .ref (gad G 46)), (3, .int v3), (4, .int v4), (5, .int v5)] [0, 2, 3, 4] rfl ?_
    exact t_Fit_fold_74 C CR0 E hnL hgd hgr hgs v3 v4 v5 _ hf
  · have hf := iff_ c1 hf
    refine aw_iload C 5 4 rfl (by decide +kernel) rfl ?_
    refine aw_if_eq C (tgt := 74) (off := 21) (by decide +kernel) (by decide) rfl (fun c2 => ?_) (fun c2 => ?_)
    · have hf := ift c2 hf
      refine aw_sub [(0, .ref (gad G 46)), (3, .int v3), (4, .int v4), (5, .int v5)] [0, 2, 3, 4] rfl ?_
      exact t_Fit_fold_74 C CR0 E hnL hgd hgr hgs v3 v4 v5 _ hf
    · have hf := iff_ c2 hf
      refine aw_aload_n C 0 0 (j := 0) rfl rfl (by decide +kernel) rfl ?_
      refine aw_getr C (k := 0) fc_2 (lc_46 E) rfl (by decide) tb_304 (by decide +kernel) rfl ?_
      refine aw_bipush C (i0 := 104) (v := 104) (by decide) (by decide +kernel) rfl ?_
      refine aw_iconst C (i0 := 0) (v := 0) (by decide) (by decide +kernel) rfl ?_
      obtain ⟨q3, hq3, hf⟩ := ibd hf
      refine aw_callV C (rest := []) (c_Fold_fold 47 48 49 ⟨(lc_47 E), (lc_48 E), (lc_49 E)⟩ (104 : Int32) (0 : Int32) _ q3 hq3) tb_761 yf_17 yi_17 (lc_47 E) [.int (104 : Int32), .int (0 : Int32)] rfl rfl _ rfl (Nat.le_trans (by decide) hgd) (Nat.le_of_ble_eq_true rfl) (by decide +kernel) rfl ?_
      show AW _ _ _ _ [.int q3.1]
      refine aw_istore C [(5, .int q3.1), (0, .ref (gad G 46)), (2, .int v2), (3, .int v3), (4, .int v4), (6, .int v6)] (by rw [hnL]; decide) rfl (by decide +kernel) rfl ?_
      obtain ⟨a4, ha4⟩ : ∃ z, z = (v6 + (1 : Int32)) := ⟨_, rfl⟩
      have hf := ilt ha4 hf
      refine aw_iinc C [(6, .int a4), (5, .int q3.1), (0, .ref (gad G 46)), (2, .int v2), (3, .int v3), (4, .int v4)] 5 (n := 1) rfl (by rw [ha4]; rfl) (by rw [hnL]; decide) rfl (by decide +kernel) rfl ?_
      refine aw_goto C (tgt := 45) (off := -26) (by decide +kernel) (by decide) ?_
      refine aw_sub [(0, .ref (gad G 46)), (2, .int v2), (3, .int v3), (4, .int v4), (5, .int q3.1), (6, .int a4)] [2, 3, 4, 5, 1, 0] rfl ?_
      exact hk45 v2 v3 v4 q3.1 a4 _ hf
theorem u_Fit_fold_45 {G : Cx} (C : CX G prog_4_method_6_code "PaperStars$Fit") (CR0 : CR G (Option.some FieldType.boolean)) (E : LCin (gly G)) (hnL : gnL G = 7) (hgd : 2 ≤ gd G) {q : Int32 × Mm} (hgr : gr G = some (.int q.1)) (hgs : gsf G = q.2) : ∀ (n : Nat) (v2 : Int32) (v3 : Int32) (v4 : Int32) (v5 : Int32) (v6 : Int32) (st : Mm), f_Fit_fold_45 n v2 v3 v4 v5 v6 st = some q → AW G st 45 [(0, .ref (gad G 46)), (2, .int v2), (3, .int v3), (4, .int v4), (5, .int v5), (6, .int v6)] [] := by
  intro n
  induction n with
  | zero => intro v2 v3 v4 v5 v6 st hf; cases hf
  | succ n ih => intro v2 v3 v4 v5 v6 st hf; exact t_Fit_fold_45 C CR0 E hnL hgd hgr hgs (f_Fit_fold_45 n) ih v2 v3 v4 v5 v6 st hf
theorem t_Fit_fold {G : Cx} (C : CX G prog_4_method_6_code "PaperStars$Fit") (CR0 : CR G (Option.some FieldType.boolean)) (E : LCin (gly G)) (hnL : gnL G = 7) (hgd : 2 ≤ gd G) {q : Int32 × Mm} (hgr : gr G = some (.int q.1)) (hgs : gsf G = q.2) (v1 : Int32) (v2 : Int32) (v3 : Int32) (v4 : Int32) (st : Mm) (hf : f_Fit_fold v1 v2 v3 v4 st = some q) : AW G st 0 [(0, .ref (gad G 46)), (1, .int v1), (2, .int v2), (3, .int v3), (4, .int v4)] [] := by
  unfold f_Fit_fold at hf
  refine aw_iload_n C 2 2 (j := 2) rfl rfl (by decide +kernel) rfl ?_
  refine aw_if_lt C (tgt := 29) (off := 28) (by decide +kernel) (by decide) rfl (fun c1 => ?_) (fun c1 => ?_)
  · have hf := ift c1 hf
    refine aw_iconst C (i0 := 0) (v := 0) (by decide) (by decide +kernel) rfl ?_
    exact aw_zretq C CR0 hgr hgs (by decide) hf (by decide +kernel)
  · have hf := iff_ c1 hf
    refine aw_iload_n C 2 2 (j := 2) rfl rfl (by decide +kernel) rfl ?_
    refine aw_iconst C (i0 := 4) (v := 4) (by decide) (by decide +kernel) rfl ?_
    refine aw_icmp_gt C (tgt := 29) (off := 23) (by decide +kernel) (by decide) rfl (fun c2 => ?_) (fun c2 => ?_)
    · have hf := ift c2 hf
      refine aw_iconst C (i0 := 0) (v := 0) (by decide) (by decide +kernel) rfl ?_
      exact aw_zretq C CR0 hgr hgs (by decide) hf (by decide +kernel)
    · have hf := iff_ c2 hf
      refine aw_iload_n C 3 3 (j := 3) rfl rfl (by decide +kernel) rfl ?_
      refine aw_if_lt C (tgt := 29) (off := 19) (by decide +kernel) (by decide) rfl (fun c3 => ?_) (fun c3 => ?_)
      · have hf := ift c3 hf
        refine aw_iconst C (i0 := 0) (v := 0) (by decide) (by decide +kernel) rfl ?_
        exact aw_zretq C CR0 hgr hgs (by decide) hf (by decide +kernel)
      · have hf := iff_ c3 hf
        refine aw_iload_n C 3 3 (j := 3) rfl rfl (by decide +kernel) rfl ?_
        refine aw_iconst C (i0 := 4) (v := 4) (by decide) (by decide +kernel) rfl ?_
        refine aw_icmp_gt C (tgt := 29) (off := 14) (by decide +kernel) (by decide) rfl (fun c4 => ?_) (fun c4 => ?_)
        · have hf := ift c4 hf
          refine aw_iconst C (i0 := 0) (v := 0) (by decide) (by decide +kernel) rfl ?_
          exact aw_zretq C CR0 hgr hgs (by decide) hf (by decide +kernel)
        · have hf := iff_ c4 hf
          refine aw_iload C 4 4 rfl (by decide +kernel) rfl ?_
          refine aw_if_lt C (tgt := 29) (off := 9) (by decide +kernel) (by decide) rfl (fun c5 => ?_) (fun c5 => ?_)
          · have hf := ift c5 hf
            refine aw_iconst C (i0 := 0) (v := 0) (by decide) (by decide +kernel) rfl ?_
            exact aw_zretq C CR0 hgr hgs (by decide) hf (by decide +kernel)
          · have hf := iff_ c5 hf
            refine aw_iload C 4 4 rfl (by decide +kernel) rfl ?_
            refine aw_iconst C (i0 := 1) (v := 1) (by decide) (by decide +kernel) rfl ?_
            refine aw_icmp_le C (tgt := 31) (off := 5) (by decide +kernel) (by decide) rfl (fun c6 => ?_) (fun c6 => ?_)
            · have hf := ift c6 hf
              refine aw_aload_n C 0 0 (j := 0) rfl rfl (by decide +kernel) rfl ?_
              refine aw_getr C (k := 0) fc_2 (lc_46 E) rfl (by decide) tb_304 (by decide +kernel) rfl ?_
              refine aw_iload_n C 1 1 (j := 1) rfl rfl (by decide +kernel) rfl ?_
              obtain ⟨q7, hq7, hf⟩ := ibd hf
              refine aw_callV C (rest := []) (c_Fold_start 47 48 49 ⟨(lc_47 E), (lc_48 E), (lc_49 E)⟩ v1 _ q7 hq7) tb_760 yf_16 yi_16 (lc_47 E) [.int v1] rfl rfl _ rfl (Nat.le_trans (by decide) hgd) (Nat.le_of_ble_eq_true rfl) (by decide +kernel) rfl ?_
              show AW _ _ _ _ []
              refine aw_iconst C (i0 := 1) (v := 1) (by decide) (by decide +kernel) rfl ?_
              refine aw_istore C [(5, .int (1 : Int32)), (0, .ref (gad G 46)), (1, .int v1), (2, .int v2), (3, .int v3), (4, .int v4)] (by rw [hnL]; decide) rfl (by decide +kernel) rfl ?_
              refine aw_iconst C (i0 := 0) (v := 0) (by decide) (by decide +kernel) rfl ?_
              refine aw_istore C [(6, .int (0 : Int32)), (5, .int (1 : Int32)), (0, .ref (gad G 46)), (1, .int v1), (2, .int v2), (3, .int v3), (4, .int v4)] (by rw [hnL]; decide) rfl (by decide +kernel) rfl ?_
              refine aw_sub [(0, .ref (gad G 46)), (2, .int v2), (3, .int v3), (4, .int v4), (5, .int (1 : Int32)), (6, .int (0 : Int32))] [2, 4, 5, 6, 1, 0] rfl ?_
              exact u_Fit_fold_45 C CR0 E hnL hgd hgr hgs _ v2 v3 v4 (1 : Int32) (0 : Int32) _ hf
            · have hf := iff_ c6 hf
              refine aw_iconst C (i0 := 0) (v := 0) (by decide) (by decide +kernel) rfl ?_
              exact aw_zretq C CR0 hgr hgs (by decide) hf (by decide +kernel)
theorem c_Fit_fold {lay : Ly} (E : LCin lay) (v1 : Int32) (v2 : Int32) (v3 : Int32) (v4 : Int32) (st : Mm) (q : Int32 × Mm) (hf : f_Fit_fold v1 v2 v3 v4 st = some q) : Con 2 Y98 prog_4_method_6_code 7 (Option.some FieldType.boolean) lay (fun ad => [.ref (ad 46), .int v1, .int v2, .int v3, .int v4]) st (some (.int q.1)) q.2 :=
  am_met yf_98.2.2.2.2.2 (fun ad => Nat.le_of_ble_eq_true rfl) (fun G C CR0 e1 e2 e3 e4 e5 => t_Fit_fold C CR0 (by rw [e1]; exact E) e2 (Nat.le_of_eq e5.symm) e3 e4 v1 v2 v3 v4 st hf)
def f_Fit_learn (v1 : Int32) (v2 : Int32) (st : Mm) : Option (Int32 × Mm) :=
  (f_x_hasBit 51 v1 st).bind (fun q1 => if q1.1 = 0 then (lt_ ((1 : Int32) <<< ((v1 &&& (15 : Int32)) &&& 31)) (fun a3 => lt_ (v1 >>> ((4 : Int32) &&& 31)) (fun a4 => if inb a4 16 then lt_ ((q1.2.1 51 a4.toNatClampNeg) ||| a3) (fun a6 => if inb a4 16 then if v2 = 0 then (some ((1 : Int32), (sI q1.2 51 a4.toNatClampNeg a6))) else (lt_ (v1 >>> ((4 : Int32) &&& 31)) (fun a9 => if inb a9 16 then lt_ (((sI q1.2 51 a4.toNatClampNeg a6).1 50 a9.toNatClampNeg) ||| a3) (fun a11 => if inb a9 16 then lt_ (((sI (sI q1.2 51 a4.toNatClampNeg a6) 50 a9.toNatClampNeg a11).1 46 2) + (1 : Int32)) (fun a13 => some ((1 : Int32), (sI (sI (sI q1.2 51 a4.toNatClampNeg a6) 50 a9.toNatClampNeg a11) 46 2 a13))) else none) else none)) else none) else none))) else ((f_x_hasBit 50 v1 q1.2).bind (fun q14 => if q14.1 = v2 then (some ((1 : Int32), q14.2)) else (some ((0 : Int32), q14.2)))))
theorem t_Fit_learn {G : Cx} (C : CX G prog_4_method_8_code "PaperStars$Fit") (CR0 : CR G (Option.some FieldType.boolean)) (E : LCin (gly G)) (hnL : gnL G = 4) (hgd : 1 ≤ gd G) {q : Int32 × Mm} (hgr : gr G = some (.int q.1)) (hgs : gsf G = q.2) (v1 : Int32) (v2 : Int32) (st : Mm) (hf : f_Fit_learn v1 v2 st = some q) : AW G st 0 [(0, .ref (gad G 46)), (1, .int v1), (2, .int v2)] [] := by
  unfold f_Fit_learn at hf
  refine aw_aload_n C 0 0 (j := 0) rfl rfl (by decide +kernel) rfl ?_
  refine aw_getr C (k := 4) fc_2 (lc_46 E) rfl (by decide) tb_313 (by decide +kernel) rfl ?_
  refine aw_iload_n C 1 1 (j := 1) rfl rfl (by decide +kernel) rfl ?_
  obtain ⟨q1, hq1, hf⟩ := ibd hf
  refine aw_callSN C (rest := []) (c_x_hasBit 51 (lc_51 E) v1 _ q1 hq1) nw_19 yf_23 tb_394 rfl _ rfl (Nat.le_trans (by decide) hgd) (Nat.le_of_ble_eq_true rfl) (by decide +kernel) rfl ?_
  show AW _ _ _ _ [.int q1.1]
  refine aw_if_eq C (tgt := 29) (off := 21) (by decide +kernel) (by decide) rfl (fun c2 => ?_) (fun c2 => ?_)
  · have hf := ift c2 hf
    refine aw_iconst C (i0 := 1) (v := 1) (by decide) (by decide +kernel) rfl ?_
    refine aw_iload_n C 1 1 (j := 1) rfl rfl (by decide +kernel) rfl ?_
    refine aw_bipush C (i0 := 15) (v := 15) (by decide) (by decide +kernel) rfl ?_
    refine aw_iand C (by decide +kernel) rfl ?_
    refine aw_ishl C (by decide +kernel) rfl ?_
    obtain ⟨a3, ha3⟩ : ∃ z, z = ((1 : Int32) <<< ((v1 &&& (15 : Int32)) &&& 31)) := ⟨_, rfl⟩
    refine aw_nmi ha3 ?_
    have hf := ilt ha3 hf
    refine aw_istore_n C [(3, .int a3), (0, .ref (gad G 46)), (1, .int v1), (2, .int v2)] (j := 3) rfl (by rw [hnL]; decide) rfl (by decide +kernel) rfl ?_
    refine aw_aload_n C 0 1 (j := 0) rfl rfl (by decide +kernel) rfl ?_
    refine aw_getr C (k := 4) fc_2 (lc_46 E) rfl (by decide) tb_313 (by decide +kernel) rfl ?_
    refine aw_iload_n C 1 2 (j := 1) rfl rfl (by decide +kernel) rfl ?_
    refine aw_iconst C (i0 := 4) (v := 4) (by decide) (by decide +kernel) rfl ?_
    refine aw_ishr C (by decide +kernel) rfl ?_
    obtain ⟨a4, ha4⟩ : ∃ z, z = (v1 >>> ((4 : Int32) &&& 31)) := ⟨_, rfl⟩
    refine aw_nmi ha4 ?_
    have hf := ilt ha4 hf
    refine aw_dup2_11 C rfl rfl (by decide +kernel) rfl ?_
    obtain ⟨g5, hf⟩ := igd hf
    refine aw_iald C (lc_51 E) g5 (by decide +kernel) rfl ?_
    refine aw_iload_n C 3 0 (j := 3) rfl rfl (by decide +kernel) rfl ?_
    refine aw_ior C (by decide +kernel) rfl ?_
    obtain ⟨a6, ha6⟩ : ∃ z, z = ((q1.2.1 51 a4.toNatClampNeg) ||| a3) := ⟨_, rfl⟩
    refine aw_nmi ha6 ?_
    have hf := ilt ha6 hf
    obtain ⟨g7, hf⟩ := igd hf
    refine aw_iast C (lc_51 E) g7 (by decide +kernel) rfl ?_
    refine aw_iload_n C 2 3 (j := 2) rfl rfl (by decide +kernel) rfl ?_
    refine aw_if_eq C (tgt := 74) (off := 25) (by decide +kernel) (by decide) rfl (fun c8 => ?_) (fun c8 => ?_)
    · have hf := ift c8 hf
      refine aw_iconst C (i0 := 1) (v := 1) (by decide) (by decide +kernel) rfl ?_
      exact aw_zretq C CR0 hgr hgs (by decide) hf (by decide +kernel)
    · have hf := iff_ c8 hf
      refine aw_aload_n C 0 1 (j := 0) rfl rfl (by decide +kernel) rfl ?_
      refine aw_getr C (k := 1) fc_2 (lc_46 E) rfl (by decide) tb_307 (by decide +kernel) rfl ?_
      refine aw_iload_n C 1 2 (j := 1) rfl rfl (by decide +kernel) rfl ?_
      refine aw_iconst C (i0 := 4) (v := 4) (by decide) (by decide +kernel) rfl ?_
      refine aw_ishr C (by decide +kernel) rfl ?_
      obtain ⟨a9, ha9⟩ : ∃ z, z = (v1 >>> ((4 : Int32) &&& 31)) := ⟨_, rfl⟩
      refine aw_nmi ha9 ?_
      have hf := ilt ha9 hf
      refine aw_dup2_11 C rfl rfl (by decide +kernel) rfl ?_
      obtain ⟨g10, hf⟩ := igd hf
      refine aw_iald C (lc_50 E) g10 (by decide +kernel) rfl ?_
      refine aw_iload_n C 3 0 (j := 3) rfl rfl (by decide +kernel) rfl ?_
      refine aw_ior C (by decide +kernel) rfl ?_
      obtain ⟨a11, ha11⟩ : ∃ z, z = (((sI q1.2 51 a4.toNatClampNeg a6).1 50 a9.toNatClampNeg) ||| a3) := ⟨_, rfl⟩
      refine aw_nmi ha11 ?_
      have hf := ilt ha11 hf
      obtain ⟨g12, hf⟩ := igd hf
      refine aw_iast C (lc_50 E) g12 (by decide +kernel) rfl ?_
      refine aw_aload_n C 0 1 (j := 0) rfl rfl (by decide +kernel) rfl ?_
      refine aw_dup C rfl (by decide +kernel) rfl ?_
      refine aw_get C (k := 2) fc_2 (lc_46 E) rfl (by decide) tb_309 (by decide +kernel) rfl ?_
      refine aw_iconst C (i0 := 1) (v := 1) (by decide) (by decide +kernel) rfl ?_
      refine aw_iadd C (by decide +kernel) rfl ?_
      obtain ⟨a13, ha13⟩ : ∃ z, z = (((sI (sI q1.2 51 a4.toNatClampNeg a6) 50 a9.toNatClampNeg a11).1 46 2) + (1 : Int32)) := ⟨_, rfl⟩
      refine aw_nmi ha13 ?_
      have hf := ilt ha13 hf
      refine aw_put C (k := 2) fc_2 (lc_46 E) rfl (by decide) rfl rfl tb_309 (by decide +kernel) rfl ?_
      refine aw_iconst C (i0 := 1) (v := 1) (by decide) (by decide +kernel) rfl ?_
      exact aw_zretq C CR0 hgr hgs (by decide) hf (by decide +kernel)
  · have hf := iff_ c2 hf
    refine aw_aload_n C 0 0 (j := 0) rfl rfl (by decide +kernel) rfl ?_
    refine aw_getr C (k := 1) fc_2 (lc_46 E) rfl (by decide) tb_307 (by decide +kernel) rfl ?_
    refine aw_iload_n C 1 1 (j := 1) rfl rfl (by decide +kernel) rfl ?_
    obtain ⟨q14, hq14, hf⟩ := ibd hf
    refine aw_callSN C (rest := []) (c_x_hasBit 50 (lc_50 E) v1 _ q14 hq14) nw_19 yf_23 tb_394 rfl _ rfl (Nat.le_trans (by decide) hgd) (Nat.le_of_ble_eq_true rfl) (by decide +kernel) rfl ?_
    show AW _ _ _ _ [.int q14.1]
    refine aw_iload_n C 2 2 (j := 2) rfl rfl (by decide +kernel) rfl ?_
    refine aw_icmp_ne C (tgt := 27) (off := 7) (by decide +kernel) (by decide) rfl (fun c15 => ?_) (fun c15 => ?_)
    · have hf := ift c15 hf
      refine aw_iconst C (i0 := 1) (v := 1) (by decide) (by decide +kernel) rfl ?_
      refine aw_goto C (tgt := 28) (off := 4) (by decide +kernel) (by decide) ?_
      exact aw_zretq C CR0 hgr hgs (by decide) hf (by decide +kernel)
    · have hf := iff_ c15 hf
      refine aw_iconst C (i0 := 0) (v := 0) (by decide) (by decide +kernel) rfl ?_
      exact aw_zretq C CR0 hgr hgs (by decide) hf (by decide +kernel)
theorem c_Fit_learn {lay : Ly} (E : LCin lay) (v1 : Int32) (v2 : Int32) (st : Mm) (q : Int32 × Mm) (hf : f_Fit_learn v1 v2 st = some q) : Con 1 Y100 prog_4_method_8_code 4 (Option.some FieldType.boolean) lay (fun ad => [.ref (ad 46), .int v1, .int v2]) st (some (.int q.1)) q.2 :=
  am_met yf_100.2.2.2.2.2 (fun ad => Nat.le_of_ble_eq_true rfl) (fun G C CR0 e1 e2 e3 e4 e5 => t_Fit_learn C CR0 (by rw [e1]; exact E) e2 (Nat.le_of_eq e5.symm) e3 e4 v1 v2 st hf)
def b_Fit_match_91 (v2 : Int32) (v3 : Int32) (st : Mm) : Option (Int32 × Mm) :=
  (f_x_cellAt v3 v2 st).bind (fun q1 => some ((0 : Int32), (sI q1.2 46 3 q1.1)))
def b_Fit_match_62 (k23 : Int32 → Mm → Option (Int32 × Mm)) (k36 : Int32 → Int32 → Mm → Option (Int32 × Mm)) (v2 : Int32) (v3 : Int32) (s0 : Int32) (st : Mm) : Option (Int32 × Mm) :=
  (f_Fold_placeOf 47 48 49 v3 v2 st).bind (fun q1 => if q1.1 < 0 then (lt_ (v3 + (1 : Int32)) (fun a3 => k36 v2 a3 q1.2)) else ((f_Fit_learn q1.1 s0 q1.2).bind (fun q4 => if q4.1 = 0 then (b_Fit_match_91 v2 v3 q4.2) else (lt_ (v3 + (1 : Int32)) (fun a6 => k36 v2 a6 q4.2)))))
def b_Fit_match_108 (k23 : Int32 → Mm → Option (Int32 × Mm)) (v2 : Int32) (st : Mm) : Option (Int32 × Mm) :=
  lt_ (v2 + (1 : Int32)) (fun a1 => k23 a1 st)
def b_Fit_match_36 (k23 : Int32 → Mm → Option (Int32 × Mm)) (k36 : Int32 → Int32 → Mm → Option (Int32 × Mm)) (v2 : Int32) (v3 : Int32) (st : Mm) : Option (Int32 × Mm) :=
  if (st.1 47 0) ≤ v3 then (b_Fit_match_108 k23 v2 st) else (if inb v2 16 then if (((st.1 4 v2.toNatClampNeg) >>> (v3 &&& 31)) &&& (1 : Int32)) = 0 then (b_Fit_match_62 k23 k36 v2 v3 (1 : Int32) st) else (b_Fit_match_62 k23 k36 v2 v3 (0 : Int32) st) else none)
def f_Fit_match_36 (k23 : Int32 → Mm → Option (Int32 × Mm)) : Nat → Int32 → Int32 → Mm → Option (Int32 × Mm)
  | 0 => fun _ _ _ => none
  | n + 1 => b_Fit_match_36 k23 (f_Fit_match_36 k23 n)
def b_Fit_match_23 (k23 : Int32 → Mm → Option (Int32 × Mm)) (v2 : Int32) (st : Mm) : Option (Int32 × Mm) :=
  if (st.1 47 0) ≤ v2 then (some ((1 : Int32), st)) else (f_Fit_match_36 k23 1000000 v2 (0 : Int32) st)
def f_Fit_match_23 : Nat → Int32 → Mm → Option (Int32 × Mm)
  | 0 => fun _ _ => none
  | n + 1 => b_Fit_match_23 (f_Fit_match_23 n)
def f_Fit_match (st : Mm) : Option (Int32 × Mm) :=
  (f_Arr_fill 51 16 (0 : Int32) st).bind (fun q1 => (f_Arr_fill 50 16 (0 : Int32) q1.2).bind (fun q2 => f_Fit_match_23 1000000 (0 : Int32) (sI q2.2 46 2 (0 : Int32))))
theorem t_Fit_match_91 {G : Cx} (C : CX G prog_4_method_7_code "PaperStars$Fit") (CR0 : CR G (Option.some FieldType.boolean)) (E : LCin (gly G)) (hnL : gnL G = 6) (hgd : 2 ≤ gd G) {q : Int32 × Mm} (hgr : gr G = some (.int q.1)) (hgs : gsf G = q.2) (v2 : Int32) (v3 : Int32) (st : Mm) (hf : b_Fit_match_91 v2 v3 st = some q) : AW G st 91 [(0, .ref (gad G 46)), (2, .int v2), (3, .int v3)] [] := by
  unfold b_Fit_match_91 at hf
  refine aw_aload_n C 0 0 (j := 0) rfl rfl (by decide +kernel) rfl ?_
  refine aw_iload_n C 3 2 (j := 3) rfl rfl (by decide +kernel) rfl ?_
  refine aw_iload_n C 2 1 (j := 2) rfl rfl (by decide +kernel) rfl ?_
  obtain ⟨q1, hq1, hf⟩ := ibd hf
  refine aw_callSN C (rest := [.ref (gad G 46)]) (c_x_cellAt v3 v2 _ q1 hq1) nw_20 yf_22 tb_391 rfl _ rfl (Nat.le_trans (by decide) hgd) (Nat.le_of_ble_eq_true rfl) (by decide +kernel) rfl ?_
  show AW _ _ _ _ [.int q1.1, .ref (gad G 46)]
  refine aw_put C (k := 3) fc_2 (lc_46 E) rfl (by decide) rfl rfl tb_311 (by decide +kernel) rfl ?_
  refine aw_iconst C (i0 := 0) (v := 0) (by decide) (by decide +kernel) rfl ?_
  exact aw_zretq C CR0 hgr hgs (by decide) hf (by decide +kernel)
theorem t_Fit_match_62 {G : Cx} (C : CX G prog_4_method_7_code "PaperStars$Fit") (CR0 : CR G (Option.some FieldType.boolean)) (E : LCin (gly G)) (hnL : gnL G = 6) (hgd : 2 ≤ gd G) {q : Int32 × Mm} (hgr : gr G = some (.int q.1)) (hgs : gsf G = q.2) (k23 : Int32 → Mm → Option (Int32 × Mm)) (k36 : Int32 → Int32 → Mm → Option (Int32 × Mm)) (hk23 : ∀ (v2 : Int32) (st : Mm), k23 v2 st = some q → AW G st 23 [(0, .ref (gad G 46)), (1, .ref (gad G 4)), (2, .int v2)] []) (hk36 : ∀ (v2 : Int32) (v3 : Int32) (st : Mm), k36 v2 v3 st = some q → AW G st 36 [(0, .ref (gad G 46)), (1, .ref (gad G 4)), (2, .int v2), (3, .int v3)] []) (v2 : Int32) (v3 : Int32) (s0 : Int32) (st : Mm) (hf : b_Fit_match_62 k23 k36 v2 v3 s0 st = some q) : AW G st 62 [(0, .ref (gad G 46)), (1, .ref (gad G 4)), (2, .int v2), (3, .int v3)] [.int s0] := by
  unfold b_Fit_match_62 at hf
  refine aw_istore C [(4, .int s0), (0, .ref (gad G 46)), (1, .ref (gad G 4)), (2, .int v2), (3, .int v3)] (by rw [hnL]; decide) rfl (by decide +kernel) rfl ?_
  refine aw_aload_n C 0 1 (j := 0) rfl rfl (by decide +kernel) rfl ?_
  refine aw_getr C (k := 0) fc_2 (lc_46 E) rfl (by decide) tb_304 (by decide +kernel) rfl ?_
  refine aw_iload_n C 3 4 (j := 3) rfl rfl (by decide +kernel) rfl ?_
  refine aw_iload_n C 2 3 (j := 2) rfl rfl (by decide +kernel) rfl ?_
  obtain ⟨q1, hq1, hf⟩ := ibd hf
  refine aw_callV C (rest := []) (c_Fold_placeOf 47 48 49 ⟨(lc_47 E), (lc_48 E), (lc_49 E)⟩ v3 v2 _ q1 hq1) tb_767 yf_20 yi_20 (lc_47 E) [.int v3, .int v2] rfl rfl _ rfl (Nat.le_trans (by decide) hgd) (Nat.le_of_ble_eq_true rfl) (by decide +kernel) rfl ?_
  show AW _ _ _ _ [.int q1.1]
  refine aw_istore C [(5, .int q1.1), (4, .int s0), (0, .ref (gad G 46)), (1, .ref (gad G 4)), (2, .int v2), (3, .int v3)] (by rw [hnL]; decide) rfl (by decide +kernel) rfl ?_
  refine aw_iload C 5 0 rfl (by decide +kernel) rfl ?_
  refine aw_if_lt C (tgt := 102) (off := 25) (by decide +kernel) (by decide) rfl (fun c2 => ?_) (fun c2 => ?_)
  · have hf := ift c2 hf
    obtain ⟨a3, ha3⟩ : ∃ z, z = (v3 + (1 : Int32)) := ⟨_, rfl⟩
    have hf := ilt ha3 hf
    refine aw_iinc C [(3, .int a3), (5, .int q1.1), (4, .int s0), (0, .ref (gad G 46)), (1, .ref (gad G 4)), (2, .int v2)] 5 (n := 1) rfl (by rw [ha3]; rfl) (by rw [hnL]; decide) rfl (by decide +kernel) rfl ?_
    refine aw_goto C (tgt := 36) (off := -69) (by decide +kernel) (by decide) ?_
    refine aw_sub [(0, .ref (gad G 46)), (1, .ref (gad G 4)), (2, .int v2), (3, .int a3)] [3, 4, 5, 0] rfl ?_
    exact hk36 v2 a3 _ hf
  · have hf := iff_ c2 hf
    refine aw_aload_n C 0 2 (j := 0) rfl rfl (by decide +kernel) rfl ?_
    refine aw_iload C 5 0 rfl (by decide +kernel) rfl ?_
    refine aw_iload C 4 1 rfl (by decide +kernel) rfl ?_
    obtain ⟨q4, hq4, hf⟩ := ibd hf
    refine aw_callV C (rest := []) (c_Fit_learn E q1.1 s0 _ q4 hq4) tb_768 yf_100 yi_100 (lc_46 E) [.int q1.1, .int s0] rfl rfl _ rfl (Nat.le_trans (by decide) hgd) (Nat.le_of_ble_eq_true rfl) (by decide +kernel) rfl ?_
    show AW _ _ _ _ [.int q4.1]
    refine aw_if_ne C (tgt := 102) (off := 14) (by decide +kernel) (by decide) rfl (fun c5 => ?_) (fun c5 => ?_)
    · have hf := ift c5 hf
      refine aw_sub [(0, .ref (gad G 46)), (2, .int v2), (3, .int v3)] [2, 4, 5] rfl ?_
      exact t_Fit_match_91 C CR0 E hnL hgd hgr hgs v2 v3 _ hf
    · have hf := iff_ c5 hf
      obtain ⟨a6, ha6⟩ : ∃ z, z = (v3 + (1 : Int32)) := ⟨_, rfl⟩
      have hf := ilt ha6 hf
      refine aw_iinc C [(3, .int a6), (5, .int q1.1), (4, .int s0), (0, .ref (gad G 46)), (1, .ref (gad G 4)), (2, .int v2)] 5 (n := 1) rfl (by rw [ha6]; rfl) (by rw [hnL]; decide) rfl (by decide +kernel) rfl ?_
      refine aw_goto C (tgt := 36) (off := -69) (by decide +kernel) (by decide) ?_
      refine aw_sub [(0, .ref (gad G 46)), (1, .ref (gad G 4)), (2, .int v2), (3, .int a6)] [3, 4, 5, 0] rfl ?_
      exact hk36 v2 a6 _ hf
theorem t_Fit_match_108 {G : Cx} (C : CX G prog_4_method_7_code "PaperStars$Fit") (CR0 : CR G (Option.some FieldType.boolean)) (E : LCin (gly G)) (hnL : gnL G = 6) (hgd : 2 ≤ gd G) {q : Int32 × Mm} (hgr : gr G = some (.int q.1)) (hgs : gsf G = q.2) (k23 : Int32 → Mm → Option (Int32 × Mm)) (hk23 : ∀ (v2 : Int32) (st : Mm), k23 v2 st = some q → AW G st 23 [(0, .ref (gad G 46)), (1, .ref (gad G 4)), (2, .int v2)] []) (v2 : Int32) (st : Mm) (hf : b_Fit_match_108 k23 v2 st = some q) : AW G st 108 [(0, .ref (gad G 46)), (1, .ref (gad G 4)), (2, .int v2)] [] := by
  unfold b_Fit_match_108 at hf
  obtain ⟨a1, ha1⟩ : ∃ z, z = (v2 + (1 : Int32)) := ⟨_, rfl⟩
  have hf := ilt ha1 hf
  refine aw_iinc C [(2, .int a1), (0, .ref (gad G 46)), (1, .ref (gad G 4))] 2 (n := 1) rfl (by rw [ha1]; rfl) (by rw [hnL]; decide) rfl (by decide +kernel) rfl ?_
  refine aw_goto C (tgt := 23) (off := -88) (by decide +kernel) (by decide) ?_
  refine aw_sub [(0, .ref (gad G 46)), (1, .ref (gad G 4)), (2, .int a1)] [1, 2, 0] rfl ?_
  exact hk23 a1 _ hf
theorem t_Fit_match_36 {G : Cx} (C : CX G prog_4_method_7_code "PaperStars$Fit") (CR0 : CR G (Option.some FieldType.boolean)) (E : LCin (gly G)) (hnL : gnL G = 6) (hgd : 2 ≤ gd G) {q : Int32 × Mm} (hgr : gr G = some (.int q.1)) (hgs : gsf G = q.2) (k23 : Int32 → Mm → Option (Int32 × Mm)) (k36 : Int32 → Int32 → Mm → Option (Int32 × Mm)) (hk23 : ∀ (v2 : Int32) (st : Mm), k23 v2 st = some q → AW G st 23 [(0, .ref (gad G 46)), (1, .ref (gad G 4)), (2, .int v2)] []) (hk36 : ∀ (v2 : Int32) (v3 : Int32) (st : Mm), k36 v2 v3 st = some q → AW G st 36 [(0, .ref (gad G 46)), (1, .ref (gad G 4)), (2, .int v2), (3, .int v3)] []) (v2 : Int32) (v3 : Int32) (st : Mm) (hf : b_Fit_match_36 k23 k36 v2 v3 st = some q) : AW G st 36 [(0, .ref (gad G 46)), (1, .ref (gad G 4)), (2, .int v2), (3, .int v3)] [] := by
  unfold b_Fit_match_36 at hf
  refine aw_iload_n C 3 3 (j := 3) rfl rfl (by decide +kernel) rfl ?_
  refine aw_aload_n C 0 0 (j := 0) rfl rfl (by decide +kernel) rfl ?_
  refine aw_getr C (k := 0) fc_2 (lc_46 E) rfl (by decide) tb_304 (by decide +kernel) rfl ?_
  refine aw_get C (k := 0) fc_3 (lc_47 E) rfl (by decide) tb_103 (by decide +kernel) rfl ?_
  refine aw_icmp_ge C (tgt := 108) (off := 64) (by decide +kernel) (by decide) rfl (fun c1 => ?_) (fun c1 => ?_)
  · have hf := ift c1 hf
    refine aw_sub [(0, .ref (gad G 46)), (1, .ref (gad G 4)), (2, .int v2)] [0, 1, 2] rfl ?_
    exact t_Fit_match_108 C CR0 E hnL hgd hgr hgs k23 hk23 v2 _ hf
  · have hf := iff_ c1 hf
    refine aw_aload_n C 1 1 (j := 1) rfl rfl (by decide +kernel) rfl ?_
    refine aw_iload_n C 2 2 (j := 2) rfl rfl (by decide +kernel) rfl ?_
    obtain ⟨g2, hf⟩ := igd hf
    refine aw_iald C (lc_4 E) g2 (by decide +kernel) rfl ?_
    refine aw_iload_n C 3 3 (j := 3) rfl rfl (by decide +kernel) rfl ?_
    refine aw_ishr C (by decide +kernel) rfl ?_
    refine aw_iconst C (i0 := 1) (v := 1) (by decide) (by decide +kernel) rfl ?_
    refine aw_iand C (by decide +kernel) rfl ?_
    refine aw_if_ne C (tgt := 61) (off := 7) (by decide +kernel) (by decide) rfl (fun c3 => ?_) (fun c3 => ?_)
    · have hf := ift c3 hf
      refine aw_iconst C (i0 := 1) (v := 1) (by decide) (by decide +kernel) rfl ?_
      refine aw_goto C (tgt := 62) (off := 4) (by decide +kernel) (by decide) ?_
      exact t_Fit_match_62 C CR0 E hnL hgd hgr hgs k23 k36 hk23 hk36 v2 v3 (1 : Int32) _ hf
    · have hf := iff_ c3 hf
      refine aw_iconst C (i0 := 0) (v := 0) (by decide) (by decide +kernel) rfl ?_
      exact t_Fit_match_62 C CR0 E hnL hgd hgr hgs k23 k36 hk23 hk36 v2 v3 (0 : Int32) _ hf
theorem u_Fit_match_36 {G : Cx} (C : CX G prog_4_method_7_code "PaperStars$Fit") (CR0 : CR G (Option.some FieldType.boolean)) (E : LCin (gly G)) (hnL : gnL G = 6) (hgd : 2 ≤ gd G) {q : Int32 × Mm} (hgr : gr G = some (.int q.1)) (hgs : gsf G = q.2) (k23 : Int32 → Mm → Option (Int32 × Mm)) (hk23 : ∀ (v2 : Int32) (st : Mm), k23 v2 st = some q → AW G st 23 [(0, .ref (gad G 46)), (1, .ref (gad G 4)), (2, .int v2)] []) : ∀ (n : Nat) (v2 : Int32) (v3 : Int32) (st : Mm), f_Fit_match_36 k23 n v2 v3 st = some q → AW G st 36 [(0, .ref (gad G 46)), (1, .ref (gad G 4)), (2, .int v2), (3, .int v3)] [] := by
  intro n
  induction n with
  | zero => intro v2 v3 st hf; cases hf
  | succ n ih => intro v2 v3 st hf; exact t_Fit_match_36 C CR0 E hnL hgd hgr hgs k23 (f_Fit_match_36 k23 n) hk23 ih v2 v3 st hf
theorem t_Fit_match_23 {G : Cx} (C : CX G prog_4_method_7_code "PaperStars$Fit") (CR0 : CR G (Option.some FieldType.boolean)) (E : LCin (gly G)) (hnL : gnL G = 6) (hgd : 2 ≤ gd G) {q : Int32 × Mm} (hgr : gr G = some (.int q.1)) (hgs : gsf G = q.2) (k23 : Int32 → Mm → Option (Int32 × Mm)) (hk23 : ∀ (v2 : Int32) (st : Mm), k23 v2 st = some q → AW G st 23 [(0, .ref (gad G 46)), (1, .ref (gad G 4)), (2, .int v2)] []) (v2 : Int32) (st : Mm) (hf : b_Fit_match_23 k23 v2 st = some q) : AW G st 23 [(0, .ref (gad G 46)), (1, .ref (gad G 4)), (2, .int v2)] [] := by
  unfold b_Fit_match_23 at hf
  refine aw_iload_n C 2 2 (j := 2) rfl rfl (by decide +kernel) rfl ?_
  refine aw_aload_n C 0 0 (j := 0) rfl rfl (by decide +kernel) rfl ?_
  refine aw_getr C (k := 0) fc_2 (lc_46 E) rfl (by decide) tb_304 (by decide +kernel) rfl ?_
  refine aw_get C (k := 0) fc_3 (lc_47 E) rfl (by decide) tb_103 (by decide +kernel) rfl ?_
  refine aw_icmp_ge C (tgt := 114) (off := 83) (by decide +kernel) (by decide) rfl (fun c1 => ?_) (fun c1 => ?_)
  · have hf := ift c1 hf
    refine aw_iconst C (i0 := 1) (v := 1) (by decide) (by decide +kernel) rfl ?_
    exact aw_zretq C CR0 hgr hgs (by decide) hf (by decide +kernel)
  · have hf := iff_ c1 hf
    refine aw_iconst C (i0 := 0) (v := 0) (by decide) (by decide +kernel) rfl ?_
    refine aw_istore_n C [(3, .int (0 : Int32)), (0, .ref (gad G 46)), (1, .ref (gad G 4)), (2, .int v2)] (j := 3) rfl (by rw [hnL]; decide) rfl (by decide +kernel) rfl ?_
    refine aw_sub [(0, .ref (gad G 46)), (1, .ref (gad G 4)), (2, .int v2), (3, .int (0 : Int32))] [1, 2, 3, 0] rfl ?_
    exact u_Fit_match_36 C CR0 E hnL hgd hgr hgs k23 hk23 _ v2 (0 : Int32) _ hf
theorem u_Fit_match_23 {G : Cx} (C : CX G prog_4_method_7_code "PaperStars$Fit") (CR0 : CR G (Option.some FieldType.boolean)) (E : LCin (gly G)) (hnL : gnL G = 6) (hgd : 2 ≤ gd G) {q : Int32 × Mm} (hgr : gr G = some (.int q.1)) (hgs : gsf G = q.2) : ∀ (n : Nat) (v2 : Int32) (st : Mm), f_Fit_match_23 n v2 st = some q → AW G st 23 [(0, .ref (gad G 46)), (1, .ref (gad G 4)), (2, .int v2)] [] := by
  intro n
  induction n with
  | zero => intro v2 st hf; cases hf
  | succ n ih => intro v2 st hf; exact t_Fit_match_23 C CR0 E hnL hgd hgr hgs (f_Fit_match_23 n) ih v2 st hf
theorem t_Fit_match {G : Cx} (C : CX G prog_4_method_7_code "PaperStars$Fit") (CR0 : CR G (Option.some FieldType.boolean)) (E : LCin (gly G)) (hnL : gnL G = 6) (hgd : 2 ≤ gd G) {q : Int32 × Mm} (hgr : gr G = some (.int q.1)) (hgs : gsf G = q.2) (st : Mm) (hf : f_Fit_match st = some q) : AW G st 0 [(0, .ref (gad G 46)), (1, .ref (gad G 4))] [] := by
  unfold f_Fit_match at hf
  refine aw_aload_n C 0 0 (j := 0) rfl rfl (by decide +kernel) rfl ?_
  refine aw_getr C (k := 4) fc_2 (lc_46 E) rfl (by decide) tb_313 (by decide +kernel) rfl ?_
  refine aw_iconst C (i0 := 0) (v := 0) (by decide) (by decide +kernel) rfl ?_
  obtain ⟨q1, hq1, hf⟩ := ibd hf
  refine aw_callS C (rest := []) (c_Arr_fill 51 16 (lc_51 E) (0 : Int32) _ q1 hq1) tb_766 yf_33 tb_477 rfl _ rfl (Nat.le_trans (by decide) hgd) (Nat.le_of_ble_eq_true rfl) (by decide +kernel) rfl ?_
  show AW _ _ _ _ []
  refine aw_aload_n C 0 0 (j := 0) rfl rfl (by decide +kernel) rfl ?_
  refine aw_getr C (k := 1) fc_2 (lc_46 E) rfl (by decide) tb_307 (by decide +kernel) rfl ?_
  refine aw_iconst C (i0 := 0) (v := 0) (by decide) (by decide +kernel) rfl ?_
  obtain ⟨q2, hq2, hf⟩ := ibd hf
  refine aw_callS C (rest := []) (c_Arr_fill 50 16 (lc_50 E) (0 : Int32) _ q2 hq2) tb_766 yf_33 tb_477 rfl _ rfl (Nat.le_trans (by decide) hgd) (Nat.le_of_ble_eq_true rfl) (by decide +kernel) rfl ?_
  show AW _ _ _ _ []
  refine aw_aload_n C 0 0 (j := 0) rfl rfl (by decide +kernel) rfl ?_
  refine aw_iconst C (i0 := 0) (v := 0) (by decide) (by decide +kernel) rfl ?_
  refine aw_put C (k := 2) fc_2 (lc_46 E) rfl (by decide) rfl rfl tb_309 (by decide +kernel) rfl ?_
  refine aw_iconst C (i0 := 0) (v := 0) (by decide) (by decide +kernel) rfl ?_
  refine aw_istore_n C [(2, .int (0 : Int32)), (0, .ref (gad G 46)), (1, .ref (gad G 4))] (j := 2) rfl (by rw [hnL]; decide) rfl (by decide +kernel) rfl ?_
  refine aw_sub [(0, .ref (gad G 46)), (1, .ref (gad G 4)), (2, .int (0 : Int32))] [1, 2, 0] rfl ?_
  exact u_Fit_match_23 C CR0 E hnL hgd hgr hgs _ (0 : Int32) _ hf
theorem c_Fit_match {lay : Ly} (E : LCin lay) (st : Mm) (q : Int32 × Mm) (hf : f_Fit_match st = some q) : Con 2 Y99 prog_4_method_7_code 6 (Option.some FieldType.boolean) lay (fun ad => [.ref (ad 46), .ref (ad 4)]) st (some (.int q.1)) q.2 :=
  am_met yf_99.2.2.2.2.2 (fun ad => Nat.le_of_ble_eq_true rfl) (fun G C CR0 e1 e2 e3 e4 e5 => t_Fit_match C CR0 (by rw [e1]; exact E) e2 (Nat.le_of_eq e5.symm) e3 e4 st hf)
