def f_x_fits (v1 : Int32) (v2 : Int32) (v3 : Int32) (st : Mm) : Option (Int32 × Mm) :=
  (f_Fit_fold (st.1 1 0) v1 v2 v3 st).bind (fun q1 => if q1.1 = 0 then (some ((-1 : Int32), q1.2)) else ((f_Fit_match q1.2).bind (fun q3 => if q3.1 = 0 then (some (((-10 : Int32) - (q3.2.1 46 3)), q3.2)) else (some ((1 : Int32), q3.2)))))
theorem t_x_fits {G : Cx} (C : CX G prog_1_method_16_code "PaperStars") (CR0 : CR G (Option.some FieldType.int)) (E : LCin (gly G)) (hnL : gnL G = 4) (hgd : 3 ≤ gd G) {q : Int32 × Mm} (hgr : gr G = some (.int q.1)) (hgs : gsf G = q.2) (v1 : Int32) (v2 : Int32) (v3 : Int32) (st : Mm) (hf : f_x_fits v1 v2 v3 st = some q) : AW G st 0 [(0, .ref (gad G 0)), (1, .int v1), (2, .int v2), (3, .int v3)] [] := by
  unfold f_x_fits at hf
  refine aw_aload_n C 0 0 (j := 0) rfl rfl (by decide +kernel) rfl ?_
  refine aw_getr C (k := 9) fc_11 (lc_0 E) rfl (by decide) tb_405 (by decide +kernel) rfl ?_
  refine aw_aload_n C 0 0 (j := 0) rfl rfl (by decide +kernel) rfl ?_
  refine aw_getr C (k := 0) fc_11 (lc_0 E) rfl (by decide) tb_396 (by decide +kernel) rfl ?_
  refine aw_get C (k := 0) fc_9 (lc_1 E) rfl (by decide) tb_37 (by decide +kernel) rfl ?_
  refine aw_iload_n C 1 1 (j := 1) rfl rfl (by decide +kernel) rfl ?_
  refine aw_iload_n C 2 2 (j := 2) rfl rfl (by decide +kernel) rfl ?_
  refine aw_iload_n C 3 3 (j := 3) rfl rfl (by decide +kernel) rfl ?_
  obtain ⟨q1, hq1, hf⟩ := ibd hf
  refine aw_callV C (rest := []) (c_Fit_fold E (st.1 1 0) v1 v2 v3 _ q1 hq1) tb_756 yf_98 yi_98 (lc_46 E) [.int (st.1 1 0), .int v1, .int v2, .int v3] rfl rfl _ rfl (Nat.le_trans (by decide) hgd) (Nat.le_of_ble_eq_true rfl) (by decide +kernel) rfl ?_
  show AW _ _ _ _ [.int q1.1]
  refine aw_if_ne C (tgt := 22) (off := 5) (by decide +kernel) (by decide) rfl (fun c2 => ?_) (fun c2 => ?_)
  · have hf := ift c2 hf
    refine aw_iconst C (i0 := -1) (v := -1) (by decide) (by decide +kernel) rfl ?_
    exact aw_iretq C CR0 hgr hgs hf (by decide +kernel)
  · have hf := iff_ c2 hf
    refine aw_aload_n C 0 0 (j := 0) rfl rfl (by decide +kernel) rfl ?_
    refine aw_getr C (k := 9) fc_11 (lc_0 E) rfl (by decide) tb_405 (by decide +kernel) rfl ?_
    refine aw_aload_n C 0 0 (j := 0) rfl rfl (by decide +kernel) rfl ?_
    refine aw_getr C (k := 0) fc_11 (lc_0 E) rfl (by decide) tb_396 (by decide +kernel) rfl ?_
    refine aw_getr C (k := 6) fc_9 (lc_1 E) rfl (by decide) tb_53 (by decide +kernel) rfl ?_
    obtain ⟨q3, hq3, hf⟩ := ibd hf
    refine aw_callV C (rest := []) (c_Fit_match E _ q3 hq3) tb_762 yf_99 yi_99 (lc_46 E) [.ref (gad G 4)] rfl rfl _ rfl (Nat.le_trans (by decide) hgd) (Nat.le_of_ble_eq_true rfl) (by decide +kernel) rfl ?_
    show AW _ _ _ _ [.int q3.1]
    refine aw_if_eq C (tgt := 43) (off := 7) (by decide +kernel) (by decide) rfl (fun c4 => ?_) (fun c4 => ?_)
    · have hf := ift c4 hf
      refine aw_bipush C (i0 := -10) (v := -10) (by decide) (by decide +kernel) rfl ?_
      refine aw_aload_n C 0 0 (j := 0) rfl rfl (by decide +kernel) rfl ?_
      refine aw_getr C (k := 9) fc_11 (lc_0 E) rfl (by decide) tb_405 (by decide +kernel) rfl ?_
      refine aw_get C (k := 3) fc_2 (lc_46 E) rfl (by decide) tb_312 (by decide +kernel) rfl ?_
      refine aw_isub C (by decide +kernel) rfl ?_
      exact aw_iretq C CR0 hgr hgs hf (by decide +kernel)
    · have hf := iff_ c4 hf
      refine aw_iconst C (i0 := 1) (v := 1) (by decide) (by decide +kernel) rfl ?_
      refine aw_goto C (tgt := 53) (off := 13) (by decide +kernel) (by decide) ?_
      exact aw_iretq C CR0 hgr hgs hf (by decide +kernel)
theorem c_x_fits {lay : Ly} (E : LCin lay) (v1 : Int32) (v2 : Int32) (v3 : Int32) (st : Mm) (q : Int32 × Mm) (hf : f_x_fits v1 v2 v3 st = some q) : Con 3 Y97 prog_1_method_16_code 4 (Option.some FieldType.int) lay (fun ad => [.ref (ad 0), .int v1, .int v2, .int v3]) st (some (.int q.1)) q.2 :=
  am_met yf_97.2.2.2.2.2 (fun ad => Nat.le_of_ble_eq_true rfl) (fun G C CR0 e1 e2 e3 e4 e5 => t_x_fits C CR0 (by rw [e1]; exact E) e2 (Nat.le_of_eq e5.symm) e3 e4 v1 v2 v3 st hf)
def f_Fit_aOf (v0 : Int32) (st : Mm) : Option (Int32 × Mm) :=
  some ((v0 / (10 : Int32)), st)
theorem t_Fit_aOf {G : Cx} (C : CX G prog_4_method_2_code "PaperStars$Fit") (CR0 : CR G (Option.some FieldType.int)) (E : LCin (gly G)) (hnL : gnL G = 1) (hgd : 0 ≤ gd G) {q : Int32 × Mm} (hgr : gr G = some (.int q.1)) (hgs : gsf G = q.2) (v0 : Int32) (st : Mm) (hf : f_Fit_aOf v0 st = some q) : AW G st 0 [(0, .int v0)] [] := by
  unfold f_Fit_aOf at hf
  refine aw_iload_n C 0 0 (j := 0) rfl rfl (by decide +kernel) rfl ?_
  refine aw_bipush C (i0 := 10) (v := 10) (by decide) (by decide +kernel) rfl ?_
  refine aw_idiv C (by decide) (by decide +kernel) rfl ?_
  exact aw_iretq C CR0 hgr hgs hf (by decide +kernel)
theorem c_Fit_aOf {lay : Ly} (E : LCin lay) (v0 : Int32) (st : Mm) (q : Int32 × Mm) (hf : f_Fit_aOf v0 st = some q) : Con 0 Y103 prog_4_method_2_code 1 (Option.some FieldType.int) lay (fun ad => [.int v0]) st (some (.int q.1)) q.2 :=
  am_met yf_103.2.2.2.2.2 (fun ad => Nat.le_of_ble_eq_true rfl) (fun G C CR0 e1 e2 e3 e4 e5 => t_Fit_aOf C CR0 (by rw [e1]; exact E) e2 (Nat.le_of_eq e5.symm) e3 e4 v0 st hf)
def f_Fit_bOf (v0 : Int32) (st : Mm) : Option (Int32 × Mm) :=
  some (((v0 / (2 : Int32)) - (v0 / (2 : Int32)) / (5 : Int32) * (5 : Int32)), st)
theorem t_Fit_bOf {G : Cx} (C : CX G prog_4_method_3_code "PaperStars$Fit") (CR0 : CR G (Option.some FieldType.int)) (E : LCin (gly G)) (hnL : gnL G = 1) (hgd : 0 ≤ gd G) {q : Int32 × Mm} (hgr : gr G = some (.int q.1)) (hgs : gsf G = q.2) (v0 : Int32) (st : Mm) (hf : f_Fit_bOf v0 st = some q) : AW G st 0 [(0, .int v0)] [] := by
  unfold f_Fit_bOf at hf
  refine aw_iload_n C 0 0 (j := 0) rfl rfl (by decide +kernel) rfl ?_
  refine aw_iconst C (i0 := 2) (v := 2) (by decide) (by decide +kernel) rfl ?_
  refine aw_idiv C (by decide) (by decide +kernel) rfl ?_
  refine aw_iconst C (i0 := 5) (v := 5) (by decide) (by decide +kernel) rfl ?_
  refine aw_irem C (by decide) (by decide +kernel) rfl ?_
  exact aw_iretq C CR0 hgr hgs hf (by decide +kernel)
theorem c_Fit_bOf {lay : Ly} (E : LCin lay) (v0 : Int32) (st : Mm) (q : Int32 × Mm) (hf : f_Fit_bOf v0 st = some q) : Con 0 Y104 prog_4_method_3_code 1 (Option.some FieldType.int) lay (fun ad => [.int v0]) st (some (.int q.1)) q.2 :=
  am_met yf_104.2.2.2.2.2 (fun ad => Nat.le_of_ble_eq_true rfl) (fun G C CR0 e1 e2 e3 e4 e5 => t_Fit_bOf C CR0 (by rw [e1]; exact E) e2 (Nat.le_of_eq e5.symm) e3 e4 v0 st hf)
def f_Fit_dOf (v0 : Int32) (st : Mm) : Option (Int32 × Mm) :=
  some ((v0 &&& (1 : Int32)), st)
theorem t_Fit_dOf {G : Cx} (C : CX G prog_4_method_4_code "PaperStars$Fit") (CR0 : CR G (Option.some FieldType.int)) (E : LCin (gly G)) (hnL : gnL G = 1) (hgd : 0 ≤ gd G) {q : Int32 × Mm} (hgr : gr G = some (.int q.1)) (hgs : gsf G = q.2) (v0 : Int32) (st : Mm) (hf : f_Fit_dOf v0 st = some q) : AW G st 0 [(0, .int v0)] [] := by
  unfold f_Fit_dOf at hf
  refine aw_iload_n C 0 0 (j := 0) rfl rfl (by decide +kernel) rfl ?_
  refine aw_iconst C (i0 := 1) (v := 1) (by decide) (by decide +kernel) rfl ?_
  refine aw_iand C (by decide +kernel) rfl ?_
  exact aw_iretq C CR0 hgr hgs hf (by decide +kernel)
theorem c_Fit_dOf {lay : Ly} (E : LCin lay) (v0 : Int32) (st : Mm) (q : Int32 × Mm) (hf : f_Fit_dOf v0 st = some q) : Con 0 Y105 prog_4_method_4_code 1 (Option.some FieldType.int) lay (fun ad => [.int v0]) st (some (.int q.1)) q.2 :=
  am_met yf_105.2.2.2.2.2 (fun ad => Nat.le_of_ble_eq_true rfl) (fun G C CR0 e1 e2 e3 e4 e5 => t_Fit_dOf C CR0 (by rw [e1]; exact E) e2 (Nat.le_of_eq e5.symm) e3 e4 v0 st hf)
def f_Fit_foldByCode (v1 : Int32) (v2 : Int32) (st : Mm) : Option (Int32 × Mm) :=
  (f_Fit_aOf v2 st).bind (fun q1 => (f_Fit_bOf v2 q1.2).bind (fun q2 => (f_Fit_dOf v2 q2.2).bind (fun q3 => (f_Fit_fold v1 q1.1 q2.1 q3.1 q3.2).bind (fun q4 => if q4.1 = 0 ∨ q4.1 = 1 then some (q4.1, q4.2) else none))))
theorem t_Fit_foldByCode {G : Cx} (C : CX G prog_4_method_5_code "PaperStars$Fit") (CR0 : CR G (Option.some FieldType.boolean)) (E : LCin (gly G)) (hnL : gnL G = 3) (hgd : 3 ≤ gd G) {q : Int32 × Mm} (hgr : gr G = some (.int q.1)) (hgs : gsf G = q.2) (v1 : Int32) (v2 : Int32) (st : Mm) (hf : f_Fit_foldByCode v1 v2 st = some q) : AW G st 0 [(0, .ref (gad G 46)), (1, .int v1), (2, .int v2)] [] := by
  unfold f_Fit_foldByCode at hf
  refine aw_aload_n C 0 0 (j := 0) rfl rfl (by decide +kernel) rfl ?_
  refine aw_iload_n C 1 1 (j := 1) rfl rfl (by decide +kernel) rfl ?_
  refine aw_iload_n C 2 2 (j := 2) rfl rfl (by decide +kernel) rfl ?_
  obtain ⟨q1, hq1, hf⟩ := ibd hf
  refine aw_callS C (rest := [.int v1, .ref (gad G 46)]) (c_Fit_aOf E v2 _ q1 hq1) tb_782 yf_103 tb_783 rfl _ rfl (Nat.le_trans (by decide) hgd) (Nat.le_of_ble_eq_true rfl) (by decide +kernel) rfl ?_
  show AW _ _ _ _ [.int q1.1, .int v1, .ref (gad G 46)]
  refine aw_iload_n C 2 2 (j := 2) rfl rfl (by decide +kernel) rfl ?_
  obtain ⟨q2, hq2, hf⟩ := ibd hf
  refine aw_callS C (rest := [.int q1.1, .int v1, .ref (gad G 46)]) (c_Fit_bOf E v2 _ q2 hq2) tb_785 yf_104 tb_786 rfl _ rfl (Nat.le_trans (by decide) hgd) (Nat.le_of_ble_eq_true rfl) (by decide +kernel) rfl ?_
  show AW _ _ _ _ [.int q2.1, .int q1.1, .int v1, .ref (gad G 46)]
  refine aw_iload_n C 2 2 (j := 2) rfl rfl (by decide +kernel) rfl ?_
  obtain ⟨q3, hq3, hf⟩ := ibd hf
  refine aw_callS C (rest := [.int q2.1, .int q1.1, .int v1, .ref (gad G 46)]) (c_Fit_dOf E v2 _ q3 hq3) tb_788 yf_105 tb_789 rfl _ rfl (Nat.le_trans (by decide) hgd) (Nat.le_of_ble_eq_true rfl) (by decide +kernel) rfl ?_
  show AW _ _ _ _ [.int q3.1, .int q2.1, .int q1.1, .int v1, .ref (gad G 46)]
  obtain ⟨q4, hq4, hf⟩ := ibd hf
  refine aw_callV C (rest := []) (c_Fit_fold E v1 q1.1 q2.1 q3.1 _ q4 hq4) tb_791 yf_98 yi_98 (lc_46 E) [.int v1, .int q1.1, .int q2.1, .int q3.1] rfl rfl _ rfl (Nat.le_trans (by decide) hgd) (Nat.le_of_ble_eq_true rfl) (by decide +kernel) rfl ?_
  show AW _ _ _ _ [.int q4.1]
  obtain ⟨g5, hf⟩ := igd hf
  exact aw_zretq C CR0 hgr hgs g5 hf (by decide +kernel)
theorem c_Fit_foldByCode {lay : Ly} (E : LCin lay) (v1 : Int32) (v2 : Int32) (st : Mm) (q : Int32 × Mm) (hf : f_Fit_foldByCode v1 v2 st = some q) : Con 3 Y102 prog_4_method_5_code 3 (Option.some FieldType.boolean) lay (fun ad => [.ref (ad 46), .int v1, .int v2]) st (some (.int q.1)) q.2 :=
  am_met yf_102.2.2.2.2.2 (fun ad => Nat.le_of_ble_eq_true rfl) (fun G C CR0 e1 e2 e3 e4 e5 => t_Fit_foldByCode C CR0 (by rw [e1]; exact E) e2 (Nat.le_of_eq e5.symm) e3 e4 v1 v2 st hf)
def b_x_bestFold_109 (v1 : Int32) (v2 : Int32) (v3 : Int32) (v4 : Int32) (st : Mm) : Option (Int32 × Mm) :=
  if v1 = 0 then ((f_Fit_aOf v2 st).bind (fun q2 => some (q2.1, q2.2))) else (if v1 = 1 then ((f_Fit_bOf v2 st).bind (fun q4 => some (q4.1, q4.2))) else (if v1 = 2 then ((f_Fit_dOf v2 st).bind (fun q6 => some (q6.1, q6.2))) else (if v1 = 3 then (some (v3, st)) else (some (v4, st)))))
def b_x_bestFold_23 (k23 : Int32 → Int32 → Int32 → Int32 → Int32 → Mm → Option (Int32 × Mm)) (v1 : Int32) (v2 : Int32) (v3 : Int32) (v4 : Int32) (v5 : Int32) (st : Mm) : Option (Int32 × Mm) :=
  if (50 : Int32) ≤ v5 then (b_x_bestFold_109 v1 v2 v3 v4 st) else ((f_Fit_foldByCode (st.1 1 0) v5 st).bind (fun q2 => if q2.1 = 0 then (lt_ (v5 + (1 : Int32)) (fun a4 => k23 v1 v2 v3 v4 a4 q2.2)) else ((f_Fold_places 47 48 49 q2.2).bind (fun q5 => if v3 ≤ q5.1 then (lt_ (v5 + (1 : Int32)) (fun a7 => k23 v1 v2 v3 v4 a7 q5.2)) else ((f_Fit_match q5.2).bind (fun q8 => if q8.1 = 0 then (lt_ (v5 + (1 : Int32)) (fun a10 => k23 v1 v2 v3 v4 a10 q8.2)) else ((f_Fold_places 47 48 49 q8.2).bind (fun q11 => lt_ (q11.2.1 46 2) (fun a12 => lt_ (v5 + (1 : Int32)) (fun a13 => k23 v1 v5 q11.1 a12 a13 q11.2))))))))))
def f_x_bestFold_23 : Nat → Int32 → Int32 → Int32 → Int32 → Int32 → Mm → Option (Int32 × Mm)
  | 0 => fun _ _ _ _ _ _ => none
  | n + 1 => b_x_bestFold_23 (f_x_bestFold_23 n)
def f_x_bestFold (v1 : Int32) (st : Mm) : Option (Int32 × Mm) :=
  if v1 < 0 then (some ((-1 : Int32), st)) else (if v1 ≤ (4 : Int32) then (f_x_bestFold_23 1000000 v1 (0 : Int32) (257 : Int32) (0 : Int32) (0 : Int32) st) else (some ((-1 : Int32), st)))
theorem t_x_bestFold_109 {G : Cx} (C : CX G prog_1_method_17_code "PaperStars") (CR0 : CR G (Option.some FieldType.int)) (E : LCin (gly G)) (hnL : gnL G = 6) (hgd : 4 ≤ gd G) {q : Int32 × Mm} (hgr : gr G = some (.int q.1)) (hgs : gsf G = q.2) (v1 : Int32) (v2 : Int32) (v3 : Int32) (v4 : Int32) (st : Mm) (hf : b_x_bestFold_109 v1 v2 v3 v4 st = some q) : AW G st 109 [(1, .int v1), (2, .int v2), (3, .int v3), (4, .int v4)] [] := by
  unfold b_x_bestFold_109 at hf
  refine aw_iload_n C 1 0 (j := 1) rfl rfl (by decide +kernel) rfl ?_
  by_cases w1 : v1 = 0
  · have hf := ift w1 hf
    refine aw_tin C (tgt := 140) (off := 30) (dflt := 47) (lo := 0) (hi := 3) (offs := #[30, 35, 40, 45]) (len := 30) (by decide +kernel) (by rw [w1]; decide) (by rw [w1]; decide) (by rw [w1]; decide) (by decide) ?_
    refine aw_iload_n C 2 1 (j := 2) rfl rfl (by decide +kernel) rfl ?_
    obtain ⟨q2, hq2, hf⟩ := ibd hf
    refine aw_callS C (rest := []) (c_Fit_aOf E v2 _ q2 hq2) tb_792 yf_103 tb_783 rfl _ rfl (Nat.le_trans (by decide) hgd) (Nat.le_of_ble_eq_true rfl) (by decide +kernel) rfl ?_
    show AW _ _ _ _ [.int q2.1]
    exact aw_iretq C CR0 hgr hgs hf (by decide +kernel)
  · have hf := iff_ w1 hf
    by_cases w3 : v1 = 1
    · have hf := ift w3 hf
      refine aw_tin C (tgt := 145) (off := 35) (dflt := 47) (lo := 0) (hi := 3) (offs := #[30, 35, 40, 45]) (len := 30) (by decide +kernel) (by rw [w3]; decide) (by rw [w3]; decide) (by rw [w3]; decide) (by decide) ?_
      refine aw_iload_n C 2 1 (j := 2) rfl rfl (by decide +kernel) rfl ?_
      obtain ⟨q4, hq4, hf⟩ := ibd hf
      refine aw_callS C (rest := []) (c_Fit_bOf E v2 _ q4 hq4) tb_793 yf_104 tb_786 rfl _ rfl (Nat.le_trans (by decide) hgd) (Nat.le_of_ble_eq_true rfl) (by decide +kernel) rfl ?_
      show AW _ _ _ _ [.int q4.1]
      exact aw_iretq C CR0 hgr hgs hf (by decide +kernel)
    · have hf := iff_ w3 hf
      by_cases w5 : v1 = 2
      · have hf := ift w5 hf
        refine aw_tin C (tgt := 150) (off := 40) (dflt := 47) (lo := 0) (hi := 3) (offs := #[30, 35, 40, 45]) (len := 30) (by decide +kernel) (by rw [w5]; decide) (by rw [w5]; decide) (by rw [w5]; decide) (by decide) ?_
        refine aw_iload_n C 2 1 (j := 2) rfl rfl (by decide +kernel) rfl ?_
        obtain ⟨q6, hq6, hf⟩ := ibd hf
        refine aw_callS C (rest := []) (c_Fit_dOf E v2 _ q6 hq6) tb_794 yf_105 tb_789 rfl _ rfl (Nat.le_trans (by decide) hgd) (Nat.le_of_ble_eq_true rfl) (by decide +kernel) rfl ?_
        show AW _ _ _ _ [.int q6.1]
        exact aw_iretq C CR0 hgr hgs hf (by decide +kernel)
      · have hf := iff_ w5 hf
        by_cases w7 : v1 = 3
        · have hf := ift w7 hf
          refine aw_tin C (tgt := 155) (off := 45) (dflt := 47) (lo := 0) (hi := 3) (offs := #[30, 35, 40, 45]) (len := 30) (by decide +kernel) (by rw [w7]; decide) (by rw [w7]; decide) (by rw [w7]; decide) (by decide) ?_
          refine aw_iload_n C 3 2 (j := 3) rfl rfl (by decide +kernel) rfl ?_
          exact aw_iretq C CR0 hgr hgs hf (by decide +kernel)
        · have hf := iff_ w7 hf
          have zw1 := am_ne w1 (k := 0) (by decide)
          have zw3 := am_ne w3 (k := 1) (by decide)
          have zw5 := am_ne w5 (k := 2) (by decide)
          have zw7 := am_ne w7 (k := 3) (by decide)
          refine aw_tout C (tgt := 157) (dflt := 47) (lo := 0) (hi := 3) (offs := #[30, 35, 40, 45]) (len := 30) (by decide +kernel) (by omega) (by decide) ?_
          refine aw_iload C 4 3 rfl (by decide +kernel) rfl ?_
          exact aw_iretq C CR0 hgr hgs hf (by decide +kernel)
theorem t_x_bestFold_23 {G : Cx} (C : CX G prog_1_method_17_code "PaperStars") (CR0 : CR G (Option.some FieldType.int)) (E : LCin (gly G)) (hnL : gnL G = 6) (hgd : 4 ≤ gd G) {q : Int32 × Mm} (hgr : gr G = some (.int q.1)) (hgs : gsf G = q.2) (k23 : Int32 → Int32 → Int32 → Int32 → Int32 → Mm → Option (Int32 × Mm)) (hk23 : ∀ (v1 : Int32) (v2 : Int32) (v3 : Int32) (v4 : Int32) (v5 : Int32) (st : Mm), k23 v1 v2 v3 v4 v5 st = some q → AW G st 23 [(0, .ref (gad G 0)), (1, .int v1), (2, .int v2), (3, .int v3), (4, .int v4), (5, .int v5)] []) (v1 : Int32) (v2 : Int32) (v3 : Int32) (v4 : Int32) (v5 : Int32) (st : Mm) (hf : b_x_bestFold_23 k23 v1 v2 v3 v4 v5 st = some q) : AW G st 23 [(0, .ref (gad G 0)), (1, .int v1), (2, .int v2), (3, .int v3), (4, .int v4), (5, .int v5)] [] := by
  unfold b_x_bestFold_23 at hf
  refine aw_iload C 5 5 rfl (by decide +kernel) rfl ?_
  refine aw_bipush C (i0 := 50) (v := 50) (by decide) (by decide +kernel) rfl ?_
  refine aw_icmp_ge C (tgt := 109) (off := 82) (by decide +kernel) (by decide) rfl (fun c1 => ?_) (fun c1 => ?_)
  · have hf := ift c1 hf
    refine aw_sub [(1, .int v1), (2, .int v2), (3, .int v3), (4, .int v4)] [1, 2, 3, 4] rfl ?_
    exact t_x_bestFold_109 C CR0 E hnL hgd hgr hgs v1 v2 v3 v4 _ hf
  · have hf := iff_ c1 hf
    refine aw_aload_n C 0 0 (j := 0) rfl rfl (by decide +kernel) rfl ?_
    refine aw_getr C (k := 9) fc_11 (lc_0 E) rfl (by decide) tb_405 (by decide +kernel) rfl ?_
    refine aw_aload_n C 0 0 (j := 0) rfl rfl (by decide +kernel) rfl ?_
    refine aw_getr C (k := 0) fc_11 (lc_0 E) rfl (by decide) tb_396 (by decide +kernel) rfl ?_
    refine aw_get C (k := 0) fc_9 (lc_1 E) rfl (by decide) tb_37 (by decide +kernel) rfl ?_
    refine aw_iload C 5 5 rfl (by decide +kernel) rfl ?_
    obtain ⟨q2, hq2, hf⟩ := ibd hf
    refine aw_callV C (rest := []) (c_Fit_foldByCode E (st.1 1 0) v5 _ q2 hq2) tb_778 yf_102 yi_102 (lc_46 E) [.int (st.1 1 0), .int v5] rfl rfl _ rfl (Nat.le_trans (by decide) hgd) (Nat.le_of_ble_eq_true rfl) (by decide +kernel) rfl ?_
    show AW _ _ _ _ [.int q2.1]
    refine aw_if_eq C (tgt := 103) (off := 57) (by decide +kernel) (by decide) rfl (fun c3 => ?_) (fun c3 => ?_)
    · have hf := ift c3 hf
      obtain ⟨a4, ha4⟩ : ∃ z, z = (v5 + (1 : Int32)) := ⟨_, rfl⟩
      have hf := ilt ha4 hf
      refine aw_iinc C [(5, .int a4), (0, .ref (gad G 0)), (1, .int v1), (2, .int v2), (3, .int v3), (4, .int v4)] 5 (n := 1) rfl (by rw [ha4]; rfl) (by rw [hnL]; decide) rfl (by decide +kernel) rfl ?_
      refine aw_goto C (tgt := 23) (off := -83) (by decide +kernel) (by decide) ?_
      refine aw_sub [(0, .ref (gad G 0)), (1, .int v1), (2, .int v2), (3, .int v3), (4, .int v4), (5, .int a4)] [1, 2, 3, 4, 5, 0] rfl ?_
      exact hk23 v1 v2 v3 v4 a4 _ hf
    · have hf := iff_ c3 hf
      refine aw_aload_n C 0 0 (j := 0) rfl rfl (by decide +kernel) rfl ?_
      refine aw_getr C (k := 9) fc_11 (lc_0 E) rfl (by decide) tb_405 (by decide +kernel) rfl ?_
      refine aw_getr C (k := 0) fc_2 (lc_46 E) rfl (by decide) tb_306 (by decide +kernel) rfl ?_
      obtain ⟨q5, hq5, hf⟩ := ibd hf
      refine aw_callV C (rest := []) (c_Fold_places 47 48 49 ⟨(lc_47 E), (lc_48 E), (lc_49 E)⟩ _ q5 hq5) tb_595 yf_62 yi_62 (lc_47 E) [] rfl rfl _ rfl (Nat.le_trans (by decide) hgd) (Nat.le_of_ble_eq_true rfl) (by decide +kernel) rfl ?_
      show AW _ _ _ _ [.int q5.1]
      refine aw_iload_n C 3 3 (j := 3) rfl rfl (by decide +kernel) rfl ?_
      refine aw_icmp_ge C (tgt := 103) (off := 43) (by decide +kernel) (by decide) rfl (fun c6 => ?_) (fun c6 => ?_)
      · have hf := ift c6 hf
        obtain ⟨a7, ha7⟩ : ∃ z, z = (v5 + (1 : Int32)) := ⟨_, rfl⟩
        have hf := ilt ha7 hf
        refine aw_iinc C [(5, .int a7), (0, .ref (gad G 0)), (1, .int v1), (2, .int v2), (3, .int v3), (4, .int v4)] 5 (n := 1) rfl (by rw [ha7]; rfl) (by rw [hnL]; decide) rfl (by decide +kernel) rfl ?_
        refine aw_goto C (tgt := 23) (off := -83) (by decide +kernel) (by decide) ?_
        refine aw_sub [(0, .ref (gad G 0)), (1, .int v1), (2, .int v2), (3, .int v3), (4, .int v4), (5, .int a7)] [1, 2, 3, 4, 5, 0] rfl ?_
        exact hk23 v1 v2 v3 v4 a7 _ hf
      · have hf := iff_ c6 hf
        refine aw_aload_n C 0 0 (j := 0) rfl rfl (by decide +kernel) rfl ?_
        refine aw_getr C (k := 9) fc_11 (lc_0 E) rfl (by decide) tb_405 (by decide +kernel) rfl ?_
        refine aw_aload_n C 0 0 (j := 0) rfl rfl (by decide +kernel) rfl ?_
        refine aw_getr C (k := 0) fc_11 (lc_0 E) rfl (by decide) tb_396 (by decide +kernel) rfl ?_
        refine aw_getr C (k := 6) fc_9 (lc_1 E) rfl (by decide) tb_53 (by decide +kernel) rfl ?_
        obtain ⟨q8, hq8, hf⟩ := ibd hf
        refine aw_callV C (rest := []) (c_Fit_match E _ q8 hq8) tb_762 yf_99 yi_99 (lc_46 E) [.ref (gad G 4)] rfl rfl _ rfl (Nat.le_trans (by decide) hgd) (Nat.le_of_ble_eq_true rfl) (by decide +kernel) rfl ?_
        show AW _ _ _ _ [.int q8.1]
        refine aw_if_eq C (tgt := 103) (off := 26) (by decide +kernel) (by decide) rfl (fun c9 => ?_) (fun c9 => ?_)
        · have hf := ift c9 hf
          obtain ⟨a10, ha10⟩ : ∃ z, z = (v5 + (1 : Int32)) := ⟨_, rfl⟩
          have hf := ilt ha10 hf
          refine aw_iinc C [(5, .int a10), (0, .ref (gad G 0)), (1, .int v1), (2, .int v2), (3, .int v3), (4, .int v4)] 5 (n := 1) rfl (by rw [ha10]; rfl) (by rw [hnL]; decide) rfl (by decide +kernel) rfl ?_
          refine aw_goto C (tgt := 23) (off := -83) (by decide +kernel) (by decide) ?_
          refine aw_sub [(0, .ref (gad G 0)), (1, .int v1), (2, .int v2), (3, .int v3), (4, .int v4), (5, .int a10)] [1, 2, 3, 4, 5, 0] rfl ?_
          exact hk23 v1 v2 v3 v4 a10 _ hf
        · have hf := iff_ c9 hf
          refine aw_iload C 5 5 rfl (by decide +kernel) rfl ?_
          refine aw_istore_n C [(2, .int v5), (0, .ref (gad G 0)), (1, .int v1), (3, .int v3), (4, .int v4), (5, .int v5)] (j := 2) rfl (by rw [hnL]; decide) rfl (by decide +kernel) rfl ?_
          refine aw_aload_n C 0 1 (j := 0) rfl rfl (by decide +kernel) rfl ?_
          refine aw_getr C (k := 9) fc_11 (lc_0 E) rfl (by decide) tb_405 (by decide +kernel) rfl ?_
          refine aw_getr C (k := 0) fc_2 (lc_46 E) rfl (by decide) tb_306 (by decide +kernel) rfl ?_
          obtain ⟨q11, hq11, hf⟩ := ibd hf
          refine aw_callV C (rest := []) (c_Fold_places 47 48 49 ⟨(lc_47 E), (lc_48 E), (lc_49 E)⟩ _ q11 hq11) tb_595 yf_62 yi_62 (lc_47 E) [] rfl rfl _ rfl (Nat.le_trans (by decide) hgd) (Nat.le_of_ble_eq_true rfl) (by decide +kernel) rfl ?_
          show AW _ _ _ _ [.int q11.1]
          refine aw_istore_n C [(3, .int q11.1), (2, .int v5), (0, .ref (gad G 0)), (1, .int v1), (4, .int v4), (5, .int v5)] (j := 3) rfl (by rw [hnL]; decide) rfl (by decide +kernel) rfl ?_
          refine aw_aload_n C 0 2 (j := 0) rfl rfl (by decide +kernel) rfl ?_
          refine aw_getr C (k := 9) fc_11 (lc_0 E) rfl (by decide) tb_405 (by decide +kernel) rfl ?_
          refine aw_get C (k := 2) fc_2 (lc_46 E) rfl (by decide) tb_310 (by decide +kernel) rfl ?_
          obtain ⟨a12, ha12⟩ : ∃ z, z = (q11.2.1 46 2) := ⟨_, rfl⟩
          refine aw_nmi ha12 ?_
          have hf := ilt ha12 hf
          refine aw_istore C [(4, .int a12), (3, .int q11.1), (2, .int v5), (0, .ref (gad G 0)), (1, .int v1), (5, .int v5)] (by rw [hnL]; decide) rfl (by decide +kernel) rfl ?_
          obtain ⟨a13, ha13⟩ : ∃ z, z = (v5 + (1 : Int32)) := ⟨_, rfl⟩
          have hf := ilt ha13 hf
          refine aw_iinc C [(5, .int a13), (4, .int a12), (3, .int q11.1), (2, .int v5), (0, .ref (gad G 0)), (1, .int v1)] 5 (n := 1) rfl (by rw [ha13]; rfl) (by rw [hnL]; decide) rfl (by decide +kernel) rfl ?_
          refine aw_goto C (tgt := 23) (off := -83) (by decide +kernel) (by decide) ?_
          refine aw_sub [(0, .ref (gad G 0)), (1, .int v1), (2, .int v5), (3, .int q11.1), (4, .int a12), (5, .int a13)] [4, 5, 3, 2, 1, 0] rfl ?_
          exact hk23 v1 v5 q11.1 a12 a13 _ hf
theorem u_x_bestFold_23 {G : Cx} (C : CX G prog_1_method_17_code "PaperStars") (CR0 : CR G (Option.some FieldType.int)) (E : LCin (gly G)) (hnL : gnL G = 6) (hgd : 4 ≤ gd G) {q : Int32 × Mm} (hgr : gr G = some (.int q.1)) (hgs : gsf G = q.2) : ∀ (n : Nat) (v1 : Int32) (v2 : Int32) (v3 : Int32) (v4 : Int32) (v5 : Int32) (st : Mm), f_x_bestFold_23 n v1 v2 v3 v4 v5 st = some q → AW G st 23 [(0, .ref (gad G 0)), (1, .int v1), (2, .int v2), (3, .int v3), (4, .int v4), (5, .int v5)] [] := by
  intro n
  induction n with
  | zero => intro v1 v2 v3 v4 v5 st hf; cases hf
  | succ n ih => intro v1 v2 v3 v4 v5 st hf; exact t_x_bestFold_23 C CR0 E hnL hgd hgr hgs (f_x_bestFold_23 n) ih v1 v2 v3 v4 v5 st hf
theorem t_x_bestFold {G : Cx} (C : CX G prog_1_method_17_code "PaperStars") (CR0 : CR G (Option.some FieldType.int)) (E : LCin (gly G)) (hnL : gnL G = 6) (hgd : 4 ≤ gd G) {q : Int32 × Mm} (hgr : gr G = some (.int q.1)) (hgs : gsf G = q.2) (v1 : Int32) (st : Mm) (hf : f_x_bestFold v1 st = some q) : AW G st 0 [(0, .ref (gad G 0)), (1, .int v1)] [] := by
  unfold f_x_bestFold at hf
  refine aw_iload_n C 1 1 (j := 1) rfl rfl (by decide +kernel) rfl ?_
  refine aw_if_lt C (tgt := 9) (off := 8) (by decide +kernel) (by decide) rfl (fun c1 => ?_) (fun c1 => ?_)
  · have hf := ift c1 hf
    refine aw_iconst C (i0 := -1) (v := -1) (by decide) (by decide +kernel) rfl ?_
    exact aw_iretq C CR0 hgr hgs hf (by decide +kernel)
  · have hf := iff_ c1 hf
    refine aw_iload_n C 1 1 (j := 1) rfl rfl (by decide +kernel) rfl ?_
    refine aw_iconst C (i0 := 4) (v := 4) (by decide) (by decide +kernel) rfl ?_
    refine aw_icmp_le C (tgt := 11) (off := 5) (by decide +kernel) (by decide) rfl (fun c2 => ?_) (fun c2 => ?_)
    · have hf := ift c2 hf
      refine aw_iconst C (i0 := 0) (v := 0) (by decide) (by decide +kernel) rfl ?_
      refine aw_istore_n C [(2, .int (0 : Int32)), (0, .ref (gad G 0)), (1, .int v1)] (j := 2) rfl (by rw [hnL]; decide) rfl (by decide +kernel) rfl ?_
      refine aw_sipush C (i0 := 257) (v := 257) (by decide) (by decide +kernel) rfl ?_
      refine aw_istore_n C [(3, .int (257 : Int32)), (2, .int (0 : Int32)), (0, .ref (gad G 0)), (1, .int v1)] (j := 3) rfl (by rw [hnL]; decide) rfl (by decide +kernel) rfl ?_
      refine aw_iconst C (i0 := 0) (v := 0) (by decide) (by decide +kernel) rfl ?_
      refine aw_istore C [(4, .int (0 : Int32)), (3, .int (257 : Int32)), (2, .int (0 : Int32)), (0, .ref (gad G 0)), (1, .int v1)] (by rw [hnL]; decide) rfl (by decide +kernel) rfl ?_
      refine aw_iconst C (i0 := 0) (v := 0) (by decide) (by decide +kernel) rfl ?_
      refine aw_istore C [(5, .int (0 : Int32)), (4, .int (0 : Int32)), (3, .int (257 : Int32)), (2, .int (0 : Int32)), (0, .ref (gad G 0)), (1, .int v1)] (by rw [hnL]; decide) rfl (by decide +kernel) rfl ?_
      refine aw_sub [(0, .ref (gad G 0)), (1, .int v1), (2, .int (0 : Int32)), (3, .int (257 : Int32)), (4, .int (0 : Int32)), (5, .int (0 : Int32))] [4, 5, 3, 2, 1, 0] rfl ?_
      exact u_x_bestFold_23 C CR0 E hnL hgd hgr hgs _ v1 (0 : Int32) (257 : Int32) (0 : Int32) (0 : Int32) _ hf
    · have hf := iff_ c2 hf
      refine aw_iconst C (i0 := -1) (v := -1) (by decide) (by decide +kernel) rfl ?_
      exact aw_iretq C CR0 hgr hgs hf (by decide +kernel)
theorem c_x_bestFold {lay : Ly} (E : LCin lay) (v1 : Int32) (st : Mm) (q : Int32 × Mm) (hf : f_x_bestFold v1 st = some q) : Con 4 Y101 prog_1_method_17_code 6 (Option.some FieldType.int) lay (fun ad => [.ref (ad 0), .int v1]) st (some (.int q.1)) q.2 :=
  am_met yf_101.2.2.2.2.2 (fun ad => Nat.le_of_ble_eq_true rfl) (fun G C CR0 e1 e2 e3 e4 e5 => t_x_bestFold C CR0 (by rw [e1]; exact E) e2 (Nat.le_of_eq e5.symm) e3 e4 v1 st hf)
def b_Cov_covers_30 (r_covers : Int32 → Int64 → Int32 → Mm → Option (Int32 × Mm)) (k30 : Int32 → Int64 → Int32 → Int64 → Int32 → Mm → Option (Int32 × Mm)) (v1 : Int32) (v2 : Int64) (v4 : Int32) (v5 : Int64) (v7 : Int32) (st : Mm) : Option (Int32 × Mm) :=
  if v1 ≤ v7 then (some ((0 : Int32), st)) else (if (300 : Int32) ≤ v7 then (some ((0 : Int32), st)) else (if inb v7 300 then if (lg_cmp ((st.2 55 v7.toNatClampNeg) &&& v5) (0 : Int64)) = 0 then (lt_ (v7 + (1 : Int32)) (fun a5 => k30 v1 v2 v4 v5 a5 st)) else (if inb v7 300 then (r_covers v1 (v2 &&& ((st.2 55 v7.toNatClampNeg) ^^^ (-1 : Int64))) (v4 - (1 : Int32)) st).bind (fun q7 => if q7.1 = 0 then (lt_ (v7 + (1 : Int32)) (fun a9 => k30 v1 v2 v4 v5 a9 q7.2)) else (some ((1 : Int32), q7.2))) else none) else none))
def f_Cov_covers_30 (r_covers : Int32 → Int64 → Int32 → Mm → Option (Int32 × Mm)) : Nat → Int32 → Int64 → Int32 → Int64 → Int32 → Mm → Option (Int32 × Mm)
  | 0 => fun _ _ _ _ _ _ => none
  | n + 1 => b_Cov_covers_30 r_covers (f_Cov_covers_30 r_covers n)
def f_Cov_covers (r_covers : Int32 → Int64 → Int32 → Mm → Option (Int32 × Mm)) (v1 : Int32) (v2 : Int64) (v4 : Int32) (st : Mm) : Option (Int32 × Mm) :=
  if (lg_cmp v2 (0 : Int64)) = 0 then (some ((1 : Int32), st)) else (if v4 ≤ 0 then (some ((0 : Int32), st)) else (if v4 ≤ (4 : Int32) then (lt_ (v2 &&& (-v2)) (fun a4 => f_Cov_covers_30 r_covers 1000000 v1 v2 v4 a4 (0 : Int32) st)) else (some ((0 : Int32), st))))
theorem t_Cov_covers_30 {G : Cx} (C : CX G prog_3_method_7_code "PaperStars$Cover") (CR0 : CR G (Option.some FieldType.boolean)) (r_covers : Int32 → Int64 → Int32 → Mm → Option (Int32 × Mm)) (E : LCin (gly G)) (d0 : Nat) (hd0 : d0 + 1 ≤ gd G) (hr_covers : ∀ (v1 : Int32) (v2 : Int64) (v4 : Int32) (st : Mm) (q : Int32 × Mm), r_covers v1 v2 v4 st = some q → Con d0 Y112 prog_3_method_7_code 8 (Option.some FieldType.boolean) (gly G) (fun ad => [.ref (ad 55), .int v1, .long v2, .int v4]) st (some (.int q.1)) q.2) (hnL : gnL G = 8) (hgd : 1 ≤ gd G) {q : Int32 × Mm} (hgr : gr G = some (.int q.1)) (hgs : gsf G = q.2) (k30 : Int32 → Int64 → Int32 → Int64 → Int32 → Mm → Option (Int32 × Mm)) (hk30 : ∀ (v1 : Int32) (v2 : Int64) (v4 : Int32) (v5 : Int64) (v7 : Int32) (st : Mm), k30 v1 v2 v4 v5 v7 st = some q → AW G st 30 [(0, .ref (gad G 55)), (1, .int v1), (2, .long v2), (4, .int v4), (5, .long v5), (7, .int v7)] []) (v1 : Int32) (v2 : Int64) (v4 : Int32) (v5 : Int64) (v7 : Int32) (st : Mm) (hf : b_Cov_covers_30 r_covers k30 v1 v2 v4 v5 v7 st = some q) : AW G st 30 [(0, .ref (gad G 55)), (1, .int v1), (2, .long v2), (4, .int v4), (5, .long v5), (7, .int v7)] [] := by
  unfold b_Cov_covers_30 at hf
  refine aw_iload C 7 5 rfl (by decide +kernel) rfl ?_
  refine aw_iload_n C 1 1 (j := 1) rfl rfl (by decide +kernel) rfl ?_
  refine aw_icmp_ge C (tgt := 86) (off := 53) (by decide +kernel) (by decide) rfl (fun c1 => ?_) (fun c1 => ?_)
  · have hf := ift c1 hf
    refine aw_iconst C (i0 := 0) (v := 0) (by decide) (by decide +kernel) rfl ?_
    exact aw_zretq C CR0 hgr hgs (by decide) hf (by decide +kernel)
  · have hf := iff_ c1 hf
    refine aw_iload C 7 5 rfl (by decide +kernel) rfl ?_
    refine aw_sipush C (i0 := 300) (v := 300) (by decide) (by decide +kernel) rfl ?_
    refine aw_icmp_ge C (tgt := 86) (off := 45) (by decide +kernel) (by decide) rfl (fun c2 => ?_) (fun c2 => ?_)
    · have hf := ift c2 hf
      refine aw_iconst C (i0 := 0) (v := 0) (by decide) (by decide +kernel) rfl ?_
      exact aw_zretq C CR0 hgr hgs (by decide) hf (by decide +kernel)
    · have hf := iff_ c2 hf
      refine aw_aload_n C 0 0 (j := 0) rfl rfl (by decide +kernel) rfl ?_
      refine aw_iload C 7 5 rfl (by decide +kernel) rfl ?_
      obtain ⟨g3, hf⟩ := igd hf
      refine aw_lald C (lc_55 E) g3 (by decide +kernel) rfl ?_
      refine aw_lload C 5 4 rfl (by decide +kernel) rfl ?_
      refine aw_land C (by decide +kernel) rfl ?_
      refine aw_lconst C (i0 := 0) (v := 0) (by decide) (by decide +kernel) rfl ?_
      refine aw_lcmp C (by decide +kernel) rfl ?_
      refine aw_if_eq C (tgt := 80) (off := 27) (by decide +kernel) (by decide) rfl (fun c4 => ?_) (fun c4 => ?_)
      · have hf := ift c4 hf
        obtain ⟨a5, ha5⟩ : ∃ z, z = (v7 + (1 : Int32)) := ⟨_, rfl⟩
        have hf := ilt ha5 hf
        refine aw_iinc C [(7, .int a5), (0, .ref (gad G 55)), (1, .int v1), (2, .long v2), (4, .int v4), (5, .long v5)] 5 (n := 1) rfl (by rw [ha5]; rfl) (by rw [hnL]; decide) rfl (by decide +kernel) rfl ?_
        refine aw_goto C (tgt := 30) (off := -53) (by decide +kernel) (by decide) ?_
        refine aw_sub [(0, .ref (gad G 55)), (1, .int v1), (2, .long v2), (4, .int v4), (5, .long v5), (7, .int a5)] [1, 2, 3, 4, 5, 0] rfl ?_
        exact hk30 v1 v2 v4 v5 a5 _ hf
      · have hf := iff_ c4 hf
        refine aw_aload_n C 0 0 (j := 0) rfl rfl (by decide +kernel) rfl ?_
        refine aw_iload_n C 1 1 (j := 1) rfl rfl (by decide +kernel) rfl ?_
        refine aw_lload_n C 2 2 (j := 2) rfl rfl (by decide +kernel) rfl ?_
        refine aw_aload_n C 0 0 (j := 0) rfl rfl (by decide +kernel) rfl ?_
        refine aw_iload C 7 5 rfl (by decide +kernel) rfl ?_
        obtain ⟨g6, hf⟩ := igd hf
        refine aw_lald C (lc_55 E) g6 (by decide +kernel) rfl ?_
        refine aw_ldc2 C tb_824 (by decide +kernel) rfl ?_
        refine aw_lxor C (by decide +kernel) rfl ?_
        refine aw_land C (by decide +kernel) rfl ?_
        refine aw_iload C 4 3 rfl (by decide +kernel) rfl ?_
        refine aw_iconst C (i0 := 1) (v := 1) (by decide) (by decide +kernel) rfl ?_
        refine aw_isub C (by decide +kernel) rfl ?_
        obtain ⟨q7, hq7, hf⟩ := ibd hf
        refine aw_callS C (rest := []) (hr_covers v1 (v2 &&& ((st.2 55 v7.toNatClampNeg) ^^^ (-1 : Int64))) (v4 - (1 : Int32)) _ q7 hq7) tb_821 yf_112 tb_822 rfl _ rfl hd0 (Nat.le_of_ble_eq_true rfl) (by decide +kernel) rfl ?_
        show AW _ _ _ _ [.int q7.1]
        refine aw_if_eq C (tgt := 80) (off := 5) (by decide +kernel) (by decide) rfl (fun c8 => ?_) (fun c8 => ?_)
        · have hf := ift c8 hf
          obtain ⟨a9, ha9⟩ : ∃ z, z = (v7 + (1 : Int32)) := ⟨_, rfl⟩
          have hf := ilt ha9 hf
          refine aw_iinc C [(7, .int a9), (0, .ref (gad G 55)), (1, .int v1), (2, .long v2), (4, .int v4), (5, .long v5)] 5 (n := 1) rfl (by rw [ha9]; rfl) (by rw [hnL]; decide) rfl (by decide +kernel) rfl ?_
          refine aw_goto C (tgt := 30) (off := -53) (by decide +kernel) (by decide) ?_
          refine aw_sub [(0, .ref (gad G 55)), (1, .int v1), (2, .long v2), (4, .int v4), (5, .long v5), (7, .int a9)] [1, 2, 3, 4, 5, 0] rfl ?_
          exact hk30 v1 v2 v4 v5 a9 _ hf
        · have hf := iff_ c8 hf
          refine aw_iconst C (i0 := 1) (v := 1) (by decide) (by decide +kernel) rfl ?_
          exact aw_zretq C CR0 hgr hgs (by decide) hf (by decide +kernel)
theorem u_Cov_covers_30 {G : Cx} (C : CX G prog_3_method_7_code "PaperStars$Cover") (CR0 : CR G (Option.some FieldType.boolean)) (r_covers : Int32 → Int64 → Int32 → Mm → Option (Int32 × Mm)) (E : LCin (gly G)) (d0 : Nat) (hd0 : d0 + 1 ≤ gd G) (hr_covers : ∀ (v1 : Int32) (v2 : Int64) (v4 : Int32) (st : Mm) (q : Int32 × Mm), r_covers v1 v2 v4 st = some q → Con d0 Y112 prog_3_method_7_code 8 (Option.some FieldType.boolean) (gly G) (fun ad => [.ref (ad 55), .int v1, .long v2, .int v4]) st (some (.int q.1)) q.2) (hnL : gnL G = 8) (hgd : 1 ≤ gd G) {q : Int32 × Mm} (hgr : gr G = some (.int q.1)) (hgs : gsf G = q.2) : ∀ (n : Nat) (v1 : Int32) (v2 : Int64) (v4 : Int32) (v5 : Int64) (v7 : Int32) (st : Mm), f_Cov_covers_30 r_covers n v1 v2 v4 v5 v7 st = some q → AW G st 30 [(0, .ref (gad G 55)), (1, .int v1), (2, .long v2), (4, .int v4), (5, .long v5), (7, .int v7)] [] := by
  intro n
  induction n with
  | zero => intro v1 v2 v4 v5 v7 st hf; cases hf
  | succ n ih => intro v1 v2 v4 v5 v7 st hf; exact t_Cov_covers_30 C CR0 r_covers E d0 hd0 hr_covers hnL hgd hgr hgs (f_Cov_covers_30 r_covers n) ih v1 v2 v4 v5 v7 st hf
theorem t_Cov_covers {G : Cx} (C : CX G prog_3_method_7_code "PaperStars$Cover") (CR0 : CR G (Option.some FieldType.boolean)) (r_covers : Int32 → Int64 → Int32 → Mm → Option (Int32 × Mm)) (E : LCin (gly G)) (d0 : Nat) (hd0 : d0 + 1 ≤ gd G) (hr_covers : ∀ (v1 : Int32) (v2 : Int64) (v4 : Int32) (st : Mm) (q : Int32 × Mm), r_covers v1 v2 v4 st = some q → Con d0 Y112 prog_3_method_7_code 8 (Option.some FieldType.boolean) (gly G) (fun ad => [.ref (ad 55), .int v1, .long v2, .int v4]) st (some (.int q.1)) q.2) (hnL : gnL G = 8) (hgd : 1 ≤ gd G) {q : Int32 × Mm} (hgr : gr G = some (.int q.1)) (hgs : gsf G = q.2) (v1 : Int32) (v2 : Int64) (v4 : Int32) (st : Mm) (hf : f_Cov_covers r_covers v1 v2 v4 st = some q) : AW G st 0 [(0, .ref (gad G 55)), (1, .int v1), (2, .long v2), (4, .int v4)] [] := by
  unfold f_Cov_covers at hf
  refine aw_lload_n C 2 2 (j := 2) rfl rfl (by decide +kernel) rfl ?_
  refine aw_lconst C (i0 := 0) (v := 0) (by decide) (by decide +kernel) rfl ?_
  refine aw_lcmp C (by decide +kernel) rfl ?_
  refine aw_if_ne C (tgt := 8) (off := 5) (by decide +kernel) (by decide) rfl (fun c1 => ?_) (fun c1 => ?_)
  · have hf := ift c1 hf
    refine aw_iconst C (i0 := 1) (v := 1) (by decide) (by decide +kernel) rfl ?_
    exact aw_zretq C CR0 hgr hgs (by decide) hf (by decide +kernel)
  · have hf := iff_ c1 hf
    refine aw_iload C 4 3 rfl (by decide +kernel) rfl ?_
    refine aw_if_le C (tgt := 19) (off := 9) (by decide +kernel) (by decide) rfl (fun c2 => ?_) (fun c2 => ?_)
    · have hf := ift c2 hf
      refine aw_iconst C (i0 := 0) (v := 0) (by decide) (by decide +kernel) rfl ?_
      exact aw_zretq C CR0 hgr hgs (by decide) hf (by decide +kernel)
    · have hf := iff_ c2 hf
      refine aw_iload C 4 3 rfl (by decide +kernel) rfl ?_
      refine aw_iconst C (i0 := 4) (v := 4) (by decide) (by decide +kernel) rfl ?_
      refine aw_icmp_le C (tgt := 21) (off := 5) (by decide +kernel) (by decide) rfl (fun c3 => ?_) (fun c3 => ?_)
      · have hf := ift c3 hf
        refine aw_lload_n C 2 2 (j := 2) rfl rfl (by decide +kernel) rfl ?_
        refine aw_lload_n C 2 2 (j := 2) rfl rfl (by decide +kernel) rfl ?_
        refine aw_lneg C (by decide +kernel) rfl ?_
        refine aw_land C (by decide +kernel) rfl ?_
        obtain ⟨a4, ha4⟩ : ∃ z, z = (v2 &&& (-v2)) := ⟨_, rfl⟩
        refine aw_nml ha4 ?_
        have hf := ilt ha4 hf
        refine aw_lstore C [(5, .long a4), (0, .ref (gad G 55)), (1, .int v1), (2, .long v2), (4, .int v4)] (by rw [hnL]; decide) rfl (by decide +kernel) rfl ?_
        refine aw_iconst C (i0 := 0) (v := 0) (by decide) (by decide +kernel) rfl ?_
        refine aw_istore C [(7, .int (0 : Int32)), (5, .long a4), (0, .ref (gad G 55)), (1, .int v1), (2, .long v2), (4, .int v4)] (by rw [hnL]; decide) rfl (by decide +kernel) rfl ?_
        refine aw_sub [(0, .ref (gad G 55)), (1, .int v1), (2, .long v2), (4, .int v4), (5, .long a4), (7, .int (0 : Int32))] [2, 3, 4, 5, 1, 0] rfl ?_
        exact u_Cov_covers_30 C CR0 r_covers E d0 hd0 hr_covers hnL hgd hgr hgs _ v1 v2 v4 a4 (0 : Int32) _ hf
      · have hf := iff_ c3 hf
        refine aw_iconst C (i0 := 0) (v := 0) (by decide) (by decide +kernel) rfl ?_
        exact aw_zretq C CR0 hgr hgs (by decide) hf (by decide +kernel)
theorem g_Cov_covers {lay : Ly} (r_covers : Int32 → Int64 → Int32 → Mm → Option (Int32 × Mm)) (E : LCin lay) (d0 : Nat) (hr_covers : ∀ (v1 : Int32) (v2 : Int64) (v4 : Int32) (st : Mm) (q : Int32 × Mm), r_covers v1 v2 v4 st = some q → Con d0 Y112 prog_3_method_7_code 8 (Option.some FieldType.boolean) lay (fun ad => [.ref (ad 55), .int v1, .long v2, .int v4]) st (some (.int q.1)) q.2) (hB : 1 ≤ d0 + 1) (v1 : Int32) (v2 : Int64) (v4 : Int32) (st : Mm) (q : Int32 × Mm) (hf : f_Cov_covers r_covers v1 v2 v4 st = some q) : Con (d0 + 1) Y112 prog_3_method_7_code 8 (Option.some FieldType.boolean) lay (fun ad => [.ref (ad 55), .int v1, .long v2, .int v4]) st (some (.int q.1)) q.2 :=
  am_met yf_112.2.2.2.2.2 (fun ad => Nat.le_of_ble_eq_true rfl) (fun G C CR0 e1 e2 e3 e4 e5 => t_Cov_covers C CR0 r_covers (by rw [e1]; exact E) d0 (by rw [e5]; exact Nat.le_refl _) (by rw [e1]; exact hr_covers) e2 (by rw [e5]; exact hB) e3 e4 v1 v2 v4 st hf)
def R_Cv : Nat → (Int32 → Int64 → Int32 → Mm → Option (Int32 × Mm))
  | 0 => (fun _ _ _ _ => none)
  | n + 1 => (f_Cov_covers (R_Cv n))
theorem rc_Cv {lay : Ly} (E : LCin lay) : ∀ n : Nat, (∀ (v1 : Int32) (v2 : Int64) (v4 : Int32) (st : Mm) (q : Int32 × Mm), (R_Cv n) v1 v2 v4 st = some q → Con (1 + n) Y112 prog_3_method_7_code 8 (Option.some FieldType.boolean) lay (fun ad => [.ref (ad 55), .int v1, .long v2, .int v4]) st (some (.int q.1)) q.2) := by
  intro n
  induction n with
  | zero => exact fun _ _ _ _ _ hf => by cases hf
  | succ n ih => exact fun v1 v2 v4 st q hf => g_Cov_covers (R_Cv n) E (1 + n) ih (by omega) v1 v2 v4 st q hf
def b_Cov_addBox_72 (k6 : Int32 → Int32 → Int64 → Int32 → Mm → Option (Unit × Mm)) (v1 : Int32) (v3 : Int32) (v5 : Int64) (v7 : Int32) (st : Mm) : Option (Unit × Mm) :=
  lt_ (v7 + (1 : Int32)) (fun a1 => k6 v1 v3 v5 a1 st)
def b_Cov_addBox_15 (k6 : Int32 → Int32 → Int64 → Int32 → Mm → Option (Unit × Mm)) (k15 : Int32 → Int32 → Int64 → Int32 → Int32 → Mm → Option (Unit × Mm)) (v1 : Int32) (v3 : Int32) (v5 : Int64) (v7 : Int32) (v8 : Int32) (st : Mm) : Option (Unit × Mm) :=
  if (st.1 47 1) ≤ v8 then (b_Cov_addBox_72 k6 v1 v3 v5 v7 st) else (if ((v1 >>> (v8 &&& 31)) &&& (1 : Int32)) = (1 : Int32) then ((f_Fold_holds 47 48 49 v8 v7 st).bind (fun q3 => if q3.1 = 0 then (lt_ (v8 + (1 : Int32)) (fun a5 => k15 v1 v3 v5 v7 a5 q3.2)) else ((f_x_cellAt v8 v7 q3.2).bind (fun q6 => if inb q6.1 256 then lt_ (v5 ||| ((1 : Int64) <<< ((q6.2.1 54 q6.1.toNatClampNeg).toInt64 &&& 63))) (fun a8 => lt_ (v8 + (1 : Int32)) (fun a9 => k15 v1 v3 a8 v7 a9 q6.2)) else none)))) else (lt_ (v8 + (1 : Int32)) (fun a10 => k15 v1 v3 v5 v7 a10 st)))
def f_Cov_addBox_15 (k6 : Int32 → Int32 → Int64 → Int32 → Mm → Option (Unit × Mm)) : Nat → Int32 → Int32 → Int64 → Int32 → Int32 → Mm → Option (Unit × Mm)
  | 0 => fun _ _ _ _ _ _ => none
  | n + 1 => b_Cov_addBox_15 k6 (f_Cov_addBox_15 k6 n)
def b_Cov_addBox_78 (v5 : Int64) (st : Mm) : Option (Unit × Mm) :=
  if (lg_cmp v5 (0 : Int64)) = 0 then (some ((), st)) else (if (300 : Int32) ≤ (st.1 52 3) then (some ((), st)) else (if inb (st.1 52 3) 300 then lt_ (((sL st 55 (st.1 52 3).toNatClampNeg v5).1 52 3) + (1 : Int32)) (fun a4 => some ((), (sI (sL st 55 (st.1 52 3).toNatClampNeg v5) 52 3 a4))) else none))
def b_Cov_addBox_6 (k6 : Int32 → Int32 → Int64 → Int32 → Mm → Option (Unit × Mm)) (v1 : Int32) (v3 : Int32) (v5 : Int64) (v7 : Int32) (st : Mm) : Option (Unit × Mm) :=
  if v3 < v7 then (b_Cov_addBox_78 v5 st) else (f_Cov_addBox_15 k6 1000000 v1 v3 v5 v7 (0 : Int32) st)
def f_Cov_addBox_6 : Nat → Int32 → Int32 → Int64 → Int32 → Mm → Option (Unit × Mm)
  | 0 => fun _ _ _ _ _ => none
  | n + 1 => b_Cov_addBox_6 (f_Cov_addBox_6 n)
def f_Cov_addBox (v1 : Int32) (v2 : Int32) (v3 : Int32) (st : Mm) : Option (Unit × Mm) :=
  f_Cov_addBox_6 1000000 v1 v3 (0 : Int64) v2 st
theorem t_Cov_addBox_72 {G : Cx} (C : CX G prog_3_method_6_code "PaperStars$Cover") (CR0 : CR G (Option.none)) (E : LCin (gly G)) (hnL : gnL G = 9) (hgd : 1 ≤ gd G) {q : Unit × Mm} (hgr : gr G = none) (hgs : gsf G = q.2) (k6 : Int32 → Int32 → Int64 → Int32 → Mm → Option (Unit × Mm)) (hk6 : ∀ (v1 : Int32) (v3 : Int32) (v5 : Int64) (v7 : Int32) (st : Mm), k6 v1 v3 v5 v7 st = some q → AW G st 6 [(0, .ref (gad G 52)), (1, .int v1), (3, .int v3), (4, .ref (gad G 47)), (5, .long v5), (7, .int v7)] []) (v1 : Int32) (v3 : Int32) (v5 : Int64) (v7 : Int32) (st : Mm) (hf : b_Cov_addBox_72 k6 v1 v3 v5 v7 st = some q) : AW G st 72 [(0, .ref (gad G 52)), (1, .int v1), (3, .int v3), (4, .ref (gad G 47)), (5, .long v5), (7, .int v7)] [] := by
  unfold b_Cov_addBox_72 at hf
  obtain ⟨a1, ha1⟩ : ∃ z, z = (v7 + (1 : Int32)) := ⟨_, rfl⟩
  have hf := ilt ha1 hf
  refine aw_iinc C [(7, .int a1), (0, .ref (gad G 52)), (1, .int v1), (3, .int v3), (4, .ref (gad G 47)), (5, .long v5)] 5 (n := 1) rfl (by rw [ha1]; rfl) (by rw [hnL]; decide) rfl (by decide +kernel) rfl ?_
  refine aw_goto C (tgt := 6) (off := -69) (by decide +kernel) (by decide) ?_
  refine aw_sub [(0, .ref (gad G 52)), (1, .int v1), (3, .int v3), (4, .ref (gad G 47)), (5, .long v5), (7, .int a1)] [1, 2, 3, 4, 5, 0] rfl ?_
  exact hk6 v1 v3 v5 a1 _ hf
theorem t_Cov_addBox_15 {G : Cx} (C : CX G prog_3_method_6_code "PaperStars$Cover") (CR0 : CR G (Option.none)) (E : LCin (gly G)) (hnL : gnL G = 9) (hgd : 1 ≤ gd G) {q : Unit × Mm} (hgr : gr G = none) (hgs : gsf G = q.2) (k6 : Int32 → Int32 → Int64 → Int32 → Mm → Option (Unit × Mm)) (k15 : Int32 → Int32 → Int64 → Int32 → Int32 → Mm → Option (Unit × Mm)) (hk6 : ∀ (v1 : Int32) (v3 : Int32) (v5 : Int64) (v7 : Int32) (st : Mm), k6 v1 v3 v5 v7 st = some q → AW G st 6 [(0, .ref (gad G 52)), (1, .int v1), (3, .int v3), (4, .ref (gad G 47)), (5, .long v5), (7, .int v7)] []) (hk15 : ∀ (v1 : Int32) (v3 : Int32) (v5 : Int64) (v7 : Int32) (v8 : Int32) (st : Mm), k15 v1 v3 v5 v7 v8 st = some q → AW G st 15 [(0, .ref (gad G 52)), (1, .int v1), (3, .int v3), (4, .ref (gad G 47)), (5, .long v5), (7, .int v7), (8, .int v8)] []) (v1 : Int32) (v3 : Int32) (v5 : Int64) (v7 : Int32) (v8 : Int32) (st : Mm) (hf : b_Cov_addBox_15 k6 k15 v1 v3 v5 v7 v8 st = some q) : AW G st 15 [(0, .ref (gad G 52)), (1, .int v1), (3, .int v3), (4, .ref (gad G 47)), (5, .long v5), (7, .int v7), (8, .int v8)] [] := by
  unfold b_Cov_addBox_15 at hf
  refine aw_iload C 8 6 rfl (by decide +kernel) rfl ?_
  refine aw_aload C 4 3 rfl (by decide +kernel) rfl ?_
  refine aw_get C (k := 1) fc_3 (lc_47 E) rfl (by decide) tb_106 (by decide +kernel) rfl ?_
  refine aw_icmp_ge C (tgt := 72) (off := 50) (by decide +kernel) (by decide) rfl (fun c1 => ?_) (fun c1 => ?_)
  · have hf := ift c1 hf
    refine aw_sub [(0, .ref (gad G 52)), (1, .int v1), (3, .int v3), (4, .ref (gad G 47)), (5, .long v5), (7, .int v7)] [0, 1, 2, 3, 4, 5] rfl ?_
    exact t_Cov_addBox_72 C CR0 E hnL hgd hgr hgs k6 hk6 v1 v3 v5 v7 _ hf
  · have hf := iff_ c1 hf
    refine aw_iload_n C 1 1 (j := 1) rfl rfl (by decide +kernel) rfl ?_
    refine aw_iload C 8 6 rfl (by decide +kernel) rfl ?_
    refine aw_ishr C (by decide +kernel) rfl ?_
    refine aw_iconst C (i0 := 1) (v := 1) (by decide) (by decide +kernel) rfl ?_
    refine aw_iand C (by decide +kernel) rfl ?_
    refine aw_iconst C (i0 := 1) (v := 1) (by decide) (by decide +kernel) rfl ?_
    refine aw_icmp_ne C (tgt := 66) (off := 34) (by decide +kernel) (by decide) rfl (fun c2 => ?_) (fun c2 => ?_)
    · have hf := ift c2 hf
      refine aw_aload C 4 3 rfl (by decide +kernel) rfl ?_
      refine aw_iload C 8 6 rfl (by decide +kernel) rfl ?_
      refine aw_iload C 7 5 rfl (by decide +kernel) rfl ?_
      obtain ⟨q3, hq3, hf⟩ := ibd hf
      refine aw_callV C (rest := []) (c_Fold_holds 47 48 49 ⟨(lc_47 E), (lc_48 E), (lc_49 E)⟩ v8 v7 _ q3 hq3) tb_807 yf_21 yi_21 (lc_47 E) [.int v8, .int v7] rfl rfl _ rfl (Nat.le_trans (by decide) hgd) (Nat.le_of_ble_eq_true rfl) (by decide +kernel) rfl ?_
      show AW _ _ _ _ [.int q3.1]
      refine aw_if_eq C (tgt := 66) (off := 22) (by decide +kernel) (by decide) rfl (fun c4 => ?_) (fun c4 => ?_)
      · have hf := ift c4 hf
        obtain ⟨a5, ha5⟩ : ∃ z, z = (v8 + (1 : Int32)) := ⟨_, rfl⟩
        have hf := ilt ha5 hf
        refine aw_iinc C [(8, .int a5), (0, .ref (gad G 52)), (1, .int v1), (3, .int v3), (4, .ref (gad G 47)), (5, .long v5), (7, .int v7)] 6 (n := 1) rfl (by rw [ha5]; rfl) (by rw [hnL]; decide) rfl (by decide +kernel) rfl ?_
        refine aw_goto C (tgt := 15) (off := -54) (by decide +kernel) (by decide) ?_
        refine aw_sub [(0, .ref (gad G 52)), (1, .int v1), (3, .int v3), (4, .ref (gad G 47)), (5, .long v5), (7, .int v7), (8, .int a5)] [1, 2, 3, 4, 5, 6, 0] rfl ?_
        exact hk15 v1 v3 v5 v7 a5 _ hf
      · have hf := iff_ c4 hf
        refine aw_lload C 5 4 rfl (by decide +kernel) rfl ?_
        refine aw_lconst C (i0 := 1) (v := 1) (by decide) (by decide +kernel) rfl ?_
        refine aw_aload_n C 0 0 (j := 0) rfl rfl (by decide +kernel) rfl ?_
        refine aw_getr C (k := 1) fc_1 (lc_52 E) rfl (by decide) tb_332 (by decide +kernel) rfl ?_
        refine aw_iload C 8 6 rfl (by decide +kernel) rfl ?_
        refine aw_iload C 7 5 rfl (by decide +kernel) rfl ?_
        obtain ⟨q6, hq6, hf⟩ := ibd hf
        refine aw_callSN C (rest := [.ref (gad G 54), .long (1 : Int64), .long v5]) (c_x_cellAt v8 v7 _ q6 hq6) nw_21 yf_22 tb_391 rfl _ rfl (Nat.le_trans (by decide) hgd) (Nat.le_of_ble_eq_true rfl) (by decide +kernel) rfl ?_
        show AW _ _ _ _ [.int q6.1, .ref (gad G 54), .long (1 : Int64), .long v5]
        obtain ⟨g7, hf⟩ := igd hf
        refine aw_iald C (lc_54 E) g7 (by decide +kernel) rfl ?_
        refine aw_lshl C (by decide +kernel) rfl ?_
        refine aw_lor C (by decide +kernel) rfl ?_
        obtain ⟨a8, ha8⟩ : ∃ z, z = (v5 ||| ((1 : Int64) <<< ((q6.2.1 54 q6.1.toNatClampNeg).toInt64 &&& 63))) := ⟨_, rfl⟩
        refine aw_nml ha8 ?_
        have hf := ilt ha8 hf
        refine aw_lstore C [(5, .long a8), (0, .ref (gad G 52)), (1, .int v1), (3, .int v3), (4, .ref (gad G 47)), (7, .int v7), (8, .int v8)] (by rw [hnL]; decide) rfl (by decide +kernel) rfl ?_
        obtain ⟨a9, ha9⟩ : ∃ z, z = (v8 + (1 : Int32)) := ⟨_, rfl⟩
        have hf := ilt ha9 hf
        refine aw_iinc C [(8, .int a9), (5, .long a8), (0, .ref (gad G 52)), (1, .int v1), (3, .int v3), (4, .ref (gad G 47)), (7, .int v7)] 6 (n := 1) rfl (by rw [ha9]; rfl) (by rw [hnL]; decide) rfl (by decide +kernel) rfl ?_
        refine aw_goto C (tgt := 15) (off := -54) (by decide +kernel) (by decide) ?_
        refine aw_sub [(0, .ref (gad G 52)), (1, .int v1), (3, .int v3), (4, .ref (gad G 47)), (5, .long a8), (7, .int v7), (8, .int a9)] [2, 3, 4, 5, 1, 6, 0] rfl ?_
        exact hk15 v1 v3 a8 v7 a9 _ hf
    · have hf := iff_ c2 hf
      obtain ⟨a10, ha10⟩ : ∃ z, z = (v8 + (1 : Int32)) := ⟨_, rfl⟩
      have hf := ilt ha10 hf
      refine aw_iinc C [(8, .int a10), (0, .ref (gad G 52)), (1, .int v1), (3, .int v3), (4, .ref (gad G 47)), (5, .long v5), (7, .int v7)] 6 (n := 1) rfl (by rw [ha10]; rfl) (by rw [hnL]; decide) rfl (by decide +kernel) rfl ?_
      refine aw_goto C (tgt := 15) (off := -54) (by decide +kernel) (by decide) ?_
      refine aw_sub [(0, .ref (gad G 52)), (1, .int v1), (3, .int v3), (4, .ref (gad G 47)), (5, .long v5), (7, .int v7), (8, .int a10)] [1, 2, 3, 4, 5, 6, 0] rfl ?_
      exact hk15 v1 v3 v5 v7 a10 _ hf
theorem u_Cov_addBox_15 {G : Cx} (C : CX G prog_3_method_6_code "PaperStars$Cover") (CR0 : CR G (Option.none)) (E : LCin (gly G)) (hnL : gnL G = 9) (hgd : 1 ≤ gd G) {q : Unit × Mm} (hgr : gr G = none) (hgs : gsf G = q.2) (k6 : Int32 → Int32 → Int64 → Int32 → Mm → Option (Unit × Mm)) (hk6 : ∀ (v1 : Int32) (v3 : Int32) (v5 : Int64) (v7 : Int32) (st : Mm), k6 v1 v3 v5 v7 st = some q → AW G st 6 [(0, .ref (gad G 52)), (1, .int v1), (3, .int v3), (4, .ref (gad G 47)), (5, .long v5), (7, .int v7)] []) : ∀ (n : Nat) (v1 : Int32) (v3 : Int32) (v5 : Int64) (v7 : Int32) (v8 : Int32) (st : Mm), f_Cov_addBox_15 k6 n v1 v3 v5 v7 v8 st = some q → AW G st 15 [(0, .ref (gad G 52)), (1, .int v1), (3, .int v3), (4, .ref (gad G 47)), (5, .long v5), (7, .int v7), (8, .int v8)] [] := by
  intro n
  induction n with
  | zero => intro v1 v3 v5 v7 v8 st hf; cases hf
  | succ n ih => intro v1 v3 v5 v7 v8 st hf; exact t_Cov_addBox_15 C CR0 E hnL hgd hgr hgs k6 (f_Cov_addBox_15 k6 n) hk6 ih v1 v3 v5 v7 v8 st hf
theorem t_Cov_addBox_78 {G : Cx} (C : CX G prog_3_method_6_code "PaperStars$Cover") (CR0 : CR G (Option.none)) (E : LCin (gly G)) (hnL : gnL G = 9) (hgd : 1 ≤ gd G) {q : Unit × Mm} (hgr : gr G = none) (hgs : gsf G = q.2) (v5 : Int64) (st : Mm) (hf : b_Cov_addBox_78 v5 st = some q) : AW G st 78 [(0, .ref (gad G 52)), (5, .long v5)] [] := by
  unfold b_Cov_addBox_78 at hf
  refine aw_lload C 5 1 rfl (by decide +kernel) rfl ?_
  refine aw_lconst C (i0 := 0) (v := 0) (by decide) (by decide +kernel) rfl ?_
  refine aw_lcmp C (by decide +kernel) rfl ?_
  refine aw_if_eq C (tgt := 116) (off := 34) (by decide +kernel) (by decide) rfl (fun c1 => ?_) (fun c1 => ?_)
  · have hf := ift c1 hf
    exact aw_vretq C CR0 hgr hgs hf (by decide +kernel)
  · have hf := iff_ c1 hf
    refine aw_aload_n C 0 0 (j := 0) rfl rfl (by decide +kernel) rfl ?_
    refine aw_get C (k := 3) fc_1 (lc_52 E) rfl (by decide) tb_334 (by decide +kernel) rfl ?_
    refine aw_sipush C (i0 := 300) (v := 300) (by decide) (by decide +kernel) rfl ?_
    refine aw_icmp_ge C (tgt := 116) (off := 24) (by decide +kernel) (by decide) rfl (fun c2 => ?_) (fun c2 => ?_)
    · have hf := ift c2 hf
      exact aw_vretq C CR0 hgr hgs hf (by decide +kernel)
    · have hf := iff_ c2 hf
      refine aw_aload_n C 0 0 (j := 0) rfl rfl (by decide +kernel) rfl ?_
      refine aw_getr C (k := 2) fc_1 (lc_52 E) rfl (by decide) tb_333 (by decide +kernel) rfl ?_
      refine aw_aload_n C 0 0 (j := 0) rfl rfl (by decide +kernel) rfl ?_
      refine aw_get C (k := 3) fc_1 (lc_52 E) rfl (by decide) tb_334 (by decide +kernel) rfl ?_
      refine aw_lload C 5 1 rfl (by decide +kernel) rfl ?_
      obtain ⟨g3, hf⟩ := igd hf
      refine aw_last C (lc_55 E) g3 (by decide +kernel) rfl ?_
      refine aw_aload_n C 0 0 (j := 0) rfl rfl (by decide +kernel) rfl ?_
      refine aw_dup C rfl (by decide +kernel) rfl ?_
      refine aw_get C (k := 3) fc_1 (lc_52 E) rfl (by decide) tb_334 (by decide +kernel) rfl ?_
      refine aw_iconst C (i0 := 1) (v := 1) (by decide) (by decide +kernel) rfl ?_
      refine aw_iadd C (by decide +kernel) rfl ?_
      obtain ⟨a4, ha4⟩ : ∃ z, z = (((sL st 55 (st.1 52 3).toNatClampNeg v5).1 52 3) + (1 : Int32)) := ⟨_, rfl⟩
      refine aw_nmi ha4 ?_
      have hf := ilt ha4 hf
      refine aw_put C (k := 3) fc_1 (lc_52 E) rfl (by decide) rfl rfl tb_334 (by decide +kernel) rfl ?_
      exact aw_vretq C CR0 hgr hgs hf (by decide +kernel)
theorem t_Cov_addBox_6 {G : Cx} (C : CX G prog_3_method_6_code "PaperStars$Cover") (CR0 : CR G (Option.none)) (E : LCin (gly G)) (hnL : gnL G = 9) (hgd : 1 ≤ gd G) {q : Unit × Mm} (hgr : gr G = none) (hgs : gsf G = q.2) (k6 : Int32 → Int32 → Int64 → Int32 → Mm → Option (Unit × Mm)) (hk6 : ∀ (v1 : Int32) (v3 : Int32) (v5 : Int64) (v7 : Int32) (st : Mm), k6 v1 v3 v5 v7 st = some q → AW G st 6 [(0, .ref (gad G 52)), (1, .int v1), (3, .int v3), (4, .ref (gad G 47)), (5, .long v5), (7, .int v7)] []) (v1 : Int32) (v3 : Int32) (v5 : Int64) (v7 : Int32) (st : Mm) (hf : b_Cov_addBox_6 k6 v1 v3 v5 v7 st = some q) : AW G st 6 [(0, .ref (gad G 52)), (1, .int v1), (3, .int v3), (4, .ref (gad G 47)), (5, .long v5), (7, .int v7)] [] := by
  unfold b_Cov_addBox_6 at hf
  refine aw_iload C 7 5 rfl (by decide +kernel) rfl ?_
  refine aw_iload_n C 3 2 (j := 3) rfl rfl (by decide +kernel) rfl ?_
  refine aw_icmp_gt C (tgt := 78) (off := 69) (by decide +kernel) (by decide) rfl (fun c1 => ?_) (fun c1 => ?_)
  · have hf := ift c1 hf
    refine aw_sub [(0, .ref (gad G 52)), (5, .long v5)] [0, 4] rfl ?_
    exact t_Cov_addBox_78 C CR0 E hnL hgd hgr hgs v5 _ hf
  · have hf := iff_ c1 hf
    refine aw_iconst C (i0 := 0) (v := 0) (by decide) (by decide +kernel) rfl ?_
    refine aw_istore C [(8, .int (0 : Int32)), (0, .ref (gad G 52)), (1, .int v1), (3, .int v3), (4, .ref (gad G 47)), (5, .long v5), (7, .int v7)] (by rw [hnL]; decide) rfl (by decide +kernel) rfl ?_
    refine aw_sub [(0, .ref (gad G 52)), (1, .int v1), (3, .int v3), (4, .ref (gad G 47)), (5, .long v5), (7, .int v7), (8, .int (0 : Int32))] [1, 2, 3, 4, 5, 6, 0] rfl ?_
    exact u_Cov_addBox_15 C CR0 E hnL hgd hgr hgs k6 hk6 _ v1 v3 v5 v7 (0 : Int32) _ hf
theorem u_Cov_addBox_6 {G : Cx} (C : CX G prog_3_method_6_code "PaperStars$Cover") (CR0 : CR G (Option.none)) (E : LCin (gly G)) (hnL : gnL G = 9) (hgd : 1 ≤ gd G) {q : Unit × Mm} (hgr : gr G = none) (hgs : gsf G = q.2) : ∀ (n : Nat) (v1 : Int32) (v3 : Int32) (v5 : Int64) (v7 : Int32) (st : Mm), f_Cov_addBox_6 n v1 v3 v5 v7 st = some q → AW G st 6 [(0, .ref (gad G 52)), (1, .int v1), (3, .int v3), (4, .ref (gad G 47)), (5, .long v5), (7, .int v7)] [] := by
  intro n
  induction n with
  | zero => intro v1 v3 v5 v7 st hf; cases hf
  | succ n ih => intro v1 v3 v5 v7 st hf; exact t_Cov_addBox_6 C CR0 E hnL hgd hgr hgs (f_Cov_addBox_6 n) ih v1 v3 v5 v7 st hf
theorem t_Cov_addBox {G : Cx} (C : CX G prog_3_method_6_code "PaperStars$Cover") (CR0 : CR G (Option.none)) (E : LCin (gly G)) (hnL : gnL G = 9) (hgd : 1 ≤ gd G) {q : Unit × Mm} (hgr : gr G = none) (hgs : gsf G = q.2) (v1 : Int32) (v2 : Int32) (v3 : Int32) (st : Mm) (hf : f_Cov_addBox v1 v2 v3 st = some q) : AW G st 0 [(0, .ref (gad G 52)), (1, .int v1), (2, .int v2), (3, .int v3), (4, .ref (gad G 47))] [] := by
  unfold f_Cov_addBox at hf
  refine aw_lconst C (i0 := 0) (v := 0) (by decide) (by decide +kernel) rfl ?_
  refine aw_lstore C [(5, .long (0 : Int64)), (0, .ref (gad G 52)), (1, .int v1), (2, .int v2), (3, .int v3), (4, .ref (gad G 47))] (by rw [hnL]; decide) rfl (by decide +kernel) rfl ?_
  refine aw_iload_n C 2 3 (j := 2) rfl rfl (by decide +kernel) rfl ?_
  refine aw_istore C [(7, .int v2), (5, .long (0 : Int64)), (0, .ref (gad G 52)), (1, .int v1), (2, .int v2), (3, .int v3), (4, .ref (gad G 47))] (by rw [hnL]; decide) rfl (by decide +kernel) rfl ?_
  refine aw_sub [(0, .ref (gad G 52)), (1, .int v1), (3, .int v3), (4, .ref (gad G 47)), (5, .long (0 : Int64)), (7, .int v2)] [2, 3, 5, 6, 1, 0] rfl ?_
  exact u_Cov_addBox_6 C CR0 E hnL hgd hgr hgs _ v1 v3 (0 : Int64) v2 _ hf
theorem c_Cov_addBox {lay : Ly} (E : LCin lay) (v1 : Int32) (v2 : Int32) (v3 : Int32) (st : Mm) (q : Unit × Mm) (hf : f_Cov_addBox v1 v2 v3 st = some q) : Con 1 Y111 prog_3_method_6_code 9 (Option.none) lay (fun ad => [.ref (ad 52), .int v1, .int v2, .int v3, .ref (ad 47)]) st (none) q.2 :=
  am_met yf_111.2.2.2.2.2 (fun ad => Nat.le_of_ble_eq_true rfl) (fun G C CR0 e1 e2 e3 e4 e5 => t_Cov_addBox C CR0 (by rw [e1]; exact E) e2 (Nat.le_of_eq e5.symm) e3 e4 v1 v2 v3 st hf)
def b_Cov_listRuns_106 (k6 : Int32 → Int32 → Int32 → Int32 → Mm → Option (Unit × Mm)) (v2 : Int32) (v3 : Int32) (v5 : Int32) (v6 : Int32) (v8 : Int32) (v9 : Int32) (s0 : Int32) (st : Mm) : Option (Unit × Mm) :=
  if v9 = 0 then (if s0 = 0 then ((f_Cov_addBox v8 v2 v3 st).bind (fun q3 => lt_ (v6 + (1 : Int32)) (fun a4 => k6 v2 v3 v5 a4 q3.2))) else (lt_ (v6 + (1 : Int32)) (fun a5 => k6 v2 v3 v5 a5 st))) else (lt_ (v6 + (1 : Int32)) (fun a6 => k6 v2 v3 v5 a6 st))
def b_Cov_listRuns_72 (k6 : Int32 → Int32 → Int32 → Int32 → Mm → Option (Unit × Mm)) (v2 : Int32) (v3 : Int32) (v5 : Int32) (v6 : Int32) (v8 : Int32) (s0 : Int32) (st : Mm) : Option (Unit × Mm) :=
  if ((st.1 47 2) - (1 : Int32)) ≤ v3 then (b_Cov_listRuns_106 k6 v2 v3 v5 v6 v8 s0 (0 : Int32) st) else (if inb (v3 + (1 : Int32)) 16 then if ((st.1 53 (v3 + (1 : Int32)).toNatClampNeg) &&& v8) = v8 then (b_Cov_listRuns_106 k6 v2 v3 v5 v6 v8 s0 (1 : Int32) st) else (b_Cov_listRuns_106 k6 v2 v3 v5 v6 v8 s0 (0 : Int32) st) else none)
def b_Cov_listRuns_6 (k6 : Int32 → Int32 → Int32 → Int32 → Mm → Option (Unit × Mm)) (v2 : Int32) (v3 : Int32) (v5 : Int32) (v6 : Int32) (st : Mm) : Option (Unit × Mm) :=
  if (16 : Int32) ≤ v6 then (some ((), st)) else (if v5 = 0 then (some ((), st)) else (lt_ (v5 &&& (-v5)) (fun a3 => lt_ (v5 &&& ((v5 + a3) ^^^ (-1 : Int32))) (fun a4 => lt_ (v5 &&& (a4 ^^^ (-1 : Int32))) (fun a5 => if v2 ≤ 0 then (b_Cov_listRuns_72 k6 v2 v3 a5 v6 a4 (0 : Int32) st) else (if inb (v2 - (1 : Int32)) 16 then if ((st.1 53 (v2 - (1 : Int32)).toNatClampNeg) &&& a4) = a4 then (b_Cov_listRuns_72 k6 v2 v3 a5 v6 a4 (1 : Int32) st) else (b_Cov_listRuns_72 k6 v2 v3 a5 v6 a4 (0 : Int32) st) else none))))))
def f_Cov_listRuns_6 : Nat → Int32 → Int32 → Int32 → Int32 → Mm → Option (Unit × Mm)
  | 0 => fun _ _ _ _ _ => none
  | n + 1 => b_Cov_listRuns_6 (f_Cov_listRuns_6 n)
def f_Cov_listRuns (v1 : Int32) (v2 : Int32) (v3 : Int32) (st : Mm) : Option (Unit × Mm) :=
  f_Cov_listRuns_6 1000000 v2 v3 v1 (0 : Int32) st
theorem t_Cov_listRuns_106 {G : Cx} (C : CX G prog_3_method_5_code "PaperStars$Cover") (CR0 : CR G (Option.none)) (E : LCin (gly G)) (hnL : gnL G = 11) (hgd : 2 ≤ gd G) {q : Unit × Mm} (hgr : gr G = none) (hgs : gsf G = q.2) (k6 : Int32 → Int32 → Int32 → Int32 → Mm → Option (Unit × Mm)) (hk6 : ∀ (v2 : Int32) (v3 : Int32) (v5 : Int32) (v6 : Int32) (st : Mm), k6 v2 v3 v5 v6 st = some q → AW G st 6 [(0, .ref (gad G 52)), (2, .int v2), (3, .int v3), (4, .ref (gad G 47)), (5, .int v5), (6, .int v6)] []) (v2 : Int32) (v3 : Int32) (v5 : Int32) (v6 : Int32) (v8 : Int32) (v9 : Int32) (s0 : Int32) (st : Mm) (hf : b_Cov_listRuns_106 k6 v2 v3 v5 v6 v8 v9 s0 st = some q) : AW G st 106 [(0, .ref (gad G 52)), (2, .int v2), (3, .int v3), (4, .ref (gad G 47)), (5, .int v5), (6, .int v6), (8, .int v8), (9, .int v9)] [.int s0] := by
  unfold b_Cov_listRuns_106 at hf
  refine aw_istore C [(10, .int s0), (0, .ref (gad G 52)), (2, .int v2), (3, .int v3), (4, .ref (gad G 47)), (5, .int v5), (6, .int v6), (8, .int v8), (9, .int v9)] (by rw [hnL]; decide) rfl (by decide +kernel) rfl ?_
  refine aw_iload C 9 8 rfl (by decide +kernel) rfl ?_
  refine aw_if_ne C (tgt := 128) (off := 18) (by decide +kernel) (by decide) rfl (fun c1 => ?_) (fun c1 => ?_)
  · have hf := ift c1 hf
    refine aw_iload C 10 0 rfl (by decide +kernel) rfl ?_
    refine aw_if_ne C (tgt := 128) (off := 13) (by decide +kernel) (by decide) rfl (fun c2 => ?_) (fun c2 => ?_)
    · have hf := ift c2 hf
      refine aw_aload_n C 0 1 (j := 0) rfl rfl (by decide +kernel) rfl ?_
      refine aw_iload C 8 7 rfl (by decide +kernel) rfl ?_
      refine aw_iload_n C 2 2 (j := 2) rfl rfl (by decide +kernel) rfl ?_
      refine aw_iload_n C 3 3 (j := 3) rfl rfl (by decide +kernel) rfl ?_
      refine aw_aload C 4 4 rfl (by decide +kernel) rfl ?_
      obtain ⟨q3, hq3, hf⟩ := ibd hf
      refine aw_callV C (rest := []) (c_Cov_addBox E v8 v2 v3 _ q3 hq3) tb_817 yf_111 yi_111 (lc_52 E) [.int v8, .int v2, .int v3, .ref (gad G 47)] rfl rfl _ rfl (Nat.le_trans (by decide) hgd) (Nat.le_of_ble_eq_true rfl) (by decide +kernel) rfl ?_
      show AW _ _ _ _ []
      obtain ⟨a4, ha4⟩ : ∃ z, z = (v6 + (1 : Int32)) := ⟨_, rfl⟩
      have hf := ilt ha4 hf
      refine aw_iinc C [(6, .int a4), (10, .int s0), (0, .ref (gad G 52)), (2, .int v2), (3, .int v3), (4, .ref (gad G 47)), (5, .int v5), (8, .int v8), (9, .int v9)] 6 (n := 1) rfl (by rw [ha4]; rfl) (by rw [hnL]; decide) rfl (by decide +kernel) rfl ?_
      refine aw_goto C (tgt := 6) (off := -125) (by decide +kernel) (by decide) ?_
      refine aw_sub [(0, .ref (gad G 52)), (2, .int v2), (3, .int v3), (4, .ref (gad G 47)), (5, .int v5), (6, .int a4)] [2, 3, 4, 5, 6, 0] rfl ?_
      exact hk6 v2 v3 v5 a4 _ hf
    · have hf := iff_ c2 hf
      obtain ⟨a5, ha5⟩ : ∃ z, z = (v6 + (1 : Int32)) := ⟨_, rfl⟩
      have hf := ilt ha5 hf
      refine aw_iinc C [(6, .int a5), (10, .int s0), (0, .ref (gad G 52)), (2, .int v2), (3, .int v3), (4, .ref (gad G 47)), (5, .int v5), (8, .int v8), (9, .int v9)] 6 (n := 1) rfl (by rw [ha5]; rfl) (by rw [hnL]; decide) rfl (by decide +kernel) rfl ?_
      refine aw_goto C (tgt := 6) (off := -125) (by decide +kernel) (by decide) ?_
      refine aw_sub [(0, .ref (gad G 52)), (2, .int v2), (3, .int v3), (4, .ref (gad G 47)), (5, .int v5), (6, .int a5)] [2, 3, 4, 5, 6, 0] rfl ?_
      exact hk6 v2 v3 v5 a5 _ hf
  · have hf := iff_ c1 hf
    obtain ⟨a6, ha6⟩ : ∃ z, z = (v6 + (1 : Int32)) := ⟨_, rfl⟩
    have hf := ilt ha6 hf
    refine aw_iinc C [(6, .int a6), (10, .int s0), (0, .ref (gad G 52)), (2, .int v2), (3, .int v3), (4, .ref (gad G 47)), (5, .int v5), (8, .int v8), (9, .int v9)] 6 (n := 1) rfl (by rw [ha6]; rfl) (by rw [hnL]; decide) rfl (by decide +kernel) rfl ?_
    refine aw_goto C (tgt := 6) (off := -125) (by decide +kernel) (by decide) ?_
    refine aw_sub [(0, .ref (gad G 52)), (2, .int v2), (3, .int v3), (4, .ref (gad G 47)), (5, .int v5), (6, .int a6)] [2, 3, 4, 5, 6, 0] rfl ?_
    exact hk6 v2 v3 v5 a6 _ hf
theorem t_Cov_listRuns_72 {G : Cx} (C : CX G prog_3_method_5_code "PaperStars$Cover") (CR0 : CR G (Option.none)) (E : LCin (gly G)) (hnL : gnL G = 11) (hgd : 2 ≤ gd G) {q : Unit × Mm} (hgr : gr G = none) (hgs : gsf G = q.2) (k6 : Int32 → Int32 → Int32 → Int32 → Mm → Option (Unit × Mm)) (hk6 : ∀ (v2 : Int32) (v3 : Int32) (v5 : Int32) (v6 : Int32) (st : Mm), k6 v2 v3 v5 v6 st = some q → AW G st 6 [(0, .ref (gad G 52)), (2, .int v2), (3, .int v3), (4, .ref (gad G 47)), (5, .int v5), (6, .int v6)] []) (v2 : Int32) (v3 : Int32) (v5 : Int32) (v6 : Int32) (v8 : Int32) (s0 : Int32) (st : Mm) (hf : b_Cov_listRuns_72 k6 v2 v3 v5 v6 v8 s0 st = some q) : AW G st 72 [(0, .ref (gad G 52)), (2, .int v2), (3, .int v3), (4, .ref (gad G 47)), (5, .int v5), (6, .int v6), (8, .int v8)] [.int s0] := by
  unfold b_Cov_listRuns_72 at hf
  refine aw_istore C [(9, .int s0), (0, .ref (gad G 52)), (2, .int v2), (3, .int v3), (4, .ref (gad G 47)), (5, .int v5), (6, .int v6), (8, .int v8)] (by rw [hnL]; decide) rfl (by decide +kernel) rfl ?_
  refine aw_iload_n C 3 3 (j := 3) rfl rfl (by decide +kernel) rfl ?_
  refine aw_aload C 4 4 rfl (by decide +kernel) rfl ?_
  refine aw_get C (k := 2) fc_3 (lc_47 E) rfl (by decide) tb_110 (by decide +kernel) rfl ?_
  refine aw_iconst C (i0 := 1) (v := 1) (by decide) (by decide +kernel) rfl ?_
  refine aw_isub C (by decide +kernel) rfl ?_
  refine aw_icmp_ge C (tgt := 105) (off := 23) (by decide +kernel) (by decide) rfl (fun c1 => ?_) (fun c1 => ?_)
  · have hf := ift c1 hf
    refine aw_iconst C (i0 := 0) (v := 0) (by decide) (by decide +kernel) rfl ?_
    refine aw_sub [(0, .ref (gad G 52)), (2, .int v2), (3, .int v3), (4, .ref (gad G 47)), (5, .int v5), (6, .int v6), (8, .int v8), (9, .int s0)] [1, 2, 3, 4, 5, 6, 7, 0] rfl ?_
    exact t_Cov_listRuns_106 C CR0 E hnL hgd hgr hgs k6 hk6 v2 v3 v5 v6 v8 s0 (0 : Int32) _ hf
  · have hf := iff_ c1 hf
    refine aw_aload_n C 0 1 (j := 0) rfl rfl (by decide +kernel) rfl ?_
    refine aw_getr C (k := 0) fc_1 (lc_52 E) rfl (by decide) tb_331 (by decide +kernel) rfl ?_
    refine aw_iload_n C 3 3 (j := 3) rfl rfl (by decide +kernel) rfl ?_
    refine aw_iconst C (i0 := 1) (v := 1) (by decide) (by decide +kernel) rfl ?_
    refine aw_iadd C (by decide +kernel) rfl ?_
    obtain ⟨g2, hf⟩ := igd hf
    refine aw_iald C (lc_53 E) g2 (by decide +kernel) rfl ?_
    refine aw_iload C 8 7 rfl (by decide +kernel) rfl ?_
    refine aw_iand C (by decide +kernel) rfl ?_
    refine aw_iload C 8 7 rfl (by decide +kernel) rfl ?_
    refine aw_icmp_ne C (tgt := 105) (off := 7) (by decide +kernel) (by decide) rfl (fun c3 => ?_) (fun c3 => ?_)
    · have hf := ift c3 hf
      refine aw_iconst C (i0 := 1) (v := 1) (by decide) (by decide +kernel) rfl ?_
      refine aw_goto C (tgt := 106) (off := 4) (by decide +kernel) (by decide) ?_
      refine aw_sub [(0, .ref (gad G 52)), (2, .int v2), (3, .int v3), (4, .ref (gad G 47)), (5, .int v5), (6, .int v6), (8, .int v8), (9, .int s0)] [1, 2, 3, 4, 5, 6, 7, 0] rfl ?_
      exact t_Cov_listRuns_106 C CR0 E hnL hgd hgr hgs k6 hk6 v2 v3 v5 v6 v8 s0 (1 : Int32) _ hf
    · have hf := iff_ c3 hf
      refine aw_iconst C (i0 := 0) (v := 0) (by decide) (by decide +kernel) rfl ?_
      refine aw_sub [(0, .ref (gad G 52)), (2, .int v2), (3, .int v3), (4, .ref (gad G 47)), (5, .int v5), (6, .int v6), (8, .int v8), (9, .int s0)] [1, 2, 3, 4, 5, 6, 7, 0] rfl ?_
      exact t_Cov_listRuns_106 C CR0 E hnL hgd hgr hgs k6 hk6 v2 v3 v5 v6 v8 s0 (0 : Int32) _ hf
theorem t_Cov_listRuns_6 {G : Cx} (C : CX G prog_3_method_5_code "PaperStars$Cover") (CR0 : CR G (Option.none)) (E : LCin (gly G)) (hnL : gnL G = 11) (hgd : 2 ≤ gd G) {q : Unit × Mm} (hgr : gr G = none) (hgs : gsf G = q.2) (k6 : Int32 → Int32 → Int32 → Int32 → Mm → Option (Unit × Mm)) (hk6 : ∀ (v2 : Int32) (v3 : Int32) (v5 : Int32) (v6 : Int32) (st : Mm), k6 v2 v3 v5 v6 st = some q → AW G st 6 [(0, .ref (gad G 52)), (2, .int v2), (3, .int v3), (4, .ref (gad G 47)), (5, .int v5), (6, .int v6)] []) (v2 : Int32) (v3 : Int32) (v5 : Int32) (v6 : Int32) (st : Mm) (hf : b_Cov_listRuns_6 k6 v2 v3 v5 v6 st = some q) : AW G st 6 [(0, .ref (gad G 52)), (2, .int v2), (3, .int v3), (4, .ref (gad G 47)), (5, .int v5), (6, .int v6)] [] := by
  unfold b_Cov_listRuns_6 at hf
  refine aw_iload C 6 5 rfl (by decide +kernel) rfl ?_
  refine aw_bipush C (i0 := 16) (v := 16) (by decide) (by decide +kernel) rfl ?_
  refine aw_icmp_ge C (tgt := 134) (off := 124) (by decide +kernel) (by decide) rfl (fun c1 => ?_) (fun c1 => ?_)
  · have hf := ift c1 hf
    exact aw_vretq C CR0 hgr hgs hf (by decide +kernel)
  · have hf := iff_ c1 hf
    refine aw_iload C 5 4 rfl (by decide +kernel) rfl ?_
    refine aw_if_eq C (tgt := 134) (off := 119) (by decide +kernel) (by decide) rfl (fun c2 => ?_) (fun c2 => ?_)
    · have hf := ift c2 hf
      exact aw_vretq C CR0 hgr hgs hf (by decide +kernel)
    · have hf := iff_ c2 hf
      refine aw_iload C 5 4 rfl (by decide +kernel) rfl ?_
      refine aw_iload C 5 4 rfl (by decide +kernel) rfl ?_
      refine aw_ineg C (by decide +kernel) rfl ?_
      refine aw_iand C (by decide +kernel) rfl ?_
      obtain ⟨a3, ha3⟩ : ∃ z, z = (v5 &&& (-v5)) := ⟨_, rfl⟩
      refine aw_nmi ha3 ?_
      have hf := ilt ha3 hf
      refine aw_istore C [(7, .int a3), (0, .ref (gad G 52)), (2, .int v2), (3, .int v3), (4, .ref (gad G 47)), (5, .int v5), (6, .int v6)] (by rw [hnL]; decide) rfl (by decide +kernel) rfl ?_
      refine aw_iload C 5 5 rfl (by decide +kernel) rfl ?_
      refine aw_iload C 5 5 rfl (by decide +kernel) rfl ?_
      refine aw_iload C 7 0 rfl (by decide +kernel) rfl ?_
      refine aw_iadd C (by decide +kernel) rfl ?_
      refine aw_iconst C (i0 := -1) (v := -1) (by decide) (by decide +kernel) rfl ?_
      refine aw_ixor C (by decide +kernel) rfl ?_
      refine aw_iand C (by decide +kernel) rfl ?_
      obtain ⟨a4, ha4⟩ : ∃ z, z = (v5 &&& ((v5 + a3) ^^^ (-1 : Int32))) := ⟨_, rfl⟩
      refine aw_nmi ha4 ?_
      have hf := ilt ha4 hf
      refine aw_istore C [(8, .int a4), (7, .int a3), (0, .ref (gad G 52)), (2, .int v2), (3, .int v3), (4, .ref (gad G 47)), (5, .int v5), (6, .int v6)] (by rw [hnL]; decide) rfl (by decide +kernel) rfl ?_
      refine aw_iload C 5 6 rfl (by decide +kernel) rfl ?_
      refine aw_iload C 8 0 rfl (by decide +kernel) rfl ?_
      refine aw_iconst C (i0 := -1) (v := -1) (by decide) (by decide +kernel) rfl ?_
      refine aw_ixor C (by decide +kernel) rfl ?_
      refine aw_iand C (by decide +kernel) rfl ?_
      obtain ⟨a5, ha5⟩ : ∃ z, z = (v5 &&& (a4 ^^^ (-1 : Int32))) := ⟨_, rfl⟩
      refine aw_nmi ha5 ?_
      have hf := ilt ha5 hf
      refine aw_istore C [(5, .int a5), (8, .int a4), (7, .int a3), (0, .ref (gad G 52)), (2, .int v2), (3, .int v3), (4, .ref (gad G 47)), (6, .int v6)] (by rw [hnL]; decide) rfl (by decide +kernel) rfl ?_
      refine aw_iload_n C 2 4 (j := 2) rfl rfl (by decide +kernel) rfl ?_
      refine aw_if_le C (tgt := 71) (off := 23) (by decide +kernel) (by decide) rfl (fun c6 => ?_) (fun c6 => ?_)
      · have hf := ift c6 hf
        refine aw_iconst C (i0 := 0) (v := 0) (by decide) (by decide +kernel) rfl ?_
        refine aw_sub [(0, .ref (gad G 52)), (2, .int v2), (3, .int v3), (4, .ref (gad G 47)), (5, .int a5), (6, .int v6), (8, .int a4)] [3, 4, 5, 6, 0, 7, 1] rfl ?_
        exact t_Cov_listRuns_72 C CR0 E hnL hgd hgr hgs k6 hk6 v2 v3 a5 v6 a4 (0 : Int32) _ hf
      · have hf := iff_ c6 hf
        refine aw_aload_n C 0 3 (j := 0) rfl rfl (by decide +kernel) rfl ?_
        refine aw_getr C (k := 0) fc_1 (lc_52 E) rfl (by decide) tb_331 (by decide +kernel) rfl ?_
        refine aw_iload_n C 2 4 (j := 2) rfl rfl (by decide +kernel) rfl ?_
        refine aw_iconst C (i0 := 1) (v := 1) (by decide) (by decide +kernel) rfl ?_
        refine aw_isub C (by decide +kernel) rfl ?_
        obtain ⟨g7, hf⟩ := igd hf
        refine aw_iald C (lc_53 E) g7 (by decide +kernel) rfl ?_
        refine aw_iload C 8 1 rfl (by decide +kernel) rfl ?_
        refine aw_iand C (by decide +kernel) rfl ?_
        refine aw_iload C 8 1 rfl (by decide +kernel) rfl ?_
        refine aw_icmp_ne C (tgt := 71) (off := 7) (by decide +kernel) (by decide) rfl (fun c8 => ?_) (fun c8 => ?_)
        · have hf := ift c8 hf
          refine aw_iconst C (i0 := 1) (v := 1) (by decide) (by decide +kernel) rfl ?_
          refine aw_goto C (tgt := 72) (off := 4) (by decide +kernel) (by decide) ?_
          refine aw_sub [(0, .ref (gad G 52)), (2, .int v2), (3, .int v3), (4, .ref (gad G 47)), (5, .int a5), (6, .int v6), (8, .int a4)] [3, 4, 5, 6, 0, 7, 1] rfl ?_
          exact t_Cov_listRuns_72 C CR0 E hnL hgd hgr hgs k6 hk6 v2 v3 a5 v6 a4 (1 : Int32) _ hf
        · have hf := iff_ c8 hf
          refine aw_iconst C (i0 := 0) (v := 0) (by decide) (by decide +kernel) rfl ?_
          refine aw_sub [(0, .ref (gad G 52)), (2, .int v2), (3, .int v3), (4, .ref (gad G 47)), (5, .int a5), (6, .int v6), (8, .int a4)] [3, 4, 5, 6, 0, 7, 1] rfl ?_
          exact t_Cov_listRuns_72 C CR0 E hnL hgd hgr hgs k6 hk6 v2 v3 a5 v6 a4 (0 : Int32) _ hf
theorem u_Cov_listRuns_6 {G : Cx} (C : CX G prog_3_method_5_code "PaperStars$Cover") (CR0 : CR G (Option.none)) (E : LCin (gly G)) (hnL : gnL G = 11) (hgd : 2 ≤ gd G) {q : Unit × Mm} (hgr : gr G = none) (hgs : gsf G = q.2) : ∀ (n : Nat) (v2 : Int32) (v3 : Int32) (v5 : Int32) (v6 : Int32) (st : Mm), f_Cov_listRuns_6 n v2 v3 v5 v6 st = some q → AW G st 6 [(0, .ref (gad G 52)), (2, .int v2), (3, .int v3), (4, .ref (gad G 47)), (5, .int v5), (6, .int v6)] [] := by
  intro n
  induction n with
  | zero => intro v2 v3 v5 v6 st hf; cases hf
  | succ n ih => intro v2 v3 v5 v6 st hf; exact t_Cov_listRuns_6 C CR0 E hnL hgd hgr hgs (f_Cov_listRuns_6 n) ih v2 v3 v5 v6 st hf
theorem t_Cov_listRuns {G : Cx} (C : CX G prog_3_method_5_code "PaperStars$Cover") (CR0 : CR G (Option.none)) (E : LCin (gly G)) (hnL : gnL G = 11) (hgd : 2 ≤ gd G) {q : Unit × Mm} (hgr : gr G = none) (hgs : gsf G = q.2) (v1 : Int32) (v2 : Int32) (v3 : Int32) (st : Mm) (hf : f_Cov_listRuns v1 v2 v3 st = some q) : AW G st 0 [(0, .ref (gad G 52)), (1, .int v1), (2, .int v2), (3, .int v3), (4, .ref (gad G 47))] [] := by
  unfold f_Cov_listRuns at hf
  refine aw_iload_n C 1 1 (j := 1) rfl rfl (by decide +kernel) rfl ?_
  refine aw_istore C [(5, .int v1), (0, .ref (gad G 52)), (1, .int v1), (2, .int v2), (3, .int v3), (4, .ref (gad G 47))] (by rw [hnL]; decide) rfl (by decide +kernel) rfl ?_
  refine aw_iconst C (i0 := 0) (v := 0) (by decide) (by decide +kernel) rfl ?_
  refine aw_istore C [(6, .int (0 : Int32)), (5, .int v1), (0, .ref (gad G 52)), (1, .int v1), (2, .int v2), (3, .int v3), (4, .ref (gad G 47))] (by rw [hnL]; decide) rfl (by decide +kernel) rfl ?_
  refine aw_sub [(0, .ref (gad G 52)), (2, .int v2), (3, .int v3), (4, .ref (gad G 47)), (5, .int v1), (6, .int (0 : Int32))] [2, 4, 5, 6, 1, 0] rfl ?_
  exact u_Cov_listRuns_6 C CR0 E hnL hgd hgr hgs _ v2 v3 v1 (0 : Int32) _ hf
theorem c_Cov_listRuns {lay : Ly} (E : LCin lay) (v1 : Int32) (v2 : Int32) (v3 : Int32) (st : Mm) (q : Unit × Mm) (hf : f_Cov_listRuns v1 v2 v3 st = some q) : Con 2 Y110 prog_3_method_5_code 11 (Option.none) lay (fun ad => [.ref (ad 52), .int v1, .int v2, .int v3, .ref (ad 47)]) st (none) q.2 :=
  am_met yf_110.2.2.2.2.2 (fun ad => Nat.le_of_ble_eq_true rfl) (fun G C CR0 e1 e2 e3 e4 e5 => t_Cov_listRuns C CR0 (by rw [e1]; exact E) e2 (Nat.le_of_eq e5.symm) e3 e4 v1 v2 v3 st hf)
def b_Cov_listBoxes_65 (k7 : Int32 → Mm → Option (Unit × Mm)) (v2 : Int32) (st : Mm) : Option (Unit × Mm) :=
  lt_ (v2 + (1 : Int32)) (fun a1 => k7 a1 st)
def b_Cov_listBoxes_27 (k7 : Int32 → Mm → Option (Unit × Mm)) (k27 : Int32 → Int32 → Int32 → Mm → Option (Unit × Mm)) (v2 : Int32) (v3 : Int32) (v4 : Int32) (st : Mm) : Option (Unit × Mm) :=
  if (st.1 47 2) ≤ v4 then (b_Cov_listBoxes_65 k7 v2 st) else (if v3 = 0 then (b_Cov_listBoxes_65 k7 v2 st) else (if inb v4 16 then lt_ (v3 &&& (st.1 53 v4.toNatClampNeg)) (fun a4 => (f_Cov_listRuns a4 v2 v4 st).bind (fun q5 => lt_ (v4 + (1 : Int32)) (fun a6 => k27 v2 a4 a6 q5.2))) else none))
def f_Cov_listBoxes_27 (k7 : Int32 → Mm → Option (Unit × Mm)) : Nat → Int32 → Int32 → Int32 → Mm → Option (Unit × Mm)
  | 0 => fun _ _ _ _ => none
  | n + 1 => b_Cov_listBoxes_27 k7 (f_Cov_listBoxes_27 k7 n)
def b_Cov_listBoxes_7 (k7 : Int32 → Mm → Option (Unit × Mm)) (v2 : Int32) (st : Mm) : Option (Unit × Mm) :=
  if (st.1 47 2) ≤ v2 then (some ((), st)) else (lt_ (((1 : Int32) <<< ((st.1 47 1) &&& 31)) - (1 : Int32)) (fun a2 => f_Cov_listBoxes_27 k7 1000000 v2 a2 v2 st))
def f_Cov_listBoxes_7 : Nat → Int32 → Mm → Option (Unit × Mm)
  | 0 => fun _ _ => none
  | n + 1 => b_Cov_listBoxes_7 (f_Cov_listBoxes_7 n)
def f_Cov_listBoxes (st : Mm) : Option (Unit × Mm) :=
  f_Cov_listBoxes_7 1000000 (0 : Int32) (sI st 52 3 (0 : Int32))
theorem t_Cov_listBoxes_65 {G : Cx} (C : CX G prog_3_method_4_code "PaperStars$Cover") (CR0 : CR G (Option.none)) (E : LCin (gly G)) (hnL : gnL G = 5) (hgd : 3 ≤ gd G) {q : Unit × Mm} (hgr : gr G = none) (hgs : gsf G = q.2) (k7 : Int32 → Mm → Option (Unit × Mm)) (hk7 : ∀ (v2 : Int32) (st : Mm), k7 v2 st = some q → AW G st 7 [(0, .ref (gad G 52)), (1, .ref (gad G 47)), (2, .int v2)] []) (v2 : Int32) (st : Mm) (hf : b_Cov_listBoxes_65 k7 v2 st = some q) : AW G st 65 [(0, .ref (gad G 52)), (1, .ref (gad G 47)), (2, .int v2)] [] := by
  unfold b_Cov_listBoxes_65 at hf
  obtain ⟨a1, ha1⟩ : ∃ z, z = (v2 + (1 : Int32)) := ⟨_, rfl⟩
  have hf := ilt ha1 hf
  refine aw_iinc C [(2, .int a1), (0, .ref (gad G 52)), (1, .ref (gad G 47))] 2 (n := 1) rfl (by rw [ha1]; rfl) (by rw [hnL]; decide) rfl (by decide +kernel) rfl ?_
  refine aw_goto C (tgt := 7) (off := -61) (by decide +kernel) (by decide) ?_
  refine aw_sub [(0, .ref (gad G 52)), (1, .ref (gad G 47)), (2, .int a1)] [1, 2, 0] rfl ?_
  exact hk7 a1 _ hf
theorem t_Cov_listBoxes_27 {G : Cx} (C : CX G prog_3_method_4_code "PaperStars$Cover") (CR0 : CR G (Option.none)) (E : LCin (gly G)) (hnL : gnL G = 5) (hgd : 3 ≤ gd G) {q : Unit × Mm} (hgr : gr G = none) (hgs : gsf G = q.2) (k7 : Int32 → Mm → Option (Unit × Mm)) (k27 : Int32 → Int32 → Int32 → Mm → Option (Unit × Mm)) (hk7 : ∀ (v2 : Int32) (st : Mm), k7 v2 st = some q → AW G st 7 [(0, .ref (gad G 52)), (1, .ref (gad G 47)), (2, .int v2)] []) (hk27 : ∀ (v2 : Int32) (v3 : Int32) (v4 : Int32) (st : Mm), k27 v2 v3 v4 st = some q → AW G st 27 [(0, .ref (gad G 52)), (1, .ref (gad G 47)), (2, .int v2), (3, .int v3), (4, .int v4)] []) (v2 : Int32) (v3 : Int32) (v4 : Int32) (st : Mm) (hf : b_Cov_listBoxes_27 k7 k27 v2 v3 v4 st = some q) : AW G st 27 [(0, .ref (gad G 52)), (1, .ref (gad G 47)), (2, .int v2), (3, .int v3), (4, .int v4)] [] := by
  unfold b_Cov_listBoxes_27 at hf
  refine aw_iload C 4 4 rfl (by decide +kernel) rfl ?_
  refine aw_aload_n C 1 1 (j := 1) rfl rfl (by decide +kernel) rfl ?_
  refine aw_get C (k := 2) fc_3 (lc_47 E) rfl (by decide) tb_110 (by decide +kernel) rfl ?_
  refine aw_icmp_ge C (tgt := 65) (off := 32) (by decide +kernel) (by decide) rfl (fun c1 => ?_) (fun c1 => ?_)
  · have hf := ift c1 hf
    refine aw_sub [(0, .ref (gad G 52)), (1, .ref (gad G 47)), (2, .int v2)] [0, 1, 2] rfl ?_
    exact t_Cov_listBoxes_65 C CR0 E hnL hgd hgr hgs k7 hk7 v2 _ hf
  · have hf := iff_ c1 hf
    refine aw_iload_n C 3 3 (j := 3) rfl rfl (by decide +kernel) rfl ?_
    refine aw_if_eq C (tgt := 65) (off := 28) (by decide +kernel) (by decide) rfl (fun c2 => ?_) (fun c2 => ?_)
    · have hf := ift c2 hf
      refine aw_sub [(0, .ref (gad G 52)), (1, .ref (gad G 47)), (2, .int v2)] [0, 1, 2] rfl ?_
      exact t_Cov_listBoxes_65 C CR0 E hnL hgd hgr hgs k7 hk7 v2 _ hf
    · have hf := iff_ c2 hf
      refine aw_iload_n C 3 3 (j := 3) rfl rfl (by decide +kernel) rfl ?_
      refine aw_aload_n C 0 0 (j := 0) rfl rfl (by decide +kernel) rfl ?_
      refine aw_getr C (k := 0) fc_1 (lc_52 E) rfl (by decide) tb_331 (by decide +kernel) rfl ?_
      refine aw_iload C 4 4 rfl (by decide +kernel) rfl ?_
      obtain ⟨g3, hf⟩ := igd hf
      refine aw_iald C (lc_53 E) g3 (by decide +kernel) rfl ?_
      refine aw_iand C (by decide +kernel) rfl ?_
      obtain ⟨a4, ha4⟩ : ∃ z, z = (v3 &&& (st.1 53 v4.toNatClampNeg)) := ⟨_, rfl⟩
      refine aw_nmi ha4 ?_
      have hf := ilt ha4 hf
      refine aw_istore_n C [(3, .int a4), (0, .ref (gad G 52)), (1, .ref (gad G 47)), (2, .int v2), (4, .int v4)] (j := 3) rfl (by rw [hnL]; decide) rfl (by decide +kernel) rfl ?_
      refine aw_aload_n C 0 1 (j := 0) rfl rfl (by decide +kernel) rfl ?_
      refine aw_iload_n C 3 0 (j := 3) rfl rfl (by decide +kernel) rfl ?_
      refine aw_iload_n C 2 3 (j := 2) rfl rfl (by decide +kernel) rfl ?_
      refine aw_iload C 4 4 rfl (by decide +kernel) rfl ?_
      refine aw_aload_n C 1 2 (j := 1) rfl rfl (by decide +kernel) rfl ?_
      obtain ⟨q5, hq5, hf⟩ := ibd hf
      refine aw_callV C (rest := []) (c_Cov_listRuns E a4 v2 v4 _ q5 hq5) tb_813 yf_110 yi_110 (lc_52 E) [.int a4, .int v2, .int v4, .ref (gad G 47)] rfl rfl _ rfl (Nat.le_trans (by decide) hgd) (Nat.le_of_ble_eq_true rfl) (by decide +kernel) rfl ?_
      show AW _ _ _ _ []
      obtain ⟨a6, ha6⟩ : ∃ z, z = (v4 + (1 : Int32)) := ⟨_, rfl⟩
      have hf := ilt ha6 hf
      refine aw_iinc C [(4, .int a6), (3, .int a4), (0, .ref (gad G 52)), (1, .ref (gad G 47)), (2, .int v2)] 4 (n := 1) rfl (by rw [ha6]; rfl) (by rw [hnL]; decide) rfl (by decide +kernel) rfl ?_
      refine aw_goto C (tgt := 27) (off := -35) (by decide +kernel) (by decide) ?_
      refine aw_sub [(0, .ref (gad G 52)), (1, .ref (gad G 47)), (2, .int v2), (3, .int a4), (4, .int a6)] [2, 3, 4, 1, 0] rfl ?_
      exact hk27 v2 a4 a6 _ hf
theorem u_Cov_listBoxes_27 {G : Cx} (C : CX G prog_3_method_4_code "PaperStars$Cover") (CR0 : CR G (Option.none)) (E : LCin (gly G)) (hnL : gnL G = 5) (hgd : 3 ≤ gd G) {q : Unit × Mm} (hgr : gr G = none) (hgs : gsf G = q.2) (k7 : Int32 → Mm → Option (Unit × Mm)) (hk7 : ∀ (v2 : Int32) (st : Mm), k7 v2 st = some q → AW G st 7 [(0, .ref (gad G 52)), (1, .ref (gad G 47)), (2, .int v2)] []) : ∀ (n : Nat) (v2 : Int32) (v3 : Int32) (v4 : Int32) (st : Mm), f_Cov_listBoxes_27 k7 n v2 v3 v4 st = some q → AW G st 27 [(0, .ref (gad G 52)), (1, .ref (gad G 47)), (2, .int v2), (3, .int v3), (4, .int v4)] [] := by
  intro n
  induction n with
  | zero => intro v2 v3 v4 st hf; cases hf
  | succ n ih => intro v2 v3 v4 st hf; exact t_Cov_listBoxes_27 C CR0 E hnL hgd hgr hgs k7 (f_Cov_listBoxes_27 k7 n) hk7 ih v2 v3 v4 st hf
theorem t_Cov_listBoxes_7 {G : Cx} (C : CX G prog_3_method_4_code "PaperStars$Cover") (CR0 : CR G (Option.none)) (E : LCin (gly G)) (hnL : gnL G = 5) (hgd : 3 ≤ gd G) {q : Unit × Mm} (hgr : gr G = none) (hgs : gsf G = q.2) (k7 : Int32 → Mm → Option (Unit × Mm)) (hk7 : ∀ (v2 : Int32) (st : Mm), k7 v2 st = some q → AW G st 7 [(0, .ref (gad G 52)), (1, .ref (gad G 47)), (2, .int v2)] []) (v2 : Int32) (st : Mm) (hf : b_Cov_listBoxes_7 k7 v2 st = some q) : AW G st 7 [(0, .ref (gad G 52)), (1, .ref (gad G 47)), (2, .int v2)] [] := by
  unfold b_Cov_listBoxes_7 at hf
  refine aw_iload_n C 2 2 (j := 2) rfl rfl (by decide +kernel) rfl ?_
  refine aw_aload_n C 1 1 (j := 1) rfl rfl (by decide +kernel) rfl ?_
  refine aw_get C (k := 2) fc_3 (lc_47 E) rfl (by decide) tb_110 (by decide +kernel) rfl ?_
  refine aw_icmp_ge C (tgt := 71) (off := 59) (by decide +kernel) (by decide) rfl (fun c1 => ?_) (fun c1 => ?_)
  · have hf := ift c1 hf
    exact aw_vretq C CR0 hgr hgs hf (by decide +kernel)
  · have hf := iff_ c1 hf
    refine aw_iconst C (i0 := 1) (v := 1) (by decide) (by decide +kernel) rfl ?_
    refine aw_aload_n C 1 1 (j := 1) rfl rfl (by decide +kernel) rfl ?_
    refine aw_get C (k := 1) fc_3 (lc_47 E) rfl (by decide) tb_106 (by decide +kernel) rfl ?_
    refine aw_ishl C (by decide +kernel) rfl ?_
    refine aw_iconst C (i0 := 1) (v := 1) (by decide) (by decide +kernel) rfl ?_
    refine aw_isub C (by decide +kernel) rfl ?_
    obtain ⟨a2, ha2⟩ : ∃ z, z = (((1 : Int32) <<< ((st.1 47 1) &&& 31)) - (1 : Int32)) := ⟨_, rfl⟩
    refine aw_nmi ha2 ?_
    have hf := ilt ha2 hf
    refine aw_istore_n C [(3, .int a2), (0, .ref (gad G 52)), (1, .ref (gad G 47)), (2, .int v2)] (j := 3) rfl (by rw [hnL]; decide) rfl (by decide +kernel) rfl ?_
    refine aw_iload_n C 2 3 (j := 2) rfl rfl (by decide +kernel) rfl ?_
    refine aw_istore C [(4, .int v2), (3, .int a2), (0, .ref (gad G 52)), (1, .ref (gad G 47)), (2, .int v2)] (by rw [hnL]; decide) rfl (by decide +kernel) rfl ?_
    refine aw_sub [(0, .ref (gad G 52)), (1, .ref (gad G 47)), (2, .int v2), (3, .int a2), (4, .int v2)] [2, 3, 4, 1, 0] rfl ?_
    exact u_Cov_listBoxes_27 C CR0 E hnL hgd hgr hgs k7 hk7 _ v2 a2 v2 _ hf
theorem u_Cov_listBoxes_7 {G : Cx} (C : CX G prog_3_method_4_code "PaperStars$Cover") (CR0 : CR G (Option.none)) (E : LCin (gly G)) (hnL : gnL G = 5) (hgd : 3 ≤ gd G) {q : Unit × Mm} (hgr : gr G = none) (hgs : gsf G = q.2) : ∀ (n : Nat) (v2 : Int32) (st : Mm), f_Cov_listBoxes_7 n v2 st = some q → AW G st 7 [(0, .ref (gad G 52)), (1, .ref (gad G 47)), (2, .int v2)] [] := by
  intro n
  induction n with
  | zero => intro v2 st hf; cases hf
  | succ n ih => intro v2 st hf; exact t_Cov_listBoxes_7 C CR0 E hnL hgd hgr hgs (f_Cov_listBoxes_7 n) ih v2 st hf
theorem t_Cov_listBoxes {G : Cx} (C : CX G prog_3_method_4_code "PaperStars$Cover") (CR0 : CR G (Option.none)) (E : LCin (gly G)) (hnL : gnL G = 5) (hgd : 3 ≤ gd G) {q : Unit × Mm} (hgr : gr G = none) (hgs : gsf G = q.2) (st : Mm) (hf : f_Cov_listBoxes st = some q) : AW G st 0 [(0, .ref (gad G 52)), (1, .ref (gad G 47))] [] := by
  unfold f_Cov_listBoxes at hf
  refine aw_aload_n C 0 0 (j := 0) rfl rfl (by decide +kernel) rfl ?_
  refine aw_iconst C (i0 := 0) (v := 0) (by decide) (by decide +kernel) rfl ?_
  refine aw_put C (k := 3) fc_1 (lc_52 E) rfl (by decide) rfl rfl tb_334 (by decide +kernel) rfl ?_
  refine aw_iconst C (i0 := 0) (v := 0) (by decide) (by decide +kernel) rfl ?_
  refine aw_istore_n C [(2, .int (0 : Int32)), (0, .ref (gad G 52)), (1, .ref (gad G 47))] (j := 2) rfl (by rw [hnL]; decide) rfl (by decide +kernel) rfl ?_
  refine aw_sub [(0, .ref (gad G 52)), (1, .ref (gad G 47)), (2, .int (0 : Int32))] [1, 2, 0] rfl ?_
  exact u_Cov_listBoxes_7 C CR0 E hnL hgd hgr hgs _ (0 : Int32) _ hf
theorem c_Cov_listBoxes {lay : Ly} (E : LCin lay) (st : Mm) (q : Unit × Mm) (hf : f_Cov_listBoxes st = some q) : Con 3 Y109 prog_3_method_4_code 5 (Option.none) lay (fun ad => [.ref (ad 52), .ref (ad 47)]) st (none) q.2 :=
  am_met yf_109.2.2.2.2.2 (fun ad => Nat.le_of_ble_eq_true rfl) (fun G C CR0 e1 e2 e3 e4 e5 => t_Cov_listBoxes C CR0 (by rw [e1]; exact E) e2 (Nat.le_of_eq e5.symm) e3 e4 st hf)
def b_Cov_numberPlaces_126 (k8 : Int64 → Int32 → Int32 → Mm → Option (Int64 × Mm)) (v2 : Int64) (v4 : Int32) (v5 : Int32) (st : Mm) : Option (Int64 × Mm) :=
  lt_ (v5 + (1 : Int32)) (fun a1 => k8 v2 v4 a1 st)
def b_Cov_numberPlaces_58 (k8 : Int64 → Int32 → Int32 → Mm → Option (Int64 × Mm)) (k58 : Int64 → Int32 → Int32 → Int32 → Mm → Option (Int64 × Mm)) (v2 : Int64) (v4 : Int32) (v5 : Int32) (v6 : Int32) (st : Mm) : Option (Int64 × Mm) :=
  if (st.1 47 1) ≤ v6 then (b_Cov_numberPlaces_126 k8 v2 v4 v5 st) else ((f_Fold_holds 47 48 49 v6 v5 st).bind (fun q2 => if q2.1 = 0 then (lt_ (v6 + (1 : Int32)) (fun a4 => k58 v2 v4 v5 a4 q2.2)) else ((f_x_cellAt v6 v5 q2.2).bind (fun q5 => if inb q5.1 256 then if inb v5 16 then lt_ (v2 ||| ((((((sI q5.2 54 q5.1.toNatClampNeg v4).1 50 v5.toNatClampNeg) >>> (v6 &&& 31)) &&& (1 : Int32)).toInt64) <<< (v4.toInt64 &&& 63))) (fun a8 => lt_ (v4 + (1 : Int32)) (fun a9 => lt_ (v6 + (1 : Int32)) (fun a10 => k58 a8 a9 v5 a10 (sI q5.2 54 q5.1.toNatClampNeg v4)))) else none else none))))
def f_Cov_numberPlaces_58 (k8 : Int64 → Int32 → Int32 → Mm → Option (Int64 × Mm)) : Nat → Int64 → Int32 → Int32 → Int32 → Mm → Option (Int64 × Mm)
  | 0 => fun _ _ _ _ _ => none
  | n + 1 => b_Cov_numberPlaces_58 k8 (f_Cov_numberPlaces_58 k8 n)
def b_Cov_numberPlaces_8 (k8 : Int64 → Int32 → Int32 → Mm → Option (Int64 × Mm)) (v2 : Int64) (v4 : Int32) (v5 : Int32) (st : Mm) : Option (Int64 × Mm) :=
  if (st.1 47 2) ≤ v5 then (some (v2, st)) else (if inb v5 16 then if (st.1 47 3) = 0 then (lt_ ((st.1 50 v5.toNatClampNeg) ||| (0 : Int32)) (fun a4 => if inb v5 16 then f_Cov_numberPlaces_58 k8 1000000 v2 v4 v5 (0 : Int32) (sI st 53 v5.toNatClampNeg a4) else none)) else (lt_ ((st.1 50 v5.toNatClampNeg) ||| (((1 : Int32) <<< (v5 &&& 31)) - (1 : Int32))) (fun a6 => if inb v5 16 then f_Cov_numberPlaces_58 k8 1000000 v2 v4 v5 (0 : Int32) (sI st 53 v5.toNatClampNeg a6) else none)) else none)
def f_Cov_numberPlaces_8 : Nat → Int64 → Int32 → Int32 → Mm → Option (Int64 × Mm)
  | 0 => fun _ _ _ _ => none
  | n + 1 => b_Cov_numberPlaces_8 (f_Cov_numberPlaces_8 n)
def f_Cov_numberPlaces (st : Mm) : Option (Int64 × Mm) :=
  f_Cov_numberPlaces_8 1000000 (0 : Int64) (0 : Int32) (0 : Int32) st
theorem t_Cov_numberPlaces_126 {G : Cx} (C : CX G prog_3_method_3_code "PaperStars$Cover") (CR0 : CR G (Option.some FieldType.long)) (E : LCin (gly G)) (hnL : gnL G = 7) (hgd : 1 ≤ gd G) {q : Int64 × Mm} (hgr : gr G = some (.long q.1)) (hgs : gsf G = q.2) (k8 : Int64 → Int32 → Int32 → Mm → Option (Int64 × Mm)) (hk8 : ∀ (v2 : Int64) (v4 : Int32) (v5 : Int32) (st : Mm), k8 v2 v4 v5 st = some q → AW G st 8 [(0, .ref (gad G 52)), (1, .ref (gad G 46)), (2, .long v2), (4, .int v4), (5, .int v5)] []) (v2 : Int64) (v4 : Int32) (v5 : Int32) (st : Mm) (hf : b_Cov_numberPlaces_126 k8 v2 v4 v5 st = some q) : AW G st 126 [(0, .ref (gad G 52)), (1, .ref (gad G 46)), (2, .long v2), (4, .int v4), (5, .int v5)] [] := by
  unfold b_Cov_numberPlaces_126 at hf
  obtain ⟨a1, ha1⟩ : ∃ z, z = (v5 + (1 : Int32)) := ⟨_, rfl⟩
  have hf := ilt ha1 hf
  refine aw_iinc C [(5, .int a1), (0, .ref (gad G 52)), (1, .ref (gad G 46)), (2, .long v2), (4, .int v4)] 4 (n := 1) rfl (by rw [ha1]; rfl) (by rw [hnL]; decide) rfl (by decide +kernel) rfl ?_
  refine aw_goto C (tgt := 8) (off := -121) (by decide +kernel) (by decide) ?_
  refine aw_sub [(0, .ref (gad G 52)), (1, .ref (gad G 46)), (2, .long v2), (4, .int v4), (5, .int a1)] [1, 2, 3, 4, 0] rfl ?_
  exact hk8 v2 v4 a1 _ hf
theorem t_Cov_numberPlaces_58 {G : Cx} (C : CX G prog_3_method_3_code "PaperStars$Cover") (CR0 : CR G (Option.some FieldType.long)) (E : LCin (gly G)) (hnL : gnL G = 7) (hgd : 1 ≤ gd G) {q : Int64 × Mm} (hgr : gr G = some (.long q.1)) (hgs : gsf G = q.2) (k8 : Int64 → Int32 → Int32 → Mm → Option (Int64 × Mm)) (k58 : Int64 → Int32 → Int32 → Int32 → Mm → Option (Int64 × Mm)) (hk8 : ∀ (v2 : Int64) (v4 : Int32) (v5 : Int32) (st : Mm), k8 v2 v4 v5 st = some q → AW G st 8 [(0, .ref (gad G 52)), (1, .ref (gad G 46)), (2, .long v2), (4, .int v4), (5, .int v5)] []) (hk58 : ∀ (v2 : Int64) (v4 : Int32) (v5 : Int32) (v6 : Int32) (st : Mm), k58 v2 v4 v5 v6 st = some q → AW G st 58 [(0, .ref (gad G 52)), (1, .ref (gad G 46)), (2, .long v2), (4, .int v4), (5, .int v5), (6, .int v6)] []) (v2 : Int64) (v4 : Int32) (v5 : Int32) (v6 : Int32) (st : Mm) (hf : b_Cov_numberPlaces_58 k8 k58 v2 v4 v5 v6 st = some q) : AW G st 58 [(0, .ref (gad G 52)), (1, .ref (gad G 46)), (2, .long v2), (4, .int v4), (5, .int v5), (6, .int v6)] [] := by
  unfold b_Cov_numberPlaces_58 at hf
  refine aw_iload C 6 5 rfl (by decide +kernel) rfl ?_
  refine aw_aload_n C 1 1 (j := 1) rfl rfl (by decide +kernel) rfl ?_
  refine aw_getr C (k := 0) fc_2 (lc_46 E) rfl (by decide) tb_305 (by decide +kernel) rfl ?_
  refine aw_get C (k := 1) fc_3 (lc_47 E) rfl (by decide) tb_106 (by decide +kernel) rfl ?_
  refine aw_icmp_ge C (tgt := 126) (off := 59) (by decide +kernel) (by decide) rfl (fun c1 => ?_) (fun c1 => ?_)
  · have hf := ift c1 hf
    refine aw_sub [(0, .ref (gad G 52)), (1, .ref (gad G 46)), (2, .long v2), (4, .int v4), (5, .int v5)] [0, 1, 2, 3, 4] rfl ?_
    exact t_Cov_numberPlaces_126 C CR0 E hnL hgd hgr hgs k8 hk8 v2 v4 v5 _ hf
  · have hf := iff_ c1 hf
    refine aw_aload_n C 1 1 (j := 1) rfl rfl (by decide +kernel) rfl ?_
    refine aw_getr C (k := 0) fc_2 (lc_46 E) rfl (by decide) tb_305 (by decide +kernel) rfl ?_
    refine aw_iload C 6 5 rfl (by decide +kernel) rfl ?_
    refine aw_iload C 5 4 rfl (by decide +kernel) rfl ?_
    obtain ⟨q2, hq2, hf⟩ := ibd hf
    refine aw_callV C (rest := []) (c_Fold_holds 47 48 49 ⟨(lc_47 E), (lc_48 E), (lc_49 E)⟩ v6 v5 _ q2 hq2) tb_807 yf_21 yi_21 (lc_47 E) [.int v6, .int v5] rfl rfl _ rfl (Nat.le_trans (by decide) hgd) (Nat.le_of_ble_eq_true rfl) (by decide +kernel) rfl ?_
    show AW _ _ _ _ [.int q2.1]
    refine aw_if_eq C (tgt := 120) (off := 39) (by decide +kernel) (by decide) rfl (fun c3 => ?_) (fun c3 => ?_)
    · have hf := ift c3 hf
      obtain ⟨a4, ha4⟩ : ∃ z, z = (v6 + (1 : Int32)) := ⟨_, rfl⟩
      have hf := ilt ha4 hf
      refine aw_iinc C [(6, .int a4), (0, .ref (gad G 52)), (1, .ref (gad G 46)), (2, .long v2), (4, .int v4), (5, .int v5)] 5 (n := 1) rfl (by rw [ha4]; rfl) (by rw [hnL]; decide) rfl (by decide +kernel) rfl ?_
      refine aw_goto C (tgt := 58) (off := -65) (by decide +kernel) (by decide) ?_
      refine aw_sub [(0, .ref (gad G 52)), (1, .ref (gad G 46)), (2, .long v2), (4, .int v4), (5, .int v5), (6, .int a4)] [1, 2, 3, 4, 5, 0] rfl ?_
      exact hk58 v2 v4 v5 a4 _ hf
    · have hf := iff_ c3 hf
      refine aw_aload_n C 0 0 (j := 0) rfl rfl (by decide +kernel) rfl ?_
      refine aw_getr C (k := 1) fc_1 (lc_52 E) rfl (by decide) tb_332 (by decide +kernel) rfl ?_
      refine aw_iload C 6 5 rfl (by decide +kernel) rfl ?_
      refine aw_iload C 5 4 rfl (by decide +kernel) rfl ?_
      obtain ⟨q5, hq5, hf⟩ := ibd hf
      refine aw_callSN C (rest := [.ref (gad G 54)]) (c_x_cellAt v6 v5 _ q5 hq5) nw_21 yf_22 tb_391 rfl _ rfl (Nat.le_trans (by decide) hgd) (Nat.le_of_ble_eq_true rfl) (by decide +kernel) rfl ?_
      show AW _ _ _ _ [.int q5.1, .ref (gad G 54)]
      refine aw_iload C 4 3 rfl (by decide +kernel) rfl ?_
      obtain ⟨g6, hf⟩ := igd hf
      refine aw_iast C (lc_54 E) g6 (by decide +kernel) rfl ?_
      refine aw_lload_n C 2 2 (j := 2) rfl rfl (by decide +kernel) rfl ?_
      refine aw_aload_n C 1 1 (j := 1) rfl rfl (by decide +kernel) rfl ?_
      refine aw_getr C (k := 1) fc_2 (lc_46 E) rfl (by decide) tb_308 (by decide +kernel) rfl ?_
      refine aw_iload C 5 4 rfl (by decide +kernel) rfl ?_
      obtain ⟨g7, hf⟩ := igd hf
      refine aw_iald C (lc_50 E) g7 (by decide +kernel) rfl ?_
      refine aw_iload C 6 5 rfl (by decide +kernel) rfl ?_
      refine aw_ishr C (by decide +kernel) rfl ?_
      refine aw_iconst C (i0 := 1) (v := 1) (by decide) (by decide +kernel) rfl ?_
      refine aw_iand C (by decide +kernel) rfl ?_
      refine aw_i2l C (by decide +kernel) rfl ?_
      refine aw_iload C 4 3 rfl (by decide +kernel) rfl ?_
      refine aw_lshl C (by decide +kernel) rfl ?_
      refine aw_lor C (by decide +kernel) rfl ?_
      obtain ⟨a8, ha8⟩ : ∃ z, z = (v2 ||| ((((((sI q5.2 54 q5.1.toNatClampNeg v4).1 50 v5.toNatClampNeg) >>> (v6 &&& 31)) &&& (1 : Int32)).toInt64) <<< (v4.toInt64 &&& 63))) := ⟨_, rfl⟩
      refine aw_nml ha8 ?_
      have hf := ilt ha8 hf
      refine aw_lstore_n C [(2, .long a8), (0, .ref (gad G 52)), (1, .ref (gad G 46)), (4, .int v4), (5, .int v5), (6, .int v6)] (j := 2) rfl (by rw [hnL]; decide) rfl (by decide +kernel) rfl ?_
      obtain ⟨a9, ha9⟩ : ∃ z, z = (v4 + (1 : Int32)) := ⟨_, rfl⟩
      have hf := ilt ha9 hf
      refine aw_iinc C [(4, .int a9), (2, .long a8), (0, .ref (gad G 52)), (1, .ref (gad G 46)), (5, .int v5), (6, .int v6)] 3 (n := 1) rfl (by rw [ha9]; rfl) (by rw [hnL]; decide) rfl (by decide +kernel) rfl ?_
      obtain ⟨a10, ha10⟩ : ∃ z, z = (v6 + (1 : Int32)) := ⟨_, rfl⟩
      have hf := ilt ha10 hf
      refine aw_iinc C [(6, .int a10), (4, .int a9), (2, .long a8), (0, .ref (gad G 52)), (1, .ref (gad G 46)), (5, .int v5)] 5 (n := 1) rfl (by rw [ha10]; rfl) (by rw [hnL]; decide) rfl (by decide +kernel) rfl ?_
      refine aw_goto C (tgt := 58) (off := -65) (by decide +kernel) (by decide) ?_
      refine aw_sub [(0, .ref (gad G 52)), (1, .ref (gad G 46)), (2, .long a8), (4, .int a9), (5, .int v5), (6, .int a10)] [3, 4, 2, 1, 5, 0] rfl ?_
      exact hk58 a8 a9 v5 a10 _ hf
theorem u_Cov_numberPlaces_58 {G : Cx} (C : CX G prog_3_method_3_code "PaperStars$Cover") (CR0 : CR G (Option.some FieldType.long)) (E : LCin (gly G)) (hnL : gnL G = 7) (hgd : 1 ≤ gd G) {q : Int64 × Mm} (hgr : gr G = some (.long q.1)) (hgs : gsf G = q.2) (k8 : Int64 → Int32 → Int32 → Mm → Option (Int64 × Mm)) (hk8 : ∀ (v2 : Int64) (v4 : Int32) (v5 : Int32) (st : Mm), k8 v2 v4 v5 st = some q → AW G st 8 [(0, .ref (gad G 52)), (1, .ref (gad G 46)), (2, .long v2), (4, .int v4), (5, .int v5)] []) : ∀ (n : Nat) (v2 : Int64) (v4 : Int32) (v5 : Int32) (v6 : Int32) (st : Mm), f_Cov_numberPlaces_58 k8 n v2 v4 v5 v6 st = some q → AW G st 58 [(0, .ref (gad G 52)), (1, .ref (gad G 46)), (2, .long v2), (4, .int v4), (5, .int v5), (6, .int v6)] [] := by
  intro n
  induction n with
  | zero => intro v2 v4 v5 v6 st hf; cases hf
  | succ n ih => intro v2 v4 v5 v6 st hf; exact t_Cov_numberPlaces_58 C CR0 E hnL hgd hgr hgs k8 (f_Cov_numberPlaces_58 k8 n) hk8 ih v2 v4 v5 v6 st hf
theorem t_Cov_numberPlaces_8 {G : Cx} (C : CX G prog_3_method_3_code "PaperStars$Cover") (CR0 : CR G (Option.some FieldType.long)) (E : LCin (gly G)) (hnL : gnL G = 7) (hgd : 1 ≤ gd G) {q : Int64 × Mm} (hgr : gr G = some (.long q.1)) (hgs : gsf G = q.2) (k8 : Int64 → Int32 → Int32 → Mm → Option (Int64 × Mm)) (hk8 : ∀ (v2 : Int64) (v4 : Int32) (v5 : Int32) (st : Mm), k8 v2 v4 v5 st = some q → AW G st 8 [(0, .ref (gad G 52)), (1, .ref (gad G 46)), (2, .long v2), (4, .int v4), (5, .int v5)] []) (v2 : Int64) (v4 : Int32) (v5 : Int32) (st : Mm) (hf : b_Cov_numberPlaces_8 k8 v2 v4 v5 st = some q) : AW G st 8 [(0, .ref (gad G 52)), (1, .ref (gad G 46)), (2, .long v2), (4, .int v4), (5, .int v5)] [] := by
  unfold b_Cov_numberPlaces_8 at hf
  refine aw_iload C 5 4 rfl (by decide +kernel) rfl ?_
  refine aw_aload_n C 1 1 (j := 1) rfl rfl (by decide +kernel) rfl ?_
  refine aw_getr C (k := 0) fc_2 (lc_46 E) rfl (by decide) tb_305 (by decide +kernel) rfl ?_
  refine aw_get C (k := 2) fc_3 (lc_47 E) rfl (by decide) tb_110 (by decide +kernel) rfl ?_
  refine aw_icmp_ge C (tgt := 132) (off := 115) (by decide +kernel) (by decide) rfl (fun c1 => ?_) (fun c1 => ?_)
  · have hf := ift c1 hf
    refine aw_lload_n C 2 2 (j := 2) rfl rfl (by decide +kernel) rfl ?_
    exact aw_lretq C CR0 hgr hgs hf (by decide +kernel)
  · have hf := iff_ c1 hf
    refine aw_aload_n C 0 0 (j := 0) rfl rfl (by decide +kernel) rfl ?_
    refine aw_getr C (k := 0) fc_1 (lc_52 E) rfl (by decide) tb_331 (by decide +kernel) rfl ?_
    refine aw_iload C 5 4 rfl (by decide +kernel) rfl ?_
    refine aw_aload_n C 1 1 (j := 1) rfl rfl (by decide +kernel) rfl ?_
    refine aw_getr C (k := 1) fc_2 (lc_46 E) rfl (by decide) tb_308 (by decide +kernel) rfl ?_
    refine aw_iload C 5 4 rfl (by decide +kernel) rfl ?_
    obtain ⟨g2, hf⟩ := igd hf
    refine aw_iald C (lc_50 E) g2 (by decide +kernel) rfl ?_
    refine aw_aload_n C 1 1 (j := 1) rfl rfl (by decide +kernel) rfl ?_
    refine aw_getr C (k := 0) fc_2 (lc_46 E) rfl (by decide) tb_305 (by decide +kernel) rfl ?_
    refine aw_get C (k := 3) fc_3 (lc_47 E) rfl (by decide) tb_115 (by decide +kernel) rfl ?_
    refine aw_if_eq C (tgt := 52) (off := 12) (by decide +kernel) (by decide) rfl (fun c3 => ?_) (fun c3 => ?_)
    · have hf := ift c3 hf
      refine aw_iconst C (i0 := 0) (v := 0) (by decide) (by decide +kernel) rfl ?_
      refine aw_ior C (by decide +kernel) rfl ?_
      obtain ⟨a4, ha4⟩ : ∃ z, z = ((st.1 50 v5.toNatClampNeg) ||| (0 : Int32)) := ⟨_, rfl⟩
      refine aw_nmi ha4 ?_
      have hf := ilt ha4 hf
      obtain ⟨g5, hf⟩ := igd hf
      refine aw_iast C (lc_53 E) g5 (by decide +kernel) rfl ?_
      refine aw_iconst C (i0 := 0) (v := 0) (by decide) (by decide +kernel) rfl ?_
      refine aw_istore C [(6, .int (0 : Int32)), (0, .ref (gad G 52)), (1, .ref (gad G 46)), (2, .long v2), (4, .int v4), (5, .int v5)] (by rw [hnL]; decide) rfl (by decide +kernel) rfl ?_
      refine aw_sub [(0, .ref (gad G 52)), (1, .ref (gad G 46)), (2, .long v2), (4, .int v4), (5, .int v5), (6, .int (0 : Int32))] [1, 2, 3, 4, 5, 0] rfl ?_
      exact u_Cov_numberPlaces_58 C CR0 E hnL hgd hgr hgs k8 hk8 _ v2 v4 v5 (0 : Int32) _ hf
    · have hf := iff_ c3 hf
      refine aw_iconst C (i0 := 1) (v := 1) (by decide) (by decide +kernel) rfl ?_
      refine aw_iload C 5 4 rfl (by decide +kernel) rfl ?_
      refine aw_ishl C (by decide +kernel) rfl ?_
      refine aw_iconst C (i0 := 1) (v := 1) (by decide) (by decide +kernel) rfl ?_
      refine aw_isub C (by decide +kernel) rfl ?_
      refine aw_goto C (tgt := 53) (off := 4) (by decide +kernel) (by decide) ?_
      refine aw_ior C (by decide +kernel) rfl ?_
      obtain ⟨a6, ha6⟩ : ∃ z, z = ((st.1 50 v5.toNatClampNeg) ||| (((1 : Int32) <<< (v5 &&& 31)) - (1 : Int32))) := ⟨_, rfl⟩
      refine aw_nmi ha6 ?_
      have hf := ilt ha6 hf
      obtain ⟨g7, hf⟩ := igd hf
      refine aw_iast C (lc_53 E) g7 (by decide +kernel) rfl ?_
      refine aw_iconst C (i0 := 0) (v := 0) (by decide) (by decide +kernel) rfl ?_
      refine aw_istore C [(6, .int (0 : Int32)), (0, .ref (gad G 52)), (1, .ref (gad G 46)), (2, .long v2), (4, .int v4), (5, .int v5)] (by rw [hnL]; decide) rfl (by decide +kernel) rfl ?_
      refine aw_sub [(0, .ref (gad G 52)), (1, .ref (gad G 46)), (2, .long v2), (4, .int v4), (5, .int v5), (6, .int (0 : Int32))] [1, 2, 3, 4, 5, 0] rfl ?_
      exact u_Cov_numberPlaces_58 C CR0 E hnL hgd hgr hgs k8 hk8 _ v2 v4 v5 (0 : Int32) _ hf
theorem u_Cov_numberPlaces_8 {G : Cx} (C : CX G prog_3_method_3_code "PaperStars$Cover") (CR0 : CR G (Option.some FieldType.long)) (E : LCin (gly G)) (hnL : gnL G = 7) (hgd : 1 ≤ gd G) {q : Int64 × Mm} (hgr : gr G = some (.long q.1)) (hgs : gsf G = q.2) : ∀ (n : Nat) (v2 : Int64) (v4 : Int32) (v5 : Int32) (st : Mm), f_Cov_numberPlaces_8 n v2 v4 v5 st = some q → AW G st 8 [(0, .ref (gad G 52)), (1, .ref (gad G 46)), (2, .long v2), (4, .int v4), (5, .int v5)] [] := by
  intro n
  induction n with
  | zero => intro v2 v4 v5 st hf; cases hf
  | succ n ih => intro v2 v4 v5 st hf; exact t_Cov_numberPlaces_8 C CR0 E hnL hgd hgr hgs (f_Cov_numberPlaces_8 n) ih v2 v4 v5 st hf
theorem t_Cov_numberPlaces {G : Cx} (C : CX G prog_3_method_3_code "PaperStars$Cover") (CR0 : CR G (Option.some FieldType.long)) (E : LCin (gly G)) (hnL : gnL G = 7) (hgd : 1 ≤ gd G) {q : Int64 × Mm} (hgr : gr G = some (.long q.1)) (hgs : gsf G = q.2) (st : Mm) (hf : f_Cov_numberPlaces st = some q) : AW G st 0 [(0, .ref (gad G 52)), (1, .ref (gad G 46))] [] := by
  unfold f_Cov_numberPlaces at hf
  refine aw_lconst C (i0 := 0) (v := 0) (by decide) (by decide +kernel) rfl ?_
  refine aw_lstore_n C [(2, .long (0 : Int64)), (0, .ref (gad G 52)), (1, .ref (gad G 46))] (j := 2) rfl (by rw [hnL]; decide) rfl (by decide +kernel) rfl ?_
  refine aw_iconst C (i0 := 0) (v := 0) (by decide) (by decide +kernel) rfl ?_
  refine aw_istore C [(4, .int (0 : Int32)), (2, .long (0 : Int64)), (0, .ref (gad G 52)), (1, .ref (gad G 46))] (by rw [hnL]; decide) rfl (by decide +kernel) rfl ?_
  refine aw_iconst C (i0 := 0) (v := 0) (by decide) (by decide +kernel) rfl ?_
  refine aw_istore C [(5, .int (0 : Int32)), (4, .int (0 : Int32)), (2, .long (0 : Int64)), (0, .ref (gad G 52)), (1, .ref (gad G 46))] (by rw [hnL]; decide) rfl (by decide +kernel) rfl ?_
  refine aw_sub [(0, .ref (gad G 52)), (1, .ref (gad G 46)), (2, .long (0 : Int64)), (4, .int (0 : Int32)), (5, .int (0 : Int32))] [3, 4, 2, 1, 0] rfl ?_
  exact u_Cov_numberPlaces_8 C CR0 E hnL hgd hgr hgs _ (0 : Int64) (0 : Int32) (0 : Int32) _ hf
theorem c_Cov_numberPlaces {lay : Ly} (E : LCin lay) (st : Mm) (q : Int64 × Mm) (hf : f_Cov_numberPlaces st = some q) : Con 1 Y108 prog_3_method_3_code 7 (Option.some FieldType.long) lay (fun ad => [.ref (ad 52), .ref (ad 46)]) st (some (.long q.1)) q.2 :=
  am_met yf_108.2.2.2.2.2 (fun ad => Nat.le_of_ble_eq_true rfl) (fun G C CR0 e1 e2 e3 e4 e5 => t_Cov_numberPlaces C CR0 (by rw [e1]; exact E) e2 (Nat.le_of_eq e5.symm) e3 e4 st hf)
def b_Cov_fewest_17 (k17 : Int64 → Int32 → Mm → Option (Int32 × Mm)) (v2 : Int64) (v4 : Int32) (st : Mm) : Option (Int32 × Mm) :=
  if (4 : Int32) < v4 then (some ((-2 : Int32), st)) else (((R_Cv 6) (st.1 52 3) v2 v4 st).bind (fun q2 => if q2.1 = 0 then (lt_ (v4 + (1 : Int32)) (fun a4 => k17 v2 a4 q2.2)) else (some (v4, q2.2))))
def f_Cov_fewest_17 : Nat → Int64 → Int32 → Mm → Option (Int32 × Mm)
  | 0 => fun _ _ _ => none
  | n + 1 => b_Cov_fewest_17 (f_Cov_fewest_17 n)
def f_Cov_fewest (st : Mm) : Option (Int32 × Mm) :=
  (f_Cov_numberPlaces st).bind (fun q1 => (f_Cov_listBoxes q1.2).bind (fun q2 => f_Cov_fewest_17 1000000 q1.1 (0 : Int32) q2.2))
theorem t_Cov_fewest_17 {G : Cx} (C : CX G prog_3_method_2_code "PaperStars$Cover") (CR0 : CR G (Option.some FieldType.int)) (E : LCin (gly G)) (hnL : gnL G = 5) (hgd : 8 ≤ gd G) {q : Int32 × Mm} (hgr : gr G = some (.int q.1)) (hgs : gsf G = q.2) (k17 : Int64 → Int32 → Mm → Option (Int32 × Mm)) (hk17 : ∀ (v2 : Int64) (v4 : Int32) (st : Mm), k17 v2 v4 st = some q → AW G st 17 [(0, .ref (gad G 52)), (2, .long v2), (4, .int v4)] []) (v2 : Int64) (v4 : Int32) (st : Mm) (hf : b_Cov_fewest_17 k17 v2 v4 st = some q) : AW G st 17 [(0, .ref (gad G 52)), (2, .long v2), (4, .int v4)] [] := by
  unfold b_Cov_fewest_17 at hf
  refine aw_iload C 4 2 rfl (by decide +kernel) rfl ?_
  refine aw_iconst C (i0 := 4) (v := 4) (by decide) (by decide +kernel) rfl ?_
  refine aw_icmp_gt C (tgt := 49) (off := 29) (by decide +kernel) (by decide) rfl (fun c1 => ?_) (fun c1 => ?_)
  · have hf := ift c1 hf
    refine aw_bipush C (i0 := -2) (v := -2) (by decide) (by decide +kernel) rfl ?_
    exact aw_iretq C CR0 hgr hgs hf (by decide +kernel)
  · have hf := iff_ c1 hf
    refine aw_aload_n C 0 0 (j := 0) rfl rfl (by decide +kernel) rfl ?_
    refine aw_getr C (k := 2) fc_1 (lc_52 E) rfl (by decide) tb_333 (by decide +kernel) rfl ?_
    refine aw_aload_n C 0 0 (j := 0) rfl rfl (by decide +kernel) rfl ?_
    refine aw_get C (k := 3) fc_1 (lc_52 E) rfl (by decide) tb_334 (by decide +kernel) rfl ?_
    refine aw_lload_n C 2 1 (j := 2) rfl rfl (by decide +kernel) rfl ?_
    refine aw_iload C 4 2 rfl (by decide +kernel) rfl ?_
    obtain ⟨q2, hq2, hf⟩ := ibd hf
    refine aw_callS C (rest := []) ((rc_Cv E 6) (st.1 52 3) v2 v4 _ q2 hq2) tb_821 yf_112 tb_822 rfl _ rfl (Nat.le_trans (by decide) hgd) (Nat.le_of_ble_eq_true rfl) (by decide +kernel) rfl ?_
    show AW _ _ _ _ [.int q2.1]
    refine aw_if_eq C (tgt := 43) (off := 6) (by decide +kernel) (by decide) rfl (fun c3 => ?_) (fun c3 => ?_)
    · have hf := ift c3 hf
      obtain ⟨a4, ha4⟩ : ∃ z, z = (v4 + (1 : Int32)) := ⟨_, rfl⟩
      have hf := ilt ha4 hf
      refine aw_iinc C [(4, .int a4), (0, .ref (gad G 52)), (2, .long v2)] 2 (n := 1) rfl (by rw [ha4]; rfl) (by rw [hnL]; decide) rfl (by decide +kernel) rfl ?_
      refine aw_goto C (tgt := 17) (off := -29) (by decide +kernel) (by decide) ?_
      refine aw_sub [(0, .ref (gad G 52)), (2, .long v2), (4, .int a4)] [1, 2, 0] rfl ?_
      exact hk17 v2 a4 _ hf
    · have hf := iff_ c3 hf
      refine aw_iload C 4 2 rfl (by decide +kernel) rfl ?_
      exact aw_iretq C CR0 hgr hgs hf (by decide +kernel)
theorem u_Cov_fewest_17 {G : Cx} (C : CX G prog_3_method_2_code "PaperStars$Cover") (CR0 : CR G (Option.some FieldType.int)) (E : LCin (gly G)) (hnL : gnL G = 5) (hgd : 8 ≤ gd G) {q : Int32 × Mm} (hgr : gr G = some (.int q.1)) (hgs : gsf G = q.2) : ∀ (n : Nat) (v2 : Int64) (v4 : Int32) (st : Mm), f_Cov_fewest_17 n v2 v4 st = some q → AW G st 17 [(0, .ref (gad G 52)), (2, .long v2), (4, .int v4)] [] := by
  intro n
  induction n with
  | zero => intro v2 v4 st hf; cases hf
  | succ n ih => intro v2 v4 st hf; exact t_Cov_fewest_17 C CR0 E hnL hgd hgr hgs (f_Cov_fewest_17 n) ih v2 v4 st hf
theorem t_Cov_fewest {G : Cx} (C : CX G prog_3_method_2_code "PaperStars$Cover") (CR0 : CR G (Option.some FieldType.int)) (E : LCin (gly G)) (hnL : gnL G = 5) (hgd : 8 ≤ gd G) {q : Int32 × Mm} (hgr : gr G = some (.int q.1)) (hgs : gsf G = q.2) (st : Mm) (hf : f_Cov_fewest st = some q) : AW G st 0 [(0, .ref (gad G 52)), (1, .ref (gad G 46))] [] := by
  unfold f_Cov_fewest at hf
  refine aw_aload_n C 0 0 (j := 0) rfl rfl (by decide +kernel) rfl ?_
  refine aw_aload_n C 1 1 (j := 1) rfl rfl (by decide +kernel) rfl ?_
  obtain ⟨q1, hq1, hf⟩ := ibd hf
  refine aw_callV C (rest := []) (c_Cov_numberPlaces E _ q1 hq1) tb_803 yf_108 yi_108 (lc_52 E) [.ref (gad G 46)] rfl rfl _ rfl (Nat.le_trans (by decide) hgd) (Nat.le_of_ble_eq_true rfl) (by decide +kernel) rfl ?_
  show AW _ _ _ _ [.long q1.1]
  refine aw_lstore_n C [(2, .long q1.1), (0, .ref (gad G 52)), (1, .ref (gad G 46))] (j := 2) rfl (by rw [hnL]; decide) rfl (by decide +kernel) rfl ?_
  refine aw_aload_n C 0 1 (j := 0) rfl rfl (by decide +kernel) rfl ?_
  refine aw_aload_n C 1 2 (j := 1) rfl rfl (by decide +kernel) rfl ?_
  refine aw_getr C (k := 0) fc_2 (lc_46 E) rfl (by decide) tb_305 (by decide +kernel) rfl ?_
  obtain ⟨q2, hq2, hf⟩ := ibd hf
  refine aw_callV C (rest := []) (c_Cov_listBoxes E _ q2 hq2) tb_809 yf_109 yi_109 (lc_52 E) [.ref (gad G 47)] rfl rfl _ rfl (Nat.le_trans (by decide) hgd) (Nat.le_of_ble_eq_true rfl) (by decide +kernel) rfl ?_
  show AW _ _ _ _ []
  refine aw_iconst C (i0 := 0) (v := 0) (by decide) (by decide +kernel) rfl ?_
  refine aw_istore C [(4, .int (0 : Int32)), (2, .long q1.1), (0, .ref (gad G 52)), (1, .ref (gad G 46))] (by rw [hnL]; decide) rfl (by decide +kernel) rfl ?_
  refine aw_sub [(0, .ref (gad G 52)), (2, .long q1.1), (4, .int (0 : Int32))] [2, 1, 0] rfl ?_
  exact u_Cov_fewest_17 C CR0 E hnL hgd hgr hgs _ q1.1 (0 : Int32) _ hf
theorem c_Cov_fewest {lay : Ly} (E : LCin lay) (st : Mm) (q : Int32 × Mm) (hf : f_Cov_fewest st = some q) : Con 8 Y107 prog_3_method_2_code 5 (Option.some FieldType.int) lay (fun ad => [.ref (ad 52), .ref (ad 46)]) st (some (.int q.1)) q.2 :=
  am_met yf_107.2.2.2.2.2 (fun ad => Nat.le_of_ble_eq_true rfl) (fun G C CR0 e1 e2 e3 e4 e5 => t_Cov_fewest C CR0 (by rw [e1]; exact E) e2 (Nat.le_of_eq e5.symm) e3 e4 st hf)
def f_x_snips (v1 : Int32) (v2 : Int32) (v3 : Int32) (st : Mm) : Option (Int32 × Mm) :=
  (f_Fit_fold (st.1 1 0) v1 v2 v3 st).bind (fun q1 => if q1.1 = 0 then (some ((-1 : Int32), q1.2)) else ((f_Fold_places 47 48 49 q1.2).bind (fun q3 => if q3.1 ≤ (64 : Int32) then ((f_Fit_match q3.2).bind (fun q5 => if q5.1 = 0 then (some ((-3 : Int32), q5.2)) else ((f_Cov_fewest q5.2).bind (fun q7 => some (q7.1, q7.2))))) else (some ((-4 : Int32), q3.2)))))
theorem t_x_snips {G : Cx} (C : CX G prog_1_method_18_code "PaperStars") (CR0 : CR G (Option.some FieldType.int)) (E : LCin (gly G)) (hnL : gnL G = 4) (hgd : 9 ≤ gd G) {q : Int32 × Mm} (hgr : gr G = some (.int q.1)) (hgs : gsf G = q.2) (v1 : Int32) (v2 : Int32) (v3 : Int32) (st : Mm) (hf : f_x_snips v1 v2 v3 st = some q) : AW G st 0 [(0, .ref (gad G 0)), (1, .int v1), (2, .int v2), (3, .int v3)] [] := by
  unfold f_x_snips at hf
  refine aw_aload_n C 0 0 (j := 0) rfl rfl (by decide +kernel) rfl ?_
  refine aw_getr C (k := 9) fc_11 (lc_0 E) rfl (by decide) tb_405 (by decide +kernel) rfl ?_
  refine aw_aload_n C 0 0 (j := 0) rfl rfl (by decide +kernel) rfl ?_
  refine aw_getr C (k := 0) fc_11 (lc_0 E) rfl (by decide) tb_396 (by decide +kernel) rfl ?_
  refine aw_get C (k := 0) fc_9 (lc_1 E) rfl (by decide) tb_37 (by decide +kernel) rfl ?_
  refine aw_iload_n C 1 1 (j := 1) rfl rfl (by decide +kernel) rfl ?_
  refine aw_iload_n C 2 2 (j := 2) rfl rfl (by decide +kernel) rfl ?_
  refine aw_iload_n C 3 3 (j := 3) rfl rfl (by decide +kernel) rfl ?_
  obtain ⟨q1, hq1, hf⟩ := ibd hf
  refine aw_callV C (rest := []) (c_Fit_fold E (st.1 1 0) v1 v2 v3 _ q1 hq1) tb_756 yf_98 yi_98 (lc_46 E) [.int (st.1 1 0), .int v1, .int v2, .int v3] rfl rfl _ rfl (Nat.le_trans (by decide) hgd) (Nat.le_of_ble_eq_true rfl) (by decide +kernel) rfl ?_
  show AW _ _ _ _ [.int q1.1]
  refine aw_if_ne C (tgt := 22) (off := 5) (by decide +kernel) (by decide) rfl (fun c2 => ?_) (fun c2 => ?_)
  · have hf := ift c2 hf
    refine aw_iconst C (i0 := -1) (v := -1) (by decide) (by decide +kernel) rfl ?_
    exact aw_iretq C CR0 hgr hgs hf (by decide +kernel)
  · have hf := iff_ c2 hf
    refine aw_aload_n C 0 0 (j := 0) rfl rfl (by decide +kernel) rfl ?_
    refine aw_getr C (k := 9) fc_11 (lc_0 E) rfl (by decide) tb_405 (by decide +kernel) rfl ?_
    refine aw_getr C (k := 0) fc_2 (lc_46 E) rfl (by decide) tb_306 (by decide +kernel) rfl ?_
    obtain ⟨q3, hq3, hf⟩ := ibd hf
    refine aw_callV C (rest := []) (c_Fold_places 47 48 49 ⟨(lc_47 E), (lc_48 E), (lc_49 E)⟩ _ q3 hq3) tb_595 yf_62 yi_62 (lc_47 E) [] rfl rfl _ rfl (Nat.le_trans (by decide) hgd) (Nat.le_of_ble_eq_true rfl) (by decide +kernel) rfl ?_
    show AW _ _ _ _ [.int q3.1]
    refine aw_bipush C (i0 := 64) (v := 64) (by decide) (by decide +kernel) rfl ?_
    refine aw_icmp_le C (tgt := 40) (off := 6) (by decide +kernel) (by decide) rfl (fun c4 => ?_) (fun c4 => ?_)
    · have hf := ift c4 hf
      refine aw_aload_n C 0 0 (j := 0) rfl rfl (by decide +kernel) rfl ?_
      refine aw_getr C (k := 9) fc_11 (lc_0 E) rfl (by decide) tb_405 (by decide +kernel) rfl ?_
      refine aw_aload_n C 0 0 (j := 0) rfl rfl (by decide +kernel) rfl ?_
      refine aw_getr C (k := 0) fc_11 (lc_0 E) rfl (by decide) tb_396 (by decide +kernel) rfl ?_
      refine aw_getr C (k := 6) fc_9 (lc_1 E) rfl (by decide) tb_53 (by decide +kernel) rfl ?_
      obtain ⟨q5, hq5, hf⟩ := ibd hf
      refine aw_callV C (rest := []) (c_Fit_match E _ q5 hq5) tb_762 yf_99 yi_99 (lc_46 E) [.ref (gad G 4)] rfl rfl _ rfl (Nat.le_trans (by decide) hgd) (Nat.le_of_ble_eq_true rfl) (by decide +kernel) rfl ?_
      show AW _ _ _ _ [.int q5.1]
      refine aw_if_eq C (tgt := 71) (off := 17) (by decide +kernel) (by decide) rfl (fun c6 => ?_) (fun c6 => ?_)
      · have hf := ift c6 hf
        refine aw_bipush C (i0 := -3) (v := -3) (by decide) (by decide +kernel) rfl ?_
        exact aw_iretq C CR0 hgr hgs hf (by decide +kernel)
      · have hf := iff_ c6 hf
        refine aw_aload_n C 0 0 (j := 0) rfl rfl (by decide +kernel) rfl ?_
        refine aw_getr C (k := 10) fc_11 (lc_0 E) rfl (by decide) tb_406 (by decide +kernel) rfl ?_
        refine aw_aload_n C 0 0 (j := 0) rfl rfl (by decide +kernel) rfl ?_
        refine aw_getr C (k := 9) fc_11 (lc_0 E) rfl (by decide) tb_405 (by decide +kernel) rfl ?_
        obtain ⟨q7, hq7, hf⟩ := ibd hf
        refine aw_callV C (rest := []) (c_Cov_fewest E _ q7 hq7) tb_799 yf_107 yi_107 (lc_52 E) [.ref (gad G 46)] rfl rfl _ rfl (Nat.le_trans (by decide) hgd) (Nat.le_of_ble_eq_true rfl) (by decide +kernel) rfl ?_
        show AW _ _ _ _ [.int q7.1]
        refine aw_goto C (tgt := 73) (off := 5) (by decide +kernel) (by decide) ?_
        exact aw_iretq C CR0 hgr hgs hf (by decide +kernel)
    · have hf := iff_ c4 hf
      refine aw_bipush C (i0 := -4) (v := -4) (by decide) (by decide +kernel) rfl ?_
      exact aw_iretq C CR0 hgr hgs hf (by decide +kernel)
theorem c_x_snips {lay : Ly} (E : LCin lay) (v1 : Int32) (v2 : Int32) (v3 : Int32) (st : Mm) (q : Int32 × Mm) (hf : f_x_snips v1 v2 v3 st = some q) : Con 9 Y106 prog_1_method_18_code 4 (Option.some FieldType.int) lay (fun ad => [.ref (ad 0), .int v1, .int v2, .int v3]) st (some (.int q.1)) q.2 :=
  am_met yf_106.2.2.2.2.2 (fun ad => Nat.le_of_ble_eq_true rfl) (fun G C CR0 e1 e2 e3 e4 e5 => t_x_snips C CR0 (by rw [e1]; exact E) e2 (Nat.le_of_eq e5.symm) e3 e4 v1 v2 v3 st hf)
def f_Fit_highX (v0 : Int32) (st : Mm) : Option (Int32 × Mm) :=
  (f_Int_numberOfLeadingZeros v0 st).bind (fun q1 => some (((31 : Int32) - q1.1), q1.2))
theorem t_Fit_highX {G : Cx} (C : CX G prog_4_method_11_code "PaperStars$Fit") (CR0 : CR G (Option.some FieldType.int)) (E : LCin (gly G)) (hnL : gnL G = 1) (hgd : 1 ≤ gd G) {q : Int32 × Mm} (hgr : gr G = some (.int q.1)) (hgs : gsf G = q.2) (v0 : Int32) (st : Mm) (hf : f_Fit_highX v0 st = some q) : AW G st 0 [(0, .int v0)] [] := by
  unfold f_Fit_highX at hf
  refine aw_bipush C (i0 := 31) (v := 31) (by decide) (by decide +kernel) rfl ?_
  refine aw_iload_n C 0 0 (j := 0) rfl rfl (by decide +kernel) rfl ?_
  obtain ⟨q1, hq1, hf⟩ := ibd hf
  refine aw_callS C (rest := [.int (31 : Int32)]) (c_Int_numberOfLeadingZeros v0 _ q1 hq1) tb_840 yf_117 tb_841 rfl _ rfl (Nat.le_trans (by decide) hgd) (Nat.le_of_ble_eq_true rfl) (by decide +kernel) rfl ?_
  show AW _ _ _ _ [.int q1.1, .int (31 : Int32)]
  refine aw_isub C (by decide +kernel) rfl ?_
  exact aw_iretq C CR0 hgr hgs hf (by decide +kernel)
theorem c_Fit_highX {lay : Ly} (E : LCin lay) (v0 : Int32) (st : Mm) (q : Int32 × Mm) (hf : f_Fit_highX v0 st = some q) : Con 1 Y116 prog_4_method_11_code 1 (Option.some FieldType.int) lay (fun ad => [.int v0]) st (some (.int q.1)) q.2 :=
  am_met yf_116.2.2.2.2.2 (fun ad => Nat.le_of_ble_eq_true rfl) (fun G C CR0 e1 e2 e3 e4 e5 => t_Fit_highX C CR0 (by rw [e1]; exact E) e2 (Nat.le_of_eq e5.symm) e3 e4 v0 st hf)
def f_Fit_lowX (v0 : Int32) (st : Mm) : Option (Int32 × Mm) :=
  (f_Int_numberOfTrailingZeros v0 st).bind (fun q1 => some (q1.1, q1.2))
theorem t_Fit_lowX {G : Cx} (C : CX G prog_4_method_10_code "PaperStars$Fit") (CR0 : CR G (Option.some FieldType.int)) (E : LCin (gly G)) (hnL : gnL G = 1) (hgd : 1 ≤ gd G) {q : Int32 × Mm} (hgr : gr G = some (.int q.1)) (hgs : gsf G = q.2) (v0 : Int32) (st : Mm) (hf : f_Fit_lowX v0 st = some q) : AW G st 0 [(0, .int v0)] [] := by
  unfold f_Fit_lowX at hf
  refine aw_iload_n C 0 0 (j := 0) rfl rfl (by decide +kernel) rfl ?_
  obtain ⟨q1, hq1, hf⟩ := ibd hf
  refine aw_callS C (rest := []) (c_Int_numberOfTrailingZeros v0 _ q1 hq1) tb_836 yf_89 tb_717 rfl _ rfl (Nat.le_trans (by decide) hgd) (Nat.le_of_ble_eq_true rfl) (by decide +kernel) rfl ?_
  show AW _ _ _ _ [.int q1.1]
  exact aw_iretq C CR0 hgr hgs hf (by decide +kernel)
theorem c_Fit_lowX {lay : Ly} (E : LCin lay) (v0 : Int32) (st : Mm) (q : Int32 × Mm) (hf : f_Fit_lowX v0 st = some q) : Con 1 Y115 prog_4_method_10_code 1 (Option.some FieldType.int) lay (fun ad => [.int v0]) st (some (.int q.1)) q.2 :=
  am_met yf_115.2.2.2.2.2 (fun ad => Nat.le_of_ble_eq_true rfl) (fun G C CR0 e1 e2 e3 e4 e5 => t_Fit_lowX C CR0 (by rw [e1]; exact E) e2 (Nat.le_of_eq e5.symm) e3 e4 v0 st hf)
def b_Fit_lineAbove_123 (k22 : Int32 → Int32 → Int32 → Int32 → Int32 → Mm → Option (Int32 × Mm)) (v1 : Int32) (v2 : Int32) (v3 : Int32) (v4 : Int32) (v5 : Int32) (st : Mm) : Option (Int32 × Mm) :=
  if v3 < v4 then (lt_ (v5 + (1 : Int32)) (fun a2 => k22 v1 v2 v3 v4 a2 st)) else (some ((-1000 : Int32), st))
def b_Fit_lineAbove_91 (k22 : Int32 → Int32 → Int32 → Int32 → Int32 → Mm → Option (Int32 × Mm)) (v1 : Int32) (v2 : Int32) (v3 : Int32) (v4 : Int32) (v5 : Int32) (v7 : Int32) (st : Mm) : Option (Int32 × Mm) :=
  if v7 = 0 then (b_Fit_lineAbove_123 k22 v1 v2 v3 v4 v5 st) else ((f_Fit_lowX v7 st).bind (fun q2 => (f_Fit_highX v7 q2.2).bind (fun q3 => lt_ (if v3 < ((v2 * v5) + (if (v1 * q2.1) < (v1 * q3.1) then (v1 * q3.1) else (v1 * q2.1))) then ((v2 * v5) + (if (v1 * q2.1) < (v1 * q3.1) then (v1 * q3.1) else (v1 * q2.1))) else v3) (fun a4 => b_Fit_lineAbove_123 k22 v1 v2 a4 v4 v5 q3.2))))
def b_Fit_lineAbove_22 (k22 : Int32 → Int32 → Int32 → Int32 → Int32 → Mm → Option (Int32 × Mm)) (v1 : Int32) (v2 : Int32) (v3 : Int32) (v4 : Int32) (v5 : Int32) (st : Mm) : Option (Int32 × Mm) :=
  if (st.1 47 2) ≤ v5 then (some (v3, st)) else (if inb v5 16 then lt_ (st.1 50 v5.toNatClampNeg) (fun a3 => if inb v5 16 then lt_ ((st.1 51 v5.toNatClampNeg) &&& (a3 ^^^ (-1 : Int32))) (fun a5 => if a3 = 0 then (b_Fit_lineAbove_91 k22 v1 v2 v3 v4 v5 a5 st) else ((f_Fit_lowX a3 st).bind (fun q7 => (f_Fit_highX a3 q7.2).bind (fun q8 => lt_ (if ((v2 * v5) + (if (v1 * q8.1) < (v1 * q7.1) then (v1 * q8.1) else (v1 * q7.1))) < v4 then ((v2 * v5) + (if (v1 * q8.1) < (v1 * q7.1) then (v1 * q8.1) else (v1 * q7.1))) else v4) (fun a9 => b_Fit_lineAbove_91 k22 v1 v2 v3 a9 v5 a5 q8.2))))) else none) else none)
def f_Fit_lineAbove_22 : Nat → Int32 → Int32 → Int32 → Int32 → Int32 → Mm → Option (Int32 × Mm)
  | 0 => fun _ _ _ _ _ _ => none
  | n + 1 => b_Fit_lineAbove_22 (f_Fit_lineAbove_22 n)
def f_Fit_lineAbove (v1 : Int32) (v2 : Int32) (st : Mm) : Option (Int32 × Mm) :=
  if v1 = 0 then (if v2 = 0 then (some ((-1000 : Int32), st)) else (f_Fit_lineAbove_22 1000000 v1 v2 (-60 : Int32) (61 : Int32) (0 : Int32) st)) else (f_Fit_lineAbove_22 1000000 v1 v2 (-60 : Int32) (61 : Int32) (0 : Int32) st)
theorem t_Fit_lineAbove_123 {G : Cx} (C : CX G prog_4_method_9_code "PaperStars$Fit") (CR0 : CR G (Option.some FieldType.int)) (E : LCin (gly G)) (hnL : gnL G = 8) (hgd : 2 ≤ gd G) {q : Int32 × Mm} (hgr : gr G = some (.int q.1)) (hgs : gsf G = q.2) (k22 : Int32 → Int32 → Int32 → Int32 → Int32 → Mm → Option (Int32 × Mm)) (hk22 : ∀ (v1 : Int32) (v2 : Int32) (v3 : Int32) (v4 : Int32) (v5 : Int32) (st : Mm), k22 v1 v2 v3 v4 v5 st = some q → AW G st 22 [(0, .ref (gad G 46)), (1, .int v1), (2, .int v2), (3, .int v3), (4, .int v4), (5, .int v5)] []) (v1 : Int32) (v2 : Int32) (v3 : Int32) (v4 : Int32) (v5 : Int32) (st : Mm) (hf : b_Fit_lineAbove_123 k22 v1 v2 v3 v4 v5 st = some q) : AW G st 123 [(0, .ref (gad G 46)), (1, .int v1), (2, .int v2), (3, .int v3), (4, .int v4), (5, .int v5)] [] := by
  unfold b_Fit_lineAbove_123 at hf
  refine aw_iload_n C 3 3 (j := 3) rfl rfl (by decide +kernel) rfl ?_
  refine aw_iload C 4 4 rfl (by decide +kernel) rfl ?_
  refine aw_icmp_lt C (tgt := 133) (off := 7) (by decide +kernel) (by decide) rfl (fun c1 => ?_) (fun c1 => ?_)
  · have hf := ift c1 hf
    obtain ⟨a2, ha2⟩ : ∃ z, z = (v5 + (1 : Int32)) := ⟨_, rfl⟩
    have hf := ilt ha2 hf
    refine aw_iinc C [(5, .int a2), (0, .ref (gad G 46)), (1, .int v1), (2, .int v2), (3, .int v3), (4, .int v4)] 5 (n := 1) rfl (by rw [ha2]; rfl) (by rw [hnL]; decide) rfl (by decide +kernel) rfl ?_
    refine aw_goto C (tgt := 22) (off := -114) (by decide +kernel) (by decide) ?_
    refine aw_sub [(0, .ref (gad G 46)), (1, .int v1), (2, .int v2), (3, .int v3), (4, .int v4), (5, .int a2)] [1, 2, 3, 4, 5, 0] rfl ?_
    exact hk22 v1 v2 v3 v4 a2 _ hf
  · have hf := iff_ c1 hf
    refine aw_sipush C (i0 := -1000) (v := -1000) (by decide) (by decide +kernel) rfl ?_
    exact aw_iretq C CR0 hgr hgs hf (by decide +kernel)
theorem t_Fit_lineAbove_91 {G : Cx} (C : CX G prog_4_method_9_code "PaperStars$Fit") (CR0 : CR G (Option.some FieldType.int)) (E : LCin (gly G)) (hnL : gnL G = 8) (hgd : 2 ≤ gd G) {q : Int32 × Mm} (hgr : gr G = some (.int q.1)) (hgs : gsf G = q.2) (k22 : Int32 → Int32 → Int32 → Int32 → Int32 → Mm → Option (Int32 × Mm)) (hk22 : ∀ (v1 : Int32) (v2 : Int32) (v3 : Int32) (v4 : Int32) (v5 : Int32) (st : Mm), k22 v1 v2 v3 v4 v5 st = some q → AW G st 22 [(0, .ref (gad G 46)), (1, .int v1), (2, .int v2), (3, .int v3), (4, .int v4), (5, .int v5)] []) (v1 : Int32) (v2 : Int32) (v3 : Int32) (v4 : Int32) (v5 : Int32) (v7 : Int32) (st : Mm) (hf : b_Fit_lineAbove_91 k22 v1 v2 v3 v4 v5 v7 st = some q) : AW G st 91 [(0, .ref (gad G 46)), (1, .int v1), (2, .int v2), (3, .int v3), (4, .int v4), (5, .int v5), (7, .int v7)] [] := by
  unfold b_Fit_lineAbove_91 at hf
  refine aw_iload C 7 6 rfl (by decide +kernel) rfl ?_
  refine aw_if_eq C (tgt := 123) (off := 30) (by decide +kernel) (by decide) rfl (fun c1 => ?_) (fun c1 => ?_)
  · have hf := ift c1 hf
    refine aw_sub [(0, .ref (gad G 46)), (1, .int v1), (2, .int v2), (3, .int v3), (4, .int v4), (5, .int v5)] [0, 1, 2, 3, 4, 5] rfl ?_
    exact t_Fit_lineAbove_123 C CR0 E hnL hgd hgr hgs k22 hk22 v1 v2 v3 v4 v5 _ hf
  · have hf := iff_ c1 hf
    refine aw_iload_n C 3 3 (j := 3) rfl rfl (by decide +kernel) rfl ?_
    refine aw_iload_n C 2 2 (j := 2) rfl rfl (by decide +kernel) rfl ?_
    refine aw_iload C 5 5 rfl (by decide +kernel) rfl ?_
    refine aw_imul C (by decide +kernel) rfl ?_
    refine aw_iload_n C 1 1 (j := 1) rfl rfl (by decide +kernel) rfl ?_
    refine aw_iload C 7 6 rfl (by decide +kernel) rfl ?_
    obtain ⟨q2, hq2, hf⟩ := ibd hf
    refine aw_callS C (rest := [.int v1, .int (v2 * v5), .int v3]) (c_Fit_lowX E v7 _ q2 hq2) tb_833 yf_115 tb_834 rfl _ rfl (Nat.le_trans (by decide) hgd) (Nat.le_of_ble_eq_true rfl) (by decide +kernel) rfl ?_
    show AW _ _ _ _ [.int q2.1, .int v1, .int (v2 * v5), .int v3]
    refine aw_imul C (by decide +kernel) rfl ?_
    refine aw_iload_n C 1 1 (j := 1) rfl rfl (by decide +kernel) rfl ?_
    refine aw_iload C 7 6 rfl (by decide +kernel) rfl ?_
    obtain ⟨q3, hq3, hf⟩ := ibd hf
    refine aw_callS C (rest := [.int v1, .int (v1 * q2.1), .int (v2 * v5), .int v3]) (c_Fit_highX E v7 _ q3 hq3) tb_837 yf_116 tb_838 rfl _ rfl (Nat.le_trans (by decide) hgd) (Nat.le_of_ble_eq_true rfl) (by decide +kernel) rfl ?_
    show AW _ _ _ _ [.int q3.1, .int v1, .int (v1 * q2.1), .int (v2 * v5), .int v3]
    refine aw_imul C (by decide +kernel) rfl ?_
    refine aw_mmax C (Nat.le_trans (by decide) hgd) (Nat.le_of_ble_eq_true rfl) tb_844 tb_471 tb_14 tb_472 (by decide +kernel) rfl ?_
    refine aw_iadd C (by decide +kernel) rfl ?_
    refine aw_mmax C (Nat.le_trans (by decide) hgd) (Nat.le_of_ble_eq_true rfl) tb_844 tb_471 tb_14 tb_472 (by decide +kernel) rfl ?_
    obtain ⟨a4, ha4⟩ : ∃ z, z = (if v3 < ((v2 * v5) + (if (v1 * q2.1) < (v1 * q3.1) then (v1 * q3.1) else (v1 * q2.1))) then ((v2 * v5) + (if (v1 * q2.1) < (v1 * q3.1) then (v1 * q3.1) else (v1 * q2.1))) else v3) := ⟨_, rfl⟩
    refine aw_nmi ha4 ?_
    have hf := ilt ha4 hf
    refine aw_istore_n C [(3, .int a4), (0, .ref (gad G 46)), (1, .int v1), (2, .int v2), (4, .int v4), (5, .int v5), (7, .int v7)] (j := 3) rfl (by rw [hnL]; decide) rfl (by decide +kernel) rfl ?_
    refine aw_sub [(0, .ref (gad G 46)), (1, .int v1), (2, .int v2), (3, .int a4), (4, .int v4), (5, .int v5)] [1, 2, 3, 0, 4, 5] rfl ?_
    exact t_Fit_lineAbove_123 C CR0 E hnL hgd hgr hgs k22 hk22 v1 v2 a4 v4 v5 _ hf
theorem t_Fit_lineAbove_22 {G : Cx} (C : CX G prog_4_method_9_code "PaperStars$Fit") (CR0 : CR G (Option.some FieldType.int)) (E : LCin (gly G)) (hnL : gnL G = 8) (hgd : 2 ≤ gd G) {q : Int32 × Mm} (hgr : gr G = some (.int q.1)) (hgs : gsf G = q.2) (k22 : Int32 → Int32 → Int32 → Int32 → Int32 → Mm → Option (Int32 × Mm)) (hk22 : ∀ (v1 : Int32) (v2 : Int32) (v3 : Int32) (v4 : Int32) (v5 : Int32) (st : Mm), k22 v1 v2 v3 v4 v5 st = some q → AW G st 22 [(0, .ref (gad G 46)), (1, .int v1), (2, .int v2), (3, .int v3), (4, .int v4), (5, .int v5)] []) (v1 : Int32) (v2 : Int32) (v3 : Int32) (v4 : Int32) (v5 : Int32) (st : Mm) (hf : b_Fit_lineAbove_22 k22 v1 v2 v3 v4 v5 st = some q) : AW G st 22 [(0, .ref (gad G 46)), (1, .int v1), (2, .int v2), (3, .int v3), (4, .int v4), (5, .int v5)] [] := by
  unfold b_Fit_lineAbove_22 at hf
  refine aw_iload C 5 5 rfl (by decide +kernel) rfl ?_
  refine aw_aload_n C 0 0 (j := 0) rfl rfl (by decide +kernel) rfl ?_
  refine aw_getr C (k := 0) fc_2 (lc_46 E) rfl (by decide) tb_304 (by decide +kernel) rfl ?_
  refine aw_get C (k := 2) fc_3 (lc_47 E) rfl (by decide) tb_112 (by decide +kernel) rfl ?_
  refine aw_icmp_ge C (tgt := 139) (off := 108) (by decide +kernel) (by decide) rfl (fun c1 => ?_) (fun c1 => ?_)
  · have hf := ift c1 hf
    refine aw_iload_n C 3 3 (j := 3) rfl rfl (by decide +kernel) rfl ?_
    exact aw_iretq C CR0 hgr hgs hf (by decide +kernel)
  · have hf := iff_ c1 hf
    refine aw_aload_n C 0 0 (j := 0) rfl rfl (by decide +kernel) rfl ?_
    refine aw_getr C (k := 1) fc_2 (lc_46 E) rfl (by decide) tb_307 (by decide +kernel) rfl ?_
    refine aw_iload C 5 5 rfl (by decide +kernel) rfl ?_
    obtain ⟨g2, hf⟩ := igd hf
    refine aw_iald C (lc_50 E) g2 (by decide +kernel) rfl ?_
    obtain ⟨a3, ha3⟩ : ∃ z, z = (st.1 50 v5.toNatClampNeg) := ⟨_, rfl⟩
    refine aw_nmi ha3 ?_
    have hf := ilt ha3 hf
    refine aw_istore C [(6, .int a3), (0, .ref (gad G 46)), (1, .int v1), (2, .int v2), (3, .int v3), (4, .int v4), (5, .int v5)] (by rw [hnL]; decide) rfl (by decide +kernel) rfl ?_
    refine aw_aload_n C 0 1 (j := 0) rfl rfl (by decide +kernel) rfl ?_
    refine aw_getr C (k := 4) fc_2 (lc_46 E) rfl (by decide) tb_313 (by decide +kernel) rfl ?_
    refine aw_iload C 5 6 rfl (by decide +kernel) rfl ?_
    obtain ⟨g4, hf⟩ := igd hf
    refine aw_iald C (lc_51 E) g4 (by decide +kernel) rfl ?_
    refine aw_iload C 6 0 rfl (by decide +kernel) rfl ?_
    refine aw_iconst C (i0 := -1) (v := -1) (by decide) (by decide +kernel) rfl ?_
    refine aw_ixor C (by decide +kernel) rfl ?_
    refine aw_iand C (by decide +kernel) rfl ?_
    obtain ⟨a5, ha5⟩ : ∃ z, z = ((st.1 51 v5.toNatClampNeg) &&& (a3 ^^^ (-1 : Int32))) := ⟨_, rfl⟩
    refine aw_nmi ha5 ?_
    have hf := ilt ha5 hf
    refine aw_istore C [(7, .int a5), (6, .int a3), (0, .ref (gad G 46)), (1, .int v1), (2, .int v2), (3, .int v3), (4, .int v4), (5, .int v5)] (by rw [hnL]; decide) rfl (by decide +kernel) rfl ?_
    refine aw_iload C 6 1 rfl (by decide +kernel) rfl ?_
    refine aw_if_eq C (tgt := 91) (off := 32) (by decide +kernel) (by decide) rfl (fun c6 => ?_) (fun c6 => ?_)
    · have hf := ift c6 hf
      refine aw_sub [(0, .ref (gad G 46)), (1, .int v1), (2, .int v2), (3, .int v3), (4, .int v4), (5, .int v5), (7, .int a5)] [2, 3, 4, 5, 6, 7, 0] rfl ?_
      exact t_Fit_lineAbove_91 C CR0 E hnL hgd hgr hgs k22 hk22 v1 v2 v3 v4 v5 a5 _ hf
    · have hf := iff_ c6 hf
      refine aw_iload C 4 6 rfl (by decide +kernel) rfl ?_
      refine aw_iload_n C 2 4 (j := 2) rfl rfl (by decide +kernel) rfl ?_
      refine aw_iload C 5 7 rfl (by decide +kernel) rfl ?_
      refine aw_imul C (by decide +kernel) rfl ?_
      refine aw_iload_n C 1 3 (j := 1) rfl rfl (by decide +kernel) rfl ?_
      refine aw_iload C 6 1 rfl (by decide +kernel) rfl ?_
      obtain ⟨q7, hq7, hf⟩ := ibd hf
      refine aw_callS C (rest := [.int v1, .int (v2 * v5), .int v4]) (c_Fit_lowX E a3 _ q7 hq7) tb_833 yf_115 tb_834 rfl _ rfl (Nat.le_trans (by decide) hgd) (Nat.le_of_ble_eq_true rfl) (by decide +kernel) rfl ?_
      show AW _ _ _ _ [.int q7.1, .int v1, .int (v2 * v5), .int v4]
      refine aw_imul C (by decide +kernel) rfl ?_
      refine aw_iload_n C 1 3 (j := 1) rfl rfl (by decide +kernel) rfl ?_
      refine aw_iload C 6 1 rfl (by decide +kernel) rfl ?_
      obtain ⟨q8, hq8, hf⟩ := ibd hf
      refine aw_callS C (rest := [.int v1, .int (v1 * q7.1), .int (v2 * v5), .int v4]) (c_Fit_highX E a3 _ q8 hq8) tb_837 yf_116 tb_838 rfl _ rfl (Nat.le_trans (by decide) hgd) (Nat.le_of_ble_eq_true rfl) (by decide +kernel) rfl ?_
      show AW _ _ _ _ [.int q8.1, .int v1, .int (v1 * q7.1), .int (v2 * v5), .int v4]
      refine aw_imul C (by decide +kernel) rfl ?_
      refine aw_mmin C (Nat.le_trans (by decide) hgd) (Nat.le_of_ble_eq_true rfl) tb_843 tb_468 tb_14 tb_469 (by decide +kernel) rfl ?_
      refine aw_iadd C (by decide +kernel) rfl ?_
      refine aw_mmin C (Nat.le_trans (by decide) hgd) (Nat.le_of_ble_eq_true rfl) tb_843 tb_468 tb_14 tb_469 (by decide +kernel) rfl ?_
      obtain ⟨a9, ha9⟩ : ∃ z, z = (if ((v2 * v5) + (if (v1 * q8.1) < (v1 * q7.1) then (v1 * q8.1) else (v1 * q7.1))) < v4 then ((v2 * v5) + (if (v1 * q8.1) < (v1 * q7.1) then (v1 * q8.1) else (v1 * q7.1))) else v4) := ⟨_, rfl⟩
      refine aw_nmi ha9 ?_
      have hf := ilt ha9 hf
      refine aw_istore C [(4, .int a9), (7, .int a5), (6, .int a3), (0, .ref (gad G 46)), (1, .int v1), (2, .int v2), (3, .int v3), (5, .int v5)] (by rw [hnL]; decide) rfl (by decide +kernel) rfl ?_
      refine aw_sub [(0, .ref (gad G 46)), (1, .int v1), (2, .int v2), (3, .int v3), (4, .int a9), (5, .int v5), (7, .int a5)] [3, 4, 5, 6, 0, 7, 1] rfl ?_
      exact t_Fit_lineAbove_91 C CR0 E hnL hgd hgr hgs k22 hk22 v1 v2 v3 a9 v5 a5 _ hf
theorem u_Fit_lineAbove_22 {G : Cx} (C : CX G prog_4_method_9_code "PaperStars$Fit") (CR0 : CR G (Option.some FieldType.int)) (E : LCin (gly G)) (hnL : gnL G = 8) (hgd : 2 ≤ gd G) {q : Int32 × Mm} (hgr : gr G = some (.int q.1)) (hgs : gsf G = q.2) : ∀ (n : Nat) (v1 : Int32) (v2 : Int32) (v3 : Int32) (v4 : Int32) (v5 : Int32) (st : Mm), f_Fit_lineAbove_22 n v1 v2 v3 v4 v5 st = some q → AW G st 22 [(0, .ref (gad G 46)), (1, .int v1), (2, .int v2), (3, .int v3), (4, .int v4), (5, .int v5)] [] := by
  intro n
  induction n with
  | zero => intro v1 v2 v3 v4 v5 st hf; cases hf
  | succ n ih => intro v1 v2 v3 v4 v5 st hf; exact t_Fit_lineAbove_22 C CR0 E hnL hgd hgr hgs (f_Fit_lineAbove_22 n) ih v1 v2 v3 v4 v5 st hf
theorem t_Fit_lineAbove {G : Cx} (C : CX G prog_4_method_9_code "PaperStars$Fit") (CR0 : CR G (Option.some FieldType.int)) (E : LCin (gly G)) (hnL : gnL G = 8) (hgd : 2 ≤ gd G) {q : Int32 × Mm} (hgr : gr G = some (.int q.1)) (hgs : gsf G = q.2) (v1 : Int32) (v2 : Int32) (st : Mm) (hf : f_Fit_lineAbove v1 v2 st = some q) : AW G st 0 [(0, .ref (gad G 46)), (1, .int v1), (2, .int v2)] [] := by
  unfold f_Fit_lineAbove at hf
  refine aw_iload_n C 1 1 (j := 1) rfl rfl (by decide +kernel) rfl ?_
  refine aw_if_ne C (tgt := 12) (off := 11) (by decide +kernel) (by decide) rfl (fun c1 => ?_) (fun c1 => ?_)
  · have hf := ift c1 hf
    refine aw_iload_n C 2 2 (j := 2) rfl rfl (by decide +kernel) rfl ?_
    refine aw_if_ne C (tgt := 12) (off := 7) (by decide +kernel) (by decide) rfl (fun c2 => ?_) (fun c2 => ?_)
    · have hf := ift c2 hf
      refine aw_sipush C (i0 := -1000) (v := -1000) (by decide) (by decide +kernel) rfl ?_
      exact aw_iretq C CR0 hgr hgs hf (by decide +kernel)
    · have hf := iff_ c2 hf
      refine aw_bipush C (i0 := -60) (v := -60) (by decide) (by decide +kernel) rfl ?_
      refine aw_istore_n C [(3, .int (-60 : Int32)), (0, .ref (gad G 46)), (1, .int v1), (2, .int v2)] (j := 3) rfl (by rw [hnL]; decide) rfl (by decide +kernel) rfl ?_
      refine aw_bipush C (i0 := 61) (v := 61) (by decide) (by decide +kernel) rfl ?_
      refine aw_istore C [(4, .int (61 : Int32)), (3, .int (-60 : Int32)), (0, .ref (gad G 46)), (1, .int v1), (2, .int v2)] (by rw [hnL]; decide) rfl (by decide +kernel) rfl ?_
      refine aw_iconst C (i0 := 0) (v := 0) (by decide) (by decide +kernel) rfl ?_
      refine aw_istore C [(5, .int (0 : Int32)), (4, .int (61 : Int32)), (3, .int (-60 : Int32)), (0, .ref (gad G 46)), (1, .int v1), (2, .int v2)] (by rw [hnL]; decide) rfl (by decide +kernel) rfl ?_
      refine aw_sub [(0, .ref (gad G 46)), (1, .int v1), (2, .int v2), (3, .int (-60 : Int32)), (4, .int (61 : Int32)), (5, .int (0 : Int32))] [3, 4, 5, 2, 1, 0] rfl ?_
      exact u_Fit_lineAbove_22 C CR0 E hnL hgd hgr hgs _ v1 v2 (-60 : Int32) (61 : Int32) (0 : Int32) _ hf
  · have hf := iff_ c1 hf
    refine aw_bipush C (i0 := -60) (v := -60) (by decide) (by decide +kernel) rfl ?_
    refine aw_istore_n C [(3, .int (-60 : Int32)), (0, .ref (gad G 46)), (1, .int v1), (2, .int v2)] (j := 3) rfl (by rw [hnL]; decide) rfl (by decide +kernel) rfl ?_
    refine aw_bipush C (i0 := 61) (v := 61) (by decide) (by decide +kernel) rfl ?_
    refine aw_istore C [(4, .int (61 : Int32)), (3, .int (-60 : Int32)), (0, .ref (gad G 46)), (1, .int v1), (2, .int v2)] (by rw [hnL]; decide) rfl (by decide +kernel) rfl ?_
    refine aw_iconst C (i0 := 0) (v := 0) (by decide) (by decide +kernel) rfl ?_
    refine aw_istore C [(5, .int (0 : Int32)), (4, .int (61 : Int32)), (3, .int (-60 : Int32)), (0, .ref (gad G 46)), (1, .int v1), (2, .int v2)] (by rw [hnL]; decide) rfl (by decide +kernel) rfl ?_
    refine aw_sub [(0, .ref (gad G 46)), (1, .int v1), (2, .int v2), (3, .int (-60 : Int32)), (4, .int (61 : Int32)), (5, .int (0 : Int32))] [3, 4, 5, 2, 1, 0] rfl ?_
    exact u_Fit_lineAbove_22 C CR0 E hnL hgd hgr hgs _ v1 v2 (-60 : Int32) (61 : Int32) (0 : Int32) _ hf
theorem c_Fit_lineAbove {lay : Ly} (E : LCin lay) (v1 : Int32) (v2 : Int32) (st : Mm) (q : Int32 × Mm) (hf : f_Fit_lineAbove v1 v2 st = some q) : Con 2 Y114 prog_4_method_9_code 8 (Option.some FieldType.int) lay (fun ad => [.ref (ad 46), .int v1, .int v2]) st (some (.int q.1)) q.2 :=
  am_met yf_114.2.2.2.2.2 (fun ad => Nat.le_of_ble_eq_true rfl) (fun G C CR0 e1 e2 e3 e4 e5 => t_Fit_lineAbove C CR0 (by rw [e1]; exact E) e2 (Nat.le_of_eq e5.symm) e3 e4 v1 v2 st hf)
def b_x_straight_123 (v4 : Int32) (v5 : Int32) (v6 : Int32) (v7 : Int32) (st : Mm) : Option (Int32 × Mm) :=
  if v4 = 0 then (some (v5, st)) else (if v4 = (1 : Int32) then (some (v6, st)) else (some (v7, st)))
def b_x_straight_153 (k86 : Int32 → Int32 → Mm → Option (Int32 × Mm)) (v4 : Int32) (v5 : Int32) (st : Mm) : Option (Int32 × Mm) :=
  lt_ (v5 + (1 : Int32)) (fun a1 => k86 v4 a1 st)
def b_x_straight_96 (k86 : Int32 → Int32 → Mm → Option (Int32 × Mm)) (k96 : Int32 → Int32 → Int32 → Mm → Option (Int32 × Mm)) (v4 : Int32) (v5 : Int32) (v6 : Int32) (st : Mm) : Option (Int32 × Mm) :=
  if (3 : Int32) < v6 then (b_x_straight_153 k86 v4 v5 st) else ((f_Fit_lineAbove v5 v6 st).bind (fun q2 => if q2.1 = (-1000 : Int32) then (lt_ (v6 + (1 : Int32)) (fun a4 => k96 v4 v5 a4 q2.2)) else (b_x_straight_123 v4 v5 v6 q2.1 q2.2)))
def f_x_straight_96 (k86 : Int32 → Int32 → Mm → Option (Int32 × Mm)) : Nat → Int32 → Int32 → Int32 → Mm → Option (Int32 × Mm)
  | 0 => fun _ _ _ _ => none
  | n + 1 => b_x_straight_96 k86 (f_x_straight_96 k86 n)
def b_x_straight_86 (k86 : Int32 → Int32 → Mm → Option (Int32 × Mm)) (v4 : Int32) (v5 : Int32) (st : Mm) : Option (Int32 × Mm) :=
  if (3 : Int32) < v5 then (some ((-1000 : Int32), st)) else (f_x_straight_96 k86 1000000 v4 v5 (-3 : Int32) st)
def f_x_straight_86 : Nat → Int32 → Int32 → Mm → Option (Int32 × Mm)
  | 0 => fun _ _ _ => none
  | n + 1 => b_x_straight_86 (f_x_straight_86 n)
def f_x_straight (v1 : Int32) (v2 : Int32) (v3 : Int32) (v4 : Int32) (st : Mm) : Option (Int32 × Mm) :=
  if v4 < 0 then (some ((-1000 : Int32), st)) else (if (2 : Int32) < v4 then (some ((-1000 : Int32), st)) else ((f_Fit_fold (st.1 1 0) v1 v2 v3 st).bind (fun q3 => if q3.1 = 0 then (some ((-1000 : Int32), q3.2)) else ((f_Fit_match q3.2).bind (fun q5 => if q5.1 = 0 then (some ((-1000 : Int32), q5.2)) else (if (q5.2.1 46 2) = 0 then (some ((-1000 : Int32), q5.2)) else ((f_Fold_places 47 48 49 q5.2).bind (fun q8 => if (q5.2.1 46 2) = q8.1 then (some ((-1000 : Int32), q8.2)) else (f_x_straight_86 1000000 v4 (-3 : Int32) q8.2)))))))))
theorem t_x_straight_123 {G : Cx} (C : CX G prog_1_method_19_code "PaperStars") (CR0 : CR G (Option.some FieldType.int)) (E : LCin (gly G)) (hnL : gnL G = 8) (hgd : 3 ≤ gd G) {q : Int32 × Mm} (hgr : gr G = some (.int q.1)) (hgs : gsf G = q.2) (v4 : Int32) (v5 : Int32) (v6 : Int32) (v7 : Int32) (st : Mm) (hf : b_x_straight_123 v4 v5 v6 v7 st = some q) : AW G st 123 [(4, .int v4), (5, .int v5), (6, .int v6), (7, .int v7)] [] := by
  unfold b_x_straight_123 at hf
  refine aw_iload C 4 0 rfl (by decide +kernel) rfl ?_
  refine aw_if_ne C (tgt := 133) (off := 8) (by decide +kernel) (by decide) rfl (fun c1 => ?_) (fun c1 => ?_)
  · have hf := ift c1 hf
    refine aw_iload C 5 1 rfl (by decide +kernel) rfl ?_
    refine aw_goto C (tgt := 146) (off := 16) (by decide +kernel) (by decide) ?_
    exact aw_iretq C CR0 hgr hgs hf (by decide +kernel)
  · have hf := iff_ c1 hf
    refine aw_iload C 4 0 rfl (by decide +kernel) rfl ?_
    refine aw_iconst C (i0 := 1) (v := 1) (by decide) (by decide +kernel) rfl ?_
    refine aw_icmp_ne C (tgt := 144) (off := 8) (by decide +kernel) (by decide) rfl (fun c2 => ?_) (fun c2 => ?_)
    · have hf := ift c2 hf
      refine aw_iload C 6 2 rfl (by decide +kernel) rfl ?_
      refine aw_goto C (tgt := 146) (off := 5) (by decide +kernel) (by decide) ?_
      exact aw_iretq C CR0 hgr hgs hf (by decide +kernel)
    · have hf := iff_ c2 hf
      refine aw_iload C 7 3 rfl (by decide +kernel) rfl ?_
      exact aw_iretq C CR0 hgr hgs hf (by decide +kernel)
theorem t_x_straight_153 {G : Cx} (C : CX G prog_1_method_19_code "PaperStars") (CR0 : CR G (Option.some FieldType.int)) (E : LCin (gly G)) (hnL : gnL G = 8) (hgd : 3 ≤ gd G) {q : Int32 × Mm} (hgr : gr G = some (.int q.1)) (hgs : gsf G = q.2) (k86 : Int32 → Int32 → Mm → Option (Int32 × Mm)) (hk86 : ∀ (v4 : Int32) (v5 : Int32) (st : Mm), k86 v4 v5 st = some q → AW G st 86 [(0, .ref (gad G 0)), (4, .int v4), (5, .int v5)] []) (v4 : Int32) (v5 : Int32) (st : Mm) (hf : b_x_straight_153 k86 v4 v5 st = some q) : AW G st 153 [(0, .ref (gad G 0)), (4, .int v4), (5, .int v5)] [] := by
  unfold b_x_straight_153 at hf
  obtain ⟨a1, ha1⟩ : ∃ z, z = (v5 + (1 : Int32)) := ⟨_, rfl⟩
  have hf := ilt ha1 hf
  refine aw_iinc C [(5, .int a1), (0, .ref (gad G 0)), (4, .int v4)] 2 (n := 1) rfl (by rw [ha1]; rfl) (by rw [hnL]; decide) rfl (by decide +kernel) rfl ?_
  refine aw_goto C (tgt := 86) (off := -70) (by decide +kernel) (by decide) ?_
  refine aw_sub [(0, .ref (gad G 0)), (4, .int v4), (5, .int a1)] [1, 2, 0] rfl ?_
  exact hk86 v4 a1 _ hf
theorem t_x_straight_96 {G : Cx} (C : CX G prog_1_method_19_code "PaperStars") (CR0 : CR G (Option.some FieldType.int)) (E : LCin (gly G)) (hnL : gnL G = 8) (hgd : 3 ≤ gd G) {q : Int32 × Mm} (hgr : gr G = some (.int q.1)) (hgs : gsf G = q.2) (k86 : Int32 → Int32 → Mm → Option (Int32 × Mm)) (k96 : Int32 → Int32 → Int32 → Mm → Option (Int32 × Mm)) (hk86 : ∀ (v4 : Int32) (v5 : Int32) (st : Mm), k86 v4 v5 st = some q → AW G st 86 [(0, .ref (gad G 0)), (4, .int v4), (5, .int v5)] []) (hk96 : ∀ (v4 : Int32) (v5 : Int32) (v6 : Int32) (st : Mm), k96 v4 v5 v6 st = some q → AW G st 96 [(0, .ref (gad G 0)), (4, .int v4), (5, .int v5), (6, .int v6)] []) (v4 : Int32) (v5 : Int32) (v6 : Int32) (st : Mm) (hf : b_x_straight_96 k86 k96 v4 v5 v6 st = some q) : AW G st 96 [(0, .ref (gad G 0)), (4, .int v4), (5, .int v5), (6, .int v6)] [] := by
  unfold b_x_straight_96 at hf
  refine aw_iload C 6 3 rfl (by decide +kernel) rfl ?_
  refine aw_iconst C (i0 := 3) (v := 3) (by decide) (by decide +kernel) rfl ?_
  refine aw_icmp_gt C (tgt := 153) (off := 54) (by decide +kernel) (by decide) rfl (fun c1 => ?_) (fun c1 => ?_)
  · have hf := ift c1 hf
    refine aw_sub [(0, .ref (gad G 0)), (4, .int v4), (5, .int v5)] [0, 1, 2] rfl ?_
    exact t_x_straight_153 C CR0 E hnL hgd hgr hgs k86 hk86 v4 v5 _ hf
  · have hf := iff_ c1 hf
    refine aw_aload_n C 0 0 (j := 0) rfl rfl (by decide +kernel) rfl ?_
    refine aw_getr C (k := 9) fc_11 (lc_0 E) rfl (by decide) tb_405 (by decide +kernel) rfl ?_
    refine aw_iload C 5 2 rfl (by decide +kernel) rfl ?_
    refine aw_iload C 6 3 rfl (by decide +kernel) rfl ?_
    obtain ⟨q2, hq2, hf⟩ := ibd hf
    refine aw_callV C (rest := []) (c_Fit_lineAbove E v5 v6 _ q2 hq2) tb_829 yf_114 yi_114 (lc_46 E) [.int v5, .int v6] rfl rfl _ rfl (Nat.le_trans (by decide) hgd) (Nat.le_of_ble_eq_true rfl) (by decide +kernel) rfl ?_
    show AW _ _ _ _ [.int q2.1]
    refine aw_istore C [(7, .int q2.1), (0, .ref (gad G 0)), (4, .int v4), (5, .int v5), (6, .int v6)] (by rw [hnL]; decide) rfl (by decide +kernel) rfl ?_
    refine aw_iload C 7 0 rfl (by decide +kernel) rfl ?_
    refine aw_sipush C (i0 := -1000) (v := -1000) (by decide) (by decide +kernel) rfl ?_
    refine aw_icmp_eq C (tgt := 147) (off := 27) (by decide +kernel) (by decide) rfl (fun c3 => ?_) (fun c3 => ?_)
    · have hf := ift c3 hf
      obtain ⟨a4, ha4⟩ : ∃ z, z = (v6 + (1 : Int32)) := ⟨_, rfl⟩
      have hf := ilt ha4 hf
      refine aw_iinc C [(6, .int a4), (7, .int q2.1), (0, .ref (gad G 0)), (4, .int v4), (5, .int v5)] 4 (n := 1) rfl (by rw [ha4]; rfl) (by rw [hnL]; decide) rfl (by decide +kernel) rfl ?_
      refine aw_goto C (tgt := 96) (off := -54) (by decide +kernel) (by decide) ?_
      refine aw_sub [(0, .ref (gad G 0)), (4, .int v4), (5, .int v5), (6, .int a4)] [2, 3, 4, 0] rfl ?_
      exact hk96 v4 v5 a4 _ hf
    · have hf := iff_ c3 hf
      refine aw_sub [(4, .int v4), (5, .int v5), (6, .int v6), (7, .int q2.1)] [2, 3, 4, 0] rfl ?_
      exact t_x_straight_123 C CR0 E hnL hgd hgr hgs v4 v5 v6 q2.1 _ hf
theorem u_x_straight_96 {G : Cx} (C : CX G prog_1_method_19_code "PaperStars") (CR0 : CR G (Option.some FieldType.int)) (E : LCin (gly G)) (hnL : gnL G = 8) (hgd : 3 ≤ gd G) {q : Int32 × Mm} (hgr : gr G = some (.int q.1)) (hgs : gsf G = q.2) (k86 : Int32 → Int32 → Mm → Option (Int32 × Mm)) (hk86 : ∀ (v4 : Int32) (v5 : Int32) (st : Mm), k86 v4 v5 st = some q → AW G st 86 [(0, .ref (gad G 0)), (4, .int v4), (5, .int v5)] []) : ∀ (n : Nat) (v4 : Int32) (v5 : Int32) (v6 : Int32) (st : Mm), f_x_straight_96 k86 n v4 v5 v6 st = some q → AW G st 96 [(0, .ref (gad G 0)), (4, .int v4), (5, .int v5), (6, .int v6)] [] := by
  intro n
  induction n with
  | zero => intro v4 v5 v6 st hf; cases hf
  | succ n ih => intro v4 v5 v6 st hf; exact t_x_straight_96 C CR0 E hnL hgd hgr hgs k86 (f_x_straight_96 k86 n) hk86 ih v4 v5 v6 st hf
theorem t_x_straight_86 {G : Cx} (C : CX G prog_1_method_19_code "PaperStars") (CR0 : CR G (Option.some FieldType.int)) (E : LCin (gly G)) (hnL : gnL G = 8) (hgd : 3 ≤ gd G) {q : Int32 × Mm} (hgr : gr G = some (.int q.1)) (hgs : gsf G = q.2) (k86 : Int32 → Int32 → Mm → Option (Int32 × Mm)) (hk86 : ∀ (v4 : Int32) (v5 : Int32) (st : Mm), k86 v4 v5 st = some q → AW G st 86 [(0, .ref (gad G 0)), (4, .int v4), (5, .int v5)] []) (v4 : Int32) (v5 : Int32) (st : Mm) (hf : b_x_straight_86 k86 v4 v5 st = some q) : AW G st 86 [(0, .ref (gad G 0)), (4, .int v4), (5, .int v5)] [] := by
  unfold b_x_straight_86 at hf
  refine aw_iload C 5 2 rfl (by decide +kernel) rfl ?_
  refine aw_iconst C (i0 := 3) (v := 3) (by decide) (by decide +kernel) rfl ?_
  refine aw_icmp_gt C (tgt := 159) (off := 70) (by decide +kernel) (by decide) rfl (fun c1 => ?_) (fun c1 => ?_)
  · have hf := ift c1 hf
    refine aw_sipush C (i0 := -1000) (v := -1000) (by decide) (by decide +kernel) rfl ?_
    exact aw_iretq C CR0 hgr hgs hf (by decide +kernel)
  · have hf := iff_ c1 hf
    refine aw_bipush C (i0 := -3) (v := -3) (by decide) (by decide +kernel) rfl ?_
    refine aw_istore C [(6, .int (-3 : Int32)), (0, .ref (gad G 0)), (4, .int v4), (5, .int v5)] (by rw [hnL]; decide) rfl (by decide +kernel) rfl ?_
    refine aw_sub [(0, .ref (gad G 0)), (4, .int v4), (5, .int v5), (6, .int (-3 : Int32))] [1, 2, 3, 0] rfl ?_
    exact u_x_straight_96 C CR0 E hnL hgd hgr hgs k86 hk86 _ v4 v5 (-3 : Int32) _ hf
theorem u_x_straight_86 {G : Cx} (C : CX G prog_1_method_19_code "PaperStars") (CR0 : CR G (Option.some FieldType.int)) (E : LCin (gly G)) (hnL : gnL G = 8) (hgd : 3 ≤ gd G) {q : Int32 × Mm} (hgr : gr G = some (.int q.1)) (hgs : gsf G = q.2) : ∀ (n : Nat) (v4 : Int32) (v5 : Int32) (st : Mm), f_x_straight_86 n v4 v5 st = some q → AW G st 86 [(0, .ref (gad G 0)), (4, .int v4), (5, .int v5)] [] := by
  intro n
  induction n with
  | zero => intro v4 v5 st hf; cases hf
  | succ n ih => intro v4 v5 st hf; exact t_x_straight_86 C CR0 E hnL hgd hgr hgs (f_x_straight_86 n) ih v4 v5 st hf
theorem t_x_straight {G : Cx} (C : CX G prog_1_method_19_code "PaperStars") (CR0 : CR G (Option.some FieldType.int)) (E : LCin (gly G)) (hnL : gnL G = 8) (hgd : 3 ≤ gd G) {q : Int32 × Mm} (hgr : gr G = some (.int q.1)) (hgs : gsf G = q.2) (v1 : Int32) (v2 : Int32) (v3 : Int32) (v4 : Int32) (st : Mm) (hf : f_x_straight v1 v2 v3 v4 st = some q) : AW G st 0 [(0, .ref (gad G 0)), (1, .int v1), (2, .int v2), (3, .int v3), (4, .int v4)] [] := by
  unfold f_x_straight at hf
  refine aw_iload C 4 4 rfl (by decide +kernel) rfl ?_
  refine aw_if_lt C (tgt := 78) (off := 76) (by decide +kernel) (by decide) rfl (fun c1 => ?_) (fun c1 => ?_)
  · have hf := ift c1 hf
    refine aw_sipush C (i0 := -1000) (v := -1000) (by decide) (by decide +kernel) rfl ?_
    exact aw_iretq C CR0 hgr hgs hf (by decide +kernel)
  · have hf := iff_ c1 hf
    refine aw_iload C 4 4 rfl (by decide +kernel) rfl ?_
    refine aw_iconst C (i0 := 2) (v := 2) (by decide) (by decide +kernel) rfl ?_
    refine aw_icmp_gt C (tgt := 78) (off := 70) (by decide +kernel) (by decide) rfl (fun c2 => ?_) (fun c2 => ?_)
    · have hf := ift c2 hf
      refine aw_sipush C (i0 := -1000) (v := -1000) (by decide) (by decide +kernel) rfl ?_
      exact aw_iretq C CR0 hgr hgs hf (by decide +kernel)
    · have hf := iff_ c2 hf
      refine aw_aload_n C 0 0 (j := 0) rfl rfl (by decide +kernel) rfl ?_
      refine aw_getr C (k := 9) fc_11 (lc_0 E) rfl (by decide) tb_405 (by decide +kernel) rfl ?_
      refine aw_aload_n C 0 0 (j := 0) rfl rfl (by decide +kernel) rfl ?_
      refine aw_getr C (k := 0) fc_11 (lc_0 E) rfl (by decide) tb_396 (by decide +kernel) rfl ?_
      refine aw_get C (k := 0) fc_9 (lc_1 E) rfl (by decide) tb_37 (by decide +kernel) rfl ?_
      refine aw_iload_n C 1 1 (j := 1) rfl rfl (by decide +kernel) rfl ?_
      refine aw_iload_n C 2 2 (j := 2) rfl rfl (by decide +kernel) rfl ?_
      refine aw_iload_n C 3 3 (j := 3) rfl rfl (by decide +kernel) rfl ?_
      obtain ⟨q3, hq3, hf⟩ := ibd hf
      refine aw_callV C (rest := []) (c_Fit_fold E (st.1 1 0) v1 v2 v3 _ q3 hq3) tb_756 yf_98 yi_98 (lc_46 E) [.int (st.1 1 0), .int v1, .int v2, .int v3] rfl rfl _ rfl (Nat.le_trans (by decide) hgd) (Nat.le_of_ble_eq_true rfl) (by decide +kernel) rfl ?_
      show AW _ _ _ _ [.int q3.1]
      refine aw_if_eq C (tgt := 78) (off := 50) (by decide +kernel) (by decide) rfl (fun c4 => ?_) (fun c4 => ?_)
      · have hf := ift c4 hf
        refine aw_sipush C (i0 := -1000) (v := -1000) (by decide) (by decide +kernel) rfl ?_
        exact aw_iretq C CR0 hgr hgs hf (by decide +kernel)
      · have hf := iff_ c4 hf
        refine aw_aload_n C 0 0 (j := 0) rfl rfl (by decide +kernel) rfl ?_
        refine aw_getr C (k := 9) fc_11 (lc_0 E) rfl (by decide) tb_405 (by decide +kernel) rfl ?_
        refine aw_aload_n C 0 0 (j := 0) rfl rfl (by decide +kernel) rfl ?_
        refine aw_getr C (k := 0) fc_11 (lc_0 E) rfl (by decide) tb_396 (by decide +kernel) rfl ?_
        refine aw_getr C (k := 6) fc_9 (lc_1 E) rfl (by decide) tb_53 (by decide +kernel) rfl ?_
        obtain ⟨q5, hq5, hf⟩ := ibd hf
        refine aw_callV C (rest := []) (c_Fit_match E _ q5 hq5) tb_762 yf_99 yi_99 (lc_46 E) [.ref (gad G 4)] rfl rfl _ rfl (Nat.le_trans (by decide) hgd) (Nat.le_of_ble_eq_true rfl) (by decide +kernel) rfl ?_
        show AW _ _ _ _ [.int q5.1]
        refine aw_if_eq C (tgt := 78) (off := 33) (by decide +kernel) (by decide) rfl (fun c6 => ?_) (fun c6 => ?_)
        · have hf := ift c6 hf
          refine aw_sipush C (i0 := -1000) (v := -1000) (by decide) (by decide +kernel) rfl ?_
          exact aw_iretq C CR0 hgr hgs hf (by decide +kernel)
        · have hf := iff_ c6 hf
          refine aw_aload_n C 0 0 (j := 0) rfl rfl (by decide +kernel) rfl ?_
          refine aw_getr C (k := 9) fc_11 (lc_0 E) rfl (by decide) tb_405 (by decide +kernel) rfl ?_
          refine aw_get C (k := 2) fc_2 (lc_46 E) rfl (by decide) tb_310 (by decide +kernel) rfl ?_
          refine aw_if_eq C (tgt := 78) (off := 23) (by decide +kernel) (by decide) rfl (fun c7 => ?_) (fun c7 => ?_)
          · have hf := ift c7 hf
            refine aw_sipush C (i0 := -1000) (v := -1000) (by decide) (by decide +kernel) rfl ?_
            exact aw_iretq C CR0 hgr hgs hf (by decide +kernel)
          · have hf := iff_ c7 hf
            refine aw_aload_n C 0 0 (j := 0) rfl rfl (by decide +kernel) rfl ?_
            refine aw_getr C (k := 9) fc_11 (lc_0 E) rfl (by decide) tb_405 (by decide +kernel) rfl ?_
            refine aw_get C (k := 2) fc_2 (lc_46 E) rfl (by decide) tb_310 (by decide +kernel) rfl ?_
            refine aw_aload_n C 0 0 (j := 0) rfl rfl (by decide +kernel) rfl ?_
            refine aw_getr C (k := 9) fc_11 (lc_0 E) rfl (by decide) tb_405 (by decide +kernel) rfl ?_
            refine aw_getr C (k := 0) fc_2 (lc_46 E) rfl (by decide) tb_306 (by decide +kernel) rfl ?_
            obtain ⟨q8, hq8, hf⟩ := ibd hf
            refine aw_callV C (rest := [.int (q5.2.1 46 2)]) (c_Fold_places 47 48 49 ⟨(lc_47 E), (lc_48 E), (lc_49 E)⟩ _ q8 hq8) tb_595 yf_62 yi_62 (lc_47 E) [] rfl rfl _ rfl (Nat.le_trans (by decide) hgd) (Nat.le_of_ble_eq_true rfl) (by decide +kernel) rfl ?_
            show AW _ _ _ _ [.int q8.1, .int (q5.2.1 46 2)]
            refine aw_icmp_ne C (tgt := 82) (off := 7) (by decide +kernel) (by decide) rfl (fun c9 => ?_) (fun c9 => ?_)
            · have hf := ift c9 hf
              refine aw_sipush C (i0 := -1000) (v := -1000) (by decide) (by decide +kernel) rfl ?_
              exact aw_iretq C CR0 hgr hgs hf (by decide +kernel)
            · have hf := iff_ c9 hf
              refine aw_bipush C (i0 := -3) (v := -3) (by decide) (by decide +kernel) rfl ?_
              refine aw_istore C [(5, .int (-3 : Int32)), (0, .ref (gad G 0)), (1, .int v1), (2, .int v2), (3, .int v3), (4, .int v4)] (by rw [hnL]; decide) rfl (by decide +kernel) rfl ?_
              refine aw_sub [(0, .ref (gad G 0)), (4, .int v4), (5, .int (-3 : Int32))] [1, 5, 0] rfl ?_
              exact u_x_straight_86 C CR0 E hnL hgd hgr hgs _ v4 (-3 : Int32) _ hf
theorem c_x_straight {lay : Ly} (E : LCin lay) (v1 : Int32) (v2 : Int32) (v3 : Int32) (v4 : Int32) (st : Mm) (q : Int32 × Mm) (hf : f_x_straight v1 v2 v3 v4 st = some q) : Con 3 Y113 prog_1_method_19_code 8 (Option.some FieldType.int) lay (fun ad => [.ref (ad 0), .int v1, .int v2, .int v3, .int v4]) st (some (.int q.1)) q.2 :=
  am_met yf_113.2.2.2.2.2 (fun ad => Nat.le_of_ble_eq_true rfl) (fun G C CR0 e1 e2 e3 e4 e5 => t_x_straight C CR0 (by rw [e1]; exact E) e2 (Nat.le_of_eq e5.symm) e3 e4 v1 v2 v3 v4 st hf)
def b_x_scraps_83 (v4 : Int32) (st : Mm) : Option (Int32 × Mm) :=
  (f_Fit_aOf v4 st).bind (fun q1 => (f_Fit_bOf v4 q1.2).bind (fun q2 => (f_Fit_dOf v4 q2.2).bind (fun q3 => some (((((100 : Int32) * q1.1) + ((10 : Int32) * q2.1)) + q3.1), q3.2))))
def b_x_scraps_116 (v2 : Int32) (v3 : Int32) (st : Mm) : Option (Int32 × Mm) :=
  if v2 = (-1 : Int32) then (some (v3, st)) else (some ((-2 : Int32), st))
def b_x_scraps_24 (k24 : Int32 → Int32 → Int32 → Int32 → Mm → Option (Int32 × Mm)) (v1 : Int32) (v2 : Int32) (v3 : Int32) (v4 : Int32) (st : Mm) : Option (Int32 × Mm) :=
  if (50 : Int32) ≤ v4 then (b_x_scraps_116 v2 v3 st) else ((f_Fit_foldByCode (st.1 1 0) v4 st).bind (fun q2 => if q2.1 = 0 then (lt_ (v4 + (1 : Int32)) (fun a4 => k24 v1 v2 v3 a4 q2.2)) else ((f_Fit_match q2.2).bind (fun q5 => if q5.1 = 0 then (lt_ (v4 + (1 : Int32)) (fun a7 => k24 v1 v2 v3 a7 q5.2)) else (if (q5.2.1 46 2) = v1 then (if v3 = v2 then (b_x_scraps_83 v4 q5.2) else (lt_ (v3 + (1 : Int32)) (fun a10 => lt_ (v4 + (1 : Int32)) (fun a11 => k24 v1 v2 a10 a11 q5.2)))) else (lt_ (v4 + (1 : Int32)) (fun a12 => k24 v1 v2 v3 a12 q5.2)))))))
def f_x_scraps_24 : Nat → Int32 → Int32 → Int32 → Int32 → Mm → Option (Int32 × Mm)
  | 0 => fun _ _ _ _ _ => none
  | n + 1 => b_x_scraps_24 (f_x_scraps_24 n)
def f_x_scraps (v1 : Int32) (v2 : Int32) (st : Mm) : Option (Int32 × Mm) :=
  if v1 < 0 then (some ((-3 : Int32), st)) else (if (256 : Int32) < v1 then (some ((-3 : Int32), st)) else (if (-1 : Int32) ≤ v2 then (f_x_scraps_24 1000000 v1 v2 (0 : Int32) (0 : Int32) st) else (some ((-3 : Int32), st))))
theorem t_x_scraps_83 {G : Cx} (C : CX G prog_1_method_20_code "PaperStars") (CR0 : CR G (Option.some FieldType.int)) (E : LCin (gly G)) (hnL : gnL G = 5) (hgd : 4 ≤ gd G) {q : Int32 × Mm} (hgr : gr G = some (.int q.1)) (hgs : gsf G = q.2) (v4 : Int32) (st : Mm) (hf : b_x_scraps_83 v4 st = some q) : AW G st 83 [(4, .int v4)] [] := by
  unfold b_x_scraps_83 at hf
  refine aw_bipush C (i0 := 100) (v := 100) (by decide) (by decide +kernel) rfl ?_
  refine aw_iload C 4 0 rfl (by decide +kernel) rfl ?_
  obtain ⟨q1, hq1, hf⟩ := ibd hf
  refine aw_callS C (rest := [.int (100 : Int32)]) (c_Fit_aOf E v4 _ q1 hq1) tb_792 yf_103 tb_783 rfl _ rfl (Nat.le_trans (by decide) hgd) (Nat.le_of_ble_eq_true rfl) (by decide +kernel) rfl ?_
  show AW _ _ _ _ [.int q1.1, .int (100 : Int32)]
  refine aw_imul C (by decide +kernel) rfl ?_
  refine aw_bipush C (i0 := 10) (v := 10) (by decide) (by decide +kernel) rfl ?_
  refine aw_iload C 4 0 rfl (by decide +kernel) rfl ?_
  obtain ⟨q2, hq2, hf⟩ := ibd hf
  refine aw_callS C (rest := [.int (10 : Int32), .int ((100 : Int32) * q1.1)]) (c_Fit_bOf E v4 _ q2 hq2) tb_793 yf_104 tb_786 rfl _ rfl (Nat.le_trans (by decide) hgd) (Nat.le_of_ble_eq_true rfl) (by decide +kernel) rfl ?_
  show AW _ _ _ _ [.int q2.1, .int (10 : Int32), .int ((100 : Int32) * q1.1)]
  refine aw_imul C (by decide +kernel) rfl ?_
  refine aw_iadd C (by decide +kernel) rfl ?_
  refine aw_iload C 4 0 rfl (by decide +kernel) rfl ?_
  obtain ⟨q3, hq3, hf⟩ := ibd hf
  refine aw_callS C (rest := [.int (((100 : Int32) * q1.1) + ((10 : Int32) * q2.1))]) (c_Fit_dOf E v4 _ q3 hq3) tb_794 yf_105 tb_789 rfl _ rfl (Nat.le_trans (by decide) hgd) (Nat.le_of_ble_eq_true rfl) (by decide +kernel) rfl ?_
  show AW _ _ _ _ [.int q3.1, .int (((100 : Int32) * q1.1) + ((10 : Int32) * q2.1))]
  refine aw_iadd C (by decide +kernel) rfl ?_
  exact aw_iretq C CR0 hgr hgs hf (by decide +kernel)
theorem t_x_scraps_116 {G : Cx} (C : CX G prog_1_method_20_code "PaperStars") (CR0 : CR G (Option.some FieldType.int)) (E : LCin (gly G)) (hnL : gnL G = 5) (hgd : 4 ≤ gd G) {q : Int32 × Mm} (hgr : gr G = some (.int q.1)) (hgs : gsf G = q.2) (v2 : Int32) (v3 : Int32) (st : Mm) (hf : b_x_scraps_116 v2 v3 st = some q) : AW G st 116 [(2, .int v2), (3, .int v3)] [] := by
  unfold b_x_scraps_116 at hf
  refine aw_iload_n C 2 0 (j := 2) rfl rfl (by decide +kernel) rfl ?_
  refine aw_iconst C (i0 := -1) (v := -1) (by decide) (by decide +kernel) rfl ?_
  refine aw_icmp_ne C (tgt := 125) (off := 7) (by decide +kernel) (by decide) rfl (fun c1 => ?_) (fun c1 => ?_)
  · have hf := ift c1 hf
    refine aw_iload_n C 3 1 (j := 3) rfl rfl (by decide +kernel) rfl ?_
    refine aw_goto C (tgt := 127) (off := 5) (by decide +kernel) (by decide) ?_
    exact aw_iretq C CR0 hgr hgs hf (by decide +kernel)
  · have hf := iff_ c1 hf
    refine aw_bipush C (i0 := -2) (v := -2) (by decide) (by decide +kernel) rfl ?_
    exact aw_iretq C CR0 hgr hgs hf (by decide +kernel)
theorem t_x_scraps_24 {G : Cx} (C : CX G prog_1_method_20_code "PaperStars") (CR0 : CR G (Option.some FieldType.int)) (E : LCin (gly G)) (hnL : gnL G = 5) (hgd : 4 ≤ gd G) {q : Int32 × Mm} (hgr : gr G = some (.int q.1)) (hgs : gsf G = q.2) (k24 : Int32 → Int32 → Int32 → Int32 → Mm → Option (Int32 × Mm)) (hk24 : ∀ (v1 : Int32) (v2 : Int32) (v3 : Int32) (v4 : Int32) (st : Mm), k24 v1 v2 v3 v4 st = some q → AW G st 24 [(0, .ref (gad G 0)), (1, .int v1), (2, .int v2), (3, .int v3), (4, .int v4)] []) (v1 : Int32) (v2 : Int32) (v3 : Int32) (v4 : Int32) (st : Mm) (hf : b_x_scraps_24 k24 v1 v2 v3 v4 st = some q) : AW G st 24 [(0, .ref (gad G 0)), (1, .int v1), (2, .int v2), (3, .int v3), (4, .int v4)] [] := by
  unfold b_x_scraps_24 at hf
  refine aw_iload C 4 4 rfl (by decide +kernel) rfl ?_
  refine aw_bipush C (i0 := 50) (v := 50) (by decide) (by decide +kernel) rfl ?_
  refine aw_icmp_ge C (tgt := 116) (off := 88) (by decide +kernel) (by decide) rfl (fun c1 => ?_) (fun c1 => ?_)
  · have hf := ift c1 hf
    refine aw_sub [(2, .int v2), (3, .int v3)] [2, 3] rfl ?_
    exact t_x_scraps_116 C CR0 E hnL hgd hgr hgs v2 v3 _ hf
  · have hf := iff_ c1 hf
    refine aw_aload_n C 0 0 (j := 0) rfl rfl (by decide +kernel) rfl ?_
    refine aw_getr C (k := 9) fc_11 (lc_0 E) rfl (by decide) tb_405 (by decide +kernel) rfl ?_
    refine aw_aload_n C 0 0 (j := 0) rfl rfl (by decide +kernel) rfl ?_
    refine aw_getr C (k := 0) fc_11 (lc_0 E) rfl (by decide) tb_396 (by decide +kernel) rfl ?_
    refine aw_get C (k := 0) fc_9 (lc_1 E) rfl (by decide) tb_37 (by decide +kernel) rfl ?_
    refine aw_iload C 4 4 rfl (by decide +kernel) rfl ?_
    obtain ⟨q2, hq2, hf⟩ := ibd hf
    refine aw_callV C (rest := []) (c_Fit_foldByCode E (st.1 1 0) v4 _ q2 hq2) tb_778 yf_102 yi_102 (lc_46 E) [.int (st.1 1 0), .int v4] rfl rfl _ rfl (Nat.le_trans (by decide) hgd) (Nat.le_of_ble_eq_true rfl) (by decide +kernel) rfl ?_
    show AW _ _ _ _ [.int q2.1]
    refine aw_if_eq C (tgt := 110) (off := 63) (by decide +kernel) (by decide) rfl (fun c3 => ?_) (fun c3 => ?_)
    · have hf := ift c3 hf
      obtain ⟨a4, ha4⟩ : ∃ z, z = (v4 + (1 : Int32)) := ⟨_, rfl⟩
      have hf := ilt ha4 hf
      refine aw_iinc C [(4, .int a4), (0, .ref (gad G 0)), (1, .int v1), (2, .int v2), (3, .int v3)] 4 (n := 1) rfl (by rw [ha4]; rfl) (by rw [hnL]; decide) rfl (by decide +kernel) rfl ?_
      refine aw_goto C (tgt := 24) (off := -89) (by decide +kernel) (by decide) ?_
      refine aw_sub [(0, .ref (gad G 0)), (1, .int v1), (2, .int v2), (3, .int v3), (4, .int a4)] [1, 2, 3, 4, 0] rfl ?_
      exact hk24 v1 v2 v3 a4 _ hf
    · have hf := iff_ c3 hf
      refine aw_aload_n C 0 0 (j := 0) rfl rfl (by decide +kernel) rfl ?_
      refine aw_getr C (k := 9) fc_11 (lc_0 E) rfl (by decide) tb_405 (by decide +kernel) rfl ?_
      refine aw_aload_n C 0 0 (j := 0) rfl rfl (by decide +kernel) rfl ?_
      refine aw_getr C (k := 0) fc_11 (lc_0 E) rfl (by decide) tb_396 (by decide +kernel) rfl ?_
      refine aw_getr C (k := 6) fc_9 (lc_1 E) rfl (by decide) tb_53 (by decide +kernel) rfl ?_
      obtain ⟨q5, hq5, hf⟩ := ibd hf
      refine aw_callV C (rest := []) (c_Fit_match E _ q5 hq5) tb_762 yf_99 yi_99 (lc_46 E) [.ref (gad G 4)] rfl rfl _ rfl (Nat.le_trans (by decide) hgd) (Nat.le_of_ble_eq_true rfl) (by decide +kernel) rfl ?_
      show AW _ _ _ _ [.int q5.1]
      refine aw_if_eq C (tgt := 110) (off := 46) (by decide +kernel) (by decide) rfl (fun c6 => ?_) (fun c6 => ?_)
      · have hf := ift c6 hf
        obtain ⟨a7, ha7⟩ : ∃ z, z = (v4 + (1 : Int32)) := ⟨_, rfl⟩
        have hf := ilt ha7 hf
        refine aw_iinc C [(4, .int a7), (0, .ref (gad G 0)), (1, .int v1), (2, .int v2), (3, .int v3)] 4 (n := 1) rfl (by rw [ha7]; rfl) (by rw [hnL]; decide) rfl (by decide +kernel) rfl ?_
        refine aw_goto C (tgt := 24) (off := -89) (by decide +kernel) (by decide) ?_
        refine aw_sub [(0, .ref (gad G 0)), (1, .int v1), (2, .int v2), (3, .int v3), (4, .int a7)] [1, 2, 3, 4, 0] rfl ?_
        exact hk24 v1 v2 v3 a7 _ hf
      · have hf := iff_ c6 hf
        refine aw_aload_n C 0 0 (j := 0) rfl rfl (by decide +kernel) rfl ?_
        refine aw_getr C (k := 9) fc_11 (lc_0 E) rfl (by decide) tb_405 (by decide +kernel) rfl ?_
        refine aw_get C (k := 2) fc_2 (lc_46 E) rfl (by decide) tb_310 (by decide +kernel) rfl ?_
        refine aw_iload_n C 1 1 (j := 1) rfl rfl (by decide +kernel) rfl ?_
        refine aw_icmp_ne C (tgt := 110) (off := 35) (by decide +kernel) (by decide) rfl (fun c8 => ?_) (fun c8 => ?_)
        · have hf := ift c8 hf
          refine aw_iload_n C 3 3 (j := 3) rfl rfl (by decide +kernel) rfl ?_
          refine aw_iload_n C 2 2 (j := 2) rfl rfl (by decide +kernel) rfl ?_
          refine aw_icmp_ne C (tgt := 107) (off := 27) (by decide +kernel) (by decide) rfl (fun c9 => ?_) (fun c9 => ?_)
          · have hf := ift c9 hf
            refine aw_sub [(4, .int v4)] [4] rfl ?_
            exact t_x_scraps_83 C CR0 E hnL hgd hgr hgs v4 _ hf
          · have hf := iff_ c9 hf
            obtain ⟨a10, ha10⟩ : ∃ z, z = (v3 + (1 : Int32)) := ⟨_, rfl⟩
            have hf := ilt ha10 hf
            refine aw_iinc C [(3, .int a10), (0, .ref (gad G 0)), (1, .int v1), (2, .int v2), (4, .int v4)] 3 (n := 1) rfl (by rw [ha10]; rfl) (by rw [hnL]; decide) rfl (by decide +kernel) rfl ?_
            obtain ⟨a11, ha11⟩ : ∃ z, z = (v4 + (1 : Int32)) := ⟨_, rfl⟩
            have hf := ilt ha11 hf
            refine aw_iinc C [(4, .int a11), (3, .int a10), (0, .ref (gad G 0)), (1, .int v1), (2, .int v2)] 4 (n := 1) rfl (by rw [ha11]; rfl) (by rw [hnL]; decide) rfl (by decide +kernel) rfl ?_
            refine aw_goto C (tgt := 24) (off := -89) (by decide +kernel) (by decide) ?_
            refine aw_sub [(0, .ref (gad G 0)), (1, .int v1), (2, .int v2), (3, .int a10), (4, .int a11)] [2, 3, 4, 1, 0] rfl ?_
            exact hk24 v1 v2 a10 a11 _ hf
        · have hf := iff_ c8 hf
          obtain ⟨a12, ha12⟩ : ∃ z, z = (v4 + (1 : Int32)) := ⟨_, rfl⟩
          have hf := ilt ha12 hf
          refine aw_iinc C [(4, .int a12), (0, .ref (gad G 0)), (1, .int v1), (2, .int v2), (3, .int v3)] 4 (n := 1) rfl (by rw [ha12]; rfl) (by rw [hnL]; decide) rfl (by decide +kernel) rfl ?_
          refine aw_goto C (tgt := 24) (off := -89) (by decide +kernel) (by decide) ?_
          refine aw_sub [(0, .ref (gad G 0)), (1, .int v1), (2, .int v2), (3, .int v3), (4, .int a12)] [1, 2, 3, 4, 0] rfl ?_
          exact hk24 v1 v2 v3 a12 _ hf
theorem u_x_scraps_24 {G : Cx} (C : CX G prog_1_method_20_code "PaperStars") (CR0 : CR G (Option.some FieldType.int)) (E : LCin (gly G)) (hnL : gnL G = 5) (hgd : 4 ≤ gd G) {q : Int32 × Mm} (hgr : gr G = some (.int q.1)) (hgs : gsf G = q.2) : ∀ (n : Nat) (v1 : Int32) (v2 : Int32) (v3 : Int32) (v4 : Int32) (st : Mm), f_x_scraps_24 n v1 v2 v3 v4 st = some q → AW G st 24 [(0, .ref (gad G 0)), (1, .int v1), (2, .int v2), (3, .int v3), (4, .int v4)] [] := by
  intro n
  induction n with
  | zero => intro v1 v2 v3 v4 st hf; cases hf
  | succ n ih => intro v1 v2 v3 v4 st hf; exact t_x_scraps_24 C CR0 E hnL hgd hgr hgs (f_x_scraps_24 n) ih v1 v2 v3 v4 st hf
theorem t_x_scraps {G : Cx} (C : CX G prog_1_method_20_code "PaperStars") (CR0 : CR G (Option.some FieldType.int)) (E : LCin (gly G)) (hnL : gnL G = 5) (hgd : 4 ≤ gd G) {q : Int32 × Mm} (hgr : gr G = some (.int q.1)) (hgs : gsf G = q.2) (v1 : Int32) (v2 : Int32) (st : Mm) (hf : f_x_scraps v1 v2 st = some q) : AW G st 0 [(0, .ref (gad G 0)), (1, .int v1), (2, .int v2)] [] := by
  unfold f_x_scraps at hf
  refine aw_iload_n C 1 1 (j := 1) rfl rfl (by decide +kernel) rfl ?_
  refine aw_if_lt C (tgt := 16) (off := 15) (by decide +kernel) (by decide) rfl (fun c1 => ?_) (fun c1 => ?_)
  · have hf := ift c1 hf
    refine aw_bipush C (i0 := -3) (v := -3) (by decide) (by decide +kernel) rfl ?_
    exact aw_iretq C CR0 hgr hgs hf (by decide +kernel)
  · have hf := iff_ c1 hf
    refine aw_iload_n C 1 1 (j := 1) rfl rfl (by decide +kernel) rfl ?_
    refine aw_sipush C (i0 := 256) (v := 256) (by decide) (by decide +kernel) rfl ?_
    refine aw_icmp_gt C (tgt := 16) (off := 8) (by decide +kernel) (by decide) rfl (fun c2 => ?_) (fun c2 => ?_)
    · have hf := ift c2 hf
      refine aw_bipush C (i0 := -3) (v := -3) (by decide) (by decide +kernel) rfl ?_
      exact aw_iretq C CR0 hgr hgs hf (by decide +kernel)
    · have hf := iff_ c2 hf
      refine aw_iload_n C 2 2 (j := 2) rfl rfl (by decide +kernel) rfl ?_
      refine aw_iconst C (i0 := -1) (v := -1) (by decide) (by decide +kernel) rfl ?_
      refine aw_icmp_ge C (tgt := 19) (off := 6) (by decide +kernel) (by decide) rfl (fun c3 => ?_) (fun c3 => ?_)
      · have hf := ift c3 hf
        refine aw_iconst C (i0 := 0) (v := 0) (by decide) (by decide +kernel) rfl ?_
        refine aw_istore_n C [(3, .int (0 : Int32)), (0, .ref (gad G 0)), (1, .int v1), (2, .int v2)] (j := 3) rfl (by rw [hnL]; decide) rfl (by decide +kernel) rfl ?_
        refine aw_iconst C (i0 := 0) (v := 0) (by decide) (by decide +kernel) rfl ?_
        refine aw_istore C [(4, .int (0 : Int32)), (3, .int (0 : Int32)), (0, .ref (gad G 0)), (1, .int v1), (2, .int v2)] (by rw [hnL]; decide) rfl (by decide +kernel) rfl ?_
        refine aw_sub [(0, .ref (gad G 0)), (1, .int v1), (2, .int v2), (3, .int (0 : Int32)), (4, .int (0 : Int32))] [2, 3, 4, 1, 0] rfl ?_
        exact u_x_scraps_24 C CR0 E hnL hgd hgr hgs _ v1 v2 (0 : Int32) (0 : Int32) _ hf
      · have hf := iff_ c3 hf
        refine aw_bipush C (i0 := -3) (v := -3) (by decide) (by decide +kernel) rfl ?_
        exact aw_iretq C CR0 hgr hgs hf (by decide +kernel)
theorem c_x_scraps {lay : Ly} (E : LCin lay) (v1 : Int32) (v2 : Int32) (st : Mm) (q : Int32 × Mm) (hf : f_x_scraps v1 v2 st = some q) : Con 4 Y118 prog_1_method_20_code 5 (Option.some FieldType.int) lay (fun ad => [.ref (ad 0), .int v1, .int v2]) st (some (.int q.1)) q.2 :=
  am_met yf_118.2.2.2.2.2 (fun ad => Nat.le_of_ble_eq_true rfl) (fun G C CR0 e1 e2 e3 e4 e5 => t_x_scraps C CR0 (by rw [e1]; exact E) e2 (Nat.le_of_eq e5.symm) e3 e4 v1 v2 st hf)
def b_x_choose_16 (k16 : Int32 → Int32 → Int64 → Int32 → Mm → Option (Int64 × Mm)) (v0 : Int32) (v1 : Int32) (v2 : Int64) (v4 : Int32) (st : Mm) : Option (Int64 × Mm) :=
  if v1 < v4 then (some (v2, st)) else (if ¬ (v4.toInt64) = 0 then lt_ ((v2 * (((v0 - v1) + v4).toInt64)) / (v4.toInt64)) (fun a3 => lt_ (v4 + (1 : Int32)) (fun a4 => k16 v0 v1 a3 a4 st)) else none)
def f_x_choose_16 : Nat → Int32 → Int32 → Int64 → Int32 → Mm → Option (Int64 × Mm)
  | 0 => fun _ _ _ _ _ => none
  | n + 1 => b_x_choose_16 (f_x_choose_16 n)
def f_x_choose (v0 : Int32) (v1 : Int32) (st : Mm) : Option (Int64 × Mm) :=
  if v1 < 0 then (some ((0 : Int64), st)) else (if v1 ≤ v0 then (f_x_choose_16 1000000 v0 v1 (1 : Int64) (1 : Int32) st) else (some ((0 : Int64), st)))
theorem t_x_choose_16 {G : Cx} (C : CX G prog_1_method_43_code "PaperStars") (CR0 : CR G (Option.some FieldType.long))  (hnL : gnL G = 5) (hgd : 0 ≤ gd G) {q : Int64 × Mm} (hgr : gr G = some (.long q.1)) (hgs : gsf G = q.2) (k16 : Int32 → Int32 → Int64 → Int32 → Mm → Option (Int64 × Mm)) (hk16 : ∀ (v0 : Int32) (v1 : Int32) (v2 : Int64) (v4 : Int32) (st : Mm), k16 v0 v1 v2 v4 st = some q → AW G st 16 [(0, .int v0), (1, .int v1), (2, .long v2), (4, .int v4)] []) (v0 : Int32) (v1 : Int32) (v2 : Int64) (v4 : Int32) (st : Mm) (hf : b_x_choose_16 k16 v0 v1 v2 v4 st = some q) : AW G st 16 [(0, .int v0), (1, .int v1), (2, .long v2), (4, .int v4)] [] := by
  unfold b_x_choose_16 at hf
  refine aw_iload C 4 3 rfl (by decide +kernel) rfl ?_
  refine aw_iload_n C 1 1 (j := 1) rfl rfl (by decide +kernel) rfl ?_
  refine aw_icmp_gt C (tgt := 42) (off := 23) (by decide +kernel) (by decide) rfl (fun c1 => ?_) (fun c1 => ?_)
  · have hf := ift c1 hf
    refine aw_lload_n C 2 2 (j := 2) rfl rfl (by decide +kernel) rfl ?_
    exact aw_lretq C CR0 hgr hgs hf (by decide +kernel)
  · have hf := iff_ c1 hf
    refine aw_lload_n C 2 2 (j := 2) rfl rfl (by decide +kernel) rfl ?_
    refine aw_iload_n C 0 0 (j := 0) rfl rfl (by decide +kernel) rfl ?_
    refine aw_iload_n C 1 1 (j := 1) rfl rfl (by decide +kernel) rfl ?_
    refine aw_isub C (by decide +kernel) rfl ?_
    refine aw_iload C 4 3 rfl (by decide +kernel) rfl ?_
    refine aw_iadd C (by decide +kernel) rfl ?_
    refine aw_i2l C (by decide +kernel) rfl ?_
    refine aw_lmul C (by decide +kernel) rfl ?_
    refine aw_iload C 4 3 rfl (by decide +kernel) rfl ?_
    refine aw_i2l C (by decide +kernel) rfl ?_
    obtain ⟨g2, hf⟩ := igd hf
    refine aw_ldiv C g2 (by decide +kernel) rfl ?_
    obtain ⟨a3, ha3⟩ : ∃ z, z = ((v2 * (((v0 - v1) + v4).toInt64)) / (v4.toInt64)) := ⟨_, rfl⟩
    refine aw_nml ha3 ?_
    have hf := ilt ha3 hf
    refine aw_lstore_n C [(2, .long a3), (0, .int v0), (1, .int v1), (4, .int v4)] (j := 2) rfl (by rw [hnL]; decide) rfl (by decide +kernel) rfl ?_
    obtain ⟨a4, ha4⟩ : ∃ z, z = (v4 + (1 : Int32)) := ⟨_, rfl⟩
    have hf := ilt ha4 hf
    refine aw_iinc C [(4, .int a4), (2, .long a3), (0, .int v0), (1, .int v1)] 3 (n := 1) rfl (by rw [ha4]; rfl) (by rw [hnL]; decide) rfl (by decide +kernel) rfl ?_
    refine aw_goto C (tgt := 16) (off := -23) (by decide +kernel) (by decide) ?_
    refine aw_sub [(0, .int v0), (1, .int v1), (2, .long a3), (4, .int a4)] [2, 3, 1, 0] rfl ?_
    exact hk16 v0 v1 a3 a4 _ hf
theorem u_x_choose_16 {G : Cx} (C : CX G prog_1_method_43_code "PaperStars") (CR0 : CR G (Option.some FieldType.long))  (hnL : gnL G = 5) (hgd : 0 ≤ gd G) {q : Int64 × Mm} (hgr : gr G = some (.long q.1)) (hgs : gsf G = q.2) : ∀ (n : Nat) (v0 : Int32) (v1 : Int32) (v2 : Int64) (v4 : Int32) (st : Mm), f_x_choose_16 n v0 v1 v2 v4 st = some q → AW G st 16 [(0, .int v0), (1, .int v1), (2, .long v2), (4, .int v4)] [] := by
  intro n
  induction n with
  | zero => intro v0 v1 v2 v4 st hf; cases hf
  | succ n ih => intro v0 v1 v2 v4 st hf; exact t_x_choose_16 C CR0  hnL hgd hgr hgs (f_x_choose_16 n) ih v0 v1 v2 v4 st hf
theorem t_x_choose {G : Cx} (C : CX G prog_1_method_43_code "PaperStars") (CR0 : CR G (Option.some FieldType.long))  (hnL : gnL G = 5) (hgd : 0 ≤ gd G) {q : Int64 × Mm} (hgr : gr G = some (.long q.1)) (hgs : gsf G = q.2) (v0 : Int32) (v1 : Int32) (st : Mm) (hf : f_x_choose v0 v1 st = some q) : AW G st 0 [(0, .int v0), (1, .int v1)] [] := by
  unfold f_x_choose at hf
  refine aw_iload_n C 1 1 (j := 1) rfl rfl (by decide +kernel) rfl ?_
  refine aw_if_lt C (tgt := 9) (off := 8) (by decide +kernel) (by decide) rfl (fun c1 => ?_) (fun c1 => ?_)
  · have hf := ift c1 hf
    refine aw_lconst C (i0 := 0) (v := 0) (by decide) (by decide +kernel) rfl ?_
    exact aw_lretq C CR0 hgr hgs hf (by decide +kernel)
  · have hf := iff_ c1 hf
    refine aw_iload_n C 1 1 (j := 1) rfl rfl (by decide +kernel) rfl ?_
    refine aw_iload_n C 0 0 (j := 0) rfl rfl (by decide +kernel) rfl ?_
    refine aw_icmp_le C (tgt := 11) (off := 5) (by decide +kernel) (by decide) rfl (fun c2 => ?_) (fun c2 => ?_)
    · have hf := ift c2 hf
      refine aw_lconst C (i0 := 1) (v := 1) (by decide) (by decide +kernel) rfl ?_
      refine aw_lstore_n C [(2, .long (1 : Int64)), (0, .int v0), (1, .int v1)] (j := 2) rfl (by rw [hnL]; decide) rfl (by decide +kernel) rfl ?_
      refine aw_iconst C (i0 := 1) (v := 1) (by decide) (by decide +kernel) rfl ?_
      refine aw_istore C [(4, .int (1 : Int32)), (2, .long (1 : Int64)), (0, .int v0), (1, .int v1)] (by rw [hnL]; decide) rfl (by decide +kernel) rfl ?_
      refine aw_sub [(0, .int v0), (1, .int v1), (2, .long (1 : Int64)), (4, .int (1 : Int32))] [2, 3, 1, 0] rfl ?_
      exact u_x_choose_16 C CR0  hnL hgd hgr hgs _ v0 v1 (1 : Int64) (1 : Int32) _ hf
    · have hf := iff_ c2 hf
      refine aw_lconst C (i0 := 0) (v := 0) (by decide) (by decide +kernel) rfl ?_
      exact aw_lretq C CR0 hgr hgs hf (by decide +kernel)
theorem c_x_choose {lay : Ly}  (v0 : Int32) (v1 : Int32) (st : Mm) (q : Int64 × Mm) (hf : f_x_choose v0 v1 st = some q) : Con 0 Y120 prog_1_method_43_code 5 (Option.some FieldType.long) lay (fun ad => [.int v0, .int v1]) st (some (.long q.1)) q.2 :=
  am_met yf_120.2.2.2.2.2 (fun ad => Nat.le_of_ble_eq_true rfl) (fun G C CR0 e1 e2 e3 e4 e5 => t_x_choose C CR0  e2 (Nat.le_of_eq e5.symm) e3 e4 v0 v1 st hf)
def b_x_unmoved_13 (k13 : Int32 → Int32 → Int32 → Int32 → Int64 → Int32 → Mm → Option (Int64 × Mm)) (v0 : Int32) (v1 : Int32) (v2 : Int32) (v3 : Int32) (v4 : Int64) (v6 : Int32) (st : Mm) : Option (Int64 × Mm) :=
  if v0 < v6 then (some (v4, st)) else (if v2 < v6 then (some (v4, st)) else (if ¬ v1 = 0 then if ((v2 - v6) - (v2 - v6) / v1 * v1) = 0 then ((f_x_choose v0 v6 st).bind (fun q5 => if ¬ v1 = 0 then if ¬ v1 = 0 then (f_x_choose ((v3 - v0) / v1) ((v2 - v6) / v1) q5.2).bind (fun q8 => lt_ (v4 + (q5.1 * q8.1)) (fun a9 => lt_ (v6 + (1 : Int32)) (fun a10 => k13 v0 v1 v2 v3 a9 a10 q8.2))) else none else none)) else (lt_ (v6 + (1 : Int32)) (fun a11 => k13 v0 v1 v2 v3 v4 a11 st)) else none))
def f_x_unmoved_13 : Nat → Int32 → Int32 → Int32 → Int32 → Int64 → Int32 → Mm → Option (Int64 × Mm)
  | 0 => fun _ _ _ _ _ _ _ => none
  | n + 1 => b_x_unmoved_13 (f_x_unmoved_13 n)
def f_x_unmoved (v0 : Int32) (v1 : Int32) (v2 : Int32) (v3 : Int32) (st : Mm) : Option (Int64 × Mm) :=
  if (1 : Int32) ≤ v1 then (f_x_unmoved_13 1000000 v0 v1 v2 v3 (0 : Int64) (0 : Int32) st) else (some ((0 : Int64), st))
theorem t_x_unmoved_13 {G : Cx} (C : CX G prog_1_method_44_code "PaperStars") (CR0 : CR G (Option.some FieldType.long))  (hnL : gnL G = 7) (hgd : 1 ≤ gd G) {q : Int64 × Mm} (hgr : gr G = some (.long q.1)) (hgs : gsf G = q.2) (k13 : Int32 → Int32 → Int32 → Int32 → Int64 → Int32 → Mm → Option (Int64 × Mm)) (hk13 : ∀ (v0 : Int32) (v1 : Int32) (v2 : Int32) (v3 : Int32) (v4 : Int64) (v6 : Int32) (st : Mm), k13 v0 v1 v2 v3 v4 v6 st = some q → AW G st 13 [(0, .int v0), (1, .int v1), (2, .int v2), (3, .int v3), (4, .long v4), (6, .int v6)] []) (v0 : Int32) (v1 : Int32) (v2 : Int32) (v3 : Int32) (v4 : Int64) (v6 : Int32) (st : Mm) (hf : b_x_unmoved_13 k13 v0 v1 v2 v3 v4 v6 st = some q) : AW G st 13 [(0, .int v0), (1, .int v1), (2, .int v2), (3, .int v3), (4, .long v4), (6, .int v6)] [] := by
  unfold b_x_unmoved_13 at hf
  refine aw_iload C 6 5 rfl (by decide +kernel) rfl ?_
  refine aw_iload_n C 0 0 (j := 0) rfl rfl (by decide +kernel) rfl ?_
  refine aw_icmp_gt C (tgt := 66) (off := 50) (by decide +kernel) (by decide) rfl (fun c1 => ?_) (fun c1 => ?_)
  · have hf := ift c1 hf
    refine aw_lload C 4 4 rfl (by decide +kernel) rfl ?_
    exact aw_lretq C CR0 hgr hgs hf (by decide +kernel)
  · have hf := iff_ c1 hf
    refine aw_iload C 6 5 rfl (by decide +kernel) rfl ?_
    refine aw_iload_n C 2 2 (j := 2) rfl rfl (by decide +kernel) rfl ?_
    refine aw_icmp_gt C (tgt := 66) (off := 44) (by decide +kernel) (by decide) rfl (fun c2 => ?_) (fun c2 => ?_)
    · have hf := ift c2 hf
      refine aw_lload C 4 4 rfl (by decide +kernel) rfl ?_
      exact aw_lretq C CR0 hgr hgs hf (by decide +kernel)
    · have hf := iff_ c2 hf
      refine aw_iload_n C 2 2 (j := 2) rfl rfl (by decide +kernel) rfl ?_
      refine aw_iload C 6 5 rfl (by decide +kernel) rfl ?_
      refine aw_isub C (by decide +kernel) rfl ?_
      refine aw_iload_n C 1 1 (j := 1) rfl rfl (by decide +kernel) rfl ?_
      obtain ⟨g3, hf⟩ := igd hf
      refine aw_irem C g3 (by decide +kernel) rfl ?_
      refine aw_if_ne C (tgt := 60) (off := 29) (by decide +kernel) (by decide) rfl (fun c4 => ?_) (fun c4 => ?_)
      · have hf := ift c4 hf
        refine aw_lload C 4 4 rfl (by decide +kernel) rfl ?_
        refine aw_iload_n C 0 0 (j := 0) rfl rfl (by decide +kernel) rfl ?_
        refine aw_iload C 6 5 rfl (by decide +kernel) rfl ?_
        obtain ⟨q5, hq5, hf⟩ := ibd hf
        refine aw_callS C (rest := [.long v4]) (c_x_choose v0 v6 _ q5 hq5) tb_854 yf_120 tb_855 rfl _ rfl (Nat.le_trans (by decide) hgd) (Nat.le_of_ble_eq_true rfl) (by decide +kernel) rfl ?_
        show AW _ _ _ _ [.long q5.1, .long v4]
        refine aw_iload_n C 3 3 (j := 3) rfl rfl (by decide +kernel) rfl ?_
        refine aw_iload_n C 0 0 (j := 0) rfl rfl (by decide +kernel) rfl ?_
        refine aw_isub C (by decide +kernel) rfl ?_
        refine aw_iload_n C 1 1 (j := 1) rfl rfl (by decide +kernel) rfl ?_
        obtain ⟨g6, hf⟩ := igd hf
        refine aw_idiv C g6 (by decide +kernel) rfl ?_
        refine aw_iload_n C 2 2 (j := 2) rfl rfl (by decide +kernel) rfl ?_
        refine aw_iload C 6 5 rfl (by decide +kernel) rfl ?_
        refine aw_isub C (by decide +kernel) rfl ?_
        refine aw_iload_n C 1 1 (j := 1) rfl rfl (by decide +kernel) rfl ?_
        obtain ⟨g7, hf⟩ := igd hf
        refine aw_idiv C g7 (by decide +kernel) rfl ?_
        obtain ⟨q8, hq8, hf⟩ := ibd hf
        refine aw_callS C (rest := [.long q5.1, .long v4]) (c_x_choose ((v3 - v0) / v1) ((v2 - v6) / v1) _ q8 hq8) tb_854 yf_120 tb_855 rfl _ rfl (Nat.le_trans (by decide) hgd) (Nat.le_of_ble_eq_true rfl) (by decide +kernel) rfl ?_
        show AW _ _ _ _ [.long q8.1, .long q5.1, .long v4]
        refine aw_lmul C (by decide +kernel) rfl ?_
        refine aw_ladd C (by decide +kernel) rfl ?_
        obtain ⟨a9, ha9⟩ : ∃ z, z = (v4 + (q5.1 * q8.1)) := ⟨_, rfl⟩
        refine aw_nml ha9 ?_
        have hf := ilt ha9 hf
        refine aw_lstore C [(4, .long a9), (0, .int v0), (1, .int v1), (2, .int v2), (3, .int v3), (6, .int v6)] (by rw [hnL]; decide) rfl (by decide +kernel) rfl ?_
        obtain ⟨a10, ha10⟩ : ∃ z, z = (v6 + (1 : Int32)) := ⟨_, rfl⟩
        have hf := ilt ha10 hf
        refine aw_iinc C [(6, .int a10), (4, .long a9), (0, .int v0), (1, .int v1), (2, .int v2), (3, .int v3)] 5 (n := 1) rfl (by rw [ha10]; rfl) (by rw [hnL]; decide) rfl (by decide +kernel) rfl ?_
        refine aw_goto C (tgt := 13) (off := -50) (by decide +kernel) (by decide) ?_
        refine aw_sub [(0, .int v0), (1, .int v1), (2, .int v2), (3, .int v3), (4, .long a9), (6, .int a10)] [2, 3, 4, 5, 1, 0] rfl ?_
        exact hk13 v0 v1 v2 v3 a9 a10 _ hf
      · have hf := iff_ c4 hf
        obtain ⟨a11, ha11⟩ : ∃ z, z = (v6 + (1 : Int32)) := ⟨_, rfl⟩
        have hf := ilt ha11 hf
        refine aw_iinc C [(6, .int a11), (0, .int v0), (1, .int v1), (2, .int v2), (3, .int v3), (4, .long v4)] 5 (n := 1) rfl (by rw [ha11]; rfl) (by rw [hnL]; decide) rfl (by decide +kernel) rfl ?_
        refine aw_goto C (tgt := 13) (off := -50) (by decide +kernel) (by decide) ?_
        refine aw_sub [(0, .int v0), (1, .int v1), (2, .int v2), (3, .int v3), (4, .long v4), (6, .int a11)] [1, 2, 3, 4, 5, 0] rfl ?_
        exact hk13 v0 v1 v2 v3 v4 a11 _ hf
theorem u_x_unmoved_13 {G : Cx} (C : CX G prog_1_method_44_code "PaperStars") (CR0 : CR G (Option.some FieldType.long))  (hnL : gnL G = 7) (hgd : 1 ≤ gd G) {q : Int64 × Mm} (hgr : gr G = some (.long q.1)) (hgs : gsf G = q.2) : ∀ (n : Nat) (v0 : Int32) (v1 : Int32) (v2 : Int32) (v3 : Int32) (v4 : Int64) (v6 : Int32) (st : Mm), f_x_unmoved_13 n v0 v1 v2 v3 v4 v6 st = some q → AW G st 13 [(0, .int v0), (1, .int v1), (2, .int v2), (3, .int v3), (4, .long v4), (6, .int v6)] [] := by
  intro n
  induction n with
  | zero => intro v0 v1 v2 v3 v4 v6 st hf; cases hf
  | succ n ih => intro v0 v1 v2 v3 v4 v6 st hf; exact t_x_unmoved_13 C CR0  hnL hgd hgr hgs (f_x_unmoved_13 n) ih v0 v1 v2 v3 v4 v6 st hf
theorem t_x_unmoved {G : Cx} (C : CX G prog_1_method_44_code "PaperStars") (CR0 : CR G (Option.some FieldType.long))  (hnL : gnL G = 7) (hgd : 1 ≤ gd G) {q : Int64 × Mm} (hgr : gr G = some (.long q.1)) (hgs : gsf G = q.2) (v0 : Int32) (v1 : Int32) (v2 : Int32) (v3 : Int32) (st : Mm) (hf : f_x_unmoved v0 v1 v2 v3 st = some q) : AW G st 0 [(0, .int v0), (1, .int v1), (2, .int v2), (3, .int v3)] [] := by
  unfold f_x_unmoved at hf
  refine aw_iload_n C 1 1 (j := 1) rfl rfl (by decide +kernel) rfl ?_
  refine aw_iconst C (i0 := 1) (v := 1) (by decide) (by decide +kernel) rfl ?_
  refine aw_icmp_ge C (tgt := 7) (off := 5) (by decide +kernel) (by decide) rfl (fun c1 => ?_) (fun c1 => ?_)
  · have hf := ift c1 hf
    refine aw_lconst C (i0 := 0) (v := 0) (by decide) (by decide +kernel) rfl ?_
    refine aw_lstore C [(4, .long (0 : Int64)), (0, .int v0), (1, .int v1), (2, .int v2), (3, .int v3)] (by rw [hnL]; decide) rfl (by decide +kernel) rfl ?_
    refine aw_iconst C (i0 := 0) (v := 0) (by decide) (by decide +kernel) rfl ?_
    refine aw_istore C [(6, .int (0 : Int32)), (4, .long (0 : Int64)), (0, .int v0), (1, .int v1), (2, .int v2), (3, .int v3)] (by rw [hnL]; decide) rfl (by decide +kernel) rfl ?_
    refine aw_sub [(0, .int v0), (1, .int v1), (2, .int v2), (3, .int v3), (4, .long (0 : Int64)), (6, .int (0 : Int32))] [2, 3, 4, 5, 1, 0] rfl ?_
    exact u_x_unmoved_13 C CR0  hnL hgd hgr hgs _ v0 v1 v2 v3 (0 : Int64) (0 : Int32) _ hf
  · have hf := iff_ c1 hf
    refine aw_lconst C (i0 := 0) (v := 0) (by decide) (by decide +kernel) rfl ?_
    exact aw_lretq C CR0 hgr hgs hf (by decide +kernel)
theorem c_x_unmoved {lay : Ly}  (v0 : Int32) (v1 : Int32) (v2 : Int32) (v3 : Int32) (st : Mm) (q : Int64 × Mm) (hf : f_x_unmoved v0 v1 v2 v3 st = some q) : Con 1 Y121 prog_1_method_44_code 7 (Option.some FieldType.long) lay (fun ad => [.int v0, .int v1, .int v2, .int v3]) st (some (.long q.1)) q.2 :=
  am_met yf_121.2.2.2.2.2 (fun ad => Nat.le_of_ble_eq_true rfl) (fun G C CR0 e1 e2 e3 e4 e5 => t_x_unmoved C CR0  e2 (Nat.le_of_eq e5.symm) e3 e4 v0 v1 v2 v3 st hf)
