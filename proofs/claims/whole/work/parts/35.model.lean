def f_m_areSlips (v1 : Int32) (st : Mm) : Option (Int32 × Mm) :=
  if v1 < 0 then (some ((0 : Int32), st)) else (if ((1 : Int32) <<< ((st.1 58 1) &&& 31)) ≤ v1 then (some ((0 : Int32), st)) else (some ((1 : Int32), st)))
theorem t_m_areSlips {G : Cx} (C : CX G prog_14_method_99_code "PaperStarsModel") (CR0 : CR G (Option.some FieldType.boolean)) (E : LAin (gly G)) (hnL : gnL G = 2) (hgd : 0 ≤ gd G) {q : Int32 × Mm} (hgr : gr G = some (.int q.1)) (hgs : gsf G = q.2) (v1 : Int32) (st : Mm) (hf : f_m_areSlips v1 st = some q) : AW G st 0 [(0, .ref (gad G 58)), (1, .int v1)] [] := by
  unfold f_m_areSlips at hf
  refine aw_iload_n C 1 1 (j := 1) rfl rfl (by decide +kernel) rfl ?_
  refine aw_if_lt C (tgt := 18) (off := 17) (by decide +kernel) (by decide) rfl (fun c1 => ?_) (fun c1 => ?_)
  · have hf := ift c1 hf
    refine aw_iconst C (i0 := 0) (v := 0) (by decide) (by decide +kernel) rfl ?_
    exact aw_zretq C CR0 hgr hgs (by decide) hf (by decide +kernel)
  · have hf := iff_ c1 hf
    refine aw_iload_n C 1 1 (j := 1) rfl rfl (by decide +kernel) rfl ?_
    refine aw_iconst C (i0 := 1) (v := 1) (by decide) (by decide +kernel) rfl ?_
    refine aw_aload_n C 0 0 (j := 0) rfl rfl (by decide +kernel) rfl ?_
    refine aw_get C (k := 1) fc_12 (la_58 E) rfl (by decide) tb_943 (by decide +kernel) rfl ?_
    refine aw_ishl C (by decide +kernel) rfl ?_
    refine aw_icmp_ge C (tgt := 18) (off := 7) (by decide +kernel) (by decide) rfl (fun c2 => ?_) (fun c2 => ?_)
    · have hf := ift c2 hf
      refine aw_iconst C (i0 := 0) (v := 0) (by decide) (by decide +kernel) rfl ?_
      exact aw_zretq C CR0 hgr hgs (by decide) hf (by decide +kernel)
    · have hf := iff_ c2 hf
      refine aw_iconst C (i0 := 1) (v := 1) (by decide) (by decide +kernel) rfl ?_
      refine aw_goto C (tgt := 19) (off := 4) (by decide +kernel) (by decide) ?_
      exact aw_zretq C CR0 hgr hgs (by decide) hf (by decide +kernel)
theorem c_m_areSlips {lay : Ly} (E : LAin lay) (v1 : Int32) (st : Mm) (q : Int32 × Mm) (hf : f_m_areSlips v1 st = some q) : Con 0 Y237 prog_14_method_99_code 2 (Option.some FieldType.boolean) lay (fun ad => [.ref (ad 58), .int v1]) st (some (.int q.1)) q.2 :=
  am_met yf_237.2.2.2.2.2 (fun ad => Nat.le_of_ble_eq_true rfl) (fun G C CR0 e1 e2 e3 e4 e5 => t_m_areSlips C CR0 (by rw [e1]; exact E) e2 (Nat.le_of_eq e5.symm) e3 e4 v1 st hf)
def f_m_slipped (v1 : Int32) (v2 : Int32) (v3 : Int32) (st : Mm) : Option (Int32 × Mm) :=
  (f_m_areSlips v1 st).bind (fun q1 => if q1.1 = 0 then (some ((-1 : Int32), q1.2)) else ((f_m_isCell v2 v3 q1.2).bind (fun q3 => if q3.1 = 0 then (some ((-1 : Int32), q3.2)) else ((f_m_opens0 v1 q3.2).bind (fun q5 => if inb (((16 : Int32) * v3) + v2) 256 then if (q5.2.1 72 (((16 : Int32) * v3) + v2).toNatClampNeg) = 0 then (some ((0 : Int32), q5.2)) else (some ((1 : Int32), q5.2)) else none)))))
theorem t_m_slipped {G : Cx} (C : CX G prog_14_method_100_code "PaperStarsModel") (CR0 : CR G (Option.some FieldType.int)) (E : LAin (gly G)) (hnL : gnL G = 4) (hgd : 4 ≤ gd G) {q : Int32 × Mm} (hgr : gr G = some (.int q.1)) (hgs : gsf G = q.2) (v1 : Int32) (v2 : Int32) (v3 : Int32) (st : Mm) (hf : f_m_slipped v1 v2 v3 st = some q) : AW G st 0 [(0, .ref (gad G 58)), (1, .int v1), (2, .int v2), (3, .int v3)] [] := by
  unfold f_m_slipped at hf
  refine aw_aload_n C 0 0 (j := 0) rfl rfl (by decide +kernel) rfl ?_
  refine aw_iload_n C 1 1 (j := 1) rfl rfl (by decide +kernel) rfl ?_
  obtain ⟨q1, hq1, hf⟩ := ibd hf
  refine aw_callV C (rest := []) (c_m_areSlips E v1 _ q1 hq1) tb_1519 yf_237 yi_237 (la_58 E) [.int v1] rfl rfl _ rfl (Nat.le_trans (by decide) hgd) (Nat.le_of_ble_eq_true rfl) (by decide +kernel) rfl ?_
  show AW _ _ _ _ [.int q1.1]
  refine aw_if_eq C (tgt := 17) (off := 12) (by decide +kernel) (by decide) rfl (fun c2 => ?_) (fun c2 => ?_)
  · have hf := ift c2 hf
    refine aw_iconst C (i0 := -1) (v := -1) (by decide) (by decide +kernel) rfl ?_
    exact aw_iretq C CR0 hgr hgs hf (by decide +kernel)
  · have hf := iff_ c2 hf
    refine aw_aload_n C 0 0 (j := 0) rfl rfl (by decide +kernel) rfl ?_
    refine aw_iload_n C 2 2 (j := 2) rfl rfl (by decide +kernel) rfl ?_
    refine aw_iload_n C 3 3 (j := 3) rfl rfl (by decide +kernel) rfl ?_
    obtain ⟨q3, hq3, hf⟩ := ibd hf
    refine aw_callV C (rest := []) (c_m_isCell E v2 v3 _ q3 hq3) tb_1328 yf_189 yi_189 (la_58 E) [.int v2, .int v3] rfl rfl _ rfl (Nat.le_trans (by decide) hgd) (Nat.le_of_ble_eq_true rfl) (by decide +kernel) rfl ?_
    show AW _ _ _ _ [.int q3.1]
    refine aw_if_ne C (tgt := 19) (off := 5) (by decide +kernel) (by decide) rfl (fun c4 => ?_) (fun c4 => ?_)
    · have hf := ift c4 hf
      refine aw_iconst C (i0 := -1) (v := -1) (by decide) (by decide +kernel) rfl ?_
      exact aw_iretq C CR0 hgr hgs hf (by decide +kernel)
    · have hf := iff_ c4 hf
      refine aw_aload_n C 0 0 (j := 0) rfl rfl (by decide +kernel) rfl ?_
      refine aw_iload_n C 1 1 (j := 1) rfl rfl (by decide +kernel) rfl ?_
      obtain ⟨q5, hq5, hf⟩ := ibd hf
      refine aw_callV C (rest := []) (c_m_opens0 E v1 _ q5 hq5) tb_1332 yf_190 yi_190 (la_58 E) [.int v1] rfl rfl _ rfl (Nat.le_trans (by decide) hgd) (Nat.le_of_ble_eq_true rfl) (by decide +kernel) rfl ?_
      show AW _ _ _ _ []
      refine aw_aload_n C 0 0 (j := 0) rfl rfl (by decide +kernel) rfl ?_
      refine aw_getr C (k := 36) fc_12 (la_58 E) rfl (by decide) tb_978 (by decide +kernel) rfl ?_
      refine aw_bipush C (i0 := 16) (v := 16) (by decide) (by decide +kernel) rfl ?_
      refine aw_iload_n C 3 3 (j := 3) rfl rfl (by decide +kernel) rfl ?_
      refine aw_imul C (by decide +kernel) rfl ?_
      refine aw_iload_n C 2 2 (j := 2) rfl rfl (by decide +kernel) rfl ?_
      refine aw_iadd C (by decide +kernel) rfl ?_
      obtain ⟨g6, hf⟩ := igd hf
      refine aw_zald C (la_72 E) g6 (by decide +kernel) rfl ?_
      refine aw_if_eq C (tgt := 42) (off := 7) (by decide +kernel) (by decide) rfl (fun c7 => ?_) (fun c7 => ?_)
      · have hf := ift c7 hf
        refine aw_iconst C (i0 := 0) (v := 0) (by decide) (by decide +kernel) rfl ?_
        exact aw_iretq C CR0 hgr hgs hf (by decide +kernel)
      · have hf := iff_ c7 hf
        refine aw_iconst C (i0 := 1) (v := 1) (by decide) (by decide +kernel) rfl ?_
        refine aw_goto C (tgt := 43) (off := 4) (by decide +kernel) (by decide) ?_
        exact aw_iretq C CR0 hgr hgs hf (by decide +kernel)
theorem c_m_slipped {lay : Ly} (E : LAin lay) (v1 : Int32) (v2 : Int32) (v3 : Int32) (st : Mm) (q : Int32 × Mm) (hf : f_m_slipped v1 v2 v3 st = some q) : Con 4 Y236 prog_14_method_100_code 4 (Option.some FieldType.int) lay (fun ad => [.ref (ad 58), .int v1, .int v2, .int v3]) st (some (.int q.1)) q.2 :=
  am_met yf_236.2.2.2.2.2 (fun ad => Nat.le_of_ble_eq_true rfl) (fun G C CR0 e1 e2 e3 e4 e5 => t_m_slipped C CR0 (by rw [e1]; exact E) e2 (Nat.le_of_eq e5.symm) e3 e4 v1 v2 v3 st hf)
def b_m_spoilt_71 (k18 : Int32 → Int32 → Int32 → Mm → Option (Int32 × Mm)) (v1 : Int32) (v2 : Int32) (v3 : Int32) (st : Mm) : Option (Int32 × Mm) :=
  lt_ (v3 + (1 : Int32)) (fun a1 => k18 v1 v2 a1 st)
def b_m_spoilt_29 (k18 : Int32 → Int32 → Int32 → Mm → Option (Int32 × Mm)) (k29 : Int32 → Int32 → Int32 → Int32 → Mm → Option (Int32 × Mm)) (v1 : Int32) (v2 : Int32) (v3 : Int32) (v4 : Int32) (st : Mm) : Option (Int32 × Mm) :=
  if (st.1 58 0) ≤ v4 then (b_m_spoilt_71 k18 v1 v2 v3 st) else ((f_m_hasPaper v4 v3 v1 st).bind (fun q2 => (f_m_hasPaper v4 v3 (0 : Int32) q2.2).bind (fun q3 => if q2.1 = q3.1 then (lt_ (v2 + (0 : Int32)) (fun a5 => lt_ (v4 + (1 : Int32)) (fun a6 => k29 v1 a5 v3 a6 q3.2))) else (lt_ (v2 + (1 : Int32)) (fun a7 => lt_ (v4 + (1 : Int32)) (fun a8 => k29 v1 a7 v3 a8 q3.2))))))
def f_m_spoilt_29 (k18 : Int32 → Int32 → Int32 → Mm → Option (Int32 × Mm)) : Nat → Int32 → Int32 → Int32 → Int32 → Mm → Option (Int32 × Mm)
  | 0 => fun _ _ _ _ _ => none
  | n + 1 => b_m_spoilt_29 k18 (f_m_spoilt_29 k18 n)
def b_m_spoilt_18 (k18 : Int32 → Int32 → Int32 → Mm → Option (Int32 × Mm)) (v1 : Int32) (v2 : Int32) (v3 : Int32) (st : Mm) : Option (Int32 × Mm) :=
  if (st.1 58 0) ≤ v3 then (some (v2, st)) else (f_m_spoilt_29 k18 1000000 v1 v2 v3 (0 : Int32) st)
def f_m_spoilt_18 : Nat → Int32 → Int32 → Int32 → Mm → Option (Int32 × Mm)
  | 0 => fun _ _ _ _ => none
  | n + 1 => b_m_spoilt_18 (f_m_spoilt_18 n)
def f_m_spoilt (v1 : Int32) (st : Mm) : Option (Int32 × Mm) :=
  (f_m_areSlips v1 st).bind (fun q1 => if q1.1 = 0 then (some ((-1 : Int32), q1.2)) else ((f_m_laysRecipe q1.2).bind (fun q3 => f_m_spoilt_18 1000000 v1 (0 : Int32) (0 : Int32) q3.2)))
theorem t_m_spoilt_71 {G : Cx} (C : CX G prog_14_method_101_code "PaperStarsModel") (CR0 : CR G (Option.some FieldType.int)) (E : LAin (gly G)) (hnL : gnL G = 5) (hgd : 3 ≤ gd G) {q : Int32 × Mm} (hgr : gr G = some (.int q.1)) (hgs : gsf G = q.2) (k18 : Int32 → Int32 → Int32 → Mm → Option (Int32 × Mm)) (hk18 : ∀ (v1 : Int32) (v2 : Int32) (v3 : Int32) (st : Mm), k18 v1 v2 v3 st = some q → AW G st 18 [(0, .ref (gad G 58)), (1, .int v1), (2, .int v2), (3, .int v3)] []) (v1 : Int32) (v2 : Int32) (v3 : Int32) (st : Mm) (hf : b_m_spoilt_71 k18 v1 v2 v3 st = some q) : AW G st 71 [(0, .ref (gad G 58)), (1, .int v1), (2, .int v2), (3, .int v3)] [] := by
  unfold b_m_spoilt_71 at hf
  obtain ⟨a1, ha1⟩ : ∃ z, z = (v3 + (1 : Int32)) := ⟨_, rfl⟩
  have hf := ilt ha1 hf
  refine aw_iinc C [(3, .int a1), (0, .ref (gad G 58)), (1, .int v1), (2, .int v2)] 3 (n := 1) rfl (by rw [ha1]; rfl) (by rw [hnL]; decide) rfl (by decide +kernel) rfl ?_
  refine aw_goto C (tgt := 18) (off := -56) (by decide +kernel) (by decide) ?_
  refine aw_sub [(0, .ref (gad G 58)), (1, .int v1), (2, .int v2), (3, .int a1)] [1, 2, 3, 0] rfl ?_
  exact hk18 v1 v2 a1 _ hf
theorem t_m_spoilt_29 {G : Cx} (C : CX G prog_14_method_101_code "PaperStarsModel") (CR0 : CR G (Option.some FieldType.int)) (E : LAin (gly G)) (hnL : gnL G = 5) (hgd : 3 ≤ gd G) {q : Int32 × Mm} (hgr : gr G = some (.int q.1)) (hgs : gsf G = q.2) (k18 : Int32 → Int32 → Int32 → Mm → Option (Int32 × Mm)) (k29 : Int32 → Int32 → Int32 → Int32 → Mm → Option (Int32 × Mm)) (hk18 : ∀ (v1 : Int32) (v2 : Int32) (v3 : Int32) (st : Mm), k18 v1 v2 v3 st = some q → AW G st 18 [(0, .ref (gad G 58)), (1, .int v1), (2, .int v2), (3, .int v3)] []) (hk29 : ∀ (v1 : Int32) (v2 : Int32) (v3 : Int32) (v4 : Int32) (st : Mm), k29 v1 v2 v3 v4 st = some q → AW G st 29 [(0, .ref (gad G 58)), (1, .int v1), (2, .int v2), (3, .int v3), (4, .int v4)] []) (v1 : Int32) (v2 : Int32) (v3 : Int32) (v4 : Int32) (st : Mm) (hf : b_m_spoilt_29 k18 k29 v1 v2 v3 v4 st = some q) : AW G st 29 [(0, .ref (gad G 58)), (1, .int v1), (2, .int v2), (3, .int v3), (4, .int v4)] [] := by
  unfold b_m_spoilt_29 at hf
  refine aw_iload C 4 4 rfl (by decide +kernel) rfl ?_
  refine aw_aload_n C 0 0 (j := 0) rfl rfl (by decide +kernel) rfl ?_
  refine aw_get C (k := 0) fc_12 (la_58 E) rfl (by decide) tb_942 (by decide +kernel) rfl ?_
  refine aw_icmp_ge C (tgt := 71) (off := 36) (by decide +kernel) (by decide) rfl (fun c1 => ?_) (fun c1 => ?_)
  · have hf := ift c1 hf
    refine aw_sub [(0, .ref (gad G 58)), (1, .int v1), (2, .int v2), (3, .int v3)] [0, 1, 2, 3] rfl ?_
    exact t_m_spoilt_71 C CR0 E hnL hgd hgr hgs k18 hk18 v1 v2 v3 _ hf
  · have hf := iff_ c1 hf
    refine aw_iload_n C 2 2 (j := 2) rfl rfl (by decide +kernel) rfl ?_
    refine aw_aload_n C 0 0 (j := 0) rfl rfl (by decide +kernel) rfl ?_
    refine aw_iload C 4 4 rfl (by decide +kernel) rfl ?_
    refine aw_iload_n C 3 3 (j := 3) rfl rfl (by decide +kernel) rfl ?_
    refine aw_iload_n C 1 1 (j := 1) rfl rfl (by decide +kernel) rfl ?_
    obtain ⟨q2, hq2, hf⟩ := ibd hf
    refine aw_callV C (rest := [.int v2]) (c_m_hasPaper E v4 v3 v1 _ q2 hq2) tb_1336 yf_191 yi_191 (la_58 E) [.int v4, .int v3, .int v1] rfl rfl _ rfl (Nat.le_trans (by decide) hgd) (Nat.le_of_ble_eq_true rfl) (by decide +kernel) rfl ?_
    show AW _ _ _ _ [.int q2.1, .int v2]
    refine aw_aload_n C 0 0 (j := 0) rfl rfl (by decide +kernel) rfl ?_
    refine aw_iload C 4 4 rfl (by decide +kernel) rfl ?_
    refine aw_iload_n C 3 3 (j := 3) rfl rfl (by decide +kernel) rfl ?_
    refine aw_iconst C (i0 := 0) (v := 0) (by decide) (by decide +kernel) rfl ?_
    obtain ⟨q3, hq3, hf⟩ := ibd hf
    refine aw_callV C (rest := [.int q2.1, .int v2]) (c_m_hasPaper E v4 v3 (0 : Int32) _ q3 hq3) tb_1336 yf_191 yi_191 (la_58 E) [.int v4, .int v3, .int (0 : Int32)] rfl rfl _ rfl (Nat.le_trans (by decide) hgd) (Nat.le_of_ble_eq_true rfl) (by decide +kernel) rfl ?_
    show AW _ _ _ _ [.int q3.1, .int q2.1, .int v2]
    refine aw_icmp_ne C (tgt := 62) (off := 7) (by decide +kernel) (by decide) rfl (fun c4 => ?_) (fun c4 => ?_)
    · have hf := ift c4 hf
      refine aw_iconst C (i0 := 0) (v := 0) (by decide) (by decide +kernel) rfl ?_
      refine aw_goto C (tgt := 63) (off := 4) (by decide +kernel) (by decide) ?_
      refine aw_iadd C (by decide +kernel) rfl ?_
      obtain ⟨a5, ha5⟩ : ∃ z, z = (v2 + (0 : Int32)) := ⟨_, rfl⟩
      refine aw_nmi ha5 ?_
      have hf := ilt ha5 hf
      refine aw_istore_n C [(2, .int a5), (0, .ref (gad G 58)), (1, .int v1), (3, .int v3), (4, .int v4)] (j := 2) rfl (by rw [hnL]; decide) rfl (by decide +kernel) rfl ?_
      obtain ⟨a6, ha6⟩ : ∃ z, z = (v4 + (1 : Int32)) := ⟨_, rfl⟩
      have hf := ilt ha6 hf
      refine aw_iinc C [(4, .int a6), (2, .int a5), (0, .ref (gad G 58)), (1, .int v1), (3, .int v3)] 4 (n := 1) rfl (by rw [ha6]; rfl) (by rw [hnL]; decide) rfl (by decide +kernel) rfl ?_
      refine aw_goto C (tgt := 29) (off := -39) (by decide +kernel) (by decide) ?_
      refine aw_sub [(0, .ref (gad G 58)), (1, .int v1), (2, .int a5), (3, .int v3), (4, .int a6)] [2, 3, 1, 4, 0] rfl ?_
      exact hk29 v1 a5 v3 a6 _ hf
    · have hf := iff_ c4 hf
      refine aw_iconst C (i0 := 1) (v := 1) (by decide) (by decide +kernel) rfl ?_
      refine aw_iadd C (by decide +kernel) rfl ?_
      obtain ⟨a7, ha7⟩ : ∃ z, z = (v2 + (1 : Int32)) := ⟨_, rfl⟩
      refine aw_nmi ha7 ?_
      have hf := ilt ha7 hf
      refine aw_istore_n C [(2, .int a7), (0, .ref (gad G 58)), (1, .int v1), (3, .int v3), (4, .int v4)] (j := 2) rfl (by rw [hnL]; decide) rfl (by decide +kernel) rfl ?_
      obtain ⟨a8, ha8⟩ : ∃ z, z = (v4 + (1 : Int32)) := ⟨_, rfl⟩
      have hf := ilt ha8 hf
      refine aw_iinc C [(4, .int a8), (2, .int a7), (0, .ref (gad G 58)), (1, .int v1), (3, .int v3)] 4 (n := 1) rfl (by rw [ha8]; rfl) (by rw [hnL]; decide) rfl (by decide +kernel) rfl ?_
      refine aw_goto C (tgt := 29) (off := -39) (by decide +kernel) (by decide) ?_
      refine aw_sub [(0, .ref (gad G 58)), (1, .int v1), (2, .int a7), (3, .int v3), (4, .int a8)] [2, 3, 1, 4, 0] rfl ?_
      exact hk29 v1 a7 v3 a8 _ hf
theorem u_m_spoilt_29 {G : Cx} (C : CX G prog_14_method_101_code "PaperStarsModel") (CR0 : CR G (Option.some FieldType.int)) (E : LAin (gly G)) (hnL : gnL G = 5) (hgd : 3 ≤ gd G) {q : Int32 × Mm} (hgr : gr G = some (.int q.1)) (hgs : gsf G = q.2) (k18 : Int32 → Int32 → Int32 → Mm → Option (Int32 × Mm)) (hk18 : ∀ (v1 : Int32) (v2 : Int32) (v3 : Int32) (st : Mm), k18 v1 v2 v3 st = some q → AW G st 18 [(0, .ref (gad G 58)), (1, .int v1), (2, .int v2), (3, .int v3)] []) : ∀ (n : Nat) (v1 : Int32) (v2 : Int32) (v3 : Int32) (v4 : Int32) (st : Mm), f_m_spoilt_29 k18 n v1 v2 v3 v4 st = some q → AW G st 29 [(0, .ref (gad G 58)), (1, .int v1), (2, .int v2), (3, .int v3), (4, .int v4)] [] := by
  intro n
  induction n with
  | zero => intro v1 v2 v3 v4 st hf; cases hf
  | succ n ih => intro v1 v2 v3 v4 st hf; exact t_m_spoilt_29 C CR0 E hnL hgd hgr hgs k18 (f_m_spoilt_29 k18 n) hk18 ih v1 v2 v3 v4 st hf
theorem t_m_spoilt_18 {G : Cx} (C : CX G prog_14_method_101_code "PaperStarsModel") (CR0 : CR G (Option.some FieldType.int)) (E : LAin (gly G)) (hnL : gnL G = 5) (hgd : 3 ≤ gd G) {q : Int32 × Mm} (hgr : gr G = some (.int q.1)) (hgs : gsf G = q.2) (k18 : Int32 → Int32 → Int32 → Mm → Option (Int32 × Mm)) (hk18 : ∀ (v1 : Int32) (v2 : Int32) (v3 : Int32) (st : Mm), k18 v1 v2 v3 st = some q → AW G st 18 [(0, .ref (gad G 58)), (1, .int v1), (2, .int v2), (3, .int v3)] []) (v1 : Int32) (v2 : Int32) (v3 : Int32) (st : Mm) (hf : b_m_spoilt_18 k18 v1 v2 v3 st = some q) : AW G st 18 [(0, .ref (gad G 58)), (1, .int v1), (2, .int v2), (3, .int v3)] [] := by
  unfold b_m_spoilt_18 at hf
  refine aw_iload_n C 3 3 (j := 3) rfl rfl (by decide +kernel) rfl ?_
  refine aw_aload_n C 0 0 (j := 0) rfl rfl (by decide +kernel) rfl ?_
  refine aw_get C (k := 0) fc_12 (la_58 E) rfl (by decide) tb_942 (by decide +kernel) rfl ?_
  refine aw_icmp_ge C (tgt := 77) (off := 54) (by decide +kernel) (by decide) rfl (fun c1 => ?_) (fun c1 => ?_)
  · have hf := ift c1 hf
    refine aw_iload_n C 2 2 (j := 2) rfl rfl (by decide +kernel) rfl ?_
    exact aw_iretq C CR0 hgr hgs hf (by decide +kernel)
  · have hf := iff_ c1 hf
    refine aw_iconst C (i0 := 0) (v := 0) (by decide) (by decide +kernel) rfl ?_
    refine aw_istore C [(4, .int (0 : Int32)), (0, .ref (gad G 58)), (1, .int v1), (2, .int v2), (3, .int v3)] (by rw [hnL]; decide) rfl (by decide +kernel) rfl ?_
    refine aw_sub [(0, .ref (gad G 58)), (1, .int v1), (2, .int v2), (3, .int v3), (4, .int (0 : Int32))] [1, 2, 3, 4, 0] rfl ?_
    exact u_m_spoilt_29 C CR0 E hnL hgd hgr hgs k18 hk18 _ v1 v2 v3 (0 : Int32) _ hf
theorem u_m_spoilt_18 {G : Cx} (C : CX G prog_14_method_101_code "PaperStarsModel") (CR0 : CR G (Option.some FieldType.int)) (E : LAin (gly G)) (hnL : gnL G = 5) (hgd : 3 ≤ gd G) {q : Int32 × Mm} (hgr : gr G = some (.int q.1)) (hgs : gsf G = q.2) : ∀ (n : Nat) (v1 : Int32) (v2 : Int32) (v3 : Int32) (st : Mm), f_m_spoilt_18 n v1 v2 v3 st = some q → AW G st 18 [(0, .ref (gad G 58)), (1, .int v1), (2, .int v2), (3, .int v3)] [] := by
  intro n
  induction n with
  | zero => intro v1 v2 v3 st hf; cases hf
  | succ n ih => intro v1 v2 v3 st hf; exact t_m_spoilt_18 C CR0 E hnL hgd hgr hgs (f_m_spoilt_18 n) ih v1 v2 v3 st hf
theorem t_m_spoilt {G : Cx} (C : CX G prog_14_method_101_code "PaperStarsModel") (CR0 : CR G (Option.some FieldType.int)) (E : LAin (gly G)) (hnL : gnL G = 5) (hgd : 3 ≤ gd G) {q : Int32 × Mm} (hgr : gr G = some (.int q.1)) (hgs : gsf G = q.2) (v1 : Int32) (st : Mm) (hf : f_m_spoilt v1 st = some q) : AW G st 0 [(0, .ref (gad G 58)), (1, .int v1)] [] := by
  unfold f_m_spoilt at hf
  refine aw_aload_n C 0 0 (j := 0) rfl rfl (by decide +kernel) rfl ?_
  refine aw_iload_n C 1 1 (j := 1) rfl rfl (by decide +kernel) rfl ?_
  obtain ⟨q1, hq1, hf⟩ := ibd hf
  refine aw_callV C (rest := []) (c_m_areSlips E v1 _ q1 hq1) tb_1519 yf_237 yi_237 (la_58 E) [.int v1] rfl rfl _ rfl (Nat.le_trans (by decide) hgd) (Nat.le_of_ble_eq_true rfl) (by decide +kernel) rfl ?_
  show AW _ _ _ _ [.int q1.1]
  refine aw_if_ne C (tgt := 10) (off := 5) (by decide +kernel) (by decide) rfl (fun c2 => ?_) (fun c2 => ?_)
  · have hf := ift c2 hf
    refine aw_iconst C (i0 := -1) (v := -1) (by decide) (by decide +kernel) rfl ?_
    exact aw_iretq C CR0 hgr hgs hf (by decide +kernel)
  · have hf := iff_ c2 hf
    refine aw_aload_n C 0 0 (j := 0) rfl rfl (by decide +kernel) rfl ?_
    obtain ⟨q3, hq3, hf⟩ := ibd hf
    refine aw_callV C (rest := []) (c_m_laysRecipe E _ q3 hq3) tb_1304 yf_183 yi_183 (la_58 E) [] rfl rfl _ rfl (Nat.le_trans (by decide) hgd) (Nat.le_of_ble_eq_true rfl) (by decide +kernel) rfl ?_
    show AW _ _ _ _ []
    refine aw_iconst C (i0 := 0) (v := 0) (by decide) (by decide +kernel) rfl ?_
    refine aw_istore_n C [(2, .int (0 : Int32)), (0, .ref (gad G 58)), (1, .int v1)] (j := 2) rfl (by rw [hnL]; decide) rfl (by decide +kernel) rfl ?_
    refine aw_iconst C (i0 := 0) (v := 0) (by decide) (by decide +kernel) rfl ?_
    refine aw_istore_n C [(3, .int (0 : Int32)), (2, .int (0 : Int32)), (0, .ref (gad G 58)), (1, .int v1)] (j := 3) rfl (by rw [hnL]; decide) rfl (by decide +kernel) rfl ?_
    refine aw_sub [(0, .ref (gad G 58)), (1, .int v1), (2, .int (0 : Int32)), (3, .int (0 : Int32))] [2, 3, 1, 0] rfl ?_
    exact u_m_spoilt_18 C CR0 E hnL hgd hgr hgs _ v1 (0 : Int32) (0 : Int32) _ hf
theorem c_m_spoilt {lay : Ly} (E : LAin lay) (v1 : Int32) (st : Mm) (q : Int32 × Mm) (hf : f_m_spoilt v1 st = some q) : Con 3 Y238 prog_14_method_101_code 5 (Option.some FieldType.int) lay (fun ad => [.ref (ad 58), .int v1]) st (some (.int q.1)) q.2 :=
  am_met yf_238.2.2.2.2.2 (fun ad => Nat.le_of_ble_eq_true rfl) (fun G C CR0 e1 e2 e3 e4 e5 => t_m_spoilt C CR0 (by rw [e1]; exact E) e2 (Nat.le_of_eq e5.symm) e3 e4 v1 st hf)
def b_m_gcd_6 (k6 : Int64 → Int64 → Mm → Option (Int64 × Mm)) (v4 : Int64) (v6 : Int64) (st : Mm) : Option (Int64 × Mm) :=
  if (lg_cmp v6 (0 : Int64)) = 0 then (some (v4, st)) else (if ¬ v6 = 0 then lt_ (v4 - v4 / v6 * v6) (fun a3 => k6 v6 a3 st) else none)
def f_m_gcd_6 : Nat → Int64 → Int64 → Mm → Option (Int64 × Mm)
  | 0 => fun _ _ _ => none
  | n + 1 => b_m_gcd_6 (f_m_gcd_6 n)
def f_m_gcd (v0 : Int64) (v2 : Int64) (st : Mm) : Option (Int64 × Mm) :=
  f_m_gcd_6 100000000000000000000 v0 v2 st
theorem t_m_gcd_6 {G : Cx} (C : CX G prog_14_method_102_code "PaperStarsModel") (CR0 : CR G (Option.some FieldType.long)) (E : LAin (gly G)) (hnL : gnL G = 10) (hgd : 0 ≤ gd G) {q : Int64 × Mm} (hgr : gr G = some (.long q.1)) (hgs : gsf G = q.2) (k6 : Int64 → Int64 → Mm → Option (Int64 × Mm)) (hk6 : ∀ (v4 : Int64) (v6 : Int64) (st : Mm), k6 v4 v6 st = some q → AW G st 6 [(4, .long v4), (6, .long v6)] []) (v4 : Int64) (v6 : Int64) (st : Mm) (hf : b_m_gcd_6 k6 v4 v6 st = some q) : AW G st 6 [(4, .long v4), (6, .long v6)] [] := by
  unfold b_m_gcd_6 at hf
  refine aw_lload C 6 1 rfl (by decide +kernel) rfl ?_
  refine aw_lconst C (i0 := 0) (v := 0) (by decide) (by decide +kernel) rfl ?_
  refine aw_lcmp C (by decide +kernel) rfl ?_
  refine aw_if_eq C (tgt := 31) (off := 21) (by decide +kernel) (by decide) rfl (fun c1 => ?_) (fun c1 => ?_)
  · have hf := ift c1 hf
    refine aw_lload C 4 0 rfl (by decide +kernel) rfl ?_
    exact aw_lretq C CR0 hgr hgs hf (by decide +kernel)
  · have hf := iff_ c1 hf
    refine aw_lload C 4 0 rfl (by decide +kernel) rfl ?_
    refine aw_lload C 6 1 rfl (by decide +kernel) rfl ?_
    obtain ⟨g2, hf⟩ := igd hf
    refine aw_lrem C g2 (by decide +kernel) rfl ?_
    obtain ⟨a3, ha3⟩ : ∃ z, z = (v4 - v4 / v6 * v6) := ⟨_, rfl⟩
    refine aw_nml ha3 ?_
    have hf := ilt ha3 hf
    refine aw_lstore C [(8, .long a3), (4, .long v4), (6, .long v6)] (by rw [hnL]; decide) rfl (by decide +kernel) rfl ?_
    refine aw_lload C 6 2 rfl (by decide +kernel) rfl ?_
    refine aw_lstore C [(4, .long v6), (8, .long a3), (6, .long v6)] (by rw [hnL]; decide) rfl (by decide +kernel) rfl ?_
    refine aw_lload C 8 1 rfl (by decide +kernel) rfl ?_
    refine aw_lstore C [(6, .long a3), (4, .long v6), (8, .long a3)] (by rw [hnL]; decide) rfl (by decide +kernel) rfl ?_
    refine aw_goto C (tgt := 6) (off := -22) (by decide +kernel) (by decide) ?_
    refine aw_sub [(4, .long v6), (6, .long a3)] [1, 0] rfl ?_
    exact hk6 v6 a3 _ hf
theorem u_m_gcd_6 {G : Cx} (C : CX G prog_14_method_102_code "PaperStarsModel") (CR0 : CR G (Option.some FieldType.long)) (E : LAin (gly G)) (hnL : gnL G = 10) (hgd : 0 ≤ gd G) {q : Int64 × Mm} (hgr : gr G = some (.long q.1)) (hgs : gsf G = q.2) : ∀ (n : Nat) (v4 : Int64) (v6 : Int64) (st : Mm), f_m_gcd_6 n v4 v6 st = some q → AW G st 6 [(4, .long v4), (6, .long v6)] [] := by
  intro n
  induction n with
  | zero => intro v4 v6 st hf; cases hf
  | succ n ih => intro v4 v6 st hf; exact t_m_gcd_6 C CR0 E hnL hgd hgr hgs (f_m_gcd_6 n) ih v4 v6 st hf
theorem t_m_gcd {G : Cx} (C : CX G prog_14_method_102_code "PaperStarsModel") (CR0 : CR G (Option.some FieldType.long)) (E : LAin (gly G)) (hnL : gnL G = 10) (hgd : 0 ≤ gd G) {q : Int64 × Mm} (hgr : gr G = some (.long q.1)) (hgs : gsf G = q.2) (v0 : Int64) (v2 : Int64) (st : Mm) (hf : f_m_gcd v0 v2 st = some q) : AW G st 0 [(0, .long v0), (2, .long v2)] [] := by
  unfold f_m_gcd at hf
  refine aw_lload_n C 0 0 (j := 0) rfl rfl (by decide +kernel) rfl ?_
  refine aw_lstore C [(4, .long v0), (0, .long v0), (2, .long v2)] (by rw [hnL]; decide) rfl (by decide +kernel) rfl ?_
  refine aw_lload_n C 2 2 (j := 2) rfl rfl (by decide +kernel) rfl ?_
  refine aw_lstore C [(6, .long v2), (4, .long v0), (0, .long v0), (2, .long v2)] (by rw [hnL]; decide) rfl (by decide +kernel) rfl ?_
  refine aw_sub [(4, .long v0), (6, .long v2)] [1, 0] rfl ?_
  exact u_m_gcd_6 C CR0 E hnL hgd hgr hgs _ v0 v2 _ hf
theorem c_m_gcd {lay : Ly} (E : LAin lay) (v0 : Int64) (v2 : Int64) (st : Mm) (q : Int64 × Mm) (hf : f_m_gcd v0 v2 st = some q) : Con 0 Y240 prog_14_method_102_code 10 (Option.some FieldType.long) lay (fun ad => [.long v0, .long v2]) st (some (.long q.1)) q.2 :=
  am_met yf_240.2.2.2.2.2 (fun ad => Nat.le_of_ble_eq_true rfl) (fun G C CR0 e1 e2 e3 e4 e5 => t_m_gcd C CR0 (by rw [e1]; exact E) e2 (Nat.le_of_eq e5.symm) e3 e4 v0 v2 st hf)
def b_m_odds_138 (k72 : Int32 → Int32 → Int32 → Int64 → Int32 → Mm → Option (Int64 × Mm)) (v1 : Int32) (v2 : Int32) (v3 : Int32) (v4 : Int64) (v6 : Int32) (st : Mm) : Option (Int64 × Mm) :=
  lt_ (v4 * (10 : Int64)) (fun a1 => lt_ (v6 + (1 : Int32)) (fun a2 => k72 v1 v2 v3 a1 a2 st))
def b_m_odds_85 (k72 : Int32 → Int32 → Int32 → Int64 → Int32 → Mm → Option (Int64 × Mm)) (k85 : Int32 → Int32 → Int32 → Int64 → Int32 → Int32 → Mm → Option (Int64 × Mm)) (v1 : Int32) (v2 : Int32) (v3 : Int32) (v4 : Int64) (v6 : Int32) (v7 : Int32) (st : Mm) : Option (Int64 × Mm) :=
  if v7 < 0 then (b_m_odds_138 k72 v1 v2 v3 v4 v6 st) else (if inb v7 50 then if v7 = 0 then (lt_ (((st.2 83 v7.toNatClampNeg) * (((10 : Int32) - v1).toInt64)) + (0 : Int64)) (fun a4 => if inb v7 50 then lt_ (v7 + (-1 : Int32)) (fun a6 => k85 v1 v2 v3 v4 v6 a6 (sL st 83 v7.toNatClampNeg a4)) else none)) else (if inb (v7 - (1 : Int32)) 50 then lt_ (((st.2 83 v7.toNatClampNeg) * (((10 : Int32) - v1).toInt64)) + ((st.2 83 (v7 - (1 : Int32)).toNatClampNeg) * (v1.toInt64))) (fun a8 => if inb v7 50 then lt_ (v7 + (-1 : Int32)) (fun a10 => k85 v1 v2 v3 v4 v6 a10 (sL st 83 v7.toNatClampNeg a8)) else none) else none) else none)
def f_m_odds_85 (k72 : Int32 → Int32 → Int32 → Int64 → Int32 → Mm → Option (Int64 × Mm)) : Nat → Int32 → Int32 → Int32 → Int64 → Int32 → Int32 → Mm → Option (Int64 × Mm)
  | 0 => fun _ _ _ _ _ _ _ => none
  | n + 1 => b_m_odds_85 k72 (f_m_odds_85 k72 n)
def b_m_odds_152 (v2 : Int32) (v3 : Int32) (v4 : Int64) (st : Mm) : Option (Int64 × Mm) :=
  if inb v2 50 then lt_ (st.2 83 v2.toNatClampNeg) (fun a2 => (f_m_gcd a2 v4 st).bind (fun q3 => if v3 = 0 then (if ¬ q3.1 = 0 then some ((a2 / q3.1), q3.2) else none) else (if ¬ q3.1 = 0 then some ((v4 / q3.1), q3.2) else none))) else none
def b_m_odds_72 (k72 : Int32 → Int32 → Int32 → Int64 → Int32 → Mm → Option (Int64 × Mm)) (v1 : Int32) (v2 : Int32) (v3 : Int32) (v4 : Int64) (v6 : Int32) (st : Mm) : Option (Int64 × Mm) :=
  if (st.1 58 1) ≤ v6 then (b_m_odds_152 v2 v3 v4 st) else (f_m_odds_85 k72 1000000 v1 v2 v3 v4 v6 (9 : Int32) st)
def f_m_odds_72 : Nat → Int32 → Int32 → Int32 → Int64 → Int32 → Mm → Option (Int64 × Mm)
  | 0 => fun _ _ _ _ _ _ => none
  | n + 1 => b_m_odds_72 (f_m_odds_72 n)
def b_m_odds_66 (v1 : Int32) (v2 : Int32) (v3 : Int32) (st : Mm) : Option (Int64 × Mm) :=
  f_m_odds_72 1000000 v1 v2 v3 (1 : Int64) (0 : Int32) st
def b_m_odds_36 (k36 : Int32 → Int32 → Int32 → Int32 → Mm → Option (Int64 × Mm)) (v1 : Int32) (v2 : Int32) (v3 : Int32) (v4 : Int32) (st : Mm) : Option (Int64 × Mm) :=
  if (9 : Int32) < v4 then (b_m_odds_66 v1 v2 v3 st) else (if v4 = 0 then (if inb v4 50 then lt_ (v4 + (1 : Int32)) (fun a4 => k36 v1 v2 v3 a4 (sL st 83 v4.toNatClampNeg (1 : Int64))) else none) else (if inb v4 50 then lt_ (v4 + (1 : Int32)) (fun a6 => k36 v1 v2 v3 a6 (sL st 83 v4.toNatClampNeg (0 : Int64))) else none))
def f_m_odds_36 : Nat → Int32 → Int32 → Int32 → Int32 → Mm → Option (Int64 × Mm)
  | 0 => fun _ _ _ _ _ => none
  | n + 1 => b_m_odds_36 (f_m_odds_36 n)
def f_m_odds (v1 : Int32) (v2 : Int32) (v3 : Int32) (st : Mm) : Option (Int64 × Mm) :=
  (f_m_in v1 (0 : Int32) (10 : Int32) st).bind (fun q1 => if q1.1 = 0 then (some ((-1 : Int64), q1.2)) else ((f_m_in v2 (0 : Int32) (8 : Int32) q1.2).bind (fun q3 => if q3.1 = 0 then (some ((-1 : Int64), q3.2)) else ((f_m_in v3 (0 : Int32) (1 : Int32) q3.2).bind (fun q5 => if q5.1 = 0 then (some ((-1 : Int64), q5.2)) else (f_m_odds_36 1000000 v1 v2 v3 (0 : Int32) q5.2))))))
theorem t_m_odds_138 {G : Cx} (C : CX G prog_14_method_103_code "PaperStarsModel") (CR0 : CR G (Option.some FieldType.long)) (E : LAin (gly G)) (hnL : gnL G = 10) (hgd : 1 ≤ gd G) {q : Int64 × Mm} (hgr : gr G = some (.long q.1)) (hgs : gsf G = q.2) (k72 : Int32 → Int32 → Int32 → Int64 → Int32 → Mm → Option (Int64 × Mm)) (hk72 : ∀ (v1 : Int32) (v2 : Int32) (v3 : Int32) (v4 : Int64) (v6 : Int32) (st : Mm), k72 v1 v2 v3 v4 v6 st = some q → AW G st 72 [(0, .ref (gad G 58)), (1, .int v1), (2, .int v2), (3, .int v3), (4, .long v4), (6, .int v6)] []) (v1 : Int32) (v2 : Int32) (v3 : Int32) (v4 : Int64) (v6 : Int32) (st : Mm) (hf : b_m_odds_138 k72 v1 v2 v3 v4 v6 st = some q) : AW G st 138 [(0, .ref (gad G 58)), (1, .int v1), (2, .int v2), (3, .int v3), (4, .long v4), (6, .int v6)] [] := by
  unfold b_m_odds_138 at hf
  refine aw_lload C 4 4 rfl (by decide +kernel) rfl ?_
  refine aw_ldc2 C tb_1531 (by decide +kernel) rfl ?_
  refine aw_lmul C (by decide +kernel) rfl ?_
  obtain ⟨a1, ha1⟩ : ∃ z, z = (v4 * (10 : Int64)) := ⟨_, rfl⟩
  refine aw_nml ha1 ?_
  have hf := ilt ha1 hf
  refine aw_lstore C [(4, .long a1), (0, .ref (gad G 58)), (1, .int v1), (2, .int v2), (3, .int v3), (6, .int v6)] (by rw [hnL]; decide) rfl (by decide +kernel) rfl ?_
  obtain ⟨a2, ha2⟩ : ∃ z, z = (v6 + (1 : Int32)) := ⟨_, rfl⟩
  have hf := ilt ha2 hf
  refine aw_iinc C [(6, .int a2), (4, .long a1), (0, .ref (gad G 58)), (1, .int v1), (2, .int v2), (3, .int v3)] 5 (n := 1) rfl (by rw [ha2]; rfl) (by rw [hnL]; decide) rfl (by decide +kernel) rfl ?_
  refine aw_goto C (tgt := 72) (off := -77) (by decide +kernel) (by decide) ?_
  refine aw_sub [(0, .ref (gad G 58)), (1, .int v1), (2, .int v2), (3, .int v3), (4, .long a1), (6, .int a2)] [2, 3, 4, 5, 1, 0] rfl ?_
  exact hk72 v1 v2 v3 a1 a2 _ hf
theorem t_m_odds_85 {G : Cx} (C : CX G prog_14_method_103_code "PaperStarsModel") (CR0 : CR G (Option.some FieldType.long)) (E : LAin (gly G)) (hnL : gnL G = 10) (hgd : 1 ≤ gd G) {q : Int64 × Mm} (hgr : gr G = some (.long q.1)) (hgs : gsf G = q.2) (k72 : Int32 → Int32 → Int32 → Int64 → Int32 → Mm → Option (Int64 × Mm)) (k85 : Int32 → Int32 → Int32 → Int64 → Int32 → Int32 → Mm → Option (Int64 × Mm)) (hk72 : ∀ (v1 : Int32) (v2 : Int32) (v3 : Int32) (v4 : Int64) (v6 : Int32) (st : Mm), k72 v1 v2 v3 v4 v6 st = some q → AW G st 72 [(0, .ref (gad G 58)), (1, .int v1), (2, .int v2), (3, .int v3), (4, .long v4), (6, .int v6)] []) (hk85 : ∀ (v1 : Int32) (v2 : Int32) (v3 : Int32) (v4 : Int64) (v6 : Int32) (v7 : Int32) (st : Mm), k85 v1 v2 v3 v4 v6 v7 st = some q → AW G st 85 [(0, .ref (gad G 58)), (1, .int v1), (2, .int v2), (3, .int v3), (4, .long v4), (6, .int v6), (7, .int v7)] []) (v1 : Int32) (v2 : Int32) (v3 : Int32) (v4 : Int64) (v6 : Int32) (v7 : Int32) (st : Mm) (hf : b_m_odds_85 k72 k85 v1 v2 v3 v4 v6 v7 st = some q) : AW G st 85 [(0, .ref (gad G 58)), (1, .int v1), (2, .int v2), (3, .int v3), (4, .long v4), (6, .int v6), (7, .int v7)] [] := by
  unfold b_m_odds_85 at hf
  refine aw_iload C 7 6 rfl (by decide +kernel) rfl ?_
  refine aw_if_lt C (tgt := 138) (off := 51) (by decide +kernel) (by decide) rfl (fun c1 => ?_) (fun c1 => ?_)
  · have hf := ift c1 hf
    refine aw_sub [(0, .ref (gad G 58)), (1, .int v1), (2, .int v2), (3, .int v3), (4, .long v4), (6, .int v6)] [0, 1, 2, 3, 4, 5] rfl ?_
    exact t_m_odds_138 C CR0 E hnL hgd hgr hgs k72 hk72 v1 v2 v3 v4 v6 _ hf
  · have hf := iff_ c1 hf
    refine aw_aload_n C 0 0 (j := 0) rfl rfl (by decide +kernel) rfl ?_
    refine aw_getr C (k := 52) fc_12 (la_58 E) rfl (by decide) tb_994 (by decide +kernel) rfl ?_
    refine aw_iload C 7 6 rfl (by decide +kernel) rfl ?_
    refine aw_aload_n C 0 0 (j := 0) rfl rfl (by decide +kernel) rfl ?_
    refine aw_getr C (k := 52) fc_12 (la_58 E) rfl (by decide) tb_994 (by decide +kernel) rfl ?_
    refine aw_iload C 7 6 rfl (by decide +kernel) rfl ?_
    obtain ⟨g2, hf⟩ := igd hf
    refine aw_lald C (la_83 E) g2 (by decide +kernel) rfl ?_
    refine aw_bipush C (i0 := 10) (v := 10) (by decide) (by decide +kernel) rfl ?_
    refine aw_iload_n C 1 1 (j := 1) rfl rfl (by decide +kernel) rfl ?_
    refine aw_isub C (by decide +kernel) rfl ?_
    refine aw_i2l C (by decide +kernel) rfl ?_
    refine aw_lmul C (by decide +kernel) rfl ?_
    refine aw_iload C 7 6 rfl (by decide +kernel) rfl ?_
    refine aw_if_ne C (tgt := 118) (off := 7) (by decide +kernel) (by decide) rfl (fun c3 => ?_) (fun c3 => ?_)
    · have hf := ift c3 hf
      refine aw_lconst C (i0 := 0) (v := 0) (by decide) (by decide +kernel) rfl ?_
      refine aw_goto C (tgt := 130) (off := 15) (by decide +kernel) (by decide) ?_
      refine aw_ladd C (by decide +kernel) rfl ?_
      obtain ⟨a4, ha4⟩ : ∃ z, z = (((st.2 83 v7.toNatClampNeg) * (((10 : Int32) - v1).toInt64)) + (0 : Int64)) := ⟨_, rfl⟩
      refine aw_nml ha4 ?_
      have hf := ilt ha4 hf
      obtain ⟨g5, hf⟩ := igd hf
      refine aw_last C (la_83 E) g5 (by decide +kernel) rfl ?_
      obtain ⟨a6, ha6⟩ : ∃ z, z = (v7 + (-1 : Int32)) := ⟨_, rfl⟩
      have hf := ilt ha6 hf
      refine aw_iinc C [(7, .int a6), (0, .ref (gad G 58)), (1, .int v1), (2, .int v2), (3, .int v3), (4, .long v4), (6, .int v6)] 6 (n := -1) rfl (by rw [ha6]; rfl) (by rw [hnL]; decide) rfl (by decide +kernel) rfl ?_
      refine aw_goto C (tgt := 85) (off := -50) (by decide +kernel) (by decide) ?_
      refine aw_sub [(0, .ref (gad G 58)), (1, .int v1), (2, .int v2), (3, .int v3), (4, .long v4), (6, .int v6), (7, .int a6)] [1, 2, 3, 4, 5, 6, 0] rfl ?_
      exact hk85 v1 v2 v3 v4 v6 a6 _ hf
    · have hf := iff_ c3 hf
      refine aw_aload_n C 0 0 (j := 0) rfl rfl (by decide +kernel) rfl ?_
      refine aw_getr C (k := 52) fc_12 (la_58 E) rfl (by decide) tb_994 (by decide +kernel) rfl ?_
      refine aw_iload C 7 6 rfl (by decide +kernel) rfl ?_
      refine aw_iconst C (i0 := 1) (v := 1) (by decide) (by decide +kernel) rfl ?_
      refine aw_isub C (by decide +kernel) rfl ?_
      obtain ⟨g7, hf⟩ := igd hf
      refine aw_lald C (la_83 E) g7 (by decide +kernel) rfl ?_
      refine aw_iload_n C 1 1 (j := 1) rfl rfl (by decide +kernel) rfl ?_
      refine aw_i2l C (by decide +kernel) rfl ?_
      refine aw_lmul C (by decide +kernel) rfl ?_
      refine aw_ladd C (by decide +kernel) rfl ?_
      obtain ⟨a8, ha8⟩ : ∃ z, z = (((st.2 83 v7.toNatClampNeg) * (((10 : Int32) - v1).toInt64)) + ((st.2 83 (v7 - (1 : Int32)).toNatClampNeg) * (v1.toInt64))) := ⟨_, rfl⟩
      refine aw_nml ha8 ?_
      have hf := ilt ha8 hf
      obtain ⟨g9, hf⟩ := igd hf
      refine aw_last C (la_83 E) g9 (by decide +kernel) rfl ?_
      obtain ⟨a10, ha10⟩ : ∃ z, z = (v7 + (-1 : Int32)) := ⟨_, rfl⟩
      have hf := ilt ha10 hf
      refine aw_iinc C [(7, .int a10), (0, .ref (gad G 58)), (1, .int v1), (2, .int v2), (3, .int v3), (4, .long v4), (6, .int v6)] 6 (n := -1) rfl (by rw [ha10]; rfl) (by rw [hnL]; decide) rfl (by decide +kernel) rfl ?_
      refine aw_goto C (tgt := 85) (off := -50) (by decide +kernel) (by decide) ?_
      refine aw_sub [(0, .ref (gad G 58)), (1, .int v1), (2, .int v2), (3, .int v3), (4, .long v4), (6, .int v6), (7, .int a10)] [1, 2, 3, 4, 5, 6, 0] rfl ?_
      exact hk85 v1 v2 v3 v4 v6 a10 _ hf
theorem u_m_odds_85 {G : Cx} (C : CX G prog_14_method_103_code "PaperStarsModel") (CR0 : CR G (Option.some FieldType.long)) (E : LAin (gly G)) (hnL : gnL G = 10) (hgd : 1 ≤ gd G) {q : Int64 × Mm} (hgr : gr G = some (.long q.1)) (hgs : gsf G = q.2) (k72 : Int32 → Int32 → Int32 → Int64 → Int32 → Mm → Option (Int64 × Mm)) (hk72 : ∀ (v1 : Int32) (v2 : Int32) (v3 : Int32) (v4 : Int64) (v6 : Int32) (st : Mm), k72 v1 v2 v3 v4 v6 st = some q → AW G st 72 [(0, .ref (gad G 58)), (1, .int v1), (2, .int v2), (3, .int v3), (4, .long v4), (6, .int v6)] []) : ∀ (n : Nat) (v1 : Int32) (v2 : Int32) (v3 : Int32) (v4 : Int64) (v6 : Int32) (v7 : Int32) (st : Mm), f_m_odds_85 k72 n v1 v2 v3 v4 v6 v7 st = some q → AW G st 85 [(0, .ref (gad G 58)), (1, .int v1), (2, .int v2), (3, .int v3), (4, .long v4), (6, .int v6), (7, .int v7)] [] := by
  intro n
  induction n with
  | zero => intro v1 v2 v3 v4 v6 v7 st hf; cases hf
  | succ n ih => intro v1 v2 v3 v4 v6 v7 st hf; exact t_m_odds_85 C CR0 E hnL hgd hgr hgs k72 (f_m_odds_85 k72 n) hk72 ih v1 v2 v3 v4 v6 v7 st hf
theorem t_m_odds_152 {G : Cx} (C : CX G prog_14_method_103_code "PaperStarsModel") (CR0 : CR G (Option.some FieldType.long)) (E : LAin (gly G)) (hnL : gnL G = 10) (hgd : 1 ≤ gd G) {q : Int64 × Mm} (hgr : gr G = some (.long q.1)) (hgs : gsf G = q.2) (v2 : Int32) (v3 : Int32) (v4 : Int64) (st : Mm) (hf : b_m_odds_152 v2 v3 v4 st = some q) : AW G st 152 [(0, .ref (gad G 58)), (2, .int v2), (3, .int v3), (4, .long v4)] [] := by
  unfold b_m_odds_152 at hf
  refine aw_aload_n C 0 0 (j := 0) rfl rfl (by decide +kernel) rfl ?_
  refine aw_getr C (k := 52) fc_12 (la_58 E) rfl (by decide) tb_994 (by decide +kernel) rfl ?_
  refine aw_iload_n C 2 1 (j := 2) rfl rfl (by decide +kernel) rfl ?_
  obtain ⟨g1, hf⟩ := igd hf
  refine aw_lald C (la_83 E) g1 (by decide +kernel) rfl ?_
  obtain ⟨a2, ha2⟩ : ∃ z, z = (st.2 83 v2.toNatClampNeg) := ⟨_, rfl⟩
  refine aw_nml ha2 ?_
  have hf := ilt ha2 hf
  refine aw_lstore C [(6, .long a2), (0, .ref (gad G 58)), (2, .int v2), (3, .int v3), (4, .long v4)] (by rw [hnL]; decide) rfl (by decide +kernel) rfl ?_
  refine aw_lload C 6 0 rfl (by decide +kernel) rfl ?_
  refine aw_lload C 4 4 rfl (by decide +kernel) rfl ?_
  obtain ⟨q3, hq3, hf⟩ := ibd hf
  refine aw_callS C (rest := []) (c_m_gcd E a2 v4 _ q3 hq3) tb_1532 yf_240 tb_1533 rfl _ rfl (Nat.le_trans (by decide) hgd) (Nat.le_of_ble_eq_true rfl) (by decide +kernel) rfl ?_
  show AW _ _ _ _ [.long q3.1]
  refine aw_lstore C [(8, .long q3.1), (6, .long a2), (0, .ref (gad G 58)), (2, .int v2), (3, .int v3), (4, .long v4)] (by rw [hnL]; decide) rfl (by decide +kernel) rfl ?_
  refine aw_iload_n C 3 4 (j := 3) rfl rfl (by decide +kernel) rfl ?_
  refine aw_if_ne C (tgt := 181) (off := 11) (by decide +kernel) (by decide) rfl (fun c4 => ?_) (fun c4 => ?_)
  · have hf := ift c4 hf
    refine aw_lload C 6 1 rfl (by decide +kernel) rfl ?_
    refine aw_lload C 8 0 rfl (by decide +kernel) rfl ?_
    obtain ⟨g5, hf⟩ := igd hf
    refine aw_ldiv C g5 (by decide +kernel) rfl ?_
    refine aw_goto C (tgt := 186) (off := 8) (by decide +kernel) (by decide) ?_
    exact aw_lretq C CR0 hgr hgs hf (by decide +kernel)
  · have hf := iff_ c4 hf
    refine aw_lload C 4 5 rfl (by decide +kernel) rfl ?_
    refine aw_lload C 8 0 rfl (by decide +kernel) rfl ?_
    obtain ⟨g6, hf⟩ := igd hf
    refine aw_ldiv C g6 (by decide +kernel) rfl ?_
    exact aw_lretq C CR0 hgr hgs hf (by decide +kernel)
theorem t_m_odds_72 {G : Cx} (C : CX G prog_14_method_103_code "PaperStarsModel") (CR0 : CR G (Option.some FieldType.long)) (E : LAin (gly G)) (hnL : gnL G = 10) (hgd : 1 ≤ gd G) {q : Int64 × Mm} (hgr : gr G = some (.long q.1)) (hgs : gsf G = q.2) (k72 : Int32 → Int32 → Int32 → Int64 → Int32 → Mm → Option (Int64 × Mm)) (hk72 : ∀ (v1 : Int32) (v2 : Int32) (v3 : Int32) (v4 : Int64) (v6 : Int32) (st : Mm), k72 v1 v2 v3 v4 v6 st = some q → AW G st 72 [(0, .ref (gad G 58)), (1, .int v1), (2, .int v2), (3, .int v3), (4, .long v4), (6, .int v6)] []) (v1 : Int32) (v2 : Int32) (v3 : Int32) (v4 : Int64) (v6 : Int32) (st : Mm) (hf : b_m_odds_72 k72 v1 v2 v3 v4 v6 st = some q) : AW G st 72 [(0, .ref (gad G 58)), (1, .int v1), (2, .int v2), (3, .int v3), (4, .long v4), (6, .int v6)] [] := by
  unfold b_m_odds_72 at hf
  refine aw_iload C 6 5 rfl (by decide +kernel) rfl ?_
  refine aw_aload_n C 0 0 (j := 0) rfl rfl (by decide +kernel) rfl ?_
  refine aw_get C (k := 1) fc_12 (la_58 E) rfl (by decide) tb_943 (by decide +kernel) rfl ?_
  refine aw_icmp_ge C (tgt := 152) (off := 74) (by decide +kernel) (by decide) rfl (fun c1 => ?_) (fun c1 => ?_)
  · have hf := ift c1 hf
    refine aw_sub [(0, .ref (gad G 58)), (2, .int v2), (3, .int v3), (4, .long v4)] [0, 2, 3, 4] rfl ?_
    exact t_m_odds_152 C CR0 E hnL hgd hgr hgs v2 v3 v4 _ hf
  · have hf := iff_ c1 hf
    refine aw_bipush C (i0 := 9) (v := 9) (by decide) (by decide +kernel) rfl ?_
    refine aw_istore C [(7, .int (9 : Int32)), (0, .ref (gad G 58)), (1, .int v1), (2, .int v2), (3, .int v3), (4, .long v4), (6, .int v6)] (by rw [hnL]; decide) rfl (by decide +kernel) rfl ?_
    refine aw_sub [(0, .ref (gad G 58)), (1, .int v1), (2, .int v2), (3, .int v3), (4, .long v4), (6, .int v6), (7, .int (9 : Int32))] [1, 2, 3, 4, 5, 6, 0] rfl ?_
    exact u_m_odds_85 C CR0 E hnL hgd hgr hgs k72 hk72 _ v1 v2 v3 v4 v6 (9 : Int32) _ hf
theorem u_m_odds_72 {G : Cx} (C : CX G prog_14_method_103_code "PaperStarsModel") (CR0 : CR G (Option.some FieldType.long)) (E : LAin (gly G)) (hnL : gnL G = 10) (hgd : 1 ≤ gd G) {q : Int64 × Mm} (hgr : gr G = some (.long q.1)) (hgs : gsf G = q.2) : ∀ (n : Nat) (v1 : Int32) (v2 : Int32) (v3 : Int32) (v4 : Int64) (v6 : Int32) (st : Mm), f_m_odds_72 n v1 v2 v3 v4 v6 st = some q → AW G st 72 [(0, .ref (gad G 58)), (1, .int v1), (2, .int v2), (3, .int v3), (4, .long v4), (6, .int v6)] [] := by
  intro n
  induction n with
  | zero => intro v1 v2 v3 v4 v6 st hf; cases hf
  | succ n ih => intro v1 v2 v3 v4 v6 st hf; exact t_m_odds_72 C CR0 E hnL hgd hgr hgs (f_m_odds_72 n) ih v1 v2 v3 v4 v6 st hf
theorem t_m_odds_66 {G : Cx} (C : CX G prog_14_method_103_code "PaperStarsModel") (CR0 : CR G (Option.some FieldType.long)) (E : LAin (gly G)) (hnL : gnL G = 10) (hgd : 1 ≤ gd G) {q : Int64 × Mm} (hgr : gr G = some (.long q.1)) (hgs : gsf G = q.2) (v1 : Int32) (v2 : Int32) (v3 : Int32) (st : Mm) (hf : b_m_odds_66 v1 v2 v3 st = some q) : AW G st 66 [(0, .ref (gad G 58)), (1, .int v1), (2, .int v2), (3, .int v3)] [] := by
  unfold b_m_odds_66 at hf
  refine aw_lconst C (i0 := 1) (v := 1) (by decide) (by decide +kernel) rfl ?_
  refine aw_lstore C [(4, .long (1 : Int64)), (0, .ref (gad G 58)), (1, .int v1), (2, .int v2), (3, .int v3)] (by rw [hnL]; decide) rfl (by decide +kernel) rfl ?_
  refine aw_iconst C (i0 := 0) (v := 0) (by decide) (by decide +kernel) rfl ?_
  refine aw_istore C [(6, .int (0 : Int32)), (4, .long (1 : Int64)), (0, .ref (gad G 58)), (1, .int v1), (2, .int v2), (3, .int v3)] (by rw [hnL]; decide) rfl (by decide +kernel) rfl ?_
  refine aw_sub [(0, .ref (gad G 58)), (1, .int v1), (2, .int v2), (3, .int v3), (4, .long (1 : Int64)), (6, .int (0 : Int32))] [2, 3, 4, 5, 1, 0] rfl ?_
  exact u_m_odds_72 C CR0 E hnL hgd hgr hgs _ v1 v2 v3 (1 : Int64) (0 : Int32) _ hf
theorem t_m_odds_36 {G : Cx} (C : CX G prog_14_method_103_code "PaperStarsModel") (CR0 : CR G (Option.some FieldType.long)) (E : LAin (gly G)) (hnL : gnL G = 10) (hgd : 1 ≤ gd G) {q : Int64 × Mm} (hgr : gr G = some (.long q.1)) (hgs : gsf G = q.2) (k36 : Int32 → Int32 → Int32 → Int32 → Mm → Option (Int64 × Mm)) (hk36 : ∀ (v1 : Int32) (v2 : Int32) (v3 : Int32) (v4 : Int32) (st : Mm), k36 v1 v2 v3 v4 st = some q → AW G st 36 [(0, .ref (gad G 58)), (1, .int v1), (2, .int v2), (3, .int v3), (4, .int v4)] []) (v1 : Int32) (v2 : Int32) (v3 : Int32) (v4 : Int32) (st : Mm) (hf : b_m_odds_36 k36 v1 v2 v3 v4 st = some q) : AW G st 36 [(0, .ref (gad G 58)), (1, .int v1), (2, .int v2), (3, .int v3), (4, .int v4)] [] := by
  unfold b_m_odds_36 at hf
  refine aw_iload C 4 4 rfl (by decide +kernel) rfl ?_
  refine aw_bipush C (i0 := 9) (v := 9) (by decide) (by decide +kernel) rfl ?_
  refine aw_icmp_gt C (tgt := 66) (off := 26) (by decide +kernel) (by decide) rfl (fun c1 => ?_) (fun c1 => ?_)
  · have hf := ift c1 hf
    refine aw_sub [(0, .ref (gad G 58)), (1, .int v1), (2, .int v2), (3, .int v3)] [0, 1, 2, 3] rfl ?_
    exact t_m_odds_66 C CR0 E hnL hgd hgr hgs v1 v2 v3 _ hf
  · have hf := iff_ c1 hf
    refine aw_aload_n C 0 0 (j := 0) rfl rfl (by decide +kernel) rfl ?_
    refine aw_getr C (k := 52) fc_12 (la_58 E) rfl (by decide) tb_994 (by decide +kernel) rfl ?_
    refine aw_iload C 4 4 rfl (by decide +kernel) rfl ?_
    refine aw_iload C 4 4 rfl (by decide +kernel) rfl ?_
    refine aw_if_ne C (tgt := 58) (off := 7) (by decide +kernel) (by decide) rfl (fun c2 => ?_) (fun c2 => ?_)
    · have hf := ift c2 hf
      refine aw_lconst C (i0 := 1) (v := 1) (by decide) (by decide +kernel) rfl ?_
      refine aw_goto C (tgt := 59) (off := 4) (by decide +kernel) (by decide) ?_
      obtain ⟨g3, hf⟩ := igd hf
      refine aw_last C (la_83 E) g3 (by decide +kernel) rfl ?_
      obtain ⟨a4, ha4⟩ : ∃ z, z = (v4 + (1 : Int32)) := ⟨_, rfl⟩
      have hf := ilt ha4 hf
      refine aw_iinc C [(4, .int a4), (0, .ref (gad G 58)), (1, .int v1), (2, .int v2), (3, .int v3)] 4 (n := 1) rfl (by rw [ha4]; rfl) (by rw [hnL]; decide) rfl (by decide +kernel) rfl ?_
      refine aw_goto C (tgt := 36) (off := -27) (by decide +kernel) (by decide) ?_
      refine aw_sub [(0, .ref (gad G 58)), (1, .int v1), (2, .int v2), (3, .int v3), (4, .int a4)] [1, 2, 3, 4, 0] rfl ?_
      exact hk36 v1 v2 v3 a4 _ hf
    · have hf := iff_ c2 hf
      refine aw_lconst C (i0 := 0) (v := 0) (by decide) (by decide +kernel) rfl ?_
      obtain ⟨g5, hf⟩ := igd hf
      refine aw_last C (la_83 E) g5 (by decide +kernel) rfl ?_
      obtain ⟨a6, ha6⟩ : ∃ z, z = (v4 + (1 : Int32)) := ⟨_, rfl⟩
      have hf := ilt ha6 hf
      refine aw_iinc C [(4, .int a6), (0, .ref (gad G 58)), (1, .int v1), (2, .int v2), (3, .int v3)] 4 (n := 1) rfl (by rw [ha6]; rfl) (by rw [hnL]; decide) rfl (by decide +kernel) rfl ?_
      refine aw_goto C (tgt := 36) (off := -27) (by decide +kernel) (by decide) ?_
      refine aw_sub [(0, .ref (gad G 58)), (1, .int v1), (2, .int v2), (3, .int v3), (4, .int a6)] [1, 2, 3, 4, 0] rfl ?_
      exact hk36 v1 v2 v3 a6 _ hf
theorem u_m_odds_36 {G : Cx} (C : CX G prog_14_method_103_code "PaperStarsModel") (CR0 : CR G (Option.some FieldType.long)) (E : LAin (gly G)) (hnL : gnL G = 10) (hgd : 1 ≤ gd G) {q : Int64 × Mm} (hgr : gr G = some (.long q.1)) (hgs : gsf G = q.2) : ∀ (n : Nat) (v1 : Int32) (v2 : Int32) (v3 : Int32) (v4 : Int32) (st : Mm), f_m_odds_36 n v1 v2 v3 v4 st = some q → AW G st 36 [(0, .ref (gad G 58)), (1, .int v1), (2, .int v2), (3, .int v3), (4, .int v4)] [] := by
  intro n
  induction n with
  | zero => intro v1 v2 v3 v4 st hf; cases hf
  | succ n ih => intro v1 v2 v3 v4 st hf; exact t_m_odds_36 C CR0 E hnL hgd hgr hgs (f_m_odds_36 n) ih v1 v2 v3 v4 st hf
theorem t_m_odds {G : Cx} (C : CX G prog_14_method_103_code "PaperStarsModel") (CR0 : CR G (Option.some FieldType.long)) (E : LAin (gly G)) (hnL : gnL G = 10) (hgd : 1 ≤ gd G) {q : Int64 × Mm} (hgr : gr G = some (.long q.1)) (hgs : gsf G = q.2) (v1 : Int32) (v2 : Int32) (v3 : Int32) (st : Mm) (hf : f_m_odds v1 v2 v3 st = some q) : AW G st 0 [(0, .ref (gad G 58)), (1, .int v1), (2, .int v2), (3, .int v3)] [] := by
  unfold f_m_odds at hf
  refine aw_iload_n C 1 1 (j := 1) rfl rfl (by decide +kernel) rfl ?_
  refine aw_iconst C (i0 := 0) (v := 0) (by decide) (by decide +kernel) rfl ?_
  refine aw_bipush C (i0 := 10) (v := 10) (by decide) (by decide +kernel) rfl ?_
  obtain ⟨q1, hq1, hf⟩ := ibd hf
  refine aw_callS C (rest := []) (c_m_in E v1 (0 : Int32) (10 : Int32) _ q1 hq1) tb_1144 yf_142 tb_1145 rfl _ rfl (Nat.le_trans (by decide) hgd) (Nat.le_of_ble_eq_true rfl) (by decide +kernel) rfl ?_
  show AW _ _ _ _ [.int q1.1]
  refine aw_if_eq C (tgt := 29) (off := 22) (by decide +kernel) (by decide) rfl (fun c2 => ?_) (fun c2 => ?_)
  · have hf := ift c2 hf
    refine aw_ldc2 C tb_1475 (by decide +kernel) rfl ?_
    exact aw_lretq C CR0 hgr hgs hf (by decide +kernel)
  · have hf := iff_ c2 hf
    refine aw_iload_n C 2 2 (j := 2) rfl rfl (by decide +kernel) rfl ?_
    refine aw_iconst C (i0 := 0) (v := 0) (by decide) (by decide +kernel) rfl ?_
    refine aw_bipush C (i0 := 8) (v := 8) (by decide) (by decide +kernel) rfl ?_
    obtain ⟨q3, hq3, hf⟩ := ibd hf
    refine aw_callS C (rest := []) (c_m_in E v2 (0 : Int32) (8 : Int32) _ q3 hq3) tb_1144 yf_142 tb_1145 rfl _ rfl (Nat.le_trans (by decide) hgd) (Nat.le_of_ble_eq_true rfl) (by decide +kernel) rfl ?_
    show AW _ _ _ _ [.int q3.1]
    refine aw_if_eq C (tgt := 29) (off := 12) (by decide +kernel) (by decide) rfl (fun c4 => ?_) (fun c4 => ?_)
    · have hf := ift c4 hf
      refine aw_ldc2 C tb_1475 (by decide +kernel) rfl ?_
      exact aw_lretq C CR0 hgr hgs hf (by decide +kernel)
    · have hf := iff_ c4 hf
      refine aw_iload_n C 3 3 (j := 3) rfl rfl (by decide +kernel) rfl ?_
      refine aw_iconst C (i0 := 0) (v := 0) (by decide) (by decide +kernel) rfl ?_
      refine aw_iconst C (i0 := 1) (v := 1) (by decide) (by decide +kernel) rfl ?_
      obtain ⟨q5, hq5, hf⟩ := ibd hf
      refine aw_callS C (rest := []) (c_m_in E v3 (0 : Int32) (1 : Int32) _ q5 hq5) tb_1144 yf_142 tb_1145 rfl _ rfl (Nat.le_trans (by decide) hgd) (Nat.le_of_ble_eq_true rfl) (by decide +kernel) rfl ?_
      show AW _ _ _ _ [.int q5.1]
      refine aw_if_ne C (tgt := 33) (off := 7) (by decide +kernel) (by decide) rfl (fun c6 => ?_) (fun c6 => ?_)
      · have hf := ift c6 hf
        refine aw_ldc2 C tb_1475 (by decide +kernel) rfl ?_
        exact aw_lretq C CR0 hgr hgs hf (by decide +kernel)
      · have hf := iff_ c6 hf
        refine aw_iconst C (i0 := 0) (v := 0) (by decide) (by decide +kernel) rfl ?_
        refine aw_istore C [(4, .int (0 : Int32)), (0, .ref (gad G 58)), (1, .int v1), (2, .int v2), (3, .int v3)] (by rw [hnL]; decide) rfl (by decide +kernel) rfl ?_
        refine aw_sub [(0, .ref (gad G 58)), (1, .int v1), (2, .int v2), (3, .int v3), (4, .int (0 : Int32))] [1, 2, 3, 4, 0] rfl ?_
        exact u_m_odds_36 C CR0 E hnL hgd hgr hgs _ v1 v2 v3 (0 : Int32) _ hf
theorem c_m_odds {lay : Ly} (E : LAin lay) (v1 : Int32) (v2 : Int32) (v3 : Int32) (st : Mm) (q : Int64 × Mm) (hf : f_m_odds v1 v2 v3 st = some q) : Con 1 Y239 prog_14_method_103_code 10 (Option.some FieldType.long) lay (fun ad => [.ref (ad 58), .int v1, .int v2, .int v3]) st (some (.long q.1)) q.2 :=
  am_met yf_239.2.2.2.2.2 (fun ad => Nat.le_of_ble_eq_true rfl) (fun G C CR0 e1 e2 e3 e4 e5 => t_m_odds C CR0 (by rw [e1]; exact E) e2 (Nat.le_of_eq e5.symm) e3 e4 v1 v2 v3 st hf)
def f_m_seed (v1 : Int32) (st : Mm) : Option (Int32 × Mm) :=
  (f_m_in v1 (0 : Int32) (65535 : Int32) st).bind (fun q1 => if q1.1 = 0 then (some ((0 : Int32), q1.2)) else (some ((1 : Int32), (sI q1.2 58 3 v1))))
theorem t_m_seed {G : Cx} (C : CX G prog_14_method_104_code "PaperStarsModel") (CR0 : CR G (Option.some FieldType.boolean)) (E : LAin (gly G)) (hnL : gnL G = 2) (hgd : 1 ≤ gd G) {q : Int32 × Mm} (hgr : gr G = some (.int q.1)) (hgs : gsf G = q.2) (v1 : Int32) (st : Mm) (hf : f_m_seed v1 st = some q) : AW G st 0 [(0, .ref (gad G 58)), (1, .int v1)] [] := by
  unfold f_m_seed at hf
  refine aw_iload_n C 1 1 (j := 1) rfl rfl (by decide +kernel) rfl ?_
  refine aw_iconst C (i0 := 0) (v := 0) (by decide) (by decide +kernel) rfl ?_
  refine aw_ldcw C tb_1539 (by decide +kernel) rfl ?_
  obtain ⟨q1, hq1, hf⟩ := ibd hf
  refine aw_callS C (rest := []) (c_m_in E v1 (0 : Int32) (65535 : Int32) _ q1 hq1) tb_1144 yf_142 tb_1145 rfl _ rfl (Nat.le_trans (by decide) hgd) (Nat.le_of_ble_eq_true rfl) (by decide +kernel) rfl ?_
  show AW _ _ _ _ [.int q1.1]
  refine aw_if_ne C (tgt := 13) (off := 5) (by decide +kernel) (by decide) rfl (fun c2 => ?_) (fun c2 => ?_)
  · have hf := ift c2 hf
    refine aw_iconst C (i0 := 0) (v := 0) (by decide) (by decide +kernel) rfl ?_
    exact aw_zretq C CR0 hgr hgs (by decide) hf (by decide +kernel)
  · have hf := iff_ c2 hf
    refine aw_aload_n C 0 0 (j := 0) rfl rfl (by decide +kernel) rfl ?_
    refine aw_iload_n C 1 1 (j := 1) rfl rfl (by decide +kernel) rfl ?_
    refine aw_put C (k := 3) fc_12 (la_58 E) rfl (by decide) rfl rfl tb_945 (by decide +kernel) rfl ?_
    refine aw_iconst C (i0 := 1) (v := 1) (by decide) (by decide +kernel) rfl ?_
    exact aw_zretq C CR0 hgr hgs (by decide) hf (by decide +kernel)
theorem c_m_seed {lay : Ly} (E : LAin lay) (v1 : Int32) (st : Mm) (q : Int32 × Mm) (hf : f_m_seed v1 st = some q) : Con 1 Y241 prog_14_method_104_code 2 (Option.some FieldType.boolean) lay (fun ad => [.ref (ad 58), .int v1]) st (some (.int q.1)) q.2 :=
  am_met yf_241.2.2.2.2.2 (fun ad => Nat.le_of_ble_eq_true rfl) (fun G C CR0 e1 e2 e3 e4 e5 => t_m_seed C CR0 (by rw [e1]; exact E) e2 (Nat.le_of_eq e5.symm) e3 e4 v1 st hf)
def b_m_draw_16 (k16 : Int32 → Int32 → Int32 → Mm → Option (Int32 × Mm)) (v1 : Int32) (v2 : Int32) (v3 : Int32) (st : Mm) : Option (Int32 × Mm) :=
  if (st.1 58 1) ≤ v3 then (some (v2, st)) else (lt_ ((((25173 : Int32) * (st.1 58 3)) + (13849 : Int32)) - (((25173 : Int32) * (st.1 58 3)) + (13849 : Int32)) / (65536 : Int32) * (65536 : Int32)) (fun a2 => if v1 ≤ (((sI st 58 3 a2).1 58 3) - ((sI st 58 3 a2).1 58 3) / (10 : Int32) * (10 : Int32)) then (lt_ (v3 + (1 : Int32)) (fun a4 => k16 v1 v2 a4 (sI st 58 3 a2))) else (lt_ (v2 ||| ((1 : Int32) <<< (v3 &&& 31))) (fun a5 => lt_ (v3 + (1 : Int32)) (fun a6 => k16 v1 a5 a6 (sI st 58 3 a2))))))
def f_m_draw_16 : Nat → Int32 → Int32 → Int32 → Mm → Option (Int32 × Mm)
  | 0 => fun _ _ _ _ => none
  | n + 1 => b_m_draw_16 (f_m_draw_16 n)
def f_m_draw (v1 : Int32) (st : Mm) : Option (Int32 × Mm) :=
  (f_m_in v1 (0 : Int32) (10 : Int32) st).bind (fun q1 => if q1.1 = 0 then (some ((-1 : Int32), q1.2)) else (f_m_draw_16 1000000 v1 (0 : Int32) (0 : Int32) q1.2))
theorem t_m_draw_16 {G : Cx} (C : CX G prog_14_method_105_code "PaperStarsModel") (CR0 : CR G (Option.some FieldType.int)) (E : LAin (gly G)) (hnL : gnL G = 4) (hgd : 1 ≤ gd G) {q : Int32 × Mm} (hgr : gr G = some (.int q.1)) (hgs : gsf G = q.2) (k16 : Int32 → Int32 → Int32 → Mm → Option (Int32 × Mm)) (hk16 : ∀ (v1 : Int32) (v2 : Int32) (v3 : Int32) (st : Mm), k16 v1 v2 v3 st = some q → AW G st 16 [(0, .ref (gad G 58)), (1, .int v1), (2, .int v2), (3, .int v3)] []) (v1 : Int32) (v2 : Int32) (v3 : Int32) (st : Mm) (hf : b_m_draw_16 k16 v1 v2 v3 st = some q) : AW G st 16 [(0, .ref (gad G 58)), (1, .int v1), (2, .int v2), (3, .int v3)] [] := by
  unfold b_m_draw_16 at hf
  refine aw_iload_n C 3 3 (j := 3) rfl rfl (by decide +kernel) rfl ?_
  refine aw_aload_n C 0 0 (j := 0) rfl rfl (by decide +kernel) rfl ?_
  refine aw_get C (k := 1) fc_12 (la_58 E) rfl (by decide) tb_943 (by decide +kernel) rfl ?_
  refine aw_icmp_ge C (tgt := 67) (off := 46) (by decide +kernel) (by decide) rfl (fun c1 => ?_) (fun c1 => ?_)
  · have hf := ift c1 hf
    refine aw_iload_n C 2 2 (j := 2) rfl rfl (by decide +kernel) rfl ?_
    exact aw_iretq C CR0 hgr hgs hf (by decide +kernel)
  · have hf := iff_ c1 hf
    refine aw_aload_n C 0 0 (j := 0) rfl rfl (by decide +kernel) rfl ?_
    refine aw_sipush C (i0 := 25173) (v := 25173) (by decide) (by decide +kernel) rfl ?_
    refine aw_aload_n C 0 0 (j := 0) rfl rfl (by decide +kernel) rfl ?_
    refine aw_get C (k := 3) fc_12 (la_58 E) rfl (by decide) tb_945 (by decide +kernel) rfl ?_
    refine aw_imul C (by decide +kernel) rfl ?_
    refine aw_sipush C (i0 := 13849) (v := 13849) (by decide) (by decide +kernel) rfl ?_
    refine aw_iadd C (by decide +kernel) rfl ?_
    refine aw_ldcw C tb_1544 (by decide +kernel) rfl ?_
    refine aw_irem C (by decide) (by decide +kernel) rfl ?_
    obtain ⟨a2, ha2⟩ : ∃ z, z = ((((25173 : Int32) * (st.1 58 3)) + (13849 : Int32)) - (((25173 : Int32) * (st.1 58 3)) + (13849 : Int32)) / (65536 : Int32) * (65536 : Int32)) := ⟨_, rfl⟩
    refine aw_nmi ha2 ?_
    have hf := ilt ha2 hf
    refine aw_put C (k := 3) fc_12 (la_58 E) rfl (by decide) rfl rfl tb_945 (by decide +kernel) rfl ?_
    refine aw_aload_n C 0 0 (j := 0) rfl rfl (by decide +kernel) rfl ?_
    refine aw_get C (k := 3) fc_12 (la_58 E) rfl (by decide) tb_945 (by decide +kernel) rfl ?_
    refine aw_bipush C (i0 := 10) (v := 10) (by decide) (by decide +kernel) rfl ?_
    refine aw_irem C (by decide) (by decide +kernel) rfl ?_
    refine aw_iload_n C 1 1 (j := 1) rfl rfl (by decide +kernel) rfl ?_
    refine aw_icmp_ge C (tgt := 61) (off := 9) (by decide +kernel) (by decide) rfl (fun c3 => ?_) (fun c3 => ?_)
    · have hf := ift c3 hf
      obtain ⟨a4, ha4⟩ : ∃ z, z = (v3 + (1 : Int32)) := ⟨_, rfl⟩
      have hf := ilt ha4 hf
      refine aw_iinc C [(3, .int a4), (0, .ref (gad G 58)), (1, .int v1), (2, .int v2)] 3 (n := 1) rfl (by rw [ha4]; rfl) (by rw [hnL]; decide) rfl (by decide +kernel) rfl ?_
      refine aw_goto C (tgt := 16) (off := -48) (by decide +kernel) (by decide) ?_
      refine aw_sub [(0, .ref (gad G 58)), (1, .int v1), (2, .int v2), (3, .int a4)] [1, 2, 3, 0] rfl ?_
      exact hk16 v1 v2 a4 _ hf
    · have hf := iff_ c3 hf
      refine aw_iload_n C 2 2 (j := 2) rfl rfl (by decide +kernel) rfl ?_
      refine aw_iconst C (i0 := 1) (v := 1) (by decide) (by decide +kernel) rfl ?_
      refine aw_iload_n C 3 3 (j := 3) rfl rfl (by decide +kernel) rfl ?_
      refine aw_ishl C (by decide +kernel) rfl ?_
      refine aw_ior C (by decide +kernel) rfl ?_
      obtain ⟨a5, ha5⟩ : ∃ z, z = (v2 ||| ((1 : Int32) <<< (v3 &&& 31))) := ⟨_, rfl⟩
      refine aw_nmi ha5 ?_
      have hf := ilt ha5 hf
      refine aw_istore_n C [(2, .int a5), (0, .ref (gad G 58)), (1, .int v1), (3, .int v3)] (j := 2) rfl (by rw [hnL]; decide) rfl (by decide +kernel) rfl ?_
      obtain ⟨a6, ha6⟩ : ∃ z, z = (v3 + (1 : Int32)) := ⟨_, rfl⟩
      have hf := ilt ha6 hf
      refine aw_iinc C [(3, .int a6), (2, .int a5), (0, .ref (gad G 58)), (1, .int v1)] 3 (n := 1) rfl (by rw [ha6]; rfl) (by rw [hnL]; decide) rfl (by decide +kernel) rfl ?_
      refine aw_goto C (tgt := 16) (off := -48) (by decide +kernel) (by decide) ?_
      refine aw_sub [(0, .ref (gad G 58)), (1, .int v1), (2, .int a5), (3, .int a6)] [2, 3, 1, 0] rfl ?_
      exact hk16 v1 a5 a6 _ hf
theorem u_m_draw_16 {G : Cx} (C : CX G prog_14_method_105_code "PaperStarsModel") (CR0 : CR G (Option.some FieldType.int)) (E : LAin (gly G)) (hnL : gnL G = 4) (hgd : 1 ≤ gd G) {q : Int32 × Mm} (hgr : gr G = some (.int q.1)) (hgs : gsf G = q.2) : ∀ (n : Nat) (v1 : Int32) (v2 : Int32) (v3 : Int32) (st : Mm), f_m_draw_16 n v1 v2 v3 st = some q → AW G st 16 [(0, .ref (gad G 58)), (1, .int v1), (2, .int v2), (3, .int v3)] [] := by
  intro n
  induction n with
  | zero => intro v1 v2 v3 st hf; cases hf
  | succ n ih => intro v1 v2 v3 st hf; exact t_m_draw_16 C CR0 E hnL hgd hgr hgs (f_m_draw_16 n) ih v1 v2 v3 st hf
theorem t_m_draw {G : Cx} (C : CX G prog_14_method_105_code "PaperStarsModel") (CR0 : CR G (Option.some FieldType.int)) (E : LAin (gly G)) (hnL : gnL G = 4) (hgd : 1 ≤ gd G) {q : Int32 × Mm} (hgr : gr G = some (.int q.1)) (hgs : gsf G = q.2) (v1 : Int32) (st : Mm) (hf : f_m_draw v1 st = some q) : AW G st 0 [(0, .ref (gad G 58)), (1, .int v1)] [] := by
  unfold f_m_draw at hf
  refine aw_iload_n C 1 1 (j := 1) rfl rfl (by decide +kernel) rfl ?_
  refine aw_iconst C (i0 := 0) (v := 0) (by decide) (by decide +kernel) rfl ?_
  refine aw_bipush C (i0 := 10) (v := 10) (by decide) (by decide +kernel) rfl ?_
  obtain ⟨q1, hq1, hf⟩ := ibd hf
  refine aw_callS C (rest := []) (c_m_in E v1 (0 : Int32) (10 : Int32) _ q1 hq1) tb_1144 yf_142 tb_1145 rfl _ rfl (Nat.le_trans (by decide) hgd) (Nat.le_of_ble_eq_true rfl) (by decide +kernel) rfl ?_
  show AW _ _ _ _ [.int q1.1]
  refine aw_if_ne C (tgt := 12) (off := 5) (by decide +kernel) (by decide) rfl (fun c2 => ?_) (fun c2 => ?_)
  · have hf := ift c2 hf
    refine aw_iconst C (i0 := -1) (v := -1) (by decide) (by decide +kernel) rfl ?_
    exact aw_iretq C CR0 hgr hgs hf (by decide +kernel)
  · have hf := iff_ c2 hf
    refine aw_iconst C (i0 := 0) (v := 0) (by decide) (by decide +kernel) rfl ?_
    refine aw_istore_n C [(2, .int (0 : Int32)), (0, .ref (gad G 58)), (1, .int v1)] (j := 2) rfl (by rw [hnL]; decide) rfl (by decide +kernel) rfl ?_
    refine aw_iconst C (i0 := 0) (v := 0) (by decide) (by decide +kernel) rfl ?_
    refine aw_istore_n C [(3, .int (0 : Int32)), (2, .int (0 : Int32)), (0, .ref (gad G 58)), (1, .int v1)] (j := 3) rfl (by rw [hnL]; decide) rfl (by decide +kernel) rfl ?_
    refine aw_sub [(0, .ref (gad G 58)), (1, .int v1), (2, .int (0 : Int32)), (3, .int (0 : Int32))] [2, 3, 1, 0] rfl ?_
    exact u_m_draw_16 C CR0 E hnL hgd hgr hgs _ v1 (0 : Int32) (0 : Int32) _ hf
theorem c_m_draw {lay : Ly} (E : LAin lay) (v1 : Int32) (st : Mm) (q : Int32 × Mm) (hf : f_m_draw v1 st = some q) : Con 1 Y242 prog_14_method_105_code 4 (Option.some FieldType.int) lay (fun ad => [.ref (ad 58), .int v1]) st (some (.int q.1)) q.2 :=
  am_met yf_242.2.2.2.2.2 (fun ad => Nat.le_of_ble_eq_true rfl) (fun G C CR0 e1 e2 e3 e4 e5 => t_m_draw C CR0 (by rw [e1]; exact E) e2 (Nat.le_of_eq e5.symm) e3 e4 v1 st hf)
def b_m_keep_128 (st : Mm) : Option (Int32 × Mm) :=
  (f_m_opens0 (0 : Int32) st).bind (fun q1 => (f_m_paperMany q1.2).bind (fun q2 => some (q2.1, q2.2)))
def b_m_keep_91 (k91 : Int32 → Mm → Option (Int32 × Mm)) (v1 : Int32) (st : Mm) : Option (Int32 × Mm) :=
  if (256 : Int32) ≤ v1 then (b_m_keep_128 st) else (if inb v1 256 then lt_ (st.1 61 v1.toNatClampNeg) (fun a3 => if inb v1 256 then if a3 = 0 ∨ a3 = 1 then if inb v1 256 then lt_ ((sI st 89 v1.toNatClampNeg a3).1 62 v1.toNatClampNeg) (fun a7 => if inb v1 256 then if a7 = 0 ∨ a7 = 1 then lt_ (v1 + (1 : Int32)) (fun a10 => k91 a10 (sI (sI st 89 v1.toNatClampNeg a3) 90 v1.toNatClampNeg a7)) else none else none) else none else none else none) else none)
def f_m_keep_91 : Nat → Int32 → Mm → Option (Int32 × Mm)
  | 0 => fun _ _ => none
  | n + 1 => b_m_keep_91 (f_m_keep_91 n)
def b_m_keep_89 (st : Mm) : Option (Int32 × Mm) :=
  f_m_keep_91 1000000 (0 : Int32) st
def b_m_keep_65 (k65 : Int32 → Mm → Option (Int32 × Mm)) (v1 : Int32) (st : Mm) : Option (Int32 × Mm) :=
  if (16 : Int32) ≤ v1 then (b_m_keep_89 st) else (if inb v1 16 then lt_ (st.1 60 v1.toNatClampNeg) (fun a3 => if inb v1 16 then lt_ (v1 + (1 : Int32)) (fun a5 => k65 a5 (sI st 88 v1.toNatClampNeg a3)) else none) else none)
def f_m_keep_65 : Nat → Int32 → Mm → Option (Int32 × Mm)
  | 0 => fun _ _ => none
  | n + 1 => b_m_keep_65 (f_m_keep_65 n)
def b_m_keep_63 (st : Mm) : Option (Int32 × Mm) :=
  f_m_keep_65 1000000 (0 : Int32) st
def b_m_keep_39 (k39 : Int32 → Mm → Option (Int32 × Mm)) (v1 : Int32) (st : Mm) : Option (Int32 × Mm) :=
  if (9 : Int32) ≤ v1 then (b_m_keep_63 st) else (if inb v1 9 then lt_ (st.1 59 v1.toNatClampNeg) (fun a3 => if inb v1 9 then lt_ (v1 + (1 : Int32)) (fun a5 => k39 a5 (sI st 87 v1.toNatClampNeg a3)) else none) else none)
def f_m_keep_39 : Nat → Int32 → Mm → Option (Int32 × Mm)
  | 0 => fun _ _ => none
  | n + 1 => b_m_keep_39 (f_m_keep_39 n)
def f_m_keep (st : Mm) : Option (Int32 × Mm) :=
  lt_ ((sI st 58 56 (1 : Int32)).1 58 0) (fun a1 => lt_ ((sI (sI st 58 56 (1 : Int32)) 58 57 a1).1 58 1) (fun a2 => lt_ ((sI (sI (sI st 58 56 (1 : Int32)) 58 57 a1) 58 58 a2).1 58 2) (fun a3 => lt_ ((sI (sI (sI (sI st 58 56 (1 : Int32)) 58 57 a1) 58 58 a2) 58 59 a3).1 58 3) (fun a4 => f_m_keep_39 1000000 (0 : Int32) (sI (sI (sI (sI (sI st 58 56 (1 : Int32)) 58 57 a1) 58 58 a2) 58 59 a3) 58 60 a4)))))
theorem t_m_keep_128 {G : Cx} (C : CX G prog_14_method_106_code "PaperStarsModel") (CR0 : CR G (Option.some FieldType.int)) (E : LAin (gly G)) (hnL : gnL G = 2) (hgd : 4 ≤ gd G) {q : Int32 × Mm} (hgr : gr G = some (.int q.1)) (hgs : gsf G = q.2) (st : Mm) (hf : b_m_keep_128 st = some q) : AW G st 128 [(0, .ref (gad G 58))] [] := by
  unfold b_m_keep_128 at hf
  refine aw_aload_n C 0 0 (j := 0) rfl rfl (by decide +kernel) rfl ?_
  refine aw_iconst C (i0 := 0) (v := 0) (by decide) (by decide +kernel) rfl ?_
  obtain ⟨q1, hq1, hf⟩ := ibd hf
  refine aw_callV C (rest := []) (c_m_opens0 E (0 : Int32) _ q1 hq1) tb_1332 yf_190 yi_190 (la_58 E) [.int (0 : Int32)] rfl rfl _ rfl (Nat.le_trans (by decide) hgd) (Nat.le_of_ble_eq_true rfl) (by decide +kernel) rfl ?_
  show AW _ _ _ _ []
  refine aw_aload_n C 0 0 (j := 0) rfl rfl (by decide +kernel) rfl ?_
  obtain ⟨q2, hq2, hf⟩ := ibd hf
  refine aw_callV C (rest := []) (c_m_paperMany E _ q2 hq2) tb_1360 yf_197 yi_197 (la_58 E) [] rfl rfl _ rfl (Nat.le_trans (by decide) hgd) (Nat.le_of_ble_eq_true rfl) (by decide +kernel) rfl ?_
  show AW _ _ _ _ [.int q2.1]
  exact aw_iretq C CR0 hgr hgs hf (by decide +kernel)
theorem t_m_keep_91 {G : Cx} (C : CX G prog_14_method_106_code "PaperStarsModel") (CR0 : CR G (Option.some FieldType.int)) (E : LAin (gly G)) (hnL : gnL G = 2) (hgd : 4 ≤ gd G) {q : Int32 × Mm} (hgr : gr G = some (.int q.1)) (hgs : gsf G = q.2) (k91 : Int32 → Mm → Option (Int32 × Mm)) (hk91 : ∀ (v1 : Int32) (st : Mm), k91 v1 st = some q → AW G st 91 [(0, .ref (gad G 58)), (1, .int v1)] []) (v1 : Int32) (st : Mm) (hf : b_m_keep_91 k91 v1 st = some q) : AW G st 91 [(0, .ref (gad G 58)), (1, .int v1)] [] := by
  unfold b_m_keep_91 at hf
  refine aw_iload_n C 1 1 (j := 1) rfl rfl (by decide +kernel) rfl ?_
  refine aw_sipush C (i0 := 256) (v := 256) (by decide) (by decide +kernel) rfl ?_
  refine aw_icmp_ge C (tgt := 128) (off := 33) (by decide +kernel) (by decide) rfl (fun c1 => ?_) (fun c1 => ?_)
  · have hf := ift c1 hf
    refine aw_sub [(0, .ref (gad G 58))] [0] rfl ?_
    exact t_m_keep_128 C CR0 E hnL hgd hgr hgs _ hf
  · have hf := iff_ c1 hf
    refine aw_aload_n C 0 0 (j := 0) rfl rfl (by decide +kernel) rfl ?_
    refine aw_getr C (k := 63) fc_12 (la_58 E) rfl (by decide) tb_1005 (by decide +kernel) rfl ?_
    refine aw_iload_n C 1 1 (j := 1) rfl rfl (by decide +kernel) rfl ?_
    refine aw_aload_n C 0 0 (j := 0) rfl rfl (by decide +kernel) rfl ?_
    refine aw_getr C (k := 6) fc_12 (la_58 E) rfl (by decide) tb_948 (by decide +kernel) rfl ?_
    refine aw_iload_n C 1 1 (j := 1) rfl rfl (by decide +kernel) rfl ?_
    obtain ⟨g2, hf⟩ := igd hf
    refine aw_zald C (la_61 E) g2 (by decide +kernel) rfl ?_
    obtain ⟨a3, ha3⟩ : ∃ z, z = (st.1 61 v1.toNatClampNeg) := ⟨_, rfl⟩
    refine aw_nmi ha3 ?_
    have hf := ilt ha3 hf
    obtain ⟨g4, hf⟩ := igd hf
    obtain ⟨g5, hf⟩ := igd hf
    refine aw_zastB C (la_89 E) g4 g5 (by decide +kernel) rfl ?_
    refine aw_aload_n C 0 0 (j := 0) rfl rfl (by decide +kernel) rfl ?_
    refine aw_getr C (k := 64) fc_12 (la_58 E) rfl (by decide) tb_1006 (by decide +kernel) rfl ?_
    refine aw_iload_n C 1 1 (j := 1) rfl rfl (by decide +kernel) rfl ?_
    refine aw_aload_n C 0 0 (j := 0) rfl rfl (by decide +kernel) rfl ?_
    refine aw_getr C (k := 7) fc_12 (la_58 E) rfl (by decide) tb_949 (by decide +kernel) rfl ?_
    refine aw_iload_n C 1 1 (j := 1) rfl rfl (by decide +kernel) rfl ?_
    obtain ⟨g6, hf⟩ := igd hf
    refine aw_zald C (la_62 E) g6 (by decide +kernel) rfl ?_
    obtain ⟨a7, ha7⟩ : ∃ z, z = ((sI st 89 v1.toNatClampNeg a3).1 62 v1.toNatClampNeg) := ⟨_, rfl⟩
    refine aw_nmi ha7 ?_
    have hf := ilt ha7 hf
    obtain ⟨g8, hf⟩ := igd hf
    obtain ⟨g9, hf⟩ := igd hf
    refine aw_zastB C (la_90 E) g8 g9 (by decide +kernel) rfl ?_
    obtain ⟨a10, ha10⟩ : ∃ z, z = (v1 + (1 : Int32)) := ⟨_, rfl⟩
    have hf := ilt ha10 hf
    refine aw_iinc C [(1, .int a10), (0, .ref (gad G 58))] 1 (n := 1) rfl (by rw [ha10]; rfl) (by rw [hnL]; decide) rfl (by decide +kernel) rfl ?_
    refine aw_goto C (tgt := 91) (off := -34) (by decide +kernel) (by decide) ?_
    refine aw_sub [(0, .ref (gad G 58)), (1, .int a10)] [1, 0] rfl ?_
    exact hk91 a10 _ hf
theorem u_m_keep_91 {G : Cx} (C : CX G prog_14_method_106_code "PaperStarsModel") (CR0 : CR G (Option.some FieldType.int)) (E : LAin (gly G)) (hnL : gnL G = 2) (hgd : 4 ≤ gd G) {q : Int32 × Mm} (hgr : gr G = some (.int q.1)) (hgs : gsf G = q.2) : ∀ (n : Nat) (v1 : Int32) (st : Mm), f_m_keep_91 n v1 st = some q → AW G st 91 [(0, .ref (gad G 58)), (1, .int v1)] [] := by
  intro n
  induction n with
  | zero => intro v1 st hf; cases hf
  | succ n ih => intro v1 st hf; exact t_m_keep_91 C CR0 E hnL hgd hgr hgs (f_m_keep_91 n) ih v1 st hf
theorem t_m_keep_89 {G : Cx} (C : CX G prog_14_method_106_code "PaperStarsModel") (CR0 : CR G (Option.some FieldType.int)) (E : LAin (gly G)) (hnL : gnL G = 2) (hgd : 4 ≤ gd G) {q : Int32 × Mm} (hgr : gr G = some (.int q.1)) (hgs : gsf G = q.2) (st : Mm) (hf : b_m_keep_89 st = some q) : AW G st 89 [(0, .ref (gad G 58))] [] := by
  unfold b_m_keep_89 at hf
  refine aw_iconst C (i0 := 0) (v := 0) (by decide) (by decide +kernel) rfl ?_
  refine aw_istore_n C [(1, .int (0 : Int32)), (0, .ref (gad G 58))] (j := 1) rfl (by rw [hnL]; decide) rfl (by decide +kernel) rfl ?_
  refine aw_sub [(0, .ref (gad G 58)), (1, .int (0 : Int32))] [1, 0] rfl ?_
  exact u_m_keep_91 C CR0 E hnL hgd hgr hgs _ (0 : Int32) _ hf
theorem t_m_keep_65 {G : Cx} (C : CX G prog_14_method_106_code "PaperStarsModel") (CR0 : CR G (Option.some FieldType.int)) (E : LAin (gly G)) (hnL : gnL G = 2) (hgd : 4 ≤ gd G) {q : Int32 × Mm} (hgr : gr G = some (.int q.1)) (hgs : gsf G = q.2) (k65 : Int32 → Mm → Option (Int32 × Mm)) (hk65 : ∀ (v1 : Int32) (st : Mm), k65 v1 st = some q → AW G st 65 [(0, .ref (gad G 58)), (1, .int v1)] []) (v1 : Int32) (st : Mm) (hf : b_m_keep_65 k65 v1 st = some q) : AW G st 65 [(0, .ref (gad G 58)), (1, .int v1)] [] := by
  unfold b_m_keep_65 at hf
  refine aw_iload_n C 1 1 (j := 1) rfl rfl (by decide +kernel) rfl ?_
  refine aw_bipush C (i0 := 16) (v := 16) (by decide) (by decide +kernel) rfl ?_
  refine aw_icmp_ge C (tgt := 89) (off := 21) (by decide +kernel) (by decide) rfl (fun c1 => ?_) (fun c1 => ?_)
  · have hf := ift c1 hf
    refine aw_sub [(0, .ref (gad G 58))] [0] rfl ?_
    exact t_m_keep_89 C CR0 E hnL hgd hgr hgs _ hf
  · have hf := iff_ c1 hf
    refine aw_aload_n C 0 0 (j := 0) rfl rfl (by decide +kernel) rfl ?_
    refine aw_getr C (k := 62) fc_12 (la_58 E) rfl (by decide) tb_1004 (by decide +kernel) rfl ?_
    refine aw_iload_n C 1 1 (j := 1) rfl rfl (by decide +kernel) rfl ?_
    refine aw_aload_n C 0 0 (j := 0) rfl rfl (by decide +kernel) rfl ?_
    refine aw_getr C (k := 5) fc_12 (la_58 E) rfl (by decide) tb_947 (by decide +kernel) rfl ?_
    refine aw_iload_n C 1 1 (j := 1) rfl rfl (by decide +kernel) rfl ?_
    obtain ⟨g2, hf⟩ := igd hf
    refine aw_iald C (la_60 E) g2 (by decide +kernel) rfl ?_
    obtain ⟨a3, ha3⟩ : ∃ z, z = (st.1 60 v1.toNatClampNeg) := ⟨_, rfl⟩
    refine aw_nmi ha3 ?_
    have hf := ilt ha3 hf
    obtain ⟨g4, hf⟩ := igd hf
    refine aw_iast C (la_88 E) g4 (by decide +kernel) rfl ?_
    obtain ⟨a5, ha5⟩ : ∃ z, z = (v1 + (1 : Int32)) := ⟨_, rfl⟩
    have hf := ilt ha5 hf
    refine aw_iinc C [(1, .int a5), (0, .ref (gad G 58))] 1 (n := 1) rfl (by rw [ha5]; rfl) (by rw [hnL]; decide) rfl (by decide +kernel) rfl ?_
    refine aw_goto C (tgt := 65) (off := -21) (by decide +kernel) (by decide) ?_
    refine aw_sub [(0, .ref (gad G 58)), (1, .int a5)] [1, 0] rfl ?_
    exact hk65 a5 _ hf
theorem u_m_keep_65 {G : Cx} (C : CX G prog_14_method_106_code "PaperStarsModel") (CR0 : CR G (Option.some FieldType.int)) (E : LAin (gly G)) (hnL : gnL G = 2) (hgd : 4 ≤ gd G) {q : Int32 × Mm} (hgr : gr G = some (.int q.1)) (hgs : gsf G = q.2) : ∀ (n : Nat) (v1 : Int32) (st : Mm), f_m_keep_65 n v1 st = some q → AW G st 65 [(0, .ref (gad G 58)), (1, .int v1)] [] := by
  intro n
  induction n with
  | zero => intro v1 st hf; cases hf
  | succ n ih => intro v1 st hf; exact t_m_keep_65 C CR0 E hnL hgd hgr hgs (f_m_keep_65 n) ih v1 st hf
theorem t_m_keep_63 {G : Cx} (C : CX G prog_14_method_106_code "PaperStarsModel") (CR0 : CR G (Option.some FieldType.int)) (E : LAin (gly G)) (hnL : gnL G = 2) (hgd : 4 ≤ gd G) {q : Int32 × Mm} (hgr : gr G = some (.int q.1)) (hgs : gsf G = q.2) (st : Mm) (hf : b_m_keep_63 st = some q) : AW G st 63 [(0, .ref (gad G 58))] [] := by
  unfold b_m_keep_63 at hf
  refine aw_iconst C (i0 := 0) (v := 0) (by decide) (by decide +kernel) rfl ?_
  refine aw_istore_n C [(1, .int (0 : Int32)), (0, .ref (gad G 58))] (j := 1) rfl (by rw [hnL]; decide) rfl (by decide +kernel) rfl ?_
  refine aw_sub [(0, .ref (gad G 58)), (1, .int (0 : Int32))] [1, 0] rfl ?_
  exact u_m_keep_65 C CR0 E hnL hgd hgr hgs _ (0 : Int32) _ hf
theorem t_m_keep_39 {G : Cx} (C : CX G prog_14_method_106_code "PaperStarsModel") (CR0 : CR G (Option.some FieldType.int)) (E : LAin (gly G)) (hnL : gnL G = 2) (hgd : 4 ≤ gd G) {q : Int32 × Mm} (hgr : gr G = some (.int q.1)) (hgs : gsf G = q.2) (k39 : Int32 → Mm → Option (Int32 × Mm)) (hk39 : ∀ (v1 : Int32) (st : Mm), k39 v1 st = some q → AW G st 39 [(0, .ref (gad G 58)), (1, .int v1)] []) (v1 : Int32) (st : Mm) (hf : b_m_keep_39 k39 v1 st = some q) : AW G st 39 [(0, .ref (gad G 58)), (1, .int v1)] [] := by
  unfold b_m_keep_39 at hf
  refine aw_iload_n C 1 1 (j := 1) rfl rfl (by decide +kernel) rfl ?_
  refine aw_bipush C (i0 := 9) (v := 9) (by decide) (by decide +kernel) rfl ?_
  refine aw_icmp_ge C (tgt := 63) (off := 21) (by decide +kernel) (by decide) rfl (fun c1 => ?_) (fun c1 => ?_)
  · have hf := ift c1 hf
    refine aw_sub [(0, .ref (gad G 58))] [0] rfl ?_
    exact t_m_keep_63 C CR0 E hnL hgd hgr hgs _ hf
  · have hf := iff_ c1 hf
    refine aw_aload_n C 0 0 (j := 0) rfl rfl (by decide +kernel) rfl ?_
    refine aw_getr C (k := 61) fc_12 (la_58 E) rfl (by decide) tb_1003 (by decide +kernel) rfl ?_
    refine aw_iload_n C 1 1 (j := 1) rfl rfl (by decide +kernel) rfl ?_
    refine aw_aload_n C 0 0 (j := 0) rfl rfl (by decide +kernel) rfl ?_
    refine aw_getr C (k := 4) fc_12 (la_58 E) rfl (by decide) tb_946 (by decide +kernel) rfl ?_
    refine aw_iload_n C 1 1 (j := 1) rfl rfl (by decide +kernel) rfl ?_
    obtain ⟨g2, hf⟩ := igd hf
    refine aw_iald C (la_59 E) g2 (by decide +kernel) rfl ?_
    obtain ⟨a3, ha3⟩ : ∃ z, z = (st.1 59 v1.toNatClampNeg) := ⟨_, rfl⟩
    refine aw_nmi ha3 ?_
    have hf := ilt ha3 hf
    obtain ⟨g4, hf⟩ := igd hf
    refine aw_iast C (la_87 E) g4 (by decide +kernel) rfl ?_
    obtain ⟨a5, ha5⟩ : ∃ z, z = (v1 + (1 : Int32)) := ⟨_, rfl⟩
    have hf := ilt ha5 hf
    refine aw_iinc C [(1, .int a5), (0, .ref (gad G 58))] 1 (n := 1) rfl (by rw [ha5]; rfl) (by rw [hnL]; decide) rfl (by decide +kernel) rfl ?_
    refine aw_goto C (tgt := 39) (off := -21) (by decide +kernel) (by decide) ?_
    refine aw_sub [(0, .ref (gad G 58)), (1, .int a5)] [1, 0] rfl ?_
    exact hk39 a5 _ hf
theorem u_m_keep_39 {G : Cx} (C : CX G prog_14_method_106_code "PaperStarsModel") (CR0 : CR G (Option.some FieldType.int)) (E : LAin (gly G)) (hnL : gnL G = 2) (hgd : 4 ≤ gd G) {q : Int32 × Mm} (hgr : gr G = some (.int q.1)) (hgs : gsf G = q.2) : ∀ (n : Nat) (v1 : Int32) (st : Mm), f_m_keep_39 n v1 st = some q → AW G st 39 [(0, .ref (gad G 58)), (1, .int v1)] [] := by
  intro n
  induction n with
  | zero => intro v1 st hf; cases hf
  | succ n ih => intro v1 st hf; exact t_m_keep_39 C CR0 E hnL hgd hgr hgs (f_m_keep_39 n) ih v1 st hf
theorem t_m_keep {G : Cx} (C : CX G prog_14_method_106_code "PaperStarsModel") (CR0 : CR G (Option.some FieldType.int)) (E : LAin (gly G)) (hnL : gnL G = 2) (hgd : 4 ≤ gd G) {q : Int32 × Mm} (hgr : gr G = some (.int q.1)) (hgs : gsf G = q.2) (st : Mm) (hf : f_m_keep st = some q) : AW G st 0 [(0, .ref (gad G 58))] [] := by
  unfold f_m_keep at hf
  refine aw_aload_n C 0 0 (j := 0) rfl rfl (by decide +kernel) rfl ?_
  refine aw_iconst C (i0 := 1) (v := 1) (by decide) (by decide +kernel) rfl ?_
  refine aw_putZ C (k := 56) fc_12 (la_58 E) rfl (by decide) rfl rfl (by decide) tb_998 (by decide +kernel) rfl ?_
  refine aw_aload_n C 0 0 (j := 0) rfl rfl (by decide +kernel) rfl ?_
  refine aw_aload_n C 0 0 (j := 0) rfl rfl (by decide +kernel) rfl ?_
  refine aw_get C (k := 0) fc_12 (la_58 E) rfl (by decide) tb_942 (by decide +kernel) rfl ?_
  obtain ⟨a1, ha1⟩ : ∃ z, z = ((sI st 58 56 (1 : Int32)).1 58 0) := ⟨_, rfl⟩
  refine aw_nmi ha1 ?_
  have hf := ilt ha1 hf
  refine aw_put C (k := 57) fc_12 (la_58 E) rfl (by decide) rfl rfl tb_999 (by decide +kernel) rfl ?_
  refine aw_aload_n C 0 0 (j := 0) rfl rfl (by decide +kernel) rfl ?_
  refine aw_aload_n C 0 0 (j := 0) rfl rfl (by decide +kernel) rfl ?_
  refine aw_get C (k := 1) fc_12 (la_58 E) rfl (by decide) tb_943 (by decide +kernel) rfl ?_
  obtain ⟨a2, ha2⟩ : ∃ z, z = ((sI (sI st 58 56 (1 : Int32)) 58 57 a1).1 58 1) := ⟨_, rfl⟩
  refine aw_nmi ha2 ?_
  have hf := ilt ha2 hf
  refine aw_put C (k := 58) fc_12 (la_58 E) rfl (by decide) rfl rfl tb_1000 (by decide +kernel) rfl ?_
  refine aw_aload_n C 0 0 (j := 0) rfl rfl (by decide +kernel) rfl ?_
  refine aw_aload_n C 0 0 (j := 0) rfl rfl (by decide +kernel) rfl ?_
  refine aw_get C (k := 2) fc_12 (la_58 E) rfl (by decide) tb_944 (by decide +kernel) rfl ?_
  obtain ⟨a3, ha3⟩ : ∃ z, z = ((sI (sI (sI st 58 56 (1 : Int32)) 58 57 a1) 58 58 a2).1 58 2) := ⟨_, rfl⟩
  refine aw_nmi ha3 ?_
  have hf := ilt ha3 hf
  refine aw_put C (k := 59) fc_12 (la_58 E) rfl (by decide) rfl rfl tb_1001 (by decide +kernel) rfl ?_
  refine aw_aload_n C 0 0 (j := 0) rfl rfl (by decide +kernel) rfl ?_
  refine aw_aload_n C 0 0 (j := 0) rfl rfl (by decide +kernel) rfl ?_
  refine aw_get C (k := 3) fc_12 (la_58 E) rfl (by decide) tb_945 (by decide +kernel) rfl ?_
  obtain ⟨a4, ha4⟩ : ∃ z, z = ((sI (sI (sI (sI st 58 56 (1 : Int32)) 58 57 a1) 58 58 a2) 58 59 a3).1 58 3) := ⟨_, rfl⟩
  refine aw_nmi ha4 ?_
  have hf := ilt ha4 hf
  refine aw_put C (k := 60) fc_12 (la_58 E) rfl (by decide) rfl rfl tb_1002 (by decide +kernel) rfl ?_
  refine aw_iconst C (i0 := 0) (v := 0) (by decide) (by decide +kernel) rfl ?_
  refine aw_istore_n C [(1, .int (0 : Int32)), (0, .ref (gad G 58))] (j := 1) rfl (by rw [hnL]; decide) rfl (by decide +kernel) rfl ?_
  refine aw_sub [(0, .ref (gad G 58)), (1, .int (0 : Int32))] [1, 0] rfl ?_
  exact u_m_keep_39 C CR0 E hnL hgd hgr hgs _ (0 : Int32) _ hf
theorem c_m_keep {lay : Ly} (E : LAin lay) (st : Mm) (q : Int32 × Mm) (hf : f_m_keep st = some q) : Con 4 Y243 prog_14_method_106_code 2 (Option.some FieldType.int) lay (fun ad => [.ref (ad 58)]) st (some (.int q.1)) q.2 :=
  am_met yf_243.2.2.2.2.2 (fun ad => Nat.le_of_ble_eq_true rfl) (fun G C CR0 e1 e2 e3 e4 e5 => t_m_keep C CR0 (by rw [e1]; exact E) e2 (Nat.le_of_eq e5.symm) e3 e4 st hf)
def b_m_undo_95 (k95 : Int32 → Mm → Option (Int32 × Mm)) (v1 : Int32) (st : Mm) : Option (Int32 × Mm) :=
  if (256 : Int32) ≤ v1 then (some ((1 : Int32), st)) else (if inb v1 256 then lt_ (st.1 89 v1.toNatClampNeg) (fun a3 => if inb v1 256 then if a3 = 0 ∨ a3 = 1 then if inb v1 256 then lt_ ((sI st 61 v1.toNatClampNeg a3).1 90 v1.toNatClampNeg) (fun a7 => if inb v1 256 then if a7 = 0 ∨ a7 = 1 then lt_ (v1 + (1 : Int32)) (fun a10 => k95 a10 (sI (sI st 61 v1.toNatClampNeg a3) 62 v1.toNatClampNeg a7)) else none else none) else none else none else none) else none)
def f_m_undo_95 : Nat → Int32 → Mm → Option (Int32 × Mm)
  | 0 => fun _ _ => none
  | n + 1 => b_m_undo_95 (f_m_undo_95 n)
def b_m_undo_93 (st : Mm) : Option (Int32 × Mm) :=
  f_m_undo_95 1000000 (0 : Int32) st
def b_m_undo_69 (k69 : Int32 → Mm → Option (Int32 × Mm)) (v1 : Int32) (st : Mm) : Option (Int32 × Mm) :=
  if (16 : Int32) ≤ v1 then (b_m_undo_93 st) else (if inb v1 16 then lt_ (st.1 88 v1.toNatClampNeg) (fun a3 => if inb v1 16 then lt_ (v1 + (1 : Int32)) (fun a5 => k69 a5 (sI st 60 v1.toNatClampNeg a3)) else none) else none)
def f_m_undo_69 : Nat → Int32 → Mm → Option (Int32 × Mm)
  | 0 => fun _ _ => none
  | n + 1 => b_m_undo_69 (f_m_undo_69 n)
def b_m_undo_67 (st : Mm) : Option (Int32 × Mm) :=
  f_m_undo_69 1000000 (0 : Int32) st
def b_m_undo_43 (k43 : Int32 → Mm → Option (Int32 × Mm)) (v1 : Int32) (st : Mm) : Option (Int32 × Mm) :=
  if (9 : Int32) ≤ v1 then (b_m_undo_67 st) else (if inb v1 9 then lt_ (st.1 87 v1.toNatClampNeg) (fun a3 => if inb v1 9 then lt_ (v1 + (1 : Int32)) (fun a5 => k43 a5 (sI st 59 v1.toNatClampNeg a3)) else none) else none)
def f_m_undo_43 : Nat → Int32 → Mm → Option (Int32 × Mm)
  | 0 => fun _ _ => none
  | n + 1 => b_m_undo_43 (f_m_undo_43 n)
def f_m_undo (st : Mm) : Option (Int32 × Mm) :=
  if (st.1 58 56) = 0 then (some ((0 : Int32), st)) else (lt_ (st.1 58 57) (fun a2 => lt_ ((sI st 58 0 a2).1 58 58) (fun a3 => lt_ ((sI (sI st 58 0 a2) 58 1 a3).1 58 59) (fun a4 => lt_ ((sI (sI (sI st 58 0 a2) 58 1 a3) 58 2 a4).1 58 60) (fun a5 => f_m_undo_43 1000000 (0 : Int32) (sI (sI (sI (sI st 58 0 a2) 58 1 a3) 58 2 a4) 58 3 a5))))))
theorem t_m_undo_95 {G : Cx} (C : CX G prog_14_method_107_code "PaperStarsModel") (CR0 : CR G (Option.some FieldType.boolean)) (E : LAin (gly G)) (hnL : gnL G = 2) (hgd : 0 ≤ gd G) {q : Int32 × Mm} (hgr : gr G = some (.int q.1)) (hgs : gsf G = q.2) (k95 : Int32 → Mm → Option (Int32 × Mm)) (hk95 : ∀ (v1 : Int32) (st : Mm), k95 v1 st = some q → AW G st 95 [(0, .ref (gad G 58)), (1, .int v1)] []) (v1 : Int32) (st : Mm) (hf : b_m_undo_95 k95 v1 st = some q) : AW G st 95 [(0, .ref (gad G 58)), (1, .int v1)] [] := by
  unfold b_m_undo_95 at hf
  refine aw_iload_n C 1 1 (j := 1) rfl rfl (by decide +kernel) rfl ?_
  refine aw_sipush C (i0 := 256) (v := 256) (by decide) (by decide +kernel) rfl ?_
  refine aw_icmp_ge C (tgt := 132) (off := 33) (by decide +kernel) (by decide) rfl (fun c1 => ?_) (fun c1 => ?_)
  · have hf := ift c1 hf
    refine aw_iconst C (i0 := 1) (v := 1) (by decide) (by decide +kernel) rfl ?_
    exact aw_zretq C CR0 hgr hgs (by decide) hf (by decide +kernel)
  · have hf := iff_ c1 hf
    refine aw_aload_n C 0 0 (j := 0) rfl rfl (by decide +kernel) rfl ?_
    refine aw_getr C (k := 6) fc_12 (la_58 E) rfl (by decide) tb_948 (by decide +kernel) rfl ?_
    refine aw_iload_n C 1 1 (j := 1) rfl rfl (by decide +kernel) rfl ?_
    refine aw_aload_n C 0 0 (j := 0) rfl rfl (by decide +kernel) rfl ?_
    refine aw_getr C (k := 63) fc_12 (la_58 E) rfl (by decide) tb_1005 (by decide +kernel) rfl ?_
    refine aw_iload_n C 1 1 (j := 1) rfl rfl (by decide +kernel) rfl ?_
    obtain ⟨g2, hf⟩ := igd hf
    refine aw_zald C (la_89 E) g2 (by decide +kernel) rfl ?_
    obtain ⟨a3, ha3⟩ : ∃ z, z = (st.1 89 v1.toNatClampNeg) := ⟨_, rfl⟩
    refine aw_nmi ha3 ?_
    have hf := ilt ha3 hf
    obtain ⟨g4, hf⟩ := igd hf
    obtain ⟨g5, hf⟩ := igd hf
    refine aw_zastB C (la_61 E) g4 g5 (by decide +kernel) rfl ?_
    refine aw_aload_n C 0 0 (j := 0) rfl rfl (by decide +kernel) rfl ?_
    refine aw_getr C (k := 7) fc_12 (la_58 E) rfl (by decide) tb_949 (by decide +kernel) rfl ?_
    refine aw_iload_n C 1 1 (j := 1) rfl rfl (by decide +kernel) rfl ?_
    refine aw_aload_n C 0 0 (j := 0) rfl rfl (by decide +kernel) rfl ?_
    refine aw_getr C (k := 64) fc_12 (la_58 E) rfl (by decide) tb_1006 (by decide +kernel) rfl ?_
    refine aw_iload_n C 1 1 (j := 1) rfl rfl (by decide +kernel) rfl ?_
    obtain ⟨g6, hf⟩ := igd hf
    refine aw_zald C (la_90 E) g6 (by decide +kernel) rfl ?_
    obtain ⟨a7, ha7⟩ : ∃ z, z = ((sI st 61 v1.toNatClampNeg a3).1 90 v1.toNatClampNeg) := ⟨_, rfl⟩
    refine aw_nmi ha7 ?_
    have hf := ilt ha7 hf
    obtain ⟨g8, hf⟩ := igd hf
    obtain ⟨g9, hf⟩ := igd hf
    refine aw_zastB C (la_62 E) g8 g9 (by decide +kernel) rfl ?_
    obtain ⟨a10, ha10⟩ : ∃ z, z = (v1 + (1 : Int32)) := ⟨_, rfl⟩
    have hf := ilt ha10 hf
    refine aw_iinc C [(1, .int a10), (0, .ref (gad G 58))] 1 (n := 1) rfl (by rw [ha10]; rfl) (by rw [hnL]; decide) rfl (by decide +kernel) rfl ?_
    refine aw_goto C (tgt := 95) (off := -34) (by decide +kernel) (by decide) ?_
    refine aw_sub [(0, .ref (gad G 58)), (1, .int a10)] [1, 0] rfl ?_
    exact hk95 a10 _ hf
theorem u_m_undo_95 {G : Cx} (C : CX G prog_14_method_107_code "PaperStarsModel") (CR0 : CR G (Option.some FieldType.boolean)) (E : LAin (gly G)) (hnL : gnL G = 2) (hgd : 0 ≤ gd G) {q : Int32 × Mm} (hgr : gr G = some (.int q.1)) (hgs : gsf G = q.2) : ∀ (n : Nat) (v1 : Int32) (st : Mm), f_m_undo_95 n v1 st = some q → AW G st 95 [(0, .ref (gad G 58)), (1, .int v1)] [] := by
  intro n
  induction n with
  | zero => intro v1 st hf; cases hf
  | succ n ih => intro v1 st hf; exact t_m_undo_95 C CR0 E hnL hgd hgr hgs (f_m_undo_95 n) ih v1 st hf
theorem t_m_undo_93 {G : Cx} (C : CX G prog_14_method_107_code "PaperStarsModel") (CR0 : CR G (Option.some FieldType.boolean)) (E : LAin (gly G)) (hnL : gnL G = 2) (hgd : 0 ≤ gd G) {q : Int32 × Mm} (hgr : gr G = some (.int q.1)) (hgs : gsf G = q.2) (st : Mm) (hf : b_m_undo_93 st = some q) : AW G st 93 [(0, .ref (gad G 58))] [] := by
  unfold b_m_undo_93 at hf
  refine aw_iconst C (i0 := 0) (v := 0) (by decide) (by decide +kernel) rfl ?_
  refine aw_istore_n C [(1, .int (0 : Int32)), (0, .ref (gad G 58))] (j := 1) rfl (by rw [hnL]; decide) rfl (by decide +kernel) rfl ?_
  refine aw_sub [(0, .ref (gad G 58)), (1, .int (0 : Int32))] [1, 0] rfl ?_
  exact u_m_undo_95 C CR0 E hnL hgd hgr hgs _ (0 : Int32) _ hf
theorem t_m_undo_69 {G : Cx} (C : CX G prog_14_method_107_code "PaperStarsModel") (CR0 : CR G (Option.some FieldType.boolean)) (E : LAin (gly G)) (hnL : gnL G = 2) (hgd : 0 ≤ gd G) {q : Int32 × Mm} (hgr : gr G = some (.int q.1)) (hgs : gsf G = q.2) (k69 : Int32 → Mm → Option (Int32 × Mm)) (hk69 : ∀ (v1 : Int32) (st : Mm), k69 v1 st = some q → AW G st 69 [(0, .ref (gad G 58)), (1, .int v1)] []) (v1 : Int32) (st : Mm) (hf : b_m_undo_69 k69 v1 st = some q) : AW G st 69 [(0, .ref (gad G 58)), (1, .int v1)] [] := by
  unfold b_m_undo_69 at hf
  refine aw_iload_n C 1 1 (j := 1) rfl rfl (by decide +kernel) rfl ?_
  refine aw_bipush C (i0 := 16) (v := 16) (by decide) (by decide +kernel) rfl ?_
  refine aw_icmp_ge C (tgt := 93) (off := 21) (by decide +kernel) (by decide) rfl (fun c1 => ?_) (fun c1 => ?_)
  · have hf := ift c1 hf
    refine aw_sub [(0, .ref (gad G 58))] [0] rfl ?_
    exact t_m_undo_93 C CR0 E hnL hgd hgr hgs _ hf
  · have hf := iff_ c1 hf
    refine aw_aload_n C 0 0 (j := 0) rfl rfl (by decide +kernel) rfl ?_
    refine aw_getr C (k := 5) fc_12 (la_58 E) rfl (by decide) tb_947 (by decide +kernel) rfl ?_
    refine aw_iload_n C 1 1 (j := 1) rfl rfl (by decide +kernel) rfl ?_
    refine aw_aload_n C 0 0 (j := 0) rfl rfl (by decide +kernel) rfl ?_
    refine aw_getr C (k := 62) fc_12 (la_58 E) rfl (by decide) tb_1004 (by decide +kernel) rfl ?_
    refine aw_iload_n C 1 1 (j := 1) rfl rfl (by decide +kernel) rfl ?_
    obtain ⟨g2, hf⟩ := igd hf
    refine aw_iald C (la_88 E) g2 (by decide +kernel) rfl ?_
    obtain ⟨a3, ha3⟩ : ∃ z, z = (st.1 88 v1.toNatClampNeg) := ⟨_, rfl⟩
    refine aw_nmi ha3 ?_
    have hf := ilt ha3 hf
    obtain ⟨g4, hf⟩ := igd hf
    refine aw_iast C (la_60 E) g4 (by decide +kernel) rfl ?_
    obtain ⟨a5, ha5⟩ : ∃ z, z = (v1 + (1 : Int32)) := ⟨_, rfl⟩
    have hf := ilt ha5 hf
    refine aw_iinc C [(1, .int a5), (0, .ref (gad G 58))] 1 (n := 1) rfl (by rw [ha5]; rfl) (by rw [hnL]; decide) rfl (by decide +kernel) rfl ?_
    refine aw_goto C (tgt := 69) (off := -21) (by decide +kernel) (by decide) ?_
    refine aw_sub [(0, .ref (gad G 58)), (1, .int a5)] [1, 0] rfl ?_
    exact hk69 a5 _ hf
theorem u_m_undo_69 {G : Cx} (C : CX G prog_14_method_107_code "PaperStarsModel") (CR0 : CR G (Option.some FieldType.boolean)) (E : LAin (gly G)) (hnL : gnL G = 2) (hgd : 0 ≤ gd G) {q : Int32 × Mm} (hgr : gr G = some (.int q.1)) (hgs : gsf G = q.2) : ∀ (n : Nat) (v1 : Int32) (st : Mm), f_m_undo_69 n v1 st = some q → AW G st 69 [(0, .ref (gad G 58)), (1, .int v1)] [] := by
  intro n
  induction n with
  | zero => intro v1 st hf; cases hf
  | succ n ih => intro v1 st hf; exact t_m_undo_69 C CR0 E hnL hgd hgr hgs (f_m_undo_69 n) ih v1 st hf
theorem t_m_undo_67 {G : Cx} (C : CX G prog_14_method_107_code "PaperStarsModel") (CR0 : CR G (Option.some FieldType.boolean)) (E : LAin (gly G)) (hnL : gnL G = 2) (hgd : 0 ≤ gd G) {q : Int32 × Mm} (hgr : gr G = some (.int q.1)) (hgs : gsf G = q.2) (st : Mm) (hf : b_m_undo_67 st = some q) : AW G st 67 [(0, .ref (gad G 58))] [] := by
  unfold b_m_undo_67 at hf
  refine aw_iconst C (i0 := 0) (v := 0) (by decide) (by decide +kernel) rfl ?_
  refine aw_istore_n C [(1, .int (0 : Int32)), (0, .ref (gad G 58))] (j := 1) rfl (by rw [hnL]; decide) rfl (by decide +kernel) rfl ?_
  refine aw_sub [(0, .ref (gad G 58)), (1, .int (0 : Int32))] [1, 0] rfl ?_
  exact u_m_undo_69 C CR0 E hnL hgd hgr hgs _ (0 : Int32) _ hf
theorem t_m_undo_43 {G : Cx} (C : CX G prog_14_method_107_code "PaperStarsModel") (CR0 : CR G (Option.some FieldType.boolean)) (E : LAin (gly G)) (hnL : gnL G = 2) (hgd : 0 ≤ gd G) {q : Int32 × Mm} (hgr : gr G = some (.int q.1)) (hgs : gsf G = q.2) (k43 : Int32 → Mm → Option (Int32 × Mm)) (hk43 : ∀ (v1 : Int32) (st : Mm), k43 v1 st = some q → AW G st 43 [(0, .ref (gad G 58)), (1, .int v1)] []) (v1 : Int32) (st : Mm) (hf : b_m_undo_43 k43 v1 st = some q) : AW G st 43 [(0, .ref (gad G 58)), (1, .int v1)] [] := by
  unfold b_m_undo_43 at hf
  refine aw_iload_n C 1 1 (j := 1) rfl rfl (by decide +kernel) rfl ?_
  refine aw_bipush C (i0 := 9) (v := 9) (by decide) (by decide +kernel) rfl ?_
  refine aw_icmp_ge C (tgt := 67) (off := 21) (by decide +kernel) (by decide) rfl (fun c1 => ?_) (fun c1 => ?_)
  · have hf := ift c1 hf
    refine aw_sub [(0, .ref (gad G 58))] [0] rfl ?_
    exact t_m_undo_67 C CR0 E hnL hgd hgr hgs _ hf
  · have hf := iff_ c1 hf
    refine aw_aload_n C 0 0 (j := 0) rfl rfl (by decide +kernel) rfl ?_
    refine aw_getr C (k := 4) fc_12 (la_58 E) rfl (by decide) tb_946 (by decide +kernel) rfl ?_
    refine aw_iload_n C 1 1 (j := 1) rfl rfl (by decide +kernel) rfl ?_
    refine aw_aload_n C 0 0 (j := 0) rfl rfl (by decide +kernel) rfl ?_
    refine aw_getr C (k := 61) fc_12 (la_58 E) rfl (by decide) tb_1003 (by decide +kernel) rfl ?_
    refine aw_iload_n C 1 1 (j := 1) rfl rfl (by decide +kernel) rfl ?_
    obtain ⟨g2, hf⟩ := igd hf
    refine aw_iald C (la_87 E) g2 (by decide +kernel) rfl ?_
    obtain ⟨a3, ha3⟩ : ∃ z, z = (st.1 87 v1.toNatClampNeg) := ⟨_, rfl⟩
    refine aw_nmi ha3 ?_
    have hf := ilt ha3 hf
    obtain ⟨g4, hf⟩ := igd hf
    refine aw_iast C (la_59 E) g4 (by decide +kernel) rfl ?_
    obtain ⟨a5, ha5⟩ : ∃ z, z = (v1 + (1 : Int32)) := ⟨_, rfl⟩
    have hf := ilt ha5 hf
    refine aw_iinc C [(1, .int a5), (0, .ref (gad G 58))] 1 (n := 1) rfl (by rw [ha5]; rfl) (by rw [hnL]; decide) rfl (by decide +kernel) rfl ?_
    refine aw_goto C (tgt := 43) (off := -21) (by decide +kernel) (by decide) ?_
    refine aw_sub [(0, .ref (gad G 58)), (1, .int a5)] [1, 0] rfl ?_
    exact hk43 a5 _ hf
theorem u_m_undo_43 {G : Cx} (C : CX G prog_14_method_107_code "PaperStarsModel") (CR0 : CR G (Option.some FieldType.boolean)) (E : LAin (gly G)) (hnL : gnL G = 2) (hgd : 0 ≤ gd G) {q : Int32 × Mm} (hgr : gr G = some (.int q.1)) (hgs : gsf G = q.2) : ∀ (n : Nat) (v1 : Int32) (st : Mm), f_m_undo_43 n v1 st = some q → AW G st 43 [(0, .ref (gad G 58)), (1, .int v1)] [] := by
  intro n
  induction n with
  | zero => intro v1 st hf; cases hf
  | succ n ih => intro v1 st hf; exact t_m_undo_43 C CR0 E hnL hgd hgr hgs (f_m_undo_43 n) ih v1 st hf
theorem t_m_undo {G : Cx} (C : CX G prog_14_method_107_code "PaperStarsModel") (CR0 : CR G (Option.some FieldType.boolean)) (E : LAin (gly G)) (hnL : gnL G = 2) (hgd : 0 ≤ gd G) {q : Int32 × Mm} (hgr : gr G = some (.int q.1)) (hgs : gsf G = q.2) (st : Mm) (hf : f_m_undo st = some q) : AW G st 0 [(0, .ref (gad G 58))] [] := by
  unfold f_m_undo at hf
  refine aw_aload_n C 0 0 (j := 0) rfl rfl (by decide +kernel) rfl ?_
  refine aw_get C (k := 56) fc_12 (la_58 E) rfl (by decide) tb_998 (by decide +kernel) rfl ?_
  refine aw_if_ne C (tgt := 9) (off := 5) (by decide +kernel) (by decide) rfl (fun c1 => ?_) (fun c1 => ?_)
  · have hf := ift c1 hf
    refine aw_iconst C (i0 := 0) (v := 0) (by decide) (by decide +kernel) rfl ?_
    exact aw_zretq C CR0 hgr hgs (by decide) hf (by decide +kernel)
  · have hf := iff_ c1 hf
    refine aw_aload_n C 0 0 (j := 0) rfl rfl (by decide +kernel) rfl ?_
    refine aw_aload_n C 0 0 (j := 0) rfl rfl (by decide +kernel) rfl ?_
    refine aw_get C (k := 57) fc_12 (la_58 E) rfl (by decide) tb_999 (by decide +kernel) rfl ?_
    obtain ⟨a2, ha2⟩ : ∃ z, z = (st.1 58 57) := ⟨_, rfl⟩
    refine aw_nmi ha2 ?_
    have hf := ilt ha2 hf
    refine aw_put C (k := 0) fc_12 (la_58 E) rfl (by decide) rfl rfl tb_942 (by decide +kernel) rfl ?_
    refine aw_aload_n C 0 0 (j := 0) rfl rfl (by decide +kernel) rfl ?_
    refine aw_aload_n C 0 0 (j := 0) rfl rfl (by decide +kernel) rfl ?_
    refine aw_get C (k := 58) fc_12 (la_58 E) rfl (by decide) tb_1000 (by decide +kernel) rfl ?_
    obtain ⟨a3, ha3⟩ : ∃ z, z = ((sI st 58 0 a2).1 58 58) := ⟨_, rfl⟩
    refine aw_nmi ha3 ?_
    have hf := ilt ha3 hf
    refine aw_put C (k := 1) fc_12 (la_58 E) rfl (by decide) rfl rfl tb_943 (by decide +kernel) rfl ?_
    refine aw_aload_n C 0 0 (j := 0) rfl rfl (by decide +kernel) rfl ?_
    refine aw_aload_n C 0 0 (j := 0) rfl rfl (by decide +kernel) rfl ?_
    refine aw_get C (k := 59) fc_12 (la_58 E) rfl (by decide) tb_1001 (by decide +kernel) rfl ?_
    obtain ⟨a4, ha4⟩ : ∃ z, z = ((sI (sI st 58 0 a2) 58 1 a3).1 58 59) := ⟨_, rfl⟩
    refine aw_nmi ha4 ?_
    have hf := ilt ha4 hf
    refine aw_put C (k := 2) fc_12 (la_58 E) rfl (by decide) rfl rfl tb_944 (by decide +kernel) rfl ?_
    refine aw_aload_n C 0 0 (j := 0) rfl rfl (by decide +kernel) rfl ?_
    refine aw_aload_n C 0 0 (j := 0) rfl rfl (by decide +kernel) rfl ?_
    refine aw_get C (k := 60) fc_12 (la_58 E) rfl (by decide) tb_1002 (by decide +kernel) rfl ?_
    obtain ⟨a5, ha5⟩ : ∃ z, z = ((sI (sI (sI st 58 0 a2) 58 1 a3) 58 2 a4).1 58 60) := ⟨_, rfl⟩
    refine aw_nmi ha5 ?_
    have hf := ilt ha5 hf
    refine aw_put C (k := 3) fc_12 (la_58 E) rfl (by decide) rfl rfl tb_945 (by decide +kernel) rfl ?_
    refine aw_iconst C (i0 := 0) (v := 0) (by decide) (by decide +kernel) rfl ?_
    refine aw_istore_n C [(1, .int (0 : Int32)), (0, .ref (gad G 58))] (j := 1) rfl (by rw [hnL]; decide) rfl (by decide +kernel) rfl ?_
    refine aw_sub [(0, .ref (gad G 58)), (1, .int (0 : Int32))] [1, 0] rfl ?_
    exact u_m_undo_43 C CR0 E hnL hgd hgr hgs _ (0 : Int32) _ hf
theorem c_m_undo {lay : Ly} (E : LAin lay) (st : Mm) (q : Int32 × Mm) (hf : f_m_undo st = some q) : Con 0 Y244 prog_14_method_107_code 2 (Option.some FieldType.boolean) lay (fun ad => [.ref (ad 58)]) st (some (.int q.1)) q.2 :=
  am_met yf_244.2.2.2.2.2 (fun ad => Nat.le_of_ble_eq_true rfl) (fun G C CR0 e1 e2 e3 e4 e5 => t_m_undo C CR0 (by rw [e1]; exact E) e2 (Nat.le_of_eq e5.symm) e3 e4 st hf)
def b_m_tapeNumber_6 (k6 : Int32 → Int32 → Int32 → Mm → Option (Int32 × Mm)) (v1 : Int32) (v2 : Int32) (v3 : Int32) (st : Mm) : Option (Int32 × Mm) :=
  if (((4 : Int32) * v1) + (4 : Int32)) ≤ v3 then (some (v2, st)) else (if inb v3 200 then lt_ ((v2 <<< ((8 : Int32) &&& 31)) ||| ((st.1 65 v3.toNatClampNeg) &&& (255 : Int32))) (fun a3 => lt_ (v3 + (1 : Int32)) (fun a4 => k6 v1 a3 a4 st)) else none)
def f_m_tapeNumber_6 : Nat → Int32 → Int32 → Int32 → Mm → Option (Int32 × Mm)
  | 0 => fun _ _ _ _ => none
  | n + 1 => b_m_tapeNumber_6 (f_m_tapeNumber_6 n)
def f_m_tapeNumber (v1 : Int32) (st : Mm) : Option (Int32 × Mm) :=
  lt_ ((4 : Int32) * v1) (fun a1 => f_m_tapeNumber_6 1000000 v1 (0 : Int32) a1 st)
theorem t_m_tapeNumber_6 {G : Cx} (C : CX G prog_14_method_108_code "PaperStarsModel") (CR0 : CR G (Option.some FieldType.int)) (E : LAin (gly G)) (hnL : gnL G = 4) (hgd : 0 ≤ gd G) {q : Int32 × Mm} (hgr : gr G = some (.int q.1)) (hgs : gsf G = q.2) (k6 : Int32 → Int32 → Int32 → Mm → Option (Int32 × Mm)) (hk6 : ∀ (v1 : Int32) (v2 : Int32) (v3 : Int32) (st : Mm), k6 v1 v2 v3 st = some q → AW G st 6 [(0, .ref (gad G 58)), (1, .int v1), (2, .int v2), (3, .int v3)] []) (v1 : Int32) (v2 : Int32) (v3 : Int32) (st : Mm) (hf : b_m_tapeNumber_6 k6 v1 v2 v3 st = some q) : AW G st 6 [(0, .ref (gad G 58)), (1, .int v1), (2, .int v2), (3, .int v3)] [] := by
  unfold b_m_tapeNumber_6 at hf
  refine aw_iload_n C 3 3 (j := 3) rfl rfl (by decide +kernel) rfl ?_
  refine aw_iconst C (i0 := 4) (v := 4) (by decide) (by decide +kernel) rfl ?_
  refine aw_iload_n C 1 1 (j := 1) rfl rfl (by decide +kernel) rfl ?_
  refine aw_imul C (by decide +kernel) rfl ?_
  refine aw_iconst C (i0 := 4) (v := 4) (by decide) (by decide +kernel) rfl ?_
  refine aw_iadd C (by decide +kernel) rfl ?_
  refine aw_icmp_ge C (tgt := 37) (off := 25) (by decide +kernel) (by decide) rfl (fun c1 => ?_) (fun c1 => ?_)
  · have hf := ift c1 hf
    refine aw_iload_n C 2 2 (j := 2) rfl rfl (by decide +kernel) rfl ?_
    exact aw_iretq C CR0 hgr hgs hf (by decide +kernel)
  · have hf := iff_ c1 hf
    refine aw_iload_n C 2 2 (j := 2) rfl rfl (by decide +kernel) rfl ?_
    refine aw_bipush C (i0 := 8) (v := 8) (by decide) (by decide +kernel) rfl ?_
    refine aw_ishl C (by decide +kernel) rfl ?_
    refine aw_aload_n C 0 0 (j := 0) rfl rfl (by decide +kernel) rfl ?_
    refine aw_getr C (k := 18) fc_12 (la_58 E) rfl (by decide) tb_960 (by decide +kernel) rfl ?_
    refine aw_iload_n C 3 3 (j := 3) rfl rfl (by decide +kernel) rfl ?_
    obtain ⟨g2, hf⟩ := igd hf
    refine aw_bald C (la_65 E) g2 (by decide +kernel) rfl ?_
    refine aw_sipush C (i0 := 255) (v := 255) (by decide) (by decide +kernel) rfl ?_
    refine aw_iand C (by decide +kernel) rfl ?_
    refine aw_ior C (by decide +kernel) rfl ?_
    obtain ⟨a3, ha3⟩ : ∃ z, z = ((v2 <<< ((8 : Int32) &&& 31)) ||| ((st.1 65 v3.toNatClampNeg) &&& (255 : Int32))) := ⟨_, rfl⟩
    refine aw_nmi ha3 ?_
    have hf := ilt ha3 hf
    refine aw_istore_n C [(2, .int a3), (0, .ref (gad G 58)), (1, .int v1), (3, .int v3)] (j := 2) rfl (by rw [hnL]; decide) rfl (by decide +kernel) rfl ?_
    obtain ⟨a4, ha4⟩ : ∃ z, z = (v3 + (1 : Int32)) := ⟨_, rfl⟩
    have hf := ilt ha4 hf
    refine aw_iinc C [(3, .int a4), (2, .int a3), (0, .ref (gad G 58)), (1, .int v1)] 3 (n := 1) rfl (by rw [ha4]; rfl) (by rw [hnL]; decide) rfl (by decide +kernel) rfl ?_
    refine aw_goto C (tgt := 6) (off := -28) (by decide +kernel) (by decide) ?_
    refine aw_sub [(0, .ref (gad G 58)), (1, .int v1), (2, .int a3), (3, .int a4)] [2, 3, 1, 0] rfl ?_
    exact hk6 v1 a3 a4 _ hf
theorem u_m_tapeNumber_6 {G : Cx} (C : CX G prog_14_method_108_code "PaperStarsModel") (CR0 : CR G (Option.some FieldType.int)) (E : LAin (gly G)) (hnL : gnL G = 4) (hgd : 0 ≤ gd G) {q : Int32 × Mm} (hgr : gr G = some (.int q.1)) (hgs : gsf G = q.2) : ∀ (n : Nat) (v1 : Int32) (v2 : Int32) (v3 : Int32) (st : Mm), f_m_tapeNumber_6 n v1 v2 v3 st = some q → AW G st 6 [(0, .ref (gad G 58)), (1, .int v1), (2, .int v2), (3, .int v3)] [] := by
  intro n
  induction n with
  | zero => intro v1 v2 v3 st hf; cases hf
  | succ n ih => intro v1 v2 v3 st hf; exact t_m_tapeNumber_6 C CR0 E hnL hgd hgr hgs (f_m_tapeNumber_6 n) ih v1 v2 v3 st hf
theorem t_m_tapeNumber {G : Cx} (C : CX G prog_14_method_108_code "PaperStarsModel") (CR0 : CR G (Option.some FieldType.int)) (E : LAin (gly G)) (hnL : gnL G = 4) (hgd : 0 ≤ gd G) {q : Int32 × Mm} (hgr : gr G = some (.int q.1)) (hgs : gsf G = q.2) (v1 : Int32) (st : Mm) (hf : f_m_tapeNumber v1 st = some q) : AW G st 0 [(0, .ref (gad G 58)), (1, .int v1)] [] := by
  unfold f_m_tapeNumber at hf
  refine aw_iconst C (i0 := 0) (v := 0) (by decide) (by decide +kernel) rfl ?_
  refine aw_istore_n C [(2, .int (0 : Int32)), (0, .ref (gad G 58)), (1, .int v1)] (j := 2) rfl (by rw [hnL]; decide) rfl (by decide +kernel) rfl ?_
  refine aw_iconst C (i0 := 4) (v := 4) (by decide) (by decide +kernel) rfl ?_
  refine aw_iload_n C 1 2 (j := 1) rfl rfl (by decide +kernel) rfl ?_
  refine aw_imul C (by decide +kernel) rfl ?_
  obtain ⟨a1, ha1⟩ : ∃ z, z = ((4 : Int32) * v1) := ⟨_, rfl⟩
  refine aw_nmi ha1 ?_
  have hf := ilt ha1 hf
  refine aw_istore_n C [(3, .int a1), (2, .int (0 : Int32)), (0, .ref (gad G 58)), (1, .int v1)] (j := 3) rfl (by rw [hnL]; decide) rfl (by decide +kernel) rfl ?_
  refine aw_sub [(0, .ref (gad G 58)), (1, .int v1), (2, .int (0 : Int32)), (3, .int a1)] [2, 3, 1, 0] rfl ?_
  exact u_m_tapeNumber_6 C CR0 E hnL hgd hgr hgs _ v1 (0 : Int32) a1 _ hf
theorem c_m_tapeNumber {lay : Ly} (E : LAin lay) (v1 : Int32) (st : Mm) (q : Int32 × Mm) (hf : f_m_tapeNumber v1 st = some q) : Con 0 Y246 prog_14_method_108_code 4 (Option.some FieldType.int) lay (fun ad => [.ref (ad 58), .int v1]) st (some (.int q.1)) q.2 :=
  am_met yf_246.2.2.2.2.2 (fun ad => Nat.le_of_ble_eq_true rfl) (fun G C CR0 e1 e2 e3 e4 e5 => t_m_tapeNumber C CR0 (by rw [e1]; exact E) e2 (Nat.le_of_eq e5.symm) e3 e4 v1 st hf)
def b_m_check_86 (k49 : Int32 → Int32 → Int32 → Mm → Option (Int32 × Mm)) (v1 : Int32) (v2 : Int32) (v3 : Int32) (s0 : Int32) (s1 : Int32) (st : Mm) : Option (Int32 × Mm) :=
  if s0 = s1 then (lt_ (v3 + (1 : Int32)) (fun a2 => k49 v1 v2 a2 st)) else (some (v3, st))
def b_m_check_49 (k49 : Int32 → Int32 → Int32 → Mm → Option (Int32 × Mm)) (v1 : Int32) (v2 : Int32) (v3 : Int32) (st : Mm) : Option (Int32 × Mm) :=
  if v2 ≤ v3 then (some ((-1 : Int32), st)) else (if v3 = (st.1 58 0) then (some (v3, st)) else ((f_m_tapeNumber v3 st).bind (fun q3 => if inb (((16 : Int32) * v1) + v3) 256 then if (q3.2.1 72 (((16 : Int32) * v1) + v3).toNatClampNeg) = 0 then (b_m_check_86 k49 v1 v2 v3 q3.1 (0 : Int32) q3.2) else (b_m_check_86 k49 v1 v2 v3 q3.1 (1 : Int32) q3.2) else none)))
def f_m_check_49 : Nat → Int32 → Int32 → Int32 → Mm → Option (Int32 × Mm)
  | 0 => fun _ _ _ _ => none
  | n + 1 => b_m_check_49 (f_m_check_49 n)
def f_m_check (v1 : Int32) (v2 : Int32) (st : Mm) : Option (Int32 × Mm) :=
  (f_m_in v1 (0 : Int32) ((st.1 58 0) - (1 : Int32)) st).bind (fun q1 => if q1.1 = 0 then (some ((-2 : Int32), q1.2)) else ((f_m_in v2 (0 : Int32) (16 : Int32) q1.2).bind (fun q3 => if q3.1 = 0 then (some ((-2 : Int32), q3.2)) else (if v2 ≤ ((q3.2.1 58 19) / (4 : Int32)) then ((f_m_opens0 (0 : Int32) (sI q3.2 58 19 (0 : Int32))).bind (fun q6 => f_m_check_49 1000000 v1 v2 (0 : Int32) q6.2)) else (some ((-2 : Int32), q3.2))))))
theorem t_m_check_86 {G : Cx} (C : CX G prog_14_method_109_code "PaperStarsModel") (CR0 : CR G (Option.some FieldType.int)) (E : LAin (gly G)) (hnL : gnL G = 4) (hgd : 4 ≤ gd G) {q : Int32 × Mm} (hgr : gr G = some (.int q.1)) (hgs : gsf G = q.2) (k49 : Int32 → Int32 → Int32 → Mm → Option (Int32 × Mm)) (hk49 : ∀ (v1 : Int32) (v2 : Int32) (v3 : Int32) (st : Mm), k49 v1 v2 v3 st = some q → AW G st 49 [(0, .ref (gad G 58)), (1, .int v1), (2, .int v2), (3, .int v3)] []) (v1 : Int32) (v2 : Int32) (v3 : Int32) (s0 : Int32) (s1 : Int32) (st : Mm) (hf : b_m_check_86 k49 v1 v2 v3 s0 s1 st = some q) : AW G st 86 [(0, .ref (gad G 58)), (1, .int v1), (2, .int v2), (3, .int v3)] [.int s1, .int s0] := by
  unfold b_m_check_86 at hf
  refine aw_icmp_eq C (tgt := 91) (off := 5) (by decide +kernel) (by decide) rfl (fun c1 => ?_) (fun c1 => ?_)
  · have hf := ift c1 hf
    obtain ⟨a2, ha2⟩ : ∃ z, z = (v3 + (1 : Int32)) := ⟨_, rfl⟩
    have hf := ilt ha2 hf
    refine aw_iinc C [(3, .int a2), (0, .ref (gad G 58)), (1, .int v1), (2, .int v2)] 3 (n := 1) rfl (by rw [ha2]; rfl) (by rw [hnL]; decide) rfl (by decide +kernel) rfl ?_
    refine aw_goto C (tgt := 49) (off := -45) (by decide +kernel) (by decide) ?_
    refine aw_sub [(0, .ref (gad G 58)), (1, .int v1), (2, .int v2), (3, .int a2)] [1, 2, 3, 0] rfl ?_
    exact hk49 v1 v2 a2 _ hf
  · have hf := iff_ c1 hf
    refine aw_iload_n C 3 3 (j := 3) rfl rfl (by decide +kernel) rfl ?_
    exact aw_iretq C CR0 hgr hgs hf (by decide +kernel)
theorem t_m_check_49 {G : Cx} (C : CX G prog_14_method_109_code "PaperStarsModel") (CR0 : CR G (Option.some FieldType.int)) (E : LAin (gly G)) (hnL : gnL G = 4) (hgd : 4 ≤ gd G) {q : Int32 × Mm} (hgr : gr G = some (.int q.1)) (hgs : gsf G = q.2) (k49 : Int32 → Int32 → Int32 → Mm → Option (Int32 × Mm)) (hk49 : ∀ (v1 : Int32) (v2 : Int32) (v3 : Int32) (st : Mm), k49 v1 v2 v3 st = some q → AW G st 49 [(0, .ref (gad G 58)), (1, .int v1), (2, .int v2), (3, .int v3)] []) (v1 : Int32) (v2 : Int32) (v3 : Int32) (st : Mm) (hf : b_m_check_49 k49 v1 v2 v3 st = some q) : AW G st 49 [(0, .ref (gad G 58)), (1, .int v1), (2, .int v2), (3, .int v3)] [] := by
  unfold b_m_check_49 at hf
  refine aw_iload_n C 3 3 (j := 3) rfl rfl (by decide +kernel) rfl ?_
  refine aw_iload_n C 2 2 (j := 2) rfl rfl (by decide +kernel) rfl ?_
  refine aw_icmp_ge C (tgt := 97) (off := 46) (by decide +kernel) (by decide) rfl (fun c1 => ?_) (fun c1 => ?_)
  · have hf := ift c1 hf
    refine aw_iconst C (i0 := -1) (v := -1) (by decide) (by decide +kernel) rfl ?_
    exact aw_iretq C CR0 hgr hgs hf (by decide +kernel)
  · have hf := iff_ c1 hf
    refine aw_iload_n C 3 3 (j := 3) rfl rfl (by decide +kernel) rfl ?_
    refine aw_aload_n C 0 0 (j := 0) rfl rfl (by decide +kernel) rfl ?_
    refine aw_get C (k := 0) fc_12 (la_58 E) rfl (by decide) tb_942 (by decide +kernel) rfl ?_
    refine aw_icmp_eq C (tgt := 89) (off := 30) (by decide +kernel) (by decide) rfl (fun c2 => ?_) (fun c2 => ?_)
    · have hf := ift c2 hf
      refine aw_iload_n C 3 3 (j := 3) rfl rfl (by decide +kernel) rfl ?_
      exact aw_iretq C CR0 hgr hgs hf (by decide +kernel)
    · have hf := iff_ c2 hf
      refine aw_aload_n C 0 0 (j := 0) rfl rfl (by decide +kernel) rfl ?_
      refine aw_iload_n C 3 3 (j := 3) rfl rfl (by decide +kernel) rfl ?_
      obtain ⟨q3, hq3, hf⟩ := ibd hf
      refine aw_callV C (rest := []) (c_m_tapeNumber E v3 _ q3 hq3) tb_1557 yf_246 yi_246 (la_58 E) [.int v3] rfl rfl _ rfl (Nat.le_trans (by decide) hgd) (Nat.le_of_ble_eq_true rfl) (by decide +kernel) rfl ?_
      show AW _ _ _ _ [.int q3.1]
      refine aw_aload_n C 0 0 (j := 0) rfl rfl (by decide +kernel) rfl ?_
      refine aw_getr C (k := 36) fc_12 (la_58 E) rfl (by decide) tb_978 (by decide +kernel) rfl ?_
      refine aw_bipush C (i0 := 16) (v := 16) (by decide) (by decide +kernel) rfl ?_
      refine aw_iload_n C 1 1 (j := 1) rfl rfl (by decide +kernel) rfl ?_
      refine aw_imul C (by decide +kernel) rfl ?_
      refine aw_iload_n C 3 3 (j := 3) rfl rfl (by decide +kernel) rfl ?_
      refine aw_iadd C (by decide +kernel) rfl ?_
      obtain ⟨g4, hf⟩ := igd hf
      refine aw_zald C (la_72 E) g4 (by decide +kernel) rfl ?_
      refine aw_if_eq C (tgt := 85) (off := 7) (by decide +kernel) (by decide) rfl (fun c5 => ?_) (fun c5 => ?_)
      · have hf := ift c5 hf
        refine aw_iconst C (i0 := 0) (v := 0) (by decide) (by decide +kernel) rfl ?_
        exact t_m_check_86 C CR0 E hnL hgd hgr hgs k49 hk49 v1 v2 v3 q3.1 (0 : Int32) _ hf
      · have hf := iff_ c5 hf
        refine aw_iconst C (i0 := 1) (v := 1) (by decide) (by decide +kernel) rfl ?_
        refine aw_goto C (tgt := 86) (off := 4) (by decide +kernel) (by decide) ?_
        exact t_m_check_86 C CR0 E hnL hgd hgr hgs k49 hk49 v1 v2 v3 q3.1 (1 : Int32) _ hf
theorem u_m_check_49 {G : Cx} (C : CX G prog_14_method_109_code "PaperStarsModel") (CR0 : CR G (Option.some FieldType.int)) (E : LAin (gly G)) (hnL : gnL G = 4) (hgd : 4 ≤ gd G) {q : Int32 × Mm} (hgr : gr G = some (.int q.1)) (hgs : gsf G = q.2) : ∀ (n : Nat) (v1 : Int32) (v2 : Int32) (v3 : Int32) (st : Mm), f_m_check_49 n v1 v2 v3 st = some q → AW G st 49 [(0, .ref (gad G 58)), (1, .int v1), (2, .int v2), (3, .int v3)] [] := by
  intro n
  induction n with
  | zero => intro v1 v2 v3 st hf; cases hf
  | succ n ih => intro v1 v2 v3 st hf; exact t_m_check_49 C CR0 E hnL hgd hgr hgs (f_m_check_49 n) ih v1 v2 v3 st hf
theorem t_m_check {G : Cx} (C : CX G prog_14_method_109_code "PaperStarsModel") (CR0 : CR G (Option.some FieldType.int)) (E : LAin (gly G)) (hnL : gnL G = 4) (hgd : 4 ≤ gd G) {q : Int32 × Mm} (hgr : gr G = some (.int q.1)) (hgs : gsf G = q.2) (v1 : Int32) (v2 : Int32) (st : Mm) (hf : f_m_check v1 v2 st = some q) : AW G st 0 [(0, .ref (gad G 58)), (1, .int v1), (2, .int v2)] [] := by
  unfold f_m_check at hf
  refine aw_iload_n C 1 1 (j := 1) rfl rfl (by decide +kernel) rfl ?_
  refine aw_iconst C (i0 := 0) (v := 0) (by decide) (by decide +kernel) rfl ?_
  refine aw_aload_n C 0 0 (j := 0) rfl rfl (by decide +kernel) rfl ?_
  refine aw_get C (k := 0) fc_12 (la_58 E) rfl (by decide) tb_942 (by decide +kernel) rfl ?_
  refine aw_iconst C (i0 := 1) (v := 1) (by decide) (by decide +kernel) rfl ?_
  refine aw_isub C (by decide +kernel) rfl ?_
  obtain ⟨q1, hq1, hf⟩ := ibd hf
  refine aw_callS C (rest := []) (c_m_in E v1 (0 : Int32) ((st.1 58 0) - (1 : Int32)) _ q1 hq1) tb_1144 yf_142 tb_1145 rfl _ rfl (Nat.le_trans (by decide) hgd) (Nat.le_of_ble_eq_true rfl) (by decide +kernel) rfl ?_
  show AW _ _ _ _ [.int q1.1]
  refine aw_if_eq C (tgt := 34) (off := 23) (by decide +kernel) (by decide) rfl (fun c2 => ?_) (fun c2 => ?_)
  · have hf := ift c2 hf
    refine aw_bipush C (i0 := -2) (v := -2) (by decide) (by decide +kernel) rfl ?_
    exact aw_iretq C CR0 hgr hgs hf (by decide +kernel)
  · have hf := iff_ c2 hf
    refine aw_iload_n C 2 2 (j := 2) rfl rfl (by decide +kernel) rfl ?_
    refine aw_iconst C (i0 := 0) (v := 0) (by decide) (by decide +kernel) rfl ?_
    refine aw_bipush C (i0 := 16) (v := 16) (by decide) (by decide +kernel) rfl ?_
    obtain ⟨q3, hq3, hf⟩ := ibd hf
    refine aw_callS C (rest := []) (c_m_in E v2 (0 : Int32) (16 : Int32) _ q3 hq3) tb_1144 yf_142 tb_1145 rfl _ rfl (Nat.le_trans (by decide) hgd) (Nat.le_of_ble_eq_true rfl) (by decide +kernel) rfl ?_
    show AW _ _ _ _ [.int q3.1]
    refine aw_if_eq C (tgt := 34) (off := 13) (by decide +kernel) (by decide) rfl (fun c4 => ?_) (fun c4 => ?_)
    · have hf := ift c4 hf
      refine aw_bipush C (i0 := -2) (v := -2) (by decide) (by decide +kernel) rfl ?_
      exact aw_iretq C CR0 hgr hgs hf (by decide +kernel)
    · have hf := iff_ c4 hf
      refine aw_iload_n C 2 2 (j := 2) rfl rfl (by decide +kernel) rfl ?_
      refine aw_aload_n C 0 0 (j := 0) rfl rfl (by decide +kernel) rfl ?_
      refine aw_get C (k := 19) fc_12 (la_58 E) rfl (by decide) tb_961 (by decide +kernel) rfl ?_
      refine aw_iconst C (i0 := 4) (v := 4) (by decide) (by decide +kernel) rfl ?_
      refine aw_idiv C (by decide) (by decide +kernel) rfl ?_
      refine aw_icmp_le C (tgt := 37) (off := 6) (by decide +kernel) (by decide) rfl (fun c5 => ?_) (fun c5 => ?_)
      · have hf := ift c5 hf
        refine aw_aload_n C 0 0 (j := 0) rfl rfl (by decide +kernel) rfl ?_
        refine aw_iconst C (i0 := 0) (v := 0) (by decide) (by decide +kernel) rfl ?_
        refine aw_put C (k := 19) fc_12 (la_58 E) rfl (by decide) rfl rfl tb_961 (by decide +kernel) rfl ?_
        refine aw_aload_n C 0 0 (j := 0) rfl rfl (by decide +kernel) rfl ?_
        refine aw_iconst C (i0 := 0) (v := 0) (by decide) (by decide +kernel) rfl ?_
        obtain ⟨q6, hq6, hf⟩ := ibd hf
        refine aw_callV C (rest := []) (c_m_opens0 E (0 : Int32) _ q6 hq6) tb_1332 yf_190 yi_190 (la_58 E) [.int (0 : Int32)] rfl rfl _ rfl (Nat.le_trans (by decide) hgd) (Nat.le_of_ble_eq_true rfl) (by decide +kernel) rfl ?_
        show AW _ _ _ _ []
        refine aw_iconst C (i0 := 0) (v := 0) (by decide) (by decide +kernel) rfl ?_
        refine aw_istore_n C [(3, .int (0 : Int32)), (0, .ref (gad G 58)), (1, .int v1), (2, .int v2)] (j := 3) rfl (by rw [hnL]; decide) rfl (by decide +kernel) rfl ?_
        refine aw_sub [(0, .ref (gad G 58)), (1, .int v1), (2, .int v2), (3, .int (0 : Int32))] [1, 2, 3, 0] rfl ?_
        exact u_m_check_49 C CR0 E hnL hgd hgr hgs _ v1 v2 (0 : Int32) _ hf
      · have hf := iff_ c5 hf
        refine aw_bipush C (i0 := -2) (v := -2) (by decide) (by decide +kernel) rfl ?_
        exact aw_iretq C CR0 hgr hgs hf (by decide +kernel)
theorem c_m_check {lay : Ly} (E : LAin lay) (v1 : Int32) (v2 : Int32) (st : Mm) (q : Int32 × Mm) (hf : f_m_check v1 v2 st = some q) : Con 4 Y245 prog_14_method_109_code 4 (Option.some FieldType.int) lay (fun ad => [.ref (ad 58), .int v1, .int v2]) st (some (.int q.1)) q.2 :=
  am_met yf_245.2.2.2.2.2 (fun ad => Nat.le_of_ble_eq_true rfl) (fun G C CR0 e1 e2 e3 e4 e5 => t_m_check C CR0 (by rw [e1]; exact E) e2 (Nat.le_of_eq e5.symm) e3 e4 v1 v2 st hf)
def b_m_deerMany_4 (k4 : Int32 → Int32 → Mm → Option (Int32 × Mm)) (v1 : Int32) (v2 : Int32) (st : Mm) : Option (Int32 × Mm) :=
  if (256 : Int32) ≤ v2 then (some (v1, st)) else (if inb v2 256 then if (st.1 62 v2.toNatClampNeg) = 0 then (lt_ (v1 + (0 : Int32)) (fun a4 => lt_ (v2 + (1 : Int32)) (fun a5 => k4 a4 a5 st))) else (lt_ (v1 + (1 : Int32)) (fun a6 => lt_ (v2 + (1 : Int32)) (fun a7 => k4 a6 a7 st))) else none)
def f_m_deerMany_4 : Nat → Int32 → Int32 → Mm → Option (Int32 × Mm)
  | 0 => fun _ _ _ => none
  | n + 1 => b_m_deerMany_4 (f_m_deerMany_4 n)
def f_m_deerMany (st : Mm) : Option (Int32 × Mm) :=
  f_m_deerMany_4 1000000 (0 : Int32) (0 : Int32) st
theorem t_m_deerMany_4 {G : Cx} (C : CX G prog_14_method_110_code "PaperStarsModel") (CR0 : CR G (Option.some FieldType.int)) (E : LAin (gly G)) (hnL : gnL G = 3) (hgd : 0 ≤ gd G) {q : Int32 × Mm} (hgr : gr G = some (.int q.1)) (hgs : gsf G = q.2) (k4 : Int32 → Int32 → Mm → Option (Int32 × Mm)) (hk4 : ∀ (v1 : Int32) (v2 : Int32) (st : Mm), k4 v1 v2 st = some q → AW G st 4 [(0, .ref (gad G 58)), (1, .int v1), (2, .int v2)] []) (v1 : Int32) (v2 : Int32) (st : Mm) (hf : b_m_deerMany_4 k4 v1 v2 st = some q) : AW G st 4 [(0, .ref (gad G 58)), (1, .int v1), (2, .int v2)] [] := by
  unfold b_m_deerMany_4 at hf
  refine aw_iload_n C 2 2 (j := 2) rfl rfl (by decide +kernel) rfl ?_
  refine aw_sipush C (i0 := 256) (v := 256) (by decide) (by decide +kernel) rfl ?_
  refine aw_icmp_ge C (tgt := 34) (off := 26) (by decide +kernel) (by decide) rfl (fun c1 => ?_) (fun c1 => ?_)
  · have hf := ift c1 hf
    refine aw_iload_n C 1 1 (j := 1) rfl rfl (by decide +kernel) rfl ?_
    exact aw_iretq C CR0 hgr hgs hf (by decide +kernel)
  · have hf := iff_ c1 hf
    refine aw_iload_n C 1 1 (j := 1) rfl rfl (by decide +kernel) rfl ?_
    refine aw_aload_n C 0 0 (j := 0) rfl rfl (by decide +kernel) rfl ?_
    refine aw_getr C (k := 7) fc_12 (la_58 E) rfl (by decide) tb_949 (by decide +kernel) rfl ?_
    refine aw_iload_n C 2 2 (j := 2) rfl rfl (by decide +kernel) rfl ?_
    obtain ⟨g2, hf⟩ := igd hf
    refine aw_zald C (la_62 E) g2 (by decide +kernel) rfl ?_
    refine aw_if_eq C (tgt := 25) (off := 7) (by decide +kernel) (by decide) rfl (fun c3 => ?_) (fun c3 => ?_)
    · have hf := ift c3 hf
      refine aw_iconst C (i0 := 0) (v := 0) (by decide) (by decide +kernel) rfl ?_
      refine aw_iadd C (by decide +kernel) rfl ?_
      obtain ⟨a4, ha4⟩ : ∃ z, z = (v1 + (0 : Int32)) := ⟨_, rfl⟩
      refine aw_nmi ha4 ?_
      have hf := ilt ha4 hf
      refine aw_istore_n C [(1, .int a4), (0, .ref (gad G 58)), (2, .int v2)] (j := 1) rfl (by rw [hnL]; decide) rfl (by decide +kernel) rfl ?_
      obtain ⟨a5, ha5⟩ : ∃ z, z = (v2 + (1 : Int32)) := ⟨_, rfl⟩
      have hf := ilt ha5 hf
      refine aw_iinc C [(2, .int a5), (1, .int a4), (0, .ref (gad G 58))] 2 (n := 1) rfl (by rw [ha5]; rfl) (by rw [hnL]; decide) rfl (by decide +kernel) rfl ?_
      refine aw_goto C (tgt := 4) (off := -27) (by decide +kernel) (by decide) ?_
      refine aw_sub [(0, .ref (gad G 58)), (1, .int a4), (2, .int a5)] [2, 1, 0] rfl ?_
      exact hk4 a4 a5 _ hf
    · have hf := iff_ c3 hf
      refine aw_iconst C (i0 := 1) (v := 1) (by decide) (by decide +kernel) rfl ?_
      refine aw_goto C (tgt := 26) (off := 4) (by decide +kernel) (by decide) ?_
      refine aw_iadd C (by decide +kernel) rfl ?_
      obtain ⟨a6, ha6⟩ : ∃ z, z = (v1 + (1 : Int32)) := ⟨_, rfl⟩
      refine aw_nmi ha6 ?_
      have hf := ilt ha6 hf
      refine aw_istore_n C [(1, .int a6), (0, .ref (gad G 58)), (2, .int v2)] (j := 1) rfl (by rw [hnL]; decide) rfl (by decide +kernel) rfl ?_
      obtain ⟨a7, ha7⟩ : ∃ z, z = (v2 + (1 : Int32)) := ⟨_, rfl⟩
      have hf := ilt ha7 hf
      refine aw_iinc C [(2, .int a7), (1, .int a6), (0, .ref (gad G 58))] 2 (n := 1) rfl (by rw [ha7]; rfl) (by rw [hnL]; decide) rfl (by decide +kernel) rfl ?_
      refine aw_goto C (tgt := 4) (off := -27) (by decide +kernel) (by decide) ?_
      refine aw_sub [(0, .ref (gad G 58)), (1, .int a6), (2, .int a7)] [2, 1, 0] rfl ?_
      exact hk4 a6 a7 _ hf
theorem u_m_deerMany_4 {G : Cx} (C : CX G prog_14_method_110_code "PaperStarsModel") (CR0 : CR G (Option.some FieldType.int)) (E : LAin (gly G)) (hnL : gnL G = 3) (hgd : 0 ≤ gd G) {q : Int32 × Mm} (hgr : gr G = some (.int q.1)) (hgs : gsf G = q.2) : ∀ (n : Nat) (v1 : Int32) (v2 : Int32) (st : Mm), f_m_deerMany_4 n v1 v2 st = some q → AW G st 4 [(0, .ref (gad G 58)), (1, .int v1), (2, .int v2)] [] := by
  intro n
  induction n with
  | zero => intro v1 v2 st hf; cases hf
  | succ n ih => intro v1 v2 st hf; exact t_m_deerMany_4 C CR0 E hnL hgd hgr hgs (f_m_deerMany_4 n) ih v1 v2 st hf
theorem t_m_deerMany {G : Cx} (C : CX G prog_14_method_110_code "PaperStarsModel") (CR0 : CR G (Option.some FieldType.int)) (E : LAin (gly G)) (hnL : gnL G = 3) (hgd : 0 ≤ gd G) {q : Int32 × Mm} (hgr : gr G = some (.int q.1)) (hgs : gsf G = q.2) (st : Mm) (hf : f_m_deerMany st = some q) : AW G st 0 [(0, .ref (gad G 58))] [] := by
  unfold f_m_deerMany at hf
  refine aw_iconst C (i0 := 0) (v := 0) (by decide) (by decide +kernel) rfl ?_
  refine aw_istore_n C [(1, .int (0 : Int32)), (0, .ref (gad G 58))] (j := 1) rfl (by rw [hnL]; decide) rfl (by decide +kernel) rfl ?_
  refine aw_iconst C (i0 := 0) (v := 0) (by decide) (by decide +kernel) rfl ?_
  refine aw_istore_n C [(2, .int (0 : Int32)), (1, .int (0 : Int32)), (0, .ref (gad G 58))] (j := 2) rfl (by rw [hnL]; decide) rfl (by decide +kernel) rfl ?_
  refine aw_sub [(0, .ref (gad G 58)), (1, .int (0 : Int32)), (2, .int (0 : Int32))] [2, 1, 0] rfl ?_
  exact u_m_deerMany_4 C CR0 E hnL hgd hgr hgs _ (0 : Int32) (0 : Int32) _ hf
theorem c_m_deerMany {lay : Ly} (E : LAin lay) (st : Mm) (q : Int32 × Mm) (hf : f_m_deerMany st = some q) : Con 0 Y248 prog_14_method_110_code 3 (Option.some FieldType.int) lay (fun ad => [.ref (ad 58)]) st (some (.int q.1)) q.2 :=
  am_met yf_248.2.2.2.2.2 (fun ad => Nat.le_of_ble_eq_true rfl) (fun G C CR0 e1 e2 e3 e4 e5 => t_m_deerMany C CR0 (by rw [e1]; exact E) e2 (Nat.le_of_eq e5.symm) e3 e4 st hf)
def b_m_bits_4 (k4 : Int32 → Int32 → Int32 → Mm → Option (Int32 × Mm)) (v0 : Int32) (v1 : Int32) (v2 : Int32) (st : Mm) : Option (Int32 × Mm) :=
  if (16 : Int32) ≤ v2 then (some (v1, st)) else (lt_ (v1 + ((v0 >>> (v2 &&& 31)) &&& (1 : Int32))) (fun a2 => lt_ (v2 + (1 : Int32)) (fun a3 => k4 v0 a2 a3 st)))
def f_m_bits_4 : Nat → Int32 → Int32 → Int32 → Mm → Option (Int32 × Mm)
  | 0 => fun _ _ _ _ => none
  | n + 1 => b_m_bits_4 (f_m_bits_4 n)
def f_m_bits (v0 : Int32) (st : Mm) : Option (Int32 × Mm) :=
  f_m_bits_4 1000000 v0 (0 : Int32) (0 : Int32) st
theorem t_m_bits_4 {G : Cx} (C : CX G prog_14_method_5_code "PaperStarsModel") (CR0 : CR G (Option.some FieldType.int)) (E : LAin (gly G)) (hnL : gnL G = 3) (hgd : 0 ≤ gd G) {q : Int32 × Mm} (hgr : gr G = some (.int q.1)) (hgs : gsf G = q.2) (k4 : Int32 → Int32 → Int32 → Mm → Option (Int32 × Mm)) (hk4 : ∀ (v0 : Int32) (v1 : Int32) (v2 : Int32) (st : Mm), k4 v0 v1 v2 st = some q → AW G st 4 [(0, .int v0), (1, .int v1), (2, .int v2)] []) (v0 : Int32) (v1 : Int32) (v2 : Int32) (st : Mm) (hf : b_m_bits_4 k4 v0 v1 v2 st = some q) : AW G st 4 [(0, .int v0), (1, .int v1), (2, .int v2)] [] := by
  unfold b_m_bits_4 at hf
  refine aw_iload_n C 2 2 (j := 2) rfl rfl (by decide +kernel) rfl ?_
  refine aw_bipush C (i0 := 16) (v := 16) (by decide) (by decide +kernel) rfl ?_
  refine aw_icmp_ge C (tgt := 24) (off := 17) (by decide +kernel) (by decide) rfl (fun c1 => ?_) (fun c1 => ?_)
  · have hf := ift c1 hf
    refine aw_iload_n C 1 1 (j := 1) rfl rfl (by decide +kernel) rfl ?_
    exact aw_iretq C CR0 hgr hgs hf (by decide +kernel)
  · have hf := iff_ c1 hf
    refine aw_iload_n C 1 1 (j := 1) rfl rfl (by decide +kernel) rfl ?_
    refine aw_iload_n C 0 0 (j := 0) rfl rfl (by decide +kernel) rfl ?_
    refine aw_iload_n C 2 2 (j := 2) rfl rfl (by decide +kernel) rfl ?_
    refine aw_ishr C (by decide +kernel) rfl ?_
    refine aw_iconst C (i0 := 1) (v := 1) (by decide) (by decide +kernel) rfl ?_
    refine aw_iand C (by decide +kernel) rfl ?_
    refine aw_iadd C (by decide +kernel) rfl ?_
    obtain ⟨a2, ha2⟩ : ∃ z, z = (v1 + ((v0 >>> (v2 &&& 31)) &&& (1 : Int32))) := ⟨_, rfl⟩
    refine aw_nmi ha2 ?_
    have hf := ilt ha2 hf
    refine aw_istore_n C [(1, .int a2), (0, .int v0), (2, .int v2)] (j := 1) rfl (by rw [hnL]; decide) rfl (by decide +kernel) rfl ?_
    obtain ⟨a3, ha3⟩ : ∃ z, z = (v2 + (1 : Int32)) := ⟨_, rfl⟩
    have hf := ilt ha3 hf
    refine aw_iinc C [(2, .int a3), (1, .int a2), (0, .int v0)] 2 (n := 1) rfl (by rw [ha3]; rfl) (by rw [hnL]; decide) rfl (by decide +kernel) rfl ?_
    refine aw_goto C (tgt := 4) (off := -17) (by decide +kernel) (by decide) ?_
    refine aw_sub [(0, .int v0), (1, .int a2), (2, .int a3)] [2, 1, 0] rfl ?_
    exact hk4 v0 a2 a3 _ hf
theorem u_m_bits_4 {G : Cx} (C : CX G prog_14_method_5_code "PaperStarsModel") (CR0 : CR G (Option.some FieldType.int)) (E : LAin (gly G)) (hnL : gnL G = 3) (hgd : 0 ≤ gd G) {q : Int32 × Mm} (hgr : gr G = some (.int q.1)) (hgs : gsf G = q.2) : ∀ (n : Nat) (v0 : Int32) (v1 : Int32) (v2 : Int32) (st : Mm), f_m_bits_4 n v0 v1 v2 st = some q → AW G st 4 [(0, .int v0), (1, .int v1), (2, .int v2)] [] := by
  intro n
  induction n with
  | zero => intro v0 v1 v2 st hf; cases hf
  | succ n ih => intro v0 v1 v2 st hf; exact t_m_bits_4 C CR0 E hnL hgd hgr hgs (f_m_bits_4 n) ih v0 v1 v2 st hf
theorem t_m_bits {G : Cx} (C : CX G prog_14_method_5_code "PaperStarsModel") (CR0 : CR G (Option.some FieldType.int)) (E : LAin (gly G)) (hnL : gnL G = 3) (hgd : 0 ≤ gd G) {q : Int32 × Mm} (hgr : gr G = some (.int q.1)) (hgs : gsf G = q.2) (v0 : Int32) (st : Mm) (hf : f_m_bits v0 st = some q) : AW G st 0 [(0, .int v0)] [] := by
  unfold f_m_bits at hf
  refine aw_iconst C (i0 := 0) (v := 0) (by decide) (by decide +kernel) rfl ?_
  refine aw_istore_n C [(1, .int (0 : Int32)), (0, .int v0)] (j := 1) rfl (by rw [hnL]; decide) rfl (by decide +kernel) rfl ?_
  refine aw_iconst C (i0 := 0) (v := 0) (by decide) (by decide +kernel) rfl ?_
  refine aw_istore_n C [(2, .int (0 : Int32)), (1, .int (0 : Int32)), (0, .int v0)] (j := 2) rfl (by rw [hnL]; decide) rfl (by decide +kernel) rfl ?_
  refine aw_sub [(0, .int v0), (1, .int (0 : Int32)), (2, .int (0 : Int32))] [2, 1, 0] rfl ?_
  exact u_m_bits_4 C CR0 E hnL hgd hgr hgs _ v0 (0 : Int32) (0 : Int32) _ hf
theorem c_m_bits {lay : Ly} (E : LAin lay) (v0 : Int32) (st : Mm) (q : Int32 × Mm) (hf : f_m_bits v0 st = some q) : Con 0 Y250 prog_14_method_5_code 3 (Option.some FieldType.int) lay (fun ad => [.int v0]) st (some (.int q.1)) q.2 :=
  am_met yf_250.2.2.2.2.2 (fun ad => Nat.le_of_ble_eq_true rfl) (fun G C CR0 e1 e2 e3 e4 e5 => t_m_bits C CR0 (by rw [e1]; exact E) e2 (Nat.le_of_eq e5.symm) e3 e4 v0 st hf)
def b_m_wantedMany_4 (k4 : Int32 → Int32 → Mm → Option (Int32 × Mm)) (v1 : Int32) (v2 : Int32) (st : Mm) : Option (Int32 × Mm) :=
  if (st.1 58 0) ≤ v2 then (some (v1, st)) else (if inb v2 16 then (f_m_bits (st.1 60 v2.toNatClampNeg) st).bind (fun q3 => lt_ (v1 + q3.1) (fun a4 => lt_ (v2 + (1 : Int32)) (fun a5 => k4 a4 a5 q3.2))) else none)
def f_m_wantedMany_4 : Nat → Int32 → Int32 → Mm → Option (Int32 × Mm)
  | 0 => fun _ _ _ => none
  | n + 1 => b_m_wantedMany_4 (f_m_wantedMany_4 n)
def f_m_wantedMany (st : Mm) : Option (Int32 × Mm) :=
  f_m_wantedMany_4 1000000 (0 : Int32) (0 : Int32) st
theorem t_m_wantedMany_4 {G : Cx} (C : CX G prog_14_method_111_code "PaperStarsModel") (CR0 : CR G (Option.some FieldType.int)) (E : LAin (gly G)) (hnL : gnL G = 3) (hgd : 1 ≤ gd G) {q : Int32 × Mm} (hgr : gr G = some (.int q.1)) (hgs : gsf G = q.2) (k4 : Int32 → Int32 → Mm → Option (Int32 × Mm)) (hk4 : ∀ (v1 : Int32) (v2 : Int32) (st : Mm), k4 v1 v2 st = some q → AW G st 4 [(0, .ref (gad G 58)), (1, .int v1), (2, .int v2)] []) (v1 : Int32) (v2 : Int32) (st : Mm) (hf : b_m_wantedMany_4 k4 v1 v2 st = some q) : AW G st 4 [(0, .ref (gad G 58)), (1, .int v1), (2, .int v2)] [] := by
  unfold b_m_wantedMany_4 at hf
  refine aw_iload_n C 2 2 (j := 2) rfl rfl (by decide +kernel) rfl ?_
  refine aw_aload_n C 0 0 (j := 0) rfl rfl (by decide +kernel) rfl ?_
  refine aw_get C (k := 0) fc_12 (la_58 E) rfl (by decide) tb_942 (by decide +kernel) rfl ?_
  refine aw_icmp_ge C (tgt := 30) (off := 21) (by decide +kernel) (by decide) rfl (fun c1 => ?_) (fun c1 => ?_)
  · have hf := ift c1 hf
    refine aw_iload_n C 1 1 (j := 1) rfl rfl (by decide +kernel) rfl ?_
    exact aw_iretq C CR0 hgr hgs hf (by decide +kernel)
  · have hf := iff_ c1 hf
    refine aw_iload_n C 1 1 (j := 1) rfl rfl (by decide +kernel) rfl ?_
    refine aw_aload_n C 0 0 (j := 0) rfl rfl (by decide +kernel) rfl ?_
    refine aw_getr C (k := 5) fc_12 (la_58 E) rfl (by decide) tb_947 (by decide +kernel) rfl ?_
    refine aw_iload_n C 2 2 (j := 2) rfl rfl (by decide +kernel) rfl ?_
    obtain ⟨g2, hf⟩ := igd hf
    refine aw_iald C (la_60 E) g2 (by decide +kernel) rfl ?_
    obtain ⟨q3, hq3, hf⟩ := ibd hf
    refine aw_callS C (rest := [.int v1]) (c_m_bits E (st.1 60 v2.toNatClampNeg) _ q3 hq3) tb_1573 yf_250 tb_1574 rfl _ rfl (Nat.le_trans (by decide) hgd) (Nat.le_of_ble_eq_true rfl) (by decide +kernel) rfl ?_
    show AW _ _ _ _ [.int q3.1, .int v1]
    refine aw_iadd C (by decide +kernel) rfl ?_
    obtain ⟨a4, ha4⟩ : ∃ z, z = (v1 + q3.1) := ⟨_, rfl⟩
    refine aw_nmi ha4 ?_
    have hf := ilt ha4 hf
    refine aw_istore_n C [(1, .int a4), (0, .ref (gad G 58)), (2, .int v2)] (j := 1) rfl (by rw [hnL]; decide) rfl (by decide +kernel) rfl ?_
    obtain ⟨a5, ha5⟩ : ∃ z, z = (v2 + (1 : Int32)) := ⟨_, rfl⟩
    have hf := ilt ha5 hf
    refine aw_iinc C [(2, .int a5), (1, .int a4), (0, .ref (gad G 58))] 2 (n := 1) rfl (by rw [ha5]; rfl) (by rw [hnL]; decide) rfl (by decide +kernel) rfl ?_
    refine aw_goto C (tgt := 4) (off := -23) (by decide +kernel) (by decide) ?_
    refine aw_sub [(0, .ref (gad G 58)), (1, .int a4), (2, .int a5)] [2, 1, 0] rfl ?_
    exact hk4 a4 a5 _ hf
theorem u_m_wantedMany_4 {G : Cx} (C : CX G prog_14_method_111_code "PaperStarsModel") (CR0 : CR G (Option.some FieldType.int)) (E : LAin (gly G)) (hnL : gnL G = 3) (hgd : 1 ≤ gd G) {q : Int32 × Mm} (hgr : gr G = some (.int q.1)) (hgs : gsf G = q.2) : ∀ (n : Nat) (v1 : Int32) (v2 : Int32) (st : Mm), f_m_wantedMany_4 n v1 v2 st = some q → AW G st 4 [(0, .ref (gad G 58)), (1, .int v1), (2, .int v2)] [] := by
  intro n
  induction n with
  | zero => intro v1 v2 st hf; cases hf
  | succ n ih => intro v1 v2 st hf; exact t_m_wantedMany_4 C CR0 E hnL hgd hgr hgs (f_m_wantedMany_4 n) ih v1 v2 st hf
theorem t_m_wantedMany {G : Cx} (C : CX G prog_14_method_111_code "PaperStarsModel") (CR0 : CR G (Option.some FieldType.int)) (E : LAin (gly G)) (hnL : gnL G = 3) (hgd : 1 ≤ gd G) {q : Int32 × Mm} (hgr : gr G = some (.int q.1)) (hgs : gsf G = q.2) (st : Mm) (hf : f_m_wantedMany st = some q) : AW G st 0 [(0, .ref (gad G 58))] [] := by
  unfold f_m_wantedMany at hf
  refine aw_iconst C (i0 := 0) (v := 0) (by decide) (by decide +kernel) rfl ?_
  refine aw_istore_n C [(1, .int (0 : Int32)), (0, .ref (gad G 58))] (j := 1) rfl (by rw [hnL]; decide) rfl (by decide +kernel) rfl ?_
  refine aw_iconst C (i0 := 0) (v := 0) (by decide) (by decide +kernel) rfl ?_
  refine aw_istore_n C [(2, .int (0 : Int32)), (1, .int (0 : Int32)), (0, .ref (gad G 58))] (j := 2) rfl (by rw [hnL]; decide) rfl (by decide +kernel) rfl ?_
  refine aw_sub [(0, .ref (gad G 58)), (1, .int (0 : Int32)), (2, .int (0 : Int32))] [2, 1, 0] rfl ?_
  exact u_m_wantedMany_4 C CR0 E hnL hgd hgr hgs _ (0 : Int32) (0 : Int32) _ hf
theorem c_m_wantedMany {lay : Ly} (E : LAin lay) (st : Mm) (q : Int32 × Mm) (hf : f_m_wantedMany st = some q) : Con 1 Y249 prog_14_method_111_code 3 (Option.some FieldType.int) lay (fun ad => [.ref (ad 58)]) st (some (.int q.1)) q.2 :=
  am_met yf_249.2.2.2.2.2 (fun ad => Nat.le_of_ble_eq_true rfl) (fun G C CR0 e1 e2 e3 e4 e5 => t_m_wantedMany C CR0 (by rw [e1]; exact E) e2 (Nat.le_of_eq e5.symm) e3 e4 st hf)
def f_m_count (v1 : Int32) (st : Mm) : Option (Int32 × Mm) :=
  if v1 = 0 then (some ((st.1 58 0), st)) else (if v1 = 1 then (some ((st.1 58 2), st)) else (if v1 = 2 then (some ((st.1 58 1), st)) else (if v1 = 3 then (some ((st.1 58 19), st)) else (if v1 = 4 then (some ((st.1 58 3), st)) else (if v1 = 5 then ((f_m_deerMany st).bind (fun q7 => some (q7.1, q7.2))) else (if v1 = 6 then ((f_m_wantedMany st).bind (fun q9 => some (q9.1, q9.2))) else ((f_m_in v1 (20 : Int32) ((19 : Int32) + (st.1 58 0)) st).bind (fun q10 => if q10.1 = 0 then (some ((-1 : Int32), q10.2)) else (if inb (v1 - (20 : Int32)) 16 then some ((q10.2.1 60 (v1 - (20 : Int32)).toNatClampNeg), q10.2) else none)))))))))
theorem t_m_count {G : Cx} (C : CX G prog_14_method_112_code "PaperStarsModel") (CR0 : CR G (Option.some FieldType.int)) (E : LAin (gly G)) (hnL : gnL G = 2) (hgd : 2 ≤ gd G) {q : Int32 × Mm} (hgr : gr G = some (.int q.1)) (hgs : gsf G = q.2) (v1 : Int32) (st : Mm) (hf : f_m_count v1 st = some q) : AW G st 0 [(0, .ref (gad G 58)), (1, .int v1)] [] := by
  unfold f_m_count at hf
  refine aw_iload_n C 1 1 (j := 1) rfl rfl (by decide +kernel) rfl ?_
  by_cases w1 : v1 = 0
  · have hf := ift w1 hf
    refine aw_tin C (tgt := 44) (off := 43) (dflt := 78) (lo := 0) (hi := 6) (offs := #[43, 48, 53, 58, 63, 68, 73]) (len := 43) (by decide +kernel) (by rw [w1]; decide) (by rw [w1]; decide) (by rw [w1]; decide) (by decide) ?_
    refine aw_aload_n C 0 0 (j := 0) rfl rfl (by decide +kernel) rfl ?_
    refine aw_get C (k := 0) fc_12 (la_58 E) rfl (by decide) tb_942 (by decide +kernel) rfl ?_
    exact aw_iretq C CR0 hgr hgs hf (by decide +kernel)
  · have hf := iff_ w1 hf
    by_cases w2 : v1 = 1
    · have hf := ift w2 hf
      refine aw_tin C (tgt := 49) (off := 48) (dflt := 78) (lo := 0) (hi := 6) (offs := #[43, 48, 53, 58, 63, 68, 73]) (len := 43) (by decide +kernel) (by rw [w2]; decide) (by rw [w2]; decide) (by rw [w2]; decide) (by decide) ?_
      refine aw_aload_n C 0 0 (j := 0) rfl rfl (by decide +kernel) rfl ?_
      refine aw_get C (k := 2) fc_12 (la_58 E) rfl (by decide) tb_944 (by decide +kernel) rfl ?_
      exact aw_iretq C CR0 hgr hgs hf (by decide +kernel)
    · have hf := iff_ w2 hf
      by_cases w3 : v1 = 2
      · have hf := ift w3 hf
        refine aw_tin C (tgt := 54) (off := 53) (dflt := 78) (lo := 0) (hi := 6) (offs := #[43, 48, 53, 58, 63, 68, 73]) (len := 43) (by decide +kernel) (by rw [w3]; decide) (by rw [w3]; decide) (by rw [w3]; decide) (by decide) ?_
        refine aw_aload_n C 0 0 (j := 0) rfl rfl (by decide +kernel) rfl ?_
        refine aw_get C (k := 1) fc_12 (la_58 E) rfl (by decide) tb_943 (by decide +kernel) rfl ?_
        exact aw_iretq C CR0 hgr hgs hf (by decide +kernel)
      · have hf := iff_ w3 hf
        by_cases w4 : v1 = 3
        · have hf := ift w4 hf
          refine aw_tin C (tgt := 59) (off := 58) (dflt := 78) (lo := 0) (hi := 6) (offs := #[43, 48, 53, 58, 63, 68, 73]) (len := 43) (by decide +kernel) (by rw [w4]; decide) (by rw [w4]; decide) (by rw [w4]; decide) (by decide) ?_
          refine aw_aload_n C 0 0 (j := 0) rfl rfl (by decide +kernel) rfl ?_
          refine aw_get C (k := 19) fc_12 (la_58 E) rfl (by decide) tb_961 (by decide +kernel) rfl ?_
          exact aw_iretq C CR0 hgr hgs hf (by decide +kernel)
        · have hf := iff_ w4 hf
          by_cases w5 : v1 = 4
          · have hf := ift w5 hf
            refine aw_tin C (tgt := 64) (off := 63) (dflt := 78) (lo := 0) (hi := 6) (offs := #[43, 48, 53, 58, 63, 68, 73]) (len := 43) (by decide +kernel) (by rw [w5]; decide) (by rw [w5]; decide) (by rw [w5]; decide) (by decide) ?_
            refine aw_aload_n C 0 0 (j := 0) rfl rfl (by decide +kernel) rfl ?_
            refine aw_get C (k := 3) fc_12 (la_58 E) rfl (by decide) tb_945 (by decide +kernel) rfl ?_
            exact aw_iretq C CR0 hgr hgs hf (by decide +kernel)
          · have hf := iff_ w5 hf
            by_cases w6 : v1 = 5
            · have hf := ift w6 hf
              refine aw_tin C (tgt := 69) (off := 68) (dflt := 78) (lo := 0) (hi := 6) (offs := #[43, 48, 53, 58, 63, 68, 73]) (len := 43) (by decide +kernel) (by rw [w6]; decide) (by rw [w6]; decide) (by rw [w6]; decide) (by decide) ?_
              refine aw_aload_n C 0 0 (j := 0) rfl rfl (by decide +kernel) rfl ?_
              obtain ⟨q7, hq7, hf⟩ := ibd hf
              refine aw_callV C (rest := []) (c_m_deerMany E _ q7 hq7) tb_1565 yf_248 yi_248 (la_58 E) [] rfl rfl _ rfl (Nat.le_trans (by decide) hgd) (Nat.le_of_ble_eq_true rfl) (by decide +kernel) rfl ?_
              show AW _ _ _ _ [.int q7.1]
              exact aw_iretq C CR0 hgr hgs hf (by decide +kernel)
            · have hf := iff_ w6 hf
              by_cases w8 : v1 = 6
              · have hf := ift w8 hf
                refine aw_tin C (tgt := 74) (off := 73) (dflt := 78) (lo := 0) (hi := 6) (offs := #[43, 48, 53, 58, 63, 68, 73]) (len := 43) (by decide +kernel) (by rw [w8]; decide) (by rw [w8]; decide) (by rw [w8]; decide) (by decide) ?_
                refine aw_aload_n C 0 0 (j := 0) rfl rfl (by decide +kernel) rfl ?_
                obtain ⟨q9, hq9, hf⟩ := ibd hf
                refine aw_callV C (rest := []) (c_m_wantedMany E _ q9 hq9) tb_1569 yf_249 yi_249 (la_58 E) [] rfl rfl _ rfl (Nat.le_trans (by decide) hgd) (Nat.le_of_ble_eq_true rfl) (by decide +kernel) rfl ?_
                show AW _ _ _ _ [.int q9.1]
                exact aw_iretq C CR0 hgr hgs hf (by decide +kernel)
              · have hf := iff_ w8 hf
                have zw1 := am_ne w1 (k := 0) (by decide)
                have zw2 := am_ne w2 (k := 1) (by decide)
                have zw3 := am_ne w3 (k := 2) (by decide)
                have zw4 := am_ne w4 (k := 3) (by decide)
                have zw5 := am_ne w5 (k := 4) (by decide)
                have zw6 := am_ne w6 (k := 5) (by decide)
                have zw8 := am_ne w8 (k := 6) (by decide)
                refine aw_tout C (tgt := 79) (dflt := 78) (lo := 0) (hi := 6) (offs := #[43, 48, 53, 58, 63, 68, 73]) (len := 43) (by decide +kernel) (by omega) (by decide) ?_
                refine aw_iload_n C 1 1 (j := 1) rfl rfl (by decide +kernel) rfl ?_
                refine aw_bipush C (i0 := 20) (v := 20) (by decide) (by decide +kernel) rfl ?_
                refine aw_bipush C (i0 := 19) (v := 19) (by decide) (by decide +kernel) rfl ?_
                refine aw_aload_n C 0 0 (j := 0) rfl rfl (by decide +kernel) rfl ?_
                refine aw_get C (k := 0) fc_12 (la_58 E) rfl (by decide) tb_942 (by decide +kernel) rfl ?_
                refine aw_iadd C (by decide +kernel) rfl ?_
                obtain ⟨q10, hq10, hf⟩ := ibd hf
                refine aw_callS C (rest := []) (c_m_in E v1 (20 : Int32) ((19 : Int32) + (st.1 58 0)) _ q10 hq10) tb_1144 yf_142 tb_1145 rfl _ rfl (Nat.le_trans (by decide) hgd) (Nat.le_of_ble_eq_true rfl) (by decide +kernel) rfl ?_
                show AW _ _ _ _ [.int q10.1]
                refine aw_if_eq C (tgt := 107) (off := 15) (by decide +kernel) (by decide) rfl (fun c11 => ?_) (fun c11 => ?_)
                · have hf := ift c11 hf
                  refine aw_iconst C (i0 := -1) (v := -1) (by decide) (by decide +kernel) rfl ?_
                  exact aw_iretq C CR0 hgr hgs hf (by decide +kernel)
                · have hf := iff_ c11 hf
                  refine aw_aload_n C 0 0 (j := 0) rfl rfl (by decide +kernel) rfl ?_
                  refine aw_getr C (k := 5) fc_12 (la_58 E) rfl (by decide) tb_947 (by decide +kernel) rfl ?_
                  refine aw_iload_n C 1 1 (j := 1) rfl rfl (by decide +kernel) rfl ?_
                  refine aw_bipush C (i0 := 20) (v := 20) (by decide) (by decide +kernel) rfl ?_
                  refine aw_isub C (by decide +kernel) rfl ?_
                  obtain ⟨g12, hf⟩ := igd hf
                  refine aw_iald C (la_60 E) g12 (by decide +kernel) rfl ?_
                  refine aw_goto C (tgt := 108) (off := 4) (by decide +kernel) (by decide) ?_
                  exact aw_iretq C CR0 hgr hgs hf (by decide +kernel)
theorem c_m_count {lay : Ly} (E : LAin lay) (v1 : Int32) (st : Mm) (q : Int32 × Mm) (hf : f_m_count v1 st = some q) : Con 2 Y247 prog_14_method_112_code 2 (Option.some FieldType.int) lay (fun ad => [.ref (ad 58), .int v1]) st (some (.int q.1)) q.2 :=
  am_met yf_247.2.2.2.2.2 (fun ad => Nat.le_of_ble_eq_true rfl) (fun G C CR0 e1 e2 e3 e4 e5 => t_m_count C CR0 (by rw [e1]; exact E) e2 (Nat.le_of_eq e5.symm) e3 e4 v1 st hf)
