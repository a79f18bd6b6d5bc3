def b_Rdr_readWhere_108 (k26 : Int32 → Mm → Option (Unit × Mm)) (v1 : Int32) (st : Mm) : Option (Unit × Mm) :=
  lt_ (v1 + (1 : Int32)) (fun a1 => k26 a1 st)
def b_Rdr_readWhere_46 (k26 : Int32 → Mm → Option (Unit × Mm)) (k46 : Int32 → Int32 → Mm → Option (Unit × Mm)) (v1 : Int32) (v2 : Int32) (st : Mm) : Option (Unit × Mm) :=
  if (st.1 14 1) ≤ v2 then (b_Rdr_readWhere_108 k26 v1 st) else ((f_Fold_holds 14 15 16 v2 v1 st).bind (fun q2 => if q2.1 = 0 then (lt_ (v2 + (1 : Int32)) (fun a4 => k46 v1 a4 q2.2)) else ((f_Fold_thickness 14 15 16 v2 v1 q2.2).bind (fun q5 => (f_Cond_holdsAt v2 v1 q5.1 q5.2).bind (fun q6 => if q6.1 = 0 then (lt_ (v2 + (1 : Int32)) (fun a8 => k46 v1 a8 q6.2)) else (if inb v1 16 then lt_ ((q6.2.1 23 v1.toNatClampNeg) ||| ((1 : Int32) <<< (v2 &&& 31))) (fun a10 => if inb v1 16 then lt_ (v2 + (1 : Int32)) (fun a12 => k46 v1 a12 (sI q6.2 23 v1.toNatClampNeg a10)) else none) else none))))))
def f_Rdr_readWhere_46 (k26 : Int32 → Mm → Option (Unit × Mm)) : Nat → Int32 → Int32 → Mm → Option (Unit × Mm)
  | 0 => fun _ _ _ => none
  | n + 1 => b_Rdr_readWhere_46 k26 (f_Rdr_readWhere_46 k26 n)
def b_Rdr_readWhere_26 (k26 : Int32 → Mm → Option (Unit × Mm)) (v1 : Int32) (st : Mm) : Option (Unit × Mm) :=
  if (st.1 14 2) ≤ v1 then (some ((), st)) else (if (st.1 13 7) = 0 then (f_Rdr_readWhere_46 k26 1000000 v1 (0 : Int32) st) else (some ((), st)))
def f_Rdr_readWhere_26 : Nat → Int32 → Mm → Option (Unit × Mm)
  | 0 => fun _ _ => none
  | n + 1 => b_Rdr_readWhere_26 (f_Rdr_readWhere_26 n)
def f_Rdr_readWhere (st : Mm) : Option (Unit × Mm) :=
  (f_Rdr_take (40 : Int32) st).bind (fun q1 => (f_Cond_clear q1.2).bind (fun q2 => ((R_Rd 30).1 (1 : Int32) q2.2).bind (fun q3 => (f_Rdr_take (41 : Int32) q3.2).bind (fun q4 => f_Rdr_readWhere_26 1000000 (0 : Int32) q4.2))))
theorem t_Rdr_readWhere_108 {G : Cx} (C : CX G prog_10_method_11_code "PaperStars$Reader") (CR0 : CR G (Option.none)) (E : LCin (gly G)) (hnL : gnL G = 3) (hgd : 33 ≤ gd G) {q : Unit × Mm} (hgr : gr G = none) (hgs : gsf G = q.2) (k26 : Int32 → Mm → Option (Unit × Mm)) (hk26 : ∀ (v1 : Int32) (st : Mm), k26 v1 st = some q → AW G st 26 [(0, .ref (gad G 13)), (1, .int v1)] []) (v1 : Int32) (st : Mm) (hf : b_Rdr_readWhere_108 k26 v1 st = some q) : AW G st 108 [(0, .ref (gad G 13)), (1, .int v1)] [] := by
  unfold b_Rdr_readWhere_108 at hf
  obtain ⟨a1, ha1⟩ : ∃ z, z = (v1 + (1 : Int32)) := ⟨_, rfl⟩
  have hf := ilt ha1 hf
  refine aw_iinc C [(1, .int a1), (0, .ref (gad G 13))] 1 (n := 1) rfl (by rw [ha1]; rfl) (by rw [hnL]; decide) rfl (by decide +kernel) rfl ?_
  refine aw_goto C (tgt := 26) (off := -85) (by decide +kernel) (by decide) ?_
  refine aw_sub [(0, .ref (gad G 13)), (1, .int a1)] [1, 0] rfl ?_
  exact hk26 a1 _ hf
theorem t_Rdr_readWhere_46 {G : Cx} (C : CX G prog_10_method_11_code "PaperStars$Reader") (CR0 : CR G (Option.none)) (E : LCin (gly G)) (hnL : gnL G = 3) (hgd : 33 ≤ gd G) {q : Unit × Mm} (hgr : gr G = none) (hgs : gsf G = q.2) (k26 : Int32 → Mm → Option (Unit × Mm)) (k46 : Int32 → Int32 → Mm → Option (Unit × Mm)) (hk26 : ∀ (v1 : Int32) (st : Mm), k26 v1 st = some q → AW G st 26 [(0, .ref (gad G 13)), (1, .int v1)] []) (hk46 : ∀ (v1 : Int32) (v2 : Int32) (st : Mm), k46 v1 v2 st = some q → AW G st 46 [(0, .ref (gad G 13)), (1, .int v1), (2, .int v2)] []) (v1 : Int32) (v2 : Int32) (st : Mm) (hf : b_Rdr_readWhere_46 k26 k46 v1 v2 st = some q) : AW G st 46 [(0, .ref (gad G 13)), (1, .int v1), (2, .int v2)] [] := by
  unfold b_Rdr_readWhere_46 at hf
  refine aw_iload_n C 2 2 (j := 2) rfl rfl (by decide +kernel) rfl ?_
  refine aw_aload_n C 0 0 (j := 0) rfl rfl (by decide +kernel) rfl ?_
  refine aw_getr C (k := 0) fc_8 (lc_13 E) rfl (by decide) tb_166 (by decide +kernel) rfl ?_
  refine aw_get C (k := 1) fc_3 (lc_14 E) rfl (by decide) tb_108 (by decide +kernel) rfl ?_
  refine aw_icmp_ge C (tgt := 108) (off := 54) (by decide +kernel) (by decide) rfl (fun c1 => ?_) (fun c1 => ?_)
  · have hf := ift c1 hf
    refine aw_sub [(0, .ref (gad G 13)), (1, .int v1)] [0, 1] rfl ?_
    exact t_Rdr_readWhere_108 C CR0 E hnL hgd hgr hgs k26 hk26 v1 _ hf
  · have hf := iff_ c1 hf
    refine aw_aload_n C 0 0 (j := 0) rfl rfl (by decide +kernel) rfl ?_
    refine aw_getr C (k := 0) fc_8 (lc_13 E) rfl (by decide) tb_166 (by decide +kernel) rfl ?_
    refine aw_iload_n C 2 2 (j := 2) rfl rfl (by decide +kernel) rfl ?_
    refine aw_iload_n C 1 1 (j := 1) rfl rfl (by decide +kernel) rfl ?_
    obtain ⟨q2, hq2, hf⟩ := ibd hf
    refine aw_callV C (rest := []) (c_Fold_holds 14 15 16 ⟨(lc_14 E), (lc_15 E), (lc_16 E)⟩ v2 v1 _ q2 hq2) tb_557 yf_21 yi_21 (lc_14 E) [.int v2, .int v1] rfl rfl _ rfl (Nat.le_trans (by decide) hgd) (Nat.le_of_ble_eq_true rfl) (by decide +kernel) rfl ?_
    show AW _ _ _ _ [.int q2.1]
    refine aw_if_eq C (tgt := 102) (off := 36) (by decide +kernel) (by decide) rfl (fun c3 => ?_) (fun c3 => ?_)
    · have hf := ift c3 hf
      obtain ⟨a4, ha4⟩ : ∃ z, z = (v2 + (1 : Int32)) := ⟨_, rfl⟩
      have hf := ilt ha4 hf
      refine aw_iinc C [(2, .int a4), (0, .ref (gad G 13)), (1, .int v1)] 2 (n := 1) rfl (by rw [ha4]; rfl) (by rw [hnL]; decide) rfl (by decide +kernel) rfl ?_
      refine aw_goto C (tgt := 46) (off := -59) (by decide +kernel) (by decide) ?_
      refine aw_sub [(0, .ref (gad G 13)), (1, .int v1), (2, .int a4)] [1, 2, 0] rfl ?_
      exact hk46 v1 a4 _ hf
    · have hf := iff_ c3 hf
      refine aw_aload_n C 0 0 (j := 0) rfl rfl (by decide +kernel) rfl ?_
      refine aw_getr C (k := 1) fc_8 (lc_13 E) rfl (by decide) tb_167 (by decide +kernel) rfl ?_
      refine aw_iload_n C 2 2 (j := 2) rfl rfl (by decide +kernel) rfl ?_
      refine aw_iload_n C 1 1 (j := 1) rfl rfl (by decide +kernel) rfl ?_
      refine aw_aload_n C 0 0 (j := 0) rfl rfl (by decide +kernel) rfl ?_
      refine aw_getr C (k := 0) fc_8 (lc_13 E) rfl (by decide) tb_166 (by decide +kernel) rfl ?_
      refine aw_iload_n C 2 2 (j := 2) rfl rfl (by decide +kernel) rfl ?_
      refine aw_iload_n C 1 1 (j := 1) rfl rfl (by decide +kernel) rfl ?_
      obtain ⟨q5, hq5, hf⟩ := ibd hf
      refine aw_callV C (rest := [.int v1, .int v2, .ref (gad G 17)]) (c_Fold_thickness 14 15 16 ⟨(lc_14 E), (lc_15 E), (lc_16 E)⟩ v2 v1 _ q5 hq5) tb_558 yf_53 yi_53 (lc_14 E) [.int v2, .int v1] rfl rfl _ rfl (Nat.le_trans (by decide) hgd) (Nat.le_of_ble_eq_true rfl) (by decide +kernel) rfl ?_
      show AW _ _ _ _ [.int q5.1, .int v1, .int v2, .ref (gad G 17)]
      obtain ⟨q6, hq6, hf⟩ := ibd hf
      refine aw_callV C (rest := []) (c_Cond_holdsAt E v2 v1 q5.1 _ q6 hq6) tb_562 yf_54 yi_54 (lc_17 E) [.int v2, .int v1, .int q5.1] rfl rfl _ rfl (Nat.le_trans (by decide) hgd) (Nat.le_of_ble_eq_true rfl) (by decide +kernel) rfl ?_
      show AW _ _ _ _ [.int q6.1]
      refine aw_if_eq C (tgt := 102) (off := 15) (by decide +kernel) (by decide) rfl (fun c7 => ?_) (fun c7 => ?_)
      · have hf := ift c7 hf
        obtain ⟨a8, ha8⟩ : ∃ z, z = (v2 + (1 : Int32)) := ⟨_, rfl⟩
        have hf := ilt ha8 hf
        refine aw_iinc C [(2, .int a8), (0, .ref (gad G 13)), (1, .int v1)] 2 (n := 1) rfl (by rw [ha8]; rfl) (by rw [hnL]; decide) rfl (by decide +kernel) rfl ?_
        refine aw_goto C (tgt := 46) (off := -59) (by decide +kernel) (by decide) ?_
        refine aw_sub [(0, .ref (gad G 13)), (1, .int v1), (2, .int a8)] [1, 2, 0] rfl ?_
        exact hk46 v1 a8 _ hf
      · have hf := iff_ c7 hf
        refine aw_aload_n C 0 0 (j := 0) rfl rfl (by decide +kernel) rfl ?_
        refine aw_getr C (k := 4) fc_8 (lc_13 E) rfl (by decide) tb_170 (by decide +kernel) rfl ?_
        refine aw_iload_n C 1 1 (j := 1) rfl rfl (by decide +kernel) rfl ?_
        refine aw_dup2_11 C rfl rfl (by decide +kernel) rfl ?_
        obtain ⟨g9, hf⟩ := igd hf
        refine aw_iald C (lc_23 E) g9 (by decide +kernel) rfl ?_
        refine aw_iconst C (i0 := 1) (v := 1) (by decide) (by decide +kernel) rfl ?_
        refine aw_iload_n C 2 2 (j := 2) rfl rfl (by decide +kernel) rfl ?_
        refine aw_ishl C (by decide +kernel) rfl ?_
        refine aw_ior C (by decide +kernel) rfl ?_
        obtain ⟨a10, ha10⟩ : ∃ z, z = ((q6.2.1 23 v1.toNatClampNeg) ||| ((1 : Int32) <<< (v2 &&& 31))) := ⟨_, rfl⟩
        refine aw_nmi ha10 ?_
        have hf := ilt ha10 hf
        obtain ⟨g11, hf⟩ := igd hf
        refine aw_iast C (lc_23 E) g11 (by decide +kernel) rfl ?_
        obtain ⟨a12, ha12⟩ : ∃ z, z = (v2 + (1 : Int32)) := ⟨_, rfl⟩
        have hf := ilt ha12 hf
        refine aw_iinc C [(2, .int a12), (0, .ref (gad G 13)), (1, .int v1)] 2 (n := 1) rfl (by rw [ha12]; rfl) (by rw [hnL]; decide) rfl (by decide +kernel) rfl ?_
        refine aw_goto C (tgt := 46) (off := -59) (by decide +kernel) (by decide) ?_
        refine aw_sub [(0, .ref (gad G 13)), (1, .int v1), (2, .int a12)] [1, 2, 0] rfl ?_
        exact hk46 v1 a12 _ hf
theorem u_Rdr_readWhere_46 {G : Cx} (C : CX G prog_10_method_11_code "PaperStars$Reader") (CR0 : CR G (Option.none)) (E : LCin (gly G)) (hnL : gnL G = 3) (hgd : 33 ≤ gd G) {q : Unit × Mm} (hgr : gr G = none) (hgs : gsf G = q.2) (k26 : Int32 → Mm → Option (Unit × Mm)) (hk26 : ∀ (v1 : Int32) (st : Mm), k26 v1 st = some q → AW G st 26 [(0, .ref (gad G 13)), (1, .int v1)] []) : ∀ (n : Nat) (v1 : Int32) (v2 : Int32) (st : Mm), f_Rdr_readWhere_46 k26 n v1 v2 st = some q → AW G st 46 [(0, .ref (gad G 13)), (1, .int v1), (2, .int v2)] [] := by
  intro n
  induction n with
  | zero => intro v1 v2 st hf; cases hf
  | succ n ih => intro v1 v2 st hf; exact t_Rdr_readWhere_46 C CR0 E hnL hgd hgr hgs k26 (f_Rdr_readWhere_46 k26 n) hk26 ih v1 v2 st hf
theorem t_Rdr_readWhere_26 {G : Cx} (C : CX G prog_10_method_11_code "PaperStars$Reader") (CR0 : CR G (Option.none)) (E : LCin (gly G)) (hnL : gnL G = 3) (hgd : 33 ≤ gd G) {q : Unit × Mm} (hgr : gr G = none) (hgs : gsf G = q.2) (k26 : Int32 → Mm → Option (Unit × Mm)) (hk26 : ∀ (v1 : Int32) (st : Mm), k26 v1 st = some q → AW G st 26 [(0, .ref (gad G 13)), (1, .int v1)] []) (v1 : Int32) (st : Mm) (hf : b_Rdr_readWhere_26 k26 v1 st = some q) : AW G st 26 [(0, .ref (gad G 13)), (1, .int v1)] [] := by
  unfold b_Rdr_readWhere_26 at hf
  refine aw_iload_n C 1 1 (j := 1) rfl rfl (by decide +kernel) rfl ?_
  refine aw_aload_n C 0 0 (j := 0) rfl rfl (by decide +kernel) rfl ?_
  refine aw_getr C (k := 0) fc_8 (lc_13 E) rfl (by decide) tb_166 (by decide +kernel) rfl ?_
  refine aw_get C (k := 2) fc_3 (lc_14 E) rfl (by decide) tb_113 (by decide +kernel) rfl ?_
  refine aw_icmp_ge C (tgt := 114) (off := 80) (by decide +kernel) (by decide) rfl (fun c1 => ?_) (fun c1 => ?_)
  · have hf := ift c1 hf
    exact aw_vretq C CR0 hgr hgs hf (by decide +kernel)
  · have hf := iff_ c1 hf
    refine aw_aload_n C 0 0 (j := 0) rfl rfl (by decide +kernel) rfl ?_
    refine aw_get C (k := 7) fc_8 (lc_13 E) rfl (by decide) tb_173 (by decide +kernel) rfl ?_
    refine aw_if_ne C (tgt := 114) (off := 73) (by decide +kernel) (by decide) rfl (fun c2 => ?_) (fun c2 => ?_)
    · have hf := ift c2 hf
      refine aw_iconst C (i0 := 0) (v := 0) (by decide) (by decide +kernel) rfl ?_
      refine aw_istore_n C [(2, .int (0 : Int32)), (0, .ref (gad G 13)), (1, .int v1)] (j := 2) rfl (by rw [hnL]; decide) rfl (by decide +kernel) rfl ?_
      refine aw_sub [(0, .ref (gad G 13)), (1, .int v1), (2, .int (0 : Int32))] [1, 2, 0] rfl ?_
      exact u_Rdr_readWhere_46 C CR0 E hnL hgd hgr hgs k26 hk26 _ v1 (0 : Int32) _ hf
    · have hf := iff_ c2 hf
      exact aw_vretq C CR0 hgr hgs hf (by decide +kernel)
theorem u_Rdr_readWhere_26 {G : Cx} (C : CX G prog_10_method_11_code "PaperStars$Reader") (CR0 : CR G (Option.none)) (E : LCin (gly G)) (hnL : gnL G = 3) (hgd : 33 ≤ gd G) {q : Unit × Mm} (hgr : gr G = none) (hgs : gsf G = q.2) : ∀ (n : Nat) (v1 : Int32) (st : Mm), f_Rdr_readWhere_26 n v1 st = some q → AW G st 26 [(0, .ref (gad G 13)), (1, .int v1)] [] := by
  intro n
  induction n with
  | zero => intro v1 st hf; cases hf
  | succ n ih => intro v1 st hf; exact t_Rdr_readWhere_26 C CR0 E hnL hgd hgr hgs (f_Rdr_readWhere_26 n) ih v1 st hf
theorem t_Rdr_readWhere {G : Cx} (C : CX G prog_10_method_11_code "PaperStars$Reader") (CR0 : CR G (Option.none)) (E : LCin (gly G)) (hnL : gnL G = 3) (hgd : 33 ≤ gd G) {q : Unit × Mm} (hgr : gr G = none) (hgs : gsf G = q.2) (st : Mm) (hf : f_Rdr_readWhere st = some q) : AW G st 0 [(0, .ref (gad G 13))] [] := by
  unfold f_Rdr_readWhere at hf
  refine aw_aload_n C 0 0 (j := 0) rfl rfl (by decide +kernel) rfl ?_
  refine aw_bipush C (i0 := 40) (v := 40) (by decide) (by decide +kernel) rfl ?_
  obtain ⟨q1, hq1, hf⟩ := ibd hf
  refine aw_callV C (rest := []) (c_Rdr_take E (40 : Int32) _ q1 hq1) tb_501 yf_39 yi_39 (lc_13 E) [.int (40 : Int32)] rfl rfl _ rfl (Nat.le_trans (by decide) hgd) (Nat.le_of_ble_eq_true rfl) (by decide +kernel) rfl ?_
  show AW _ _ _ _ []
  refine aw_aload_n C 0 0 (j := 0) rfl rfl (by decide +kernel) rfl ?_
  refine aw_getr C (k := 1) fc_8 (lc_13 E) rfl (by decide) tb_167 (by decide +kernel) rfl ?_
  obtain ⟨q2, hq2, hf⟩ := ibd hf
  refine aw_callV C (rest := []) (c_Cond_clear E _ q2 hq2) tb_505 yf_40 yi_40 (lc_17 E) [] rfl rfl _ rfl (Nat.le_trans (by decide) hgd) (Nat.le_of_ble_eq_true rfl) (by decide +kernel) rfl ?_
  show AW _ _ _ _ []
  refine aw_aload_n C 0 0 (j := 0) rfl rfl (by decide +kernel) rfl ?_
  refine aw_iconst C (i0 := 1) (v := 1) (by decide) (by decide +kernel) rfl ?_
  obtain ⟨q3, hq3, hf⟩ := ibd hf
  refine aw_callV C (rest := []) ((rc_Rd E 30).1 (1 : Int32) _ q3 hq3) tb_509 yf_41 yi_41 (lc_13 E) [.int (1 : Int32)] rfl rfl _ rfl (Nat.le_trans (by decide) hgd) (Nat.le_of_ble_eq_true rfl) (by decide +kernel) rfl ?_
  show AW _ _ _ _ []
  refine aw_aload_n C 0 0 (j := 0) rfl rfl (by decide +kernel) rfl ?_
  refine aw_bipush C (i0 := 41) (v := 41) (by decide) (by decide +kernel) rfl ?_
  obtain ⟨q4, hq4, hf⟩ := ibd hf
  refine aw_callV C (rest := []) (c_Rdr_take E (41 : Int32) _ q4 hq4) tb_501 yf_39 yi_39 (lc_13 E) [.int (41 : Int32)] rfl rfl _ rfl (Nat.le_trans (by decide) hgd) (Nat.le_of_ble_eq_true rfl) (by decide +kernel) rfl ?_
  show AW _ _ _ _ []
  refine aw_iconst C (i0 := 0) (v := 0) (by decide) (by decide +kernel) rfl ?_
  refine aw_istore_n C [(1, .int (0 : Int32)), (0, .ref (gad G 13))] (j := 1) rfl (by rw [hnL]; decide) rfl (by decide +kernel) rfl ?_
  refine aw_sub [(0, .ref (gad G 13)), (1, .int (0 : Int32))] [1, 0] rfl ?_
  exact u_Rdr_readWhere_26 C CR0 E hnL hgd hgr hgs _ (0 : Int32) _ hf
theorem c_Rdr_readWhere {lay : Ly} (E : LCin lay) (st : Mm) (q : Unit × Mm) (hf : f_Rdr_readWhere st = some q) : Con 33 Y38 prog_10_method_11_code 3 (Option.none) lay (fun ad => [.ref (ad 13)]) st (none) q.2 :=
  am_met yf_38.2.2.2.2.2 (fun ad => Nat.le_of_ble_eq_true rfl) (fun G C CR0 e1 e2 e3 e4 e5 => t_Rdr_readWhere C CR0 (by rw [e1]; exact E) e2 (Nat.le_of_eq e5.symm) e3 e4 st hf)
def b_Rdr_readSnip_87 (s1 : Int32) (st : Mm) : Option (Unit × Mm) :=
  (f_Rdr_readBox s1 st).bind (fun q1 => lt_ ((q1.2.1 13 10) + (1 : Int32)) (fun a2 => some ((), (sI q1.2 13 10 a2))))
def b_Rdr_readSnip_33 (v1 : Int32) (st : Mm) : Option (Unit × Mm) :=
  if (st.1 13 10) < (12 : Int32) then (lt_ ((st.1 13 6) + (1 : Int32)) (fun a2 => if v1 = (99 : Int32) then ((f_Rdr_readWhere (sI st 13 6 a2)).bind (fun q4 => lt_ ((q4.2.1 13 10) + (1 : Int32)) (fun a5 => some ((), (sI q4.2 13 10 a5))))) else (if v1 = (114 : Int32) then (b_Rdr_readSnip_87 (1 : Int32) (sI st 13 6 a2)) else (b_Rdr_readSnip_87 (0 : Int32) (sI st 13 6 a2))))) else ((f_Rdr_fail (4 : Int32) (st.1 13 6) st).bind (fun q7 => some ((), q7.2)))
def f_Rdr_readSnip (st : Mm) : Option (Unit × Mm) :=
  (f_Rdr_look st).bind (fun q1 => if q1.1 = (115 : Int32) then (b_Rdr_readSnip_33 q1.1 q1.2) else (if q1.1 = (114 : Int32) then (b_Rdr_readSnip_33 q1.1 q1.2) else (if q1.1 = (99 : Int32) then (b_Rdr_readSnip_33 q1.1 q1.2) else ((f_Rdr_fail (1 : Int32) (q1.2.1 13 6) q1.2).bind (fun q5 => some ((), q5.2))))))
theorem t_Rdr_readSnip_87 {G : Cx} (C : CX G prog_10_method_10_code "PaperStars$Reader") (CR0 : CR G (Option.none)) (E : LCin (gly G)) (hnL : gnL G = 2) (hgd : 34 ≤ gd G) {q : Unit × Mm} (hgr : gr G = none) (hgs : gsf G = q.2) (s1 : Int32) (st : Mm) (hf : b_Rdr_readSnip_87 s1 st = some q) : AW G st 87 [(0, .ref (gad G 13))] [.int s1, .ref (gad G 13)] := by
  unfold b_Rdr_readSnip_87 at hf
  obtain ⟨q1, hq1, hf⟩ := ibd hf
  refine aw_callV C (rest := []) (c_Rdr_readBox E s1 _ q1 hq1) tb_575 yf_57 yi_57 (lc_13 E) [.int s1] rfl rfl _ rfl (Nat.le_trans (by decide) hgd) (Nat.le_of_ble_eq_true rfl) (by decide +kernel) rfl ?_
  show AW _ _ _ _ []
  refine aw_aload_n C 0 0 (j := 0) rfl rfl (by decide +kernel) rfl ?_
  refine aw_dup C rfl (by decide +kernel) rfl ?_
  refine aw_get C (k := 10) fc_8 (lc_13 E) rfl (by decide) tb_176 (by decide +kernel) rfl ?_
  refine aw_iconst C (i0 := 1) (v := 1) (by decide) (by decide +kernel) rfl ?_
  refine aw_iadd C (by decide +kernel) rfl ?_
  obtain ⟨a2, ha2⟩ : ∃ z, z = ((q1.2.1 13 10) + (1 : Int32)) := ⟨_, rfl⟩
  refine aw_nmi ha2 ?_
  have hf := ilt ha2 hf
  refine aw_put C (k := 10) fc_8 (lc_13 E) rfl (by decide) rfl rfl tb_176 (by decide +kernel) rfl ?_
  exact aw_vretq C CR0 hgr hgs hf (by decide +kernel)
theorem t_Rdr_readSnip_33 {G : Cx} (C : CX G prog_10_method_10_code "PaperStars$Reader") (CR0 : CR G (Option.none)) (E : LCin (gly G)) (hnL : gnL G = 2) (hgd : 34 ≤ gd G) {q : Unit × Mm} (hgr : gr G = none) (hgs : gsf G = q.2) (v1 : Int32) (st : Mm) (hf : b_Rdr_readSnip_33 v1 st = some q) : AW G st 33 [(0, .ref (gad G 13)), (1, .int v1)] [] := by
  unfold b_Rdr_readSnip_33 at hf
  refine aw_aload_n C 0 0 (j := 0) rfl rfl (by decide +kernel) rfl ?_
  refine aw_get C (k := 10) fc_8 (lc_13 E) rfl (by decide) tb_176 (by decide +kernel) rfl ?_
  refine aw_bipush C (i0 := 12) (v := 12) (by decide) (by decide +kernel) rfl ?_
  refine aw_icmp_lt C (tgt := 52) (off := 13) (by decide +kernel) (by decide) rfl (fun c1 => ?_) (fun c1 => ?_)
  · have hf := ift c1 hf
    refine aw_aload_n C 0 0 (j := 0) rfl rfl (by decide +kernel) rfl ?_
    refine aw_dup C rfl (by decide +kernel) rfl ?_
    refine aw_get C (k := 6) fc_8 (lc_13 E) rfl (by decide) tb_172 (by decide +kernel) rfl ?_
    refine aw_iconst C (i0 := 1) (v := 1) (by decide) (by decide +kernel) rfl ?_
    refine aw_iadd C (by decide +kernel) rfl ?_
    obtain ⟨a2, ha2⟩ : ∃ z, z = ((st.1 13 6) + (1 : Int32)) := ⟨_, rfl⟩
    refine aw_nmi ha2 ?_
    have hf := ilt ha2 hf
    refine aw_put C (k := 6) fc_8 (lc_13 E) rfl (by decide) rfl rfl tb_172 (by decide +kernel) rfl ?_
    refine aw_iload_n C 1 1 (j := 1) rfl rfl (by decide +kernel) rfl ?_
    refine aw_bipush C (i0 := 99) (v := 99) (by decide) (by decide +kernel) rfl ?_
    refine aw_icmp_ne C (tgt := 75) (off := 10) (by decide +kernel) (by decide) rfl (fun c3 => ?_) (fun c3 => ?_)
    · have hf := ift c3 hf
      refine aw_aload_n C 0 0 (j := 0) rfl rfl (by decide +kernel) rfl ?_
      obtain ⟨q4, hq4, hf⟩ := ibd hf
      refine aw_callV C (rest := []) (c_Rdr_readWhere E _ q4 hq4) tb_497 yf_38 yi_38 (lc_13 E) [] rfl rfl _ rfl (Nat.le_trans (by decide) hgd) (Nat.le_of_ble_eq_true rfl) (by decide +kernel) rfl ?_
      show AW _ _ _ _ []
      refine aw_goto C (tgt := 90) (off := 18) (by decide +kernel) (by decide) ?_
      refine aw_aload_n C 0 0 (j := 0) rfl rfl (by decide +kernel) rfl ?_
      refine aw_dup C rfl (by decide +kernel) rfl ?_
      refine aw_get C (k := 10) fc_8 (lc_13 E) rfl (by decide) tb_176 (by decide +kernel) rfl ?_
      refine aw_iconst C (i0 := 1) (v := 1) (by decide) (by decide +kernel) rfl ?_
      refine aw_iadd C (by decide +kernel) rfl ?_
      obtain ⟨a5, ha5⟩ : ∃ z, z = ((q4.2.1 13 10) + (1 : Int32)) := ⟨_, rfl⟩
      refine aw_nmi ha5 ?_
      have hf := ilt ha5 hf
      refine aw_put C (k := 10) fc_8 (lc_13 E) rfl (by decide) rfl rfl tb_176 (by decide +kernel) rfl ?_
      exact aw_vretq C CR0 hgr hgs hf (by decide +kernel)
    · have hf := iff_ c3 hf
      refine aw_aload_n C 0 0 (j := 0) rfl rfl (by decide +kernel) rfl ?_
      refine aw_iload_n C 1 1 (j := 1) rfl rfl (by decide +kernel) rfl ?_
      refine aw_bipush C (i0 := 114) (v := 114) (by decide) (by decide +kernel) rfl ?_
      refine aw_icmp_ne C (tgt := 86) (off := 7) (by decide +kernel) (by decide) rfl (fun c6 => ?_) (fun c6 => ?_)
      · have hf := ift c6 hf
        refine aw_iconst C (i0 := 1) (v := 1) (by decide) (by decide +kernel) rfl ?_
        refine aw_goto C (tgt := 87) (off := 4) (by decide +kernel) (by decide) ?_
        refine aw_sub [(0, .ref (gad G 13))] [0] rfl ?_
        exact t_Rdr_readSnip_87 C CR0 E hnL hgd hgr hgs (1 : Int32) _ hf
      · have hf := iff_ c6 hf
        refine aw_iconst C (i0 := 0) (v := 0) (by decide) (by decide +kernel) rfl ?_
        refine aw_sub [(0, .ref (gad G 13))] [0] rfl ?_
        exact t_Rdr_readSnip_87 C CR0 E hnL hgd hgr hgs (0 : Int32) _ hf
  · have hf := iff_ c1 hf
    refine aw_aload_n C 0 0 (j := 0) rfl rfl (by decide +kernel) rfl ?_
    refine aw_iconst C (i0 := 4) (v := 4) (by decide) (by decide +kernel) rfl ?_
    refine aw_aload_n C 0 0 (j := 0) rfl rfl (by decide +kernel) rfl ?_
    refine aw_get C (k := 6) fc_8 (lc_13 E) rfl (by decide) tb_172 (by decide +kernel) rfl ?_
    obtain ⟨q7, hq7, hf⟩ := ibd hf
    refine aw_callV C (rest := []) (c_Rdr_fail E (4 : Int32) (st.1 13 6) _ q7 hq7) tb_488 yf_36 yi_36 (lc_13 E) [.int (4 : Int32), .int (st.1 13 6)] rfl rfl _ rfl (Nat.le_trans (by decide) hgd) (Nat.le_of_ble_eq_true rfl) (by decide +kernel) rfl ?_
    show AW _ _ _ _ []
    exact aw_vretq C CR0 hgr hgs hf (by decide +kernel)
theorem t_Rdr_readSnip {G : Cx} (C : CX G prog_10_method_10_code "PaperStars$Reader") (CR0 : CR G (Option.none)) (E : LCin (gly G)) (hnL : gnL G = 2) (hgd : 34 ≤ gd G) {q : Unit × Mm} (hgr : gr G = none) (hgs : gsf G = q.2) (st : Mm) (hf : f_Rdr_readSnip st = some q) : AW G st 0 [(0, .ref (gad G 13))] [] := by
  unfold f_Rdr_readSnip at hf
  refine aw_aload_n C 0 0 (j := 0) rfl rfl (by decide +kernel) rfl ?_
  obtain ⟨q1, hq1, hf⟩ := ibd hf
  refine aw_callV C (rest := []) (c_Rdr_look E _ q1 hq1) tb_484 yf_35 yi_35 (lc_13 E) [] rfl rfl _ rfl (Nat.le_trans (by decide) hgd) (Nat.le_of_ble_eq_true rfl) (by decide +kernel) rfl ?_
  show AW _ _ _ _ [.int q1.1]
  refine aw_istore_n C [(1, .int q1.1), (0, .ref (gad G 13))] (j := 1) rfl (by rw [hnL]; decide) rfl (by decide +kernel) rfl ?_
  refine aw_iload_n C 1 0 (j := 1) rfl rfl (by decide +kernel) rfl ?_
  refine aw_bipush C (i0 := 115) (v := 115) (by decide) (by decide +kernel) rfl ?_
  refine aw_icmp_eq C (tgt := 33) (off := 25) (by decide +kernel) (by decide) rfl (fun c2 => ?_) (fun c2 => ?_)
  · have hf := ift c2 hf
    refine aw_sub [(0, .ref (gad G 13)), (1, .int q1.1)] [1, 0] rfl ?_
    exact t_Rdr_readSnip_33 C CR0 E hnL hgd hgr hgs q1.1 _ hf
  · have hf := iff_ c2 hf
    refine aw_iload_n C 1 0 (j := 1) rfl rfl (by decide +kernel) rfl ?_
    refine aw_bipush C (i0 := 114) (v := 114) (by decide) (by decide +kernel) rfl ?_
    refine aw_icmp_eq C (tgt := 33) (off := 19) (by decide +kernel) (by decide) rfl (fun c3 => ?_) (fun c3 => ?_)
    · have hf := ift c3 hf
      refine aw_sub [(0, .ref (gad G 13)), (1, .int q1.1)] [1, 0] rfl ?_
      exact t_Rdr_readSnip_33 C CR0 E hnL hgd hgr hgs q1.1 _ hf
    · have hf := iff_ c3 hf
      refine aw_iload_n C 1 0 (j := 1) rfl rfl (by decide +kernel) rfl ?_
      refine aw_bipush C (i0 := 99) (v := 99) (by decide) (by decide +kernel) rfl ?_
      refine aw_icmp_eq C (tgt := 33) (off := 13) (by decide +kernel) (by decide) rfl (fun c4 => ?_) (fun c4 => ?_)
      · have hf := ift c4 hf
        refine aw_sub [(0, .ref (gad G 13)), (1, .int q1.1)] [1, 0] rfl ?_
        exact t_Rdr_readSnip_33 C CR0 E hnL hgd hgr hgs q1.1 _ hf
      · have hf := iff_ c4 hf
        refine aw_aload_n C 0 1 (j := 0) rfl rfl (by decide +kernel) rfl ?_
        refine aw_iconst C (i0 := 1) (v := 1) (by decide) (by decide +kernel) rfl ?_
        refine aw_aload_n C 0 1 (j := 0) rfl rfl (by decide +kernel) rfl ?_
        refine aw_get C (k := 6) fc_8 (lc_13 E) rfl (by decide) tb_172 (by decide +kernel) rfl ?_
        obtain ⟨q5, hq5, hf⟩ := ibd hf
        refine aw_callV C (rest := []) (c_Rdr_fail E (1 : Int32) (q1.2.1 13 6) _ q5 hq5) tb_488 yf_36 yi_36 (lc_13 E) [.int (1 : Int32), .int (q1.2.1 13 6)] rfl rfl _ rfl (Nat.le_trans (by decide) hgd) (Nat.le_of_ble_eq_true rfl) (by decide +kernel) rfl ?_
        show AW _ _ _ _ []
        exact aw_vretq C CR0 hgr hgs hf (by decide +kernel)
theorem c_Rdr_readSnip {lay : Ly} (E : LCin lay) (st : Mm) (q : Unit × Mm) (hf : f_Rdr_readSnip st = some q) : Con 34 Y37 prog_10_method_10_code 2 (Option.none) lay (fun ad => [.ref (ad 13)]) st (none) q.2 :=
  am_met yf_37.2.2.2.2.2 (fun ad => Nat.le_of_ble_eq_true rfl) (fun G C CR0 e1 e2 e3 e4 e5 => t_Rdr_readSnip C CR0 (by rw [e1]; exact E) e2 (Nat.le_of_eq e5.symm) e3 e4 st hf)
def b_Rdr_read_56 (k17 : Int32 → Int32 → Mm → Option (Int32 × Mm)) (v5 : Int32) (s0 : Int32) (st : Mm) : Option (Int32 × Mm) :=
  if s0 = 0 then (lt_ (v5 + (1 : Int32)) (fun a2 => k17 s0 a2 st)) else ((f_Rdr_take (59 : Int32) st).bind (fun q3 => lt_ (v5 + (1 : Int32)) (fun a4 => k17 s0 a4 q3.2)))
def b_Rdr_read_75 (st : Mm) : Option (Int32 × Mm) :=
  if (st.1 13 7) = 0 then (some ((st.1 13 10), st)) else (some ((((-1000 : Int32) * (st.1 13 7)) - (st.1 13 8)), st))
def b_Rdr_read_17 (k17 : Int32 → Int32 → Mm → Option (Int32 × Mm)) (v4 : Int32) (v5 : Int32) (st : Mm) : Option (Int32 × Mm) :=
  if (12 : Int32) < v5 then (b_Rdr_read_75 st) else (if (st.1 13 7) = 0 then (if v4 = 0 then (b_Rdr_read_75 st) else ((f_Rdr_readSnip st).bind (fun q4 => if (q4.2.1 13 5) ≤ (q4.2.1 13 6) then (b_Rdr_read_56 k17 v5 (0 : Int32) q4.2) else (b_Rdr_read_56 k17 v5 (1 : Int32) q4.2)))) else (b_Rdr_read_75 st))
def f_Rdr_read_17 : Nat → Int32 → Int32 → Mm → Option (Int32 × Mm)
  | 0 => fun _ _ _ => none
  | n + 1 => b_Rdr_read_17 (f_Rdr_read_17 n)
def f_Rdr_read (v2 : Int32) (v3 : Int32) (st : Mm) : Option (Int32 × Mm) :=
  (f_Rdr_begin v2 v3 st).bind (fun q1 => (f_Rdr_readFolds q1.2).bind (fun q2 => f_Rdr_read_17 1000000 (1 : Int32) (0 : Int32) q2.2))
theorem t_Rdr_read_56 {G : Cx} (C : CX G prog_10_method_2_code "PaperStars$Reader") (CR0 : CR G (Option.some FieldType.int)) (E : LCin (gly G)) (hnL : gnL G = 6) (hgd : 35 ≤ gd G) {q : Int32 × Mm} (hgr : gr G = some (.int q.1)) (hgs : gsf G = q.2) (k17 : Int32 → Int32 → Mm → Option (Int32 × Mm)) (hk17 : ∀ (v4 : Int32) (v5 : Int32) (st : Mm), k17 v4 v5 st = some q → AW G st 17 [(0, .ref (gad G 13)), (4, .int v4), (5, .int v5)] []) (v5 : Int32) (s0 : Int32) (st : Mm) (hf : b_Rdr_read_56 k17 v5 s0 st = some q) : AW G st 56 [(0, .ref (gad G 13)), (5, .int v5)] [.int s0] := by
  unfold b_Rdr_read_56 at hf
  refine aw_istore C [(4, .int s0), (0, .ref (gad G 13)), (5, .int v5)] (by rw [hnL]; decide) rfl (by decide +kernel) rfl ?_
  refine aw_iload C 4 0 rfl (by decide +kernel) rfl ?_
  refine aw_if_eq C (tgt := 69) (off := 9) (by decide +kernel) (by decide) rfl (fun c1 => ?_) (fun c1 => ?_)
  · have hf := ift c1 hf
    obtain ⟨a2, ha2⟩ : ∃ z, z = (v5 + (1 : Int32)) := ⟨_, rfl⟩
    have hf := ilt ha2 hf
    refine aw_iinc C [(5, .int a2), (4, .int s0), (0, .ref (gad G 13))] 2 (n := 1) rfl (by rw [ha2]; rfl) (by rw [hnL]; decide) rfl (by decide +kernel) rfl ?_
    refine aw_goto C (tgt := 17) (off := -55) (by decide +kernel) (by decide) ?_
    refine aw_sub [(0, .ref (gad G 13)), (4, .int s0), (5, .int a2)] [2, 1, 0] rfl ?_
    exact hk17 s0 a2 _ hf
  · have hf := iff_ c1 hf
    refine aw_aload_n C 0 1 (j := 0) rfl rfl (by decide +kernel) rfl ?_
    refine aw_bipush C (i0 := 59) (v := 59) (by decide) (by decide +kernel) rfl ?_
    obtain ⟨q3, hq3, hf⟩ := ibd hf
    refine aw_callV C (rest := []) (c_Rdr_take E (59 : Int32) _ q3 hq3) tb_501 yf_39 yi_39 (lc_13 E) [.int (59 : Int32)] rfl rfl _ rfl (Nat.le_trans (by decide) hgd) (Nat.le_of_ble_eq_true rfl) (by decide +kernel) rfl ?_
    show AW _ _ _ _ []
    obtain ⟨a4, ha4⟩ : ∃ z, z = (v5 + (1 : Int32)) := ⟨_, rfl⟩
    have hf := ilt ha4 hf
    refine aw_iinc C [(5, .int a4), (4, .int s0), (0, .ref (gad G 13))] 2 (n := 1) rfl (by rw [ha4]; rfl) (by rw [hnL]; decide) rfl (by decide +kernel) rfl ?_
    refine aw_goto C (tgt := 17) (off := -55) (by decide +kernel) (by decide) ?_
    refine aw_sub [(0, .ref (gad G 13)), (4, .int s0), (5, .int a4)] [2, 1, 0] rfl ?_
    exact hk17 s0 a4 _ hf
theorem t_Rdr_read_75 {G : Cx} (C : CX G prog_10_method_2_code "PaperStars$Reader") (CR0 : CR G (Option.some FieldType.int)) (E : LCin (gly G)) (hnL : gnL G = 6) (hgd : 35 ≤ gd G) {q : Int32 × Mm} (hgr : gr G = some (.int q.1)) (hgs : gsf G = q.2) (st : Mm) (hf : b_Rdr_read_75 st = some q) : AW G st 75 [(0, .ref (gad G 13))] [] := by
  unfold b_Rdr_read_75 at hf
  refine aw_aload_n C 0 0 (j := 0) rfl rfl (by decide +kernel) rfl ?_
  refine aw_get C (k := 7) fc_8 (lc_13 E) rfl (by decide) tb_173 (by decide +kernel) rfl ?_
  refine aw_if_ne C (tgt := 89) (off := 10) (by decide +kernel) (by decide) rfl (fun c1 => ?_) (fun c1 => ?_)
  · have hf := ift c1 hf
    refine aw_aload_n C 0 0 (j := 0) rfl rfl (by decide +kernel) rfl ?_
    refine aw_get C (k := 10) fc_8 (lc_13 E) rfl (by decide) tb_176 (by decide +kernel) rfl ?_
    refine aw_goto C (tgt := 102) (off := 16) (by decide +kernel) (by decide) ?_
    exact aw_iretq C CR0 hgr hgs hf (by decide +kernel)
  · have hf := iff_ c1 hf
    refine aw_sipush C (i0 := -1000) (v := -1000) (by decide) (by decide +kernel) rfl ?_
    refine aw_aload_n C 0 0 (j := 0) rfl rfl (by decide +kernel) rfl ?_
    refine aw_get C (k := 7) fc_8 (lc_13 E) rfl (by decide) tb_173 (by decide +kernel) rfl ?_
    refine aw_imul C (by decide +kernel) rfl ?_
    refine aw_aload_n C 0 0 (j := 0) rfl rfl (by decide +kernel) rfl ?_
    refine aw_get C (k := 8) fc_8 (lc_13 E) rfl (by decide) tb_174 (by decide +kernel) rfl ?_
    refine aw_isub C (by decide +kernel) rfl ?_
    exact aw_iretq C CR0 hgr hgs hf (by decide +kernel)
theorem t_Rdr_read_17 {G : Cx} (C : CX G prog_10_method_2_code "PaperStars$Reader") (CR0 : CR G (Option.some FieldType.int)) (E : LCin (gly G)) (hnL : gnL G = 6) (hgd : 35 ≤ gd G) {q : Int32 × Mm} (hgr : gr G = some (.int q.1)) (hgs : gsf G = q.2) (k17 : Int32 → Int32 → Mm → Option (Int32 × Mm)) (hk17 : ∀ (v4 : Int32) (v5 : Int32) (st : Mm), k17 v4 v5 st = some q → AW G st 17 [(0, .ref (gad G 13)), (4, .int v4), (5, .int v5)] []) (v4 : Int32) (v5 : Int32) (st : Mm) (hf : b_Rdr_read_17 k17 v4 v5 st = some q) : AW G st 17 [(0, .ref (gad G 13)), (4, .int v4), (5, .int v5)] [] := by
  unfold b_Rdr_read_17 at hf
  refine aw_iload C 5 2 rfl (by decide +kernel) rfl ?_
  refine aw_bipush C (i0 := 12) (v := 12) (by decide) (by decide +kernel) rfl ?_
  refine aw_icmp_gt C (tgt := 75) (off := 54) (by decide +kernel) (by decide) rfl (fun c1 => ?_) (fun c1 => ?_)
  · have hf := ift c1 hf
    refine aw_sub [(0, .ref (gad G 13))] [0] rfl ?_
    exact t_Rdr_read_75 C CR0 E hnL hgd hgr hgs _ hf
  · have hf := iff_ c1 hf
    refine aw_aload_n C 0 0 (j := 0) rfl rfl (by decide +kernel) rfl ?_
    refine aw_get C (k := 7) fc_8 (lc_13 E) rfl (by decide) tb_173 (by decide +kernel) rfl ?_
    refine aw_if_ne C (tgt := 75) (off := 47) (by decide +kernel) (by decide) rfl (fun c2 => ?_) (fun c2 => ?_)
    · have hf := ift c2 hf
      refine aw_iload C 4 1 rfl (by decide +kernel) rfl ?_
      refine aw_if_eq C (tgt := 75) (off := 42) (by decide +kernel) (by decide) rfl (fun c3 => ?_) (fun c3 => ?_)
      · have hf := ift c3 hf
        refine aw_sub [(0, .ref (gad G 13))] [0] rfl ?_
        exact t_Rdr_read_75 C CR0 E hnL hgd hgr hgs _ hf
      · have hf := iff_ c3 hf
        refine aw_aload_n C 0 0 (j := 0) rfl rfl (by decide +kernel) rfl ?_
        obtain ⟨q4, hq4, hf⟩ := ibd hf
        refine aw_callV C (rest := []) (c_Rdr_readSnip E _ q4 hq4) tb_493 yf_37 yi_37 (lc_13 E) [] rfl rfl _ rfl (Nat.le_trans (by decide) hgd) (Nat.le_of_ble_eq_true rfl) (by decide +kernel) rfl ?_
        show AW _ _ _ _ []
        refine aw_aload_n C 0 0 (j := 0) rfl rfl (by decide +kernel) rfl ?_
        refine aw_get C (k := 6) fc_8 (lc_13 E) rfl (by decide) tb_172 (by decide +kernel) rfl ?_
        refine aw_aload_n C 0 0 (j := 0) rfl rfl (by decide +kernel) rfl ?_
        refine aw_get C (k := 5) fc_8 (lc_13 E) rfl (by decide) tb_171 (by decide +kernel) rfl ?_
        refine aw_icmp_ge C (tgt := 55) (off := 7) (by decide +kernel) (by decide) rfl (fun c5 => ?_) (fun c5 => ?_)
        · have hf := ift c5 hf
          refine aw_iconst C (i0 := 0) (v := 0) (by decide) (by decide +kernel) rfl ?_
          refine aw_sub [(0, .ref (gad G 13)), (5, .int v5)] [0, 2] rfl ?_
          exact t_Rdr_read_56 C CR0 E hnL hgd hgr hgs k17 hk17 v5 (0 : Int32) _ hf
        · have hf := iff_ c5 hf
          refine aw_iconst C (i0 := 1) (v := 1) (by decide) (by decide +kernel) rfl ?_
          refine aw_goto C (tgt := 56) (off := 4) (by decide +kernel) (by decide) ?_
          refine aw_sub [(0, .ref (gad G 13)), (5, .int v5)] [0, 2] rfl ?_
          exact t_Rdr_read_56 C CR0 E hnL hgd hgr hgs k17 hk17 v5 (1 : Int32) _ hf
    · have hf := iff_ c2 hf
      refine aw_sub [(0, .ref (gad G 13))] [0] rfl ?_
      exact t_Rdr_read_75 C CR0 E hnL hgd hgr hgs _ hf
theorem u_Rdr_read_17 {G : Cx} (C : CX G prog_10_method_2_code "PaperStars$Reader") (CR0 : CR G (Option.some FieldType.int)) (E : LCin (gly G)) (hnL : gnL G = 6) (hgd : 35 ≤ gd G) {q : Int32 × Mm} (hgr : gr G = some (.int q.1)) (hgs : gsf G = q.2) : ∀ (n : Nat) (v4 : Int32) (v5 : Int32) (st : Mm), f_Rdr_read_17 n v4 v5 st = some q → AW G st 17 [(0, .ref (gad G 13)), (4, .int v4), (5, .int v5)] [] := by
  intro n
  induction n with
  | zero => intro v4 v5 st hf; cases hf
  | succ n ih => intro v4 v5 st hf; exact t_Rdr_read_17 C CR0 E hnL hgd hgr hgs (f_Rdr_read_17 n) ih v4 v5 st hf
theorem t_Rdr_read {G : Cx} (C : CX G prog_10_method_2_code "PaperStars$Reader") (CR0 : CR G (Option.some FieldType.int)) (E : LCin (gly G)) (hnL : gnL G = 6) (hgd : 35 ≤ gd G) {q : Int32 × Mm} (hgr : gr G = some (.int q.1)) (hgs : gsf G = q.2) (v2 : Int32) (v3 : Int32) (st : Mm) (hf : f_Rdr_read v2 v3 st = some q) : AW G st 0 [(0, .ref (gad G 13)), (1, .ref (gad G 11)), (2, .int v2), (3, .int v3)] [] := by
  unfold f_Rdr_read at hf
  refine aw_aload_n C 0 0 (j := 0) rfl rfl (by decide +kernel) rfl ?_
  refine aw_aload_n C 1 1 (j := 1) rfl rfl (by decide +kernel) rfl ?_
  refine aw_iload_n C 2 2 (j := 2) rfl rfl (by decide +kernel) rfl ?_
  refine aw_iload_n C 3 3 (j := 3) rfl rfl (by decide +kernel) rfl ?_
  obtain ⟨q1, hq1, hf⟩ := ibd hf
  refine aw_callV C (rest := []) (c_Rdr_begin E v2 v3 _ q1 hq1) tb_463 yf_29 yi_29 (lc_13 E) [.ref (gad G 11), .int v2, .int v3] rfl rfl _ rfl (Nat.le_trans (by decide) hgd) (Nat.le_of_ble_eq_true rfl) (by decide +kernel) rfl ?_
  show AW _ _ _ _ []
  refine aw_aload_n C 0 0 (j := 0) rfl rfl (by decide +kernel) rfl ?_
  obtain ⟨q2, hq2, hf⟩ := ibd hf
  refine aw_callV C (rest := []) (c_Rdr_readFolds E _ q2 hq2) tb_480 yf_34 yi_34 (lc_13 E) [] rfl rfl _ rfl (Nat.le_trans (by decide) hgd) (Nat.le_of_ble_eq_true rfl) (by decide +kernel) rfl ?_
  show AW _ _ _ _ []
  refine aw_iconst C (i0 := 1) (v := 1) (by decide) (by decide +kernel) rfl ?_
  refine aw_istore C [(4, .int (1 : Int32)), (0, .ref (gad G 13)), (1, .ref (gad G 11)), (2, .int v2), (3, .int v3)] (by rw [hnL]; decide) rfl (by decide +kernel) rfl ?_
  refine aw_iconst C (i0 := 0) (v := 0) (by decide) (by decide +kernel) rfl ?_
  refine aw_istore C [(5, .int (0 : Int32)), (4, .int (1 : Int32)), (0, .ref (gad G 13)), (1, .ref (gad G 11)), (2, .int v2), (3, .int v3)] (by rw [hnL]; decide) rfl (by decide +kernel) rfl ?_
  refine aw_sub [(0, .ref (gad G 13)), (4, .int (1 : Int32)), (5, .int (0 : Int32))] [2, 1, 0] rfl ?_
  exact u_Rdr_read_17 C CR0 E hnL hgd hgr hgs _ (1 : Int32) (0 : Int32) _ hf
theorem c_Rdr_read {lay : Ly} (E : LCin lay) (v2 : Int32) (v3 : Int32) (st : Mm) (q : Int32 × Mm) (hf : f_Rdr_read v2 v3 st = some q) : Con 35 Y28 prog_10_method_2_code 6 (Option.some FieldType.int) lay (fun ad => [.ref (ad 13), .ref (ad 11), .int v2, .int v3]) st (some (.int q.1)) q.2 :=
  am_met yf_28.2.2.2.2.2 (fun ad => Nat.le_of_ble_eq_true rfl) (fun G C CR0 e1 e2 e3 e4 e5 => t_Rdr_read C CR0 (by rw [e1]; exact E) e2 (Nat.le_of_eq e5.symm) e3 e4 v2 v3 st hf)
def f_x_recipe (v1 : Int32) (st : Mm) : Option (Int32 × Mm) :=
  if v1 < (1 : Int32) then (some ((-1 : Int32), st)) else (if (160 : Int32) < v1 then (some ((-1 : Int32), st)) else (if v1 ≤ (st.1 11 0) then ((f_Rdr_read v1 (st.1 1 0) st).bind (fun q4 => if q4.1 ≤ 0 then (some (q4.1, (sI q4.2 11 0 (0 : Int32)))) else ((f_Rdr_handTo (sI q4.2 11 0 (0 : Int32))).bind (fun q6 => (f_x_reopen q6.2).bind (fun q7 => some (q4.1, q7.2)))))) else (some ((-1 : Int32), st))))
theorem t_x_recipe {G : Cx} (C : CX G prog_1_method_4_code "PaperStars") (CR0 : CR G (Option.some FieldType.int)) (E : LCin (gly G)) (hnL : gnL G = 3) (hgd : 36 ≤ gd G) {q : Int32 × Mm} (hgr : gr G = some (.int q.1)) (hgs : gsf G = q.2) (v1 : Int32) (st : Mm) (hf : f_x_recipe v1 st = some q) : AW G st 0 [(0, .ref (gad G 0)), (1, .int v1)] [] := by
  unfold f_x_recipe at hf
  refine aw_iload_n C 1 1 (j := 1) rfl rfl (by decide +kernel) rfl ?_
  refine aw_iconst C (i0 := 1) (v := 1) (by decide) (by decide +kernel) rfl ?_
  refine aw_icmp_lt C (tgt := 23) (off := 21) (by decide +kernel) (by decide) rfl (fun c1 => ?_) (fun c1 => ?_)
  · have hf := ift c1 hf
    refine aw_iconst C (i0 := -1) (v := -1) (by decide) (by decide +kernel) rfl ?_
    exact aw_iretq C CR0 hgr hgs hf (by decide +kernel)
  · have hf := iff_ c1 hf
    refine aw_iload_n C 1 1 (j := 1) rfl rfl (by decide +kernel) rfl ?_
    refine aw_sipush C (i0 := 160) (v := 160) (by decide) (by decide +kernel) rfl ?_
    refine aw_icmp_gt C (tgt := 23) (off := 14) (by decide +kernel) (by decide) rfl (fun c2 => ?_) (fun c2 => ?_)
    · have hf := ift c2 hf
      refine aw_iconst C (i0 := -1) (v := -1) (by decide) (by decide +kernel) rfl ?_
      exact aw_iretq C CR0 hgr hgs hf (by decide +kernel)
    · have hf := iff_ c2 hf
      refine aw_iload_n C 1 1 (j := 1) rfl rfl (by decide +kernel) rfl ?_
      refine aw_aload_n C 0 0 (j := 0) rfl rfl (by decide +kernel) rfl ?_
      refine aw_getr C (k := 2) fc_11 (lc_0 E) rfl (by decide) tb_398 (by decide +kernel) rfl ?_
      refine aw_get C (k := 0) fc_10 (lc_11 E) rfl (by decide) tb_81 (by decide +kernel) rfl ?_
      refine aw_icmp_le C (tgt := 25) (off := 5) (by decide +kernel) (by decide) rfl (fun c3 => ?_) (fun c3 => ?_)
      · have hf := ift c3 hf
        refine aw_aload_n C 0 0 (j := 0) rfl rfl (by decide +kernel) rfl ?_
        refine aw_getr C (k := 3) fc_11 (lc_0 E) rfl (by decide) tb_399 (by decide +kernel) rfl ?_
        refine aw_aload_n C 0 0 (j := 0) rfl rfl (by decide +kernel) rfl ?_
        refine aw_getr C (k := 2) fc_11 (lc_0 E) rfl (by decide) tb_398 (by decide +kernel) rfl ?_
        refine aw_iload_n C 1 1 (j := 1) rfl rfl (by decide +kernel) rfl ?_
        refine aw_aload_n C 0 0 (j := 0) rfl rfl (by decide +kernel) rfl ?_
        refine aw_getr C (k := 0) fc_11 (lc_0 E) rfl (by decide) tb_396 (by decide +kernel) rfl ?_
        refine aw_get C (k := 0) fc_9 (lc_1 E) rfl (by decide) tb_37 (by decide +kernel) rfl ?_
        obtain ⟨q4, hq4, hf⟩ := ibd hf
        refine aw_callV C (rest := []) (c_Rdr_read E v1 (st.1 1 0) _ q4 hq4) tb_459 yf_28 yi_28 (lc_13 E) [.ref (gad G 11), .int v1, .int (st.1 1 0)] rfl rfl _ rfl (Nat.le_trans (by decide) hgd) (Nat.le_of_ble_eq_true rfl) (by decide +kernel) rfl ?_
        show AW _ _ _ _ [.int q4.1]
        refine aw_istore_n C [(2, .int q4.1), (0, .ref (gad G 0)), (1, .int v1)] (j := 2) rfl (by rw [hnL]; decide) rfl (by decide +kernel) rfl ?_
        refine aw_aload_n C 0 1 (j := 0) rfl rfl (by decide +kernel) rfl ?_
        refine aw_getr C (k := 2) fc_11 (lc_0 E) rfl (by decide) tb_398 (by decide +kernel) rfl ?_
        refine aw_iconst C (i0 := 0) (v := 0) (by decide) (by decide +kernel) rfl ?_
        refine aw_put C (k := 0) fc_10 (lc_11 E) rfl (by decide) rfl rfl tb_81 (by decide +kernel) rfl ?_
        refine aw_iload_n C 2 0 (j := 2) rfl rfl (by decide +kernel) rfl ?_
        refine aw_if_le C (tgt := 72) (off := 18) (by decide +kernel) (by decide) rfl (fun c5 => ?_) (fun c5 => ?_)
        · have hf := ift c5 hf
          refine aw_iload_n C 2 0 (j := 2) rfl rfl (by decide +kernel) rfl ?_
          exact aw_iretq C CR0 hgr hgs hf (by decide +kernel)
        · have hf := iff_ c5 hf
          refine aw_aload_n C 0 1 (j := 0) rfl rfl (by decide +kernel) rfl ?_
          refine aw_getr C (k := 3) fc_11 (lc_0 E) rfl (by decide) tb_399 (by decide +kernel) rfl ?_
          refine aw_aload_n C 0 1 (j := 0) rfl rfl (by decide +kernel) rfl ?_
          refine aw_getr C (k := 0) fc_11 (lc_0 E) rfl (by decide) tb_396 (by decide +kernel) rfl ?_
          obtain ⟨q6, hq6, hf⟩ := ibd hf
          refine aw_callV C (rest := []) (c_Rdr_handTo E _ q6 hq6) tb_587 yf_60 yi_60 (lc_13 E) [.ref (gad G 1)] rfl rfl _ rfl (Nat.le_trans (by decide) hgd) (Nat.le_of_ble_eq_true rfl) (by decide +kernel) rfl ?_
          show AW _ _ _ _ []
          refine aw_aload_n C 0 1 (j := 0) rfl rfl (by decide +kernel) rfl ?_
          obtain ⟨q7, hq7, hf⟩ := ibd hf
          refine aw_callV C (rest := []) (c_x_reopen E _ q7 hq7) tb_359 yf_14 yi_14 (lc_0 E) [] rfl rfl _ rfl (Nat.le_trans (by decide) hgd) (Nat.le_of_ble_eq_true rfl) (by decide +kernel) rfl ?_
          show AW _ _ _ _ []
          refine aw_iload_n C 2 0 (j := 2) rfl rfl (by decide +kernel) rfl ?_
          exact aw_iretq C CR0 hgr hgs hf (by decide +kernel)
      · have hf := iff_ c3 hf
        refine aw_iconst C (i0 := -1) (v := -1) (by decide) (by decide +kernel) rfl ?_
        exact aw_iretq C CR0 hgr hgs hf (by decide +kernel)
theorem c_x_recipe {lay : Ly} (E : LCin lay) (v1 : Int32) (st : Mm) (q : Int32 × Mm) (hf : f_x_recipe v1 st = some q) : Con 36 Y27 prog_1_method_4_code 3 (Option.some FieldType.int) lay (fun ad => [.ref (ad 0), .int v1]) st (some (.int q.1)) q.2 :=
  am_met yf_27.2.2.2.2.2 (fun ad => Nat.le_of_ble_eq_true rfl) (fun G C CR0 e1 e2 e3 e4 e5 => t_x_recipe C CR0 (by rw [e1]; exact E) e2 (Nat.le_of_eq e5.symm) e3 e4 v1 st hf)
def f_Fold_places (f0 f1 f2 : Nat) (st : Mm) : Option (Int32 × Mm) :=
  if (st.1 f0 3) = 0 then (some (((st.1 f0 1) * (st.1 f0 2)), st)) else (some ((((st.1 f0 1) * ((st.1 f0 1) + (1 : Int32))) / (2 : Int32)), st))
theorem t_Fold_places {G : Cx} (C : CX G prog_5_method_7_code "PaperStars$Folding") (CR0 : CR G (Option.some FieldType.int)) (f0 f1 f2 : Nat) (Ef : FoldAt (gly G) f0 f1 f2) (hnL : gnL G = 1) (hgd : 0 ≤ gd G) {q : Int32 × Mm} (hgr : gr G = some (.int q.1)) (hgs : gsf G = q.2) (st : Mm) (hf : f_Fold_places f0 f1 f2 st = some q) : AW G st 0 [(0, .ref (gad G f0))] [] := by
  unfold f_Fold_places at hf
  refine aw_aload_n C 0 0 (j := 0) rfl rfl (by decide +kernel) rfl ?_
  refine aw_get C (k := 3) fc_3 Ef.1 rfl (by decide) tb_114 (by decide +kernel) rfl ?_
  refine aw_if_eq C (tgt := 23) (off := 19) (by decide +kernel) (by decide) rfl (fun c1 => ?_) (fun c1 => ?_)
  · have hf := ift c1 hf
    refine aw_aload_n C 0 0 (j := 0) rfl rfl (by decide +kernel) rfl ?_
    refine aw_get C (k := 1) fc_3 Ef.1 rfl (by decide) tb_105 (by decide +kernel) rfl ?_
    refine aw_aload_n C 0 0 (j := 0) rfl rfl (by decide +kernel) rfl ?_
    refine aw_get C (k := 2) fc_3 Ef.1 rfl (by decide) tb_109 (by decide +kernel) rfl ?_
    refine aw_imul C (by decide +kernel) rfl ?_
    exact aw_iretq C CR0 hgr hgs hf (by decide +kernel)
  · have hf := iff_ c1 hf
    refine aw_aload_n C 0 0 (j := 0) rfl rfl (by decide +kernel) rfl ?_
    refine aw_get C (k := 1) fc_3 Ef.1 rfl (by decide) tb_105 (by decide +kernel) rfl ?_
    refine aw_aload_n C 0 0 (j := 0) rfl rfl (by decide +kernel) rfl ?_
    refine aw_get C (k := 1) fc_3 Ef.1 rfl (by decide) tb_105 (by decide +kernel) rfl ?_
    refine aw_iconst C (i0 := 1) (v := 1) (by decide) (by decide +kernel) rfl ?_
    refine aw_iadd C (by decide +kernel) rfl ?_
    refine aw_imul C (by decide +kernel) rfl ?_
    refine aw_iconst C (i0 := 2) (v := 2) (by decide) (by decide +kernel) rfl ?_
    refine aw_idiv C (by decide) (by decide +kernel) rfl ?_
    refine aw_goto C (tgt := 32) (off := 12) (by decide +kernel) (by decide) ?_
    exact aw_iretq C CR0 hgr hgs hf (by decide +kernel)
theorem c_Fold_places {lay : Ly} (f0 f1 f2 : Nat) (Ef : FoldAt lay f0 f1 f2) (st : Mm) (q : Int32 × Mm) (hf : f_Fold_places f0 f1 f2 st = some q) : Con 0 Y62 prog_5_method_7_code 1 (Option.some FieldType.int) lay (fun ad => [.ref (ad f0)]) st (some (.int q.1)) q.2 :=
  am_met yf_62.2.2.2.2.2 (fun ad => Nat.le_of_ble_eq_true rfl) (fun G C CR0 e1 e2 e3 e4 e5 => t_Fold_places C CR0 f0 f1 f2 (by rw [e1]; exact Ef) e2 (Nat.le_of_eq e5.symm) e3 e4 st hf)
def b_x_bitsOf_4 (ar : Nat) (k4 : Int32 → Int32 → Mm → Option (Int32 × Mm)) (v1 : Int32) (v2 : Int32) (st : Mm) : Option (Int32 × Mm) :=
  if (16 : Int32) ≤ v2 then (some (v1, st)) else (if inb v2 16 then (f_Int_bitCount (st.1 ar v2.toNatClampNeg) st).bind (fun q3 => lt_ (v1 + q3.1) (fun a4 => lt_ (v2 + (1 : Int32)) (fun a5 => k4 a4 a5 q3.2))) else none)
def f_x_bitsOf_4 (ar : Nat) : Nat → Int32 → Int32 → Mm → Option (Int32 × Mm)
  | 0 => fun _ _ _ => none
  | n + 1 => b_x_bitsOf_4 ar (f_x_bitsOf_4 ar n)
def f_x_bitsOf (ar : Nat) (st : Mm) : Option (Int32 × Mm) :=
  f_x_bitsOf_4 ar 1000000 (0 : Int32) (0 : Int32) st
theorem t_x_bitsOf_4 {G : Cx} (C : CX G prog_1_method_41_code "PaperStars") (CR0 : CR G (Option.some FieldType.int)) (ar : Nat) (Ear : (gly G)[ar]? = some (.inl (0, 16))) (hnL : gnL G = 3) (hgd : 1 ≤ gd G) {q : Int32 × Mm} (hgr : gr G = some (.int q.1)) (hgs : gsf G = q.2) (k4 : Int32 → Int32 → Mm → Option (Int32 × Mm)) (hk4 : ∀ (v1 : Int32) (v2 : Int32) (st : Mm), k4 v1 v2 st = some q → AW G st 4 [(0, .ref (gad G ar)), (1, .int v1), (2, .int v2)] []) (v1 : Int32) (v2 : Int32) (st : Mm) (hf : b_x_bitsOf_4 ar k4 v1 v2 st = some q) : AW G st 4 [(0, .ref (gad G ar)), (1, .int v1), (2, .int v2)] [] := by
  unfold b_x_bitsOf_4 at hf
  refine aw_iload_n C 2 2 (j := 2) rfl rfl (by decide +kernel) rfl ?_
  refine aw_bipush C (i0 := 16) (v := 16) (by decide) (by decide +kernel) rfl ?_
  refine aw_icmp_ge C (tgt := 25) (off := 18) (by decide +kernel) (by decide) rfl (fun c1 => ?_) (fun c1 => ?_)
  · have hf := ift c1 hf
    refine aw_iload_n C 1 1 (j := 1) rfl rfl (by decide +kernel) rfl ?_
    exact aw_iretq C CR0 hgr hgs hf (by decide +kernel)
  · have hf := iff_ c1 hf
    refine aw_iload_n C 1 1 (j := 1) rfl rfl (by decide +kernel) rfl ?_
    refine aw_aload_n C 0 0 (j := 0) rfl rfl (by decide +kernel) rfl ?_
    refine aw_iload_n C 2 2 (j := 2) rfl rfl (by decide +kernel) rfl ?_
    obtain ⟨g2, hf⟩ := igd hf
    refine aw_iald C Ear g2 (by decide +kernel) rfl ?_
    obtain ⟨q3, hq3, hf⟩ := ibd hf
    refine aw_callS C (rest := [.int v1]) (c_Int_bitCount (st.1 ar v2.toNatClampNeg) _ q3 hq3) tb_602 yf_64 tb_603 rfl _ rfl (Nat.le_trans (by decide) hgd) (Nat.le_of_ble_eq_true rfl) (by decide +kernel) rfl ?_
    show AW _ _ _ _ [.int q3.1, .int v1]
    refine aw_iadd C (by decide +kernel) rfl ?_
    obtain ⟨a4, ha4⟩ : ∃ z, z = (v1 + q3.1) := ⟨_, rfl⟩
    refine aw_nmi ha4 ?_
    have hf := ilt ha4 hf
    refine aw_istore_n C [(1, .int a4), (0, .ref (gad G ar)), (2, .int v2)] (j := 1) rfl (by rw [hnL]; decide) rfl (by decide +kernel) rfl ?_
    obtain ⟨a5, ha5⟩ : ∃ z, z = (v2 + (1 : Int32)) := ⟨_, rfl⟩
    have hf := ilt ha5 hf
    refine aw_iinc C [(2, .int a5), (1, .int a4), (0, .ref (gad G ar))] 2 (n := 1) rfl (by rw [ha5]; rfl) (by rw [hnL]; decide) rfl (by decide +kernel) rfl ?_
    refine aw_goto C (tgt := 4) (off := -18) (by decide +kernel) (by decide) ?_
    refine aw_sub [(0, .ref (gad G ar)), (1, .int a4), (2, .int a5)] [2, 1, 0] rfl ?_
    exact hk4 a4 a5 _ hf
theorem u_x_bitsOf_4 {G : Cx} (C : CX G prog_1_method_41_code "PaperStars") (CR0 : CR G (Option.some FieldType.int)) (ar : Nat) (Ear : (gly G)[ar]? = some (.inl (0, 16))) (hnL : gnL G = 3) (hgd : 1 ≤ gd G) {q : Int32 × Mm} (hgr : gr G = some (.int q.1)) (hgs : gsf G = q.2) : ∀ (n : Nat) (v1 : Int32) (v2 : Int32) (st : Mm), f_x_bitsOf_4 ar n v1 v2 st = some q → AW G st 4 [(0, .ref (gad G ar)), (1, .int v1), (2, .int v2)] [] := by
  intro n
  induction n with
  | zero => intro v1 v2 st hf; cases hf
  | succ n ih => intro v1 v2 st hf; exact t_x_bitsOf_4 C CR0 ar Ear hnL hgd hgr hgs (f_x_bitsOf_4 ar n) ih v1 v2 st hf
theorem t_x_bitsOf {G : Cx} (C : CX G prog_1_method_41_code "PaperStars") (CR0 : CR G (Option.some FieldType.int)) (ar : Nat) (Ear : (gly G)[ar]? = some (.inl (0, 16))) (hnL : gnL G = 3) (hgd : 1 ≤ gd G) {q : Int32 × Mm} (hgr : gr G = some (.int q.1)) (hgs : gsf G = q.2) (st : Mm) (hf : f_x_bitsOf ar st = some q) : AW G st 0 [(0, .ref (gad G ar))] [] := by
  unfold f_x_bitsOf at hf
  refine aw_iconst C (i0 := 0) (v := 0) (by decide) (by decide +kernel) rfl ?_
  refine aw_istore_n C [(1, .int (0 : Int32)), (0, .ref (gad G ar))] (j := 1) rfl (by rw [hnL]; decide) rfl (by decide +kernel) rfl ?_
  refine aw_iconst C (i0 := 0) (v := 0) (by decide) (by decide +kernel) rfl ?_
  refine aw_istore_n C [(2, .int (0 : Int32)), (1, .int (0 : Int32)), (0, .ref (gad G ar))] (j := 2) rfl (by rw [hnL]; decide) rfl (by decide +kernel) rfl ?_
  refine aw_sub [(0, .ref (gad G ar)), (1, .int (0 : Int32)), (2, .int (0 : Int32))] [2, 1, 0] rfl ?_
  exact u_x_bitsOf_4 C CR0 ar Ear hnL hgd hgr hgs _ (0 : Int32) (0 : Int32) _ hf
theorem c_x_bitsOf {lay : Ly} (ar : Nat) (Ear : lay[ar]? = some (.inl (0, 16))) (st : Mm) (q : Int32 × Mm) (hf : f_x_bitsOf ar st = some q) : Con 1 Y63 prog_1_method_41_code 3 (Option.some FieldType.int) lay (fun ad => [.ref (ad ar)]) st (some (.int q.1)) q.2 :=
  am_met yf_63.2.2.2.2.2 (fun ad => Nat.le_of_ble_eq_true rfl) (fun G C CR0 e1 e2 e3 e4 e5 => t_x_bitsOf C CR0 ar (by rw [e1]; exact Ear) e2 (Nat.le_of_eq e5.symm) e3 e4 st hf)
def f_x_wedge (v1 : Int32) (st : Mm) : Option (Int32 × Mm) :=
  if v1 = 0 then (some ((st.1 24 1), st)) else (if v1 = 1 then (some ((st.1 24 2), st)) else (if v1 = 2 then ((f_Fold_places 24 25 26 st).bind (fun q4 => some (q4.1, q4.2))) else (if v1 = 3 then ((f_x_bitsOf 3 st).bind (fun q6 => some (q6.1, q6.2))) else (if v1 = 4 then (some ((st.1 1 3), st)) else (if v1 = 5 then (if (st.1 24 3) = 0 then (some ((0 : Int32), st)) else (some ((1 : Int32), st))) else (some ((-1 : Int32), st)))))))
theorem t_x_wedge {G : Cx} (C : CX G prog_1_method_5_code "PaperStars") (CR0 : CR G (Option.some FieldType.int)) (E : LCin (gly G)) (hnL : gnL G = 2) (hgd : 2 ≤ gd G) {q : Int32 × Mm} (hgr : gr G = some (.int q.1)) (hgs : gsf G = q.2) (v1 : Int32) (st : Mm) (hf : f_x_wedge v1 st = some q) : AW G st 0 [(0, .ref (gad G 0)), (1, .int v1)] [] := by
  unfold f_x_wedge at hf
  refine aw_iload_n C 1 1 (j := 1) rfl rfl (by decide +kernel) rfl ?_
  by_cases w1 : v1 = 0
  · have hf := ift w1 hf
    refine aw_tin C (tgt := 40) (off := 39) (dflt := 98) (lo := 0) (hi := 5) (offs := #[39, 47, 55, 63, 74, 82]) (len := 39) (by decide +kernel) (by rw [w1]; decide) (by rw [w1]; decide) (by rw [w1]; decide) (by decide) ?_
    refine aw_aload_n C 0 0 (j := 0) rfl rfl (by decide +kernel) rfl ?_
    refine aw_getr C (k := 4) fc_11 (lc_0 E) rfl (by decide) tb_400 (by decide +kernel) rfl ?_
    refine aw_get C (k := 1) fc_3 (lc_24 E) rfl (by decide) tb_107 (by decide +kernel) rfl ?_
    exact aw_iretq C CR0 hgr hgs hf (by decide +kernel)
  · have hf := iff_ w1 hf
    by_cases w2 : v1 = 1
    · have hf := ift w2 hf
      refine aw_tin C (tgt := 48) (off := 47) (dflt := 98) (lo := 0) (hi := 5) (offs := #[39, 47, 55, 63, 74, 82]) (len := 39) (by decide +kernel) (by rw [w2]; decide) (by rw [w2]; decide) (by rw [w2]; decide) (by decide) ?_
      refine aw_aload_n C 0 0 (j := 0) rfl rfl (by decide +kernel) rfl ?_
      refine aw_getr C (k := 4) fc_11 (lc_0 E) rfl (by decide) tb_400 (by decide +kernel) rfl ?_
      refine aw_get C (k := 2) fc_3 (lc_24 E) rfl (by decide) tb_111 (by decide +kernel) rfl ?_
      exact aw_iretq C CR0 hgr hgs hf (by decide +kernel)
    · have hf := iff_ w2 hf
      by_cases w3 : v1 = 2
      · have hf := ift w3 hf
        refine aw_tin C (tgt := 56) (off := 55) (dflt := 98) (lo := 0) (hi := 5) (offs := #[39, 47, 55, 63, 74, 82]) (len := 39) (by decide +kernel) (by rw [w3]; decide) (by rw [w3]; decide) (by rw [w3]; decide) (by decide) ?_
        refine aw_aload_n C 0 0 (j := 0) rfl rfl (by decide +kernel) rfl ?_
        refine aw_getr C (k := 4) fc_11 (lc_0 E) rfl (by decide) tb_400 (by decide +kernel) rfl ?_
        obtain ⟨q4, hq4, hf⟩ := ibd hf
        refine aw_callV C (rest := []) (c_Fold_places 24 25 26 ⟨(lc_24 E), (lc_25 E), (lc_26 E)⟩ _ q4 hq4) tb_595 yf_62 yi_62 (lc_24 E) [] rfl rfl _ rfl (Nat.le_trans (by decide) hgd) (Nat.le_of_ble_eq_true rfl) (by decide +kernel) rfl ?_
        show AW _ _ _ _ [.int q4.1]
        exact aw_iretq C CR0 hgr hgs hf (by decide +kernel)
      · have hf := iff_ w3 hf
        by_cases w5 : v1 = 3
        · have hf := ift w5 hf
          refine aw_tin C (tgt := 64) (off := 63) (dflt := 98) (lo := 0) (hi := 5) (offs := #[39, 47, 55, 63, 74, 82]) (len := 39) (by decide +kernel) (by rw [w5]; decide) (by rw [w5]; decide) (by rw [w5]; decide) (by decide) ?_
          refine aw_aload_n C 0 0 (j := 0) rfl rfl (by decide +kernel) rfl ?_
          refine aw_getr C (k := 0) fc_11 (lc_0 E) rfl (by decide) tb_396 (by decide +kernel) rfl ?_
          refine aw_getr C (k := 5) fc_9 (lc_1 E) rfl (by decide) tb_51 (by decide +kernel) rfl ?_
          obtain ⟨q6, hq6, hf⟩ := ibd hf
          refine aw_callS C (rest := []) (c_x_bitsOf 3 (lc_3 E) _ q6 hq6) tb_599 yf_63 tb_600 rfl _ rfl (Nat.le_trans (by decide) hgd) (Nat.le_of_ble_eq_true rfl) (by decide +kernel) rfl ?_
          show AW _ _ _ _ [.int q6.1]
          exact aw_iretq C CR0 hgr hgs hf (by decide +kernel)
        · have hf := iff_ w5 hf
          by_cases w7 : v1 = 4
          · have hf := ift w7 hf
            refine aw_tin C (tgt := 75) (off := 74) (dflt := 98) (lo := 0) (hi := 5) (offs := #[39, 47, 55, 63, 74, 82]) (len := 39) (by decide +kernel) (by rw [w7]; decide) (by rw [w7]; decide) (by rw [w7]; decide) (by decide) ?_
            refine aw_aload_n C 0 0 (j := 0) rfl rfl (by decide +kernel) rfl ?_
            refine aw_getr C (k := 0) fc_11 (lc_0 E) rfl (by decide) tb_396 (by decide +kernel) rfl ?_
            refine aw_get C (k := 3) fc_9 (lc_1 E) rfl (by decide) tb_45 (by decide +kernel) rfl ?_
            exact aw_iretq C CR0 hgr hgs hf (by decide +kernel)
          · have hf := iff_ w7 hf
            by_cases w8 : v1 = 5
            · have hf := ift w8 hf
              refine aw_tin C (tgt := 83) (off := 82) (dflt := 98) (lo := 0) (hi := 5) (offs := #[39, 47, 55, 63, 74, 82]) (len := 39) (by decide +kernel) (by rw [w8]; decide) (by rw [w8]; decide) (by rw [w8]; decide) (by decide) ?_
              refine aw_aload_n C 0 0 (j := 0) rfl rfl (by decide +kernel) rfl ?_
              refine aw_getr C (k := 4) fc_11 (lc_0 E) rfl (by decide) tb_400 (by decide +kernel) rfl ?_
              refine aw_get C (k := 3) fc_3 (lc_24 E) rfl (by decide) tb_116 (by decide +kernel) rfl ?_
              refine aw_if_eq C (tgt := 97) (off := 7) (by decide +kernel) (by decide) rfl (fun c9 => ?_) (fun c9 => ?_)
              · have hf := ift c9 hf
                refine aw_iconst C (i0 := 0) (v := 0) (by decide) (by decide +kernel) rfl ?_
                exact aw_iretq C CR0 hgr hgs hf (by decide +kernel)
              · have hf := iff_ c9 hf
                refine aw_iconst C (i0 := 1) (v := 1) (by decide) (by decide +kernel) rfl ?_
                refine aw_goto C (tgt := 98) (off := 4) (by decide +kernel) (by decide) ?_
                exact aw_iretq C CR0 hgr hgs hf (by decide +kernel)
            · have hf := iff_ w8 hf
              have zw1 := am_ne w1 (k := 0) (by decide)
              have zw2 := am_ne w2 (k := 1) (by decide)
              have zw3 := am_ne w3 (k := 2) (by decide)
              have zw5 := am_ne w5 (k := 3) (by decide)
              have zw7 := am_ne w7 (k := 4) (by decide)
              have zw8 := am_ne w8 (k := 5) (by decide)
              refine aw_tout C (tgt := 99) (dflt := 98) (lo := 0) (hi := 5) (offs := #[39, 47, 55, 63, 74, 82]) (len := 39) (by decide +kernel) (by omega) (by decide) ?_
              refine aw_iconst C (i0 := -1) (v := -1) (by decide) (by decide +kernel) rfl ?_
              exact aw_iretq C CR0 hgr hgs hf (by decide +kernel)
theorem c_x_wedge {lay : Ly} (E : LCin lay) (v1 : Int32) (st : Mm) (q : Int32 × Mm) (hf : f_x_wedge v1 st = some q) : Con 2 Y61 prog_1_method_5_code 2 (Option.some FieldType.int) lay (fun ad => [.ref (ad 0), .int v1]) st (some (.int q.1)) q.2 :=
  am_met yf_61.2.2.2.2.2 (fun ad => Nat.le_of_ble_eq_true rfl) (fun G C CR0 e1 e2 e3 e4 e5 => t_x_wedge C CR0 (by rw [e1]; exact E) e2 (Nat.le_of_eq e5.symm) e3 e4 v1 st hf)
def f_x_layers (v1 : Int32) (v2 : Int32) (st : Mm) : Option (Int32 × Mm) :=
  (f_Fold_holds 24 25 26 v1 v2 st).bind (fun q1 => if q1.1 = 0 then (some ((-1 : Int32), q1.2)) else ((f_Fold_thickness 24 25 26 v1 v2 q1.2).bind (fun q3 => some (q3.1, q3.2))))
theorem t_x_layers {G : Cx} (C : CX G prog_1_method_6_code "PaperStars") (CR0 : CR G (Option.some FieldType.int)) (E : LCin (gly G)) (hnL : gnL G = 3) (hgd : 1 ≤ gd G) {q : Int32 × Mm} (hgr : gr G = some (.int q.1)) (hgs : gsf G = q.2) (v1 : Int32) (v2 : Int32) (st : Mm) (hf : f_x_layers v1 v2 st = some q) : AW G st 0 [(0, .ref (gad G 0)), (1, .int v1), (2, .int v2)] [] := by
  unfold f_x_layers at hf
  refine aw_aload_n C 0 0 (j := 0) rfl rfl (by decide +kernel) rfl ?_
  refine aw_getr C (k := 4) fc_11 (lc_0 E) rfl (by decide) tb_400 (by decide +kernel) rfl ?_
  refine aw_iload_n C 1 1 (j := 1) rfl rfl (by decide +kernel) rfl ?_
  refine aw_iload_n C 2 2 (j := 2) rfl rfl (by decide +kernel) rfl ?_
  obtain ⟨q1, hq1, hf⟩ := ibd hf
  refine aw_callV C (rest := []) (c_Fold_holds 24 25 26 ⟨(lc_24 E), (lc_25 E), (lc_26 E)⟩ v1 v2 _ q1 hq1) tb_612 yf_21 yi_21 (lc_24 E) [.int v1, .int v2] rfl rfl _ rfl (Nat.le_trans (by decide) hgd) (Nat.le_of_ble_eq_true rfl) (by decide +kernel) rfl ?_
  show AW _ _ _ _ [.int q1.1]
  refine aw_if_eq C (tgt := 24) (off := 15) (by decide +kernel) (by decide) rfl (fun c2 => ?_) (fun c2 => ?_)
  · have hf := ift c2 hf
    refine aw_iconst C (i0 := -1) (v := -1) (by decide) (by decide +kernel) rfl ?_
    exact aw_iretq C CR0 hgr hgs hf (by decide +kernel)
  · have hf := iff_ c2 hf
    refine aw_aload_n C 0 0 (j := 0) rfl rfl (by decide +kernel) rfl ?_
    refine aw_getr C (k := 4) fc_11 (lc_0 E) rfl (by decide) tb_400 (by decide +kernel) rfl ?_
    refine aw_iload_n C 1 1 (j := 1) rfl rfl (by decide +kernel) rfl ?_
    refine aw_iload_n C 2 2 (j := 2) rfl rfl (by decide +kernel) rfl ?_
    obtain ⟨q3, hq3, hf⟩ := ibd hf
    refine aw_callV C (rest := []) (c_Fold_thickness 24 25 26 ⟨(lc_24 E), (lc_25 E), (lc_26 E)⟩ v1 v2 _ q3 hq3) tb_613 yf_53 yi_53 (lc_24 E) [.int v1, .int v2] rfl rfl _ rfl (Nat.le_trans (by decide) hgd) (Nat.le_of_ble_eq_true rfl) (by decide +kernel) rfl ?_
    show AW _ _ _ _ [.int q3.1]
    refine aw_goto C (tgt := 25) (off := 4) (by decide +kernel) (by decide) ?_
    exact aw_iretq C CR0 hgr hgs hf (by decide +kernel)
theorem c_x_layers {lay : Ly} (E : LCin lay) (v1 : Int32) (v2 : Int32) (st : Mm) (q : Int32 × Mm) (hf : f_x_layers v1 v2 st = some q) : Con 1 Y65 prog_1_method_6_code 3 (Option.some FieldType.int) lay (fun ad => [.ref (ad 0), .int v1, .int v2]) st (some (.int q.1)) q.2 :=
  am_met yf_65.2.2.2.2.2 (fun ad => Nat.le_of_ble_eq_true rfl) (fun G C CR0 e1 e2 e3 e4 e5 => t_x_layers C CR0 (by rw [e1]; exact E) e2 (Nat.le_of_eq e5.symm) e3 e4 v1 v2 st hf)
def f_x_snipped (v1 : Int32) (v2 : Int32) (st : Mm) : Option (Int32 × Mm) :=
  (f_Fold_holds 24 25 26 v1 v2 st).bind (fun q1 => if q1.1 = 0 then (some ((-1 : Int32), q1.2)) else ((f_x_cellAt v1 v2 q1.2).bind (fun q3 => (f_x_hasBit 3 q3.1 q3.2).bind (fun q4 => if q4.1 = 0 then (some ((0 : Int32), q4.2)) else (some ((1 : Int32), q4.2))))))
theorem t_x_snipped {G : Cx} (C : CX G prog_1_method_7_code "PaperStars") (CR0 : CR G (Option.some FieldType.int)) (E : LCin (gly G)) (hnL : gnL G = 3) (hgd : 1 ≤ gd G) {q : Int32 × Mm} (hgr : gr G = some (.int q.1)) (hgs : gsf G = q.2) (v1 : Int32) (v2 : Int32) (st : Mm) (hf : f_x_snipped v1 v2 st = some q) : AW G st 0 [(0, .ref (gad G 0)), (1, .int v1), (2, .int v2)] [] := by
  unfold f_x_snipped at hf
  refine aw_aload_n C 0 0 (j := 0) rfl rfl (by decide +kernel) rfl ?_
  refine aw_getr C (k := 4) fc_11 (lc_0 E) rfl (by decide) tb_400 (by decide +kernel) rfl ?_
  refine aw_iload_n C 1 1 (j := 1) rfl rfl (by decide +kernel) rfl ?_
  refine aw_iload_n C 2 2 (j := 2) rfl rfl (by decide +kernel) rfl ?_
  obtain ⟨q1, hq1, hf⟩ := ibd hf
  refine aw_callV C (rest := []) (c_Fold_holds 24 25 26 ⟨(lc_24 E), (lc_25 E), (lc_26 E)⟩ v1 v2 _ q1 hq1) tb_612 yf_21 yi_21 (lc_24 E) [.int v1, .int v2] rfl rfl _ rfl (Nat.le_trans (by decide) hgd) (Nat.le_of_ble_eq_true rfl) (by decide +kernel) rfl ?_
  show AW _ _ _ _ [.int q1.1]
  refine aw_if_ne C (tgt := 14) (off := 5) (by decide +kernel) (by decide) rfl (fun c2 => ?_) (fun c2 => ?_)
  · have hf := ift c2 hf
    refine aw_iconst C (i0 := -1) (v := -1) (by decide) (by decide +kernel) rfl ?_
    exact aw_iretq C CR0 hgr hgs hf (by decide +kernel)
  · have hf := iff_ c2 hf
    refine aw_aload_n C 0 0 (j := 0) rfl rfl (by decide +kernel) rfl ?_
    refine aw_getr C (k := 0) fc_11 (lc_0 E) rfl (by decide) tb_396 (by decide +kernel) rfl ?_
    refine aw_getr C (k := 5) fc_9 (lc_1 E) rfl (by decide) tb_51 (by decide +kernel) rfl ?_
    refine aw_iload_n C 1 1 (j := 1) rfl rfl (by decide +kernel) rfl ?_
    refine aw_iload_n C 2 2 (j := 2) rfl rfl (by decide +kernel) rfl ?_
    obtain ⟨q3, hq3, hf⟩ := ibd hf
    refine aw_callS C (rest := [.ref (gad G 3)]) (c_x_cellAt v1 v2 _ q3 hq3) tb_618 yf_22 tb_391 rfl _ rfl (Nat.le_trans (by decide) hgd) (Nat.le_of_ble_eq_true rfl) (by decide +kernel) rfl ?_
    show AW _ _ _ _ [.int q3.1, .ref (gad G 3)]
    obtain ⟨q4, hq4, hf⟩ := ibd hf
    refine aw_callS C (rest := []) (c_x_hasBit 3 (lc_3 E) q3.1 _ q4 hq4) tb_393 yf_23 tb_394 rfl _ rfl (Nat.le_trans (by decide) hgd) (Nat.le_of_ble_eq_true rfl) (by decide +kernel) rfl ?_
    show AW _ _ _ _ [.int q4.1]
    refine aw_if_eq C (tgt := 36) (off := 7) (by decide +kernel) (by decide) rfl (fun c5 => ?_) (fun c5 => ?_)
    · have hf := ift c5 hf
      refine aw_iconst C (i0 := 0) (v := 0) (by decide) (by decide +kernel) rfl ?_
      exact aw_iretq C CR0 hgr hgs hf (by decide +kernel)
    · have hf := iff_ c5 hf
      refine aw_iconst C (i0 := 1) (v := 1) (by decide) (by decide +kernel) rfl ?_
      refine aw_goto C (tgt := 37) (off := 4) (by decide +kernel) (by decide) ?_
      exact aw_iretq C CR0 hgr hgs hf (by decide +kernel)
theorem c_x_snipped {lay : Ly} (E : LCin lay) (v1 : Int32) (v2 : Int32) (st : Mm) (q : Int32 × Mm) (hf : f_x_snipped v1 v2 st = some q) : Con 1 Y66 prog_1_method_7_code 3 (Option.some FieldType.int) lay (fun ad => [.ref (ad 0), .int v1, .int v2]) st (some (.int q.1)) q.2 :=
  am_met yf_66.2.2.2.2.2 (fun ad => Nat.le_of_ble_eq_true rfl) (fun G C CR0 e1 e2 e3 e4 e5 => t_x_snipped C CR0 (by rw [e1]; exact E) e2 (Nat.le_of_eq e5.symm) e3 e4 v1 v2 st hf)
def f_x_isCell (v1 : Int32) (v2 : Int32) (st : Mm) : Option (Int32 × Mm) :=
  if v1 < 0 then (some ((0 : Int32), st)) else (if (st.1 1 0) ≤ v1 then (some ((0 : Int32), st)) else (if v2 < 0 then (some ((0 : Int32), st)) else (if (st.1 1 0) ≤ v2 then (some ((0 : Int32), st)) else (some ((1 : Int32), st)))))
theorem t_x_isCell {G : Cx} (C : CX G prog_1_method_37_code "PaperStars") (CR0 : CR G (Option.some FieldType.boolean)) (E : LCin (gly G)) (hnL : gnL G = 3) (hgd : 0 ≤ gd G) {q : Int32 × Mm} (hgr : gr G = some (.int q.1)) (hgs : gsf G = q.2) (v1 : Int32) (v2 : Int32) (st : Mm) (hf : f_x_isCell v1 v2 st = some q) : AW G st 0 [(0, .ref (gad G 0)), (1, .int v1), (2, .int v2)] [] := by
  unfold f_x_isCell at hf
  refine aw_iload_n C 1 1 (j := 1) rfl rfl (by decide +kernel) rfl ?_
  refine aw_if_lt C (tgt := 34) (off := 33) (by decide +kernel) (by decide) rfl (fun c1 => ?_) (fun c1 => ?_)
  · have hf := ift c1 hf
    refine aw_iconst C (i0 := 0) (v := 0) (by decide) (by decide +kernel) rfl ?_
    exact aw_zretq C CR0 hgr hgs (by decide) hf (by decide +kernel)
  · have hf := iff_ c1 hf
    refine aw_iload_n C 1 1 (j := 1) rfl rfl (by decide +kernel) rfl ?_
    refine aw_aload_n C 0 0 (j := 0) rfl rfl (by decide +kernel) rfl ?_
    refine aw_getr C (k := 0) fc_11 (lc_0 E) rfl (by decide) tb_396 (by decide +kernel) rfl ?_
    refine aw_get C (k := 0) fc_9 (lc_1 E) rfl (by decide) tb_37 (by decide +kernel) rfl ?_
    refine aw_icmp_ge C (tgt := 34) (off := 22) (by decide +kernel) (by decide) rfl (fun c2 => ?_) (fun c2 => ?_)
    · have hf := ift c2 hf
      refine aw_iconst C (i0 := 0) (v := 0) (by decide) (by decide +kernel) rfl ?_
      exact aw_zretq C CR0 hgr hgs (by decide) hf (by decide +kernel)
    · have hf := iff_ c2 hf
      refine aw_iload_n C 2 2 (j := 2) rfl rfl (by decide +kernel) rfl ?_
      refine aw_if_lt C (tgt := 34) (off := 18) (by decide +kernel) (by decide) rfl (fun c3 => ?_) (fun c3 => ?_)
      · have hf := ift c3 hf
        refine aw_iconst C (i0 := 0) (v := 0) (by decide) (by decide +kernel) rfl ?_
        exact aw_zretq C CR0 hgr hgs (by decide) hf (by decide +kernel)
      · have hf := iff_ c3 hf
        refine aw_iload_n C 2 2 (j := 2) rfl rfl (by decide +kernel) rfl ?_
        refine aw_aload_n C 0 0 (j := 0) rfl rfl (by decide +kernel) rfl ?_
        refine aw_getr C (k := 0) fc_11 (lc_0 E) rfl (by decide) tb_396 (by decide +kernel) rfl ?_
        refine aw_get C (k := 0) fc_9 (lc_1 E) rfl (by decide) tb_37 (by decide +kernel) rfl ?_
        refine aw_icmp_ge C (tgt := 34) (off := 7) (by decide +kernel) (by decide) rfl (fun c4 => ?_) (fun c4 => ?_)
        · have hf := ift c4 hf
          refine aw_iconst C (i0 := 0) (v := 0) (by decide) (by decide +kernel) rfl ?_
          exact aw_zretq C CR0 hgr hgs (by decide) hf (by decide +kernel)
        · have hf := iff_ c4 hf
          refine aw_iconst C (i0 := 1) (v := 1) (by decide) (by decide +kernel) rfl ?_
          refine aw_goto C (tgt := 35) (off := 4) (by decide +kernel) (by decide) ?_
          exact aw_zretq C CR0 hgr hgs (by decide) hf (by decide +kernel)
theorem c_x_isCell {lay : Ly} (E : LCin lay) (v1 : Int32) (v2 : Int32) (st : Mm) (q : Int32 × Mm) (hf : f_x_isCell v1 v2 st = some q) : Con 0 Y68 prog_1_method_37_code 3 (Option.some FieldType.boolean) lay (fun ad => [.ref (ad 0), .int v1, .int v2]) st (some (.int q.1)) q.2 :=
  am_met yf_68.2.2.2.2.2 (fun ad => Nat.le_of_ble_eq_true rfl) (fun G C CR0 e1 e2 e3 e4 e5 => t_x_isCell C CR0 (by rw [e1]; exact E) e2 (Nat.le_of_eq e5.symm) e3 e4 v1 v2 st hf)
def f_x_opened (v1 : Int32) (v2 : Int32) (st : Mm) : Option (Int32 × Mm) :=
  (f_x_isCell v1 v2 st).bind (fun q1 => if q1.1 = 0 then (some ((-1 : Int32), q1.2)) else ((f_x_cellAt v1 v2 q1.2).bind (fun q3 => (f_x_hasBit 31 q3.1 q3.2).bind (fun q4 => if q4.1 = 0 then (some ((0 : Int32), q4.2)) else (some ((1 : Int32), q4.2))))))
theorem t_x_opened {G : Cx} (C : CX G prog_1_method_8_code "PaperStars") (CR0 : CR G (Option.some FieldType.int)) (E : LCin (gly G)) (hnL : gnL G = 3) (hgd : 1 ≤ gd G) {q : Int32 × Mm} (hgr : gr G = some (.int q.1)) (hgs : gsf G = q.2) (v1 : Int32) (v2 : Int32) (st : Mm) (hf : f_x_opened v1 v2 st = some q) : AW G st 0 [(0, .ref (gad G 0)), (1, .int v1), (2, .int v2)] [] := by
  unfold f_x_opened at hf
  refine aw_aload_n C 0 0 (j := 0) rfl rfl (by decide +kernel) rfl ?_
  refine aw_iload_n C 1 1 (j := 1) rfl rfl (by decide +kernel) rfl ?_
  refine aw_iload_n C 2 2 (j := 2) rfl rfl (by decide +kernel) rfl ?_
  obtain ⟨q1, hq1, hf⟩ := ibd hf
  refine aw_callV C (rest := []) (c_x_isCell E v1 v2 _ q1 hq1) tb_623 yf_68 yi_68 (lc_0 E) [.int v1, .int v2] rfl rfl _ rfl (Nat.le_trans (by decide) hgd) (Nat.le_of_ble_eq_true rfl) (by decide +kernel) rfl ?_
  show AW _ _ _ _ [.int q1.1]
  refine aw_if_ne C (tgt := 11) (off := 5) (by decide +kernel) (by decide) rfl (fun c2 => ?_) (fun c2 => ?_)
  · have hf := ift c2 hf
    refine aw_iconst C (i0 := -1) (v := -1) (by decide) (by decide +kernel) rfl ?_
    exact aw_iretq C CR0 hgr hgs hf (by decide +kernel)
  · have hf := iff_ c2 hf
    refine aw_aload_n C 0 0 (j := 0) rfl rfl (by decide +kernel) rfl ?_
    refine aw_getr C (k := 6) fc_11 (lc_0 E) rfl (by decide) tb_402 (by decide +kernel) rfl ?_
    refine aw_getr C (k := 1) fc_6 (lc_30 E) rfl (by decide) tb_221 (by decide +kernel) rfl ?_
    refine aw_iload_n C 1 1 (j := 1) rfl rfl (by decide +kernel) rfl ?_
    refine aw_iload_n C 2 2 (j := 2) rfl rfl (by decide +kernel) rfl ?_
    obtain ⟨q3, hq3, hf⟩ := ibd hf
    refine aw_callS C (rest := [.ref (gad G 31)]) (c_x_cellAt v1 v2 _ q3 hq3) tb_618 yf_22 tb_391 rfl _ rfl (Nat.le_trans (by decide) hgd) (Nat.le_of_ble_eq_true rfl) (by decide +kernel) rfl ?_
    show AW _ _ _ _ [.int q3.1, .ref (gad G 31)]
    obtain ⟨q4, hq4, hf⟩ := ibd hf
    refine aw_callS C (rest := []) (c_x_hasBit 31 (lc_31 E) q3.1 _ q4 hq4) tb_393 yf_23 tb_394 rfl _ rfl (Nat.le_trans (by decide) hgd) (Nat.le_of_ble_eq_true rfl) (by decide +kernel) rfl ?_
    show AW _ _ _ _ [.int q4.1]
    refine aw_if_eq C (tgt := 33) (off := 7) (by decide +kernel) (by decide) rfl (fun c5 => ?_) (fun c5 => ?_)
    · have hf := ift c5 hf
      refine aw_iconst C (i0 := 0) (v := 0) (by decide) (by decide +kernel) rfl ?_
      exact aw_iretq C CR0 hgr hgs hf (by decide +kernel)
    · have hf := iff_ c5 hf
      refine aw_iconst C (i0 := 1) (v := 1) (by decide) (by decide +kernel) rfl ?_
      refine aw_goto C (tgt := 34) (off := 4) (by decide +kernel) (by decide) ?_
      exact aw_iretq C CR0 hgr hgs hf (by decide +kernel)
theorem c_x_opened {lay : Ly} (E : LCin lay) (v1 : Int32) (v2 : Int32) (st : Mm) (q : Int32 × Mm) (hf : f_x_opened v1 v2 st = some q) : Con 1 Y67 prog_1_method_8_code 3 (Option.some FieldType.int) lay (fun ad => [.ref (ad 0), .int v1, .int v2]) st (some (.int q.1)) q.2 :=
  am_met yf_67.2.2.2.2.2 (fun ad => Nat.le_of_ble_eq_true rfl) (fun G C CR0 e1 e2 e3 e4 e5 => t_x_opened C CR0 (by rw [e1]; exact E) e2 (Nat.le_of_eq e5.symm) e3 e4 v1 v2 st hf)
def b_x_cellBeside_45 (v2 : Int32) (v3 : Int32) (v4 : Int32) (st : Mm) : Option (Int32 × Mm) :=
  if v3 < 0 then (some ((-1 : Int32), st)) else (if v2 ≤ v3 then (some ((-1 : Int32), st)) else (if v4 < 0 then (some ((-1 : Int32), st)) else (if v2 ≤ v4 then (some ((-1 : Int32), st)) else ((f_x_cellAt v3 v4 st).bind (fun q5 => some (q5.1, q5.2))))))
def f_x_cellBeside (v0 : Int32) (v1 : Int32) (v2 : Int32) (st : Mm) : Option (Int32 × Mm) :=
  lt_ (v0 &&& (15 : Int32)) (fun a1 => lt_ (v0 >>> ((4 : Int32) &&& 31)) (fun a2 => if (2 : Int32) ≤ v1 then (if v1 = (2 : Int32) then (lt_ (a2 + (1 : Int32)) (fun a5 => b_x_cellBeside_45 v2 a1 a5 st)) else (lt_ (a2 + (-1 : Int32)) (fun a6 => b_x_cellBeside_45 v2 a1 a6 st))) else (if v1 = 0 then (lt_ (a1 + (1 : Int32)) (fun a8 => b_x_cellBeside_45 v2 a8 a2 st)) else (lt_ (a1 + (-1 : Int32)) (fun a9 => b_x_cellBeside_45 v2 a9 a2 st)))))
theorem t_x_cellBeside_45 {G : Cx} (C : CX G prog_1_method_42_code "PaperStars") (CR0 : CR G (Option.some FieldType.int))  (hnL : gnL G = 5) (hgd : 1 ≤ gd G) {q : Int32 × Mm} (hgr : gr G = some (.int q.1)) (hgs : gsf G = q.2) (v2 : Int32) (v3 : Int32) (v4 : Int32) (st : Mm) (hf : b_x_cellBeside_45 v2 v3 v4 st = some q) : AW G st 45 [(2, .int v2), (3, .int v3), (4, .int v4)] [] := by
  unfold b_x_cellBeside_45 at hf
  refine aw_iload_n C 3 1 (j := 3) rfl rfl (by decide +kernel) rfl ?_
  refine aw_if_lt C (tgt := 74) (off := 28) (by decide +kernel) (by decide) rfl (fun c1 => ?_) (fun c1 => ?_)
  · have hf := ift c1 hf
    refine aw_iconst C (i0 := -1) (v := -1) (by decide) (by decide +kernel) rfl ?_
    exact aw_iretq C CR0 hgr hgs hf (by decide +kernel)
  · have hf := iff_ c1 hf
    refine aw_iload_n C 3 1 (j := 3) rfl rfl (by decide +kernel) rfl ?_
    refine aw_iload_n C 2 0 (j := 2) rfl rfl (by decide +kernel) rfl ?_
    refine aw_icmp_ge C (tgt := 74) (off := 23) (by decide +kernel) (by decide) rfl (fun c2 => ?_) (fun c2 => ?_)
    · have hf := ift c2 hf
      refine aw_iconst C (i0 := -1) (v := -1) (by decide) (by decide +kernel) rfl ?_
      exact aw_iretq C CR0 hgr hgs hf (by decide +kernel)
    · have hf := iff_ c2 hf
      refine aw_iload C 4 2 rfl (by decide +kernel) rfl ?_
      refine aw_if_lt C (tgt := 74) (off := 18) (by decide +kernel) (by decide) rfl (fun c3 => ?_) (fun c3 => ?_)
      · have hf := ift c3 hf
        refine aw_iconst C (i0 := -1) (v := -1) (by decide) (by decide +kernel) rfl ?_
        exact aw_iretq C CR0 hgr hgs hf (by decide +kernel)
      · have hf := iff_ c3 hf
        refine aw_iload C 4 2 rfl (by decide +kernel) rfl ?_
        refine aw_iload_n C 2 0 (j := 2) rfl rfl (by decide +kernel) rfl ?_
        refine aw_icmp_ge C (tgt := 74) (off := 12) (by decide +kernel) (by decide) rfl (fun c4 => ?_) (fun c4 => ?_)
        · have hf := ift c4 hf
          refine aw_iconst C (i0 := -1) (v := -1) (by decide) (by decide +kernel) rfl ?_
          exact aw_iretq C CR0 hgr hgs hf (by decide +kernel)
        · have hf := iff_ c4 hf
          refine aw_iload_n C 3 1 (j := 3) rfl rfl (by decide +kernel) rfl ?_
          refine aw_iload C 4 2 rfl (by decide +kernel) rfl ?_
          obtain ⟨q5, hq5, hf⟩ := ibd hf
          refine aw_callS C (rest := []) (c_x_cellAt v3 v4 _ q5 hq5) tb_618 yf_22 tb_391 rfl _ rfl (Nat.le_trans (by decide) hgd) (Nat.le_of_ble_eq_true rfl) (by decide +kernel) rfl ?_
          show AW _ _ _ _ [.int q5.1]
          refine aw_goto C (tgt := 75) (off := 4) (by decide +kernel) (by decide) ?_
          exact aw_iretq C CR0 hgr hgs hf (by decide +kernel)
theorem t_x_cellBeside {G : Cx} (C : CX G prog_1_method_42_code "PaperStars") (CR0 : CR G (Option.some FieldType.int))  (hnL : gnL G = 5) (hgd : 1 ≤ gd G) {q : Int32 × Mm} (hgr : gr G = some (.int q.1)) (hgs : gsf G = q.2) (v0 : Int32) (v1 : Int32) (v2 : Int32) (st : Mm) (hf : f_x_cellBeside v0 v1 v2 st = some q) : AW G st 0 [(0, .int v0), (1, .int v1), (2, .int v2)] [] := by
  unfold f_x_cellBeside at hf
  refine aw_iload_n C 0 0 (j := 0) rfl rfl (by decide +kernel) rfl ?_
  refine aw_bipush C (i0 := 15) (v := 15) (by decide) (by decide +kernel) rfl ?_
  refine aw_iand C (by decide +kernel) rfl ?_
  obtain ⟨a1, ha1⟩ : ∃ z, z = (v0 &&& (15 : Int32)) := ⟨_, rfl⟩
  refine aw_nmi ha1 ?_
  have hf := ilt ha1 hf
  refine aw_istore_n C [(3, .int a1), (0, .int v0), (1, .int v1), (2, .int v2)] (j := 3) rfl (by rw [hnL]; decide) rfl (by decide +kernel) rfl ?_
  refine aw_iload_n C 0 1 (j := 0) rfl rfl (by decide +kernel) rfl ?_
  refine aw_iconst C (i0 := 4) (v := 4) (by decide) (by decide +kernel) rfl ?_
  refine aw_ishr C (by decide +kernel) rfl ?_
  obtain ⟨a2, ha2⟩ : ∃ z, z = (v0 >>> ((4 : Int32) &&& 31)) := ⟨_, rfl⟩
  refine aw_nmi ha2 ?_
  have hf := ilt ha2 hf
  refine aw_istore C [(4, .int a2), (3, .int a1), (0, .int v0), (1, .int v1), (2, .int v2)] (by rw [hnL]; decide) rfl (by decide +kernel) rfl ?_
  refine aw_iload_n C 1 3 (j := 1) rfl rfl (by decide +kernel) rfl ?_
  refine aw_iconst C (i0 := 2) (v := 2) (by decide) (by decide +kernel) rfl ?_
  refine aw_icmp_ge C (tgt := 30) (off := 18) (by decide +kernel) (by decide) rfl (fun c3 => ?_) (fun c3 => ?_)
  · have hf := ift c3 hf
    refine aw_iload C 4 0 rfl (by decide +kernel) rfl ?_
    refine aw_iload_n C 1 3 (j := 1) rfl rfl (by decide +kernel) rfl ?_
    refine aw_iconst C (i0 := 2) (v := 2) (by decide) (by decide +kernel) rfl ?_
    refine aw_icmp_ne C (tgt := 41) (off := 7) (by decide +kernel) (by decide) rfl (fun c4 => ?_) (fun c4 => ?_)
    · have hf := ift c4 hf
      refine aw_iconst C (i0 := 1) (v := 1) (by decide) (by decide +kernel) rfl ?_
      refine aw_goto C (tgt := 42) (off := 4) (by decide +kernel) (by decide) ?_
      refine aw_iadd C (by decide +kernel) rfl ?_
      obtain ⟨a5, ha5⟩ : ∃ z, z = (a2 + (1 : Int32)) := ⟨_, rfl⟩
      refine aw_nmi ha5 ?_
      have hf := ilt ha5 hf
      refine aw_istore C [(4, .int a5), (3, .int a1), (0, .int v0), (1, .int v1), (2, .int v2)] (by rw [hnL]; decide) rfl (by decide +kernel) rfl ?_
      refine aw_sub [(2, .int v2), (3, .int a1), (4, .int a5)] [4, 1, 0] rfl ?_
      exact t_x_cellBeside_45 C CR0  hnL hgd hgr hgs v2 a1 a5 _ hf
    · have hf := iff_ c4 hf
      refine aw_iconst C (i0 := -1) (v := -1) (by decide) (by decide +kernel) rfl ?_
      refine aw_iadd C (by decide +kernel) rfl ?_
      obtain ⟨a6, ha6⟩ : ∃ z, z = (a2 + (-1 : Int32)) := ⟨_, rfl⟩
      refine aw_nmi ha6 ?_
      have hf := ilt ha6 hf
      refine aw_istore C [(4, .int a6), (3, .int a1), (0, .int v0), (1, .int v1), (2, .int v2)] (by rw [hnL]; decide) rfl (by decide +kernel) rfl ?_
      refine aw_sub [(2, .int v2), (3, .int a1), (4, .int a6)] [4, 1, 0] rfl ?_
      exact t_x_cellBeside_45 C CR0  hnL hgd hgr hgs v2 a1 a6 _ hf
  · have hf := iff_ c3 hf
    refine aw_iload_n C 3 1 (j := 3) rfl rfl (by decide +kernel) rfl ?_
    refine aw_iload_n C 1 3 (j := 1) rfl rfl (by decide +kernel) rfl ?_
    refine aw_if_ne C (tgt := 24) (off := 7) (by decide +kernel) (by decide) rfl (fun c7 => ?_) (fun c7 => ?_)
    · have hf := ift c7 hf
      refine aw_iconst C (i0 := 1) (v := 1) (by decide) (by decide +kernel) rfl ?_
      refine aw_goto C (tgt := 25) (off := 4) (by decide +kernel) (by decide) ?_
      refine aw_iadd C (by decide +kernel) rfl ?_
      obtain ⟨a8, ha8⟩ : ∃ z, z = (a1 + (1 : Int32)) := ⟨_, rfl⟩
      refine aw_nmi ha8 ?_
      have hf := ilt ha8 hf
      refine aw_istore_n C [(3, .int a8), (4, .int a2), (0, .int v0), (1, .int v1), (2, .int v2)] (j := 3) rfl (by rw [hnL]; decide) rfl (by decide +kernel) rfl ?_
      refine aw_goto C (tgt := 45) (off := 18) (by decide +kernel) (by decide) ?_
      refine aw_sub [(2, .int v2), (3, .int a8), (4, .int a2)] [4, 0, 1] rfl ?_
      exact t_x_cellBeside_45 C CR0  hnL hgd hgr hgs v2 a8 a2 _ hf
    · have hf := iff_ c7 hf
      refine aw_iconst C (i0 := -1) (v := -1) (by decide) (by decide +kernel) rfl ?_
      refine aw_iadd C (by decide +kernel) rfl ?_
      obtain ⟨a9, ha9⟩ : ∃ z, z = (a1 + (-1 : Int32)) := ⟨_, rfl⟩
      refine aw_nmi ha9 ?_
      have hf := ilt ha9 hf
      refine aw_istore_n C [(3, .int a9), (4, .int a2), (0, .int v0), (1, .int v1), (2, .int v2)] (j := 3) rfl (by rw [hnL]; decide) rfl (by decide +kernel) rfl ?_
      refine aw_goto C (tgt := 45) (off := 18) (by decide +kernel) (by decide) ?_
      refine aw_sub [(2, .int v2), (3, .int a9), (4, .int a2)] [4, 0, 1] rfl ?_
      exact t_x_cellBeside_45 C CR0  hnL hgd hgr hgs v2 a9 a2 _ hf
theorem c_x_cellBeside {lay : Ly}  (v0 : Int32) (v1 : Int32) (v2 : Int32) (st : Mm) (q : Int32 × Mm) (hf : f_x_cellBeside v0 v1 v2 st = some q) : Con 1 Y74 prog_1_method_42_code 5 (Option.some FieldType.int) lay (fun ad => [.int v0, .int v1, .int v2]) st (some (.int q.1)) q.2 :=
  am_met yf_74.2.2.2.2.2 (fun ad => Nat.le_of_ble_eq_true rfl) (fun G C CR0 e1 e2 e3 e4 e5 => t_x_cellBeside C CR0  e2 (Nat.le_of_eq e5.symm) e3 e4 v0 v1 v2 st hf)
def b_Pap_fillToBorder_137 (k31 : Int32 → Int32 → Int32 → Mm → Option (Int32 × Mm)) (v2 : Int32) (v3 : Int32) (v4 : Int32) (st : Mm) : Option (Int32 × Mm) :=
  lt_ (v4 + (1 : Int32)) (fun a1 => k31 v2 v3 a1 st)
def b_Pap_fillToBorder_48 (k31 : Int32 → Int32 → Int32 → Mm → Option (Int32 × Mm)) (k48 : Int32 → Int32 → Int32 → Int32 → Mm → Option (Int32 × Mm)) (v2 : Int32) (v3 : Int32) (v4 : Int32) (v5 : Int32) (st : Mm) : Option (Int32 × Mm) :=
  if (4 : Int32) ≤ v5 then (b_Pap_fillToBorder_137 k31 v2 v3 v4 st) else (if inb v4 256 then (f_x_cellBeside (st.1 33 v4.toNatClampNeg) v5 (st.1 30 0) st).bind (fun q3 => if 0 ≤ q3.1 then ((f_x_hasBit 32 q3.1 q3.2).bind (fun q5 => if q5.1 = 0 then (lt_ (v5 + (1 : Int32)) (fun a7 => k48 v2 v3 v4 a7 q5.2)) else (if (256 : Int32) ≤ v3 then (lt_ (v5 + (1 : Int32)) (fun a9 => k48 v2 v3 v4 a9 q5.2)) else (lt_ (q3.1 >>> ((4 : Int32) &&& 31)) (fun a10 => if inb a10 16 then lt_ ((q5.2.1 32 a10.toNatClampNeg) ^^^ ((1 : Int32) <<< ((q3.1 &&& (15 : Int32)) &&& 31))) (fun a12 => if inb a10 16 then if inb v3 256 then lt_ (v3 + (1 : Int32)) (fun a15 => lt_ (v5 + (1 : Int32)) (fun a16 => k48 v2 a15 v4 a16 (sI (sI q5.2 32 a10.toNatClampNeg a12) 33 v3.toNatClampNeg q3.1))) else none else none) else none))))) else (lt_ (v5 + (1 : Int32)) (fun a17 => k48 (1 : Int32) v3 v4 a17 q3.2))) else none)
def f_Pap_fillToBorder_48 (k31 : Int32 → Int32 → Int32 → Mm → Option (Int32 × Mm)) : Nat → Int32 → Int32 → Int32 → Int32 → Mm → Option (Int32 × Mm)
  | 0 => fun _ _ _ _ _ => none
  | n + 1 => b_Pap_fillToBorder_48 k31 (f_Pap_fillToBorder_48 k31 n)
def b_Pap_fillToBorder_31 (k31 : Int32 → Int32 → Int32 → Mm → Option (Int32 × Mm)) (v2 : Int32) (v3 : Int32) (v4 : Int32) (st : Mm) : Option (Int32 × Mm) :=
  if v3 ≤ v4 then (if v2 = 0 ∨ v2 = 1 then some (v2, st) else none) else (if (256 : Int32) ≤ v4 then (if v2 = 0 ∨ v2 = 1 then some (v2, st) else none) else (f_Pap_fillToBorder_48 k31 1000000 v2 v3 v4 (0 : Int32) st))
def f_Pap_fillToBorder_31 : Nat → Int32 → Int32 → Int32 → Mm → Option (Int32 × Mm)
  | 0 => fun _ _ _ _ => none
  | n + 1 => b_Pap_fillToBorder_31 (f_Pap_fillToBorder_31 n)
def f_Pap_fillToBorder (v1 : Int32) (st : Mm) : Option (Int32 × Mm) :=
  lt_ (v1 >>> ((4 : Int32) &&& 31)) (fun a1 => if inb a1 16 then lt_ (((sI st 33 (0 : Int32).toNatClampNeg v1).1 32 a1.toNatClampNeg) ^^^ ((1 : Int32) <<< ((v1 &&& (15 : Int32)) &&& 31))) (fun a3 => if inb a1 16 then f_Pap_fillToBorder_31 1000000 (0 : Int32) (1 : Int32) (0 : Int32) (sI (sI st 33 (0 : Int32).toNatClampNeg v1) 32 a1.toNatClampNeg a3) else none) else none)
theorem t_Pap_fillToBorder_137 {G : Cx} (C : CX G prog_8_method_4_code "PaperStars$Paper") (CR0 : CR G (Option.some FieldType.boolean)) (E : LCin (gly G)) (hnL : gnL G = 7) (hgd : 2 ≤ gd G) {q : Int32 × Mm} (hgr : gr G = some (.int q.1)) (hgs : gsf G = q.2) (k31 : Int32 → Int32 → Int32 → Mm → Option (Int32 × Mm)) (hk31 : ∀ (v2 : Int32) (v3 : Int32) (v4 : Int32) (st : Mm), k31 v2 v3 v4 st = some q → AW G st 31 [(0, .ref (gad G 30)), (2, .int v2), (3, .int v3), (4, .int v4)] []) (v2 : Int32) (v3 : Int32) (v4 : Int32) (st : Mm) (hf : b_Pap_fillToBorder_137 k31 v2 v3 v4 st = some q) : AW G st 137 [(0, .ref (gad G 30)), (2, .int v2), (3, .int v3), (4, .int v4)] [] := by
  unfold b_Pap_fillToBorder_137 at hf
  obtain ⟨a1, ha1⟩ : ∃ z, z = (v4 + (1 : Int32)) := ⟨_, rfl⟩
  have hf := ilt ha1 hf
  refine aw_iinc C [(4, .int a1), (0, .ref (gad G 30)), (2, .int v2), (3, .int v3)] 3 (n := 1) rfl (by rw [ha1]; rfl) (by rw [hnL]; decide) rfl (by decide +kernel) rfl ?_
  refine aw_goto C (tgt := 31) (off := -109) (by decide +kernel) (by decide) ?_
  refine aw_sub [(0, .ref (gad G 30)), (2, .int v2), (3, .int v3), (4, .int a1)] [1, 2, 3, 0] rfl ?_
  exact hk31 v2 v3 a1 _ hf
theorem t_Pap_fillToBorder_48 {G : Cx} (C : CX G prog_8_method_4_code "PaperStars$Paper") (CR0 : CR G (Option.some FieldType.boolean)) (E : LCin (gly G)) (hnL : gnL G = 7) (hgd : 2 ≤ gd G) {q : Int32 × Mm} (hgr : gr G = some (.int q.1)) (hgs : gsf G = q.2) (k31 : Int32 → Int32 → Int32 → Mm → Option (Int32 × Mm)) (k48 : Int32 → Int32 → Int32 → Int32 → Mm → Option (Int32 × Mm)) (hk31 : ∀ (v2 : Int32) (v3 : Int32) (v4 : Int32) (st : Mm), k31 v2 v3 v4 st = some q → AW G st 31 [(0, .ref (gad G 30)), (2, .int v2), (3, .int v3), (4, .int v4)] []) (hk48 : ∀ (v2 : Int32) (v3 : Int32) (v4 : Int32) (v5 : Int32) (st : Mm), k48 v2 v3 v4 v5 st = some q → AW G st 48 [(0, .ref (gad G 30)), (2, .int v2), (3, .int v3), (4, .int v4), (5, .int v5)] []) (v2 : Int32) (v3 : Int32) (v4 : Int32) (v5 : Int32) (st : Mm) (hf : b_Pap_fillToBorder_48 k31 k48 v2 v3 v4 v5 st = some q) : AW G st 48 [(0, .ref (gad G 30)), (2, .int v2), (3, .int v3), (4, .int v4), (5, .int v5)] [] := by
  unfold b_Pap_fillToBorder_48 at hf
  refine aw_iload C 5 4 rfl (by decide +kernel) rfl ?_
  refine aw_iconst C (i0 := 4) (v := 4) (by decide) (by decide +kernel) rfl ?_
  refine aw_icmp_ge C (tgt := 137) (off := 86) (by decide +kernel) (by decide) rfl (fun c1 => ?_) (fun c1 => ?_)
  · have hf := ift c1 hf
    refine aw_sub [(0, .ref (gad G 30)), (2, .int v2), (3, .int v3), (4, .int v4)] [0, 1, 2, 3] rfl ?_
    exact t_Pap_fillToBorder_137 C CR0 E hnL hgd hgr hgs k31 hk31 v2 v3 v4 _ hf
  · have hf := iff_ c1 hf
    refine aw_aload_n C 0 0 (j := 0) rfl rfl (by decide +kernel) rfl ?_
    refine aw_getr C (k := 3) fc_6 (lc_30 E) rfl (by decide) tb_223 (by decide +kernel) rfl ?_
    refine aw_iload C 4 3 rfl (by decide +kernel) rfl ?_
    obtain ⟨g2, hf⟩ := igd hf
    refine aw_iald C (lc_33 E) g2 (by decide +kernel) rfl ?_
    refine aw_iload C 5 4 rfl (by decide +kernel) rfl ?_
    refine aw_aload_n C 0 0 (j := 0) rfl rfl (by decide +kernel) rfl ?_
    refine aw_get C (k := 0) fc_6 (lc_30 E) rfl (by decide) tb_215 (by decide +kernel) rfl ?_
    obtain ⟨q3, hq3, hf⟩ := ibd hf
    refine aw_callSN C (rest := []) (c_x_cellBeside (st.1 33 v4.toNatClampNeg) v5 (st.1 30 0) _ q3 hq3) nw_16 yf_74 tb_650 rfl _ rfl (Nat.le_trans (by decide) hgd) (Nat.le_of_ble_eq_true rfl) (by decide +kernel) rfl ?_
    show AW _ _ _ _ [.int q3.1]
    refine aw_istore C [(6, .int q3.1), (0, .ref (gad G 30)), (2, .int v2), (3, .int v3), (4, .int v4), (5, .int v5)] (by rw [hnL]; decide) rfl (by decide +kernel) rfl ?_
    refine aw_iload C 6 0 rfl (by decide +kernel) rfl ?_
    refine aw_if_ge C (tgt := 82) (off := 8) (by decide +kernel) (by decide) rfl (fun c4 => ?_) (fun c4 => ?_)
    · have hf := ift c4 hf
      refine aw_aload_n C 0 1 (j := 0) rfl rfl (by decide +kernel) rfl ?_
      refine aw_getr C (k := 2) fc_6 (lc_30 E) rfl (by decide) tb_222 (by decide +kernel) rfl ?_
      refine aw_iload C 6 0 rfl (by decide +kernel) rfl ?_
      obtain ⟨q5, hq5, hf⟩ := ibd hf
      refine aw_callSN C (rest := []) (c_x_hasBit 32 (lc_32 E) q3.1 _ q5 hq5) nw_15 yf_23 tb_394 rfl _ rfl (Nat.le_trans (by decide) hgd) (Nat.le_of_ble_eq_true rfl) (by decide +kernel) rfl ?_
      show AW _ _ _ _ [.int q5.1]
      refine aw_if_eq C (tgt := 131) (off := 40) (by decide +kernel) (by decide) rfl (fun c6 => ?_) (fun c6 => ?_)
      · have hf := ift c6 hf
        obtain ⟨a7, ha7⟩ : ∃ z, z = (v5 + (1 : Int32)) := ⟨_, rfl⟩
        have hf := ilt ha7 hf
        refine aw_iinc C [(5, .int a7), (6, .int q3.1), (0, .ref (gad G 30)), (2, .int v2), (3, .int v3), (4, .int v4)] 5 (n := 1) rfl (by rw [ha7]; rfl) (by rw [hnL]; decide) rfl (by decide +kernel) rfl ?_
        refine aw_goto C (tgt := 48) (off := -86) (by decide +kernel) (by decide) ?_
        refine aw_sub [(0, .ref (gad G 30)), (2, .int v2), (3, .int v3), (4, .int v4), (5, .int a7)] [2, 3, 4, 5, 0] rfl ?_
        exact hk48 v2 v3 v4 a7 _ hf
      · have hf := iff_ c6 hf
        refine aw_iload_n C 3 3 (j := 3) rfl rfl (by decide +kernel) rfl ?_
        refine aw_sipush C (i0 := 256) (v := 256) (by decide) (by decide +kernel) rfl ?_
        refine aw_icmp_ge C (tgt := 131) (off := 33) (by decide +kernel) (by decide) rfl (fun c8 => ?_) (fun c8 => ?_)
        · have hf := ift c8 hf
          obtain ⟨a9, ha9⟩ : ∃ z, z = (v5 + (1 : Int32)) := ⟨_, rfl⟩
          have hf := ilt ha9 hf
          refine aw_iinc C [(5, .int a9), (6, .int q3.1), (0, .ref (gad G 30)), (2, .int v2), (3, .int v3), (4, .int v4)] 5 (n := 1) rfl (by rw [ha9]; rfl) (by rw [hnL]; decide) rfl (by decide +kernel) rfl ?_
          refine aw_goto C (tgt := 48) (off := -86) (by decide +kernel) (by decide) ?_
          refine aw_sub [(0, .ref (gad G 30)), (2, .int v2), (3, .int v3), (4, .int v4), (5, .int a9)] [2, 3, 4, 5, 0] rfl ?_
          exact hk48 v2 v3 v4 a9 _ hf
        · have hf := iff_ c8 hf
          refine aw_aload_n C 0 1 (j := 0) rfl rfl (by decide +kernel) rfl ?_
          refine aw_getr C (k := 2) fc_6 (lc_30 E) rfl (by decide) tb_222 (by decide +kernel) rfl ?_
          refine aw_iload C 6 0 rfl (by decide +kernel) rfl ?_
          refine aw_iconst C (i0 := 4) (v := 4) (by decide) (by decide +kernel) rfl ?_
          refine aw_ishr C (by decide +kernel) rfl ?_
          obtain ⟨a10, ha10⟩ : ∃ z, z = (q3.1 >>> ((4 : Int32) &&& 31)) := ⟨_, rfl⟩
          refine aw_nmi ha10 ?_
          have hf := ilt ha10 hf
          refine aw_dup2_11 C rfl rfl (by decide +kernel) rfl ?_
          obtain ⟨g11, hf⟩ := igd hf
          refine aw_iald C (lc_32 E) g11 (by decide +kernel) rfl ?_
          refine aw_iconst C (i0 := 1) (v := 1) (by decide) (by decide +kernel) rfl ?_
          refine aw_iload C 6 0 rfl (by decide +kernel) rfl ?_
          refine aw_bipush C (i0 := 15) (v := 15) (by decide) (by decide +kernel) rfl ?_
          refine aw_iand C (by decide +kernel) rfl ?_
          refine aw_ishl C (by decide +kernel) rfl ?_
          refine aw_ixor C (by decide +kernel) rfl ?_
          obtain ⟨a12, ha12⟩ : ∃ z, z = ((q5.2.1 32 a10.toNatClampNeg) ^^^ ((1 : Int32) <<< ((q3.1 &&& (15 : Int32)) &&& 31))) := ⟨_, rfl⟩
          refine aw_nmi ha12 ?_
          have hf := ilt ha12 hf
          obtain ⟨g13, hf⟩ := igd hf
          refine aw_iast C (lc_32 E) g13 (by decide +kernel) rfl ?_
          refine aw_aload_n C 0 1 (j := 0) rfl rfl (by decide +kernel) rfl ?_
          refine aw_getr C (k := 3) fc_6 (lc_30 E) rfl (by decide) tb_223 (by decide +kernel) rfl ?_
          refine aw_iload_n C 3 3 (j := 3) rfl rfl (by decide +kernel) rfl ?_
          refine aw_iload C 6 0 rfl (by decide +kernel) rfl ?_
          obtain ⟨g14, hf⟩ := igd hf
          refine aw_iast C (lc_33 E) g14 (by decide +kernel) rfl ?_
          obtain ⟨a15, ha15⟩ : ∃ z, z = (v3 + (1 : Int32)) := ⟨_, rfl⟩
          have hf := ilt ha15 hf
          refine aw_iinc C [(3, .int a15), (6, .int q3.1), (0, .ref (gad G 30)), (2, .int v2), (4, .int v4), (5, .int v5)] 3 (n := 1) rfl (by rw [ha15]; rfl) (by rw [hnL]; decide) rfl (by decide +kernel) rfl ?_
          obtain ⟨a16, ha16⟩ : ∃ z, z = (v5 + (1 : Int32)) := ⟨_, rfl⟩
          have hf := ilt ha16 hf
          refine aw_iinc C [(5, .int a16), (3, .int a15), (6, .int q3.1), (0, .ref (gad G 30)), (2, .int v2), (4, .int v4)] 5 (n := 1) rfl (by rw [ha16]; rfl) (by rw [hnL]; decide) rfl (by decide +kernel) rfl ?_
          refine aw_goto C (tgt := 48) (off := -86) (by decide +kernel) (by decide) ?_
          refine aw_sub [(0, .ref (gad G 30)), (2, .int v2), (3, .int a15), (4, .int v4), (5, .int a16)] [3, 4, 1, 5, 0] rfl ?_
          exact hk48 v2 a15 v4 a16 _ hf
    · have hf := iff_ c4 hf
      refine aw_iconst C (i0 := 1) (v := 1) (by decide) (by decide +kernel) rfl ?_
      refine aw_istore_n C [(2, .int (1 : Int32)), (6, .int q3.1), (0, .ref (gad G 30)), (3, .int v3), (4, .int v4), (5, .int v5)] (j := 2) rfl (by rw [hnL]; decide) rfl (by decide +kernel) rfl ?_
      refine aw_goto C (tgt := 131) (off := 52) (by decide +kernel) (by decide) ?_
      obtain ⟨a17, ha17⟩ : ∃ z, z = (v5 + (1 : Int32)) := ⟨_, rfl⟩
      have hf := ilt ha17 hf
      refine aw_iinc C [(5, .int a17), (2, .int (1 : Int32)), (6, .int q3.1), (0, .ref (gad G 30)), (3, .int v3), (4, .int v4)] 5 (n := 1) rfl (by rw [ha17]; rfl) (by rw [hnL]; decide) rfl (by decide +kernel) rfl ?_
      refine aw_goto C (tgt := 48) (off := -86) (by decide +kernel) (by decide) ?_
      refine aw_sub [(0, .ref (gad G 30)), (2, .int (1 : Int32)), (3, .int v3), (4, .int v4), (5, .int a17)] [3, 1, 4, 5, 0] rfl ?_
      exact hk48 (1 : Int32) v3 v4 a17 _ hf
theorem u_Pap_fillToBorder_48 {G : Cx} (C : CX G prog_8_method_4_code "PaperStars$Paper") (CR0 : CR G (Option.some FieldType.boolean)) (E : LCin (gly G)) (hnL : gnL G = 7) (hgd : 2 ≤ gd G) {q : Int32 × Mm} (hgr : gr G = some (.int q.1)) (hgs : gsf G = q.2) (k31 : Int32 → Int32 → Int32 → Mm → Option (Int32 × Mm)) (hk31 : ∀ (v2 : Int32) (v3 : Int32) (v4 : Int32) (st : Mm), k31 v2 v3 v4 st = some q → AW G st 31 [(0, .ref (gad G 30)), (2, .int v2), (3, .int v3), (4, .int v4)] []) : ∀ (n : Nat) (v2 : Int32) (v3 : Int32) (v4 : Int32) (v5 : Int32) (st : Mm), f_Pap_fillToBorder_48 k31 n v2 v3 v4 v5 st = some q → AW G st 48 [(0, .ref (gad G 30)), (2, .int v2), (3, .int v3), (4, .int v4), (5, .int v5)] [] := by
  intro n
  induction n with
  | zero => intro v2 v3 v4 v5 st hf; cases hf
  | succ n ih => intro v2 v3 v4 v5 st hf; exact t_Pap_fillToBorder_48 C CR0 E hnL hgd hgr hgs k31 (f_Pap_fillToBorder_48 k31 n) hk31 ih v2 v3 v4 v5 st hf
theorem t_Pap_fillToBorder_31 {G : Cx} (C : CX G prog_8_method_4_code "PaperStars$Paper") (CR0 : CR G (Option.some FieldType.boolean)) (E : LCin (gly G)) (hnL : gnL G = 7) (hgd : 2 ≤ gd G) {q : Int32 × Mm} (hgr : gr G = some (.int q.1)) (hgs : gsf G = q.2) (k31 : Int32 → Int32 → Int32 → Mm → Option (Int32 × Mm)) (hk31 : ∀ (v2 : Int32) (v3 : Int32) (v4 : Int32) (st : Mm), k31 v2 v3 v4 st = some q → AW G st 31 [(0, .ref (gad G 30)), (2, .int v2), (3, .int v3), (4, .int v4)] []) (v2 : Int32) (v3 : Int32) (v4 : Int32) (st : Mm) (hf : b_Pap_fillToBorder_31 k31 v2 v3 v4 st = some q) : AW G st 31 [(0, .ref (gad G 30)), (2, .int v2), (3, .int v3), (4, .int v4)] [] := by
  unfold b_Pap_fillToBorder_31 at hf
  refine aw_iload C 4 3 rfl (by decide +kernel) rfl ?_
  refine aw_iload_n C 3 2 (j := 3) rfl rfl (by decide +kernel) rfl ?_
  refine aw_icmp_ge C (tgt := 143) (off := 109) (by decide +kernel) (by decide) rfl (fun c1 => ?_) (fun c1 => ?_)
  · have hf := ift c1 hf
    refine aw_iload_n C 2 1 (j := 2) rfl rfl (by decide +kernel) rfl ?_
    obtain ⟨g2, hf⟩ := igd hf
    exact aw_zretq C CR0 hgr hgs g2 hf (by decide +kernel)
  · have hf := iff_ c1 hf
    refine aw_iload C 4 3 rfl (by decide +kernel) rfl ?_
    refine aw_sipush C (i0 := 256) (v := 256) (by decide) (by decide +kernel) rfl ?_
    refine aw_icmp_ge C (tgt := 143) (off := 101) (by decide +kernel) (by decide) rfl (fun c3 => ?_) (fun c3 => ?_)
    · have hf := ift c3 hf
      refine aw_iload_n C 2 1 (j := 2) rfl rfl (by decide +kernel) rfl ?_
      obtain ⟨g4, hf⟩ := igd hf
      exact aw_zretq C CR0 hgr hgs g4 hf (by decide +kernel)
    · have hf := iff_ c3 hf
      refine aw_iconst C (i0 := 0) (v := 0) (by decide) (by decide +kernel) rfl ?_
      refine aw_istore C [(5, .int (0 : Int32)), (0, .ref (gad G 30)), (2, .int v2), (3, .int v3), (4, .int v4)] (by rw [hnL]; decide) rfl (by decide +kernel) rfl ?_
      refine aw_sub [(0, .ref (gad G 30)), (2, .int v2), (3, .int v3), (4, .int v4), (5, .int (0 : Int32))] [1, 2, 3, 4, 0] rfl ?_
      exact u_Pap_fillToBorder_48 C CR0 E hnL hgd hgr hgs k31 hk31 _ v2 v3 v4 (0 : Int32) _ hf
theorem u_Pap_fillToBorder_31 {G : Cx} (C : CX G prog_8_method_4_code "PaperStars$Paper") (CR0 : CR G (Option.some FieldType.boolean)) (E : LCin (gly G)) (hnL : gnL G = 7) (hgd : 2 ≤ gd G) {q : Int32 × Mm} (hgr : gr G = some (.int q.1)) (hgs : gsf G = q.2) : ∀ (n : Nat) (v2 : Int32) (v3 : Int32) (v4 : Int32) (st : Mm), f_Pap_fillToBorder_31 n v2 v3 v4 st = some q → AW G st 31 [(0, .ref (gad G 30)), (2, .int v2), (3, .int v3), (4, .int v4)] [] := by
  intro n
  induction n with
  | zero => intro v2 v3 v4 st hf; cases hf
  | succ n ih => intro v2 v3 v4 st hf; exact t_Pap_fillToBorder_31 C CR0 E hnL hgd hgr hgs (f_Pap_fillToBorder_31 n) ih v2 v3 v4 st hf
theorem t_Pap_fillToBorder {G : Cx} (C : CX G prog_8_method_4_code "PaperStars$Paper") (CR0 : CR G (Option.some FieldType.boolean)) (E : LCin (gly G)) (hnL : gnL G = 7) (hgd : 2 ≤ gd G) {q : Int32 × Mm} (hgr : gr G = some (.int q.1)) (hgs : gsf G = q.2) (v1 : Int32) (st : Mm) (hf : f_Pap_fillToBorder v1 st = some q) : AW G st 0 [(0, .ref (gad G 30)), (1, .int v1)] [] := by
  unfold f_Pap_fillToBorder at hf
  refine aw_iconst C (i0 := 0) (v := 0) (by decide) (by decide +kernel) rfl ?_
  refine aw_istore_n C [(2, .int (0 : Int32)), (0, .ref (gad G 30)), (1, .int v1)] (j := 2) rfl (by rw [hnL]; decide) rfl (by decide +kernel) rfl ?_
  refine aw_iconst C (i0 := 1) (v := 1) (by decide) (by decide +kernel) rfl ?_
  refine aw_istore_n C [(3, .int (1 : Int32)), (2, .int (0 : Int32)), (0, .ref (gad G 30)), (1, .int v1)] (j := 3) rfl (by rw [hnL]; decide) rfl (by decide +kernel) rfl ?_
  refine aw_aload_n C 0 2 (j := 0) rfl rfl (by decide +kernel) rfl ?_
  refine aw_getr C (k := 3) fc_6 (lc_30 E) rfl (by decide) tb_223 (by decide +kernel) rfl ?_
  refine aw_iconst C (i0 := 0) (v := 0) (by decide) (by decide +kernel) rfl ?_
  refine aw_iload_n C 1 3 (j := 1) rfl rfl (by decide +kernel) rfl ?_
  refine aw_iast C (lc_33 E) (by decide) (by decide +kernel) rfl ?_
  refine aw_aload_n C 0 2 (j := 0) rfl rfl (by decide +kernel) rfl ?_
  refine aw_getr C (k := 2) fc_6 (lc_30 E) rfl (by decide) tb_222 (by decide +kernel) rfl ?_
  refine aw_iload_n C 1 3 (j := 1) rfl rfl (by decide +kernel) rfl ?_
  refine aw_iconst C (i0 := 4) (v := 4) (by decide) (by decide +kernel) rfl ?_
  refine aw_ishr C (by decide +kernel) rfl ?_
  obtain ⟨a1, ha1⟩ : ∃ z, z = (v1 >>> ((4 : Int32) &&& 31)) := ⟨_, rfl⟩
  refine aw_nmi ha1 ?_
  have hf := ilt ha1 hf
  refine aw_dup2_11 C rfl rfl (by decide +kernel) rfl ?_
  obtain ⟨g2, hf⟩ := igd hf
  refine aw_iald C (lc_32 E) g2 (by decide +kernel) rfl ?_
  refine aw_iconst C (i0 := 1) (v := 1) (by decide) (by decide +kernel) rfl ?_
  refine aw_iload_n C 1 3 (j := 1) rfl rfl (by decide +kernel) rfl ?_
  refine aw_bipush C (i0 := 15) (v := 15) (by decide) (by decide +kernel) rfl ?_
  refine aw_iand C (by decide +kernel) rfl ?_
  refine aw_ishl C (by decide +kernel) rfl ?_
  refine aw_ixor C (by decide +kernel) rfl ?_
  obtain ⟨a3, ha3⟩ : ∃ z, z = (((sI st 33 (0 : Int32).toNatClampNeg v1).1 32 a1.toNatClampNeg) ^^^ ((1 : Int32) <<< ((v1 &&& (15 : Int32)) &&& 31))) := ⟨_, rfl⟩
  refine aw_nmi ha3 ?_
  have hf := ilt ha3 hf
  obtain ⟨g4, hf⟩ := igd hf
  refine aw_iast C (lc_32 E) g4 (by decide +kernel) rfl ?_
  refine aw_iconst C (i0 := 0) (v := 0) (by decide) (by decide +kernel) rfl ?_
  refine aw_istore C [(4, .int (0 : Int32)), (3, .int (1 : Int32)), (2, .int (0 : Int32)), (0, .ref (gad G 30)), (1, .int v1)] (by rw [hnL]; decide) rfl (by decide +kernel) rfl ?_
  refine aw_sub [(0, .ref (gad G 30)), (2, .int (0 : Int32)), (3, .int (1 : Int32)), (4, .int (0 : Int32))] [3, 2, 1, 0] rfl ?_
  exact u_Pap_fillToBorder_31 C CR0 E hnL hgd hgr hgs _ (0 : Int32) (1 : Int32) (0 : Int32) _ hf
theorem c_Pap_fillToBorder {lay : Ly} (E : LCin lay) (v1 : Int32) (st : Mm) (q : Int32 × Mm) (hf : f_Pap_fillToBorder v1 st = some q) : Con 2 Y80 prog_8_method_4_code 7 (Option.some FieldType.boolean) lay (fun ad => [.ref (ad 30), .int v1]) st (some (.int q.1)) q.2 :=
  am_met yf_80.2.2.2.2.2 (fun ad => Nat.le_of_ble_eq_true rfl) (fun G C CR0 e1 e2 e3 e4 e5 => t_Pap_fillToBorder C CR0 (by rw [e1]; exact E) e2 (Nat.le_of_eq e5.symm) e3 e4 v1 st hf)
def b_Pap_holes_53 (k53 : Int32 → Int32 → Mm → Option (Int32 × Mm)) (v1 : Int32) (v2 : Int32) (st : Mm) : Option (Int32 × Mm) :=
  if (256 : Int32) ≤ v2 then (some (v1, st)) else ((f_x_hasBit 32 v2 st).bind (fun q2 => if q2.1 = 0 then (lt_ (v2 + (1 : Int32)) (fun a4 => k53 v1 a4 q2.2)) else ((f_Pap_fillToBorder v2 q2.2).bind (fun q5 => if q5.1 = 0 then (lt_ (v1 + (1 : Int32)) (fun a7 => lt_ (v2 + (1 : Int32)) (fun a8 => k53 a7 a8 q5.2))) else (lt_ (v2 + (1 : Int32)) (fun a9 => k53 v1 a9 q5.2))))))
def f_Pap_holes_53 : Nat → Int32 → Int32 → Mm → Option (Int32 × Mm)
  | 0 => fun _ _ _ => none
  | n + 1 => b_Pap_holes_53 (f_Pap_holes_53 n)
def b_Pap_holes_49 (st : Mm) : Option (Int32 × Mm) :=
  f_Pap_holes_53 1000000 (0 : Int32) (0 : Int32) st
def b_Pap_holes_2 (k2 : Int32 → Mm → Option (Int32 × Mm)) (v1 : Int32) (st : Mm) : Option (Int32 × Mm) :=
  if (16 : Int32) ≤ v1 then (b_Pap_holes_49 st) else (if (st.1 30 0) ≤ v1 then (if inb v1 16 then lt_ (v1 + (1 : Int32)) (fun a4 => k2 a4 (sI st 32 v1.toNatClampNeg (0 : Int32))) else none) else (if inb v1 16 then lt_ (((st.1 31 v1.toNatClampNeg) ^^^ (-1 : Int32)) &&& (((1 : Int32) <<< ((st.1 30 0) &&& 31)) - (1 : Int32))) (fun a6 => if inb v1 16 then lt_ (v1 + (1 : Int32)) (fun a8 => k2 a8 (sI st 32 v1.toNatClampNeg a6)) else none) else none))
def f_Pap_holes_2 : Nat → Int32 → Mm → Option (Int32 × Mm)
  | 0 => fun _ _ => none
  | n + 1 => b_Pap_holes_2 (f_Pap_holes_2 n)
def f_Pap_holes (st : Mm) : Option (Int32 × Mm) :=
  f_Pap_holes_2 1000000 (0 : Int32) st
theorem t_Pap_holes_53 {G : Cx} (C : CX G prog_8_method_3_code "PaperStars$Paper") (CR0 : CR G (Option.some FieldType.int)) (E : LCin (gly G)) (hnL : gnL G = 3) (hgd : 3 ≤ gd G) {q : Int32 × Mm} (hgr : gr G = some (.int q.1)) (hgs : gsf G = q.2) (k53 : Int32 → Int32 → Mm → Option (Int32 × Mm)) (hk53 : ∀ (v1 : Int32) (v2 : Int32) (st : Mm), k53 v1 v2 st = some q → AW G st 53 [(0, .ref (gad G 30)), (1, .int v1), (2, .int v2)] []) (v1 : Int32) (v2 : Int32) (st : Mm) (hf : b_Pap_holes_53 k53 v1 v2 st = some q) : AW G st 53 [(0, .ref (gad G 30)), (1, .int v1), (2, .int v2)] [] := by
  unfold b_Pap_holes_53 at hf
  refine aw_iload_n C 2 2 (j := 2) rfl rfl (by decide +kernel) rfl ?_
  refine aw_sipush C (i0 := 256) (v := 256) (by decide) (by decide +kernel) rfl ?_
  refine aw_icmp_ge C (tgt := 88) (off := 31) (by decide +kernel) (by decide) rfl (fun c1 => ?_) (fun c1 => ?_)
  · have hf := ift c1 hf
    refine aw_iload_n C 1 1 (j := 1) rfl rfl (by decide +kernel) rfl ?_
    exact aw_iretq C CR0 hgr hgs hf (by decide +kernel)
  · have hf := iff_ c1 hf
    refine aw_aload_n C 0 0 (j := 0) rfl rfl (by decide +kernel) rfl ?_
    refine aw_getr C (k := 2) fc_6 (lc_30 E) rfl (by decide) tb_222 (by decide +kernel) rfl ?_
    refine aw_iload_n C 2 2 (j := 2) rfl rfl (by decide +kernel) rfl ?_
    obtain ⟨q2, hq2, hf⟩ := ibd hf
    refine aw_callSN C (rest := []) (c_x_hasBit 32 (lc_32 E) v2 _ q2 hq2) nw_15 yf_23 tb_394 rfl _ rfl (Nat.le_trans (by decide) hgd) (Nat.le_of_ble_eq_true rfl) (by decide +kernel) rfl ?_
    show AW _ _ _ _ [.int q2.1]
    refine aw_if_eq C (tgt := 82) (off := 14) (by decide +kernel) (by decide) rfl (fun c3 => ?_) (fun c3 => ?_)
    · have hf := ift c3 hf
      obtain ⟨a4, ha4⟩ : ∃ z, z = (v2 + (1 : Int32)) := ⟨_, rfl⟩
      have hf := ilt ha4 hf
      refine aw_iinc C [(2, .int a4), (0, .ref (gad G 30)), (1, .int v1)] 2 (n := 1) rfl (by rw [ha4]; rfl) (by rw [hnL]; decide) rfl (by decide +kernel) rfl ?_
      refine aw_goto C (tgt := 53) (off := -32) (by decide +kernel) (by decide) ?_
      refine aw_sub [(0, .ref (gad G 30)), (1, .int v1), (2, .int a4)] [1, 2, 0] rfl ?_
      exact hk53 v1 a4 _ hf
    · have hf := iff_ c3 hf
      refine aw_aload_n C 0 0 (j := 0) rfl rfl (by decide +kernel) rfl ?_
      refine aw_iload_n C 2 2 (j := 2) rfl rfl (by decide +kernel) rfl ?_
      obtain ⟨q5, hq5, hf⟩ := ibd hf
      refine aw_callV C (rest := []) (c_Pap_fillToBorder E v2 _ q5 hq5) tb_675 yf_80 yi_80 (lc_30 E) [.int v2] rfl rfl _ rfl (Nat.le_trans (by decide) hgd) (Nat.le_of_ble_eq_true rfl) (by decide +kernel) rfl ?_
      show AW _ _ _ _ [.int q5.1]
      refine aw_if_ne C (tgt := 82) (off := 6) (by decide +kernel) (by decide) rfl (fun c6 => ?_) (fun c6 => ?_)
      · have hf := ift c6 hf
        obtain ⟨a7, ha7⟩ : ∃ z, z = (v1 + (1 : Int32)) := ⟨_, rfl⟩
        have hf := ilt ha7 hf
        refine aw_iinc C [(1, .int a7), (0, .ref (gad G 30)), (2, .int v2)] 1 (n := 1) rfl (by rw [ha7]; rfl) (by rw [hnL]; decide) rfl (by decide +kernel) rfl ?_
        obtain ⟨a8, ha8⟩ : ∃ z, z = (v2 + (1 : Int32)) := ⟨_, rfl⟩
        have hf := ilt ha8 hf
        refine aw_iinc C [(2, .int a8), (1, .int a7), (0, .ref (gad G 30))] 2 (n := 1) rfl (by rw [ha8]; rfl) (by rw [hnL]; decide) rfl (by decide +kernel) rfl ?_
        refine aw_goto C (tgt := 53) (off := -32) (by decide +kernel) (by decide) ?_
        refine aw_sub [(0, .ref (gad G 30)), (1, .int a7), (2, .int a8)] [2, 1, 0] rfl ?_
        exact hk53 a7 a8 _ hf
      · have hf := iff_ c6 hf
        obtain ⟨a9, ha9⟩ : ∃ z, z = (v2 + (1 : Int32)) := ⟨_, rfl⟩
        have hf := ilt ha9 hf
        refine aw_iinc C [(2, .int a9), (0, .ref (gad G 30)), (1, .int v1)] 2 (n := 1) rfl (by rw [ha9]; rfl) (by rw [hnL]; decide) rfl (by decide +kernel) rfl ?_
        refine aw_goto C (tgt := 53) (off := -32) (by decide +kernel) (by decide) ?_
        refine aw_sub [(0, .ref (gad G 30)), (1, .int v1), (2, .int a9)] [1, 2, 0] rfl ?_
        exact hk53 v1 a9 _ hf
theorem u_Pap_holes_53 {G : Cx} (C : CX G prog_8_method_3_code "PaperStars$Paper") (CR0 : CR G (Option.some FieldType.int)) (E : LCin (gly G)) (hnL : gnL G = 3) (hgd : 3 ≤ gd G) {q : Int32 × Mm} (hgr : gr G = some (.int q.1)) (hgs : gsf G = q.2) : ∀ (n : Nat) (v1 : Int32) (v2 : Int32) (st : Mm), f_Pap_holes_53 n v1 v2 st = some q → AW G st 53 [(0, .ref (gad G 30)), (1, .int v1), (2, .int v2)] [] := by
  intro n
  induction n with
  | zero => intro v1 v2 st hf; cases hf
  | succ n ih => intro v1 v2 st hf; exact t_Pap_holes_53 C CR0 E hnL hgd hgr hgs (f_Pap_holes_53 n) ih v1 v2 st hf
theorem t_Pap_holes_49 {G : Cx} (C : CX G prog_8_method_3_code "PaperStars$Paper") (CR0 : CR G (Option.some FieldType.int)) (E : LCin (gly G)) (hnL : gnL G = 3) (hgd : 3 ≤ gd G) {q : Int32 × Mm} (hgr : gr G = some (.int q.1)) (hgs : gsf G = q.2) (st : Mm) (hf : b_Pap_holes_49 st = some q) : AW G st 49 [(0, .ref (gad G 30))] [] := by
  unfold b_Pap_holes_49 at hf
  refine aw_iconst C (i0 := 0) (v := 0) (by decide) (by decide +kernel) rfl ?_
  refine aw_istore_n C [(1, .int (0 : Int32)), (0, .ref (gad G 30))] (j := 1) rfl (by rw [hnL]; decide) rfl (by decide +kernel) rfl ?_
  refine aw_iconst C (i0 := 0) (v := 0) (by decide) (by decide +kernel) rfl ?_
  refine aw_istore_n C [(2, .int (0 : Int32)), (1, .int (0 : Int32)), (0, .ref (gad G 30))] (j := 2) rfl (by rw [hnL]; decide) rfl (by decide +kernel) rfl ?_
  refine aw_sub [(0, .ref (gad G 30)), (1, .int (0 : Int32)), (2, .int (0 : Int32))] [2, 1, 0] rfl ?_
  exact u_Pap_holes_53 C CR0 E hnL hgd hgr hgs _ (0 : Int32) (0 : Int32) _ hf
theorem t_Pap_holes_2 {G : Cx} (C : CX G prog_8_method_3_code "PaperStars$Paper") (CR0 : CR G (Option.some FieldType.int)) (E : LCin (gly G)) (hnL : gnL G = 3) (hgd : 3 ≤ gd G) {q : Int32 × Mm} (hgr : gr G = some (.int q.1)) (hgs : gsf G = q.2) (k2 : Int32 → Mm → Option (Int32 × Mm)) (hk2 : ∀ (v1 : Int32) (st : Mm), k2 v1 st = some q → AW G st 2 [(0, .ref (gad G 30)), (1, .int v1)] []) (v1 : Int32) (st : Mm) (hf : b_Pap_holes_2 k2 v1 st = some q) : AW G st 2 [(0, .ref (gad G 30)), (1, .int v1)] [] := by
  unfold b_Pap_holes_2 at hf
  refine aw_iload_n C 1 1 (j := 1) rfl rfl (by decide +kernel) rfl ?_
  refine aw_bipush C (i0 := 16) (v := 16) (by decide) (by decide +kernel) rfl ?_
  refine aw_icmp_ge C (tgt := 49) (off := 44) (by decide +kernel) (by decide) rfl (fun c1 => ?_) (fun c1 => ?_)
  · have hf := ift c1 hf
    refine aw_sub [(0, .ref (gad G 30))] [0] rfl ?_
    exact t_Pap_holes_49 C CR0 E hnL hgd hgr hgs _ hf
  · have hf := iff_ c1 hf
    refine aw_aload_n C 0 0 (j := 0) rfl rfl (by decide +kernel) rfl ?_
    refine aw_getr C (k := 2) fc_6 (lc_30 E) rfl (by decide) tb_222 (by decide +kernel) rfl ?_
    refine aw_iload_n C 1 1 (j := 1) rfl rfl (by decide +kernel) rfl ?_
    refine aw_iload_n C 1 1 (j := 1) rfl rfl (by decide +kernel) rfl ?_
    refine aw_aload_n C 0 0 (j := 0) rfl rfl (by decide +kernel) rfl ?_
    refine aw_get C (k := 0) fc_6 (lc_30 E) rfl (by decide) tb_215 (by decide +kernel) rfl ?_
    refine aw_icmp_ge C (tgt := 41) (off := 23) (by decide +kernel) (by decide) rfl (fun c2 => ?_) (fun c2 => ?_)
    · have hf := ift c2 hf
      refine aw_iconst C (i0 := 0) (v := 0) (by decide) (by decide +kernel) rfl ?_
      obtain ⟨g3, hf⟩ := igd hf
      refine aw_iast C (lc_32 E) g3 (by decide +kernel) rfl ?_
      obtain ⟨a4, ha4⟩ : ∃ z, z = (v1 + (1 : Int32)) := ⟨_, rfl⟩
      have hf := ilt ha4 hf
      refine aw_iinc C [(1, .int a4), (0, .ref (gad G 30))] 1 (n := 1) rfl (by rw [ha4]; rfl) (by rw [hnL]; decide) rfl (by decide +kernel) rfl ?_
      refine aw_goto C (tgt := 2) (off := -44) (by decide +kernel) (by decide) ?_
      refine aw_sub [(0, .ref (gad G 30)), (1, .int a4)] [1, 0] rfl ?_
      exact hk2 a4 _ hf
    · have hf := iff_ c2 hf
      refine aw_aload_n C 0 0 (j := 0) rfl rfl (by decide +kernel) rfl ?_
      refine aw_getr C (k := 1) fc_6 (lc_30 E) rfl (by decide) tb_218 (by decide +kernel) rfl ?_
      refine aw_iload_n C 1 1 (j := 1) rfl rfl (by decide +kernel) rfl ?_
      obtain ⟨g5, hf⟩ := igd hf
      refine aw_iald C (lc_31 E) g5 (by decide +kernel) rfl ?_
      refine aw_iconst C (i0 := -1) (v := -1) (by decide) (by decide +kernel) rfl ?_
      refine aw_ixor C (by decide +kernel) rfl ?_
      refine aw_iconst C (i0 := 1) (v := 1) (by decide) (by decide +kernel) rfl ?_
      refine aw_aload_n C 0 0 (j := 0) rfl rfl (by decide +kernel) rfl ?_
      refine aw_get C (k := 0) fc_6 (lc_30 E) rfl (by decide) tb_215 (by decide +kernel) rfl ?_
      refine aw_ishl C (by decide +kernel) rfl ?_
      refine aw_iconst C (i0 := 1) (v := 1) (by decide) (by decide +kernel) rfl ?_
      refine aw_isub C (by decide +kernel) rfl ?_
      refine aw_iand C (by decide +kernel) rfl ?_
      refine aw_goto C (tgt := 42) (off := 4) (by decide +kernel) (by decide) ?_
      obtain ⟨a6, ha6⟩ : ∃ z, z = (((st.1 31 v1.toNatClampNeg) ^^^ (-1 : Int32)) &&& (((1 : Int32) <<< ((st.1 30 0) &&& 31)) - (1 : Int32))) := ⟨_, rfl⟩
      refine aw_nmi ha6 ?_
      have hf := ilt ha6 hf
      obtain ⟨g7, hf⟩ := igd hf
      refine aw_iast C (lc_32 E) g7 (by decide +kernel) rfl ?_
      obtain ⟨a8, ha8⟩ : ∃ z, z = (v1 + (1 : Int32)) := ⟨_, rfl⟩
      have hf := ilt ha8 hf
      refine aw_iinc C [(1, .int a8), (0, .ref (gad G 30))] 1 (n := 1) rfl (by rw [ha8]; rfl) (by rw [hnL]; decide) rfl (by decide +kernel) rfl ?_
      refine aw_goto C (tgt := 2) (off := -44) (by decide +kernel) (by decide) ?_
      refine aw_sub [(0, .ref (gad G 30)), (1, .int a8)] [1, 0] rfl ?_
      exact hk2 a8 _ hf
theorem u_Pap_holes_2 {G : Cx} (C : CX G prog_8_method_3_code "PaperStars$Paper") (CR0 : CR G (Option.some FieldType.int)) (E : LCin (gly G)) (hnL : gnL G = 3) (hgd : 3 ≤ gd G) {q : Int32 × Mm} (hgr : gr G = some (.int q.1)) (hgs : gsf G = q.2) : ∀ (n : Nat) (v1 : Int32) (st : Mm), f_Pap_holes_2 n v1 st = some q → AW G st 2 [(0, .ref (gad G 30)), (1, .int v1)] [] := by
  intro n
  induction n with
  | zero => intro v1 st hf; cases hf
  | succ n ih => intro v1 st hf; exact t_Pap_holes_2 C CR0 E hnL hgd hgr hgs (f_Pap_holes_2 n) ih v1 st hf
theorem t_Pap_holes {G : Cx} (C : CX G prog_8_method_3_code "PaperStars$Paper") (CR0 : CR G (Option.some FieldType.int)) (E : LCin (gly G)) (hnL : gnL G = 3) (hgd : 3 ≤ gd G) {q : Int32 × Mm} (hgr : gr G = some (.int q.1)) (hgs : gsf G = q.2) (st : Mm) (hf : f_Pap_holes st = some q) : AW G st 0 [(0, .ref (gad G 30))] [] := by
  unfold f_Pap_holes at hf
  refine aw_iconst C (i0 := 0) (v := 0) (by decide) (by decide +kernel) rfl ?_
  refine aw_istore_n C [(1, .int (0 : Int32)), (0, .ref (gad G 30))] (j := 1) rfl (by rw [hnL]; decide) rfl (by decide +kernel) rfl ?_
  refine aw_sub [(0, .ref (gad G 30)), (1, .int (0 : Int32))] [1, 0] rfl ?_
  exact u_Pap_holes_2 C CR0 E hnL hgd hgr hgs _ (0 : Int32) _ hf
theorem c_Pap_holes {lay : Ly} (E : LCin lay) (st : Mm) (q : Int32 × Mm) (hf : f_Pap_holes st = some q) : Con 3 Y79 prog_8_method_3_code 3 (Option.some FieldType.int) lay (fun ad => [.ref (ad 30)]) st (some (.int q.1)) q.2 :=
  am_met yf_79.2.2.2.2.2 (fun ad => Nat.le_of_ble_eq_true rfl) (fun G C CR0 e1 e2 e3 e4 e5 => t_Pap_holes C CR0 (by rw [e1]; exact E) e2 (Nat.le_of_eq e5.symm) e3 e4 st hf)
def b_Pap_sides_60 (v1 : Int32) (v2 : Int32) (st : Mm) : Option (Int32 × Mm) :=
  (f_Int_bitCount v2 st).bind (fun q1 => some ((v1 + q1.1), q1.2))
def b_Pap_sides_6 (k6 : Int32 → Int32 → Int32 → Mm → Option (Int32 × Mm)) (v1 : Int32) (v2 : Int32) (v3 : Int32) (st : Mm) : Option (Int32 × Mm) :=
  if (16 : Int32) ≤ v3 then (b_Pap_sides_60 v1 v2 st) else (if inb v3 16 then if inb v3 16 then (f_Int_bitCount ((st.1 31 v3.toNatClampNeg) ^^^ ((st.1 31 v3.toNatClampNeg) <<< ((1 : Int32) &&& 31))) st).bind (fun q4 => lt_ (v1 + q4.1) (fun a5 => if inb v3 16 then (f_Int_bitCount ((q4.2.1 31 v3.toNatClampNeg) ^^^ v2) q4.2).bind (fun q7 => lt_ (a5 + q7.1) (fun a8 => if inb v3 16 then lt_ (q7.2.1 31 v3.toNatClampNeg) (fun a10 => lt_ (v3 + (1 : Int32)) (fun a11 => k6 a8 a10 a11 q7.2)) else none)) else none)) else none else none)
def f_Pap_sides_6 : Nat → Int32 → Int32 → Int32 → Mm → Option (Int32 × Mm)
  | 0 => fun _ _ _ _ => none
  | n + 1 => b_Pap_sides_6 (f_Pap_sides_6 n)
def f_Pap_sides (st : Mm) : Option (Int32 × Mm) :=
  f_Pap_sides_6 1000000 (0 : Int32) (0 : Int32) (0 : Int32) st
theorem t_Pap_sides_60 {G : Cx} (C : CX G prog_8_method_2_code "PaperStars$Paper") (CR0 : CR G (Option.some FieldType.int)) (E : LCin (gly G)) (hnL : gnL G = 4) (hgd : 1 ≤ gd G) {q : Int32 × Mm} (hgr : gr G = some (.int q.1)) (hgs : gsf G = q.2) (v1 : Int32) (v2 : Int32) (st : Mm) (hf : b_Pap_sides_60 v1 v2 st = some q) : AW G st 60 [(1, .int v1), (2, .int v2)] [] := by
  unfold b_Pap_sides_60 at hf
  refine aw_iload_n C 1 0 (j := 1) rfl rfl (by decide +kernel) rfl ?_
  refine aw_iload_n C 2 1 (j := 2) rfl rfl (by decide +kernel) rfl ?_
  obtain ⟨q1, hq1, hf⟩ := ibd hf
  refine aw_callS C (rest := [.int v1]) (c_Int_bitCount v2 _ q1 hq1) tb_684 yf_64 tb_603 rfl _ rfl (Nat.le_trans (by decide) hgd) (Nat.le_of_ble_eq_true rfl) (by decide +kernel) rfl ?_
  show AW _ _ _ _ [.int q1.1, .int v1]
  refine aw_iadd C (by decide +kernel) rfl ?_
  exact aw_iretq C CR0 hgr hgs hf (by decide +kernel)
theorem t_Pap_sides_6 {G : Cx} (C : CX G prog_8_method_2_code "PaperStars$Paper") (CR0 : CR G (Option.some FieldType.int)) (E : LCin (gly G)) (hnL : gnL G = 4) (hgd : 1 ≤ gd G) {q : Int32 × Mm} (hgr : gr G = some (.int q.1)) (hgs : gsf G = q.2) (k6 : Int32 → Int32 → Int32 → Mm → Option (Int32 × Mm)) (hk6 : ∀ (v1 : Int32) (v2 : Int32) (v3 : Int32) (st : Mm), k6 v1 v2 v3 st = some q → AW G st 6 [(0, .ref (gad G 30)), (1, .int v1), (2, .int v2), (3, .int v3)] []) (v1 : Int32) (v2 : Int32) (v3 : Int32) (st : Mm) (hf : b_Pap_sides_6 k6 v1 v2 v3 st = some q) : AW G st 6 [(0, .ref (gad G 30)), (1, .int v1), (2, .int v2), (3, .int v3)] [] := by
  unfold b_Pap_sides_6 at hf
  refine aw_iload_n C 3 3 (j := 3) rfl rfl (by decide +kernel) rfl ?_
  refine aw_bipush C (i0 := 16) (v := 16) (by decide) (by decide +kernel) rfl ?_
  refine aw_icmp_ge C (tgt := 60) (off := 51) (by decide +kernel) (by decide) rfl (fun c1 => ?_) (fun c1 => ?_)
  · have hf := ift c1 hf
    refine aw_sub [(1, .int v1), (2, .int v2)] [1, 2] rfl ?_
    exact t_Pap_sides_60 C CR0 E hnL hgd hgr hgs v1 v2 _ hf
  · have hf := iff_ c1 hf
    refine aw_iload_n C 1 1 (j := 1) rfl rfl (by decide +kernel) rfl ?_
    refine aw_aload_n C 0 0 (j := 0) rfl rfl (by decide +kernel) rfl ?_
    refine aw_getr C (k := 1) fc_6 (lc_30 E) rfl (by decide) tb_218 (by decide +kernel) rfl ?_
    refine aw_iload_n C 3 3 (j := 3) rfl rfl (by decide +kernel) rfl ?_
    obtain ⟨g2, hf⟩ := igd hf
    refine aw_iald C (lc_31 E) g2 (by decide +kernel) rfl ?_
    refine aw_aload_n C 0 0 (j := 0) rfl rfl (by decide +kernel) rfl ?_
    refine aw_getr C (k := 1) fc_6 (lc_30 E) rfl (by decide) tb_218 (by decide +kernel) rfl ?_
    refine aw_iload_n C 3 3 (j := 3) rfl rfl (by decide +kernel) rfl ?_
    obtain ⟨g3, hf⟩ := igd hf
    refine aw_iald C (lc_31 E) g3 (by decide +kernel) rfl ?_
    refine aw_iconst C (i0 := 1) (v := 1) (by decide) (by decide +kernel) rfl ?_
    refine aw_ishl C (by decide +kernel) rfl ?_
    refine aw_ixor C (by decide +kernel) rfl ?_
    obtain ⟨q4, hq4, hf⟩ := ibd hf
    refine aw_callS C (rest := [.int v1]) (c_Int_bitCount ((st.1 31 v3.toNatClampNeg) ^^^ ((st.1 31 v3.toNatClampNeg) <<< ((1 : Int32) &&& 31))) _ q4 hq4) tb_684 yf_64 tb_603 rfl _ rfl (Nat.le_trans (by decide) hgd) (Nat.le_of_ble_eq_true rfl) (by decide +kernel) rfl ?_
    show AW _ _ _ _ [.int q4.1, .int v1]
    refine aw_iadd C (by decide +kernel) rfl ?_
    obtain ⟨a5, ha5⟩ : ∃ z, z = (v1 + q4.1) := ⟨_, rfl⟩
    refine aw_nmi ha5 ?_
    have hf := ilt ha5 hf
    refine aw_istore_n C [(1, .int a5), (0, .ref (gad G 30)), (2, .int v2), (3, .int v3)] (j := 1) rfl (by rw [hnL]; decide) rfl (by decide +kernel) rfl ?_
    refine aw_iload_n C 1 0 (j := 1) rfl rfl (by decide +kernel) rfl ?_
    refine aw_aload_n C 0 1 (j := 0) rfl rfl (by decide +kernel) rfl ?_
    refine aw_getr C (k := 1) fc_6 (lc_30 E) rfl (by decide) tb_218 (by decide +kernel) rfl ?_
    refine aw_iload_n C 3 3 (j := 3) rfl rfl (by decide +kernel) rfl ?_
    obtain ⟨g6, hf⟩ := igd hf
    refine aw_iald C (lc_31 E) g6 (by decide +kernel) rfl ?_
    refine aw_iload_n C 2 2 (j := 2) rfl rfl (by decide +kernel) rfl ?_
    refine aw_ixor C (by decide +kernel) rfl ?_
    obtain ⟨q7, hq7, hf⟩ := ibd hf
    refine aw_callS C (rest := [.int a5]) (c_Int_bitCount ((q4.2.1 31 v3.toNatClampNeg) ^^^ v2) _ q7 hq7) tb_684 yf_64 tb_603 rfl _ rfl (Nat.le_trans (by decide) hgd) (Nat.le_of_ble_eq_true rfl) (by decide +kernel) rfl ?_
    show AW _ _ _ _ [.int q7.1, .int a5]
    refine aw_iadd C (by decide +kernel) rfl ?_
    obtain ⟨a8, ha8⟩ : ∃ z, z = (a5 + q7.1) := ⟨_, rfl⟩
    refine aw_nmi ha8 ?_
    have hf := ilt ha8 hf
    refine aw_istore_n C [(1, .int a8), (0, .ref (gad G 30)), (2, .int v2), (3, .int v3)] (j := 1) rfl (by rw [hnL]; decide) rfl (by decide +kernel) rfl ?_
    refine aw_aload_n C 0 1 (j := 0) rfl rfl (by decide +kernel) rfl ?_
    refine aw_getr C (k := 1) fc_6 (lc_30 E) rfl (by decide) tb_218 (by decide +kernel) rfl ?_
    refine aw_iload_n C 3 3 (j := 3) rfl rfl (by decide +kernel) rfl ?_
    obtain ⟨g9, hf⟩ := igd hf
    refine aw_iald C (lc_31 E) g9 (by decide +kernel) rfl ?_
    obtain ⟨a10, ha10⟩ : ∃ z, z = (q7.2.1 31 v3.toNatClampNeg) := ⟨_, rfl⟩
    refine aw_nmi ha10 ?_
    have hf := ilt ha10 hf
    refine aw_istore_n C [(2, .int a10), (1, .int a8), (0, .ref (gad G 30)), (3, .int v3)] (j := 2) rfl (by rw [hnL]; decide) rfl (by decide +kernel) rfl ?_
    obtain ⟨a11, ha11⟩ : ∃ z, z = (v3 + (1 : Int32)) := ⟨_, rfl⟩
    have hf := ilt ha11 hf
    refine aw_iinc C [(3, .int a11), (2, .int a10), (1, .int a8), (0, .ref (gad G 30))] 3 (n := 1) rfl (by rw [ha11]; rfl) (by rw [hnL]; decide) rfl (by decide +kernel) rfl ?_
    refine aw_goto C (tgt := 6) (off := -51) (by decide +kernel) (by decide) ?_
    refine aw_sub [(0, .ref (gad G 30)), (1, .int a8), (2, .int a10), (3, .int a11)] [3, 2, 1, 0] rfl ?_
    exact hk6 a8 a10 a11 _ hf
theorem u_Pap_sides_6 {G : Cx} (C : CX G prog_8_method_2_code "PaperStars$Paper") (CR0 : CR G (Option.some FieldType.int)) (E : LCin (gly G)) (hnL : gnL G = 4) (hgd : 1 ≤ gd G) {q : Int32 × Mm} (hgr : gr G = some (.int q.1)) (hgs : gsf G = q.2) : ∀ (n : Nat) (v1 : Int32) (v2 : Int32) (v3 : Int32) (st : Mm), f_Pap_sides_6 n v1 v2 v3 st = some q → AW G st 6 [(0, .ref (gad G 30)), (1, .int v1), (2, .int v2), (3, .int v3)] [] := by
  intro n
  induction n with
  | zero => intro v1 v2 v3 st hf; cases hf
  | succ n ih => intro v1 v2 v3 st hf; exact t_Pap_sides_6 C CR0 E hnL hgd hgr hgs (f_Pap_sides_6 n) ih v1 v2 v3 st hf
theorem t_Pap_sides {G : Cx} (C : CX G prog_8_method_2_code "PaperStars$Paper") (CR0 : CR G (Option.some FieldType.int)) (E : LCin (gly G)) (hnL : gnL G = 4) (hgd : 1 ≤ gd G) {q : Int32 × Mm} (hgr : gr G = some (.int q.1)) (hgs : gsf G = q.2) (st : Mm) (hf : f_Pap_sides st = some q) : AW G st 0 [(0, .ref (gad G 30))] [] := by
  unfold f_Pap_sides at hf
  refine aw_iconst C (i0 := 0) (v := 0) (by decide) (by decide +kernel) rfl ?_
  refine aw_istore_n C [(1, .int (0 : Int32)), (0, .ref (gad G 30))] (j := 1) rfl (by rw [hnL]; decide) rfl (by decide +kernel) rfl ?_
  refine aw_iconst C (i0 := 0) (v := 0) (by decide) (by decide +kernel) rfl ?_
  refine aw_istore_n C [(2, .int (0 : Int32)), (1, .int (0 : Int32)), (0, .ref (gad G 30))] (j := 2) rfl (by rw [hnL]; decide) rfl (by decide +kernel) rfl ?_
  refine aw_iconst C (i0 := 0) (v := 0) (by decide) (by decide +kernel) rfl ?_
  refine aw_istore_n C [(3, .int (0 : Int32)), (2, .int (0 : Int32)), (1, .int (0 : Int32)), (0, .ref (gad G 30))] (j := 3) rfl (by rw [hnL]; decide) rfl (by decide +kernel) rfl ?_
  refine aw_sub [(0, .ref (gad G 30)), (1, .int (0 : Int32)), (2, .int (0 : Int32)), (3, .int (0 : Int32))] [3, 2, 1, 0] rfl ?_
  exact u_Pap_sides_6 C CR0 E hnL hgd hgr hgs _ (0 : Int32) (0 : Int32) (0 : Int32) _ hf
theorem c_Pap_sides {lay : Ly} (E : LCin lay) (st : Mm) (q : Int32 × Mm) (hf : f_Pap_sides st = some q) : Con 1 Y81 prog_8_method_2_code 4 (Option.some FieldType.int) lay (fun ad => [.ref (ad 30)]) st (some (.int q.1)) q.2 :=
  am_met yf_81.2.2.2.2.2 (fun ad => Nat.le_of_ble_eq_true rfl) (fun G C CR0 e1 e2 e3 e4 e5 => t_Pap_sides C CR0 (by rw [e1]; exact E) e2 (Nat.le_of_eq e5.symm) e3 e4 st hf)
def f_Pcs_mainCells (st : Mm) : Option (Int32 × Mm) :=
  if (st.1 34 2) < 0 then (some ((0 : Int32), st)) else (if (256 : Int32) ≤ (st.1 34 2) then (some ((0 : Int32), st)) else (if inb (st.1 34 2) 256 then some ((st.1 36 (st.1 34 2).toNatClampNeg), st) else none))
theorem t_Pcs_mainCells {G : Cx} (C : CX G prog_9_method_2_code "PaperStars$Pieces") (CR0 : CR G (Option.some FieldType.int)) (E : LCin (gly G)) (hnL : gnL G = 1) (hgd : 0 ≤ gd G) {q : Int32 × Mm} (hgr : gr G = some (.int q.1)) (hgs : gsf G = q.2) (st : Mm) (hf : f_Pcs_mainCells st = some q) : AW G st 0 [(0, .ref (gad G 34))] [] := by
  unfold f_Pcs_mainCells at hf
  refine aw_aload_n C 0 0 (j := 0) rfl rfl (by decide +kernel) rfl ?_
  refine aw_get C (k := 2) fc_7 (lc_34 E) rfl (by decide) tb_243 (by decide +kernel) rfl ?_
  refine aw_if_lt C (tgt := 29) (off := 25) (by decide +kernel) (by decide) rfl (fun c1 => ?_) (fun c1 => ?_)
  · have hf := ift c1 hf
    refine aw_iconst C (i0 := 0) (v := 0) (by decide) (by decide +kernel) rfl ?_
    exact aw_iretq C CR0 hgr hgs hf (by decide +kernel)
  · have hf := iff_ c1 hf
    refine aw_aload_n C 0 0 (j := 0) rfl rfl (by decide +kernel) rfl ?_
    refine aw_get C (k := 2) fc_7 (lc_34 E) rfl (by decide) tb_243 (by decide +kernel) rfl ?_
    refine aw_sipush C (i0 := 256) (v := 256) (by decide) (by decide +kernel) rfl ?_
    refine aw_icmp_ge C (tgt := 29) (off := 15) (by decide +kernel) (by decide) rfl (fun c2 => ?_) (fun c2 => ?_)
    · have hf := ift c2 hf
      refine aw_iconst C (i0 := 0) (v := 0) (by decide) (by decide +kernel) rfl ?_
      exact aw_iretq C CR0 hgr hgs hf (by decide +kernel)
    · have hf := iff_ c2 hf
      refine aw_aload_n C 0 0 (j := 0) rfl rfl (by decide +kernel) rfl ?_
      refine aw_getr C (k := 4) fc_7 (lc_34 E) rfl (by decide) tb_248 (by decide +kernel) rfl ?_
      refine aw_aload_n C 0 0 (j := 0) rfl rfl (by decide +kernel) rfl ?_
      refine aw_get C (k := 2) fc_7 (lc_34 E) rfl (by decide) tb_243 (by decide +kernel) rfl ?_
      obtain ⟨g3, hf⟩ := igd hf
      refine aw_iald C (lc_36 E) g3 (by decide +kernel) rfl ?_
      refine aw_goto C (tgt := 30) (off := 4) (by decide +kernel) (by decide) ?_
      exact aw_iretq C CR0 hgr hgs hf (by decide +kernel)
theorem c_Pcs_mainCells {lay : Ly} (E : LCin lay) (st : Mm) (q : Int32 × Mm) (hf : f_Pcs_mainCells st = some q) : Con 0 Y78 prog_9_method_2_code 1 (Option.some FieldType.int) lay (fun ad => [.ref (ad 34)]) st (some (.int q.1)) q.2 :=
  am_met yf_78.2.2.2.2.2 (fun ad => Nat.le_of_ble_eq_true rfl) (fun G C CR0 e1 e2 e3 e4 e5 => t_Pcs_mainCells C CR0 (by rw [e1]; exact E) e2 (Nat.le_of_eq e5.symm) e3 e4 st hf)
def f_Pcs_markThread (v1 : Int32) (st : Mm) : Option (Unit × Mm) :=
  lt_ (v1 >>> ((4 : Int32) &&& 31)) (fun a1 => if inb a1 16 then lt_ ((st.1 37 a1.toNatClampNeg) ||| ((1 : Int32) <<< ((v1 &&& (15 : Int32)) &&& 31))) (fun a3 => if inb a1 16 then some ((), (sI st 37 a1.toNatClampNeg a3)) else none) else none)
theorem t_Pcs_markThread {G : Cx} (C : CX G prog_9_method_8_code "PaperStars$Pieces") (CR0 : CR G (Option.none)) (E : LCin (gly G)) (hnL : gnL G = 2) (hgd : 0 ≤ gd G) {q : Unit × Mm} (hgr : gr G = none) (hgs : gsf G = q.2) (v1 : Int32) (st : Mm) (hf : f_Pcs_markThread v1 st = some q) : AW G st 0 [(0, .ref (gad G 34)), (1, .int v1)] [] := by
  unfold f_Pcs_markThread at hf
  refine aw_aload_n C 0 0 (j := 0) rfl rfl (by decide +kernel) rfl ?_
  refine aw_getr C (k := 5) fc_7 (lc_34 E) rfl (by decide) tb_250 (by decide +kernel) rfl ?_
  refine aw_iload_n C 1 1 (j := 1) rfl rfl (by decide +kernel) rfl ?_
  refine aw_iconst C (i0 := 4) (v := 4) (by decide) (by decide +kernel) rfl ?_
  refine aw_ishr C (by decide +kernel) rfl ?_
  obtain ⟨a1, ha1⟩ : ∃ z, z = (v1 >>> ((4 : Int32) &&& 31)) := ⟨_, rfl⟩
  refine aw_nmi ha1 ?_
  have hf := ilt ha1 hf
  refine aw_dup2_11 C rfl rfl (by decide +kernel) rfl ?_
  obtain ⟨g2, hf⟩ := igd hf
  refine aw_iald C (lc_37 E) g2 (by decide +kernel) rfl ?_
  refine aw_iconst C (i0 := 1) (v := 1) (by decide) (by decide +kernel) rfl ?_
  refine aw_iload_n C 1 1 (j := 1) rfl rfl (by decide +kernel) rfl ?_
  refine aw_bipush C (i0 := 15) (v := 15) (by decide) (by decide +kernel) rfl ?_
  refine aw_iand C (by decide +kernel) rfl ?_
  refine aw_ishl C (by decide +kernel) rfl ?_
  refine aw_ior C (by decide +kernel) rfl ?_
  obtain ⟨a3, ha3⟩ : ∃ z, z = ((st.1 37 a1.toNatClampNeg) ||| ((1 : Int32) <<< ((v1 &&& (15 : Int32)) &&& 31))) := ⟨_, rfl⟩
  refine aw_nmi ha3 ?_
  have hf := ilt ha3 hf
  obtain ⟨g4, hf⟩ := igd hf
  refine aw_iast C (lc_37 E) g4 (by decide +kernel) rfl ?_
  exact aw_vretq C CR0 hgr hgs hf (by decide +kernel)
theorem c_Pcs_markThread {lay : Ly} (E : LCin lay) (v1 : Int32) (st : Mm) (q : Unit × Mm) (hf : f_Pcs_markThread v1 st = some q) : Con 0 Y77 prog_9_method_8_code 2 (Option.none) lay (fun ad => [.ref (ad 34), .int v1]) st (none) q.2 :=
  am_met yf_77.2.2.2.2.2 (fun ad => Nat.le_of_ble_eq_true rfl) (fun G C CR0 e1 e2 e3 e4 e5 => t_Pcs_markThread C CR0 (by rw [e1]; exact E) e2 (Nat.le_of_eq e5.symm) e3 e4 v1 st hf)
def f_Pcs_meet (v1 : Int32) (v2 : Int32) (v3 : Int32) (st : Mm) : Option (Unit × Mm) :=
  lt_ ((st.1 34 6) + (1 : Int32)) (fun a1 => lt_ ((sI st 34 6 a1).1 34 6) (fun a2 => if inb v1 256 then lt_ ((sI (sI st 34 6 a1) 38 v1.toNatClampNeg a2).1 34 6) (fun a4 => if inb v1 256 then if inb v1 256 then if inb v1 256 then if inb v1 256 then if inb v3 256 then lt_ (((sI (sI (sI (sI (sI (sI st 34 6 a1) 38 v1.toNatClampNeg a2) 39 v1.toNatClampNeg a4) 40 v1.toNatClampNeg v2) 41 v1.toNatClampNeg (0 : Int32)) 35 v1.toNatClampNeg v3).1 36 v3.toNatClampNeg) + (1 : Int32)) (fun a10 => if inb v3 256 then some ((), (sI (sI (sI (sI (sI (sI (sI st 34 6 a1) 38 v1.toNatClampNeg a2) 39 v1.toNatClampNeg a4) 40 v1.toNatClampNeg v2) 41 v1.toNatClampNeg (0 : Int32)) 35 v1.toNatClampNeg v3) 36 v3.toNatClampNeg a10)) else none) else none else none else none else none else none) else none))
theorem t_Pcs_meet {G : Cx} (C : CX G prog_9_method_5_code "PaperStars$Pieces") (CR0 : CR G (Option.none)) (E : LCin (gly G)) (hnL : gnL G = 4) (hgd : 0 ≤ gd G) {q : Unit × Mm} (hgr : gr G = none) (hgs : gsf G = q.2) (v1 : Int32) (v2 : Int32) (v3 : Int32) (st : Mm) (hf : f_Pcs_meet v1 v2 v3 st = some q) : AW G st 0 [(0, .ref (gad G 34)), (1, .int v1), (2, .int v2), (3, .int v3)] [] := by
  unfold f_Pcs_meet at hf
  refine aw_aload_n C 0 0 (j := 0) rfl rfl (by decide +kernel) rfl ?_
  refine aw_dup C rfl (by decide +kernel) rfl ?_
  refine aw_get C (k := 6) fc_7 (lc_34 E) rfl (by decide) tb_252 (by decide +kernel) rfl ?_
  refine aw_iconst C (i0 := 1) (v := 1) (by decide) (by decide +kernel) rfl ?_
  refine aw_iadd C (by decide +kernel) rfl ?_
  obtain ⟨a1, ha1⟩ : ∃ z, z = ((st.1 34 6) + (1 : Int32)) := ⟨_, rfl⟩
  refine aw_nmi ha1 ?_
  have hf := ilt ha1 hf
  refine aw_put C (k := 6) fc_7 (lc_34 E) rfl (by decide) rfl rfl tb_252 (by decide +kernel) rfl ?_
  refine aw_aload_n C 0 0 (j := 0) rfl rfl (by decide +kernel) rfl ?_
  refine aw_getr C (k := 7) fc_7 (lc_34 E) rfl (by decide) tb_253 (by decide +kernel) rfl ?_
  refine aw_iload_n C 1 1 (j := 1) rfl rfl (by decide +kernel) rfl ?_
  refine aw_aload_n C 0 0 (j := 0) rfl rfl (by decide +kernel) rfl ?_
  refine aw_get C (k := 6) fc_7 (lc_34 E) rfl (by decide) tb_252 (by decide +kernel) rfl ?_
  obtain ⟨a2, ha2⟩ : ∃ z, z = ((sI st 34 6 a1).1 34 6) := ⟨_, rfl⟩
  refine aw_nmi ha2 ?_
  have hf := ilt ha2 hf
  obtain ⟨g3, hf⟩ := igd hf
  refine aw_iast C (lc_38 E) g3 (by decide +kernel) rfl ?_
  refine aw_aload_n C 0 0 (j := 0) rfl rfl (by decide +kernel) rfl ?_
  refine aw_getr C (k := 8) fc_7 (lc_34 E) rfl (by decide) tb_254 (by decide +kernel) rfl ?_
  refine aw_iload_n C 1 1 (j := 1) rfl rfl (by decide +kernel) rfl ?_
  refine aw_aload_n C 0 0 (j := 0) rfl rfl (by decide +kernel) rfl ?_
  refine aw_get C (k := 6) fc_7 (lc_34 E) rfl (by decide) tb_252 (by decide +kernel) rfl ?_
  obtain ⟨a4, ha4⟩ : ∃ z, z = ((sI (sI st 34 6 a1) 38 v1.toNatClampNeg a2).1 34 6) := ⟨_, rfl⟩
  refine aw_nmi ha4 ?_
  have hf := ilt ha4 hf
  obtain ⟨g5, hf⟩ := igd hf
  refine aw_iast C (lc_39 E) g5 (by decide +kernel) rfl ?_
  refine aw_aload_n C 0 0 (j := 0) rfl rfl (by decide +kernel) rfl ?_
  refine aw_getr C (k := 9) fc_7 (lc_34 E) rfl (by decide) tb_255 (by decide +kernel) rfl ?_
  refine aw_iload_n C 1 1 (j := 1) rfl rfl (by decide +kernel) rfl ?_
  refine aw_iload_n C 2 2 (j := 2) rfl rfl (by decide +kernel) rfl ?_
  obtain ⟨g6, hf⟩ := igd hf
  refine aw_iast C (lc_40 E) g6 (by decide +kernel) rfl ?_
  refine aw_aload_n C 0 0 (j := 0) rfl rfl (by decide +kernel) rfl ?_
  refine aw_getr C (k := 10) fc_7 (lc_34 E) rfl (by decide) tb_256 (by decide +kernel) rfl ?_
  refine aw_iload_n C 1 1 (j := 1) rfl rfl (by decide +kernel) rfl ?_
  refine aw_iconst C (i0 := 0) (v := 0) (by decide) (by decide +kernel) rfl ?_
  obtain ⟨g7, hf⟩ := igd hf
  refine aw_iast C (lc_41 E) g7 (by decide +kernel) rfl ?_
  refine aw_aload_n C 0 0 (j := 0) rfl rfl (by decide +kernel) rfl ?_
  refine aw_getr C (k := 3) fc_7 (lc_34 E) rfl (by decide) tb_245 (by decide +kernel) rfl ?_
  refine aw_iload_n C 1 1 (j := 1) rfl rfl (by decide +kernel) rfl ?_
  refine aw_iload_n C 3 3 (j := 3) rfl rfl (by decide +kernel) rfl ?_
  obtain ⟨g8, hf⟩ := igd hf
  refine aw_iast C (lc_35 E) g8 (by decide +kernel) rfl ?_
  refine aw_aload_n C 0 0 (j := 0) rfl rfl (by decide +kernel) rfl ?_
  refine aw_getr C (k := 4) fc_7 (lc_34 E) rfl (by decide) tb_248 (by decide +kernel) rfl ?_
  refine aw_iload_n C 3 3 (j := 3) rfl rfl (by decide +kernel) rfl ?_
  refine aw_dup2_11 C rfl rfl (by decide +kernel) rfl ?_
  obtain ⟨g9, hf⟩ := igd hf
  refine aw_iald C (lc_36 E) g9 (by decide +kernel) rfl ?_
  refine aw_iconst C (i0 := 1) (v := 1) (by decide) (by decide +kernel) rfl ?_
  refine aw_iadd C (by decide +kernel) rfl ?_
  obtain ⟨a10, ha10⟩ : ∃ z, z = (((sI (sI (sI (sI (sI (sI st 34 6 a1) 38 v1.toNatClampNeg a2) 39 v1.toNatClampNeg a4) 40 v1.toNatClampNeg v2) 41 v1.toNatClampNeg (0 : Int32)) 35 v1.toNatClampNeg v3).1 36 v3.toNatClampNeg) + (1 : Int32)) := ⟨_, rfl⟩
  refine aw_nmi ha10 ?_
  have hf := ilt ha10 hf
  obtain ⟨g11, hf⟩ := igd hf
  refine aw_iast C (lc_36 E) g11 (by decide +kernel) rfl ?_
  exact aw_vretq C CR0 hgr hgs hf (by decide +kernel)
theorem c_Pcs_meet {lay : Ly} (E : LCin lay) (v1 : Int32) (v2 : Int32) (v3 : Int32) (st : Mm) (q : Unit × Mm) (hf : f_Pcs_meet v1 v2 v3 st = some q) : Con 0 Y73 prog_9_method_5_code 4 (Option.none) lay (fun ad => [.ref (ad 34), .int v1, .int v2, .int v3]) st (none) q.2 :=
  am_met yf_73.2.2.2.2.2 (fun ad => Nat.le_of_ble_eq_true rfl) (fun G C CR0 e1 e2 e3 e4 e5 => t_Pcs_meet C CR0 (by rw [e1]; exact E) e2 (Nat.le_of_eq e5.symm) e3 e4 v1 v2 v3 st hf)
def f_Pcs_settle (v1 : Int32) (v2 : Int32) (st : Mm) : Option (Unit × Mm) :=
  if inb v2 256 then if inb v1 256 then lt_ (if (st.1 39 v1.toNatClampNeg) < (st.1 39 v2.toNatClampNeg) then (st.1 39 v1.toNatClampNeg) else (st.1 39 v2.toNatClampNeg)) (fun a3 => if inb v2 256 then if inb v1 256 then if inb v2 256 then if ((sI st 39 v2.toNatClampNeg a3).1 39 v1.toNatClampNeg) < ((sI st 39 v2.toNatClampNeg a3).1 38 v2.toNatClampNeg) then (some ((), (sI st 39 v2.toNatClampNeg a3))) else ((f_Pcs_markThread v2 (sI st 39 v2.toNatClampNeg a3)).bind (fun q8 => some ((), q8.2))) else none else none else none) else none else none
theorem t_Pcs_settle {G : Cx} (C : CX G prog_9_method_7_code "PaperStars$Pieces") (CR0 : CR G (Option.none)) (E : LCin (gly G)) (hnL : gnL G = 3) (hgd : 1 ≤ gd G) {q : Unit × Mm} (hgr : gr G = none) (hgs : gsf G = q.2) (v1 : Int32) (v2 : Int32) (st : Mm) (hf : f_Pcs_settle v1 v2 st = some q) : AW G st 0 [(0, .ref (gad G 34)), (1, .int v1), (2, .int v2)] [] := by
  unfold f_Pcs_settle at hf
  refine aw_aload_n C 0 0 (j := 0) rfl rfl (by decide +kernel) rfl ?_
  refine aw_getr C (k := 8) fc_7 (lc_34 E) rfl (by decide) tb_254 (by decide +kernel) rfl ?_
  refine aw_iload_n C 2 2 (j := 2) rfl rfl (by decide +kernel) rfl ?_
  refine aw_aload_n C 0 0 (j := 0) rfl rfl (by decide +kernel) rfl ?_
  refine aw_getr C (k := 8) fc_7 (lc_34 E) rfl (by decide) tb_254 (by decide +kernel) rfl ?_
  refine aw_iload_n C 2 2 (j := 2) rfl rfl (by decide +kernel) rfl ?_
  obtain ⟨g1, hf⟩ := igd hf
  refine aw_iald C (lc_39 E) g1 (by decide +kernel) rfl ?_
  refine aw_aload_n C 0 0 (j := 0) rfl rfl (by decide +kernel) rfl ?_
  refine aw_getr C (k := 8) fc_7 (lc_34 E) rfl (by decide) tb_254 (by decide +kernel) rfl ?_
  refine aw_iload_n C 1 1 (j := 1) rfl rfl (by decide +kernel) rfl ?_
  obtain ⟨g2, hf⟩ := igd hf
  refine aw_iald C (lc_39 E) g2 (by decide +kernel) rfl ?_
  refine aw_mmin C (Nat.le_trans (by decide) hgd) (Nat.le_of_ble_eq_true rfl) tb_656 tb_468 tb_14 tb_469 (by decide +kernel) rfl ?_
  obtain ⟨a3, ha3⟩ : ∃ z, z = (if (st.1 39 v1.toNatClampNeg) < (st.1 39 v2.toNatClampNeg) then (st.1 39 v1.toNatClampNeg) else (st.1 39 v2.toNatClampNeg)) := ⟨_, rfl⟩
  refine aw_nmi ha3 ?_
  have hf := ilt ha3 hf
  obtain ⟨g4, hf⟩ := igd hf
  refine aw_iast C (lc_39 E) g4 (by decide +kernel) rfl ?_
  refine aw_aload_n C 0 0 (j := 0) rfl rfl (by decide +kernel) rfl ?_
  refine aw_getr C (k := 8) fc_7 (lc_34 E) rfl (by decide) tb_254 (by decide +kernel) rfl ?_
  refine aw_iload_n C 1 1 (j := 1) rfl rfl (by decide +kernel) rfl ?_
  obtain ⟨g5, hf⟩ := igd hf
  refine aw_iald C (lc_39 E) g5 (by decide +kernel) rfl ?_
  refine aw_aload_n C 0 0 (j := 0) rfl rfl (by decide +kernel) rfl ?_
  refine aw_getr C (k := 7) fc_7 (lc_34 E) rfl (by decide) tb_253 (by decide +kernel) rfl ?_
  refine aw_iload_n C 2 2 (j := 2) rfl rfl (by decide +kernel) rfl ?_
  obtain ⟨g6, hf⟩ := igd hf
  refine aw_iald C (lc_38 E) g6 (by decide +kernel) rfl ?_
  refine aw_icmp_lt C (tgt := 41) (off := 8) (by decide +kernel) (by decide) rfl (fun c7 => ?_) (fun c7 => ?_)
  · have hf := ift c7 hf
    exact aw_vretq C CR0 hgr hgs hf (by decide +kernel)
  · have hf := iff_ c7 hf
    refine aw_aload_n C 0 0 (j := 0) rfl rfl (by decide +kernel) rfl ?_
    refine aw_iload_n C 2 2 (j := 2) rfl rfl (by decide +kernel) rfl ?_
    obtain ⟨q8, hq8, hf⟩ := ibd hf
    refine aw_callV C (rest := []) (c_Pcs_markThread E v2 _ q8 hq8) tb_661 yf_77 yi_77 (lc_34 E) [.int v2] rfl rfl _ rfl (Nat.le_trans (by decide) hgd) (Nat.le_of_ble_eq_true rfl) (by decide +kernel) rfl ?_
    show AW _ _ _ _ []
    exact aw_vretq C CR0 hgr hgs hf (by decide +kernel)
theorem c_Pcs_settle {lay : Ly} (E : LCin lay) (v1 : Int32) (v2 : Int32) (st : Mm) (q : Unit × Mm) (hf : f_Pcs_settle v1 v2 st = some q) : Con 1 Y76 prog_9_method_7_code 3 (Option.none) lay (fun ad => [.ref (ad 34), .int v1, .int v2]) st (none) q.2 :=
  am_met yf_76.2.2.2.2.2 (fun ad => Nat.le_of_ble_eq_true rfl) (fun G C CR0 e1 e2 e3 e4 e5 => t_Pcs_settle C CR0 (by rw [e1]; exact E) e2 (Nat.le_of_eq e5.symm) e3 e4 v1 v2 st hf)
def f_Pcs_tryBeside (v1 : Int32) (v2 : Int32) (v3 : Int32) (st : Mm) : Option (Int32 × Mm) :=
  if v2 < 0 then (some (v1, st)) else ((f_x_hasBit 31 v2 st).bind (fun q2 => if q2.1 = 0 then (some (v1, q2.2)) else (if inb v2 256 then if (q2.2.1 38 v2.toNatClampNeg) = 0 then ((f_Pcs_meet v2 v1 v3 q2.2).bind (fun q6 => some (v2, q6.2))) else (if inb v1 256 then if inb v2 256 then lt_ (if (q2.2.1 38 v2.toNatClampNeg) < (q2.2.1 39 v1.toNatClampNeg) then (q2.2.1 38 v2.toNatClampNeg) else (q2.2.1 39 v1.toNatClampNeg)) (fun a9 => if inb v1 256 then some (v1, (sI q2.2 39 v1.toNatClampNeg a9)) else none) else none else none) else none)))
theorem t_Pcs_tryBeside {G : Cx} (C : CX G prog_9_method_6_code "PaperStars$Pieces") (CR0 : CR G (Option.some FieldType.int)) (E : LCin (gly G)) (hnL : gnL G = 5) (hgd : 1 ≤ gd G) {q : Int32 × Mm} (hgr : gr G = some (.int q.1)) (hgs : gsf G = q.2) (v1 : Int32) (v2 : Int32) (v3 : Int32) (st : Mm) (hf : f_Pcs_tryBeside v1 v2 v3 st = some q) : AW G st 0 [(0, .ref (gad G 34)), (1, .int v1), (2, .int v2), (3, .int v3), (4, .ref (gad G 30))] [] := by
  unfold f_Pcs_tryBeside at hf
  refine aw_iload_n C 2 2 (j := 2) rfl rfl (by decide +kernel) rfl ?_
  refine aw_if_lt C (tgt := 16) (off := 15) (by decide +kernel) (by decide) rfl (fun c1 => ?_) (fun c1 => ?_)
  · have hf := ift c1 hf
    refine aw_iload_n C 1 1 (j := 1) rfl rfl (by decide +kernel) rfl ?_
    exact aw_iretq C CR0 hgr hgs hf (by decide +kernel)
  · have hf := iff_ c1 hf
    refine aw_aload C 4 4 rfl (by decide +kernel) rfl ?_
    refine aw_getr C (k := 1) fc_6 (lc_30 E) rfl (by decide) tb_220 (by decide +kernel) rfl ?_
    refine aw_iload_n C 2 2 (j := 2) rfl rfl (by decide +kernel) rfl ?_
    obtain ⟨q2, hq2, hf⟩ := ibd hf
    refine aw_callSN C (rest := []) (c_x_hasBit 31 (lc_31 E) v2 _ q2 hq2) nw_13 yf_23 tb_394 rfl _ rfl (Nat.le_trans (by decide) hgd) (Nat.le_of_ble_eq_true rfl) (by decide +kernel) rfl ?_
    show AW _ _ _ _ [.int q2.1]
    refine aw_if_ne C (tgt := 18) (off := 5) (by decide +kernel) (by decide) rfl (fun c3 => ?_) (fun c3 => ?_)
    · have hf := ift c3 hf
      refine aw_iload_n C 1 1 (j := 1) rfl rfl (by decide +kernel) rfl ?_
      exact aw_iretq C CR0 hgr hgs hf (by decide +kernel)
    · have hf := iff_ c3 hf
      refine aw_aload_n C 0 0 (j := 0) rfl rfl (by decide +kernel) rfl ?_
      refine aw_getr C (k := 7) fc_7 (lc_34 E) rfl (by decide) tb_253 (by decide +kernel) rfl ?_
      refine aw_iload_n C 2 2 (j := 2) rfl rfl (by decide +kernel) rfl ?_
      obtain ⟨g4, hf⟩ := igd hf
      refine aw_iald C (lc_38 E) g4 (by decide +kernel) rfl ?_
      refine aw_if_ne C (tgt := 36) (off := 12) (by decide +kernel) (by decide) rfl (fun c5 => ?_) (fun c5 => ?_)
      · have hf := ift c5 hf
        refine aw_aload_n C 0 0 (j := 0) rfl rfl (by decide +kernel) rfl ?_
        refine aw_iload_n C 2 2 (j := 2) rfl rfl (by decide +kernel) rfl ?_
        refine aw_iload_n C 1 1 (j := 1) rfl rfl (by decide +kernel) rfl ?_
        refine aw_iload_n C 3 3 (j := 3) rfl rfl (by decide +kernel) rfl ?_
        obtain ⟨q6, hq6, hf⟩ := ibd hf
        refine aw_callV C (rest := []) (c_Pcs_meet E v2 v1 v3 _ q6 hq6) tb_645 yf_73 yi_73 (lc_34 E) [.int v2, .int v1, .int v3] rfl rfl _ rfl (Nat.le_trans (by decide) hgd) (Nat.le_of_ble_eq_true rfl) (by decide +kernel) rfl ?_
        show AW _ _ _ _ []
        refine aw_iload_n C 2 2 (j := 2) rfl rfl (by decide +kernel) rfl ?_
        exact aw_iretq C CR0 hgr hgs hf (by decide +kernel)
      · have hf := iff_ c5 hf
        refine aw_aload_n C 0 0 (j := 0) rfl rfl (by decide +kernel) rfl ?_
        refine aw_getr C (k := 8) fc_7 (lc_34 E) rfl (by decide) tb_254 (by decide +kernel) rfl ?_
        refine aw_iload_n C 1 1 (j := 1) rfl rfl (by decide +kernel) rfl ?_
        refine aw_aload_n C 0 0 (j := 0) rfl rfl (by decide +kernel) rfl ?_
        refine aw_getr C (k := 8) fc_7 (lc_34 E) rfl (by decide) tb_254 (by decide +kernel) rfl ?_
        refine aw_iload_n C 1 1 (j := 1) rfl rfl (by decide +kernel) rfl ?_
        obtain ⟨g7, hf⟩ := igd hf
        refine aw_iald C (lc_39 E) g7 (by decide +kernel) rfl ?_
        refine aw_aload_n C 0 0 (j := 0) rfl rfl (by decide +kernel) rfl ?_
        refine aw_getr C (k := 7) fc_7 (lc_34 E) rfl (by decide) tb_253 (by decide +kernel) rfl ?_
        refine aw_iload_n C 2 2 (j := 2) rfl rfl (by decide +kernel) rfl ?_
        obtain ⟨g8, hf⟩ := igd hf
        refine aw_iald C (lc_38 E) g8 (by decide +kernel) rfl ?_
        refine aw_mmin C (Nat.le_trans (by decide) hgd) (Nat.le_of_ble_eq_true rfl) tb_656 tb_468 tb_14 tb_469 (by decide +kernel) rfl ?_
        obtain ⟨a9, ha9⟩ : ∃ z, z = (if (q2.2.1 38 v2.toNatClampNeg) < (q2.2.1 39 v1.toNatClampNeg) then (q2.2.1 38 v2.toNatClampNeg) else (q2.2.1 39 v1.toNatClampNeg)) := ⟨_, rfl⟩
        refine aw_nmi ha9 ?_
        have hf := ilt ha9 hf
        obtain ⟨g10, hf⟩ := igd hf
        refine aw_iast C (lc_39 E) g10 (by decide +kernel) rfl ?_
        refine aw_iload_n C 1 1 (j := 1) rfl rfl (by decide +kernel) rfl ?_
        exact aw_iretq C CR0 hgr hgs hf (by decide +kernel)
theorem c_Pcs_tryBeside {lay : Ly} (E : LCin lay) (v1 : Int32) (v2 : Int32) (v3 : Int32) (st : Mm) (q : Int32 × Mm) (hf : f_Pcs_tryBeside v1 v2 v3 st = some q) : Con 1 Y75 prog_9_method_6_code 5 (Option.some FieldType.int) lay (fun ad => [.ref (ad 34), .int v1, .int v2, .int v3, .ref (ad 30)]) st (some (.int q.1)) q.2 :=
  am_met yf_75.2.2.2.2.2 (fun ad => Nat.le_of_ble_eq_true rfl) (fun G C CR0 e1 e2 e3 e4 e5 => t_Pcs_tryBeside C CR0 (by rw [e1]; exact E) e2 (Nat.le_of_eq e5.symm) e3 e4 v1 v2 v3 st hf)
def b_Pcs_walkFrom_122 (v1 : Int32) (v3 : Int32) (st : Mm) : Option (Unit × Mm) :=
  if v3 ≤ (1 : Int32) then (some ((), st)) else ((f_Pcs_markThread v1 st).bind (fun q2 => some ((), q2.2)))
def b_Pcs_walkFrom_15 (k15 : Int32 → Int32 → Int32 → Int32 → Mm → Option (Unit × Mm)) (v1 : Int32) (v3 : Int32) (v4 : Int32) (v5 : Int32) (st : Mm) : Option (Unit × Mm) :=
  if (1280 : Int32) ≤ v5 then (b_Pcs_walkFrom_122 v1 v3 st) else (if v4 < 0 then (b_Pcs_walkFrom_122 v1 v3 st) else (if inb v4 256 then lt_ (st.1 41 v4.toNatClampNeg) (fun a4 => lt_ (a4 + (1 : Int32)) (fun a5 => if inb v4 256 then if (4 : Int32) ≤ a4 then (if inb v4 256 then lt_ ((sI st 41 v4.toNatClampNeg a5).1 40 v4.toNatClampNeg) (fun a9 => if a9 = v1 then (lt_ (v3 + (1 : Int32)) (fun a11 => lt_ (v5 + (1 : Int32)) (fun a12 => k15 v1 a11 a9 a12 (sI st 41 v4.toNatClampNeg a5)))) else (if a9 < 0 then (lt_ (v5 + (1 : Int32)) (fun a14 => k15 v1 v3 a9 a14 (sI st 41 v4.toNatClampNeg a5))) else ((f_Pcs_settle v4 a9 (sI st 41 v4.toNatClampNeg a5)).bind (fun q15 => lt_ (v5 + (1 : Int32)) (fun a16 => k15 v1 v3 a9 a16 q15.2))))) else none) else ((f_x_cellBeside v4 a4 ((sI st 41 v4.toNatClampNeg a5).1 30 0) (sI st 41 v4.toNatClampNeg a5)).bind (fun q17 => (f_Pcs_tryBeside v4 q17.1 v1 q17.2).bind (fun q18 => lt_ (v5 + (1 : Int32)) (fun a19 => k15 v1 v3 q18.1 a19 q18.2)))) else none)) else none))
def f_Pcs_walkFrom_15 : Nat → Int32 → Int32 → Int32 → Int32 → Mm → Option (Unit × Mm)
  | 0 => fun _ _ _ _ _ => none
  | n + 1 => b_Pcs_walkFrom_15 (f_Pcs_walkFrom_15 n)
def f_Pcs_walkFrom (v1 : Int32) (st : Mm) : Option (Unit × Mm) :=
  (f_Pcs_meet v1 (-1 : Int32) v1 st).bind (fun q1 => f_Pcs_walkFrom_15 1000000 v1 (0 : Int32) v1 (0 : Int32) q1.2)
theorem t_Pcs_walkFrom_122 {G : Cx} (C : CX G prog_9_method_4_code "PaperStars$Pieces") (CR0 : CR G (Option.none)) (E : LCin (gly G)) (hnL : gnL G = 8) (hgd : 2 ≤ gd G) {q : Unit × Mm} (hgr : gr G = none) (hgs : gsf G = q.2) (v1 : Int32) (v3 : Int32) (st : Mm) (hf : b_Pcs_walkFrom_122 v1 v3 st = some q) : AW G st 122 [(0, .ref (gad G 34)), (1, .int v1), (3, .int v3)] [] := by
  unfold b_Pcs_walkFrom_122 at hf
  refine aw_iload_n C 3 2 (j := 3) rfl rfl (by decide +kernel) rfl ?_
  refine aw_iconst C (i0 := 1) (v := 1) (by decide) (by decide +kernel) rfl ?_
  refine aw_icmp_le C (tgt := 132) (off := 8) (by decide +kernel) (by decide) rfl (fun c1 => ?_) (fun c1 => ?_)
  · have hf := ift c1 hf
    exact aw_vretq C CR0 hgr hgs hf (by decide +kernel)
  · have hf := iff_ c1 hf
    refine aw_aload_n C 0 0 (j := 0) rfl rfl (by decide +kernel) rfl ?_
    refine aw_iload_n C 1 1 (j := 1) rfl rfl (by decide +kernel) rfl ?_
    obtain ⟨q2, hq2, hf⟩ := ibd hf
    refine aw_callV C (rest := []) (c_Pcs_markThread E v1 _ q2 hq2) tb_661 yf_77 yi_77 (lc_34 E) [.int v1] rfl rfl _ rfl (Nat.le_trans (by decide) hgd) (Nat.le_of_ble_eq_true rfl) (by decide +kernel) rfl ?_
    show AW _ _ _ _ []
    exact aw_vretq C CR0 hgr hgs hf (by decide +kernel)
theorem t_Pcs_walkFrom_15 {G : Cx} (C : CX G prog_9_method_4_code "PaperStars$Pieces") (CR0 : CR G (Option.none)) (E : LCin (gly G)) (hnL : gnL G = 8) (hgd : 2 ≤ gd G) {q : Unit × Mm} (hgr : gr G = none) (hgs : gsf G = q.2) (k15 : Int32 → Int32 → Int32 → Int32 → Mm → Option (Unit × Mm)) (hk15 : ∀ (v1 : Int32) (v3 : Int32) (v4 : Int32) (v5 : Int32) (st : Mm), k15 v1 v3 v4 v5 st = some q → AW G st 15 [(0, .ref (gad G 34)), (1, .int v1), (2, .ref (gad G 30)), (3, .int v3), (4, .int v4), (5, .int v5)] []) (v1 : Int32) (v3 : Int32) (v4 : Int32) (v5 : Int32) (st : Mm) (hf : b_Pcs_walkFrom_15 k15 v1 v3 v4 v5 st = some q) : AW G st 15 [(0, .ref (gad G 34)), (1, .int v1), (2, .ref (gad G 30)), (3, .int v3), (4, .int v4), (5, .int v5)] [] := by
  unfold b_Pcs_walkFrom_15 at hf
  refine aw_iload C 5 5 rfl (by decide +kernel) rfl ?_
  refine aw_sipush C (i0 := 1280) (v := 1280) (by decide) (by decide +kernel) rfl ?_
  refine aw_icmp_ge C (tgt := 122) (off := 102) (by decide +kernel) (by decide) rfl (fun c1 => ?_) (fun c1 => ?_)
  · have hf := ift c1 hf
    refine aw_sub [(0, .ref (gad G 34)), (1, .int v1), (3, .int v3)] [0, 1, 3] rfl ?_
    exact t_Pcs_walkFrom_122 C CR0 E hnL hgd hgr hgs v1 v3 _ hf
  · have hf := iff_ c1 hf
    refine aw_iload C 4 4 rfl (by decide +kernel) rfl ?_
    refine aw_if_lt C (tgt := 122) (off := 97) (by decide +kernel) (by decide) rfl (fun c2 => ?_) (fun c2 => ?_)
    · have hf := ift c2 hf
      refine aw_sub [(0, .ref (gad G 34)), (1, .int v1), (3, .int v3)] [0, 1, 3] rfl ?_
      exact t_Pcs_walkFrom_122 C CR0 E hnL hgd hgr hgs v1 v3 _ hf
    · have hf := iff_ c2 hf
      refine aw_aload_n C 0 0 (j := 0) rfl rfl (by decide +kernel) rfl ?_
      refine aw_getr C (k := 10) fc_7 (lc_34 E) rfl (by decide) tb_256 (by decide +kernel) rfl ?_
      refine aw_iload C 4 4 rfl (by decide +kernel) rfl ?_
      obtain ⟨g3, hf⟩ := igd hf
      refine aw_iald C (lc_41 E) g3 (by decide +kernel) rfl ?_
      obtain ⟨a4, ha4⟩ : ∃ z, z = (st.1 41 v4.toNatClampNeg) := ⟨_, rfl⟩
      refine aw_nmi ha4 ?_
      have hf := ilt ha4 hf
      refine aw_istore C [(6, .int a4), (0, .ref (gad G 34)), (1, .int v1), (2, .ref (gad G 30)), (3, .int v3), (4, .int v4), (5, .int v5)] (by rw [hnL]; decide) rfl (by decide +kernel) rfl ?_
      refine aw_aload_n C 0 1 (j := 0) rfl rfl (by decide +kernel) rfl ?_
      refine aw_getr C (k := 10) fc_7 (lc_34 E) rfl (by decide) tb_256 (by decide +kernel) rfl ?_
      refine aw_iload C 4 5 rfl (by decide +kernel) rfl ?_
      refine aw_iload C 6 0 rfl (by decide +kernel) rfl ?_
      refine aw_iconst C (i0 := 1) (v := 1) (by decide) (by decide +kernel) rfl ?_
      refine aw_iadd C (by decide +kernel) rfl ?_
      obtain ⟨a5, ha5⟩ : ∃ z, z = (a4 + (1 : Int32)) := ⟨_, rfl⟩
      refine aw_nmi ha5 ?_
      have hf := ilt ha5 hf
      obtain ⟨g6, hf⟩ := igd hf
      refine aw_iast C (lc_41 E) g6 (by decide +kernel) rfl ?_
      refine aw_iload C 6 0 rfl (by decide +kernel) rfl ?_
      refine aw_iconst C (i0 := 4) (v := 4) (by decide) (by decide +kernel) rfl ?_
      refine aw_icmp_ge C (tgt := 78) (off := 27) (by decide +kernel) (by decide) rfl (fun c7 => ?_) (fun c7 => ?_)
      · have hf := ift c7 hf
        refine aw_aload_n C 0 1 (j := 0) rfl rfl (by decide +kernel) rfl ?_
        refine aw_getr C (k := 9) fc_7 (lc_34 E) rfl (by decide) tb_255 (by decide +kernel) rfl ?_
        refine aw_iload C 4 5 rfl (by decide +kernel) rfl ?_
        obtain ⟨g8, hf⟩ := igd hf
        refine aw_iald C (lc_40 E) g8 (by decide +kernel) rfl ?_
        obtain ⟨a9, ha9⟩ : ∃ z, z = ((sI st 41 v4.toNatClampNeg a5).1 40 v4.toNatClampNeg) := ⟨_, rfl⟩
        refine aw_nmi ha9 ?_
        have hf := ilt ha9 hf
        refine aw_istore C [(7, .int a9), (6, .int a4), (0, .ref (gad G 34)), (1, .int v1), (2, .ref (gad G 30)), (3, .int v3), (4, .int v4), (5, .int v5)] (by rw [hnL]; decide) rfl (by decide +kernel) rfl ?_
        refine aw_iload C 7 0 rfl (by decide +kernel) rfl ?_
        refine aw_iload_n C 1 3 (j := 1) rfl rfl (by decide +kernel) rfl ?_
        refine aw_icmp_ne C (tgt := 99) (off := 9) (by decide +kernel) (by decide) rfl (fun c10 => ?_) (fun c10 => ?_)
        · have hf := ift c10 hf
          obtain ⟨a11, ha11⟩ : ∃ z, z = (v3 + (1 : Int32)) := ⟨_, rfl⟩
          have hf := ilt ha11 hf
          refine aw_iinc C [(3, .int a11), (7, .int a9), (6, .int a4), (0, .ref (gad G 34)), (1, .int v1), (2, .ref (gad G 30)), (4, .int v4), (5, .int v5)] 5 (n := 1) rfl (by rw [ha11]; rfl) (by rw [hnL]; decide) rfl (by decide +kernel) rfl ?_
          refine aw_goto C (tgt := 112) (off := 16) (by decide +kernel) (by decide) ?_
          refine aw_iload C 7 1 rfl (by decide +kernel) rfl ?_
          refine aw_istore C [(4, .int a9), (3, .int a11), (7, .int a9), (6, .int a4), (0, .ref (gad G 34)), (1, .int v1), (2, .ref (gad G 30)), (5, .int v5)] (by rw [hnL]; decide) rfl (by decide +kernel) rfl ?_
          obtain ⟨a12, ha12⟩ : ∃ z, z = (v5 + (1 : Int32)) := ⟨_, rfl⟩
          have hf := ilt ha12 hf
          refine aw_iinc C [(5, .int a12), (4, .int a9), (3, .int a11), (7, .int a9), (6, .int a4), (0, .ref (gad G 34)), (1, .int v1), (2, .ref (gad G 30))] 7 (n := 1) rfl (by rw [ha12]; rfl) (by rw [hnL]; decide) rfl (by decide +kernel) rfl ?_
          refine aw_goto C (tgt := 15) (off := -104) (by decide +kernel) (by decide) ?_
          refine aw_sub [(0, .ref (gad G 34)), (1, .int v1), (2, .ref (gad G 30)), (3, .int a11), (4, .int a9), (5, .int a12)] [5, 6, 7, 2, 1, 0] rfl ?_
          exact hk15 v1 a11 a9 a12 _ hf
        · have hf := iff_ c10 hf
          refine aw_iload C 7 0 rfl (by decide +kernel) rfl ?_
          refine aw_if_lt C (tgt := 112) (off := 11) (by decide +kernel) (by decide) rfl (fun c13 => ?_) (fun c13 => ?_)
          · have hf := ift c13 hf
            refine aw_iload C 7 0 rfl (by decide +kernel) rfl ?_
            refine aw_istore C [(4, .int a9), (7, .int a9), (6, .int a4), (0, .ref (gad G 34)), (1, .int v1), (2, .ref (gad G 30)), (3, .int v3), (5, .int v5)] (by rw [hnL]; decide) rfl (by decide +kernel) rfl ?_
            obtain ⟨a14, ha14⟩ : ∃ z, z = (v5 + (1 : Int32)) := ⟨_, rfl⟩
            have hf := ilt ha14 hf
            refine aw_iinc C [(5, .int a14), (4, .int a9), (7, .int a9), (6, .int a4), (0, .ref (gad G 34)), (1, .int v1), (2, .ref (gad G 30)), (3, .int v3)] 7 (n := 1) rfl (by rw [ha14]; rfl) (by rw [hnL]; decide) rfl (by decide +kernel) rfl ?_
            refine aw_goto C (tgt := 15) (off := -104) (by decide +kernel) (by decide) ?_
            refine aw_sub [(0, .ref (gad G 34)), (1, .int v1), (2, .ref (gad G 30)), (3, .int v3), (4, .int a9), (5, .int a14)] [4, 5, 6, 7, 1, 0] rfl ?_
            exact hk15 v1 v3 a9 a14 _ hf
          · have hf := iff_ c13 hf
            refine aw_aload_n C 0 2 (j := 0) rfl rfl (by decide +kernel) rfl ?_
            refine aw_iload C 4 6 rfl (by decide +kernel) rfl ?_
            refine aw_iload C 7 0 rfl (by decide +kernel) rfl ?_
            obtain ⟨q15, hq15, hf⟩ := ibd hf
            refine aw_callV C (rest := []) (c_Pcs_settle E v4 a9 _ q15 hq15) tb_657 yf_76 yi_76 (lc_34 E) [.int v4, .int a9] rfl rfl _ rfl (Nat.le_trans (by decide) hgd) (Nat.le_of_ble_eq_true rfl) (by decide +kernel) rfl ?_
            show AW _ _ _ _ []
            refine aw_iload C 7 0 rfl (by decide +kernel) rfl ?_
            refine aw_istore C [(4, .int a9), (7, .int a9), (6, .int a4), (0, .ref (gad G 34)), (1, .int v1), (2, .ref (gad G 30)), (3, .int v3), (5, .int v5)] (by rw [hnL]; decide) rfl (by decide +kernel) rfl ?_
            obtain ⟨a16, ha16⟩ : ∃ z, z = (v5 + (1 : Int32)) := ⟨_, rfl⟩
            have hf := ilt ha16 hf
            refine aw_iinc C [(5, .int a16), (4, .int a9), (7, .int a9), (6, .int a4), (0, .ref (gad G 34)), (1, .int v1), (2, .ref (gad G 30)), (3, .int v3)] 7 (n := 1) rfl (by rw [ha16]; rfl) (by rw [hnL]; decide) rfl (by decide +kernel) rfl ?_
            refine aw_goto C (tgt := 15) (off := -104) (by decide +kernel) (by decide) ?_
            refine aw_sub [(0, .ref (gad G 34)), (1, .int v1), (2, .ref (gad G 30)), (3, .int v3), (4, .int a9), (5, .int a16)] [4, 5, 6, 7, 1, 0] rfl ?_
            exact hk15 v1 v3 a9 a16 _ hf
      · have hf := iff_ c7 hf
        refine aw_aload_n C 0 1 (j := 0) rfl rfl (by decide +kernel) rfl ?_
        refine aw_iload C 4 5 rfl (by decide +kernel) rfl ?_
        refine aw_iload C 4 5 rfl (by decide +kernel) rfl ?_
        refine aw_iload C 6 0 rfl (by decide +kernel) rfl ?_
        refine aw_aload_n C 2 3 (j := 2) rfl rfl (by decide +kernel) rfl ?_
        refine aw_get C (k := 0) fc_6 (lc_30 E) rfl (by decide) tb_216 (by decide +kernel) rfl ?_
        obtain ⟨q17, hq17, hf⟩ := ibd hf
        refine aw_callSN C (rest := [.int v4, .ref (gad G 34)]) (c_x_cellBeside v4 a4 ((sI st 41 v4.toNatClampNeg a5).1 30 0) _ q17 hq17) nw_14 yf_74 tb_650 rfl _ rfl (Nat.le_trans (by decide) hgd) (Nat.le_of_ble_eq_true rfl) (by decide +kernel) rfl ?_
        show AW _ _ _ _ [.int q17.1, .int v4, .ref (gad G 34)]
        refine aw_iload_n C 1 2 (j := 1) rfl rfl (by decide +kernel) rfl ?_
        refine aw_aload_n C 2 3 (j := 2) rfl rfl (by decide +kernel) rfl ?_
        obtain ⟨q18, hq18, hf⟩ := ibd hf
        refine aw_callV C (rest := []) (c_Pcs_tryBeside E v4 q17.1 v1 _ q18 hq18) tb_652 yf_75 yi_75 (lc_34 E) [.int v4, .int q17.1, .int v1, .ref (gad G 30)] rfl rfl _ rfl (Nat.le_trans (by decide) hgd) (Nat.le_of_ble_eq_true rfl) (by decide +kernel) rfl ?_
        show AW _ _ _ _ [.int q18.1]
        refine aw_istore C [(4, .int q18.1), (6, .int a4), (0, .ref (gad G 34)), (1, .int v1), (2, .ref (gad G 30)), (3, .int v3), (5, .int v5)] (by rw [hnL]; decide) rfl (by decide +kernel) rfl ?_
        refine aw_goto C (tgt := 116) (off := 41) (by decide +kernel) (by decide) ?_
        obtain ⟨a19, ha19⟩ : ∃ z, z = (v5 + (1 : Int32)) := ⟨_, rfl⟩
        have hf := ilt ha19 hf
        refine aw_iinc C [(5, .int a19), (4, .int q18.1), (6, .int a4), (0, .ref (gad G 34)), (1, .int v1), (2, .ref (gad G 30)), (3, .int v3)] 6 (n := 1) rfl (by rw [ha19]; rfl) (by rw [hnL]; decide) rfl (by decide +kernel) rfl ?_
        refine aw_goto C (tgt := 15) (off := -104) (by decide +kernel) (by decide) ?_
        refine aw_sub [(0, .ref (gad G 34)), (1, .int v1), (2, .ref (gad G 30)), (3, .int v3), (4, .int q18.1), (5, .int a19)] [3, 4, 5, 6, 1, 0] rfl ?_
        exact hk15 v1 v3 q18.1 a19 _ hf
theorem u_Pcs_walkFrom_15 {G : Cx} (C : CX G prog_9_method_4_code "PaperStars$Pieces") (CR0 : CR G (Option.none)) (E : LCin (gly G)) (hnL : gnL G = 8) (hgd : 2 ≤ gd G) {q : Unit × Mm} (hgr : gr G = none) (hgs : gsf G = q.2) : ∀ (n : Nat) (v1 : Int32) (v3 : Int32) (v4 : Int32) (v5 : Int32) (st : Mm), f_Pcs_walkFrom_15 n v1 v3 v4 v5 st = some q → AW G st 15 [(0, .ref (gad G 34)), (1, .int v1), (2, .ref (gad G 30)), (3, .int v3), (4, .int v4), (5, .int v5)] [] := by
  intro n
  induction n with
  | zero => intro v1 v3 v4 v5 st hf; cases hf
  | succ n ih => intro v1 v3 v4 v5 st hf; exact t_Pcs_walkFrom_15 C CR0 E hnL hgd hgr hgs (f_Pcs_walkFrom_15 n) ih v1 v3 v4 v5 st hf
theorem t_Pcs_walkFrom {G : Cx} (C : CX G prog_9_method_4_code "PaperStars$Pieces") (CR0 : CR G (Option.none)) (E : LCin (gly G)) (hnL : gnL G = 8) (hgd : 2 ≤ gd G) {q : Unit × Mm} (hgr : gr G = none) (hgs : gsf G = q.2) (v1 : Int32) (st : Mm) (hf : f_Pcs_walkFrom v1 st = some q) : AW G st 0 [(0, .ref (gad G 34)), (1, .int v1), (2, .ref (gad G 30))] [] := by
  unfold f_Pcs_walkFrom at hf
  refine aw_iconst C (i0 := 0) (v := 0) (by decide) (by decide +kernel) rfl ?_
  refine aw_istore_n C [(3, .int (0 : Int32)), (0, .ref (gad G 34)), (1, .int v1), (2, .ref (gad G 30))] (j := 3) rfl (by rw [hnL]; decide) rfl (by decide +kernel) rfl ?_
  refine aw_iload_n C 1 2 (j := 1) rfl rfl (by decide +kernel) rfl ?_
  refine aw_istore C [(4, .int v1), (3, .int (0 : Int32)), (0, .ref (gad G 34)), (1, .int v1), (2, .ref (gad G 30))] (by rw [hnL]; decide) rfl (by decide +kernel) rfl ?_
  refine aw_aload_n C 0 2 (j := 0) rfl rfl (by decide +kernel) rfl ?_
  refine aw_iload_n C 1 3 (j := 1) rfl rfl (by decide +kernel) rfl ?_
  refine aw_iconst C (i0 := -1) (v := -1) (by decide) (by decide +kernel) rfl ?_
  refine aw_iload_n C 1 3 (j := 1) rfl rfl (by decide +kernel) rfl ?_
  obtain ⟨q1, hq1, hf⟩ := ibd hf
  refine aw_callV C (rest := []) (c_Pcs_meet E v1 (-1 : Int32) v1 _ q1 hq1) tb_645 yf_73 yi_73 (lc_34 E) [.int v1, .int (-1 : Int32), .int v1] rfl rfl _ rfl (Nat.le_trans (by decide) hgd) (Nat.le_of_ble_eq_true rfl) (by decide +kernel) rfl ?_
  show AW _ _ _ _ []
  refine aw_iconst C (i0 := 0) (v := 0) (by decide) (by decide +kernel) rfl ?_
  refine aw_istore C [(5, .int (0 : Int32)), (4, .int v1), (3, .int (0 : Int32)), (0, .ref (gad G 34)), (1, .int v1), (2, .ref (gad G 30))] (by rw [hnL]; decide) rfl (by decide +kernel) rfl ?_
  refine aw_sub [(0, .ref (gad G 34)), (1, .int v1), (2, .ref (gad G 30)), (3, .int (0 : Int32)), (4, .int v1), (5, .int (0 : Int32))] [3, 4, 5, 2, 1, 0] rfl ?_
  exact u_Pcs_walkFrom_15 C CR0 E hnL hgd hgr hgs _ v1 (0 : Int32) v1 (0 : Int32) _ hf
theorem c_Pcs_walkFrom {lay : Ly} (E : LCin lay) (v1 : Int32) (st : Mm) (q : Unit × Mm) (hf : f_Pcs_walkFrom v1 st = some q) : Con 2 Y72 prog_9_method_4_code 8 (Option.none) lay (fun ad => [.ref (ad 34), .int v1, .ref (ad 30)]) st (none) q.2 :=
  am_met yf_72.2.2.2.2.2 (fun ad => Nat.le_of_ble_eq_true rfl) (fun G C CR0 e1 e2 e3 e4 e5 => t_Pcs_walkFrom C CR0 (by rw [e1]; exact E) e2 (Nat.le_of_eq e5.symm) e3 e4 v1 st hf)
def b_Pcs_walk_46 (k46 : Int32 → Mm → Option (Unit × Mm)) (v2 : Int32) (st : Mm) : Option (Unit × Mm) :=
  if (256 : Int32) ≤ v2 then (some ((), st)) else ((f_x_hasBit 31 v2 st).bind (fun q2 => if q2.1 = 0 then (lt_ (v2 + (1 : Int32)) (fun a4 => k46 a4 q2.2)) else (if inb v2 256 then if (q2.2.1 38 v2.toNatClampNeg) = 0 then (lt_ ((q2.2.1 34 1) + (1 : Int32)) (fun a7 => if inb v2 256 then (f_Pcs_walkFrom v2 (sI (sI q2.2 34 1 a7) 36 v2.toNatClampNeg (0 : Int32))).bind (fun q9 => if inb v2 256 then (f_Pcs_mainCells q9.2).bind (fun q11 => if (q9.2.1 36 v2.toNatClampNeg) ≤ q11.1 then (lt_ (v2 + (1 : Int32)) (fun a13 => k46 a13 q11.2)) else (lt_ (v2 + (1 : Int32)) (fun a14 => k46 a14 (sI q11.2 34 2 v2)))) else none) else none)) else (lt_ (v2 + (1 : Int32)) (fun a15 => k46 a15 q2.2)) else none)))
def f_Pcs_walk_46 : Nat → Int32 → Mm → Option (Unit × Mm)
  | 0 => fun _ _ => none
  | n + 1 => b_Pcs_walk_46 (f_Pcs_walk_46 n)
def f_Pcs_walk (st : Mm) : Option (Unit × Mm) :=
  (f_Arr_fill 38 256 (0 : Int32) (sI (sI (sI (sI st 34 0 (1 : Int32)) 34 1 (0 : Int32)) 34 2 (-1 : Int32)) 34 6 (0 : Int32))).bind (fun q1 => (f_Arr_fill 35 256 (-1 : Int32) q1.2).bind (fun q2 => (f_Arr_fill 37 16 (0 : Int32) q2.2).bind (fun q3 => f_Pcs_walk_46 1000000 (0 : Int32) q3.2)))
theorem t_Pcs_walk_46 {G : Cx} (C : CX G prog_9_method_3_code "PaperStars$Pieces") (CR0 : CR G (Option.none)) (E : LCin (gly G)) (hnL : gnL G = 3) (hgd : 3 ≤ gd G) {q : Unit × Mm} (hgr : gr G = none) (hgs : gsf G = q.2) (k46 : Int32 → Mm → Option (Unit × Mm)) (hk46 : ∀ (v2 : Int32) (st : Mm), k46 v2 st = some q → AW G st 46 [(0, .ref (gad G 34)), (1, .ref (gad G 30)), (2, .int v2)] []) (v2 : Int32) (st : Mm) (hf : b_Pcs_walk_46 k46 v2 st = some q) : AW G st 46 [(0, .ref (gad G 34)), (1, .ref (gad G 30)), (2, .int v2)] [] := by
  unfold b_Pcs_walk_46 at hf
  refine aw_iload_n C 2 2 (j := 2) rfl rfl (by decide +kernel) rfl ?_
  refine aw_sipush C (i0 := 256) (v := 256) (by decide) (by decide +kernel) rfl ?_
  refine aw_icmp_ge C (tgt := 120) (off := 70) (by decide +kernel) (by decide) rfl (fun c1 => ?_) (fun c1 => ?_)
  · have hf := ift c1 hf
    exact aw_vretq C CR0 hgr hgs hf (by decide +kernel)
  · have hf := iff_ c1 hf
    refine aw_aload_n C 1 1 (j := 1) rfl rfl (by decide +kernel) rfl ?_
    refine aw_getr C (k := 1) fc_6 (lc_30 E) rfl (by decide) tb_220 (by decide +kernel) rfl ?_
    refine aw_iload_n C 2 2 (j := 2) rfl rfl (by decide +kernel) rfl ?_
    obtain ⟨q2, hq2, hf⟩ := ibd hf
    refine aw_callSN C (rest := []) (c_x_hasBit 31 (lc_31 E) v2 _ q2 hq2) nw_13 yf_23 tb_394 rfl _ rfl (Nat.le_trans (by decide) hgd) (Nat.le_of_ble_eq_true rfl) (by decide +kernel) rfl ?_
    show AW _ _ _ _ [.int q2.1]
    refine aw_if_eq C (tgt := 114) (off := 53) (by decide +kernel) (by decide) rfl (fun c3 => ?_) (fun c3 => ?_)
    · have hf := ift c3 hf
      obtain ⟨a4, ha4⟩ : ∃ z, z = (v2 + (1 : Int32)) := ⟨_, rfl⟩
      have hf := ilt ha4 hf
      refine aw_iinc C [(2, .int a4), (0, .ref (gad G 34)), (1, .ref (gad G 30))] 2 (n := 1) rfl (by rw [ha4]; rfl) (by rw [hnL]; decide) rfl (by decide +kernel) rfl ?_
      refine aw_goto C (tgt := 46) (off := -71) (by decide +kernel) (by decide) ?_
      refine aw_sub [(0, .ref (gad G 34)), (1, .ref (gad G 30)), (2, .int a4)] [1, 2, 0] rfl ?_
      exact hk46 a4 _ hf
    · have hf := iff_ c3 hf
      refine aw_aload_n C 0 0 (j := 0) rfl rfl (by decide +kernel) rfl ?_
      refine aw_getr C (k := 7) fc_7 (lc_34 E) rfl (by decide) tb_253 (by decide +kernel) rfl ?_
      refine aw_iload_n C 2 2 (j := 2) rfl rfl (by decide +kernel) rfl ?_
      obtain ⟨g5, hf⟩ := igd hf
      refine aw_iald C (lc_38 E) g5 (by decide +kernel) rfl ?_
      refine aw_if_ne C (tgt := 114) (off := 44) (by decide +kernel) (by decide) rfl (fun c6 => ?_) (fun c6 => ?_)
      · have hf := ift c6 hf
        refine aw_aload_n C 0 0 (j := 0) rfl rfl (by decide +kernel) rfl ?_
        refine aw_dup C rfl (by decide +kernel) rfl ?_
        refine aw_get C (k := 1) fc_7 (lc_34 E) rfl (by decide) tb_241 (by decide +kernel) rfl ?_
        refine aw_iconst C (i0 := 1) (v := 1) (by decide) (by decide +kernel) rfl ?_
        refine aw_iadd C (by decide +kernel) rfl ?_
        obtain ⟨a7, ha7⟩ : ∃ z, z = ((q2.2.1 34 1) + (1 : Int32)) := ⟨_, rfl⟩
        refine aw_nmi ha7 ?_
        have hf := ilt ha7 hf
        refine aw_put C (k := 1) fc_7 (lc_34 E) rfl (by decide) rfl rfl tb_241 (by decide +kernel) rfl ?_
        refine aw_aload_n C 0 0 (j := 0) rfl rfl (by decide +kernel) rfl ?_
        refine aw_getr C (k := 4) fc_7 (lc_34 E) rfl (by decide) tb_248 (by decide +kernel) rfl ?_
        refine aw_iload_n C 2 2 (j := 2) rfl rfl (by decide +kernel) rfl ?_
        refine aw_iconst C (i0 := 0) (v := 0) (by decide) (by decide +kernel) rfl ?_
        obtain ⟨g8, hf⟩ := igd hf
        refine aw_iast C (lc_36 E) g8 (by decide +kernel) rfl ?_
        refine aw_aload_n C 0 0 (j := 0) rfl rfl (by decide +kernel) rfl ?_
        refine aw_iload_n C 2 2 (j := 2) rfl rfl (by decide +kernel) rfl ?_
        refine aw_aload_n C 1 1 (j := 1) rfl rfl (by decide +kernel) rfl ?_
        obtain ⟨q9, hq9, hf⟩ := ibd hf
        refine aw_callV C (rest := []) (c_Pcs_walkFrom E v2 _ q9 hq9) tb_641 yf_72 yi_72 (lc_34 E) [.int v2, .ref (gad G 30)] rfl rfl _ rfl (Nat.le_trans (by decide) hgd) (Nat.le_of_ble_eq_true rfl) (by decide +kernel) rfl ?_
        show AW _ _ _ _ []
        refine aw_aload_n C 0 0 (j := 0) rfl rfl (by decide +kernel) rfl ?_
        refine aw_getr C (k := 4) fc_7 (lc_34 E) rfl (by decide) tb_248 (by decide +kernel) rfl ?_
        refine aw_iload_n C 2 2 (j := 2) rfl rfl (by decide +kernel) rfl ?_
        obtain ⟨g10, hf⟩ := igd hf
        refine aw_iald C (lc_36 E) g10 (by decide +kernel) rfl ?_
        refine aw_aload_n C 0 0 (j := 0) rfl rfl (by decide +kernel) rfl ?_
        obtain ⟨q11, hq11, hf⟩ := ibd hf
        refine aw_callV C (rest := [.int (q9.2.1 36 v2.toNatClampNeg)]) (c_Pcs_mainCells E _ q11 hq11) tb_665 yf_78 yi_78 (lc_34 E) [] rfl rfl _ rfl (Nat.le_trans (by decide) hgd) (Nat.le_of_ble_eq_true rfl) (by decide +kernel) rfl ?_
        show AW _ _ _ _ [.int q11.1, .int (q9.2.1 36 v2.toNatClampNeg)]
        refine aw_icmp_le C (tgt := 114) (off := 8) (by decide +kernel) (by decide) rfl (fun c12 => ?_) (fun c12 => ?_)
        · have hf := ift c12 hf
          obtain ⟨a13, ha13⟩ : ∃ z, z = (v2 + (1 : Int32)) := ⟨_, rfl⟩
          have hf := ilt ha13 hf
          refine aw_iinc C [(2, .int a13), (0, .ref (gad G 34)), (1, .ref (gad G 30))] 2 (n := 1) rfl (by rw [ha13]; rfl) (by rw [hnL]; decide) rfl (by decide +kernel) rfl ?_
          refine aw_goto C (tgt := 46) (off := -71) (by decide +kernel) (by decide) ?_
          refine aw_sub [(0, .ref (gad G 34)), (1, .ref (gad G 30)), (2, .int a13)] [1, 2, 0] rfl ?_
          exact hk46 a13 _ hf
        · have hf := iff_ c12 hf
          refine aw_aload_n C 0 0 (j := 0) rfl rfl (by decide +kernel) rfl ?_
          refine aw_iload_n C 2 2 (j := 2) rfl rfl (by decide +kernel) rfl ?_
          refine aw_put C (k := 2) fc_7 (lc_34 E) rfl (by decide) rfl rfl tb_243 (by decide +kernel) rfl ?_
          obtain ⟨a14, ha14⟩ : ∃ z, z = (v2 + (1 : Int32)) := ⟨_, rfl⟩
          have hf := ilt ha14 hf
          refine aw_iinc C [(2, .int a14), (0, .ref (gad G 34)), (1, .ref (gad G 30))] 2 (n := 1) rfl (by rw [ha14]; rfl) (by rw [hnL]; decide) rfl (by decide +kernel) rfl ?_
          refine aw_goto C (tgt := 46) (off := -71) (by decide +kernel) (by decide) ?_
          refine aw_sub [(0, .ref (gad G 34)), (1, .ref (gad G 30)), (2, .int a14)] [1, 2, 0] rfl ?_
          exact hk46 a14 _ hf
      · have hf := iff_ c6 hf
        obtain ⟨a15, ha15⟩ : ∃ z, z = (v2 + (1 : Int32)) := ⟨_, rfl⟩
        have hf := ilt ha15 hf
        refine aw_iinc C [(2, .int a15), (0, .ref (gad G 34)), (1, .ref (gad G 30))] 2 (n := 1) rfl (by rw [ha15]; rfl) (by rw [hnL]; decide) rfl (by decide +kernel) rfl ?_
        refine aw_goto C (tgt := 46) (off := -71) (by decide +kernel) (by decide) ?_
        refine aw_sub [(0, .ref (gad G 34)), (1, .ref (gad G 30)), (2, .int a15)] [1, 2, 0] rfl ?_
        exact hk46 a15 _ hf
theorem u_Pcs_walk_46 {G : Cx} (C : CX G prog_9_method_3_code "PaperStars$Pieces") (CR0 : CR G (Option.none)) (E : LCin (gly G)) (hnL : gnL G = 3) (hgd : 3 ≤ gd G) {q : Unit × Mm} (hgr : gr G = none) (hgs : gsf G = q.2) : ∀ (n : Nat) (v2 : Int32) (st : Mm), f_Pcs_walk_46 n v2 st = some q → AW G st 46 [(0, .ref (gad G 34)), (1, .ref (gad G 30)), (2, .int v2)] [] := by
  intro n
  induction n with
  | zero => intro v2 st hf; cases hf
  | succ n ih => intro v2 st hf; exact t_Pcs_walk_46 C CR0 E hnL hgd hgr hgs (f_Pcs_walk_46 n) ih v2 st hf
theorem t_Pcs_walk {G : Cx} (C : CX G prog_9_method_3_code "PaperStars$Pieces") (CR0 : CR G (Option.none)) (E : LCin (gly G)) (hnL : gnL G = 3) (hgd : 3 ≤ gd G) {q : Unit × Mm} (hgr : gr G = none) (hgs : gsf G = q.2) (st : Mm) (hf : f_Pcs_walk st = some q) : AW G st 0 [(0, .ref (gad G 34)), (1, .ref (gad G 30))] [] := by
  unfold f_Pcs_walk at hf
  refine aw_aload_n C 0 0 (j := 0) rfl rfl (by decide +kernel) rfl ?_
  refine aw_iconst C (i0 := 1) (v := 1) (by decide) (by decide +kernel) rfl ?_
  refine aw_putZ C (k := 0) fc_7 (lc_34 E) rfl (by decide) rfl rfl (by decide) tb_239 (by decide +kernel) rfl ?_
  refine aw_aload_n C 0 0 (j := 0) rfl rfl (by decide +kernel) rfl ?_
  refine aw_iconst C (i0 := 0) (v := 0) (by decide) (by decide +kernel) rfl ?_
  refine aw_put C (k := 1) fc_7 (lc_34 E) rfl (by decide) rfl rfl tb_241 (by decide +kernel) rfl ?_
  refine aw_aload_n C 0 0 (j := 0) rfl rfl (by decide +kernel) rfl ?_
  refine aw_iconst C (i0 := -1) (v := -1) (by decide) (by decide +kernel) rfl ?_
  refine aw_put C (k := 2) fc_7 (lc_34 E) rfl (by decide) rfl rfl tb_243 (by decide +kernel) rfl ?_
  refine aw_aload_n C 0 0 (j := 0) rfl rfl (by decide +kernel) rfl ?_
  refine aw_iconst C (i0 := 0) (v := 0) (by decide) (by decide +kernel) rfl ?_
  refine aw_put C (k := 6) fc_7 (lc_34 E) rfl (by decide) rfl rfl tb_252 (by decide +kernel) rfl ?_
  refine aw_aload_n C 0 0 (j := 0) rfl rfl (by decide +kernel) rfl ?_
  refine aw_getr C (k := 7) fc_7 (lc_34 E) rfl (by decide) tb_253 (by decide +kernel) rfl ?_
  refine aw_iconst C (i0 := 0) (v := 0) (by decide) (by decide +kernel) rfl ?_
  obtain ⟨q1, hq1, hf⟩ := ibd hf
  refine aw_callS C (rest := []) (c_Arr_fill 38 256 (lc_38 E) (0 : Int32) _ q1 hq1) tb_639 yf_33 tb_477 rfl _ rfl (Nat.le_trans (by decide) hgd) (Nat.le_of_ble_eq_true rfl) (by decide +kernel) rfl ?_
  show AW _ _ _ _ []
  refine aw_aload_n C 0 0 (j := 0) rfl rfl (by decide +kernel) rfl ?_
  refine aw_getr C (k := 3) fc_7 (lc_34 E) rfl (by decide) tb_245 (by decide +kernel) rfl ?_
  refine aw_iconst C (i0 := -1) (v := -1) (by decide) (by decide +kernel) rfl ?_
  obtain ⟨q2, hq2, hf⟩ := ibd hf
  refine aw_callS C (rest := []) (c_Arr_fill 35 256 (lc_35 E) (-1 : Int32) _ q2 hq2) tb_639 yf_33 tb_477 rfl _ rfl (Nat.le_trans (by decide) hgd) (Nat.le_of_ble_eq_true rfl) (by decide +kernel) rfl ?_
  show AW _ _ _ _ []
  refine aw_aload_n C 0 0 (j := 0) rfl rfl (by decide +kernel) rfl ?_
  refine aw_getr C (k := 5) fc_7 (lc_34 E) rfl (by decide) tb_250 (by decide +kernel) rfl ?_
  refine aw_iconst C (i0 := 0) (v := 0) (by decide) (by decide +kernel) rfl ?_
  obtain ⟨q3, hq3, hf⟩ := ibd hf
  refine aw_callS C (rest := []) (c_Arr_fill 37 16 (lc_37 E) (0 : Int32) _ q3 hq3) tb_639 yf_33 tb_477 rfl _ rfl (Nat.le_trans (by decide) hgd) (Nat.le_of_ble_eq_true rfl) (by decide +kernel) rfl ?_
  show AW _ _ _ _ []
  refine aw_iconst C (i0 := 0) (v := 0) (by decide) (by decide +kernel) rfl ?_
  refine aw_istore_n C [(2, .int (0 : Int32)), (0, .ref (gad G 34)), (1, .ref (gad G 30))] (j := 2) rfl (by rw [hnL]; decide) rfl (by decide +kernel) rfl ?_
  refine aw_sub [(0, .ref (gad G 34)), (1, .ref (gad G 30)), (2, .int (0 : Int32))] [1, 2, 0] rfl ?_
  exact u_Pcs_walk_46 C CR0 E hnL hgd hgr hgs _ (0 : Int32) _ hf
theorem c_Pcs_walk {lay : Ly} (E : LCin lay) (st : Mm) (q : Unit × Mm) (hf : f_Pcs_walk st = some q) : Con 3 Y71 prog_9_method_3_code 3 (Option.none) lay (fun ad => [.ref (ad 34), .ref (ad 30)]) st (none) q.2 :=
  am_met yf_71.2.2.2.2.2 (fun ad => Nat.le_of_ble_eq_true rfl) (fun G C CR0 e1 e2 e3 e4 e5 => t_Pcs_walk C CR0 (by rw [e1]; exact E) e2 (Nat.le_of_eq e5.symm) e3 e4 st hf)
def f_x_walkPieces (st : Mm) : Option (Unit × Mm) :=
  if (st.1 34 0) = 0 then ((f_Pcs_walk st).bind (fun q2 => some ((), q2.2))) else (some ((), st))
theorem t_x_walkPieces {G : Cx} (C : CX G prog_1_method_35_code "PaperStars") (CR0 : CR G (Option.none)) (E : LCin (gly G)) (hnL : gnL G = 1) (hgd : 4 ≤ gd G) {q : Unit × Mm} (hgr : gr G = none) (hgs : gsf G = q.2) (st : Mm) (hf : f_x_walkPieces st = some q) : AW G st 0 [(0, .ref (gad G 0))] [] := by
  unfold f_x_walkPieces at hf
  refine aw_aload_n C 0 0 (j := 0) rfl rfl (by decide +kernel) rfl ?_
  refine aw_getr C (k := 7) fc_11 (lc_0 E) rfl (by decide) tb_403 (by decide +kernel) rfl ?_
  refine aw_get C (k := 0) fc_7 (lc_34 E) rfl (by decide) tb_240 (by decide +kernel) rfl ?_
  refine aw_if_ne C (tgt := 21) (off := 14) (by decide +kernel) (by decide) rfl (fun c1 => ?_) (fun c1 => ?_)
  · have hf := ift c1 hf
    refine aw_aload_n C 0 0 (j := 0) rfl rfl (by decide +kernel) rfl ?_
    refine aw_getr C (k := 7) fc_11 (lc_0 E) rfl (by decide) tb_403 (by decide +kernel) rfl ?_
    refine aw_aload_n C 0 0 (j := 0) rfl rfl (by decide +kernel) rfl ?_
    refine aw_getr C (k := 6) fc_11 (lc_0 E) rfl (by decide) tb_402 (by decide +kernel) rfl ?_
    obtain ⟨q2, hq2, hf⟩ := ibd hf
    refine aw_callV C (rest := []) (c_Pcs_walk E _ q2 hq2) tb_635 yf_71 yi_71 (lc_34 E) [.ref (gad G 30)] rfl rfl _ rfl (Nat.le_trans (by decide) hgd) (Nat.le_of_ble_eq_true rfl) (by decide +kernel) rfl ?_
    show AW _ _ _ _ []
    exact aw_vretq C CR0 hgr hgs hf (by decide +kernel)
  · have hf := iff_ c1 hf
    exact aw_vretq C CR0 hgr hgs hf (by decide +kernel)
theorem c_x_walkPieces {lay : Ly} (E : LCin lay) (st : Mm) (q : Unit × Mm) (hf : f_x_walkPieces st = some q) : Con 4 Y70 prog_1_method_35_code 1 (Option.none) lay (fun ad => [.ref (ad 0)]) st (none) q.2 :=
  am_met yf_70.2.2.2.2.2 (fun ad => Nat.le_of_ble_eq_true rfl) (fun G C CR0 e1 e2 e3 e4 e5 => t_x_walkPieces C CR0 (by rw [e1]; exact E) e2 (Nat.le_of_eq e5.symm) e3 e4 st hf)
def f_x_sums (v1 : Int32) (st : Mm) : Option (Int32 × Mm) :=
  if v1 < 0 then (some ((-1 : Int32), st)) else (if v1 ≤ (6 : Int32) then ((f_x_walkPieces st).bind (fun q3 => if v1 = 0 then ((f_x_bitsOf 31 q3.2).bind (fun q5 => some (q5.1, q5.2))) else (if v1 = 1 then (some ((q3.2.1 34 1), q3.2)) else (if v1 = 2 then ((f_Pcs_mainCells q3.2).bind (fun q8 => some (q8.1, q8.2))) else (if v1 = 3 then ((f_x_bitsOf 31 q3.2).bind (fun q10 => (f_Pcs_mainCells q10.2).bind (fun q11 => some ((q10.1 - q11.1), q11.2)))) else (if v1 = 4 then ((f_Pap_holes q3.2).bind (fun q13 => some (q13.1, q13.2))) else (if v1 = 5 then ((f_Pap_sides q3.2).bind (fun q15 => some (q15.1, q15.2))) else ((f_x_bitsOf 37 q3.2).bind (fun q16 => some (q16.1, q16.2)))))))))) else (some ((-1 : Int32), st)))
theorem t_x_sums {G : Cx} (C : CX G prog_1_method_9_code "PaperStars") (CR0 : CR G (Option.some FieldType.int)) (E : LCin (gly G)) (hnL : gnL G = 2) (hgd : 5 ≤ gd G) {q : Int32 × Mm} (hgr : gr G = some (.int q.1)) (hgs : gsf G = q.2) (v1 : Int32) (st : Mm) (hf : f_x_sums v1 st = some q) : AW G st 0 [(0, .ref (gad G 0)), (1, .int v1)] [] := by
  unfold f_x_sums at hf
  refine aw_iload_n C 1 1 (j := 1) rfl rfl (by decide +kernel) rfl ?_
  refine aw_if_lt C (tgt := 10) (off := 9) (by decide +kernel) (by decide) rfl (fun c1 => ?_) (fun c1 => ?_)
  · have hf := ift c1 hf
    refine aw_iconst C (i0 := -1) (v := -1) (by decide) (by decide +kernel) rfl ?_
    exact aw_iretq C CR0 hgr hgs hf (by decide +kernel)
  · have hf := iff_ c1 hf
    refine aw_iload_n C 1 1 (j := 1) rfl rfl (by decide +kernel) rfl ?_
    refine aw_bipush C (i0 := 6) (v := 6) (by decide) (by decide +kernel) rfl ?_
    refine aw_icmp_le C (tgt := 12) (off := 5) (by decide +kernel) (by decide) rfl (fun c2 => ?_) (fun c2 => ?_)
    · have hf := ift c2 hf
      refine aw_aload_n C 0 0 (j := 0) rfl rfl (by decide +kernel) rfl ?_
      obtain ⟨q3, hq3, hf⟩ := ibd hf
      refine aw_callV C (rest := []) (c_x_walkPieces E _ q3 hq3) tb_631 yf_70 yi_70 (lc_0 E) [] rfl rfl _ rfl (Nat.le_trans (by decide) hgd) (Nat.le_of_ble_eq_true rfl) (by decide +kernel) rfl ?_
      show AW _ _ _ _ []
      refine aw_iload_n C 1 1 (j := 1) rfl rfl (by decide +kernel) rfl ?_
      by_cases w4 : v1 = 0
      · have hf := ift w4 hf
        refine aw_tin C (tgt := 56) (off := 39) (dflt := 101) (lo := 0) (hi := 5) (offs := #[39, 50, 58, 66, 85, 93]) (len := 39) (by decide +kernel) (by rw [w4]; decide) (by rw [w4]; decide) (by rw [w4]; decide) (by decide) ?_
        refine aw_aload_n C 0 0 (j := 0) rfl rfl (by decide +kernel) rfl ?_
        refine aw_getr C (k := 6) fc_11 (lc_0 E) rfl (by decide) tb_402 (by decide +kernel) rfl ?_
        refine aw_getr C (k := 1) fc_6 (lc_30 E) rfl (by decide) tb_221 (by decide +kernel) rfl ?_
        obtain ⟨q5, hq5, hf⟩ := ibd hf
        refine aw_callS C (rest := []) (c_x_bitsOf 31 (lc_31 E) _ q5 hq5) tb_599 yf_63 tb_600 rfl _ rfl (Nat.le_trans (by decide) hgd) (Nat.le_of_ble_eq_true rfl) (by decide +kernel) rfl ?_
        show AW _ _ _ _ [.int q5.1]
        exact aw_iretq C CR0 hgr hgs hf (by decide +kernel)
      · have hf := iff_ w4 hf
        by_cases w6 : v1 = 1
        · have hf := ift w6 hf
          refine aw_tin C (tgt := 67) (off := 50) (dflt := 101) (lo := 0) (hi := 5) (offs := #[39, 50, 58, 66, 85, 93]) (len := 39) (by decide +kernel) (by rw [w6]; decide) (by rw [w6]; decide) (by rw [w6]; decide) (by decide) ?_
          refine aw_aload_n C 0 0 (j := 0) rfl rfl (by decide +kernel) rfl ?_
          refine aw_getr C (k := 7) fc_11 (lc_0 E) rfl (by decide) tb_403 (by decide +kernel) rfl ?_
          refine aw_get C (k := 1) fc_7 (lc_34 E) rfl (by decide) tb_242 (by decide +kernel) rfl ?_
          exact aw_iretq C CR0 hgr hgs hf (by decide +kernel)
        · have hf := iff_ w6 hf
          by_cases w7 : v1 = 2
          · have hf := ift w7 hf
            refine aw_tin C (tgt := 75) (off := 58) (dflt := 101) (lo := 0) (hi := 5) (offs := #[39, 50, 58, 66, 85, 93]) (len := 39) (by decide +kernel) (by rw [w7]; decide) (by rw [w7]; decide) (by rw [w7]; decide) (by decide) ?_
            refine aw_aload_n C 0 0 (j := 0) rfl rfl (by decide +kernel) rfl ?_
            refine aw_getr C (k := 7) fc_11 (lc_0 E) rfl (by decide) tb_403 (by decide +kernel) rfl ?_
            obtain ⟨q8, hq8, hf⟩ := ibd hf
            refine aw_callV C (rest := []) (c_Pcs_mainCells E _ q8 hq8) tb_669 yf_78 yi_78 (lc_34 E) [] rfl rfl _ rfl (Nat.le_trans (by decide) hgd) (Nat.le_of_ble_eq_true rfl) (by decide +kernel) rfl ?_
            show AW _ _ _ _ [.int q8.1]
            exact aw_iretq C CR0 hgr hgs hf (by decide +kernel)
          · have hf := iff_ w7 hf
            by_cases w9 : v1 = 3
            · have hf := ift w9 hf
              refine aw_tin C (tgt := 83) (off := 66) (dflt := 101) (lo := 0) (hi := 5) (offs := #[39, 50, 58, 66, 85, 93]) (len := 39) (by decide +kernel) (by rw [w9]; decide) (by rw [w9]; decide) (by rw [w9]; decide) (by decide) ?_
              refine aw_aload_n C 0 0 (j := 0) rfl rfl (by decide +kernel) rfl ?_
              refine aw_getr C (k := 6) fc_11 (lc_0 E) rfl (by decide) tb_402 (by decide +kernel) rfl ?_
              refine aw_getr C (k := 1) fc_6 (lc_30 E) rfl (by decide) tb_221 (by decide +kernel) rfl ?_
              obtain ⟨q10, hq10, hf⟩ := ibd hf
              refine aw_callS C (rest := []) (c_x_bitsOf 31 (lc_31 E) _ q10 hq10) tb_599 yf_63 tb_600 rfl _ rfl (Nat.le_trans (by decide) hgd) (Nat.le_of_ble_eq_true rfl) (by decide +kernel) rfl ?_
              show AW _ _ _ _ [.int q10.1]
              refine aw_aload_n C 0 0 (j := 0) rfl rfl (by decide +kernel) rfl ?_
              refine aw_getr C (k := 7) fc_11 (lc_0 E) rfl (by decide) tb_403 (by decide +kernel) rfl ?_
              obtain ⟨q11, hq11, hf⟩ := ibd hf
              refine aw_callV C (rest := [.int q10.1]) (c_Pcs_mainCells E _ q11 hq11) tb_669 yf_78 yi_78 (lc_34 E) [] rfl rfl _ rfl (Nat.le_trans (by decide) hgd) (Nat.le_of_ble_eq_true rfl) (by decide +kernel) rfl ?_
              show AW _ _ _ _ [.int q11.1, .int q10.1]
              refine aw_isub C (by decide +kernel) rfl ?_
              exact aw_iretq C CR0 hgr hgs hf (by decide +kernel)
            · have hf := iff_ w9 hf
              by_cases w12 : v1 = 4
              · have hf := ift w12 hf
                refine aw_tin C (tgt := 102) (off := 85) (dflt := 101) (lo := 0) (hi := 5) (offs := #[39, 50, 58, 66, 85, 93]) (len := 39) (by decide +kernel) (by rw [w12]; decide) (by rw [w12]; decide) (by rw [w12]; decide) (by decide) ?_
                refine aw_aload_n C 0 0 (j := 0) rfl rfl (by decide +kernel) rfl ?_
                refine aw_getr C (k := 6) fc_11 (lc_0 E) rfl (by decide) tb_402 (by decide +kernel) rfl ?_
                obtain ⟨q13, hq13, hf⟩ := ibd hf
                refine aw_callV C (rest := []) (c_Pap_holes E _ q13 hq13) tb_670 yf_79 yi_79 (lc_30 E) [] rfl rfl _ rfl (Nat.le_trans (by decide) hgd) (Nat.le_of_ble_eq_true rfl) (by decide +kernel) rfl ?_
                show AW _ _ _ _ [.int q13.1]
                exact aw_iretq C CR0 hgr hgs hf (by decide +kernel)
              · have hf := iff_ w12 hf
                by_cases w14 : v1 = 5
                · have hf := ift w14 hf
                  refine aw_tin C (tgt := 110) (off := 93) (dflt := 101) (lo := 0) (hi := 5) (offs := #[39, 50, 58, 66, 85, 93]) (len := 39) (by decide +kernel) (by rw [w14]; decide) (by rw [w14]; decide) (by rw [w14]; decide) (by decide) ?_
                  refine aw_aload_n C 0 0 (j := 0) rfl rfl (by decide +kernel) rfl ?_
                  refine aw_getr C (k := 6) fc_11 (lc_0 E) rfl (by decide) tb_402 (by decide +kernel) rfl ?_
                  obtain ⟨q15, hq15, hf⟩ := ibd hf
                  refine aw_callV C (rest := []) (c_Pap_sides E _ q15 hq15) tb_680 yf_81 yi_81 (lc_30 E) [] rfl rfl _ rfl (Nat.le_trans (by decide) hgd) (Nat.le_of_ble_eq_true rfl) (by decide +kernel) rfl ?_
                  show AW _ _ _ _ [.int q15.1]
                  exact aw_iretq C CR0 hgr hgs hf (by decide +kernel)
                · have hf := iff_ w14 hf
                  have zw4 := am_ne w4 (k := 0) (by decide)
                  have zw6 := am_ne w6 (k := 1) (by decide)
                  have zw7 := am_ne w7 (k := 2) (by decide)
                  have zw9 := am_ne w9 (k := 3) (by decide)
                  have zw12 := am_ne w12 (k := 4) (by decide)
                  have zw14 := am_ne w14 (k := 5) (by decide)
                  refine aw_tout C (tgt := 118) (dflt := 101) (lo := 0) (hi := 5) (offs := #[39, 50, 58, 66, 85, 93]) (len := 39) (by decide +kernel) (by omega) (by decide) ?_
                  refine aw_aload_n C 0 0 (j := 0) rfl rfl (by decide +kernel) rfl ?_
                  refine aw_getr C (k := 7) fc_11 (lc_0 E) rfl (by decide) tb_403 (by decide +kernel) rfl ?_
                  refine aw_getr C (k := 5) fc_7 (lc_34 E) rfl (by decide) tb_251 (by decide +kernel) rfl ?_
                  obtain ⟨q16, hq16, hf⟩ := ibd hf
                  refine aw_callS C (rest := []) (c_x_bitsOf 37 (lc_37 E) _ q16 hq16) tb_599 yf_63 tb_600 rfl _ rfl (Nat.le_trans (by decide) hgd) (Nat.le_of_ble_eq_true rfl) (by decide +kernel) rfl ?_
                  show AW _ _ _ _ [.int q16.1]
                  exact aw_iretq C CR0 hgr hgs hf (by decide +kernel)
    · have hf := iff_ c2 hf
      refine aw_iconst C (i0 := -1) (v := -1) (by decide) (by decide +kernel) rfl ?_
      exact aw_iretq C CR0 hgr hgs hf (by decide +kernel)
theorem c_x_sums {lay : Ly} (E : LCin lay) (v1 : Int32) (st : Mm) (q : Int32 × Mm) (hf : f_x_sums v1 st = some q) : Con 5 Y69 prog_1_method_9_code 2 (Option.some FieldType.int) lay (fun ad => [.ref (ad 0), .int v1]) st (some (.int q.1)) q.2 :=
  am_met yf_69.2.2.2.2.2 (fun ad => Nat.le_of_ble_eq_true rfl) (fun G C CR0 e1 e2 e3 e4 e5 => t_x_sums C CR0 (by rw [e1]; exact E) e2 (Nat.le_of_eq e5.symm) e3 e4 v1 st hf)
