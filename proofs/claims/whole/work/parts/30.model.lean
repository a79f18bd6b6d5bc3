def b_m_begins_46 (k46 : Int32 → Int32 → Mm → Option (Unit × Mm)) (v1 : Int32) (v2 : Int32) (st : Mm) : Option (Unit × Mm) :=
  if (16 : Int32) ≤ v2 then (some ((), st)) else (if v1 ≤ v2 then (if inb v2 16 then lt_ (v2 + (1 : Int32)) (fun a4 => k46 v1 a4 (sI st 60 v2.toNatClampNeg (0 : Int32))) else none) else (lt_ (((1 : Int32) <<< (v1 &&& 31)) - (1 : Int32)) (fun a5 => if inb v2 16 then lt_ (v2 + (1 : Int32)) (fun a7 => k46 v1 a7 (sI st 60 v2.toNatClampNeg a5)) else none)))
def f_m_begins_46 : Nat → Int32 → Int32 → Mm → Option (Unit × Mm)
  | 0 => fun _ _ _ => none
  | n + 1 => b_m_begins_46 (f_m_begins_46 n)
def b_m_begins_44 (v1 : Int32) (st : Mm) : Option (Unit × Mm) :=
  f_m_begins_46 1000000 v1 (0 : Int32) st
def b_m_begins_17 (k17 : Int32 → Int32 → Mm → Option (Unit × Mm)) (v1 : Int32) (v2 : Int32) (st : Mm) : Option (Unit × Mm) :=
  if (256 : Int32) ≤ v2 then (b_m_begins_44 v1 st) else (if inb v2 256 then if inb v2 256 then lt_ (v2 + (1 : Int32)) (fun a4 => k17 v1 a4 (sI (sI st 61 v2.toNatClampNeg (0 : Int32)) 62 v2.toNatClampNeg (0 : Int32))) else none else none)
def f_m_begins_17 : Nat → Int32 → Int32 → Mm → Option (Unit × Mm)
  | 0 => fun _ _ _ => none
  | n + 1 => b_m_begins_17 (f_m_begins_17 n)
def f_m_begins (v1 : Int32) (st : Mm) : Option (Unit × Mm) :=
  f_m_begins_17 1000000 v1 (0 : Int32) (sI (sI (sI st 58 0 v1) 58 1 (0 : Int32)) 58 2 (0 : Int32))
theorem t_m_begins_46 {G : Cx} (C : CX G prog_14_method_6_code "PaperStarsModel") (CR0 : CR G (Option.none)) (E : LAin (gly G)) (hnL : gnL G = 3) (hgd : 0 ≤ gd G) {q : Unit × Mm} (hgr : gr G = none) (hgs : gsf G = q.2) (k46 : Int32 → Int32 → Mm → Option (Unit × Mm)) (hk46 : ∀ (v1 : Int32) (v2 : Int32) (st : Mm), k46 v1 v2 st = some q → AW G st 46 [(0, .ref (gad G 58)), (1, .int v1), (2, .int v2)] []) (v1 : Int32) (v2 : Int32) (st : Mm) (hf : b_m_begins_46 k46 v1 v2 st = some q) : AW G st 46 [(0, .ref (gad G 58)), (1, .int v1), (2, .int v2)] [] := by
  unfold b_m_begins_46 at hf
  refine aw_iload_n C 2 2 (j := 2) rfl rfl (by decide +kernel) rfl ?_
  refine aw_bipush C (i0 := 16) (v := 16) (by decide) (by decide +kernel) rfl ?_
  refine aw_icmp_ge C (tgt := 78) (off := 29) (by decide +kernel) (by decide) rfl (fun c1 => ?_) (fun c1 => ?_)
  · have hf := ift c1 hf
    exact aw_vretq C CR0 hgr hgs hf (by decide +kernel)
  · have hf := iff_ c1 hf
    refine aw_aload_n C 0 0 (j := 0) rfl rfl (by decide +kernel) rfl ?_
    refine aw_getr C (k := 5) fc_12 (la_58 E) rfl (by decide) tb_947 (by decide +kernel) rfl ?_
    refine aw_iload_n C 2 2 (j := 2) rfl rfl (by decide +kernel) rfl ?_
    refine aw_iload_n C 2 2 (j := 2) rfl rfl (by decide +kernel) rfl ?_
    refine aw_iload_n C 1 1 (j := 1) rfl rfl (by decide +kernel) rfl ?_
    refine aw_icmp_ge C (tgt := 70) (off := 11) (by decide +kernel) (by decide) rfl (fun c2 => ?_) (fun c2 => ?_)
    · have hf := ift c2 hf
      refine aw_iconst C (i0 := 0) (v := 0) (by decide) (by decide +kernel) rfl ?_
      obtain ⟨g3, hf⟩ := igd hf
      refine aw_iast C (la_60 E) g3 (by decide +kernel) rfl ?_
      obtain ⟨a4, ha4⟩ : ∃ z, z = (v2 + (1 : Int32)) := ⟨_, rfl⟩
      have hf := ilt ha4 hf
      refine aw_iinc C [(2, .int a4), (0, .ref (gad G 58)), (1, .int v1)] 2 (n := 1) rfl (by rw [ha4]; rfl) (by rw [hnL]; decide) rfl (by decide +kernel) rfl ?_
      refine aw_goto C (tgt := 46) (off := -29) (by decide +kernel) (by decide) ?_
      refine aw_sub [(0, .ref (gad G 58)), (1, .int v1), (2, .int a4)] [1, 2, 0] rfl ?_
      exact hk46 v1 a4 _ hf
    · have hf := iff_ c2 hf
      refine aw_iconst C (i0 := 1) (v := 1) (by decide) (by decide +kernel) rfl ?_
      refine aw_iload_n C 1 1 (j := 1) rfl rfl (by decide +kernel) rfl ?_
      refine aw_ishl C (by decide +kernel) rfl ?_
      refine aw_iconst C (i0 := 1) (v := 1) (by decide) (by decide +kernel) rfl ?_
      refine aw_isub C (by decide +kernel) rfl ?_
      refine aw_goto C (tgt := 71) (off := 4) (by decide +kernel) (by decide) ?_
      obtain ⟨a5, ha5⟩ : ∃ z, z = (((1 : Int32) <<< (v1 &&& 31)) - (1 : Int32)) := ⟨_, rfl⟩
      refine aw_nmi ha5 ?_
      have hf := ilt ha5 hf
      obtain ⟨g6, hf⟩ := igd hf
      refine aw_iast C (la_60 E) g6 (by decide +kernel) rfl ?_
      obtain ⟨a7, ha7⟩ : ∃ z, z = (v2 + (1 : Int32)) := ⟨_, rfl⟩
      have hf := ilt ha7 hf
      refine aw_iinc C [(2, .int a7), (0, .ref (gad G 58)), (1, .int v1)] 2 (n := 1) rfl (by rw [ha7]; rfl) (by rw [hnL]; decide) rfl (by decide +kernel) rfl ?_
      refine aw_goto C (tgt := 46) (off := -29) (by decide +kernel) (by decide) ?_
      refine aw_sub [(0, .ref (gad G 58)), (1, .int v1), (2, .int a7)] [1, 2, 0] rfl ?_
      exact hk46 v1 a7 _ hf
theorem u_m_begins_46 {G : Cx} (C : CX G prog_14_method_6_code "PaperStarsModel") (CR0 : CR G (Option.none)) (E : LAin (gly G)) (hnL : gnL G = 3) (hgd : 0 ≤ gd G) {q : Unit × Mm} (hgr : gr G = none) (hgs : gsf G = q.2) : ∀ (n : Nat) (v1 : Int32) (v2 : Int32) (st : Mm), f_m_begins_46 n v1 v2 st = some q → AW G st 46 [(0, .ref (gad G 58)), (1, .int v1), (2, .int v2)] [] := by
  intro n
  induction n with
  | zero => intro v1 v2 st hf; cases hf
  | succ n ih => intro v1 v2 st hf; exact t_m_begins_46 C CR0 E hnL hgd hgr hgs (f_m_begins_46 n) ih v1 v2 st hf
theorem t_m_begins_44 {G : Cx} (C : CX G prog_14_method_6_code "PaperStarsModel") (CR0 : CR G (Option.none)) (E : LAin (gly G)) (hnL : gnL G = 3) (hgd : 0 ≤ gd G) {q : Unit × Mm} (hgr : gr G = none) (hgs : gsf G = q.2) (v1 : Int32) (st : Mm) (hf : b_m_begins_44 v1 st = some q) : AW G st 44 [(0, .ref (gad G 58)), (1, .int v1)] [] := by
  unfold b_m_begins_44 at hf
  refine aw_iconst C (i0 := 0) (v := 0) (by decide) (by decide +kernel) rfl ?_
  refine aw_istore_n C [(2, .int (0 : Int32)), (0, .ref (gad G 58)), (1, .int v1)] (j := 2) rfl (by rw [hnL]; decide) rfl (by decide +kernel) rfl ?_
  refine aw_sub [(0, .ref (gad G 58)), (1, .int v1), (2, .int (0 : Int32))] [1, 2, 0] rfl ?_
  exact u_m_begins_46 C CR0 E hnL hgd hgr hgs _ v1 (0 : Int32) _ hf
theorem t_m_begins_17 {G : Cx} (C : CX G prog_14_method_6_code "PaperStarsModel") (CR0 : CR G (Option.none)) (E : LAin (gly G)) (hnL : gnL G = 3) (hgd : 0 ≤ gd G) {q : Unit × Mm} (hgr : gr G = none) (hgs : gsf G = q.2) (k17 : Int32 → Int32 → Mm → Option (Unit × Mm)) (hk17 : ∀ (v1 : Int32) (v2 : Int32) (st : Mm), k17 v1 v2 st = some q → AW G st 17 [(0, .ref (gad G 58)), (1, .int v1), (2, .int v2)] []) (v1 : Int32) (v2 : Int32) (st : Mm) (hf : b_m_begins_17 k17 v1 v2 st = some q) : AW G st 17 [(0, .ref (gad G 58)), (1, .int v1), (2, .int v2)] [] := by
  unfold b_m_begins_17 at hf
  refine aw_iload_n C 2 2 (j := 2) rfl rfl (by decide +kernel) rfl ?_
  refine aw_sipush C (i0 := 256) (v := 256) (by decide) (by decide +kernel) rfl ?_
  refine aw_icmp_ge C (tgt := 44) (off := 23) (by decide +kernel) (by decide) rfl (fun c1 => ?_) (fun c1 => ?_)
  · have hf := ift c1 hf
    refine aw_sub [(0, .ref (gad G 58)), (1, .int v1)] [0, 1] rfl ?_
    exact t_m_begins_44 C CR0 E hnL hgd hgr hgs v1 _ hf
  · have hf := iff_ c1 hf
    refine aw_aload_n C 0 0 (j := 0) rfl rfl (by decide +kernel) rfl ?_
    refine aw_getr C (k := 6) fc_12 (la_58 E) rfl (by decide) tb_948 (by decide +kernel) rfl ?_
    refine aw_iload_n C 2 2 (j := 2) rfl rfl (by decide +kernel) rfl ?_
    refine aw_iconst C (i0 := 0) (v := 0) (by decide) (by decide +kernel) rfl ?_
    obtain ⟨g2, hf⟩ := igd hf
    refine aw_zastB C (la_61 E) g2 (by decide) (by decide +kernel) rfl ?_
    refine aw_aload_n C 0 0 (j := 0) rfl rfl (by decide +kernel) rfl ?_
    refine aw_getr C (k := 7) fc_12 (la_58 E) rfl (by decide) tb_949 (by decide +kernel) rfl ?_
    refine aw_iload_n C 2 2 (j := 2) rfl rfl (by decide +kernel) rfl ?_
    refine aw_iconst C (i0 := 0) (v := 0) (by decide) (by decide +kernel) rfl ?_
    obtain ⟨g3, hf⟩ := igd hf
    refine aw_zastB C (la_62 E) g3 (by decide) (by decide +kernel) rfl ?_
    obtain ⟨a4, ha4⟩ : ∃ z, z = (v2 + (1 : Int32)) := ⟨_, rfl⟩
    have hf := ilt ha4 hf
    refine aw_iinc C [(2, .int a4), (0, .ref (gad G 58)), (1, .int v1)] 2 (n := 1) rfl (by rw [ha4]; rfl) (by rw [hnL]; decide) rfl (by decide +kernel) rfl ?_
    refine aw_goto C (tgt := 17) (off := -24) (by decide +kernel) (by decide) ?_
    refine aw_sub [(0, .ref (gad G 58)), (1, .int v1), (2, .int a4)] [1, 2, 0] rfl ?_
    exact hk17 v1 a4 _ hf
theorem u_m_begins_17 {G : Cx} (C : CX G prog_14_method_6_code "PaperStarsModel") (CR0 : CR G (Option.none)) (E : LAin (gly G)) (hnL : gnL G = 3) (hgd : 0 ≤ gd G) {q : Unit × Mm} (hgr : gr G = none) (hgs : gsf G = q.2) : ∀ (n : Nat) (v1 : Int32) (v2 : Int32) (st : Mm), f_m_begins_17 n v1 v2 st = some q → AW G st 17 [(0, .ref (gad G 58)), (1, .int v1), (2, .int v2)] [] := by
  intro n
  induction n with
  | zero => intro v1 v2 st hf; cases hf
  | succ n ih => intro v1 v2 st hf; exact t_m_begins_17 C CR0 E hnL hgd hgr hgs (f_m_begins_17 n) ih v1 v2 st hf
theorem t_m_begins {G : Cx} (C : CX G prog_14_method_6_code "PaperStarsModel") (CR0 : CR G (Option.none)) (E : LAin (gly G)) (hnL : gnL G = 3) (hgd : 0 ≤ gd G) {q : Unit × Mm} (hgr : gr G = none) (hgs : gsf G = q.2) (v1 : Int32) (st : Mm) (hf : f_m_begins v1 st = some q) : AW G st 0 [(0, .ref (gad G 58)), (1, .int v1)] [] := by
  unfold f_m_begins at hf
  refine aw_aload_n C 0 0 (j := 0) rfl rfl (by decide +kernel) rfl ?_
  refine aw_iload_n C 1 1 (j := 1) rfl rfl (by decide +kernel) rfl ?_
  refine aw_put C (k := 0) fc_12 (la_58 E) rfl (by decide) rfl rfl tb_942 (by decide +kernel) rfl ?_
  refine aw_aload_n C 0 0 (j := 0) rfl rfl (by decide +kernel) rfl ?_
  refine aw_iconst C (i0 := 0) (v := 0) (by decide) (by decide +kernel) rfl ?_
  refine aw_put C (k := 1) fc_12 (la_58 E) rfl (by decide) rfl rfl tb_943 (by decide +kernel) rfl ?_
  refine aw_aload_n C 0 0 (j := 0) rfl rfl (by decide +kernel) rfl ?_
  refine aw_iconst C (i0 := 0) (v := 0) (by decide) (by decide +kernel) rfl ?_
  refine aw_put C (k := 2) fc_12 (la_58 E) rfl (by decide) rfl rfl tb_944 (by decide +kernel) rfl ?_
  refine aw_iconst C (i0 := 0) (v := 0) (by decide) (by decide +kernel) rfl ?_
  refine aw_istore_n C [(2, .int (0 : Int32)), (0, .ref (gad G 58)), (1, .int v1)] (j := 2) rfl (by rw [hnL]; decide) rfl (by decide +kernel) rfl ?_
  refine aw_sub [(0, .ref (gad G 58)), (1, .int v1), (2, .int (0 : Int32))] [1, 2, 0] rfl ?_
  exact u_m_begins_17 C CR0 E hnL hgd hgr hgs _ v1 (0 : Int32) _ hf
theorem c_m_begins {lay : Ly} (E : LAin lay) (v1 : Int32) (st : Mm) (q : Unit × Mm) (hf : f_m_begins v1 st = some q) : Con 0 Y140 prog_14_method_6_code 3 (Option.none) lay (fun ad => [.ref (ad 58), .int v1]) st (none) q.2 :=
  am_met yf_140.2.2.2.2.2 (fun ad => Nat.le_of_ble_eq_true rfl) (fun G C CR0 e1 e2 e3 e4 e5 => t_m_begins C CR0 (by rw [e1]; exact E) e2 (Nat.le_of_eq e5.symm) e3 e4 v1 st hf)
def f_m_in (v0 : Int32) (v1 : Int32) (v2 : Int32) (st : Mm) : Option (Int32 × Mm) :=
  if v0 < v1 then (some ((0 : Int32), st)) else (if v2 < v0 then (some ((0 : Int32), st)) else (some ((1 : Int32), st)))
theorem t_m_in {G : Cx} (C : CX G prog_14_method_2_code "PaperStarsModel") (CR0 : CR G (Option.some FieldType.boolean)) (E : LAin (gly G)) (hnL : gnL G = 3) (hgd : 0 ≤ gd G) {q : Int32 × Mm} (hgr : gr G = some (.int q.1)) (hgs : gsf G = q.2) (v0 : Int32) (v1 : Int32) (v2 : Int32) (st : Mm) (hf : f_m_in v0 v1 v2 st = some q) : AW G st 0 [(0, .int v0), (1, .int v1), (2, .int v2)] [] := by
  unfold f_m_in at hf
  refine aw_iload_n C 0 0 (j := 0) rfl rfl (by decide +kernel) rfl ?_
  refine aw_iload_n C 1 1 (j := 1) rfl rfl (by decide +kernel) rfl ?_
  refine aw_icmp_lt C (tgt := 14) (off := 12) (by decide +kernel) (by decide) rfl (fun c1 => ?_) (fun c1 => ?_)
  · have hf := ift c1 hf
    refine aw_iconst C (i0 := 0) (v := 0) (by decide) (by decide +kernel) rfl ?_
    exact aw_zretq C CR0 hgr hgs (by decide) hf (by decide +kernel)
  · have hf := iff_ c1 hf
    refine aw_iload_n C 0 0 (j := 0) rfl rfl (by decide +kernel) rfl ?_
    refine aw_iload_n C 2 2 (j := 2) rfl rfl (by decide +kernel) rfl ?_
    refine aw_icmp_gt C (tgt := 14) (off := 7) (by decide +kernel) (by decide) rfl (fun c2 => ?_) (fun c2 => ?_)
    · have hf := ift c2 hf
      refine aw_iconst C (i0 := 0) (v := 0) (by decide) (by decide +kernel) rfl ?_
      exact aw_zretq C CR0 hgr hgs (by decide) hf (by decide +kernel)
    · have hf := iff_ c2 hf
      refine aw_iconst C (i0 := 1) (v := 1) (by decide) (by decide +kernel) rfl ?_
      refine aw_goto C (tgt := 15) (off := 4) (by decide +kernel) (by decide) ?_
      exact aw_zretq C CR0 hgr hgs (by decide) hf (by decide +kernel)
theorem c_m_in {lay : Ly} (E : LAin lay) (v0 : Int32) (v1 : Int32) (v2 : Int32) (st : Mm) (q : Int32 × Mm) (hf : f_m_in v0 v1 v2 st = some q) : Con 0 Y142 prog_14_method_2_code 3 (Option.some FieldType.boolean) lay (fun ad => [.int v0, .int v1, .int v2]) st (some (.int q.1)) q.2 :=
  am_met yf_142.2.2.2.2.2 (fun ad => Nat.le_of_ble_eq_true rfl) (fun G C CR0 e1 e2 e3 e4 e5 => t_m_in C CR0 (by rw [e1]; exact E) e2 (Nat.le_of_eq e5.symm) e3 e4 v0 v1 v2 st hf)
def f_m_sheet (v1 : Int32) (st : Mm) : Option (Int32 × Mm) :=
  (f_m_in v1 (2 : Int32) (16 : Int32) st).bind (fun q1 => if q1.1 = 0 then (some ((0 : Int32), q1.2)) else (if (v1 - v1 / (2 : Int32) * (2 : Int32)) = (1 : Int32) then (some ((0 : Int32), q1.2)) else ((f_m_begins v1 q1.2).bind (fun q4 => some ((1 : Int32), q4.2)))))
theorem t_m_sheet {G : Cx} (C : CX G prog_14_method_7_code "PaperStarsModel") (CR0 : CR G (Option.some FieldType.boolean)) (E : LAin (gly G)) (hnL : gnL G = 2) (hgd : 1 ≤ gd G) {q : Int32 × Mm} (hgr : gr G = some (.int q.1)) (hgs : gsf G = q.2) (v1 : Int32) (st : Mm) (hf : f_m_sheet v1 st = some q) : AW G st 0 [(0, .ref (gad G 58)), (1, .int v1)] [] := by
  unfold f_m_sheet at hf
  refine aw_iload_n C 1 1 (j := 1) rfl rfl (by decide +kernel) rfl ?_
  refine aw_iconst C (i0 := 2) (v := 2) (by decide) (by decide +kernel) rfl ?_
  refine aw_bipush C (i0 := 16) (v := 16) (by decide) (by decide +kernel) rfl ?_
  obtain ⟨q1, hq1, hf⟩ := ibd hf
  refine aw_callS C (rest := []) (c_m_in E v1 (2 : Int32) (16 : Int32) _ q1 hq1) tb_1144 yf_142 tb_1145 rfl _ rfl (Nat.le_trans (by decide) hgd) (Nat.le_of_ble_eq_true rfl) (by decide +kernel) rfl ?_
  show AW _ _ _ _ [.int q1.1]
  refine aw_if_eq C (tgt := 17) (off := 10) (by decide +kernel) (by decide) rfl (fun c2 => ?_) (fun c2 => ?_)
  · have hf := ift c2 hf
    refine aw_iconst C (i0 := 0) (v := 0) (by decide) (by decide +kernel) rfl ?_
    exact aw_zretq C CR0 hgr hgs (by decide) hf (by decide +kernel)
  · have hf := iff_ c2 hf
    refine aw_iload_n C 1 1 (j := 1) rfl rfl (by decide +kernel) rfl ?_
    refine aw_iconst C (i0 := 2) (v := 2) (by decide) (by decide +kernel) rfl ?_
    refine aw_irem C (by decide) (by decide +kernel) rfl ?_
    refine aw_iconst C (i0 := 1) (v := 1) (by decide) (by decide +kernel) rfl ?_
    refine aw_icmp_ne C (tgt := 19) (off := 5) (by decide +kernel) (by decide) rfl (fun c3 => ?_) (fun c3 => ?_)
    · have hf := ift c3 hf
      refine aw_iconst C (i0 := 0) (v := 0) (by decide) (by decide +kernel) rfl ?_
      exact aw_zretq C CR0 hgr hgs (by decide) hf (by decide +kernel)
    · have hf := iff_ c3 hf
      refine aw_aload_n C 0 0 (j := 0) rfl rfl (by decide +kernel) rfl ?_
      refine aw_iload_n C 1 1 (j := 1) rfl rfl (by decide +kernel) rfl ?_
      obtain ⟨q4, hq4, hf⟩ := ibd hf
      refine aw_callV C (rest := []) (c_m_begins E v1 _ q4 hq4) tb_938 yf_140 yi_140 (la_58 E) [.int v1] rfl rfl _ rfl (Nat.le_trans (by decide) hgd) (Nat.le_of_ble_eq_true rfl) (by decide +kernel) rfl ?_
      show AW _ _ _ _ []
      refine aw_iconst C (i0 := 1) (v := 1) (by decide) (by decide +kernel) rfl ?_
      exact aw_zretq C CR0 hgr hgs (by decide) hf (by decide +kernel)
theorem c_m_sheet {lay : Ly} (E : LAin lay) (v1 : Int32) (st : Mm) (q : Int32 × Mm) (hf : f_m_sheet v1 st = some q) : Con 1 Y141 prog_14_method_7_code 2 (Option.some FieldType.boolean) lay (fun ad => [.ref (ad 58), .int v1]) st (some (.int q.1)) q.2 :=
  am_met yf_141.2.2.2.2.2 (fun ad => Nat.le_of_ble_eq_true rfl) (fun G C CR0 e1 e2 e3 e4 e5 => t_m_sheet C CR0 (by rw [e1]; exact E) e2 (Nat.le_of_eq e5.symm) e3 e4 v1 st hf)
def b_m_types_2 (k2 : Int32 → Int32 → Mm → Option (Unit × Mm)) (v1 : Int32) (v2 : Int32) (st : Mm) : Option (Unit × Mm) :=
  if v2 < 0 then (some ((), st)) else (lt_ ((v1 >>> (((8 : Int32) * v2) &&& 31)).toInt8.toInt32) (fun a2 => if inb (st.1 58 19) 200 then lt_ (((sI st 65 (st.1 58 19).toNatClampNeg (vp_nar .byte a2)).1 58 19) + (1 : Int32)) (fun a4 => lt_ (v2 + (-1 : Int32)) (fun a5 => k2 v1 a5 (sI (sI st 65 (st.1 58 19).toNatClampNeg (vp_nar .byte a2)) 58 19 a4))) else none))
def f_m_types_2 : Nat → Int32 → Int32 → Mm → Option (Unit × Mm)
  | 0 => fun _ _ _ => none
  | n + 1 => b_m_types_2 (f_m_types_2 n)
def f_m_types (v1 : Int32) (st : Mm) : Option (Unit × Mm) :=
  f_m_types_2 1000000 v1 (3 : Int32) st
theorem t_m_types_2 {G : Cx} (C : CX G prog_14_method_17_code "PaperStarsModel") (CR0 : CR G (Option.none)) (E : LAin (gly G)) (hnL : gnL G = 3) (hgd : 0 ≤ gd G) {q : Unit × Mm} (hgr : gr G = none) (hgs : gsf G = q.2) (k2 : Int32 → Int32 → Mm → Option (Unit × Mm)) (hk2 : ∀ (v1 : Int32) (v2 : Int32) (st : Mm), k2 v1 v2 st = some q → AW G st 2 [(0, .ref (gad G 58)), (1, .int v1), (2, .int v2)] []) (v1 : Int32) (v2 : Int32) (st : Mm) (hf : b_m_types_2 k2 v1 v2 st = some q) : AW G st 2 [(0, .ref (gad G 58)), (1, .int v1), (2, .int v2)] [] := by
  unfold b_m_types_2 at hf
  refine aw_iload_n C 2 2 (j := 2) rfl rfl (by decide +kernel) rfl ?_
  refine aw_if_lt C (tgt := 38) (off := 35) (by decide +kernel) (by decide) rfl (fun c1 => ?_) (fun c1 => ?_)
  · have hf := ift c1 hf
    exact aw_vretq C CR0 hgr hgs hf (by decide +kernel)
  · have hf := iff_ c1 hf
    refine aw_aload_n C 0 0 (j := 0) rfl rfl (by decide +kernel) rfl ?_
    refine aw_getr C (k := 18) fc_12 (la_58 E) rfl (by decide) tb_960 (by decide +kernel) rfl ?_
    refine aw_aload_n C 0 0 (j := 0) rfl rfl (by decide +kernel) rfl ?_
    refine aw_get C (k := 19) fc_12 (la_58 E) rfl (by decide) tb_961 (by decide +kernel) rfl ?_
    refine aw_iload_n C 1 1 (j := 1) rfl rfl (by decide +kernel) rfl ?_
    refine aw_bipush C (i0 := 8) (v := 8) (by decide) (by decide +kernel) rfl ?_
    refine aw_iload_n C 2 2 (j := 2) rfl rfl (by decide +kernel) rfl ?_
    refine aw_imul C (by decide +kernel) rfl ?_
    refine aw_ishr C (by decide +kernel) rfl ?_
    refine aw_i2b C (by decide +kernel) rfl ?_
    obtain ⟨a2, ha2⟩ : ∃ z, z = ((v1 >>> (((8 : Int32) * v2) &&& 31)).toInt8.toInt32) := ⟨_, rfl⟩
    refine aw_nmi ha2 ?_
    have hf := ilt ha2 hf
    obtain ⟨g3, hf⟩ := igd hf
    refine aw_bast C (la_65 E) g3 (by decide +kernel) rfl ?_
    refine aw_aload_n C 0 0 (j := 0) rfl rfl (by decide +kernel) rfl ?_
    refine aw_aload_n C 0 0 (j := 0) rfl rfl (by decide +kernel) rfl ?_
    refine aw_get C (k := 19) fc_12 (la_58 E) rfl (by decide) tb_961 (by decide +kernel) rfl ?_
    refine aw_iconst C (i0 := 1) (v := 1) (by decide) (by decide +kernel) rfl ?_
    refine aw_iadd C (by decide +kernel) rfl ?_
    obtain ⟨a4, ha4⟩ : ∃ z, z = (((sI st 65 (st.1 58 19).toNatClampNeg (vp_nar .byte a2)).1 58 19) + (1 : Int32)) := ⟨_, rfl⟩
    refine aw_nmi ha4 ?_
    have hf := ilt ha4 hf
    refine aw_put C (k := 19) fc_12 (la_58 E) rfl (by decide) rfl rfl tb_961 (by decide +kernel) rfl ?_
    obtain ⟨a5, ha5⟩ : ∃ z, z = (v2 + (-1 : Int32)) := ⟨_, rfl⟩
    have hf := ilt ha5 hf
    refine aw_iinc C [(2, .int a5), (0, .ref (gad G 58)), (1, .int v1)] 2 (n := -1) rfl (by rw [ha5]; rfl) (by rw [hnL]; decide) rfl (by decide +kernel) rfl ?_
    refine aw_goto C (tgt := 2) (off := -33) (by decide +kernel) (by decide) ?_
    refine aw_sub [(0, .ref (gad G 58)), (1, .int v1), (2, .int a5)] [1, 2, 0] rfl ?_
    exact hk2 v1 a5 _ hf
theorem u_m_types_2 {G : Cx} (C : CX G prog_14_method_17_code "PaperStarsModel") (CR0 : CR G (Option.none)) (E : LAin (gly G)) (hnL : gnL G = 3) (hgd : 0 ≤ gd G) {q : Unit × Mm} (hgr : gr G = none) (hgs : gsf G = q.2) : ∀ (n : Nat) (v1 : Int32) (v2 : Int32) (st : Mm), f_m_types_2 n v1 v2 st = some q → AW G st 2 [(0, .ref (gad G 58)), (1, .int v1), (2, .int v2)] [] := by
  intro n
  induction n with
  | zero => intro v1 v2 st hf; cases hf
  | succ n ih => intro v1 v2 st hf; exact t_m_types_2 C CR0 E hnL hgd hgr hgs (f_m_types_2 n) ih v1 v2 st hf
theorem t_m_types {G : Cx} (C : CX G prog_14_method_17_code "PaperStarsModel") (CR0 : CR G (Option.none)) (E : LAin (gly G)) (hnL : gnL G = 3) (hgd : 0 ≤ gd G) {q : Unit × Mm} (hgr : gr G = none) (hgs : gsf G = q.2) (v1 : Int32) (st : Mm) (hf : f_m_types v1 st = some q) : AW G st 0 [(0, .ref (gad G 58)), (1, .int v1)] [] := by
  unfold f_m_types at hf
  refine aw_iconst C (i0 := 3) (v := 3) (by decide) (by decide +kernel) rfl ?_
  refine aw_istore_n C [(2, .int (3 : Int32)), (0, .ref (gad G 58)), (1, .int v1)] (j := 2) rfl (by rw [hnL]; decide) rfl (by decide +kernel) rfl ?_
  refine aw_sub [(0, .ref (gad G 58)), (1, .int v1), (2, .int (3 : Int32))] [1, 2, 0] rfl ?_
  exact u_m_types_2 C CR0 E hnL hgd hgr hgs _ v1 (3 : Int32) _ hf
theorem c_m_types {lay : Ly} (E : LAin lay) (v1 : Int32) (st : Mm) (q : Unit × Mm) (hf : f_m_types v1 st = some q) : Con 0 Y144 prog_14_method_17_code 3 (Option.none) lay (fun ad => [.ref (ad 58), .int v1]) st (none) q.2 :=
  am_met yf_144.2.2.2.2.2 (fun ad => Nat.le_of_ble_eq_true rfl) (fun G C CR0 e1 e2 e3 e4 e5 => t_m_types C CR0 (by rw [e1]; exact E) e2 (Nat.le_of_eq e5.symm) e3 e4 v1 st hf)
def f_m_feed (v1 : Int32) (v2 : Int32) (v3 : Int32) (v4 : Int32) (v5 : Int32) (st : Mm) : Option (Int32 × Mm) :=
  if ((st.1 58 19) + (20 : Int32)) ≤ (200 : Int32) then ((f_m_types v1 st).bind (fun q2 => (f_m_types v2 q2.2).bind (fun q3 => (f_m_types v3 q3.2).bind (fun q4 => (f_m_types v4 q4.2).bind (fun q5 => (f_m_types v5 q5.2).bind (fun q6 => some ((q6.2.1 58 19), q6.2))))))) else (some ((-1 : Int32), st))
theorem t_m_feed {G : Cx} (C : CX G prog_14_method_18_code "PaperStarsModel") (CR0 : CR G (Option.some FieldType.int)) (E : LAin (gly G)) (hnL : gnL G = 6) (hgd : 1 ≤ gd G) {q : Int32 × Mm} (hgr : gr G = some (.int q.1)) (hgs : gsf G = q.2) (v1 : Int32) (v2 : Int32) (v3 : Int32) (v4 : Int32) (v5 : Int32) (st : Mm) (hf : f_m_feed v1 v2 v3 v4 v5 st = some q) : AW G st 0 [(0, .ref (gad G 58)), (1, .int v1), (2, .int v2), (3, .int v3), (4, .int v4), (5, .int v5)] [] := by
  unfold f_m_feed at hf
  refine aw_aload_n C 0 0 (j := 0) rfl rfl (by decide +kernel) rfl ?_
  refine aw_get C (k := 19) fc_12 (la_58 E) rfl (by decide) tb_961 (by decide +kernel) rfl ?_
  refine aw_bipush C (i0 := 20) (v := 20) (by decide) (by decide +kernel) rfl ?_
  refine aw_iadd C (by decide +kernel) rfl ?_
  refine aw_sipush C (i0 := 200) (v := 200) (by decide) (by decide +kernel) rfl ?_
  refine aw_icmp_le C (tgt := 15) (off := 5) (by decide +kernel) (by decide) rfl (fun c1 => ?_) (fun c1 => ?_)
  · have hf := ift c1 hf
    refine aw_aload_n C 0 0 (j := 0) rfl rfl (by decide +kernel) rfl ?_
    refine aw_iload_n C 1 1 (j := 1) rfl rfl (by decide +kernel) rfl ?_
    obtain ⟨q2, hq2, hf⟩ := ibd hf
    refine aw_callV C (rest := []) (c_m_types E v1 _ q2 hq2) tb_1151 yf_144 yi_144 (la_58 E) [.int v1] rfl rfl _ rfl (Nat.le_trans (by decide) hgd) (Nat.le_of_ble_eq_true rfl) (by decide +kernel) rfl ?_
    show AW _ _ _ _ []
    refine aw_aload_n C 0 0 (j := 0) rfl rfl (by decide +kernel) rfl ?_
    refine aw_iload_n C 2 2 (j := 2) rfl rfl (by decide +kernel) rfl ?_
    obtain ⟨q3, hq3, hf⟩ := ibd hf
    refine aw_callV C (rest := []) (c_m_types E v2 _ q3 hq3) tb_1151 yf_144 yi_144 (la_58 E) [.int v2] rfl rfl _ rfl (Nat.le_trans (by decide) hgd) (Nat.le_of_ble_eq_true rfl) (by decide +kernel) rfl ?_
    show AW _ _ _ _ []
    refine aw_aload_n C 0 0 (j := 0) rfl rfl (by decide +kernel) rfl ?_
    refine aw_iload_n C 3 3 (j := 3) rfl rfl (by decide +kernel) rfl ?_
    obtain ⟨q4, hq4, hf⟩ := ibd hf
    refine aw_callV C (rest := []) (c_m_types E v3 _ q4 hq4) tb_1151 yf_144 yi_144 (la_58 E) [.int v3] rfl rfl _ rfl (Nat.le_trans (by decide) hgd) (Nat.le_of_ble_eq_true rfl) (by decide +kernel) rfl ?_
    show AW _ _ _ _ []
    refine aw_aload_n C 0 0 (j := 0) rfl rfl (by decide +kernel) rfl ?_
    refine aw_iload C 4 4 rfl (by decide +kernel) rfl ?_
    obtain ⟨q5, hq5, hf⟩ := ibd hf
    refine aw_callV C (rest := []) (c_m_types E v4 _ q5 hq5) tb_1151 yf_144 yi_144 (la_58 E) [.int v4] rfl rfl _ rfl (Nat.le_trans (by decide) hgd) (Nat.le_of_ble_eq_true rfl) (by decide +kernel) rfl ?_
    show AW _ _ _ _ []
    refine aw_aload_n C 0 0 (j := 0) rfl rfl (by decide +kernel) rfl ?_
    refine aw_iload C 5 5 rfl (by decide +kernel) rfl ?_
    obtain ⟨q6, hq6, hf⟩ := ibd hf
    refine aw_callV C (rest := []) (c_m_types E v5 _ q6 hq6) tb_1151 yf_144 yi_144 (la_58 E) [.int v5] rfl rfl _ rfl (Nat.le_trans (by decide) hgd) (Nat.le_of_ble_eq_true rfl) (by decide +kernel) rfl ?_
    show AW _ _ _ _ []
    refine aw_aload_n C 0 0 (j := 0) rfl rfl (by decide +kernel) rfl ?_
    refine aw_get C (k := 19) fc_12 (la_58 E) rfl (by decide) tb_961 (by decide +kernel) rfl ?_
    exact aw_iretq C CR0 hgr hgs hf (by decide +kernel)
  · have hf := iff_ c1 hf
    refine aw_iconst C (i0 := -1) (v := -1) (by decide) (by decide +kernel) rfl ?_
    exact aw_iretq C CR0 hgr hgs hf (by decide +kernel)
theorem c_m_feed {lay : Ly} (E : LAin lay) (v1 : Int32) (v2 : Int32) (v3 : Int32) (v4 : Int32) (v5 : Int32) (st : Mm) (q : Int32 × Mm) (hf : f_m_feed v1 v2 v3 v4 v5 st = some q) : Con 1 Y143 prog_14_method_18_code 6 (Option.some FieldType.int) lay (fun ad => [.ref (ad 58), .int v1, .int v2, .int v3, .int v4, .int v5]) st (some (.int q.1)) q.2 :=
  am_met yf_143.2.2.2.2.2 (fun ad => Nat.le_of_ble_eq_true rfl) (fun G C CR0 e1 e2 e3 e4 e5 => t_m_feed C CR0 (by rw [e1]; exact E) e2 (Nat.le_of_eq e5.symm) e3 e4 v1 v2 v3 v4 v5 st hf)
def b_m_comesBy_46 (st : Mm) : Option (Int32 × Mm) :=
  lt_ ((st.1 58 15) / (2 : Int32)) (fun a1 => if ((sI st 58 15 a1).1 58 15) ≤ ((sI st 58 15 a1).1 58 13) then (some ((0 : Int32), (sI st 58 15 a1))) else (some ((1 : Int32), (sI st 58 15 a1))))
def b_m_comesBy_109 (st : Mm) : Option (Int32 × Mm) :=
  lt_ ((st.1 58 16) / (2 : Int32)) (fun a1 => if ((sI st 58 16 a1).1 58 16) ≤ ((sI st 58 16 a1).1 58 14) then (some ((0 : Int32), (sI st 58 16 a1))) else (some ((1 : Int32), (sI st 58 16 a1))))
def b_m_comesBy_9 (v1 : Int32) (s0 : Int32) (st : Mm) : Option (Int32 × Mm) :=
  if v1 = (104 : Int32) then (if (st.1 58 13) < ((st.1 58 15) / (2 : Int32)) then (b_m_comesBy_46 st) else (lt_ ((((st.1 58 15) - (1 : Int32)) - (st.1 58 13)) + s0) (fun a3 => b_m_comesBy_46 (sI st 58 13 a3)))) else (if v1 = (118 : Int32) then (if (st.1 58 14) < ((st.1 58 16) / (2 : Int32)) then (b_m_comesBy_109 st) else (lt_ ((((st.1 58 16) - (1 : Int32)) - (st.1 58 14)) + s0) (fun a6 => b_m_comesBy_109 (sI st 58 14 a6)))) else (if (st.1 58 14) ≤ (st.1 58 13) then (some ((1 : Int32), st)) else (lt_ (st.1 58 13) (fun a8 => lt_ (st.1 58 14) (fun a9 => lt_ (a8 + s0) (fun a10 => some ((1 : Int32), (sI (sI st 58 13 a9) 58 14 a10))))))))
def f_m_comesBy (v1 : Int32) (v2 : Int32) (st : Mm) : Option (Int32 × Mm) :=
  if v2 = 0 then (b_m_comesBy_9 v1 (0 : Int32) st) else (b_m_comesBy_9 v1 (1 : Int32) st)
theorem t_m_comesBy_46 {G : Cx} (C : CX G prog_14_method_13_code "PaperStarsModel") (CR0 : CR G (Option.some FieldType.boolean)) (E : LAin (gly G)) (hnL : gnL G = 5) (hgd : 0 ≤ gd G) {q : Int32 × Mm} (hgr : gr G = some (.int q.1)) (hgs : gsf G = q.2) (st : Mm) (hf : b_m_comesBy_46 st = some q) : AW G st 46 [(0, .ref (gad G 58))] [] := by
  unfold b_m_comesBy_46 at hf
  refine aw_aload_n C 0 0 (j := 0) rfl rfl (by decide +kernel) rfl ?_
  refine aw_aload_n C 0 0 (j := 0) rfl rfl (by decide +kernel) rfl ?_
  refine aw_get C (k := 15) fc_12 (la_58 E) rfl (by decide) tb_957 (by decide +kernel) rfl ?_
  refine aw_iconst C (i0 := 2) (v := 2) (by decide) (by decide +kernel) rfl ?_
  refine aw_idiv C (by decide) (by decide +kernel) rfl ?_
  obtain ⟨a1, ha1⟩ : ∃ z, z = ((st.1 58 15) / (2 : Int32)) := ⟨_, rfl⟩
  refine aw_nmi ha1 ?_
  have hf := ilt ha1 hf
  refine aw_put C (k := 15) fc_12 (la_58 E) rfl (by decide) rfl rfl tb_957 (by decide +kernel) rfl ?_
  refine aw_aload_n C 0 0 (j := 0) rfl rfl (by decide +kernel) rfl ?_
  refine aw_get C (k := 13) fc_12 (la_58 E) rfl (by decide) tb_955 (by decide +kernel) rfl ?_
  refine aw_aload_n C 0 0 (j := 0) rfl rfl (by decide +kernel) rfl ?_
  refine aw_get C (k := 15) fc_12 (la_58 E) rfl (by decide) tb_957 (by decide +kernel) rfl ?_
  refine aw_icmp_ge C (tgt := 71) (off := 7) (by decide +kernel) (by decide) rfl (fun c2 => ?_) (fun c2 => ?_)
  · have hf := ift c2 hf
    refine aw_iconst C (i0 := 0) (v := 0) (by decide) (by decide +kernel) rfl ?_
    exact aw_zretq C CR0 hgr hgs (by decide) hf (by decide +kernel)
  · have hf := iff_ c2 hf
    refine aw_iconst C (i0 := 1) (v := 1) (by decide) (by decide +kernel) rfl ?_
    refine aw_goto C (tgt := 72) (off := 4) (by decide +kernel) (by decide) ?_
    exact aw_zretq C CR0 hgr hgs (by decide) hf (by decide +kernel)
theorem t_m_comesBy_109 {G : Cx} (C : CX G prog_14_method_13_code "PaperStarsModel") (CR0 : CR G (Option.some FieldType.boolean)) (E : LAin (gly G)) (hnL : gnL G = 5) (hgd : 0 ≤ gd G) {q : Int32 × Mm} (hgr : gr G = some (.int q.1)) (hgs : gsf G = q.2) (st : Mm) (hf : b_m_comesBy_109 st = some q) : AW G st 109 [(0, .ref (gad G 58))] [] := by
  unfold b_m_comesBy_109 at hf
  refine aw_aload_n C 0 0 (j := 0) rfl rfl (by decide +kernel) rfl ?_
  refine aw_aload_n C 0 0 (j := 0) rfl rfl (by decide +kernel) rfl ?_
  refine aw_get C (k := 16) fc_12 (la_58 E) rfl (by decide) tb_958 (by decide +kernel) rfl ?_
  refine aw_iconst C (i0 := 2) (v := 2) (by decide) (by decide +kernel) rfl ?_
  refine aw_idiv C (by decide) (by decide +kernel) rfl ?_
  obtain ⟨a1, ha1⟩ : ∃ z, z = ((st.1 58 16) / (2 : Int32)) := ⟨_, rfl⟩
  refine aw_nmi ha1 ?_
  have hf := ilt ha1 hf
  refine aw_put C (k := 16) fc_12 (la_58 E) rfl (by decide) rfl rfl tb_958 (by decide +kernel) rfl ?_
  refine aw_aload_n C 0 0 (j := 0) rfl rfl (by decide +kernel) rfl ?_
  refine aw_get C (k := 14) fc_12 (la_58 E) rfl (by decide) tb_956 (by decide +kernel) rfl ?_
  refine aw_aload_n C 0 0 (j := 0) rfl rfl (by decide +kernel) rfl ?_
  refine aw_get C (k := 16) fc_12 (la_58 E) rfl (by decide) tb_958 (by decide +kernel) rfl ?_
  refine aw_icmp_ge C (tgt := 134) (off := 7) (by decide +kernel) (by decide) rfl (fun c2 => ?_) (fun c2 => ?_)
  · have hf := ift c2 hf
    refine aw_iconst C (i0 := 0) (v := 0) (by decide) (by decide +kernel) rfl ?_
    exact aw_zretq C CR0 hgr hgs (by decide) hf (by decide +kernel)
  · have hf := iff_ c2 hf
    refine aw_iconst C (i0 := 1) (v := 1) (by decide) (by decide +kernel) rfl ?_
    refine aw_goto C (tgt := 135) (off := 4) (by decide +kernel) (by decide) ?_
    exact aw_zretq C CR0 hgr hgs (by decide) hf (by decide +kernel)
theorem t_m_comesBy_9 {G : Cx} (C : CX G prog_14_method_13_code "PaperStarsModel") (CR0 : CR G (Option.some FieldType.boolean)) (E : LAin (gly G)) (hnL : gnL G = 5) (hgd : 0 ≤ gd G) {q : Int32 × Mm} (hgr : gr G = some (.int q.1)) (hgs : gsf G = q.2) (v1 : Int32) (s0 : Int32) (st : Mm) (hf : b_m_comesBy_9 v1 s0 st = some q) : AW G st 9 [(0, .ref (gad G 58)), (1, .int v1)] [.int s0] := by
  unfold b_m_comesBy_9 at hf
  refine aw_istore_n C [(3, .int s0), (0, .ref (gad G 58)), (1, .int v1)] (j := 3) rfl (by rw [hnL]; decide) rfl (by decide +kernel) rfl ?_
  refine aw_iload_n C 1 2 (j := 1) rfl rfl (by decide +kernel) rfl ?_
  refine aw_bipush C (i0 := 104) (v := 104) (by decide) (by decide +kernel) rfl ?_
  refine aw_icmp_ne C (tgt := 73) (off := 60) (by decide +kernel) (by decide) rfl (fun c1 => ?_) (fun c1 => ?_)
  · have hf := ift c1 hf
    refine aw_aload_n C 0 1 (j := 0) rfl rfl (by decide +kernel) rfl ?_
    refine aw_get C (k := 13) fc_12 (la_58 E) rfl (by decide) tb_955 (by decide +kernel) rfl ?_
    refine aw_aload_n C 0 1 (j := 0) rfl rfl (by decide +kernel) rfl ?_
    refine aw_get C (k := 15) fc_12 (la_58 E) rfl (by decide) tb_957 (by decide +kernel) rfl ?_
    refine aw_iconst C (i0 := 2) (v := 2) (by decide) (by decide +kernel) rfl ?_
    refine aw_idiv C (by decide) (by decide +kernel) rfl ?_
    refine aw_icmp_lt C (tgt := 46) (off := 20) (by decide +kernel) (by decide) rfl (fun c2 => ?_) (fun c2 => ?_)
    · have hf := ift c2 hf
      refine aw_sub [(0, .ref (gad G 58))] [1] rfl ?_
      exact t_m_comesBy_46 C CR0 E hnL hgd hgr hgs _ hf
    · have hf := iff_ c2 hf
      refine aw_aload_n C 0 1 (j := 0) rfl rfl (by decide +kernel) rfl ?_
      refine aw_aload_n C 0 1 (j := 0) rfl rfl (by decide +kernel) rfl ?_
      refine aw_get C (k := 15) fc_12 (la_58 E) rfl (by decide) tb_957 (by decide +kernel) rfl ?_
      refine aw_iconst C (i0 := 1) (v := 1) (by decide) (by decide +kernel) rfl ?_
      refine aw_isub C (by decide +kernel) rfl ?_
      refine aw_aload_n C 0 1 (j := 0) rfl rfl (by decide +kernel) rfl ?_
      refine aw_get C (k := 13) fc_12 (la_58 E) rfl (by decide) tb_955 (by decide +kernel) rfl ?_
      refine aw_isub C (by decide +kernel) rfl ?_
      refine aw_iload_n C 3 0 (j := 3) rfl rfl (by decide +kernel) rfl ?_
      refine aw_iadd C (by decide +kernel) rfl ?_
      obtain ⟨a3, ha3⟩ : ∃ z, z = ((((st.1 58 15) - (1 : Int32)) - (st.1 58 13)) + s0) := ⟨_, rfl⟩
      refine aw_nmi ha3 ?_
      have hf := ilt ha3 hf
      refine aw_put C (k := 13) fc_12 (la_58 E) rfl (by decide) rfl rfl tb_955 (by decide +kernel) rfl ?_
      refine aw_sub [(0, .ref (gad G 58))] [1] rfl ?_
      exact t_m_comesBy_46 C CR0 E hnL hgd hgr hgs _ hf
  · have hf := iff_ c1 hf
    refine aw_iload_n C 1 2 (j := 1) rfl rfl (by decide +kernel) rfl ?_
    refine aw_bipush C (i0 := 118) (v := 118) (by decide) (by decide +kernel) rfl ?_
    refine aw_icmp_ne C (tgt := 136) (off := 60) (by decide +kernel) (by decide) rfl (fun c4 => ?_) (fun c4 => ?_)
    · have hf := ift c4 hf
      refine aw_aload_n C 0 1 (j := 0) rfl rfl (by decide +kernel) rfl ?_
      refine aw_get C (k := 14) fc_12 (la_58 E) rfl (by decide) tb_956 (by decide +kernel) rfl ?_
      refine aw_aload_n C 0 1 (j := 0) rfl rfl (by decide +kernel) rfl ?_
      refine aw_get C (k := 16) fc_12 (la_58 E) rfl (by decide) tb_958 (by decide +kernel) rfl ?_
      refine aw_iconst C (i0 := 2) (v := 2) (by decide) (by decide +kernel) rfl ?_
      refine aw_idiv C (by decide) (by decide +kernel) rfl ?_
      refine aw_icmp_lt C (tgt := 109) (off := 20) (by decide +kernel) (by decide) rfl (fun c5 => ?_) (fun c5 => ?_)
      · have hf := ift c5 hf
        refine aw_sub [(0, .ref (gad G 58))] [1] rfl ?_
        exact t_m_comesBy_109 C CR0 E hnL hgd hgr hgs _ hf
      · have hf := iff_ c5 hf
        refine aw_aload_n C 0 1 (j := 0) rfl rfl (by decide +kernel) rfl ?_
        refine aw_aload_n C 0 1 (j := 0) rfl rfl (by decide +kernel) rfl ?_
        refine aw_get C (k := 16) fc_12 (la_58 E) rfl (by decide) tb_958 (by decide +kernel) rfl ?_
        refine aw_iconst C (i0 := 1) (v := 1) (by decide) (by decide +kernel) rfl ?_
        refine aw_isub C (by decide +kernel) rfl ?_
        refine aw_aload_n C 0 1 (j := 0) rfl rfl (by decide +kernel) rfl ?_
        refine aw_get C (k := 14) fc_12 (la_58 E) rfl (by decide) tb_956 (by decide +kernel) rfl ?_
        refine aw_isub C (by decide +kernel) rfl ?_
        refine aw_iload_n C 3 0 (j := 3) rfl rfl (by decide +kernel) rfl ?_
        refine aw_iadd C (by decide +kernel) rfl ?_
        obtain ⟨a6, ha6⟩ : ∃ z, z = ((((st.1 58 16) - (1 : Int32)) - (st.1 58 14)) + s0) := ⟨_, rfl⟩
        refine aw_nmi ha6 ?_
        have hf := ilt ha6 hf
        refine aw_put C (k := 14) fc_12 (la_58 E) rfl (by decide) rfl rfl tb_956 (by decide +kernel) rfl ?_
        refine aw_sub [(0, .ref (gad G 58))] [1] rfl ?_
        exact t_m_comesBy_109 C CR0 E hnL hgd hgr hgs _ hf
    · have hf := iff_ c4 hf
      refine aw_aload_n C 0 1 (j := 0) rfl rfl (by decide +kernel) rfl ?_
      refine aw_get C (k := 14) fc_12 (la_58 E) rfl (by decide) tb_956 (by decide +kernel) rfl ?_
      refine aw_aload_n C 0 1 (j := 0) rfl rfl (by decide +kernel) rfl ?_
      refine aw_get C (k := 13) fc_12 (la_58 E) rfl (by decide) tb_955 (by decide +kernel) rfl ?_
      refine aw_icmp_le C (tgt := 169) (off := 25) (by decide +kernel) (by decide) rfl (fun c7 => ?_) (fun c7 => ?_)
      · have hf := ift c7 hf
        refine aw_iconst C (i0 := 1) (v := 1) (by decide) (by decide +kernel) rfl ?_
        exact aw_zretq C CR0 hgr hgs (by decide) hf (by decide +kernel)
      · have hf := iff_ c7 hf
        refine aw_aload_n C 0 1 (j := 0) rfl rfl (by decide +kernel) rfl ?_
        refine aw_get C (k := 13) fc_12 (la_58 E) rfl (by decide) tb_955 (by decide +kernel) rfl ?_
        obtain ⟨a8, ha8⟩ : ∃ z, z = (st.1 58 13) := ⟨_, rfl⟩
        refine aw_nmi ha8 ?_
        have hf := ilt ha8 hf
        refine aw_istore C [(4, .int a8), (3, .int s0), (0, .ref (gad G 58)), (1, .int v1)] (by rw [hnL]; decide) rfl (by decide +kernel) rfl ?_
        refine aw_aload_n C 0 2 (j := 0) rfl rfl (by decide +kernel) rfl ?_
        refine aw_aload_n C 0 2 (j := 0) rfl rfl (by decide +kernel) rfl ?_
        refine aw_get C (k := 14) fc_12 (la_58 E) rfl (by decide) tb_956 (by decide +kernel) rfl ?_
        obtain ⟨a9, ha9⟩ : ∃ z, z = (st.1 58 14) := ⟨_, rfl⟩
        refine aw_nmi ha9 ?_
        have hf := ilt ha9 hf
        refine aw_put C (k := 13) fc_12 (la_58 E) rfl (by decide) rfl rfl tb_955 (by decide +kernel) rfl ?_
        refine aw_aload_n C 0 2 (j := 0) rfl rfl (by decide +kernel) rfl ?_
        refine aw_iload C 4 0 rfl (by decide +kernel) rfl ?_
        refine aw_iload_n C 3 1 (j := 3) rfl rfl (by decide +kernel) rfl ?_
        refine aw_iadd C (by decide +kernel) rfl ?_
        obtain ⟨a10, ha10⟩ : ∃ z, z = (a8 + s0) := ⟨_, rfl⟩
        refine aw_nmi ha10 ?_
        have hf := ilt ha10 hf
        refine aw_put C (k := 14) fc_12 (la_58 E) rfl (by decide) rfl rfl tb_956 (by decide +kernel) rfl ?_
        refine aw_iconst C (i0 := 1) (v := 1) (by decide) (by decide +kernel) rfl ?_
        exact aw_zretq C CR0 hgr hgs (by decide) hf (by decide +kernel)
theorem t_m_comesBy {G : Cx} (C : CX G prog_14_method_13_code "PaperStarsModel") (CR0 : CR G (Option.some FieldType.boolean)) (E : LAin (gly G)) (hnL : gnL G = 5) (hgd : 0 ≤ gd G) {q : Int32 × Mm} (hgr : gr G = some (.int q.1)) (hgs : gsf G = q.2) (v1 : Int32) (v2 : Int32) (st : Mm) (hf : f_m_comesBy v1 v2 st = some q) : AW G st 0 [(0, .ref (gad G 58)), (1, .int v1), (2, .int v2)] [] := by
  unfold f_m_comesBy at hf
  refine aw_iload_n C 2 2 (j := 2) rfl rfl (by decide +kernel) rfl ?_
  refine aw_if_eq C (tgt := 8) (off := 7) (by decide +kernel) (by decide) rfl (fun c1 => ?_) (fun c1 => ?_)
  · have hf := ift c1 hf
    refine aw_iconst C (i0 := 0) (v := 0) (by decide) (by decide +kernel) rfl ?_
    refine aw_sub [(0, .ref (gad G 58)), (1, .int v1)] [0, 1] rfl ?_
    exact t_m_comesBy_9 C CR0 E hnL hgd hgr hgs v1 (0 : Int32) _ hf
  · have hf := iff_ c1 hf
    refine aw_iconst C (i0 := 1) (v := 1) (by decide) (by decide +kernel) rfl ?_
    refine aw_goto C (tgt := 9) (off := 4) (by decide +kernel) (by decide) ?_
    refine aw_sub [(0, .ref (gad G 58)), (1, .int v1)] [0, 1] rfl ?_
    exact t_m_comesBy_9 C CR0 E hnL hgd hgr hgs v1 (1 : Int32) _ hf
theorem c_m_comesBy {lay : Ly} (E : LAin lay) (v1 : Int32) (v2 : Int32) (st : Mm) (q : Int32 × Mm) (hf : f_m_comesBy v1 v2 st = some q) : Con 0 Y156 prog_14_method_13_code 5 (Option.some FieldType.boolean) lay (fun ad => [.ref (ad 58), .int v1, .int v2]) st (some (.int q.1)) q.2 :=
  am_met yf_156.2.2.2.2.2 (fun ad => Nat.le_of_ble_eq_true rfl) (fun G C CR0 e1 e2 e3 e4 e5 => t_m_comesBy C CR0 (by rw [e1]; exact E) e2 (Nat.le_of_eq e5.symm) e3 e4 v1 v2 st hf)
def f_m_has (v0 : Int32) (v1 : Int32) (st : Mm) : Option (Int32 × Mm) :=
  if ((v0 >>> (v1 &&& 31)) &&& (1 : Int32)) = (1 : Int32) then (some ((1 : Int32), st)) else (some ((0 : Int32), st))
theorem t_m_has {G : Cx} (C : CX G prog_14_method_4_code "PaperStarsModel") (CR0 : CR G (Option.some FieldType.boolean)) (E : LAin (gly G)) (hnL : gnL G = 2) (hgd : 0 ≤ gd G) {q : Int32 × Mm} (hgr : gr G = some (.int q.1)) (hgs : gsf G = q.2) (v0 : Int32) (v1 : Int32) (st : Mm) (hf : f_m_has v0 v1 st = some q) : AW G st 0 [(0, .int v0), (1, .int v1)] [] := by
  unfold f_m_has at hf
  refine aw_iload_n C 0 0 (j := 0) rfl rfl (by decide +kernel) rfl ?_
  refine aw_iload_n C 1 1 (j := 1) rfl rfl (by decide +kernel) rfl ?_
  refine aw_ishr C (by decide +kernel) rfl ?_
  refine aw_iconst C (i0 := 1) (v := 1) (by decide) (by decide +kernel) rfl ?_
  refine aw_iand C (by decide +kernel) rfl ?_
  refine aw_iconst C (i0 := 1) (v := 1) (by decide) (by decide +kernel) rfl ?_
  refine aw_icmp_ne C (tgt := 13) (off := 7) (by decide +kernel) (by decide) rfl (fun c1 => ?_) (fun c1 => ?_)
  · have hf := ift c1 hf
    refine aw_iconst C (i0 := 1) (v := 1) (by decide) (by decide +kernel) rfl ?_
    refine aw_goto C (tgt := 14) (off := 4) (by decide +kernel) (by decide) ?_
    exact aw_zretq C CR0 hgr hgs (by decide) hf (by decide +kernel)
  · have hf := iff_ c1 hf
    refine aw_iconst C (i0 := 0) (v := 0) (by decide) (by decide +kernel) rfl ?_
    exact aw_zretq C CR0 hgr hgs (by decide) hf (by decide +kernel)
theorem c_m_has {lay : Ly} (E : LAin lay) (v0 : Int32) (v1 : Int32) (st : Mm) (q : Int32 × Mm) (hf : f_m_has v0 v1 st = some q) : Con 0 Y155 prog_14_method_4_code 2 (Option.some FieldType.boolean) lay (fun ad => [.int v0, .int v1]) st (some (.int q.1)) q.2 :=
  am_met yf_155.2.2.2.2.2 (fun ad => Nat.le_of_ble_eq_true rfl) (fun G C CR0 e1 e2 e3 e4 e5 => t_m_has C CR0 (by rw [e1]; exact E) e2 (Nat.le_of_eq e5.symm) e3 e4 v0 v1 st hf)
def b_m_placeOf_29 (k29 : Int32 → Int32 → Mm → Option (Int32 × Mm)) (v3 : Int32) (v4 : Int32) (st : Mm) : Option (Int32 × Mm) :=
  if (st.1 58 12) ≤ v4 then (some ((((16 : Int32) * (st.1 58 14)) + (st.1 58 13)), st)) else (if inb v4 9 then (f_m_has v3 v4 st).bind (fun q3 => (f_m_comesBy (st.1 63 v4.toNatClampNeg) q3.1 q3.2).bind (fun q4 => if q4.1 = 0 then (some ((-1 : Int32), q4.2)) else (lt_ (v4 + (1 : Int32)) (fun a6 => k29 v3 a6 q4.2)))) else none)
def f_m_placeOf_29 : Nat → Int32 → Int32 → Mm → Option (Int32 × Mm)
  | 0 => fun _ _ _ => none
  | n + 1 => b_m_placeOf_29 (f_m_placeOf_29 n)
def f_m_placeOf (v1 : Int32) (v2 : Int32) (v3 : Int32) (st : Mm) : Option (Int32 × Mm) :=
  lt_ ((sI (sI st 58 13 v1) 58 14 v2).1 58 0) (fun a1 => lt_ ((sI (sI (sI st 58 13 v1) 58 14 v2) 58 15 a1).1 58 0) (fun a2 => f_m_placeOf_29 1000000 v3 (0 : Int32) (sI (sI (sI (sI st 58 13 v1) 58 14 v2) 58 15 a1) 58 16 a2)))
theorem t_m_placeOf_29 {G : Cx} (C : CX G prog_14_method_14_code "PaperStarsModel") (CR0 : CR G (Option.some FieldType.int)) (E : LAin (gly G)) (hnL : gnL G = 5) (hgd : 1 ≤ gd G) {q : Int32 × Mm} (hgr : gr G = some (.int q.1)) (hgs : gsf G = q.2) (k29 : Int32 → Int32 → Mm → Option (Int32 × Mm)) (hk29 : ∀ (v3 : Int32) (v4 : Int32) (st : Mm), k29 v3 v4 st = some q → AW G st 29 [(0, .ref (gad G 58)), (3, .int v3), (4, .int v4)] []) (v3 : Int32) (v4 : Int32) (st : Mm) (hf : b_m_placeOf_29 k29 v3 v4 st = some q) : AW G st 29 [(0, .ref (gad G 58)), (3, .int v3), (4, .int v4)] [] := by
  unfold b_m_placeOf_29 at hf
  refine aw_iload C 4 2 rfl (by decide +kernel) rfl ?_
  refine aw_aload_n C 0 0 (j := 0) rfl rfl (by decide +kernel) rfl ?_
  refine aw_get C (k := 12) fc_12 (la_58 E) rfl (by decide) tb_954 (by decide +kernel) rfl ?_
  refine aw_icmp_ge C (tgt := 66) (off := 31) (by decide +kernel) (by decide) rfl (fun c1 => ?_) (fun c1 => ?_)
  · have hf := ift c1 hf
    refine aw_bipush C (i0 := 16) (v := 16) (by decide) (by decide +kernel) rfl ?_
    refine aw_aload_n C 0 0 (j := 0) rfl rfl (by decide +kernel) rfl ?_
    refine aw_get C (k := 14) fc_12 (la_58 E) rfl (by decide) tb_956 (by decide +kernel) rfl ?_
    refine aw_imul C (by decide +kernel) rfl ?_
    refine aw_aload_n C 0 0 (j := 0) rfl rfl (by decide +kernel) rfl ?_
    refine aw_get C (k := 13) fc_12 (la_58 E) rfl (by decide) tb_955 (by decide +kernel) rfl ?_
    refine aw_iadd C (by decide +kernel) rfl ?_
    exact aw_iretq C CR0 hgr hgs hf (by decide +kernel)
  · have hf := iff_ c1 hf
    refine aw_aload_n C 0 0 (j := 0) rfl rfl (by decide +kernel) rfl ?_
    refine aw_aload_n C 0 0 (j := 0) rfl rfl (by decide +kernel) rfl ?_
    refine aw_getr C (k := 11) fc_12 (la_58 E) rfl (by decide) tb_953 (by decide +kernel) rfl ?_
    refine aw_iload C 4 2 rfl (by decide +kernel) rfl ?_
    obtain ⟨g2, hf⟩ := igd hf
    refine aw_iald C (la_63 E) g2 (by decide +kernel) rfl ?_
    refine aw_iload_n C 3 1 (j := 3) rfl rfl (by decide +kernel) rfl ?_
    refine aw_iload C 4 2 rfl (by decide +kernel) rfl ?_
    obtain ⟨q3, hq3, hf⟩ := ibd hf
    refine aw_callS C (rest := [.int (st.1 63 v4.toNatClampNeg), .ref (gad G 58)]) (c_m_has E v3 v4 _ q3 hq3) tb_1195 yf_155 tb_1196 rfl _ rfl (Nat.le_trans (by decide) hgd) (Nat.le_of_ble_eq_true rfl) (by decide +kernel) rfl ?_
    show AW _ _ _ _ [.int q3.1, .int (st.1 63 v4.toNatClampNeg), .ref (gad G 58)]
    obtain ⟨q4, hq4, hf⟩ := ibd hf
    refine aw_callV C (rest := []) (c_m_comesBy E (st.1 63 v4.toNatClampNeg) q3.1 _ q4 hq4) tb_1198 yf_156 yi_156 (la_58 E) [.int (st.1 63 v4.toNatClampNeg), .int q3.1] rfl rfl _ rfl (Nat.le_trans (by decide) hgd) (Nat.le_of_ble_eq_true rfl) (by decide +kernel) rfl ?_
    show AW _ _ _ _ [.int q4.1]
    refine aw_if_ne C (tgt := 60) (off := 5) (by decide +kernel) (by decide) rfl (fun c5 => ?_) (fun c5 => ?_)
    · have hf := ift c5 hf
      refine aw_iconst C (i0 := -1) (v := -1) (by decide) (by decide +kernel) rfl ?_
      exact aw_iretq C CR0 hgr hgs hf (by decide +kernel)
    · have hf := iff_ c5 hf
      obtain ⟨a6, ha6⟩ : ∃ z, z = (v4 + (1 : Int32)) := ⟨_, rfl⟩
      have hf := ilt ha6 hf
      refine aw_iinc C [(4, .int a6), (0, .ref (gad G 58)), (3, .int v3)] 2 (n := 1) rfl (by rw [ha6]; rfl) (by rw [hnL]; decide) rfl (by decide +kernel) rfl ?_
      refine aw_goto C (tgt := 29) (off := -34) (by decide +kernel) (by decide) ?_
      refine aw_sub [(0, .ref (gad G 58)), (3, .int v3), (4, .int a6)] [1, 2, 0] rfl ?_
      exact hk29 v3 a6 _ hf
theorem u_m_placeOf_29 {G : Cx} (C : CX G prog_14_method_14_code "PaperStarsModel") (CR0 : CR G (Option.some FieldType.int)) (E : LAin (gly G)) (hnL : gnL G = 5) (hgd : 1 ≤ gd G) {q : Int32 × Mm} (hgr : gr G = some (.int q.1)) (hgs : gsf G = q.2) : ∀ (n : Nat) (v3 : Int32) (v4 : Int32) (st : Mm), f_m_placeOf_29 n v3 v4 st = some q → AW G st 29 [(0, .ref (gad G 58)), (3, .int v3), (4, .int v4)] [] := by
  intro n
  induction n with
  | zero => intro v3 v4 st hf; cases hf
  | succ n ih => intro v3 v4 st hf; exact t_m_placeOf_29 C CR0 E hnL hgd hgr hgs (f_m_placeOf_29 n) ih v3 v4 st hf
theorem t_m_placeOf {G : Cx} (C : CX G prog_14_method_14_code "PaperStarsModel") (CR0 : CR G (Option.some FieldType.int)) (E : LAin (gly G)) (hnL : gnL G = 5) (hgd : 1 ≤ gd G) {q : Int32 × Mm} (hgr : gr G = some (.int q.1)) (hgs : gsf G = q.2) (v1 : Int32) (v2 : Int32) (v3 : Int32) (st : Mm) (hf : f_m_placeOf v1 v2 v3 st = some q) : AW G st 0 [(0, .ref (gad G 58)), (1, .int v1), (2, .int v2), (3, .int v3)] [] := by
  unfold f_m_placeOf at hf
  refine aw_aload_n C 0 0 (j := 0) rfl rfl (by decide +kernel) rfl ?_
  refine aw_iload_n C 1 1 (j := 1) rfl rfl (by decide +kernel) rfl ?_
  refine aw_put C (k := 13) fc_12 (la_58 E) rfl (by decide) rfl rfl tb_955 (by decide +kernel) rfl ?_
  refine aw_aload_n C 0 0 (j := 0) rfl rfl (by decide +kernel) rfl ?_
  refine aw_iload_n C 2 2 (j := 2) rfl rfl (by decide +kernel) rfl ?_
  refine aw_put C (k := 14) fc_12 (la_58 E) rfl (by decide) rfl rfl tb_956 (by decide +kernel) rfl ?_
  refine aw_aload_n C 0 0 (j := 0) rfl rfl (by decide +kernel) rfl ?_
  refine aw_aload_n C 0 0 (j := 0) rfl rfl (by decide +kernel) rfl ?_
  refine aw_get C (k := 0) fc_12 (la_58 E) rfl (by decide) tb_942 (by decide +kernel) rfl ?_
  obtain ⟨a1, ha1⟩ : ∃ z, z = ((sI (sI st 58 13 v1) 58 14 v2).1 58 0) := ⟨_, rfl⟩
  refine aw_nmi ha1 ?_
  have hf := ilt ha1 hf
  refine aw_put C (k := 15) fc_12 (la_58 E) rfl (by decide) rfl rfl tb_957 (by decide +kernel) rfl ?_
  refine aw_aload_n C 0 0 (j := 0) rfl rfl (by decide +kernel) rfl ?_
  refine aw_aload_n C 0 0 (j := 0) rfl rfl (by decide +kernel) rfl ?_
  refine aw_get C (k := 0) fc_12 (la_58 E) rfl (by decide) tb_942 (by decide +kernel) rfl ?_
  obtain ⟨a2, ha2⟩ : ∃ z, z = ((sI (sI (sI st 58 13 v1) 58 14 v2) 58 15 a1).1 58 0) := ⟨_, rfl⟩
  refine aw_nmi ha2 ?_
  have hf := ilt ha2 hf
  refine aw_put C (k := 16) fc_12 (la_58 E) rfl (by decide) rfl rfl tb_958 (by decide +kernel) rfl ?_
  refine aw_iconst C (i0 := 0) (v := 0) (by decide) (by decide +kernel) rfl ?_
  refine aw_istore C [(4, .int (0 : Int32)), (0, .ref (gad G 58)), (1, .int v1), (2, .int v2), (3, .int v3)] (by rw [hnL]; decide) rfl (by decide +kernel) rfl ?_
  refine aw_sub [(0, .ref (gad G 58)), (3, .int v3), (4, .int (0 : Int32))] [1, 4, 0] rfl ?_
  exact u_m_placeOf_29 C CR0 E hnL hgd hgr hgs _ v3 (0 : Int32) _ hf
theorem c_m_placeOf {lay : Ly} (E : LAin lay) (v1 : Int32) (v2 : Int32) (v3 : Int32) (st : Mm) (q : Int32 × Mm) (hf : f_m_placeOf v1 v2 v3 st = some q) : Con 1 Y154 prog_14_method_14_code 5 (Option.some FieldType.int) lay (fun ad => [.ref (ad 58), .int v1, .int v2, .int v3]) st (some (.int q.1)) q.2 :=
  am_met yf_154.2.2.2.2.2 (fun ad => Nat.le_of_ble_eq_true rfl) (fun G C CR0 e1 e2 e3 e4 e5 => t_m_placeOf C CR0 (by rw [e1]; exact E) e2 (Nat.le_of_eq e5.symm) e3 e4 v1 v2 v3 st hf)
def b_m_laysLayers_74 (k24 : Int32 → Mm → Option (Unit × Mm)) (v1 : Int32) (st : Mm) : Option (Unit × Mm) :=
  lt_ (v1 + (1 : Int32)) (fun a1 => k24 a1 st)
def b_m_laysLayers_34 (k24 : Int32 → Mm → Option (Unit × Mm)) (k34 : Int32 → Int32 → Mm → Option (Unit × Mm)) (v1 : Int32) (v2 : Int32) (st : Mm) : Option (Unit × Mm) :=
  if (st.1 58 0) ≤ v2 then (b_m_laysLayers_74 k24 v1 st) else ((f_m_placeOf v2 v1 (0 : Int32) st).bind (fun q2 => (f_m_placeOf v2 v1 (0 : Int32) q2.2).bind (fun q3 => if inb q3.1 256 then lt_ ((q3.2.1 64 q3.1.toNatClampNeg) + (1 : Int32)) (fun a5 => if inb q2.1 256 then lt_ (v2 + (1 : Int32)) (fun a7 => k34 v1 a7 (sI q3.2 64 q2.1.toNatClampNeg a5)) else none) else none)))
def f_m_laysLayers_34 (k24 : Int32 → Mm → Option (Unit × Mm)) : Nat → Int32 → Int32 → Mm → Option (Unit × Mm)
  | 0 => fun _ _ _ => none
  | n + 1 => b_m_laysLayers_34 k24 (f_m_laysLayers_34 k24 n)
def b_m_laysLayers_24 (k24 : Int32 → Mm → Option (Unit × Mm)) (v1 : Int32) (st : Mm) : Option (Unit × Mm) :=
  if (st.1 58 0) ≤ v1 then (some ((), st)) else (f_m_laysLayers_34 k24 1000000 v1 (0 : Int32) st)
def f_m_laysLayers_24 : Nat → Int32 → Mm → Option (Unit × Mm)
  | 0 => fun _ _ => none
  | n + 1 => b_m_laysLayers_24 (f_m_laysLayers_24 n)
def b_m_laysLayers_22 (st : Mm) : Option (Unit × Mm) :=
  f_m_laysLayers_24 1000000 (0 : Int32) st
def b_m_laysLayers_2 (k2 : Int32 → Mm → Option (Unit × Mm)) (v1 : Int32) (st : Mm) : Option (Unit × Mm) :=
  if (256 : Int32) ≤ v1 then (b_m_laysLayers_22 st) else (if inb v1 256 then lt_ (v1 + (1 : Int32)) (fun a3 => k2 a3 (sI st 64 v1.toNatClampNeg (0 : Int32))) else none)
def f_m_laysLayers_2 : Nat → Int32 → Mm → Option (Unit × Mm)
  | 0 => fun _ _ => none
  | n + 1 => b_m_laysLayers_2 (f_m_laysLayers_2 n)
def f_m_laysLayers (st : Mm) : Option (Unit × Mm) :=
  f_m_laysLayers_2 1000000 (0 : Int32) st
theorem t_m_laysLayers_74 {G : Cx} (C : CX G prog_14_method_16_code "PaperStarsModel") (CR0 : CR G (Option.none)) (E : LAin (gly G)) (hnL : gnL G = 3) (hgd : 2 ≤ gd G) {q : Unit × Mm} (hgr : gr G = none) (hgs : gsf G = q.2) (k24 : Int32 → Mm → Option (Unit × Mm)) (hk24 : ∀ (v1 : Int32) (st : Mm), k24 v1 st = some q → AW G st 24 [(0, .ref (gad G 58)), (1, .int v1)] []) (v1 : Int32) (st : Mm) (hf : b_m_laysLayers_74 k24 v1 st = some q) : AW G st 74 [(0, .ref (gad G 58)), (1, .int v1)] [] := by
  unfold b_m_laysLayers_74 at hf
  obtain ⟨a1, ha1⟩ : ∃ z, z = (v1 + (1 : Int32)) := ⟨_, rfl⟩
  have hf := ilt ha1 hf
  refine aw_iinc C [(1, .int a1), (0, .ref (gad G 58))] 1 (n := 1) rfl (by rw [ha1]; rfl) (by rw [hnL]; decide) rfl (by decide +kernel) rfl ?_
  refine aw_goto C (tgt := 24) (off := -53) (by decide +kernel) (by decide) ?_
  refine aw_sub [(0, .ref (gad G 58)), (1, .int a1)] [1, 0] rfl ?_
  exact hk24 a1 _ hf
theorem t_m_laysLayers_34 {G : Cx} (C : CX G prog_14_method_16_code "PaperStarsModel") (CR0 : CR G (Option.none)) (E : LAin (gly G)) (hnL : gnL G = 3) (hgd : 2 ≤ gd G) {q : Unit × Mm} (hgr : gr G = none) (hgs : gsf G = q.2) (k24 : Int32 → Mm → Option (Unit × Mm)) (k34 : Int32 → Int32 → Mm → Option (Unit × Mm)) (hk24 : ∀ (v1 : Int32) (st : Mm), k24 v1 st = some q → AW G st 24 [(0, .ref (gad G 58)), (1, .int v1)] []) (hk34 : ∀ (v1 : Int32) (v2 : Int32) (st : Mm), k34 v1 v2 st = some q → AW G st 34 [(0, .ref (gad G 58)), (1, .int v1), (2, .int v2)] []) (v1 : Int32) (v2 : Int32) (st : Mm) (hf : b_m_laysLayers_34 k24 k34 v1 v2 st = some q) : AW G st 34 [(0, .ref (gad G 58)), (1, .int v1), (2, .int v2)] [] := by
  unfold b_m_laysLayers_34 at hf
  refine aw_iload_n C 2 2 (j := 2) rfl rfl (by decide +kernel) rfl ?_
  refine aw_aload_n C 0 0 (j := 0) rfl rfl (by decide +kernel) rfl ?_
  refine aw_get C (k := 0) fc_12 (la_58 E) rfl (by decide) tb_942 (by decide +kernel) rfl ?_
  refine aw_icmp_ge C (tgt := 74) (off := 35) (by decide +kernel) (by decide) rfl (fun c1 => ?_) (fun c1 => ?_)
  · have hf := ift c1 hf
    refine aw_sub [(0, .ref (gad G 58)), (1, .int v1)] [0, 1] rfl ?_
    exact t_m_laysLayers_74 C CR0 E hnL hgd hgr hgs k24 hk24 v1 _ hf
  · have hf := iff_ c1 hf
    refine aw_aload_n C 0 0 (j := 0) rfl rfl (by decide +kernel) rfl ?_
    refine aw_getr C (k := 17) fc_12 (la_58 E) rfl (by decide) tb_959 (by decide +kernel) rfl ?_
    refine aw_aload_n C 0 0 (j := 0) rfl rfl (by decide +kernel) rfl ?_
    refine aw_iload_n C 2 2 (j := 2) rfl rfl (by decide +kernel) rfl ?_
    refine aw_iload_n C 1 1 (j := 1) rfl rfl (by decide +kernel) rfl ?_
    refine aw_iconst C (i0 := 0) (v := 0) (by decide) (by decide +kernel) rfl ?_
    obtain ⟨q2, hq2, hf⟩ := ibd hf
    refine aw_callV C (rest := [.ref (gad G 64)]) (c_m_placeOf E v2 v1 (0 : Int32) _ q2 hq2) tb_1191 yf_154 yi_154 (la_58 E) [.int v2, .int v1, .int (0 : Int32)] rfl rfl _ rfl (Nat.le_trans (by decide) hgd) (Nat.le_of_ble_eq_true rfl) (by decide +kernel) rfl ?_
    show AW _ _ _ _ [.int q2.1, .ref (gad G 64)]
    refine aw_aload_n C 0 0 (j := 0) rfl rfl (by decide +kernel) rfl ?_
    refine aw_getr C (k := 17) fc_12 (la_58 E) rfl (by decide) tb_959 (by decide +kernel) rfl ?_
    refine aw_aload_n C 0 0 (j := 0) rfl rfl (by decide +kernel) rfl ?_
    refine aw_iload_n C 2 2 (j := 2) rfl rfl (by decide +kernel) rfl ?_
    refine aw_iload_n C 1 1 (j := 1) rfl rfl (by decide +kernel) rfl ?_
    refine aw_iconst C (i0 := 0) (v := 0) (by decide) (by decide +kernel) rfl ?_
    obtain ⟨q3, hq3, hf⟩ := ibd hf
    refine aw_callV C (rest := [.ref (gad G 64), .int q2.1, .ref (gad G 64)]) (c_m_placeOf E v2 v1 (0 : Int32) _ q3 hq3) tb_1191 yf_154 yi_154 (la_58 E) [.int v2, .int v1, .int (0 : Int32)] rfl rfl _ rfl (Nat.le_trans (by decide) hgd) (Nat.le_of_ble_eq_true rfl) (by decide +kernel) rfl ?_
    show AW _ _ _ _ [.int q3.1, .ref (gad G 64), .int q2.1, .ref (gad G 64)]
    obtain ⟨g4, hf⟩ := igd hf
    refine aw_iald C (la_64 E) g4 (by decide +kernel) rfl ?_
    refine aw_iconst C (i0 := 1) (v := 1) (by decide) (by decide +kernel) rfl ?_
    refine aw_iadd C (by decide +kernel) rfl ?_
    obtain ⟨a5, ha5⟩ : ∃ z, z = ((q3.2.1 64 q3.1.toNatClampNeg) + (1 : Int32)) := ⟨_, rfl⟩
    refine aw_nmi ha5 ?_
    have hf := ilt ha5 hf
    obtain ⟨g6, hf⟩ := igd hf
    refine aw_iast C (la_64 E) g6 (by decide +kernel) rfl ?_
    obtain ⟨a7, ha7⟩ : ∃ z, z = (v2 + (1 : Int32)) := ⟨_, rfl⟩
    have hf := ilt ha7 hf
    refine aw_iinc C [(2, .int a7), (0, .ref (gad G 58)), (1, .int v1)] 2 (n := 1) rfl (by rw [ha7]; rfl) (by rw [hnL]; decide) rfl (by decide +kernel) rfl ?_
    refine aw_goto C (tgt := 34) (off := -37) (by decide +kernel) (by decide) ?_
    refine aw_sub [(0, .ref (gad G 58)), (1, .int v1), (2, .int a7)] [1, 2, 0] rfl ?_
    exact hk34 v1 a7 _ hf
theorem u_m_laysLayers_34 {G : Cx} (C : CX G prog_14_method_16_code "PaperStarsModel") (CR0 : CR G (Option.none)) (E : LAin (gly G)) (hnL : gnL G = 3) (hgd : 2 ≤ gd G) {q : Unit × Mm} (hgr : gr G = none) (hgs : gsf G = q.2) (k24 : Int32 → Mm → Option (Unit × Mm)) (hk24 : ∀ (v1 : Int32) (st : Mm), k24 v1 st = some q → AW G st 24 [(0, .ref (gad G 58)), (1, .int v1)] []) : ∀ (n : Nat) (v1 : Int32) (v2 : Int32) (st : Mm), f_m_laysLayers_34 k24 n v1 v2 st = some q → AW G st 34 [(0, .ref (gad G 58)), (1, .int v1), (2, .int v2)] [] := by
  intro n
  induction n with
  | zero => intro v1 v2 st hf; cases hf
  | succ n ih => intro v1 v2 st hf; exact t_m_laysLayers_34 C CR0 E hnL hgd hgr hgs k24 (f_m_laysLayers_34 k24 n) hk24 ih v1 v2 st hf
theorem t_m_laysLayers_24 {G : Cx} (C : CX G prog_14_method_16_code "PaperStarsModel") (CR0 : CR G (Option.none)) (E : LAin (gly G)) (hnL : gnL G = 3) (hgd : 2 ≤ gd G) {q : Unit × Mm} (hgr : gr G = none) (hgs : gsf G = q.2) (k24 : Int32 → Mm → Option (Unit × Mm)) (hk24 : ∀ (v1 : Int32) (st : Mm), k24 v1 st = some q → AW G st 24 [(0, .ref (gad G 58)), (1, .int v1)] []) (v1 : Int32) (st : Mm) (hf : b_m_laysLayers_24 k24 v1 st = some q) : AW G st 24 [(0, .ref (gad G 58)), (1, .int v1)] [] := by
  unfold b_m_laysLayers_24 at hf
  refine aw_iload_n C 1 1 (j := 1) rfl rfl (by decide +kernel) rfl ?_
  refine aw_aload_n C 0 0 (j := 0) rfl rfl (by decide +kernel) rfl ?_
  refine aw_get C (k := 0) fc_12 (la_58 E) rfl (by decide) tb_942 (by decide +kernel) rfl ?_
  refine aw_icmp_ge C (tgt := 80) (off := 51) (by decide +kernel) (by decide) rfl (fun c1 => ?_) (fun c1 => ?_)
  · have hf := ift c1 hf
    exact aw_vretq C CR0 hgr hgs hf (by decide +kernel)
  · have hf := iff_ c1 hf
    refine aw_iconst C (i0 := 0) (v := 0) (by decide) (by decide +kernel) rfl ?_
    refine aw_istore_n C [(2, .int (0 : Int32)), (0, .ref (gad G 58)), (1, .int v1)] (j := 2) rfl (by rw [hnL]; decide) rfl (by decide +kernel) rfl ?_
    refine aw_sub [(0, .ref (gad G 58)), (1, .int v1), (2, .int (0 : Int32))] [1, 2, 0] rfl ?_
    exact u_m_laysLayers_34 C CR0 E hnL hgd hgr hgs k24 hk24 _ v1 (0 : Int32) _ hf
theorem u_m_laysLayers_24 {G : Cx} (C : CX G prog_14_method_16_code "PaperStarsModel") (CR0 : CR G (Option.none)) (E : LAin (gly G)) (hnL : gnL G = 3) (hgd : 2 ≤ gd G) {q : Unit × Mm} (hgr : gr G = none) (hgs : gsf G = q.2) : ∀ (n : Nat) (v1 : Int32) (st : Mm), f_m_laysLayers_24 n v1 st = some q → AW G st 24 [(0, .ref (gad G 58)), (1, .int v1)] [] := by
  intro n
  induction n with
  | zero => intro v1 st hf; cases hf
  | succ n ih => intro v1 st hf; exact t_m_laysLayers_24 C CR0 E hnL hgd hgr hgs (f_m_laysLayers_24 n) ih v1 st hf
theorem t_m_laysLayers_22 {G : Cx} (C : CX G prog_14_method_16_code "PaperStarsModel") (CR0 : CR G (Option.none)) (E : LAin (gly G)) (hnL : gnL G = 3) (hgd : 2 ≤ gd G) {q : Unit × Mm} (hgr : gr G = none) (hgs : gsf G = q.2) (st : Mm) (hf : b_m_laysLayers_22 st = some q) : AW G st 22 [(0, .ref (gad G 58))] [] := by
  unfold b_m_laysLayers_22 at hf
  refine aw_iconst C (i0 := 0) (v := 0) (by decide) (by decide +kernel) rfl ?_
  refine aw_istore_n C [(1, .int (0 : Int32)), (0, .ref (gad G 58))] (j := 1) rfl (by rw [hnL]; decide) rfl (by decide +kernel) rfl ?_
  refine aw_sub [(0, .ref (gad G 58)), (1, .int (0 : Int32))] [1, 0] rfl ?_
  exact u_m_laysLayers_24 C CR0 E hnL hgd hgr hgs _ (0 : Int32) _ hf
theorem t_m_laysLayers_2 {G : Cx} (C : CX G prog_14_method_16_code "PaperStarsModel") (CR0 : CR G (Option.none)) (E : LAin (gly G)) (hnL : gnL G = 3) (hgd : 2 ≤ gd G) {q : Unit × Mm} (hgr : gr G = none) (hgs : gsf G = q.2) (k2 : Int32 → Mm → Option (Unit × Mm)) (hk2 : ∀ (v1 : Int32) (st : Mm), k2 v1 st = some q → AW G st 2 [(0, .ref (gad G 58)), (1, .int v1)] []) (v1 : Int32) (st : Mm) (hf : b_m_laysLayers_2 k2 v1 st = some q) : AW G st 2 [(0, .ref (gad G 58)), (1, .int v1)] [] := by
  unfold b_m_laysLayers_2 at hf
  refine aw_iload_n C 1 1 (j := 1) rfl rfl (by decide +kernel) rfl ?_
  refine aw_sipush C (i0 := 256) (v := 256) (by decide) (by decide +kernel) rfl ?_
  refine aw_icmp_ge C (tgt := 22) (off := 16) (by decide +kernel) (by decide) rfl (fun c1 => ?_) (fun c1 => ?_)
  · have hf := ift c1 hf
    refine aw_sub [(0, .ref (gad G 58))] [0] rfl ?_
    exact t_m_laysLayers_22 C CR0 E hnL hgd hgr hgs _ hf
  · have hf := iff_ c1 hf
    refine aw_aload_n C 0 0 (j := 0) rfl rfl (by decide +kernel) rfl ?_
    refine aw_getr C (k := 17) fc_12 (la_58 E) rfl (by decide) tb_959 (by decide +kernel) rfl ?_
    refine aw_iload_n C 1 1 (j := 1) rfl rfl (by decide +kernel) rfl ?_
    refine aw_iconst C (i0 := 0) (v := 0) (by decide) (by decide +kernel) rfl ?_
    obtain ⟨g2, hf⟩ := igd hf
    refine aw_iast C (la_64 E) g2 (by decide +kernel) rfl ?_
    obtain ⟨a3, ha3⟩ : ∃ z, z = (v1 + (1 : Int32)) := ⟨_, rfl⟩
    have hf := ilt ha3 hf
    refine aw_iinc C [(1, .int a3), (0, .ref (gad G 58))] 1 (n := 1) rfl (by rw [ha3]; rfl) (by rw [hnL]; decide) rfl (by decide +kernel) rfl ?_
    refine aw_goto C (tgt := 2) (off := -17) (by decide +kernel) (by decide) ?_
    refine aw_sub [(0, .ref (gad G 58)), (1, .int a3)] [1, 0] rfl ?_
    exact hk2 a3 _ hf
theorem u_m_laysLayers_2 {G : Cx} (C : CX G prog_14_method_16_code "PaperStarsModel") (CR0 : CR G (Option.none)) (E : LAin (gly G)) (hnL : gnL G = 3) (hgd : 2 ≤ gd G) {q : Unit × Mm} (hgr : gr G = none) (hgs : gsf G = q.2) : ∀ (n : Nat) (v1 : Int32) (st : Mm), f_m_laysLayers_2 n v1 st = some q → AW G st 2 [(0, .ref (gad G 58)), (1, .int v1)] [] := by
  intro n
  induction n with
  | zero => intro v1 st hf; cases hf
  | succ n ih => intro v1 st hf; exact t_m_laysLayers_2 C CR0 E hnL hgd hgr hgs (f_m_laysLayers_2 n) ih v1 st hf
theorem t_m_laysLayers {G : Cx} (C : CX G prog_14_method_16_code "PaperStarsModel") (CR0 : CR G (Option.none)) (E : LAin (gly G)) (hnL : gnL G = 3) (hgd : 2 ≤ gd G) {q : Unit × Mm} (hgr : gr G = none) (hgs : gsf G = q.2) (st : Mm) (hf : f_m_laysLayers st = some q) : AW G st 0 [(0, .ref (gad G 58))] [] := by
  unfold f_m_laysLayers at hf
  refine aw_iconst C (i0 := 0) (v := 0) (by decide) (by decide +kernel) rfl ?_
  refine aw_istore_n C [(1, .int (0 : Int32)), (0, .ref (gad G 58))] (j := 1) rfl (by rw [hnL]; decide) rfl (by decide +kernel) rfl ?_
  refine aw_sub [(0, .ref (gad G 58)), (1, .int (0 : Int32))] [1, 0] rfl ?_
  exact u_m_laysLayers_2 C CR0 E hnL hgd hgr hgs _ (0 : Int32) _ hf
theorem c_m_laysLayers {lay : Ly} (E : LAin lay) (st : Mm) (q : Unit × Mm) (hf : f_m_laysLayers st = some q) : Con 2 Y153 prog_14_method_16_code 3 (Option.none) lay (fun ad => [.ref (ad 58)]) st (none) q.2 :=
  am_met yf_153.2.2.2.2.2 (fun ad => Nat.le_of_ble_eq_true rfl) (fun G C CR0 e1 e2 e3 e4 e5 => t_m_laysLayers C CR0 (by rw [e1]; exact E) e2 (Nat.le_of_eq e5.symm) e3 e4 st hf)
def f_m_foldsOnce (v1 : Int32) (st : Mm) : Option (Int32 × Mm) :=
  if (st.1 58 10) = 0 then (if v1 = (104 : Int32) then (if ((st.1 58 8) - (st.1 58 8) / (2 : Int32) * (2 : Int32)) = (1 : Int32) then (some ((0 : Int32), st)) else (lt_ ((st.1 58 8) / (2 : Int32)) (fun a4 => some ((1 : Int32), (sI st 58 8 a4))))) else (if v1 = (118 : Int32) then (if ((st.1 58 9) - (st.1 58 9) / (2 : Int32) * (2 : Int32)) = (1 : Int32) then (some ((0 : Int32), st)) else (lt_ ((st.1 58 9) / (2 : Int32)) (fun a7 => some ((1 : Int32), (sI st 58 9 a7))))) else (if (st.1 58 8) = (st.1 58 9) then (if (2 : Int32) ≤ (st.1 58 8) then (some ((1 : Int32), (sI st 58 10 (1 : Int32)))) else (some ((0 : Int32), st))) else (some ((0 : Int32), st))))) else (some ((0 : Int32), st))
theorem t_m_foldsOnce {G : Cx} (C : CX G prog_14_method_10_code "PaperStarsModel") (CR0 : CR G (Option.some FieldType.boolean)) (E : LAin (gly G)) (hnL : gnL G = 2) (hgd : 0 ≤ gd G) {q : Int32 × Mm} (hgr : gr G = some (.int q.1)) (hgs : gsf G = q.2) (v1 : Int32) (st : Mm) (hf : f_m_foldsOnce v1 st = some q) : AW G st 0 [(0, .ref (gad G 58)), (1, .int v1)] [] := by
  unfold f_m_foldsOnce at hf
  refine aw_aload_n C 0 0 (j := 0) rfl rfl (by decide +kernel) rfl ?_
  refine aw_get C (k := 10) fc_12 (la_58 E) rfl (by decide) tb_952 (by decide +kernel) rfl ?_
  refine aw_if_eq C (tgt := 9) (off := 5) (by decide +kernel) (by decide) rfl (fun c1 => ?_) (fun c1 => ?_)
  · have hf := ift c1 hf
    refine aw_iload_n C 1 1 (j := 1) rfl rfl (by decide +kernel) rfl ?_
    refine aw_bipush C (i0 := 104) (v := 104) (by decide) (by decide +kernel) rfl ?_
    refine aw_icmp_ne C (tgt := 40) (off := 28) (by decide +kernel) (by decide) rfl (fun c2 => ?_) (fun c2 => ?_)
    · have hf := ift c2 hf
      refine aw_aload_n C 0 0 (j := 0) rfl rfl (by decide +kernel) rfl ?_
      refine aw_get C (k := 8) fc_12 (la_58 E) rfl (by decide) tb_950 (by decide +kernel) rfl ?_
      refine aw_iconst C (i0 := 2) (v := 2) (by decide) (by decide +kernel) rfl ?_
      refine aw_irem C (by decide) (by decide +kernel) rfl ?_
      refine aw_iconst C (i0 := 1) (v := 1) (by decide) (by decide +kernel) rfl ?_
      refine aw_icmp_ne C (tgt := 27) (off := 5) (by decide +kernel) (by decide) rfl (fun c3 => ?_) (fun c3 => ?_)
      · have hf := ift c3 hf
        refine aw_iconst C (i0 := 0) (v := 0) (by decide) (by decide +kernel) rfl ?_
        exact aw_zretq C CR0 hgr hgs (by decide) hf (by decide +kernel)
      · have hf := iff_ c3 hf
        refine aw_aload_n C 0 0 (j := 0) rfl rfl (by decide +kernel) rfl ?_
        refine aw_aload_n C 0 0 (j := 0) rfl rfl (by decide +kernel) rfl ?_
        refine aw_get C (k := 8) fc_12 (la_58 E) rfl (by decide) tb_950 (by decide +kernel) rfl ?_
        refine aw_iconst C (i0 := 2) (v := 2) (by decide) (by decide +kernel) rfl ?_
        refine aw_idiv C (by decide) (by decide +kernel) rfl ?_
        obtain ⟨a4, ha4⟩ : ∃ z, z = ((st.1 58 8) / (2 : Int32)) := ⟨_, rfl⟩
        refine aw_nmi ha4 ?_
        have hf := ilt ha4 hf
        refine aw_put C (k := 8) fc_12 (la_58 E) rfl (by decide) rfl rfl tb_950 (by decide +kernel) rfl ?_
        refine aw_goto C (tgt := 97) (off := 60) (by decide +kernel) (by decide) ?_
        refine aw_iconst C (i0 := 1) (v := 1) (by decide) (by decide +kernel) rfl ?_
        exact aw_zretq C CR0 hgr hgs (by decide) hf (by decide +kernel)
    · have hf := iff_ c2 hf
      refine aw_iload_n C 1 1 (j := 1) rfl rfl (by decide +kernel) rfl ?_
      refine aw_bipush C (i0 := 118) (v := 118) (by decide) (by decide +kernel) rfl ?_
      refine aw_icmp_ne C (tgt := 71) (off := 28) (by decide +kernel) (by decide) rfl (fun c5 => ?_) (fun c5 => ?_)
      · have hf := ift c5 hf
        refine aw_aload_n C 0 0 (j := 0) rfl rfl (by decide +kernel) rfl ?_
        refine aw_get C (k := 9) fc_12 (la_58 E) rfl (by decide) tb_951 (by decide +kernel) rfl ?_
        refine aw_iconst C (i0 := 2) (v := 2) (by decide) (by decide +kernel) rfl ?_
        refine aw_irem C (by decide) (by decide +kernel) rfl ?_
        refine aw_iconst C (i0 := 1) (v := 1) (by decide) (by decide +kernel) rfl ?_
        refine aw_icmp_ne C (tgt := 58) (off := 5) (by decide +kernel) (by decide) rfl (fun c6 => ?_) (fun c6 => ?_)
        · have hf := ift c6 hf
          refine aw_iconst C (i0 := 0) (v := 0) (by decide) (by decide +kernel) rfl ?_
          exact aw_zretq C CR0 hgr hgs (by decide) hf (by decide +kernel)
        · have hf := iff_ c6 hf
          refine aw_aload_n C 0 0 (j := 0) rfl rfl (by decide +kernel) rfl ?_
          refine aw_aload_n C 0 0 (j := 0) rfl rfl (by decide +kernel) rfl ?_
          refine aw_get C (k := 9) fc_12 (la_58 E) rfl (by decide) tb_951 (by decide +kernel) rfl ?_
          refine aw_iconst C (i0 := 2) (v := 2) (by decide) (by decide +kernel) rfl ?_
          refine aw_idiv C (by decide) (by decide +kernel) rfl ?_
          obtain ⟨a7, ha7⟩ : ∃ z, z = ((st.1 58 9) / (2 : Int32)) := ⟨_, rfl⟩
          refine aw_nmi ha7 ?_
          have hf := ilt ha7 hf
          refine aw_put C (k := 9) fc_12 (la_58 E) rfl (by decide) rfl rfl tb_951 (by decide +kernel) rfl ?_
          refine aw_goto C (tgt := 97) (off := 29) (by decide +kernel) (by decide) ?_
          refine aw_iconst C (i0 := 1) (v := 1) (by decide) (by decide +kernel) rfl ?_
          exact aw_zretq C CR0 hgr hgs (by decide) hf (by decide +kernel)
      · have hf := iff_ c5 hf
        refine aw_aload_n C 0 0 (j := 0) rfl rfl (by decide +kernel) rfl ?_
        refine aw_get C (k := 8) fc_12 (la_58 E) rfl (by decide) tb_950 (by decide +kernel) rfl ?_
        refine aw_aload_n C 0 0 (j := 0) rfl rfl (by decide +kernel) rfl ?_
        refine aw_get C (k := 9) fc_12 (la_58 E) rfl (by decide) tb_951 (by decide +kernel) rfl ?_
        refine aw_icmp_ne C (tgt := 90) (off := 11) (by decide +kernel) (by decide) rfl (fun c8 => ?_) (fun c8 => ?_)
        · have hf := ift c8 hf
          refine aw_aload_n C 0 0 (j := 0) rfl rfl (by decide +kernel) rfl ?_
          refine aw_get C (k := 8) fc_12 (la_58 E) rfl (by decide) tb_950 (by decide +kernel) rfl ?_
          refine aw_iconst C (i0 := 2) (v := 2) (by decide) (by decide +kernel) rfl ?_
          refine aw_icmp_ge C (tgt := 92) (off := 5) (by decide +kernel) (by decide) rfl (fun c9 => ?_) (fun c9 => ?_)
          · have hf := ift c9 hf
            refine aw_aload_n C 0 0 (j := 0) rfl rfl (by decide +kernel) rfl ?_
            refine aw_iconst C (i0 := 1) (v := 1) (by decide) (by decide +kernel) rfl ?_
            refine aw_putZ C (k := 10) fc_12 (la_58 E) rfl (by decide) rfl rfl (by decide) tb_952 (by decide +kernel) rfl ?_
            refine aw_iconst C (i0 := 1) (v := 1) (by decide) (by decide +kernel) rfl ?_
            exact aw_zretq C CR0 hgr hgs (by decide) hf (by decide +kernel)
          · have hf := iff_ c9 hf
            refine aw_iconst C (i0 := 0) (v := 0) (by decide) (by decide +kernel) rfl ?_
            exact aw_zretq C CR0 hgr hgs (by decide) hf (by decide +kernel)
        · have hf := iff_ c8 hf
          refine aw_iconst C (i0 := 0) (v := 0) (by decide) (by decide +kernel) rfl ?_
          exact aw_zretq C CR0 hgr hgs (by decide) hf (by decide +kernel)
  · have hf := iff_ c1 hf
    refine aw_iconst C (i0 := 0) (v := 0) (by decide) (by decide +kernel) rfl ?_
    exact aw_zretq C CR0 hgr hgs (by decide) hf (by decide +kernel)
theorem c_m_foldsOnce {lay : Ly} (E : LAin lay) (v1 : Int32) (st : Mm) (q : Int32 × Mm) (hf : f_m_foldsOnce v1 st = some q) : Con 0 Y150 prog_14_method_10_code 2 (Option.some FieldType.boolean) lay (fun ad => [.ref (ad 58), .int v1]) st (some (.int q.1)) q.2 :=
  am_met yf_150.2.2.2.2.2 (fun ad => Nat.le_of_ble_eq_true rfl) (fun G C CR0 e1 e2 e3 e4 e5 => t_m_foldsOnce C CR0 (by rw [e1]; exact E) e2 (Nat.le_of_eq e5.symm) e3 e4 v1 st hf)
def f_m_here (st : Mm) : Option (Int32 × Mm) :=
  if (st.1 58 21) ≤ (st.1 58 20) then (some ((-1 : Int32), st)) else (if inb (st.1 58 20) 200 then some (((st.1 65 (st.1 58 20).toNatClampNeg) &&& (255 : Int32)), st) else none)
theorem t_m_here {G : Cx} (C : CX G prog_14_method_19_code "PaperStarsModel") (CR0 : CR G (Option.some FieldType.int)) (E : LAin (gly G)) (hnL : gnL G = 1) (hgd : 0 ≤ gd G) {q : Int32 × Mm} (hgr : gr G = some (.int q.1)) (hgs : gsf G = q.2) (st : Mm) (hf : f_m_here st = some q) : AW G st 0 [(0, .ref (gad G 58))] [] := by
  unfold f_m_here at hf
  refine aw_aload_n C 0 0 (j := 0) rfl rfl (by decide +kernel) rfl ?_
  refine aw_get C (k := 20) fc_12 (la_58 E) rfl (by decide) tb_962 (by decide +kernel) rfl ?_
  refine aw_aload_n C 0 0 (j := 0) rfl rfl (by decide +kernel) rfl ?_
  refine aw_get C (k := 21) fc_12 (la_58 E) rfl (by decide) tb_963 (by decide +kernel) rfl ?_
  refine aw_icmp_ge C (tgt := 27) (off := 19) (by decide +kernel) (by decide) rfl (fun c1 => ?_) (fun c1 => ?_)
  · have hf := ift c1 hf
    refine aw_iconst C (i0 := -1) (v := -1) (by decide) (by decide +kernel) rfl ?_
    exact aw_iretq C CR0 hgr hgs hf (by decide +kernel)
  · have hf := iff_ c1 hf
    refine aw_aload_n C 0 0 (j := 0) rfl rfl (by decide +kernel) rfl ?_
    refine aw_getr C (k := 18) fc_12 (la_58 E) rfl (by decide) tb_960 (by decide +kernel) rfl ?_
    refine aw_aload_n C 0 0 (j := 0) rfl rfl (by decide +kernel) rfl ?_
    refine aw_get C (k := 20) fc_12 (la_58 E) rfl (by decide) tb_962 (by decide +kernel) rfl ?_
    obtain ⟨g2, hf⟩ := igd hf
    refine aw_bald C (la_65 E) g2 (by decide +kernel) rfl ?_
    refine aw_sipush C (i0 := 255) (v := 255) (by decide) (by decide +kernel) rfl ?_
    refine aw_iand C (by decide +kernel) rfl ?_
    refine aw_goto C (tgt := 28) (off := 4) (by decide +kernel) (by decide) ?_
    exact aw_iretq C CR0 hgr hgs hf (by decide +kernel)
theorem c_m_here {lay : Ly} (E : LAin lay) (st : Mm) (q : Int32 × Mm) (hf : f_m_here st = some q) : Con 0 Y149 prog_14_method_19_code 1 (Option.some FieldType.int) lay (fun ad => [.ref (ad 58)]) st (some (.int q.1)) q.2 :=
  am_met yf_149.2.2.2.2.2 (fun ad => Nat.le_of_ble_eq_true rfl) (fun G C CR0 e1 e2 e3 e4 e5 => t_m_here C CR0 (by rw [e1]; exact E) e2 (Nat.le_of_eq e5.symm) e3 e4 st hf)
def f_m_startsWedge (st : Mm) : Option (Unit × Mm) :=
  lt_ (st.1 58 0) (fun a1 => lt_ ((sI st 58 8 a1).1 58 0) (fun a2 => some ((), (sI (sI (sI st 58 8 a1) 58 9 a2) 58 10 (0 : Int32)))))
theorem t_m_startsWedge {G : Cx} (C : CX G prog_14_method_9_code "PaperStarsModel") (CR0 : CR G (Option.none)) (E : LAin (gly G)) (hnL : gnL G = 1) (hgd : 0 ≤ gd G) {q : Unit × Mm} (hgr : gr G = none) (hgs : gsf G = q.2) (st : Mm) (hf : f_m_startsWedge st = some q) : AW G st 0 [(0, .ref (gad G 58))] [] := by
  unfold f_m_startsWedge at hf
  refine aw_aload_n C 0 0 (j := 0) rfl rfl (by decide +kernel) rfl ?_
  refine aw_aload_n C 0 0 (j := 0) rfl rfl (by decide +kernel) rfl ?_
  refine aw_get C (k := 0) fc_12 (la_58 E) rfl (by decide) tb_942 (by decide +kernel) rfl ?_
  obtain ⟨a1, ha1⟩ : ∃ z, z = (st.1 58 0) := ⟨_, rfl⟩
  refine aw_nmi ha1 ?_
  have hf := ilt ha1 hf
  refine aw_put C (k := 8) fc_12 (la_58 E) rfl (by decide) rfl rfl tb_950 (by decide +kernel) rfl ?_
  refine aw_aload_n C 0 0 (j := 0) rfl rfl (by decide +kernel) rfl ?_
  refine aw_aload_n C 0 0 (j := 0) rfl rfl (by decide +kernel) rfl ?_
  refine aw_get C (k := 0) fc_12 (la_58 E) rfl (by decide) tb_942 (by decide +kernel) rfl ?_
  obtain ⟨a2, ha2⟩ : ∃ z, z = ((sI st 58 8 a1).1 58 0) := ⟨_, rfl⟩
  refine aw_nmi ha2 ?_
  have hf := ilt ha2 hf
  refine aw_put C (k := 9) fc_12 (la_58 E) rfl (by decide) rfl rfl tb_951 (by decide +kernel) rfl ?_
  refine aw_aload_n C 0 0 (j := 0) rfl rfl (by decide +kernel) rfl ?_
  refine aw_iconst C (i0 := 0) (v := 0) (by decide) (by decide +kernel) rfl ?_
  refine aw_putZ C (k := 10) fc_12 (la_58 E) rfl (by decide) rfl rfl (by decide) tb_952 (by decide +kernel) rfl ?_
  exact aw_vretq C CR0 hgr hgs hf (by decide +kernel)
theorem c_m_startsWedge {lay : Ly} (E : LAin lay) (st : Mm) (q : Unit × Mm) (hf : f_m_startsWedge st = some q) : Con 0 Y148 prog_14_method_9_code 1 (Option.none) lay (fun ad => [.ref (ad 58)]) st (none) q.2 :=
  am_met yf_148.2.2.2.2.2 (fun ad => Nat.le_of_ble_eq_true rfl) (fun G C CR0 e1 e2 e3 e4 e5 => t_m_startsWedge C CR0 (by rw [e1]; exact E) e2 (Nat.le_of_eq e5.symm) e3 e4 st hf)
def f_m_wrongAt (v1 : Int32) (v2 : Int32) (st : Mm) : Option (Int32 × Mm) :=
  lt_ (((-1000 : Int32) * v1) - v2) (fun a1 => some ((0 : Int32), (sI st 58 22 a1)))
theorem t_m_wrongAt {G : Cx} (C : CX G prog_14_method_21_code "PaperStarsModel") (CR0 : CR G (Option.some FieldType.boolean)) (E : LAin (gly G)) (hnL : gnL G = 3) (hgd : 0 ≤ gd G) {q : Int32 × Mm} (hgr : gr G = some (.int q.1)) (hgs : gsf G = q.2) (v1 : Int32) (v2 : Int32) (st : Mm) (hf : f_m_wrongAt v1 v2 st = some q) : AW G st 0 [(0, .ref (gad G 58)), (1, .int v1), (2, .int v2)] [] := by
  unfold f_m_wrongAt at hf
  refine aw_aload_n C 0 0 (j := 0) rfl rfl (by decide +kernel) rfl ?_
  refine aw_sipush C (i0 := -1000) (v := -1000) (by decide) (by decide +kernel) rfl ?_
  refine aw_iload_n C 1 1 (j := 1) rfl rfl (by decide +kernel) rfl ?_
  refine aw_imul C (by decide +kernel) rfl ?_
  refine aw_iload_n C 2 2 (j := 2) rfl rfl (by decide +kernel) rfl ?_
  refine aw_isub C (by decide +kernel) rfl ?_
  obtain ⟨a1, ha1⟩ : ∃ z, z = (((-1000 : Int32) * v1) - v2) := ⟨_, rfl⟩
  refine aw_nmi ha1 ?_
  have hf := ilt ha1 hf
  refine aw_put C (k := 22) fc_12 (la_58 E) rfl (by decide) rfl rfl tb_964 (by decide +kernel) rfl ?_
  refine aw_iconst C (i0 := 0) (v := 0) (by decide) (by decide +kernel) rfl ?_
  exact aw_zretq C CR0 hgr hgs (by decide) hf (by decide +kernel)
theorem c_m_wrongAt {lay : Ly} (E : LAin lay) (v1 : Int32) (v2 : Int32) (st : Mm) (q : Int32 × Mm) (hf : f_m_wrongAt v1 v2 st = some q) : Con 0 Y151 prog_14_method_21_code 3 (Option.some FieldType.boolean) lay (fun ad => [.ref (ad 58), .int v1, .int v2]) st (some (.int q.1)) q.2 :=
  am_met yf_151.2.2.2.2.2 (fun ad => Nat.le_of_ble_eq_true rfl) (fun G C CR0 e1 e2 e3 e4 e5 => t_m_wrongAt C CR0 (by rw [e1]; exact E) e2 (Nat.le_of_eq e5.symm) e3 e4 v1 v2 st hf)
def f_m_takes (v1 : Int32) (st : Mm) : Option (Int32 × Mm) :=
  (f_m_here st).bind (fun q1 => if q1.1 = v1 then (lt_ ((q1.2.1 58 20) + (1 : Int32)) (fun a3 => some ((1 : Int32), (sI q1.2 58 20 a3)))) else ((f_m_wrongAt (1 : Int32) (q1.2.1 58 20) q1.2).bind (fun q4 => if q4.1 = 0 ∨ q4.1 = 1 then some (q4.1, q4.2) else none)))
theorem t_m_takes {G : Cx} (C : CX G prog_14_method_22_code "PaperStarsModel") (CR0 : CR G (Option.some FieldType.boolean)) (E : LAin (gly G)) (hnL : gnL G = 2) (hgd : 1 ≤ gd G) {q : Int32 × Mm} (hgr : gr G = some (.int q.1)) (hgs : gsf G = q.2) (v1 : Int32) (st : Mm) (hf : f_m_takes v1 st = some q) : AW G st 0 [(0, .ref (gad G 58)), (1, .int v1)] [] := by
  unfold f_m_takes at hf
  refine aw_aload_n C 0 0 (j := 0) rfl rfl (by decide +kernel) rfl ?_
  obtain ⟨q1, hq1, hf⟩ := ibd hf
  refine aw_callV C (rest := []) (c_m_here E _ q1 hq1) tb_1171 yf_149 yi_149 (la_58 E) [] rfl rfl _ rfl (Nat.le_trans (by decide) hgd) (Nat.le_of_ble_eq_true rfl) (by decide +kernel) rfl ?_
  show AW _ _ _ _ [.int q1.1]
  refine aw_iload_n C 1 1 (j := 1) rfl rfl (by decide +kernel) rfl ?_
  refine aw_icmp_eq C (tgt := 18) (off := 13) (by decide +kernel) (by decide) rfl (fun c2 => ?_) (fun c2 => ?_)
  · have hf := ift c2 hf
    refine aw_aload_n C 0 0 (j := 0) rfl rfl (by decide +kernel) rfl ?_
    refine aw_aload_n C 0 0 (j := 0) rfl rfl (by decide +kernel) rfl ?_
    refine aw_get C (k := 20) fc_12 (la_58 E) rfl (by decide) tb_962 (by decide +kernel) rfl ?_
    refine aw_iconst C (i0 := 1) (v := 1) (by decide) (by decide +kernel) rfl ?_
    refine aw_iadd C (by decide +kernel) rfl ?_
    obtain ⟨a3, ha3⟩ : ∃ z, z = ((q1.2.1 58 20) + (1 : Int32)) := ⟨_, rfl⟩
    refine aw_nmi ha3 ?_
    have hf := ilt ha3 hf
    refine aw_put C (k := 20) fc_12 (la_58 E) rfl (by decide) rfl rfl tb_962 (by decide +kernel) rfl ?_
    refine aw_iconst C (i0 := 1) (v := 1) (by decide) (by decide +kernel) rfl ?_
    exact aw_zretq C CR0 hgr hgs (by decide) hf (by decide +kernel)
  · have hf := iff_ c2 hf
    refine aw_aload_n C 0 0 (j := 0) rfl rfl (by decide +kernel) rfl ?_
    refine aw_iconst C (i0 := 1) (v := 1) (by decide) (by decide +kernel) rfl ?_
    refine aw_aload_n C 0 0 (j := 0) rfl rfl (by decide +kernel) rfl ?_
    refine aw_get C (k := 20) fc_12 (la_58 E) rfl (by decide) tb_962 (by decide +kernel) rfl ?_
    obtain ⟨q4, hq4, hf⟩ := ibd hf
    refine aw_callV C (rest := []) (c_m_wrongAt E (1 : Int32) (q1.2.1 58 20) _ q4 hq4) tb_1179 yf_151 yi_151 (la_58 E) [.int (1 : Int32), .int (q1.2.1 58 20)] rfl rfl _ rfl (Nat.le_trans (by decide) hgd) (Nat.le_of_ble_eq_true rfl) (by decide +kernel) rfl ?_
    show AW _ _ _ _ [.int q4.1]
    obtain ⟨g5, hf⟩ := igd hf
    exact aw_zretq C CR0 hgr hgs g5 hf (by decide +kernel)
theorem c_m_takes {lay : Ly} (E : LAin lay) (v1 : Int32) (st : Mm) (q : Int32 × Mm) (hf : f_m_takes v1 st = some q) : Con 1 Y152 prog_14_method_22_code 2 (Option.some FieldType.boolean) lay (fun ad => [.ref (ad 58), .int v1]) st (some (.int q.1)) q.2 :=
  am_met yf_152.2.2.2.2.2 (fun ad => Nat.le_of_ble_eq_true rfl) (fun G C CR0 e1 e2 e3 e4 e5 => t_m_takes C CR0 (by rw [e1]; exact E) e2 (Nat.le_of_eq e5.symm) e3 e4 v1 st hf)
def b_m_readsFolds_47 (st : Mm) : Option (Int32 × Mm) :=
  (f_m_wrongAt (3 : Int32) (st.1 58 20) st).bind (fun q1 => if q1.1 = 0 ∨ q1.1 = 1 then some (q1.1, q1.2) else none)
def b_m_readsFolds_36 (k9 : Mm → Option (Int32 × Mm)) (st : Mm) : Option (Int32 × Mm) :=
  (f_m_here st).bind (fun q1 => (f_m_foldsOnce q1.1 q1.2).bind (fun q2 => if q2.1 = 0 then (b_m_readsFolds_47 q2.2) else ((f_m_here q2.2).bind (fun q4 => if inb (q2.2.1 58 12) 9 then lt_ (((sI q4.2 63 (q2.2.1 58 12).toNatClampNeg q4.1).1 58 12) + (1 : Int32)) (fun a6 => lt_ (((sI (sI q4.2 63 (q2.2.1 58 12).toNatClampNeg q4.1) 58 12 a6).1 58 20) + (1 : Int32)) (fun a7 => k9 (sI (sI (sI q4.2 63 (q2.2.1 58 12).toNatClampNeg q4.1) 58 12 a6) 58 20 a7))) else none))))
def b_m_readsFolds_9 (k9 : Mm → Option (Int32 × Mm)) (st : Mm) : Option (Int32 × Mm) :=
  (f_m_here st).bind (fun q1 => if q1.1 = (104 : Int32) then (b_m_readsFolds_36 k9 q1.2) else ((f_m_here q1.2).bind (fun q3 => if q3.1 = (118 : Int32) then (b_m_readsFolds_36 k9 q3.2) else ((f_m_here q3.2).bind (fun q5 => if q5.1 = (100 : Int32) then (b_m_readsFolds_36 k9 q5.2) else ((f_m_takes (58 : Int32) q5.2).bind (fun q7 => if q7.1 = 0 ∨ q7.1 = 1 then some (q7.1, q7.2) else none)))))))
def f_m_readsFolds_9 : Nat → Mm → Option (Int32 × Mm)
  | 0 => fun  _ => none
  | n + 1 => b_m_readsFolds_9 (f_m_readsFolds_9 n)
def f_m_readsFolds (st : Mm) : Option (Int32 × Mm) :=
  (f_m_startsWedge st).bind (fun q1 => f_m_readsFolds_9 1000000 (sI q1.2 58 12 (0 : Int32)))
theorem t_m_readsFolds_47 {G : Cx} (C : CX G prog_14_method_46_code "PaperStarsModel") (CR0 : CR G (Option.some FieldType.boolean)) (E : LAin (gly G)) (hnL : gnL G = 1) (hgd : 2 ≤ gd G) {q : Int32 × Mm} (hgr : gr G = some (.int q.1)) (hgs : gsf G = q.2) (st : Mm) (hf : b_m_readsFolds_47 st = some q) : AW G st 47 [(0, .ref (gad G 58))] [] := by
  unfold b_m_readsFolds_47 at hf
  refine aw_aload_n C 0 0 (j := 0) rfl rfl (by decide +kernel) rfl ?_
  refine aw_iconst C (i0 := 3) (v := 3) (by decide) (by decide +kernel) rfl ?_
  refine aw_aload_n C 0 0 (j := 0) rfl rfl (by decide +kernel) rfl ?_
  refine aw_get C (k := 20) fc_12 (la_58 E) rfl (by decide) tb_962 (by decide +kernel) rfl ?_
  obtain ⟨q1, hq1, hf⟩ := ibd hf
  refine aw_callV C (rest := []) (c_m_wrongAt E (3 : Int32) (st.1 58 20) _ q1 hq1) tb_1179 yf_151 yi_151 (la_58 E) [.int (3 : Int32), .int (st.1 58 20)] rfl rfl _ rfl (Nat.le_trans (by decide) hgd) (Nat.le_of_ble_eq_true rfl) (by decide +kernel) rfl ?_
  show AW _ _ _ _ [.int q1.1]
  obtain ⟨g2, hf⟩ := igd hf
  exact aw_zretq C CR0 hgr hgs g2 hf (by decide +kernel)
theorem t_m_readsFolds_36 {G : Cx} (C : CX G prog_14_method_46_code "PaperStarsModel") (CR0 : CR G (Option.some FieldType.boolean)) (E : LAin (gly G)) (hnL : gnL G = 1) (hgd : 2 ≤ gd G) {q : Int32 × Mm} (hgr : gr G = some (.int q.1)) (hgs : gsf G = q.2) (k9 : Mm → Option (Int32 × Mm)) (hk9 : ∀ (st : Mm), k9 st = some q → AW G st 9 [(0, .ref (gad G 58))] []) (st : Mm) (hf : b_m_readsFolds_36 k9 st = some q) : AW G st 36 [(0, .ref (gad G 58))] [] := by
  unfold b_m_readsFolds_36 at hf
  refine aw_aload_n C 0 0 (j := 0) rfl rfl (by decide +kernel) rfl ?_
  refine aw_aload_n C 0 0 (j := 0) rfl rfl (by decide +kernel) rfl ?_
  obtain ⟨q1, hq1, hf⟩ := ibd hf
  refine aw_callV C (rest := [.ref (gad G 58)]) (c_m_here E _ q1 hq1) tb_1171 yf_149 yi_149 (la_58 E) [] rfl rfl _ rfl (Nat.le_trans (by decide) hgd) (Nat.le_of_ble_eq_true rfl) (by decide +kernel) rfl ?_
  show AW _ _ _ _ [.int q1.1, .ref (gad G 58)]
  obtain ⟨q2, hq2, hf⟩ := ibd hf
  refine aw_callV C (rest := []) (c_m_foldsOnce E q1.1 _ q2 hq2) tb_1175 yf_150 yi_150 (la_58 E) [.int q1.1] rfl rfl _ rfl (Nat.le_trans (by decide) hgd) (Nat.le_of_ble_eq_true rfl) (by decide +kernel) rfl ?_
  show AW _ _ _ _ [.int q2.1]
  refine aw_if_ne C (tgt := 57) (off := 13) (by decide +kernel) (by decide) rfl (fun c3 => ?_) (fun c3 => ?_)
  · have hf := ift c3 hf
    exact t_m_readsFolds_47 C CR0 E hnL hgd hgr hgs _ hf
  · have hf := iff_ c3 hf
    refine aw_aload_n C 0 0 (j := 0) rfl rfl (by decide +kernel) rfl ?_
    refine aw_getr C (k := 11) fc_12 (la_58 E) rfl (by decide) tb_953 (by decide +kernel) rfl ?_
    refine aw_aload_n C 0 0 (j := 0) rfl rfl (by decide +kernel) rfl ?_
    refine aw_get C (k := 12) fc_12 (la_58 E) rfl (by decide) tb_954 (by decide +kernel) rfl ?_
    refine aw_aload_n C 0 0 (j := 0) rfl rfl (by decide +kernel) rfl ?_
    obtain ⟨q4, hq4, hf⟩ := ibd hf
    refine aw_callV C (rest := [.int (q2.2.1 58 12), .ref (gad G 63)]) (c_m_here E _ q4 hq4) tb_1171 yf_149 yi_149 (la_58 E) [] rfl rfl _ rfl (Nat.le_trans (by decide) hgd) (Nat.le_of_ble_eq_true rfl) (by decide +kernel) rfl ?_
    show AW _ _ _ _ [.int q4.1, .int (q2.2.1 58 12), .ref (gad G 63)]
    obtain ⟨g5, hf⟩ := igd hf
    refine aw_iast C (la_63 E) g5 (by decide +kernel) rfl ?_
    refine aw_aload_n C 0 0 (j := 0) rfl rfl (by decide +kernel) rfl ?_
    refine aw_aload_n C 0 0 (j := 0) rfl rfl (by decide +kernel) rfl ?_
    refine aw_get C (k := 12) fc_12 (la_58 E) rfl (by decide) tb_954 (by decide +kernel) rfl ?_
    refine aw_iconst C (i0 := 1) (v := 1) (by decide) (by decide +kernel) rfl ?_
    refine aw_iadd C (by decide +kernel) rfl ?_
    obtain ⟨a6, ha6⟩ : ∃ z, z = (((sI q4.2 63 (q2.2.1 58 12).toNatClampNeg q4.1).1 58 12) + (1 : Int32)) := ⟨_, rfl⟩
    refine aw_nmi ha6 ?_
    have hf := ilt ha6 hf
    refine aw_put C (k := 12) fc_12 (la_58 E) rfl (by decide) rfl rfl tb_954 (by decide +kernel) rfl ?_
    refine aw_aload_n C 0 0 (j := 0) rfl rfl (by decide +kernel) rfl ?_
    refine aw_aload_n C 0 0 (j := 0) rfl rfl (by decide +kernel) rfl ?_
    refine aw_get C (k := 20) fc_12 (la_58 E) rfl (by decide) tb_962 (by decide +kernel) rfl ?_
    refine aw_iconst C (i0 := 1) (v := 1) (by decide) (by decide +kernel) rfl ?_
    refine aw_iadd C (by decide +kernel) rfl ?_
    obtain ⟨a7, ha7⟩ : ∃ z, z = (((sI (sI q4.2 63 (q2.2.1 58 12).toNatClampNeg q4.1) 58 12 a6).1 58 20) + (1 : Int32)) := ⟨_, rfl⟩
    refine aw_nmi ha7 ?_
    have hf := ilt ha7 hf
    refine aw_put C (k := 20) fc_12 (la_58 E) rfl (by decide) rfl rfl tb_962 (by decide +kernel) rfl ?_
    refine aw_goto C (tgt := 9) (off := -81) (by decide +kernel) (by decide) ?_
    exact hk9 _ hf
theorem t_m_readsFolds_9 {G : Cx} (C : CX G prog_14_method_46_code "PaperStarsModel") (CR0 : CR G (Option.some FieldType.boolean)) (E : LAin (gly G)) (hnL : gnL G = 1) (hgd : 2 ≤ gd G) {q : Int32 × Mm} (hgr : gr G = some (.int q.1)) (hgs : gsf G = q.2) (k9 : Mm → Option (Int32 × Mm)) (hk9 : ∀ (st : Mm), k9 st = some q → AW G st 9 [(0, .ref (gad G 58))] []) (st : Mm) (hf : b_m_readsFolds_9 k9 st = some q) : AW G st 9 [(0, .ref (gad G 58))] [] := by
  unfold b_m_readsFolds_9 at hf
  refine aw_aload_n C 0 0 (j := 0) rfl rfl (by decide +kernel) rfl ?_
  obtain ⟨q1, hq1, hf⟩ := ibd hf
  refine aw_callV C (rest := []) (c_m_here E _ q1 hq1) tb_1171 yf_149 yi_149 (la_58 E) [] rfl rfl _ rfl (Nat.le_trans (by decide) hgd) (Nat.le_of_ble_eq_true rfl) (by decide +kernel) rfl ?_
  show AW _ _ _ _ [.int q1.1]
  refine aw_bipush C (i0 := 104) (v := 104) (by decide) (by decide +kernel) rfl ?_
  refine aw_icmp_eq C (tgt := 36) (off := 21) (by decide +kernel) (by decide) rfl (fun c2 => ?_) (fun c2 => ?_)
  · have hf := ift c2 hf
    exact t_m_readsFolds_36 C CR0 E hnL hgd hgr hgs k9 hk9 _ hf
  · have hf := iff_ c2 hf
    refine aw_aload_n C 0 0 (j := 0) rfl rfl (by decide +kernel) rfl ?_
    obtain ⟨q3, hq3, hf⟩ := ibd hf
    refine aw_callV C (rest := []) (c_m_here E _ q3 hq3) tb_1171 yf_149 yi_149 (la_58 E) [] rfl rfl _ rfl (Nat.le_trans (by decide) hgd) (Nat.le_of_ble_eq_true rfl) (by decide +kernel) rfl ?_
    show AW _ _ _ _ [.int q3.1]
    refine aw_bipush C (i0 := 118) (v := 118) (by decide) (by decide +kernel) rfl ?_
    refine aw_icmp_eq C (tgt := 36) (off := 12) (by decide +kernel) (by decide) rfl (fun c4 => ?_) (fun c4 => ?_)
    · have hf := ift c4 hf
      exact t_m_readsFolds_36 C CR0 E hnL hgd hgr hgs k9 hk9 _ hf
    · have hf := iff_ c4 hf
      refine aw_aload_n C 0 0 (j := 0) rfl rfl (by decide +kernel) rfl ?_
      obtain ⟨q5, hq5, hf⟩ := ibd hf
      refine aw_callV C (rest := []) (c_m_here E _ q5 hq5) tb_1171 yf_149 yi_149 (la_58 E) [] rfl rfl _ rfl (Nat.le_trans (by decide) hgd) (Nat.le_of_ble_eq_true rfl) (by decide +kernel) rfl ?_
      show AW _ _ _ _ [.int q5.1]
      refine aw_bipush C (i0 := 100) (v := 100) (by decide) (by decide +kernel) rfl ?_
      refine aw_icmp_ne C (tgt := 93) (off := 60) (by decide +kernel) (by decide) rfl (fun c6 => ?_) (fun c6 => ?_)
      · have hf := ift c6 hf
        exact t_m_readsFolds_36 C CR0 E hnL hgd hgr hgs k9 hk9 _ hf
      · have hf := iff_ c6 hf
        refine aw_aload_n C 0 0 (j := 0) rfl rfl (by decide +kernel) rfl ?_
        refine aw_bipush C (i0 := 58) (v := 58) (by decide) (by decide +kernel) rfl ?_
        obtain ⟨q7, hq7, hf⟩ := ibd hf
        refine aw_callV C (rest := []) (c_m_takes E (58 : Int32) _ q7 hq7) tb_1183 yf_152 yi_152 (la_58 E) [.int (58 : Int32)] rfl rfl _ rfl (Nat.le_trans (by decide) hgd) (Nat.le_of_ble_eq_true rfl) (by decide +kernel) rfl ?_
        show AW _ _ _ _ [.int q7.1]
        obtain ⟨g8, hf⟩ := igd hf
        exact aw_zretq C CR0 hgr hgs g8 hf (by decide +kernel)
theorem u_m_readsFolds_9 {G : Cx} (C : CX G prog_14_method_46_code "PaperStarsModel") (CR0 : CR G (Option.some FieldType.boolean)) (E : LAin (gly G)) (hnL : gnL G = 1) (hgd : 2 ≤ gd G) {q : Int32 × Mm} (hgr : gr G = some (.int q.1)) (hgs : gsf G = q.2) : ∀ (n : Nat) (st : Mm), f_m_readsFolds_9 n st = some q → AW G st 9 [(0, .ref (gad G 58))] [] := by
  intro n
  induction n with
  | zero => intro st hf; cases hf
  | succ n ih => intro st hf; exact t_m_readsFolds_9 C CR0 E hnL hgd hgr hgs (f_m_readsFolds_9 n) ih st hf
theorem t_m_readsFolds {G : Cx} (C : CX G prog_14_method_46_code "PaperStarsModel") (CR0 : CR G (Option.some FieldType.boolean)) (E : LAin (gly G)) (hnL : gnL G = 1) (hgd : 2 ≤ gd G) {q : Int32 × Mm} (hgr : gr G = some (.int q.1)) (hgs : gsf G = q.2) (st : Mm) (hf : f_m_readsFolds st = some q) : AW G st 0 [(0, .ref (gad G 58))] [] := by
  unfold f_m_readsFolds at hf
  refine aw_aload_n C 0 0 (j := 0) rfl rfl (by decide +kernel) rfl ?_
  obtain ⟨q1, hq1, hf⟩ := ibd hf
  refine aw_callV C (rest := []) (c_m_startsWedge E _ q1 hq1) tb_1167 yf_148 yi_148 (la_58 E) [] rfl rfl _ rfl (Nat.le_trans (by decide) hgd) (Nat.le_of_ble_eq_true rfl) (by decide +kernel) rfl ?_
  show AW _ _ _ _ []
  refine aw_aload_n C 0 0 (j := 0) rfl rfl (by decide +kernel) rfl ?_
  refine aw_iconst C (i0 := 0) (v := 0) (by decide) (by decide +kernel) rfl ?_
  refine aw_put C (k := 12) fc_12 (la_58 E) rfl (by decide) rfl rfl tb_954 (by decide +kernel) rfl ?_
  exact u_m_readsFolds_9 C CR0 E hnL hgd hgr hgs _ _ hf
theorem c_m_readsFolds {lay : Ly} (E : LAin lay) (st : Mm) (q : Int32 × Mm) (hf : f_m_readsFolds st = some q) : Con 2 Y147 prog_14_method_46_code 1 (Option.some FieldType.boolean) lay (fun ad => [.ref (ad 58)]) st (some (.int q.1)) q.2 :=
  am_met yf_147.2.2.2.2.2 (fun ad => Nat.le_of_ble_eq_true rfl) (fun G C CR0 e1 e2 e3 e4 e5 => t_m_readsFolds C CR0 (by rw [e1]; exact E) e2 (Nat.le_of_eq e5.symm) e3 e4 st hf)
def f_m_isPlace (v1 : Int32) (v2 : Int32) (st : Mm) : Option (Int32 × Mm) :=
  if v1 < 0 then (some ((0 : Int32), st)) else (if (st.1 58 8) ≤ v1 then (some ((0 : Int32), st)) else (if v2 < 0 then (some ((0 : Int32), st)) else (if (st.1 58 9) ≤ v2 then (some ((0 : Int32), st)) else (if (st.1 58 10) = 0 then (some ((1 : Int32), st)) else (if v1 < v2 then (some ((0 : Int32), st)) else (some ((1 : Int32), st)))))))
theorem t_m_isPlace {G : Cx} (C : CX G prog_14_method_11_code "PaperStarsModel") (CR0 : CR G (Option.some FieldType.boolean)) (E : LAin (gly G)) (hnL : gnL G = 3) (hgd : 0 ≤ gd G) {q : Int32 × Mm} (hgr : gr G = some (.int q.1)) (hgs : gsf G = q.2) (v1 : Int32) (v2 : Int32) (st : Mm) (hf : f_m_isPlace v1 v2 st = some q) : AW G st 0 [(0, .ref (gad G 58)), (1, .int v1), (2, .int v2)] [] := by
  unfold f_m_isPlace at hf
  refine aw_iload_n C 1 1 (j := 1) rfl rfl (by decide +kernel) rfl ?_
  refine aw_if_lt C (tgt := 40) (off := 39) (by decide +kernel) (by decide) rfl (fun c1 => ?_) (fun c1 => ?_)
  · have hf := ift c1 hf
    refine aw_iconst C (i0 := 0) (v := 0) (by decide) (by decide +kernel) rfl ?_
    exact aw_zretq C CR0 hgr hgs (by decide) hf (by decide +kernel)
  · have hf := iff_ c1 hf
    refine aw_iload_n C 1 1 (j := 1) rfl rfl (by decide +kernel) rfl ?_
    refine aw_aload_n C 0 0 (j := 0) rfl rfl (by decide +kernel) rfl ?_
    refine aw_get C (k := 8) fc_12 (la_58 E) rfl (by decide) tb_950 (by decide +kernel) rfl ?_
    refine aw_icmp_ge C (tgt := 40) (off := 31) (by decide +kernel) (by decide) rfl (fun c2 => ?_) (fun c2 => ?_)
    · have hf := ift c2 hf
      refine aw_iconst C (i0 := 0) (v := 0) (by decide) (by decide +kernel) rfl ?_
      exact aw_zretq C CR0 hgr hgs (by decide) hf (by decide +kernel)
    · have hf := iff_ c2 hf
      refine aw_iload_n C 2 2 (j := 2) rfl rfl (by decide +kernel) rfl ?_
      refine aw_if_lt C (tgt := 40) (off := 27) (by decide +kernel) (by decide) rfl (fun c3 => ?_) (fun c3 => ?_)
      · have hf := ift c3 hf
        refine aw_iconst C (i0 := 0) (v := 0) (by decide) (by decide +kernel) rfl ?_
        exact aw_zretq C CR0 hgr hgs (by decide) hf (by decide +kernel)
      · have hf := iff_ c3 hf
        refine aw_iload_n C 2 2 (j := 2) rfl rfl (by decide +kernel) rfl ?_
        refine aw_aload_n C 0 0 (j := 0) rfl rfl (by decide +kernel) rfl ?_
        refine aw_get C (k := 9) fc_12 (la_58 E) rfl (by decide) tb_951 (by decide +kernel) rfl ?_
        refine aw_icmp_ge C (tgt := 40) (off := 19) (by decide +kernel) (by decide) rfl (fun c4 => ?_) (fun c4 => ?_)
        · have hf := ift c4 hf
          refine aw_iconst C (i0 := 0) (v := 0) (by decide) (by decide +kernel) rfl ?_
          exact aw_zretq C CR0 hgr hgs (by decide) hf (by decide +kernel)
        · have hf := iff_ c4 hf
          refine aw_aload_n C 0 0 (j := 0) rfl rfl (by decide +kernel) rfl ?_
          refine aw_get C (k := 10) fc_12 (la_58 E) rfl (by decide) tb_952 (by decide +kernel) rfl ?_
          refine aw_if_eq C (tgt := 36) (off := 8) (by decide +kernel) (by decide) rfl (fun c5 => ?_) (fun c5 => ?_)
          · have hf := ift c5 hf
            refine aw_iconst C (i0 := 1) (v := 1) (by decide) (by decide +kernel) rfl ?_
            refine aw_goto C (tgt := 41) (off := 4) (by decide +kernel) (by decide) ?_
            exact aw_zretq C CR0 hgr hgs (by decide) hf (by decide +kernel)
          · have hf := iff_ c5 hf
            refine aw_iload_n C 2 2 (j := 2) rfl rfl (by decide +kernel) rfl ?_
            refine aw_iload_n C 1 1 (j := 1) rfl rfl (by decide +kernel) rfl ?_
            refine aw_icmp_gt C (tgt := 40) (off := 7) (by decide +kernel) (by decide) rfl (fun c6 => ?_) (fun c6 => ?_)
            · have hf := ift c6 hf
              refine aw_iconst C (i0 := 0) (v := 0) (by decide) (by decide +kernel) rfl ?_
              exact aw_zretq C CR0 hgr hgs (by decide) hf (by decide +kernel)
            · have hf := iff_ c6 hf
              refine aw_iconst C (i0 := 1) (v := 1) (by decide) (by decide +kernel) rfl ?_
              refine aw_goto C (tgt := 41) (off := 4) (by decide +kernel) (by decide) ?_
              exact aw_zretq C CR0 hgr hgs (by decide) hf (by decide +kernel)
theorem c_m_isPlace {lay : Ly} (E : LAin lay) (v1 : Int32) (v2 : Int32) (st : Mm) (q : Int32 × Mm) (hf : f_m_isPlace v1 v2 st = some q) : Con 0 Y161 prog_14_method_11_code 3 (Option.some FieldType.boolean) lay (fun ad => [.ref (ad 58), .int v1, .int v2]) st (some (.int q.1)) q.2 :=
  am_met yf_161.2.2.2.2.2 (fun ad => Nat.le_of_ble_eq_true rfl) (fun G C CR0 e1 e2 e3 e4 e5 => t_m_isPlace C CR0 (by rw [e1]; exact E) e2 (Nat.le_of_eq e5.symm) e3 e4 v1 v2 st hf)
def b_m_cuts_50 (k3 : Int32 → Int32 → Int32 → Int32 → Mm → Option (Unit × Mm)) (v1 : Int32) (v3 : Int32) (v4 : Int32) (v5 : Int32) (st : Mm) : Option (Unit × Mm) :=
  lt_ (v5 + (1 : Int32)) (fun a1 => k3 v1 v3 v4 a1 st)
def b_m_cuts_13 (k3 : Int32 → Int32 → Int32 → Int32 → Mm → Option (Unit × Mm)) (k13 : Int32 → Int32 → Int32 → Int32 → Int32 → Mm → Option (Unit × Mm)) (v1 : Int32) (v3 : Int32) (v4 : Int32) (v5 : Int32) (v6 : Int32) (st : Mm) : Option (Unit × Mm) :=
  if v3 < v6 then (b_m_cuts_50 k3 v1 v3 v4 v5 st) else ((f_m_isPlace v6 v5 st).bind (fun q2 => if q2.1 = 0 then (lt_ (v6 + (1 : Int32)) (fun a4 => k13 v1 v3 v4 v5 a4 q2.2)) else (if inb (((16 : Int32) * v5) + v6) 256 then lt_ (v6 + (1 : Int32)) (fun a6 => k13 v1 v3 v4 v5 a6 (sI q2.2 69 (((16 : Int32) * v5) + v6).toNatClampNeg (1 : Int32))) else none)))
def f_m_cuts_13 (k3 : Int32 → Int32 → Int32 → Int32 → Mm → Option (Unit × Mm)) : Nat → Int32 → Int32 → Int32 → Int32 → Int32 → Mm → Option (Unit × Mm)
  | 0 => fun _ _ _ _ _ _ => none
  | n + 1 => b_m_cuts_13 k3 (f_m_cuts_13 k3 n)
def b_m_cuts_3 (k3 : Int32 → Int32 → Int32 → Int32 → Mm → Option (Unit × Mm)) (v1 : Int32) (v3 : Int32) (v4 : Int32) (v5 : Int32) (st : Mm) : Option (Unit × Mm) :=
  if v4 < v5 then (some ((), st)) else (f_m_cuts_13 k3 1000000 v1 v3 v4 v5 v1 st)
def f_m_cuts_3 : Nat → Int32 → Int32 → Int32 → Int32 → Mm → Option (Unit × Mm)
  | 0 => fun _ _ _ _ _ => none
  | n + 1 => b_m_cuts_3 (f_m_cuts_3 n)
def f_m_cuts (v1 : Int32) (v2 : Int32) (v3 : Int32) (v4 : Int32) (st : Mm) : Option (Unit × Mm) :=
  f_m_cuts_3 1000000 v1 v3 v4 v2 st
theorem t_m_cuts_50 {G : Cx} (C : CX G prog_14_method_42_code "PaperStarsModel") (CR0 : CR G (Option.none)) (E : LAin (gly G)) (hnL : gnL G = 7) (hgd : 1 ≤ gd G) {q : Unit × Mm} (hgr : gr G = none) (hgs : gsf G = q.2) (k3 : Int32 → Int32 → Int32 → Int32 → Mm → Option (Unit × Mm)) (hk3 : ∀ (v1 : Int32) (v3 : Int32) (v4 : Int32) (v5 : Int32) (st : Mm), k3 v1 v3 v4 v5 st = some q → AW G st 3 [(0, .ref (gad G 58)), (1, .int v1), (3, .int v3), (4, .int v4), (5, .int v5)] []) (v1 : Int32) (v3 : Int32) (v4 : Int32) (v5 : Int32) (st : Mm) (hf : b_m_cuts_50 k3 v1 v3 v4 v5 st = some q) : AW G st 50 [(0, .ref (gad G 58)), (1, .int v1), (3, .int v3), (4, .int v4), (5, .int v5)] [] := by
  unfold b_m_cuts_50 at hf
  obtain ⟨a1, ha1⟩ : ∃ z, z = (v5 + (1 : Int32)) := ⟨_, rfl⟩
  have hf := ilt ha1 hf
  refine aw_iinc C [(5, .int a1), (0, .ref (gad G 58)), (1, .int v1), (3, .int v3), (4, .int v4)] 4 (n := 1) rfl (by rw [ha1]; rfl) (by rw [hnL]; decide) rfl (by decide +kernel) rfl ?_
  refine aw_goto C (tgt := 3) (off := -50) (by decide +kernel) (by decide) ?_
  refine aw_sub [(0, .ref (gad G 58)), (1, .int v1), (3, .int v3), (4, .int v4), (5, .int a1)] [1, 2, 3, 4, 0] rfl ?_
  exact hk3 v1 v3 v4 a1 _ hf
theorem t_m_cuts_13 {G : Cx} (C : CX G prog_14_method_42_code "PaperStarsModel") (CR0 : CR G (Option.none)) (E : LAin (gly G)) (hnL : gnL G = 7) (hgd : 1 ≤ gd G) {q : Unit × Mm} (hgr : gr G = none) (hgs : gsf G = q.2) (k3 : Int32 → Int32 → Int32 → Int32 → Mm → Option (Unit × Mm)) (k13 : Int32 → Int32 → Int32 → Int32 → Int32 → Mm → Option (Unit × Mm)) (hk3 : ∀ (v1 : Int32) (v3 : Int32) (v4 : Int32) (v5 : Int32) (st : Mm), k3 v1 v3 v4 v5 st = some q → AW G st 3 [(0, .ref (gad G 58)), (1, .int v1), (3, .int v3), (4, .int v4), (5, .int v5)] []) (hk13 : ∀ (v1 : Int32) (v3 : Int32) (v4 : Int32) (v5 : Int32) (v6 : Int32) (st : Mm), k13 v1 v3 v4 v5 v6 st = some q → AW G st 13 [(0, .ref (gad G 58)), (1, .int v1), (3, .int v3), (4, .int v4), (5, .int v5), (6, .int v6)] []) (v1 : Int32) (v3 : Int32) (v4 : Int32) (v5 : Int32) (v6 : Int32) (st : Mm) (hf : b_m_cuts_13 k3 k13 v1 v3 v4 v5 v6 st = some q) : AW G st 13 [(0, .ref (gad G 58)), (1, .int v1), (3, .int v3), (4, .int v4), (5, .int v5), (6, .int v6)] [] := by
  unfold b_m_cuts_13 at hf
  refine aw_iload C 6 5 rfl (by decide +kernel) rfl ?_
  refine aw_iload_n C 3 2 (j := 3) rfl rfl (by decide +kernel) rfl ?_
  refine aw_icmp_gt C (tgt := 50) (off := 34) (by decide +kernel) (by decide) rfl (fun c1 => ?_) (fun c1 => ?_)
  · have hf := ift c1 hf
    refine aw_sub [(0, .ref (gad G 58)), (1, .int v1), (3, .int v3), (4, .int v4), (5, .int v5)] [0, 1, 2, 3, 4] rfl ?_
    exact t_m_cuts_50 C CR0 E hnL hgd hgr hgs k3 hk3 v1 v3 v4 v5 _ hf
  · have hf := iff_ c1 hf
    refine aw_aload_n C 0 0 (j := 0) rfl rfl (by decide +kernel) rfl ?_
    refine aw_iload C 6 5 rfl (by decide +kernel) rfl ?_
    refine aw_iload C 5 4 rfl (by decide +kernel) rfl ?_
    obtain ⟨q2, hq2, hf⟩ := ibd hf
    refine aw_callV C (rest := []) (c_m_isPlace E v6 v5 _ q2 hq2) tb_1218 yf_161 yi_161 (la_58 E) [.int v6, .int v5] rfl rfl _ rfl (Nat.le_trans (by decide) hgd) (Nat.le_of_ble_eq_true rfl) (by decide +kernel) rfl ?_
    show AW _ _ _ _ [.int q2.1]
    refine aw_if_eq C (tgt := 44) (off := 17) (by decide +kernel) (by decide) rfl (fun c3 => ?_) (fun c3 => ?_)
    · have hf := ift c3 hf
      obtain ⟨a4, ha4⟩ : ∃ z, z = (v6 + (1 : Int32)) := ⟨_, rfl⟩
      have hf := ilt ha4 hf
      refine aw_iinc C [(6, .int a4), (0, .ref (gad G 58)), (1, .int v1), (3, .int v3), (4, .int v4), (5, .int v5)] 5 (n := 1) rfl (by rw [ha4]; rfl) (by rw [hnL]; decide) rfl (by decide +kernel) rfl ?_
      refine aw_goto C (tgt := 13) (off := -34) (by decide +kernel) (by decide) ?_
      refine aw_sub [(0, .ref (gad G 58)), (1, .int v1), (3, .int v3), (4, .int v4), (5, .int v5), (6, .int a4)] [1, 2, 3, 4, 5, 0] rfl ?_
      exact hk13 v1 v3 v4 v5 a4 _ hf
    · have hf := iff_ c3 hf
      refine aw_aload_n C 0 0 (j := 0) rfl rfl (by decide +kernel) rfl ?_
      refine aw_getr C (k := 33) fc_12 (la_58 E) rfl (by decide) tb_975 (by decide +kernel) rfl ?_
      refine aw_bipush C (i0 := 16) (v := 16) (by decide) (by decide +kernel) rfl ?_
      refine aw_iload C 5 4 rfl (by decide +kernel) rfl ?_
      refine aw_imul C (by decide +kernel) rfl ?_
      refine aw_iload C 6 5 rfl (by decide +kernel) rfl ?_
      refine aw_iadd C (by decide +kernel) rfl ?_
      refine aw_iconst C (i0 := 1) (v := 1) (by decide) (by decide +kernel) rfl ?_
      obtain ⟨g5, hf⟩ := igd hf
      refine aw_zastB C (la_69 E) g5 (by decide) (by decide +kernel) rfl ?_
      obtain ⟨a6, ha6⟩ : ∃ z, z = (v6 + (1 : Int32)) := ⟨_, rfl⟩
      have hf := ilt ha6 hf
      refine aw_iinc C [(6, .int a6), (0, .ref (gad G 58)), (1, .int v1), (3, .int v3), (4, .int v4), (5, .int v5)] 5 (n := 1) rfl (by rw [ha6]; rfl) (by rw [hnL]; decide) rfl (by decide +kernel) rfl ?_
      refine aw_goto C (tgt := 13) (off := -34) (by decide +kernel) (by decide) ?_
      refine aw_sub [(0, .ref (gad G 58)), (1, .int v1), (3, .int v3), (4, .int v4), (5, .int v5), (6, .int a6)] [1, 2, 3, 4, 5, 0] rfl ?_
      exact hk13 v1 v3 v4 v5 a6 _ hf
theorem u_m_cuts_13 {G : Cx} (C : CX G prog_14_method_42_code "PaperStarsModel") (CR0 : CR G (Option.none)) (E : LAin (gly G)) (hnL : gnL G = 7) (hgd : 1 ≤ gd G) {q : Unit × Mm} (hgr : gr G = none) (hgs : gsf G = q.2) (k3 : Int32 → Int32 → Int32 → Int32 → Mm → Option (Unit × Mm)) (hk3 : ∀ (v1 : Int32) (v3 : Int32) (v4 : Int32) (v5 : Int32) (st : Mm), k3 v1 v3 v4 v5 st = some q → AW G st 3 [(0, .ref (gad G 58)), (1, .int v1), (3, .int v3), (4, .int v4), (5, .int v5)] []) : ∀ (n : Nat) (v1 : Int32) (v3 : Int32) (v4 : Int32) (v5 : Int32) (v6 : Int32) (st : Mm), f_m_cuts_13 k3 n v1 v3 v4 v5 v6 st = some q → AW G st 13 [(0, .ref (gad G 58)), (1, .int v1), (3, .int v3), (4, .int v4), (5, .int v5), (6, .int v6)] [] := by
  intro n
  induction n with
  | zero => intro v1 v3 v4 v5 v6 st hf; cases hf
  | succ n ih => intro v1 v3 v4 v5 v6 st hf; exact t_m_cuts_13 C CR0 E hnL hgd hgr hgs k3 (f_m_cuts_13 k3 n) hk3 ih v1 v3 v4 v5 v6 st hf
theorem t_m_cuts_3 {G : Cx} (C : CX G prog_14_method_42_code "PaperStarsModel") (CR0 : CR G (Option.none)) (E : LAin (gly G)) (hnL : gnL G = 7) (hgd : 1 ≤ gd G) {q : Unit × Mm} (hgr : gr G = none) (hgs : gsf G = q.2) (k3 : Int32 → Int32 → Int32 → Int32 → Mm → Option (Unit × Mm)) (hk3 : ∀ (v1 : Int32) (v3 : Int32) (v4 : Int32) (v5 : Int32) (st : Mm), k3 v1 v3 v4 v5 st = some q → AW G st 3 [(0, .ref (gad G 58)), (1, .int v1), (3, .int v3), (4, .int v4), (5, .int v5)] []) (v1 : Int32) (v3 : Int32) (v4 : Int32) (v5 : Int32) (st : Mm) (hf : b_m_cuts_3 k3 v1 v3 v4 v5 st = some q) : AW G st 3 [(0, .ref (gad G 58)), (1, .int v1), (3, .int v3), (4, .int v4), (5, .int v5)] [] := by
  unfold b_m_cuts_3 at hf
  refine aw_iload C 5 4 rfl (by decide +kernel) rfl ?_
  refine aw_iload C 4 3 rfl (by decide +kernel) rfl ?_
  refine aw_icmp_gt C (tgt := 56) (off := 49) (by decide +kernel) (by decide) rfl (fun c1 => ?_) (fun c1 => ?_)
  · have hf := ift c1 hf
    exact aw_vretq C CR0 hgr hgs hf (by decide +kernel)
  · have hf := iff_ c1 hf
    refine aw_iload_n C 1 1 (j := 1) rfl rfl (by decide +kernel) rfl ?_
    refine aw_istore C [(6, .int v1), (0, .ref (gad G 58)), (1, .int v1), (3, .int v3), (4, .int v4), (5, .int v5)] (by rw [hnL]; decide) rfl (by decide +kernel) rfl ?_
    refine aw_sub [(0, .ref (gad G 58)), (1, .int v1), (3, .int v3), (4, .int v4), (5, .int v5), (6, .int v1)] [1, 2, 3, 4, 5, 0] rfl ?_
    exact u_m_cuts_13 C CR0 E hnL hgd hgr hgs k3 hk3 _ v1 v3 v4 v5 v1 _ hf
theorem u_m_cuts_3 {G : Cx} (C : CX G prog_14_method_42_code "PaperStarsModel") (CR0 : CR G (Option.none)) (E : LAin (gly G)) (hnL : gnL G = 7) (hgd : 1 ≤ gd G) {q : Unit × Mm} (hgr : gr G = none) (hgs : gsf G = q.2) : ∀ (n : Nat) (v1 : Int32) (v3 : Int32) (v4 : Int32) (v5 : Int32) (st : Mm), f_m_cuts_3 n v1 v3 v4 v5 st = some q → AW G st 3 [(0, .ref (gad G 58)), (1, .int v1), (3, .int v3), (4, .int v4), (5, .int v5)] [] := by
  intro n
  induction n with
  | zero => intro v1 v3 v4 v5 st hf; cases hf
  | succ n ih => intro v1 v3 v4 v5 st hf; exact t_m_cuts_3 C CR0 E hnL hgd hgr hgs (f_m_cuts_3 n) ih v1 v3 v4 v5 st hf
theorem t_m_cuts {G : Cx} (C : CX G prog_14_method_42_code "PaperStarsModel") (CR0 : CR G (Option.none)) (E : LAin (gly G)) (hnL : gnL G = 7) (hgd : 1 ≤ gd G) {q : Unit × Mm} (hgr : gr G = none) (hgs : gsf G = q.2) (v1 : Int32) (v2 : Int32) (v3 : Int32) (v4 : Int32) (st : Mm) (hf : f_m_cuts v1 v2 v3 v4 st = some q) : AW G st 0 [(0, .ref (gad G 58)), (1, .int v1), (2, .int v2), (3, .int v3), (4, .int v4)] [] := by
  unfold f_m_cuts at hf
  refine aw_iload_n C 2 2 (j := 2) rfl rfl (by decide +kernel) rfl ?_
  refine aw_istore C [(5, .int v2), (0, .ref (gad G 58)), (1, .int v1), (2, .int v2), (3, .int v3), (4, .int v4)] (by rw [hnL]; decide) rfl (by decide +kernel) rfl ?_
  refine aw_sub [(0, .ref (gad G 58)), (1, .int v1), (3, .int v3), (4, .int v4), (5, .int v2)] [1, 2, 4, 5, 0] rfl ?_
  exact u_m_cuts_3 C CR0 E hnL hgd hgr hgs _ v1 v3 v4 v2 _ hf
theorem c_m_cuts {lay : Ly} (E : LAin lay) (v1 : Int32) (v2 : Int32) (v3 : Int32) (v4 : Int32) (st : Mm) (q : Unit × Mm) (hf : f_m_cuts v1 v2 v3 v4 st = some q) : Con 1 Y162 prog_14_method_42_code 7 (Option.none) lay (fun ad => [.ref (ad 58), .int v1, .int v2, .int v3, .int v4]) st (none) q.2 :=
  am_met yf_162.2.2.2.2.2 (fun ad => Nat.le_of_ble_eq_true rfl) (fun G C CR0 e1 e2 e3 e4 e5 => t_m_cuts C CR0 (by rw [e1]; exact E) e2 (Nat.le_of_eq e5.symm) e3 e4 v1 v2 v3 v4 st hf)
def f_m_reckon (v0 : Int32) (v1 : Int32) (v2 : Int32) (st : Mm) : Option (Int32 × Mm) :=
  if v0 = 2 then (some ((v1 + v2), st)) else (if v0 = 3 then (some ((v1 - v2), st)) else (if v0 = 4 then (some ((v1 * v2), st)) else (if v0 = 5 then (if ¬ v2 = 0 then some ((v1 / v2), st) else none) else (if v0 = 6 then (if ¬ v2 = 0 then some ((v1 - v1 / v2 * v2), st) else none) else (if v0 = 7 then (if v2 ≤ v1 then (some ((0 : Int32), st)) else (some ((1 : Int32), st))) else (if v0 = 8 then (if v1 ≤ v2 then (some ((0 : Int32), st)) else (some ((1 : Int32), st))) else (if v1 = v2 then (some ((1 : Int32), st)) else (some ((0 : Int32), st)))))))))
theorem t_m_reckon {G : Cx} (C : CX G prog_14_method_38_code "PaperStarsModel") (CR0 : CR G (Option.some FieldType.int)) (E : LAin (gly G)) (hnL : gnL G = 3) (hgd : 0 ≤ gd G) {q : Int32 × Mm} (hgr : gr G = some (.int q.1)) (hgs : gsf G = q.2) (v0 : Int32) (v1 : Int32) (v2 : Int32) (st : Mm) (hf : f_m_reckon v0 v1 v2 st = some q) : AW G st 0 [(0, .int v0), (1, .int v1), (2, .int v2)] [] := by
  unfold f_m_reckon at hf
  refine aw_iload_n C 0 0 (j := 0) rfl rfl (by decide +kernel) rfl ?_
  by_cases w1 : v0 = 2
  · have hf := ift w1 hf
    refine aw_tin C (tgt := 44) (off := 43) (dflt := 85) (lo := 2) (hi := 8) (offs := #[43, 47, 51, 55, 59, 63, 74]) (len := 43) (by decide +kernel) (by rw [w1]; decide) (by rw [w1]; decide) (by rw [w1]; decide) (by decide) ?_
    refine aw_iload_n C 1 1 (j := 1) rfl rfl (by decide +kernel) rfl ?_
    refine aw_iload_n C 2 2 (j := 2) rfl rfl (by decide +kernel) rfl ?_
    refine aw_iadd C (by decide +kernel) rfl ?_
    exact aw_iretq C CR0 hgr hgs hf (by decide +kernel)
  · have hf := iff_ w1 hf
    by_cases w2 : v0 = 3
    · have hf := ift w2 hf
      refine aw_tin C (tgt := 48) (off := 47) (dflt := 85) (lo := 2) (hi := 8) (offs := #[43, 47, 51, 55, 59, 63, 74]) (len := 43) (by decide +kernel) (by rw [w2]; decide) (by rw [w2]; decide) (by rw [w2]; decide) (by decide) ?_
      refine aw_iload_n C 1 1 (j := 1) rfl rfl (by decide +kernel) rfl ?_
      refine aw_iload_n C 2 2 (j := 2) rfl rfl (by decide +kernel) rfl ?_
      refine aw_isub C (by decide +kernel) rfl ?_
      exact aw_iretq C CR0 hgr hgs hf (by decide +kernel)
    · have hf := iff_ w2 hf
      by_cases w3 : v0 = 4
      · have hf := ift w3 hf
        refine aw_tin C (tgt := 52) (off := 51) (dflt := 85) (lo := 2) (hi := 8) (offs := #[43, 47, 51, 55, 59, 63, 74]) (len := 43) (by decide +kernel) (by rw [w3]; decide) (by rw [w3]; decide) (by rw [w3]; decide) (by decide) ?_
        refine aw_iload_n C 1 1 (j := 1) rfl rfl (by decide +kernel) rfl ?_
        refine aw_iload_n C 2 2 (j := 2) rfl rfl (by decide +kernel) rfl ?_
        refine aw_imul C (by decide +kernel) rfl ?_
        exact aw_iretq C CR0 hgr hgs hf (by decide +kernel)
      · have hf := iff_ w3 hf
        by_cases w4 : v0 = 5
        · have hf := ift w4 hf
          refine aw_tin C (tgt := 56) (off := 55) (dflt := 85) (lo := 2) (hi := 8) (offs := #[43, 47, 51, 55, 59, 63, 74]) (len := 43) (by decide +kernel) (by rw [w4]; decide) (by rw [w4]; decide) (by rw [w4]; decide) (by decide) ?_
          refine aw_iload_n C 1 1 (j := 1) rfl rfl (by decide +kernel) rfl ?_
          refine aw_iload_n C 2 2 (j := 2) rfl rfl (by decide +kernel) rfl ?_
          obtain ⟨g5, hf⟩ := igd hf
          refine aw_idiv C g5 (by decide +kernel) rfl ?_
          exact aw_iretq C CR0 hgr hgs hf (by decide +kernel)
        · have hf := iff_ w4 hf
          by_cases w6 : v0 = 6
          · have hf := ift w6 hf
            refine aw_tin C (tgt := 60) (off := 59) (dflt := 85) (lo := 2) (hi := 8) (offs := #[43, 47, 51, 55, 59, 63, 74]) (len := 43) (by decide +kernel) (by rw [w6]; decide) (by rw [w6]; decide) (by rw [w6]; decide) (by decide) ?_
            refine aw_iload_n C 1 1 (j := 1) rfl rfl (by decide +kernel) rfl ?_
            refine aw_iload_n C 2 2 (j := 2) rfl rfl (by decide +kernel) rfl ?_
            obtain ⟨g7, hf⟩ := igd hf
            refine aw_irem C g7 (by decide +kernel) rfl ?_
            exact aw_iretq C CR0 hgr hgs hf (by decide +kernel)
          · have hf := iff_ w6 hf
            by_cases w8 : v0 = 7
            · have hf := ift w8 hf
              refine aw_tin C (tgt := 64) (off := 63) (dflt := 85) (lo := 2) (hi := 8) (offs := #[43, 47, 51, 55, 59, 63, 74]) (len := 43) (by decide +kernel) (by rw [w8]; decide) (by rw [w8]; decide) (by rw [w8]; decide) (by decide) ?_
              refine aw_iload_n C 1 1 (j := 1) rfl rfl (by decide +kernel) rfl ?_
              refine aw_iload_n C 2 2 (j := 2) rfl rfl (by decide +kernel) rfl ?_
              refine aw_icmp_ge C (tgt := 73) (off := 7) (by decide +kernel) (by decide) rfl (fun c9 => ?_) (fun c9 => ?_)
              · have hf := ift c9 hf
                refine aw_iconst C (i0 := 0) (v := 0) (by decide) (by decide +kernel) rfl ?_
                exact aw_iretq C CR0 hgr hgs hf (by decide +kernel)
              · have hf := iff_ c9 hf
                refine aw_iconst C (i0 := 1) (v := 1) (by decide) (by decide +kernel) rfl ?_
                refine aw_goto C (tgt := 74) (off := 4) (by decide +kernel) (by decide) ?_
                exact aw_iretq C CR0 hgr hgs hf (by decide +kernel)
            · have hf := iff_ w8 hf
              by_cases w10 : v0 = 8
              · have hf := ift w10 hf
                refine aw_tin C (tgt := 75) (off := 74) (dflt := 85) (lo := 2) (hi := 8) (offs := #[43, 47, 51, 55, 59, 63, 74]) (len := 43) (by decide +kernel) (by rw [w10]; decide) (by rw [w10]; decide) (by rw [w10]; decide) (by decide) ?_
                refine aw_iload_n C 1 1 (j := 1) rfl rfl (by decide +kernel) rfl ?_
                refine aw_iload_n C 2 2 (j := 2) rfl rfl (by decide +kernel) rfl ?_
                refine aw_icmp_le C (tgt := 84) (off := 7) (by decide +kernel) (by decide) rfl (fun c11 => ?_) (fun c11 => ?_)
                · have hf := ift c11 hf
                  refine aw_iconst C (i0 := 0) (v := 0) (by decide) (by decide +kernel) rfl ?_
                  exact aw_iretq C CR0 hgr hgs hf (by decide +kernel)
                · have hf := iff_ c11 hf
                  refine aw_iconst C (i0 := 1) (v := 1) (by decide) (by decide +kernel) rfl ?_
                  refine aw_goto C (tgt := 85) (off := 4) (by decide +kernel) (by decide) ?_
                  exact aw_iretq C CR0 hgr hgs hf (by decide +kernel)
              · have hf := iff_ w10 hf
                have zw1 := am_ne w1 (k := 2) (by decide)
                have zw2 := am_ne w2 (k := 3) (by decide)
                have zw3 := am_ne w3 (k := 4) (by decide)
                have zw4 := am_ne w4 (k := 5) (by decide)
                have zw6 := am_ne w6 (k := 6) (by decide)
                have zw8 := am_ne w8 (k := 7) (by decide)
                have zw10 := am_ne w10 (k := 8) (by decide)
                refine aw_tout C (tgt := 86) (dflt := 85) (lo := 2) (hi := 8) (offs := #[43, 47, 51, 55, 59, 63, 74]) (len := 43) (by decide +kernel) (by omega) (by decide) ?_
                refine aw_iload_n C 1 1 (j := 1) rfl rfl (by decide +kernel) rfl ?_
                refine aw_iload_n C 2 2 (j := 2) rfl rfl (by decide +kernel) rfl ?_
                refine aw_icmp_ne C (tgt := 95) (off := 7) (by decide +kernel) (by decide) rfl (fun c12 => ?_) (fun c12 => ?_)
                · have hf := ift c12 hf
                  refine aw_iconst C (i0 := 1) (v := 1) (by decide) (by decide +kernel) rfl ?_
                  refine aw_goto C (tgt := 96) (off := 4) (by decide +kernel) (by decide) ?_
                  exact aw_iretq C CR0 hgr hgs hf (by decide +kernel)
                · have hf := iff_ c12 hf
                  refine aw_iconst C (i0 := 0) (v := 0) (by decide) (by decide +kernel) rfl ?_
                  exact aw_iretq C CR0 hgr hgs hf (by decide +kernel)
theorem c_m_reckon {lay : Ly} (E : LAin lay) (v0 : Int32) (v1 : Int32) (v2 : Int32) (st : Mm) (q : Int32 × Mm) (hf : f_m_reckon v0 v1 v2 st = some q) : Con 0 Y181 prog_14_method_38_code 3 (Option.some FieldType.int) lay (fun ad => [.int v0, .int v1, .int v2]) st (some (.int q.1)) q.2 :=
  am_met yf_181.2.2.2.2.2 (fun ad => Nat.le_of_ble_eq_true rfl) (fun G C CR0 e1 e2 e3 e4 e5 => t_m_reckon C CR0 (by rw [e1]; exact E) e2 (Nat.le_of_eq e5.symm) e3 e4 v0 v1 v2 st hf)
def b_m_comesTo_63 (k16 : Int32 → Int32 → Int32 → Int32 → Mm → Option (Int32 × Mm)) (v2 : Int32) (v3 : Int32) (v4 : Int32) (v5 : Int32) (v6 : Int32) (v7 : Int32) (st : Mm) : Option (Int32 × Mm) :=
  if v6 = 0 then (if inb v3 180 then lt_ (v3 + (1 : Int32)) (fun a3 => k16 v2 a3 v4 v5 (sI st 70 v3.toNatClampNeg v7)) else none) else (if inb v7 7 then lt_ (st.1 71 v7.toNatClampNeg) (fun a5 => if inb v3 180 then lt_ (v3 + (1 : Int32)) (fun a7 => k16 v2 a7 v4 v5 (sI st 70 v3.toNatClampNeg a5)) else none) else none)
def b_m_comesTo_155 (k16 : Int32 → Int32 → Int32 → Int32 → Mm → Option (Int32 × Mm)) (v2 : Int32) (v3 : Int32) (v4 : Int32) (v5 : Int32) (v7 : Int32) (s0 : Int32) (s1 : Int32) (st : Mm) : Option (Int32 × Mm) :=
  if s0 = s1 then (lt_ (v4 + v7) (fun a2 => k16 v2 v3 v4 a2 st)) else (lt_ (v3 - (1 : Int32)) (fun a3 => k16 v2 a3 v4 v5 st))
def b_m_comesTo_135 (k16 : Int32 → Int32 → Int32 → Int32 → Mm → Option (Int32 × Mm)) (v2 : Int32) (v3 : Int32) (v4 : Int32) (v5 : Int32) (v6 : Int32) (v7 : Int32) (st : Mm) : Option (Int32 × Mm) :=
  if inb (v3 - (1 : Int32)) 180 then if v6 = (12 : Int32) then (b_m_comesTo_155 k16 v2 v3 v4 v5 v7 (st.1 70 (v3 - (1 : Int32)).toNatClampNeg) (1 : Int32) st) else (b_m_comesTo_155 k16 v2 v3 v4 v5 v7 (st.1 70 (v3 - (1 : Int32)).toNatClampNeg) (0 : Int32) st) else none
def b_m_comesTo_203 (k16 : Int32 → Int32 → Int32 → Int32 → Mm → Option (Int32 × Mm)) (v2 : Int32) (v3 : Int32) (v4 : Int32) (v5 : Int32) (v6 : Int32) (st : Mm) : Option (Int32 × Mm) :=
  if inb (v3 - (1 : Int32)) 180 then if inb v3 180 then (f_m_reckon v6 (st.1 70 (v3 - (1 : Int32)).toNatClampNeg) (st.1 70 v3.toNatClampNeg) st).bind (fun q3 => if inb (v3 - (1 : Int32)) 180 then k16 v2 v3 v4 v5 (sI q3.2 70 (v3 - (1 : Int32)).toNatClampNeg q3.1) else none) else none else none
def b_m_comesTo_192 (k16 : Int32 → Int32 → Int32 → Int32 → Mm → Option (Int32 × Mm)) (v2 : Int32) (v3 : Int32) (v4 : Int32) (v5 : Int32) (v6 : Int32) (st : Mm) : Option (Int32 × Mm) :=
  if inb v3 180 then if (st.1 70 v3.toNatClampNeg) = 0 then (some ((0 : Int32), st)) else (b_m_comesTo_203 k16 v2 v3 v4 v5 v6 st) else none
def b_m_comesTo_16 (k16 : Int32 → Int32 → Int32 → Int32 → Mm → Option (Int32 × Mm)) (v2 : Int32) (v3 : Int32) (v4 : Int32) (v5 : Int32) (st : Mm) : Option (Int32 × Mm) :=
  if v2 ≤ v5 then (some ((st.1 70 (0 : Int32).toNatClampNeg), st)) else (if inb v5 180 then lt_ ((st.1 68 v5.toNatClampNeg) / (1048576 : Int32)) (fun a3 => if inb v5 180 then lt_ ((st.1 68 v5.toNatClampNeg) - (st.1 68 v5.toNatClampNeg) / (1048576 : Int32) * (1048576 : Int32)) (fun a5 => lt_ (v5 + (1 : Int32)) (fun a6 => if a3 = 0 then (b_m_comesTo_63 k16 v2 v3 v4 a6 a3 a5 st) else (if a3 = (1 : Int32) then (b_m_comesTo_63 k16 v2 v3 v4 a6 a3 a5 st) else (if a3 = (10 : Int32) then (if inb (v3 - (1 : Int32)) 180 then lt_ ((1 : Int32) - (st.1 70 (v3 - (1 : Int32)).toNatClampNeg)) (fun a11 => if inb (v3 - (1 : Int32)) 180 then k16 v2 v3 v4 a6 (sI st 70 (v3 - (1 : Int32)).toNatClampNeg a11) else none) else none) else (if a3 = (11 : Int32) then (b_m_comesTo_135 k16 v2 v3 v4 a6 a3 a5 st) else (if a3 = (12 : Int32) then (b_m_comesTo_135 k16 v2 v3 v4 a6 a3 a5 st) else (lt_ (v3 - (1 : Int32)) (fun a15 => if a3 = (5 : Int32) then (b_m_comesTo_192 k16 v2 a15 v4 a6 a3 st) else (if a3 = (6 : Int32) then (b_m_comesTo_192 k16 v2 a15 v4 a6 a3 st) else (b_m_comesTo_203 k16 v2 a15 v4 a6 a3 st)))))))))) else none) else none)
def f_m_comesTo_16 : Nat → Int32 → Int32 → Int32 → Int32 → Mm → Option (Int32 × Mm)
  | 0 => fun _ _ _ _ _ => none
  | n + 1 => b_m_comesTo_16 (f_m_comesTo_16 n)
def f_m_comesTo (v1 : Int32) (v2 : Int32) (st : Mm) : Option (Int32 × Mm) :=
  lt_ ((180 : Int32) * (v1 / (180 : Int32))) (fun a1 => f_m_comesTo_16 1000000 v2 (0 : Int32) a1 v1 st)
theorem t_m_comesTo_63 {G : Cx} (C : CX G prog_14_method_39_code "PaperStarsModel") (CR0 : CR G (Option.some FieldType.int)) (E : LAin (gly G)) (hnL : gnL G = 8) (hgd : 1 ≤ gd G) {q : Int32 × Mm} (hgr : gr G = some (.int q.1)) (hgs : gsf G = q.2) (k16 : Int32 → Int32 → Int32 → Int32 → Mm → Option (Int32 × Mm)) (hk16 : ∀ (v2 : Int32) (v3 : Int32) (v4 : Int32) (v5 : Int32) (st : Mm), k16 v2 v3 v4 v5 st = some q → AW G st 16 [(0, .ref (gad G 58)), (2, .int v2), (3, .int v3), (4, .int v4), (5, .int v5)] []) (v2 : Int32) (v3 : Int32) (v4 : Int32) (v5 : Int32) (v6 : Int32) (v7 : Int32) (st : Mm) (hf : b_m_comesTo_63 k16 v2 v3 v4 v5 v6 v7 st = some q) : AW G st 63 [(0, .ref (gad G 58)), (2, .int v2), (3, .int v3), (4, .int v4), (5, .int v5), (6, .int v6), (7, .int v7)] [] := by
  unfold b_m_comesTo_63 at hf
  refine aw_aload_n C 0 0 (j := 0) rfl rfl (by decide +kernel) rfl ?_
  refine aw_getr C (k := 34) fc_12 (la_58 E) rfl (by decide) tb_976 (by decide +kernel) rfl ?_
  refine aw_iload_n C 3 2 (j := 3) rfl rfl (by decide +kernel) rfl ?_
  refine aw_iload C 6 5 rfl (by decide +kernel) rfl ?_
  refine aw_if_ne C (tgt := 78) (off := 8) (by decide +kernel) (by decide) rfl (fun c1 => ?_) (fun c1 => ?_)
  · have hf := ift c1 hf
    refine aw_iload C 7 6 rfl (by decide +kernel) rfl ?_
    refine aw_goto C (tgt := 85) (off := 10) (by decide +kernel) (by decide) ?_
    obtain ⟨g2, hf⟩ := igd hf
    refine aw_iast C (la_70 E) g2 (by decide +kernel) rfl ?_
    refine aw_iload_n C 3 2 (j := 3) rfl rfl (by decide +kernel) rfl ?_
    refine aw_iconst C (i0 := 1) (v := 1) (by decide) (by decide +kernel) rfl ?_
    refine aw_iadd C (by decide +kernel) rfl ?_
    obtain ⟨a3, ha3⟩ : ∃ z, z = (v3 + (1 : Int32)) := ⟨_, rfl⟩
    refine aw_nmi ha3 ?_
    have hf := ilt ha3 hf
    refine aw_istore_n C [(3, .int a3), (0, .ref (gad G 58)), (2, .int v2), (4, .int v4), (5, .int v5), (6, .int v6), (7, .int v7)] (j := 3) rfl (by rw [hnL]; decide) rfl (by decide +kernel) rfl ?_
    refine aw_goto C (tgt := 230) (off := 140) (by decide +kernel) (by decide) ?_
    refine aw_goto C (tgt := 16) (off := -214) (by decide +kernel) (by decide) ?_
    refine aw_sub [(0, .ref (gad G 58)), (2, .int v2), (3, .int a3), (4, .int v4), (5, .int v5)] [1, 2, 0, 3, 4] rfl ?_
    exact hk16 v2 a3 v4 v5 _ hf
  · have hf := iff_ c1 hf
    refine aw_aload_n C 0 0 (j := 0) rfl rfl (by decide +kernel) rfl ?_
    refine aw_getr C (k := 35) fc_12 (la_58 E) rfl (by decide) tb_977 (by decide +kernel) rfl ?_
    refine aw_iload C 7 6 rfl (by decide +kernel) rfl ?_
    obtain ⟨g4, hf⟩ := igd hf
    refine aw_iald C (la_71 E) g4 (by decide +kernel) rfl ?_
    obtain ⟨a5, ha5⟩ : ∃ z, z = (st.1 71 v7.toNatClampNeg) := ⟨_, rfl⟩
    refine aw_nmi ha5 ?_
    have hf := ilt ha5 hf
    obtain ⟨g6, hf⟩ := igd hf
    refine aw_iast C (la_70 E) g6 (by decide +kernel) rfl ?_
    refine aw_iload_n C 3 2 (j := 3) rfl rfl (by decide +kernel) rfl ?_
    refine aw_iconst C (i0 := 1) (v := 1) (by decide) (by decide +kernel) rfl ?_
    refine aw_iadd C (by decide +kernel) rfl ?_
    obtain ⟨a7, ha7⟩ : ∃ z, z = (v3 + (1 : Int32)) := ⟨_, rfl⟩
    refine aw_nmi ha7 ?_
    have hf := ilt ha7 hf
    refine aw_istore_n C [(3, .int a7), (0, .ref (gad G 58)), (2, .int v2), (4, .int v4), (5, .int v5), (6, .int v6), (7, .int v7)] (j := 3) rfl (by rw [hnL]; decide) rfl (by decide +kernel) rfl ?_
    refine aw_goto C (tgt := 230) (off := 140) (by decide +kernel) (by decide) ?_
    refine aw_goto C (tgt := 16) (off := -214) (by decide +kernel) (by decide) ?_
    refine aw_sub [(0, .ref (gad G 58)), (2, .int v2), (3, .int a7), (4, .int v4), (5, .int v5)] [1, 2, 0, 3, 4] rfl ?_
    exact hk16 v2 a7 v4 v5 _ hf
theorem t_m_comesTo_155 {G : Cx} (C : CX G prog_14_method_39_code "PaperStarsModel") (CR0 : CR G (Option.some FieldType.int)) (E : LAin (gly G)) (hnL : gnL G = 8) (hgd : 1 ≤ gd G) {q : Int32 × Mm} (hgr : gr G = some (.int q.1)) (hgs : gsf G = q.2) (k16 : Int32 → Int32 → Int32 → Int32 → Mm → Option (Int32 × Mm)) (hk16 : ∀ (v2 : Int32) (v3 : Int32) (v4 : Int32) (v5 : Int32) (st : Mm), k16 v2 v3 v4 v5 st = some q → AW G st 16 [(0, .ref (gad G 58)), (2, .int v2), (3, .int v3), (4, .int v4), (5, .int v5)] []) (v2 : Int32) (v3 : Int32) (v4 : Int32) (v5 : Int32) (v7 : Int32) (s0 : Int32) (s1 : Int32) (st : Mm) (hf : b_m_comesTo_155 k16 v2 v3 v4 v5 v7 s0 s1 st = some q) : AW G st 155 [(0, .ref (gad G 58)), (2, .int v2), (3, .int v3), (4, .int v4), (5, .int v5), (7, .int v7)] [.int s1, .int s0] := by
  unfold b_m_comesTo_155 at hf
  refine aw_icmp_ne C (tgt := 168) (off := 13) (by decide +kernel) (by decide) rfl (fun c1 => ?_) (fun c1 => ?_)
  · have hf := ift c1 hf
    refine aw_iload C 4 3 rfl (by decide +kernel) rfl ?_
    refine aw_iload C 7 5 rfl (by decide +kernel) rfl ?_
    refine aw_iadd C (by decide +kernel) rfl ?_
    obtain ⟨a2, ha2⟩ : ∃ z, z = (v4 + v7) := ⟨_, rfl⟩
    refine aw_nmi ha2 ?_
    have hf := ilt ha2 hf
    refine aw_istore C [(5, .int a2), (0, .ref (gad G 58)), (2, .int v2), (3, .int v3), (4, .int v4), (7, .int v7)] (by rw [hnL]; decide) rfl (by decide +kernel) rfl ?_
    refine aw_goto C (tgt := 230) (off := 65) (by decide +kernel) (by decide) ?_
    refine aw_goto C (tgt := 16) (off := -214) (by decide +kernel) (by decide) ?_
    refine aw_sub [(0, .ref (gad G 58)), (2, .int v2), (3, .int v3), (4, .int v4), (5, .int a2)] [1, 2, 3, 4, 0] rfl ?_
    exact hk16 v2 v3 v4 a2 _ hf
  · have hf := iff_ c1 hf
    refine aw_iload_n C 3 2 (j := 3) rfl rfl (by decide +kernel) rfl ?_
    refine aw_iconst C (i0 := 1) (v := 1) (by decide) (by decide +kernel) rfl ?_
    refine aw_isub C (by decide +kernel) rfl ?_
    obtain ⟨a3, ha3⟩ : ∃ z, z = (v3 - (1 : Int32)) := ⟨_, rfl⟩
    refine aw_nmi ha3 ?_
    have hf := ilt ha3 hf
    refine aw_istore_n C [(3, .int a3), (0, .ref (gad G 58)), (2, .int v2), (4, .int v4), (5, .int v5), (7, .int v7)] (j := 3) rfl (by rw [hnL]; decide) rfl (by decide +kernel) rfl ?_
    refine aw_goto C (tgt := 230) (off := 58) (by decide +kernel) (by decide) ?_
    refine aw_goto C (tgt := 16) (off := -214) (by decide +kernel) (by decide) ?_
    refine aw_sub [(0, .ref (gad G 58)), (2, .int v2), (3, .int a3), (4, .int v4), (5, .int v5)] [1, 2, 0, 3, 4] rfl ?_
    exact hk16 v2 a3 v4 v5 _ hf
theorem t_m_comesTo_135 {G : Cx} (C : CX G prog_14_method_39_code "PaperStarsModel") (CR0 : CR G (Option.some FieldType.int)) (E : LAin (gly G)) (hnL : gnL G = 8) (hgd : 1 ≤ gd G) {q : Int32 × Mm} (hgr : gr G = some (.int q.1)) (hgs : gsf G = q.2) (k16 : Int32 → Int32 → Int32 → Int32 → Mm → Option (Int32 × Mm)) (hk16 : ∀ (v2 : Int32) (v3 : Int32) (v4 : Int32) (v5 : Int32) (st : Mm), k16 v2 v3 v4 v5 st = some q → AW G st 16 [(0, .ref (gad G 58)), (2, .int v2), (3, .int v3), (4, .int v4), (5, .int v5)] []) (v2 : Int32) (v3 : Int32) (v4 : Int32) (v5 : Int32) (v6 : Int32) (v7 : Int32) (st : Mm) (hf : b_m_comesTo_135 k16 v2 v3 v4 v5 v6 v7 st = some q) : AW G st 135 [(0, .ref (gad G 58)), (2, .int v2), (3, .int v3), (4, .int v4), (5, .int v5), (6, .int v6), (7, .int v7)] [] := by
  unfold b_m_comesTo_135 at hf
  refine aw_aload_n C 0 0 (j := 0) rfl rfl (by decide +kernel) rfl ?_
  refine aw_getr C (k := 34) fc_12 (la_58 E) rfl (by decide) tb_976 (by decide +kernel) rfl ?_
  refine aw_iload_n C 3 2 (j := 3) rfl rfl (by decide +kernel) rfl ?_
  refine aw_iconst C (i0 := 1) (v := 1) (by decide) (by decide +kernel) rfl ?_
  refine aw_isub C (by decide +kernel) rfl ?_
  obtain ⟨g1, hf⟩ := igd hf
  refine aw_iald C (la_70 E) g1 (by decide +kernel) rfl ?_
  refine aw_iload C 6 5 rfl (by decide +kernel) rfl ?_
  refine aw_bipush C (i0 := 12) (v := 12) (by decide) (by decide +kernel) rfl ?_
  refine aw_icmp_ne C (tgt := 154) (off := 7) (by decide +kernel) (by decide) rfl (fun c2 => ?_) (fun c2 => ?_)
  · have hf := ift c2 hf
    refine aw_iconst C (i0 := 1) (v := 1) (by decide) (by decide +kernel) rfl ?_
    refine aw_goto C (tgt := 155) (off := 4) (by decide +kernel) (by decide) ?_
    refine aw_sub [(0, .ref (gad G 58)), (2, .int v2), (3, .int v3), (4, .int v4), (5, .int v5), (7, .int v7)] [0, 1, 2, 3, 4, 6] rfl ?_
    exact t_m_comesTo_155 C CR0 E hnL hgd hgr hgs k16 hk16 v2 v3 v4 v5 v7 (st.1 70 (v3 - (1 : Int32)).toNatClampNeg) (1 : Int32) _ hf
  · have hf := iff_ c2 hf
    refine aw_iconst C (i0 := 0) (v := 0) (by decide) (by decide +kernel) rfl ?_
    refine aw_sub [(0, .ref (gad G 58)), (2, .int v2), (3, .int v3), (4, .int v4), (5, .int v5), (7, .int v7)] [0, 1, 2, 3, 4, 6] rfl ?_
    exact t_m_comesTo_155 C CR0 E hnL hgd hgr hgs k16 hk16 v2 v3 v4 v5 v7 (st.1 70 (v3 - (1 : Int32)).toNatClampNeg) (0 : Int32) _ hf
theorem t_m_comesTo_203 {G : Cx} (C : CX G prog_14_method_39_code "PaperStarsModel") (CR0 : CR G (Option.some FieldType.int)) (E : LAin (gly G)) (hnL : gnL G = 8) (hgd : 1 ≤ gd G) {q : Int32 × Mm} (hgr : gr G = some (.int q.1)) (hgs : gsf G = q.2) (k16 : Int32 → Int32 → Int32 → Int32 → Mm → Option (Int32 × Mm)) (hk16 : ∀ (v2 : Int32) (v3 : Int32) (v4 : Int32) (v5 : Int32) (st : Mm), k16 v2 v3 v4 v5 st = some q → AW G st 16 [(0, .ref (gad G 58)), (2, .int v2), (3, .int v3), (4, .int v4), (5, .int v5)] []) (v2 : Int32) (v3 : Int32) (v4 : Int32) (v5 : Int32) (v6 : Int32) (st : Mm) (hf : b_m_comesTo_203 k16 v2 v3 v4 v5 v6 st = some q) : AW G st 203 [(0, .ref (gad G 58)), (2, .int v2), (3, .int v3), (4, .int v4), (5, .int v5), (6, .int v6)] [] := by
  unfold b_m_comesTo_203 at hf
  refine aw_aload_n C 0 0 (j := 0) rfl rfl (by decide +kernel) rfl ?_
  refine aw_getr C (k := 34) fc_12 (la_58 E) rfl (by decide) tb_976 (by decide +kernel) rfl ?_
  refine aw_iload_n C 3 2 (j := 3) rfl rfl (by decide +kernel) rfl ?_
  refine aw_iconst C (i0 := 1) (v := 1) (by decide) (by decide +kernel) rfl ?_
  refine aw_isub C (by decide +kernel) rfl ?_
  refine aw_iload C 6 5 rfl (by decide +kernel) rfl ?_
  refine aw_aload_n C 0 0 (j := 0) rfl rfl (by decide +kernel) rfl ?_
  refine aw_getr C (k := 34) fc_12 (la_58 E) rfl (by decide) tb_976 (by decide +kernel) rfl ?_
  refine aw_iload_n C 3 2 (j := 3) rfl rfl (by decide +kernel) rfl ?_
  refine aw_iconst C (i0 := 1) (v := 1) (by decide) (by decide +kernel) rfl ?_
  refine aw_isub C (by decide +kernel) rfl ?_
  obtain ⟨g1, hf⟩ := igd hf
  refine aw_iald C (la_70 E) g1 (by decide +kernel) rfl ?_
  refine aw_aload_n C 0 0 (j := 0) rfl rfl (by decide +kernel) rfl ?_
  refine aw_getr C (k := 34) fc_12 (la_58 E) rfl (by decide) tb_976 (by decide +kernel) rfl ?_
  refine aw_iload_n C 3 2 (j := 3) rfl rfl (by decide +kernel) rfl ?_
  obtain ⟨g2, hf⟩ := igd hf
  refine aw_iald C (la_70 E) g2 (by decide +kernel) rfl ?_
  obtain ⟨q3, hq3, hf⟩ := ibd hf
  refine aw_callS C (rest := [.int (v3 - (1 : Int32)), .ref (gad G 70)]) (c_m_reckon E v6 (st.1 70 (v3 - (1 : Int32)).toNatClampNeg) (st.1 70 v3.toNatClampNeg) _ q3 hq3) tb_1297 yf_181 tb_1298 rfl _ rfl (Nat.le_trans (by decide) hgd) (Nat.le_of_ble_eq_true rfl) (by decide +kernel) rfl ?_
  show AW _ _ _ _ [.int q3.1, .int (v3 - (1 : Int32)), .ref (gad G 70)]
  obtain ⟨g4, hf⟩ := igd hf
  refine aw_iast C (la_70 E) g4 (by decide +kernel) rfl ?_
  refine aw_goto C (tgt := 16) (off := -214) (by decide +kernel) (by decide) ?_
  refine aw_sub [(0, .ref (gad G 58)), (2, .int v2), (3, .int v3), (4, .int v4), (5, .int v5)] [0, 1, 2, 3, 4] rfl ?_
  exact hk16 v2 v3 v4 v5 _ hf
theorem t_m_comesTo_192 {G : Cx} (C : CX G prog_14_method_39_code "PaperStarsModel") (CR0 : CR G (Option.some FieldType.int)) (E : LAin (gly G)) (hnL : gnL G = 8) (hgd : 1 ≤ gd G) {q : Int32 × Mm} (hgr : gr G = some (.int q.1)) (hgs : gsf G = q.2) (k16 : Int32 → Int32 → Int32 → Int32 → Mm → Option (Int32 × Mm)) (hk16 : ∀ (v2 : Int32) (v3 : Int32) (v4 : Int32) (v5 : Int32) (st : Mm), k16 v2 v3 v4 v5 st = some q → AW G st 16 [(0, .ref (gad G 58)), (2, .int v2), (3, .int v3), (4, .int v4), (5, .int v5)] []) (v2 : Int32) (v3 : Int32) (v4 : Int32) (v5 : Int32) (v6 : Int32) (st : Mm) (hf : b_m_comesTo_192 k16 v2 v3 v4 v5 v6 st = some q) : AW G st 192 [(0, .ref (gad G 58)), (2, .int v2), (3, .int v3), (4, .int v4), (5, .int v5), (6, .int v6)] [] := by
  unfold b_m_comesTo_192 at hf
  refine aw_aload_n C 0 0 (j := 0) rfl rfl (by decide +kernel) rfl ?_
  refine aw_getr C (k := 34) fc_12 (la_58 E) rfl (by decide) tb_976 (by decide +kernel) rfl ?_
  refine aw_iload_n C 3 2 (j := 3) rfl rfl (by decide +kernel) rfl ?_
  obtain ⟨g1, hf⟩ := igd hf
  refine aw_iald C (la_70 E) g1 (by decide +kernel) rfl ?_
  refine aw_if_ne C (tgt := 203) (off := 5) (by decide +kernel) (by decide) rfl (fun c2 => ?_) (fun c2 => ?_)
  · have hf := ift c2 hf
    refine aw_iconst C (i0 := 0) (v := 0) (by decide) (by decide +kernel) rfl ?_
    exact aw_iretq C CR0 hgr hgs hf (by decide +kernel)
  · have hf := iff_ c2 hf
    exact t_m_comesTo_203 C CR0 E hnL hgd hgr hgs k16 hk16 v2 v3 v4 v5 v6 _ hf
theorem t_m_comesTo_16 {G : Cx} (C : CX G prog_14_method_39_code "PaperStarsModel") (CR0 : CR G (Option.some FieldType.int)) (E : LAin (gly G)) (hnL : gnL G = 8) (hgd : 1 ≤ gd G) {q : Int32 × Mm} (hgr : gr G = some (.int q.1)) (hgs : gsf G = q.2) (k16 : Int32 → Int32 → Int32 → Int32 → Mm → Option (Int32 × Mm)) (hk16 : ∀ (v2 : Int32) (v3 : Int32) (v4 : Int32) (v5 : Int32) (st : Mm), k16 v2 v3 v4 v5 st = some q → AW G st 16 [(0, .ref (gad G 58)), (2, .int v2), (3, .int v3), (4, .int v4), (5, .int v5)] []) (v2 : Int32) (v3 : Int32) (v4 : Int32) (v5 : Int32) (st : Mm) (hf : b_m_comesTo_16 k16 v2 v3 v4 v5 st = some q) : AW G st 16 [(0, .ref (gad G 58)), (2, .int v2), (3, .int v3), (4, .int v4), (5, .int v5)] [] := by
  unfold b_m_comesTo_16 at hf
  refine aw_iload C 5 4 rfl (by decide +kernel) rfl ?_
  refine aw_iload_n C 2 1 (j := 2) rfl rfl (by decide +kernel) rfl ?_
  refine aw_icmp_ge C (tgt := 233) (off := 214) (by decide +kernel) (by decide) rfl (fun c1 => ?_) (fun c1 => ?_)
  · have hf := ift c1 hf
    refine aw_aload_n C 0 0 (j := 0) rfl rfl (by decide +kernel) rfl ?_
    refine aw_getr C (k := 34) fc_12 (la_58 E) rfl (by decide) tb_976 (by decide +kernel) rfl ?_
    refine aw_iconst C (i0 := 0) (v := 0) (by decide) (by decide +kernel) rfl ?_
    refine aw_iald C (la_70 E) (by decide) (by decide +kernel) rfl ?_
    exact aw_iretq C CR0 hgr hgs hf (by decide +kernel)
  · have hf := iff_ c1 hf
    refine aw_aload_n C 0 0 (j := 0) rfl rfl (by decide +kernel) rfl ?_
    refine aw_getr C (k := 32) fc_12 (la_58 E) rfl (by decide) tb_974 (by decide +kernel) rfl ?_
    refine aw_iload C 5 4 rfl (by decide +kernel) rfl ?_
    obtain ⟨g2, hf⟩ := igd hf
    refine aw_iald C (la_68 E) g2 (by decide +kernel) rfl ?_
    refine aw_ldc C tb_1242 (by decide +kernel) rfl ?_
    refine aw_idiv C (by decide) (by decide +kernel) rfl ?_
    obtain ⟨a3, ha3⟩ : ∃ z, z = ((st.1 68 v5.toNatClampNeg) / (1048576 : Int32)) := ⟨_, rfl⟩
    refine aw_nmi ha3 ?_
    have hf := ilt ha3 hf
    refine aw_istore C [(6, .int a3), (0, .ref (gad G 58)), (2, .int v2), (3, .int v3), (4, .int v4), (5, .int v5)] (by rw [hnL]; decide) rfl (by decide +kernel) rfl ?_
    refine aw_aload_n C 0 1 (j := 0) rfl rfl (by decide +kernel) rfl ?_
    refine aw_getr C (k := 32) fc_12 (la_58 E) rfl (by decide) tb_974 (by decide +kernel) rfl ?_
    refine aw_iload C 5 5 rfl (by decide +kernel) rfl ?_
    obtain ⟨g4, hf⟩ := igd hf
    refine aw_iald C (la_68 E) g4 (by decide +kernel) rfl ?_
    refine aw_ldc C tb_1242 (by decide +kernel) rfl ?_
    refine aw_irem C (by decide) (by decide +kernel) rfl ?_
    obtain ⟨a5, ha5⟩ : ∃ z, z = ((st.1 68 v5.toNatClampNeg) - (st.1 68 v5.toNatClampNeg) / (1048576 : Int32) * (1048576 : Int32)) := ⟨_, rfl⟩
    refine aw_nmi ha5 ?_
    have hf := ilt ha5 hf
    refine aw_istore C [(7, .int a5), (6, .int a3), (0, .ref (gad G 58)), (2, .int v2), (3, .int v3), (4, .int v4), (5, .int v5)] (by rw [hnL]; decide) rfl (by decide +kernel) rfl ?_
    refine aw_iload C 5 6 rfl (by decide +kernel) rfl ?_
    refine aw_iconst C (i0 := 1) (v := 1) (by decide) (by decide +kernel) rfl ?_
    refine aw_iadd C (by decide +kernel) rfl ?_
    obtain ⟨a6, ha6⟩ : ∃ z, z = (v5 + (1 : Int32)) := ⟨_, rfl⟩
    refine aw_nmi ha6 ?_
    have hf := ilt ha6 hf
    refine aw_istore C [(5, .int a6), (7, .int a5), (6, .int a3), (0, .ref (gad G 58)), (2, .int v2), (3, .int v3), (4, .int v4)] (by rw [hnL]; decide) rfl (by decide +kernel) rfl ?_
    refine aw_iload C 6 2 rfl (by decide +kernel) rfl ?_
    refine aw_if_eq C (tgt := 63) (off := 9) (by decide +kernel) (by decide) rfl (fun c7 => ?_) (fun c7 => ?_)
    · have hf := ift c7 hf
      refine aw_sub [(0, .ref (gad G 58)), (2, .int v2), (3, .int v3), (4, .int v4), (5, .int a6), (6, .int a3), (7, .int a5)] [3, 4, 5, 6, 0, 2, 1] rfl ?_
      exact t_m_comesTo_63 C CR0 E hnL hgd hgr hgs k16 hk16 v2 v3 v4 a6 a3 a5 _ hf
    · have hf := iff_ c7 hf
      refine aw_iload C 6 2 rfl (by decide +kernel) rfl ?_
      refine aw_iconst C (i0 := 1) (v := 1) (by decide) (by decide +kernel) rfl ?_
      refine aw_icmp_ne C (tgt := 93) (off := 33) (by decide +kernel) (by decide) rfl (fun c8 => ?_) (fun c8 => ?_)
      · have hf := ift c8 hf
        refine aw_sub [(0, .ref (gad G 58)), (2, .int v2), (3, .int v3), (4, .int v4), (5, .int a6), (6, .int a3), (7, .int a5)] [3, 4, 5, 6, 0, 2, 1] rfl ?_
        exact t_m_comesTo_63 C CR0 E hnL hgd hgr hgs k16 hk16 v2 v3 v4 a6 a3 a5 _ hf
      · have hf := iff_ c8 hf
        refine aw_iload C 6 2 rfl (by decide +kernel) rfl ?_
        refine aw_bipush C (i0 := 10) (v := 10) (by decide) (by decide +kernel) rfl ?_
        refine aw_icmp_ne C (tgt := 121) (off := 24) (by decide +kernel) (by decide) rfl (fun c9 => ?_) (fun c9 => ?_)
        · have hf := ift c9 hf
          refine aw_aload_n C 0 3 (j := 0) rfl rfl (by decide +kernel) rfl ?_
          refine aw_getr C (k := 34) fc_12 (la_58 E) rfl (by decide) tb_976 (by decide +kernel) rfl ?_
          refine aw_iload_n C 3 5 (j := 3) rfl rfl (by decide +kernel) rfl ?_
          refine aw_iconst C (i0 := 1) (v := 1) (by decide) (by decide +kernel) rfl ?_
          refine aw_isub C (by decide +kernel) rfl ?_
          refine aw_iconst C (i0 := 1) (v := 1) (by decide) (by decide +kernel) rfl ?_
          refine aw_aload_n C 0 3 (j := 0) rfl rfl (by decide +kernel) rfl ?_
          refine aw_getr C (k := 34) fc_12 (la_58 E) rfl (by decide) tb_976 (by decide +kernel) rfl ?_
          refine aw_iload_n C 3 5 (j := 3) rfl rfl (by decide +kernel) rfl ?_
          refine aw_iconst C (i0 := 1) (v := 1) (by decide) (by decide +kernel) rfl ?_
          refine aw_isub C (by decide +kernel) rfl ?_
          obtain ⟨g10, hf⟩ := igd hf
          refine aw_iald C (la_70 E) g10 (by decide +kernel) rfl ?_
          refine aw_isub C (by decide +kernel) rfl ?_
          obtain ⟨a11, ha11⟩ : ∃ z, z = ((1 : Int32) - (st.1 70 (v3 - (1 : Int32)).toNatClampNeg)) := ⟨_, rfl⟩
          refine aw_nmi ha11 ?_
          have hf := ilt ha11 hf
          obtain ⟨g12, hf⟩ := igd hf
          refine aw_iast C (la_70 E) g12 (by decide +kernel) rfl ?_
          refine aw_goto C (tgt := 230) (off := 112) (by decide +kernel) (by decide) ?_
          refine aw_goto C (tgt := 16) (off := -214) (by decide +kernel) (by decide) ?_
          refine aw_sub [(0, .ref (gad G 58)), (2, .int v2), (3, .int v3), (4, .int v4), (5, .int a6)] [3, 4, 5, 6, 0] rfl ?_
          exact hk16 v2 v3 v4 a6 _ hf
        · have hf := iff_ c9 hf
          refine aw_iload C 6 2 rfl (by decide +kernel) rfl ?_
          refine aw_bipush C (i0 := 11) (v := 11) (by decide) (by decide +kernel) rfl ?_
          refine aw_icmp_eq C (tgt := 135) (off := 10) (by decide +kernel) (by decide) rfl (fun c13 => ?_) (fun c13 => ?_)
          · have hf := ift c13 hf
            refine aw_sub [(0, .ref (gad G 58)), (2, .int v2), (3, .int v3), (4, .int v4), (5, .int a6), (6, .int a3), (7, .int a5)] [3, 4, 5, 6, 0, 2, 1] rfl ?_
            exact t_m_comesTo_135 C CR0 E hnL hgd hgr hgs k16 hk16 v2 v3 v4 a6 a3 a5 _ hf
          · have hf := iff_ c13 hf
            refine aw_iload C 6 2 rfl (by decide +kernel) rfl ?_
            refine aw_bipush C (i0 := 12) (v := 12) (by decide) (by decide +kernel) rfl ?_
            refine aw_icmp_ne C (tgt := 175) (off := 43) (by decide +kernel) (by decide) rfl (fun c14 => ?_) (fun c14 => ?_)
            · have hf := ift c14 hf
              refine aw_sub [(0, .ref (gad G 58)), (2, .int v2), (3, .int v3), (4, .int v4), (5, .int a6), (6, .int a3), (7, .int a5)] [3, 4, 5, 6, 0, 2, 1] rfl ?_
              exact t_m_comesTo_135 C CR0 E hnL hgd hgr hgs k16 hk16 v2 v3 v4 a6 a3 a5 _ hf
            · have hf := iff_ c14 hf
              refine aw_iload_n C 3 5 (j := 3) rfl rfl (by decide +kernel) rfl ?_
              refine aw_iconst C (i0 := 1) (v := 1) (by decide) (by decide +kernel) rfl ?_
              refine aw_isub C (by decide +kernel) rfl ?_
              obtain ⟨a15, ha15⟩ : ∃ z, z = (v3 - (1 : Int32)) := ⟨_, rfl⟩
              refine aw_nmi ha15 ?_
              have hf := ilt ha15 hf
              refine aw_istore_n C [(3, .int a15), (5, .int a6), (7, .int a5), (6, .int a3), (0, .ref (gad G 58)), (2, .int v2), (4, .int v4)] (j := 3) rfl (by rw [hnL]; decide) rfl (by decide +kernel) rfl ?_
              refine aw_iload C 6 3 rfl (by decide +kernel) rfl ?_
              refine aw_iconst C (i0 := 5) (v := 5) (by decide) (by decide +kernel) rfl ?_
              refine aw_icmp_eq C (tgt := 192) (off := 10) (by decide +kernel) (by decide) rfl (fun c16 => ?_) (fun c16 => ?_)
              · have hf := ift c16 hf
                refine aw_sub [(0, .ref (gad G 58)), (2, .int v2), (3, .int a15), (4, .int v4), (5, .int a6), (6, .int a3)] [4, 5, 0, 6, 1, 3] rfl ?_
                exact t_m_comesTo_192 C CR0 E hnL hgd hgr hgs k16 hk16 v2 a15 v4 a6 a3 _ hf
              · have hf := iff_ c16 hf
                refine aw_iload C 6 3 rfl (by decide +kernel) rfl ?_
                refine aw_bipush C (i0 := 6) (v := 6) (by decide) (by decide +kernel) rfl ?_
                refine aw_icmp_ne C (tgt := 203) (off := 14) (by decide +kernel) (by decide) rfl (fun c17 => ?_) (fun c17 => ?_)
                · have hf := ift c17 hf
                  refine aw_sub [(0, .ref (gad G 58)), (2, .int v2), (3, .int a15), (4, .int v4), (5, .int a6), (6, .int a3)] [4, 5, 0, 6, 1, 3] rfl ?_
                  exact t_m_comesTo_192 C CR0 E hnL hgd hgr hgs k16 hk16 v2 a15 v4 a6 a3 _ hf
                · have hf := iff_ c17 hf
                  refine aw_sub [(0, .ref (gad G 58)), (2, .int v2), (3, .int a15), (4, .int v4), (5, .int a6), (6, .int a3)] [4, 5, 0, 6, 1, 3] rfl ?_
                  exact t_m_comesTo_203 C CR0 E hnL hgd hgr hgs k16 hk16 v2 a15 v4 a6 a3 _ hf
theorem u_m_comesTo_16 {G : Cx} (C : CX G prog_14_method_39_code "PaperStarsModel") (CR0 : CR G (Option.some FieldType.int)) (E : LAin (gly G)) (hnL : gnL G = 8) (hgd : 1 ≤ gd G) {q : Int32 × Mm} (hgr : gr G = some (.int q.1)) (hgs : gsf G = q.2) : ∀ (n : Nat) (v2 : Int32) (v3 : Int32) (v4 : Int32) (v5 : Int32) (st : Mm), f_m_comesTo_16 n v2 v3 v4 v5 st = some q → AW G st 16 [(0, .ref (gad G 58)), (2, .int v2), (3, .int v3), (4, .int v4), (5, .int v5)] [] := by
  intro n
  induction n with
  | zero => intro v2 v3 v4 v5 st hf; cases hf
  | succ n ih => intro v2 v3 v4 v5 st hf; exact t_m_comesTo_16 C CR0 E hnL hgd hgr hgs (f_m_comesTo_16 n) ih v2 v3 v4 v5 st hf
theorem t_m_comesTo {G : Cx} (C : CX G prog_14_method_39_code "PaperStarsModel") (CR0 : CR G (Option.some FieldType.int)) (E : LAin (gly G)) (hnL : gnL G = 8) (hgd : 1 ≤ gd G) {q : Int32 × Mm} (hgr : gr G = some (.int q.1)) (hgs : gsf G = q.2) (v1 : Int32) (v2 : Int32) (st : Mm) (hf : f_m_comesTo v1 v2 st = some q) : AW G st 0 [(0, .ref (gad G 58)), (1, .int v1), (2, .int v2)] [] := by
  unfold f_m_comesTo at hf
  refine aw_iconst C (i0 := 0) (v := 0) (by decide) (by decide +kernel) rfl ?_
  refine aw_istore_n C [(3, .int (0 : Int32)), (0, .ref (gad G 58)), (1, .int v1), (2, .int v2)] (j := 3) rfl (by rw [hnL]; decide) rfl (by decide +kernel) rfl ?_
  refine aw_sipush C (i0 := 180) (v := 180) (by decide) (by decide +kernel) rfl ?_
  refine aw_iload_n C 1 2 (j := 1) rfl rfl (by decide +kernel) rfl ?_
  refine aw_sipush C (i0 := 180) (v := 180) (by decide) (by decide +kernel) rfl ?_
  refine aw_idiv C (by decide) (by decide +kernel) rfl ?_
  refine aw_imul C (by decide +kernel) rfl ?_
  obtain ⟨a1, ha1⟩ : ∃ z, z = ((180 : Int32) * (v1 / (180 : Int32))) := ⟨_, rfl⟩
  refine aw_nmi ha1 ?_
  have hf := ilt ha1 hf
  refine aw_istore C [(4, .int a1), (3, .int (0 : Int32)), (0, .ref (gad G 58)), (1, .int v1), (2, .int v2)] (by rw [hnL]; decide) rfl (by decide +kernel) rfl ?_
  refine aw_iload_n C 1 3 (j := 1) rfl rfl (by decide +kernel) rfl ?_
  refine aw_istore C [(5, .int v1), (4, .int a1), (3, .int (0 : Int32)), (0, .ref (gad G 58)), (1, .int v1), (2, .int v2)] (by rw [hnL]; decide) rfl (by decide +kernel) rfl ?_
  refine aw_sub [(0, .ref (gad G 58)), (2, .int v2), (3, .int (0 : Int32)), (4, .int a1), (5, .int v1)] [3, 5, 2, 1, 0] rfl ?_
  exact u_m_comesTo_16 C CR0 E hnL hgd hgr hgs _ v2 (0 : Int32) a1 v1 _ hf
theorem c_m_comesTo {lay : Ly} (E : LAin lay) (v1 : Int32) (v2 : Int32) (st : Mm) (q : Int32 × Mm) (hf : f_m_comesTo v1 v2 st = some q) : Con 1 Y180 prog_14_method_39_code 8 (Option.some FieldType.int) lay (fun ad => [.ref (ad 58), .int v1, .int v2]) st (some (.int q.1)) q.2 :=
  am_met yf_180.2.2.2.2.2 (fun ad => Nat.le_of_ble_eq_true rfl) (fun G C CR0 e1 e2 e3 e4 e5 => t_m_comesTo C CR0 (by rw [e1]; exact E) e2 (Nat.le_of_eq e5.symm) e3 e4 v1 v2 st hf)
def f_m_notes (v1 : Int32) (v2 : Int32) (st : Mm) : Option (Unit × Mm) :=
  lt_ (((1048576 : Int32) * v1) + v2) (fun a1 => if inb (st.1 58 24) 180 then lt_ (((sI st 66 (st.1 58 24).toNatClampNeg a1).1 58 24) + (1 : Int32)) (fun a3 => some ((), (sI (sI st 66 (st.1 58 24).toNatClampNeg a1) 58 24 a3))) else none)
theorem t_m_notes {G : Cx} (C : CX G prog_14_method_24_code "PaperStarsModel") (CR0 : CR G (Option.none)) (E : LAin (gly G)) (hnL : gnL G = 3) (hgd : 0 ≤ gd G) {q : Unit × Mm} (hgr : gr G = none) (hgs : gsf G = q.2) (v1 : Int32) (v2 : Int32) (st : Mm) (hf : f_m_notes v1 v2 st = some q) : AW G st 0 [(0, .ref (gad G 58)), (1, .int v1), (2, .int v2)] [] := by
  unfold f_m_notes at hf
  refine aw_aload_n C 0 0 (j := 0) rfl rfl (by decide +kernel) rfl ?_
  refine aw_getr C (k := 30) fc_12 (la_58 E) rfl (by decide) tb_972 (by decide +kernel) rfl ?_
  refine aw_aload_n C 0 0 (j := 0) rfl rfl (by decide +kernel) rfl ?_
  refine aw_get C (k := 24) fc_12 (la_58 E) rfl (by decide) tb_966 (by decide +kernel) rfl ?_
  refine aw_ldc C tb_1242 (by decide +kernel) rfl ?_
  refine aw_iload_n C 1 1 (j := 1) rfl rfl (by decide +kernel) rfl ?_
  refine aw_imul C (by decide +kernel) rfl ?_
  refine aw_iload_n C 2 2 (j := 2) rfl rfl (by decide +kernel) rfl ?_
  refine aw_iadd C (by decide +kernel) rfl ?_
  obtain ⟨a1, ha1⟩ : ∃ z, z = (((1048576 : Int32) * v1) + v2) := ⟨_, rfl⟩
  refine aw_nmi ha1 ?_
  have hf := ilt ha1 hf
  obtain ⟨g2, hf⟩ := igd hf
  refine aw_iast C (la_66 E) g2 (by decide +kernel) rfl ?_
  refine aw_aload_n C 0 0 (j := 0) rfl rfl (by decide +kernel) rfl ?_
  refine aw_aload_n C 0 0 (j := 0) rfl rfl (by decide +kernel) rfl ?_
  refine aw_get C (k := 24) fc_12 (la_58 E) rfl (by decide) tb_966 (by decide +kernel) rfl ?_
  refine aw_iconst C (i0 := 1) (v := 1) (by decide) (by decide +kernel) rfl ?_
  refine aw_iadd C (by decide +kernel) rfl ?_
  obtain ⟨a3, ha3⟩ : ∃ z, z = (((sI st 66 (st.1 58 24).toNatClampNeg a1).1 58 24) + (1 : Int32)) := ⟨_, rfl⟩
  refine aw_nmi ha3 ?_
  have hf := ilt ha3 hf
  refine aw_put C (k := 24) fc_12 (la_58 E) rfl (by decide) rfl rfl tb_966 (by decide +kernel) rfl ?_
  exact aw_vretq C CR0 hgr hgs hf (by decide +kernel)
theorem c_m_notes {lay : Ly} (E : LAin lay) (v1 : Int32) (v2 : Int32) (st : Mm) (q : Unit × Mm) (hf : f_m_notes v1 v2 st = some q) : Con 0 Y171 prog_14_method_24_code 3 (Option.none) lay (fun ad => [.ref (ad 58), .int v1, .int v2]) st (none) q.2 :=
  am_met yf_171.2.2.2.2.2 (fun ad => Nat.le_of_ble_eq_true rfl) (fun G C CR0 e1 e2 e3 e4 e5 => t_m_notes C CR0 (by rw [e1]; exact E) e2 (Nat.le_of_eq e5.symm) e3 e4 v1 v2 st hf)
def f_m_waitTop (st : Mm) : Option (Int32 × Mm) :=
  if (st.1 58 25) = 0 then (some ((-1 : Int32), st)) else (if inb ((st.1 58 25) - (1 : Int32)) 180 then some (((st.1 67 ((st.1 58 25) - (1 : Int32)).toNatClampNeg) / (1048576 : Int32)), st) else none)
theorem t_m_waitTop {G : Cx} (C : CX G prog_14_method_26_code "PaperStarsModel") (CR0 : CR G (Option.some FieldType.int)) (E : LAin (gly G)) (hnL : gnL G = 1) (hgd : 0 ≤ gd G) {q : Int32 × Mm} (hgr : gr G = some (.int q.1)) (hgs : gsf G = q.2) (st : Mm) (hf : f_m_waitTop st = some q) : AW G st 0 [(0, .ref (gad G 58))] [] := by
  unfold f_m_waitTop at hf
  refine aw_aload_n C 0 0 (j := 0) rfl rfl (by decide +kernel) rfl ?_
  refine aw_get C (k := 25) fc_12 (la_58 E) rfl (by decide) tb_967 (by decide +kernel) rfl ?_
  refine aw_if_ne C (tgt := 11) (off := 7) (by decide +kernel) (by decide) rfl (fun c1 => ?_) (fun c1 => ?_)
  · have hf := ift c1 hf
    refine aw_iconst C (i0 := -1) (v := -1) (by decide) (by decide +kernel) rfl ?_
    refine aw_goto C (tgt := 25) (off := 17) (by decide +kernel) (by decide) ?_
    exact aw_iretq C CR0 hgr hgs hf (by decide +kernel)
  · have hf := iff_ c1 hf
    refine aw_aload_n C 0 0 (j := 0) rfl rfl (by decide +kernel) rfl ?_
    refine aw_getr C (k := 31) fc_12 (la_58 E) rfl (by decide) tb_973 (by decide +kernel) rfl ?_
    refine aw_aload_n C 0 0 (j := 0) rfl rfl (by decide +kernel) rfl ?_
    refine aw_get C (k := 25) fc_12 (la_58 E) rfl (by decide) tb_967 (by decide +kernel) rfl ?_
    refine aw_iconst C (i0 := 1) (v := 1) (by decide) (by decide +kernel) rfl ?_
    refine aw_isub C (by decide +kernel) rfl ?_
    obtain ⟨g2, hf⟩ := igd hf
    refine aw_iald C (la_67 E) g2 (by decide +kernel) rfl ?_
    refine aw_ldc C tb_1242 (by decide +kernel) rfl ?_
    refine aw_idiv C (by decide) (by decide +kernel) rfl ?_
    exact aw_iretq C CR0 hgr hgs hf (by decide +kernel)
theorem c_m_waitTop {lay : Ly} (E : LAin lay) (st : Mm) (q : Int32 × Mm) (hf : f_m_waitTop st = some q) : Con 0 Y175 prog_14_method_26_code 1 (Option.some FieldType.int) lay (fun ad => [.ref (ad 58)]) st (some (.int q.1)) q.2 :=
  am_met yf_175.2.2.2.2.2 (fun ad => Nat.le_of_ble_eq_true rfl) (fun G C CR0 e1 e2 e3 e4 e5 => t_m_waitTop C CR0 (by rw [e1]; exact E) e2 (Nat.le_of_eq e5.symm) e3 e4 st hf)
def b_m_endsPiece_0 (k0 : Mm → Option (Unit × Mm)) (st : Mm) : Option (Unit × Mm) :=
  (f_m_waitTop st).bind (fun q1 => if q1.1 = (10 : Int32) then ((f_m_notes (10 : Int32) (0 : Int32) q1.2).bind (fun q3 => lt_ ((q3.2.1 58 25) - (1 : Int32)) (fun a4 => lt_ (((sI q3.2 58 25 a4).1 58 23) - (1 : Int32)) (fun a5 => k0 (sI (sI q3.2 58 25 a4) 58 23 a5))))) else (some ((), q1.2)))
def f_m_endsPiece_0 : Nat → Mm → Option (Unit × Mm)
  | 0 => fun  _ => none
  | n + 1 => b_m_endsPiece_0 (f_m_endsPiece_0 n)
def f_m_endsPiece (st : Mm) : Option (Unit × Mm) :=
  f_m_endsPiece_0 1000000 st
theorem t_m_endsPiece_0 {G : Cx} (C : CX G prog_14_method_33_code "PaperStarsModel") (CR0 : CR G (Option.none)) (E : LAin (gly G)) (hnL : gnL G = 1) (hgd : 1 ≤ gd G) {q : Unit × Mm} (hgr : gr G = none) (hgs : gsf G = q.2) (k0 : Mm → Option (Unit × Mm)) (hk0 : ∀ (st : Mm), k0 st = some q → AW G st 0 [(0, .ref (gad G 58))] []) (st : Mm) (hf : b_m_endsPiece_0 k0 st = some q) : AW G st 0 [(0, .ref (gad G 58))] [] := by
  unfold b_m_endsPiece_0 at hf
  refine aw_aload_n C 0 0 (j := 0) rfl rfl (by decide +kernel) rfl ?_
  obtain ⟨q1, hq1, hf⟩ := ibd hf
  refine aw_callV C (rest := []) (c_m_waitTop E _ q1 hq1) tb_1273 yf_175 yi_175 (la_58 E) [] rfl rfl _ rfl (Nat.le_trans (by decide) hgd) (Nat.le_of_ble_eq_true rfl) (by decide +kernel) rfl ?_
  show AW _ _ _ _ [.int q1.1]
  refine aw_bipush C (i0 := 10) (v := 10) (by decide) (by decide +kernel) rfl ?_
  refine aw_icmp_ne C (tgt := 39) (off := 33) (by decide +kernel) (by decide) rfl (fun c2 => ?_) (fun c2 => ?_)
  · have hf := ift c2 hf
    refine aw_aload_n C 0 0 (j := 0) rfl rfl (by decide +kernel) rfl ?_
    refine aw_bipush C (i0 := 10) (v := 10) (by decide) (by decide +kernel) rfl ?_
    refine aw_iconst C (i0 := 0) (v := 0) (by decide) (by decide +kernel) rfl ?_
    obtain ⟨q3, hq3, hf⟩ := ibd hf
    refine aw_callV C (rest := []) (c_m_notes E (10 : Int32) (0 : Int32) _ q3 hq3) tb_1259 yf_171 yi_171 (la_58 E) [.int (10 : Int32), .int (0 : Int32)] rfl rfl _ rfl (Nat.le_trans (by decide) hgd) (Nat.le_of_ble_eq_true rfl) (by decide +kernel) rfl ?_
    show AW _ _ _ _ []
    refine aw_aload_n C 0 0 (j := 0) rfl rfl (by decide +kernel) rfl ?_
    refine aw_aload_n C 0 0 (j := 0) rfl rfl (by decide +kernel) rfl ?_
    refine aw_get C (k := 25) fc_12 (la_58 E) rfl (by decide) tb_967 (by decide +kernel) rfl ?_
    refine aw_iconst C (i0 := 1) (v := 1) (by decide) (by decide +kernel) rfl ?_
    refine aw_isub C (by decide +kernel) rfl ?_
    obtain ⟨a4, ha4⟩ : ∃ z, z = ((q3.2.1 58 25) - (1 : Int32)) := ⟨_, rfl⟩
    refine aw_nmi ha4 ?_
    have hf := ilt ha4 hf
    refine aw_put C (k := 25) fc_12 (la_58 E) rfl (by decide) rfl rfl tb_967 (by decide +kernel) rfl ?_
    refine aw_aload_n C 0 0 (j := 0) rfl rfl (by decide +kernel) rfl ?_
    refine aw_aload_n C 0 0 (j := 0) rfl rfl (by decide +kernel) rfl ?_
    refine aw_get C (k := 23) fc_12 (la_58 E) rfl (by decide) tb_965 (by decide +kernel) rfl ?_
    refine aw_iconst C (i0 := 1) (v := 1) (by decide) (by decide +kernel) rfl ?_
    refine aw_isub C (by decide +kernel) rfl ?_
    obtain ⟨a5, ha5⟩ : ∃ z, z = (((sI q3.2 58 25 a4).1 58 23) - (1 : Int32)) := ⟨_, rfl⟩
    refine aw_nmi ha5 ?_
    have hf := ilt ha5 hf
    refine aw_put C (k := 23) fc_12 (la_58 E) rfl (by decide) rfl rfl tb_965 (by decide +kernel) rfl ?_
    refine aw_goto C (tgt := 0) (off := -36) (by decide +kernel) (by decide) ?_
    exact hk0 _ hf
  · have hf := iff_ c2 hf
    exact aw_vretq C CR0 hgr hgs hf (by decide +kernel)
theorem u_m_endsPiece_0 {G : Cx} (C : CX G prog_14_method_33_code "PaperStarsModel") (CR0 : CR G (Option.none)) (E : LAin (gly G)) (hnL : gnL G = 1) (hgd : 1 ≤ gd G) {q : Unit × Mm} (hgr : gr G = none) (hgs : gsf G = q.2) : ∀ (n : Nat) (st : Mm), f_m_endsPiece_0 n st = some q → AW G st 0 [(0, .ref (gad G 58))] [] := by
  intro n
  induction n with
  | zero => intro st hf; cases hf
  | succ n ih => intro st hf; exact t_m_endsPiece_0 C CR0 E hnL hgd hgr hgs (f_m_endsPiece_0 n) ih st hf
theorem t_m_endsPiece {G : Cx} (C : CX G prog_14_method_33_code "PaperStarsModel") (CR0 : CR G (Option.none)) (E : LAin (gly G)) (hnL : gnL G = 1) (hgd : 1 ≤ gd G) {q : Unit × Mm} (hgr : gr G = none) (hgs : gsf G = q.2) (st : Mm) (hf : f_m_endsPiece st = some q) : AW G st 0 [(0, .ref (gad G 58))] [] := by
  unfold f_m_endsPiece at hf
  exact u_m_endsPiece_0 C CR0 E hnL hgd hgr hgs _ _ hf
theorem c_m_endsPiece {lay : Ly} (E : LAin lay) (st : Mm) (q : Unit × Mm) (hf : f_m_endsPiece st = some q) : Con 1 Y177 prog_14_method_33_code 1 (Option.none) lay (fun ad => [.ref (ad 58)]) st (none) q.2 :=
  am_met yf_177.2.2.2.2.2 (fun ad => Nat.le_of_ble_eq_true rfl) (fun G C CR0 e1 e2 e3 e4 e5 => t_m_endsPiece C CR0 (by rw [e1]; exact E) e2 (Nat.le_of_eq e5.symm) e3 e4 st hf)
def f_m_jumps (v1 : Int32) (st : Mm) : Option (Unit × Mm) :=
  lt_ (((1048576 : Int32) * v1) + (st.1 58 24)) (fun a1 => if inb (st.1 58 25) 180 then lt_ (((sI st 67 (st.1 58 25).toNatClampNeg a1).1 58 25) + (1 : Int32)) (fun a3 => (f_m_notes v1 (0 : Int32) (sI (sI st 67 (st.1 58 25).toNatClampNeg a1) 58 25 a3)).bind (fun q4 => lt_ ((q4.2.1 58 20) + (1 : Int32)) (fun a5 => some ((), (sI q4.2 58 20 a5))))) else none)
theorem t_m_jumps {G : Cx} (C : CX G prog_14_method_35_code "PaperStarsModel") (CR0 : CR G (Option.none)) (E : LAin (gly G)) (hnL : gnL G = 2) (hgd : 1 ≤ gd G) {q : Unit × Mm} (hgr : gr G = none) (hgs : gsf G = q.2) (v1 : Int32) (st : Mm) (hf : f_m_jumps v1 st = some q) : AW G st 0 [(0, .ref (gad G 58)), (1, .int v1)] [] := by
  unfold f_m_jumps at hf
  refine aw_aload_n C 0 0 (j := 0) rfl rfl (by decide +kernel) rfl ?_
  refine aw_getr C (k := 31) fc_12 (la_58 E) rfl (by decide) tb_973 (by decide +kernel) rfl ?_
  refine aw_aload_n C 0 0 (j := 0) rfl rfl (by decide +kernel) rfl ?_
  refine aw_get C (k := 25) fc_12 (la_58 E) rfl (by decide) tb_967 (by decide +kernel) rfl ?_
  refine aw_ldc C tb_1242 (by decide +kernel) rfl ?_
  refine aw_iload_n C 1 1 (j := 1) rfl rfl (by decide +kernel) rfl ?_
  refine aw_imul C (by decide +kernel) rfl ?_
  refine aw_aload_n C 0 0 (j := 0) rfl rfl (by decide +kernel) rfl ?_
  refine aw_get C (k := 24) fc_12 (la_58 E) rfl (by decide) tb_966 (by decide +kernel) rfl ?_
  refine aw_iadd C (by decide +kernel) rfl ?_
  obtain ⟨a1, ha1⟩ : ∃ z, z = (((1048576 : Int32) * v1) + (st.1 58 24)) := ⟨_, rfl⟩
  refine aw_nmi ha1 ?_
  have hf := ilt ha1 hf
  obtain ⟨g2, hf⟩ := igd hf
  refine aw_iast C (la_67 E) g2 (by decide +kernel) rfl ?_
  refine aw_aload_n C 0 0 (j := 0) rfl rfl (by decide +kernel) rfl ?_
  refine aw_aload_n C 0 0 (j := 0) rfl rfl (by decide +kernel) rfl ?_
  refine aw_get C (k := 25) fc_12 (la_58 E) rfl (by decide) tb_967 (by decide +kernel) rfl ?_
  refine aw_iconst C (i0 := 1) (v := 1) (by decide) (by decide +kernel) rfl ?_
  refine aw_iadd C (by decide +kernel) rfl ?_
  obtain ⟨a3, ha3⟩ : ∃ z, z = (((sI st 67 (st.1 58 25).toNatClampNeg a1).1 58 25) + (1 : Int32)) := ⟨_, rfl⟩
  refine aw_nmi ha3 ?_
  have hf := ilt ha3 hf
  refine aw_put C (k := 25) fc_12 (la_58 E) rfl (by decide) rfl rfl tb_967 (by decide +kernel) rfl ?_
  refine aw_aload_n C 0 0 (j := 0) rfl rfl (by decide +kernel) rfl ?_
  refine aw_iload_n C 1 1 (j := 1) rfl rfl (by decide +kernel) rfl ?_
  refine aw_iconst C (i0 := 0) (v := 0) (by decide) (by decide +kernel) rfl ?_
  obtain ⟨q4, hq4, hf⟩ := ibd hf
  refine aw_callV C (rest := []) (c_m_notes E v1 (0 : Int32) _ q4 hq4) tb_1259 yf_171 yi_171 (la_58 E) [.int v1, .int (0 : Int32)] rfl rfl _ rfl (Nat.le_trans (by decide) hgd) (Nat.le_of_ble_eq_true rfl) (by decide +kernel) rfl ?_
  show AW _ _ _ _ []
  refine aw_aload_n C 0 0 (j := 0) rfl rfl (by decide +kernel) rfl ?_
  refine aw_aload_n C 0 0 (j := 0) rfl rfl (by decide +kernel) rfl ?_
  refine aw_get C (k := 20) fc_12 (la_58 E) rfl (by decide) tb_962 (by decide +kernel) rfl ?_
  refine aw_iconst C (i0 := 1) (v := 1) (by decide) (by decide +kernel) rfl ?_
  refine aw_iadd C (by decide +kernel) rfl ?_
  obtain ⟨a5, ha5⟩ : ∃ z, z = ((q4.2.1 58 20) + (1 : Int32)) := ⟨_, rfl⟩
  refine aw_nmi ha5 ?_
  have hf := ilt ha5 hf
  refine aw_put C (k := 20) fc_12 (la_58 E) rfl (by decide) rfl rfl tb_962 (by decide +kernel) rfl ?_
  exact aw_vretq C CR0 hgr hgs hf (by decide +kernel)
theorem c_m_jumps {lay : Ly} (E : LAin lay) (v1 : Int32) (st : Mm) (q : Unit × Mm) (hf : f_m_jumps v1 st = some q) : Con 1 Y179 prog_14_method_35_code 2 (Option.none) lay (fun ad => [.ref (ad 58), .int v1]) st (none) q.2 :=
  am_met yf_179.2.2.2.2.2 (fun ad => Nat.le_of_ble_eq_true rfl) (fun G C CR0 e1 e2 e3 e4 e5 => t_m_jumps C CR0 (by rw [e1]; exact E) e2 (Nat.le_of_eq e5.symm) e3 e4 v1 st hf)
def b_m_lands_22 (k0 : Int32 → Mm → Option (Unit × Mm)) (v1 : Int32) (st : Mm) : Option (Unit × Mm) :=
  if inb ((st.1 58 25) - (1 : Int32)) 180 then lt_ ((st.1 67 ((st.1 58 25) - (1 : Int32)).toNatClampNeg) - (st.1 67 ((st.1 58 25) - (1 : Int32)).toNatClampNeg) / (1048576 : Int32) * (1048576 : Int32)) (fun a2 => if inb a2 180 then lt_ (((1048576 : Int32) * ((st.1 66 a2.toNatClampNeg) / (1048576 : Int32))) + (st.1 58 24)) (fun a4 => if inb a2 180 then lt_ (((sI st 66 a2.toNatClampNeg a4).1 58 25) - (1 : Int32)) (fun a6 => k0 v1 (sI (sI st 66 a2.toNatClampNeg a4) 58 25 a6)) else none) else none) else none
def b_m_lands_0 (k0 : Int32 → Mm → Option (Unit × Mm)) (v1 : Int32) (st : Mm) : Option (Unit × Mm) :=
  (f_m_waitTop st).bind (fun q1 => if q1.1 = (11 : Int32) then (b_m_lands_22 k0 v1 q1.2) else (if v1 = 0 then (some ((), q1.2)) else ((f_m_waitTop q1.2).bind (fun q4 => if q4.1 = (12 : Int32) then (b_m_lands_22 k0 v1 q4.2) else (some ((), q4.2))))))
def f_m_lands_0 : Nat → Int32 → Mm → Option (Unit × Mm)
  | 0 => fun _ _ => none
  | n + 1 => b_m_lands_0 (f_m_lands_0 n)
def f_m_lands (v1 : Int32) (st : Mm) : Option (Unit × Mm) :=
  f_m_lands_0 1000000 v1 st
theorem t_m_lands_22 {G : Cx} (C : CX G prog_14_method_34_code "PaperStarsModel") (CR0 : CR G (Option.none)) (E : LAin (gly G)) (hnL : gnL G = 3) (hgd : 1 ≤ gd G) {q : Unit × Mm} (hgr : gr G = none) (hgs : gsf G = q.2) (k0 : Int32 → Mm → Option (Unit × Mm)) (hk0 : ∀ (v1 : Int32) (st : Mm), k0 v1 st = some q → AW G st 0 [(0, .ref (gad G 58)), (1, .int v1)] []) (v1 : Int32) (st : Mm) (hf : b_m_lands_22 k0 v1 st = some q) : AW G st 22 [(0, .ref (gad G 58)), (1, .int v1)] [] := by
  unfold b_m_lands_22 at hf
  refine aw_aload_n C 0 0 (j := 0) rfl rfl (by decide +kernel) rfl ?_
  refine aw_getr C (k := 31) fc_12 (la_58 E) rfl (by decide) tb_973 (by decide +kernel) rfl ?_
  refine aw_aload_n C 0 0 (j := 0) rfl rfl (by decide +kernel) rfl ?_
  refine aw_get C (k := 25) fc_12 (la_58 E) rfl (by decide) tb_967 (by decide +kernel) rfl ?_
  refine aw_iconst C (i0 := 1) (v := 1) (by decide) (by decide +kernel) rfl ?_
  refine aw_isub C (by decide +kernel) rfl ?_
  obtain ⟨g1, hf⟩ := igd hf
  refine aw_iald C (la_67 E) g1 (by decide +kernel) rfl ?_
  refine aw_ldc C tb_1242 (by decide +kernel) rfl ?_
  refine aw_irem C (by decide) (by decide +kernel) rfl ?_
  obtain ⟨a2, ha2⟩ : ∃ z, z = ((st.1 67 ((st.1 58 25) - (1 : Int32)).toNatClampNeg) - (st.1 67 ((st.1 58 25) - (1 : Int32)).toNatClampNeg) / (1048576 : Int32) * (1048576 : Int32)) := ⟨_, rfl⟩
  refine aw_nmi ha2 ?_
  have hf := ilt ha2 hf
  refine aw_istore_n C [(2, .int a2), (0, .ref (gad G 58)), (1, .int v1)] (j := 2) rfl (by rw [hnL]; decide) rfl (by decide +kernel) rfl ?_
  refine aw_aload_n C 0 1 (j := 0) rfl rfl (by decide +kernel) rfl ?_
  refine aw_getr C (k := 30) fc_12 (la_58 E) rfl (by decide) tb_972 (by decide +kernel) rfl ?_
  refine aw_iload_n C 2 0 (j := 2) rfl rfl (by decide +kernel) rfl ?_
  refine aw_ldc C tb_1242 (by decide +kernel) rfl ?_
  refine aw_aload_n C 0 1 (j := 0) rfl rfl (by decide +kernel) rfl ?_
  refine aw_getr C (k := 30) fc_12 (la_58 E) rfl (by decide) tb_972 (by decide +kernel) rfl ?_
  refine aw_iload_n C 2 0 (j := 2) rfl rfl (by decide +kernel) rfl ?_
  obtain ⟨g3, hf⟩ := igd hf
  refine aw_iald C (la_66 E) g3 (by decide +kernel) rfl ?_
  refine aw_ldc C tb_1242 (by decide +kernel) rfl ?_
  refine aw_idiv C (by decide) (by decide +kernel) rfl ?_
  refine aw_imul C (by decide +kernel) rfl ?_
  refine aw_aload_n C 0 1 (j := 0) rfl rfl (by decide +kernel) rfl ?_
  refine aw_get C (k := 24) fc_12 (la_58 E) rfl (by decide) tb_966 (by decide +kernel) rfl ?_
  refine aw_iadd C (by decide +kernel) rfl ?_
  obtain ⟨a4, ha4⟩ : ∃ z, z = (((1048576 : Int32) * ((st.1 66 a2.toNatClampNeg) / (1048576 : Int32))) + (st.1 58 24)) := ⟨_, rfl⟩
  refine aw_nmi ha4 ?_
  have hf := ilt ha4 hf
  obtain ⟨g5, hf⟩ := igd hf
  refine aw_iast C (la_66 E) g5 (by decide +kernel) rfl ?_
  refine aw_aload_n C 0 1 (j := 0) rfl rfl (by decide +kernel) rfl ?_
  refine aw_aload_n C 0 1 (j := 0) rfl rfl (by decide +kernel) rfl ?_
  refine aw_get C (k := 25) fc_12 (la_58 E) rfl (by decide) tb_967 (by decide +kernel) rfl ?_
  refine aw_iconst C (i0 := 1) (v := 1) (by decide) (by decide +kernel) rfl ?_
  refine aw_isub C (by decide +kernel) rfl ?_
  obtain ⟨a6, ha6⟩ : ∃ z, z = (((sI st 66 a2.toNatClampNeg a4).1 58 25) - (1 : Int32)) := ⟨_, rfl⟩
  refine aw_nmi ha6 ?_
  have hf := ilt ha6 hf
  refine aw_put C (k := 25) fc_12 (la_58 E) rfl (by decide) rfl rfl tb_967 (by decide +kernel) rfl ?_
  refine aw_goto C (tgt := 0) (off := -70) (by decide +kernel) (by decide) ?_
  refine aw_sub [(0, .ref (gad G 58)), (1, .int v1)] [1, 2] rfl ?_
  exact hk0 v1 _ hf
theorem t_m_lands_0 {G : Cx} (C : CX G prog_14_method_34_code "PaperStarsModel") (CR0 : CR G (Option.none)) (E : LAin (gly G)) (hnL : gnL G = 3) (hgd : 1 ≤ gd G) {q : Unit × Mm} (hgr : gr G = none) (hgs : gsf G = q.2) (k0 : Int32 → Mm → Option (Unit × Mm)) (hk0 : ∀ (v1 : Int32) (st : Mm), k0 v1 st = some q → AW G st 0 [(0, .ref (gad G 58)), (1, .int v1)] []) (v1 : Int32) (st : Mm) (hf : b_m_lands_0 k0 v1 st = some q) : AW G st 0 [(0, .ref (gad G 58)), (1, .int v1)] [] := by
  unfold b_m_lands_0 at hf
  refine aw_aload_n C 0 0 (j := 0) rfl rfl (by decide +kernel) rfl ?_
  obtain ⟨q1, hq1, hf⟩ := ibd hf
  refine aw_callV C (rest := []) (c_m_waitTop E _ q1 hq1) tb_1273 yf_175 yi_175 (la_58 E) [] rfl rfl _ rfl (Nat.le_trans (by decide) hgd) (Nat.le_of_ble_eq_true rfl) (by decide +kernel) rfl ?_
  show AW _ _ _ _ [.int q1.1]
  refine aw_bipush C (i0 := 11) (v := 11) (by decide) (by decide +kernel) rfl ?_
  refine aw_icmp_eq C (tgt := 22) (off := 16) (by decide +kernel) (by decide) rfl (fun c2 => ?_) (fun c2 => ?_)
  · have hf := ift c2 hf
    exact t_m_lands_22 C CR0 E hnL hgd hgr hgs k0 hk0 v1 _ hf
  · have hf := iff_ c2 hf
    refine aw_iload_n C 1 1 (j := 1) rfl rfl (by decide +kernel) rfl ?_
    refine aw_if_eq C (tgt := 73) (off := 63) (by decide +kernel) (by decide) rfl (fun c3 => ?_) (fun c3 => ?_)
    · have hf := ift c3 hf
      exact aw_vretq C CR0 hgr hgs hf (by decide +kernel)
    · have hf := iff_ c3 hf
      refine aw_aload_n C 0 0 (j := 0) rfl rfl (by decide +kernel) rfl ?_
      obtain ⟨q4, hq4, hf⟩ := ibd hf
      refine aw_callV C (rest := []) (c_m_waitTop E _ q4 hq4) tb_1273 yf_175 yi_175 (la_58 E) [] rfl rfl _ rfl (Nat.le_trans (by decide) hgd) (Nat.le_of_ble_eq_true rfl) (by decide +kernel) rfl ?_
      show AW _ _ _ _ [.int q4.1]
      refine aw_bipush C (i0 := 12) (v := 12) (by decide) (by decide +kernel) rfl ?_
      refine aw_icmp_ne C (tgt := 73) (off := 54) (by decide +kernel) (by decide) rfl (fun c5 => ?_) (fun c5 => ?_)
      · have hf := ift c5 hf
        exact t_m_lands_22 C CR0 E hnL hgd hgr hgs k0 hk0 v1 _ hf
      · have hf := iff_ c5 hf
        exact aw_vretq C CR0 hgr hgs hf (by decide +kernel)
theorem u_m_lands_0 {G : Cx} (C : CX G prog_14_method_34_code "PaperStarsModel") (CR0 : CR G (Option.none)) (E : LAin (gly G)) (hnL : gnL G = 3) (hgd : 1 ≤ gd G) {q : Unit × Mm} (hgr : gr G = none) (hgs : gsf G = q.2) : ∀ (n : Nat) (v1 : Int32) (st : Mm), f_m_lands_0 n v1 st = some q → AW G st 0 [(0, .ref (gad G 58)), (1, .int v1)] [] := by
  intro n
  induction n with
  | zero => intro v1 st hf; cases hf
  | succ n ih => intro v1 st hf; exact t_m_lands_0 C CR0 E hnL hgd hgr hgs (f_m_lands_0 n) ih v1 st hf
theorem t_m_lands {G : Cx} (C : CX G prog_14_method_34_code "PaperStarsModel") (CR0 : CR G (Option.none)) (E : LAin (gly G)) (hnL : gnL G = 3) (hgd : 1 ≤ gd G) {q : Unit × Mm} (hgr : gr G = none) (hgs : gsf G = q.2) (v1 : Int32) (st : Mm) (hf : f_m_lands v1 st = some q) : AW G st 0 [(0, .ref (gad G 58)), (1, .int v1)] [] := by
  unfold f_m_lands at hf
  exact u_m_lands_0 C CR0 E hnL hgd hgr hgs _ v1 _ hf
theorem c_m_lands {lay : Ly} (E : LAin lay) (v1 : Int32) (st : Mm) (q : Unit × Mm) (hf : f_m_lands v1 st = some q) : Con 1 Y178 prog_14_method_34_code 3 (Option.none) lay (fun ad => [.ref (ad 58), .int v1]) st (none) q.2 :=
  am_met yf_178.2.2.2.2.2 (fun ad => Nat.le_of_ble_eq_true rfl) (fun G C CR0 e1 e2 e3 e4 e5 => t_m_lands C CR0 (by rw [e1]; exact E) e2 (Nat.le_of_eq e5.symm) e3 e4 v1 st hf)
def f_m_opens (v1 : Int32) (st : Mm) : Option (Int32 × Mm) :=
  if (st.1 58 23) = (6 : Int32) then ((f_m_wrongAt (5 : Int32) (st.1 58 20) st).bind (fun q2 => if q2.1 = 0 ∨ q2.1 = 1 then some (q2.1, q2.2) else none)) else (lt_ ((st.1 58 23) + (1 : Int32)) (fun a4 => lt_ ((1048576 : Int32) * v1) (fun a5 => if inb ((sI st 58 23 a4).1 58 25) 180 then lt_ (((sI (sI st 58 23 a4) 67 ((sI st 58 23 a4).1 58 25).toNatClampNeg a5).1 58 25) + (1 : Int32)) (fun a7 => lt_ (((sI (sI (sI st 58 23 a4) 67 ((sI st 58 23 a4).1 58 25).toNatClampNeg a5) 58 25 a7).1 58 20) + (1 : Int32)) (fun a8 => some ((1 : Int32), (sI (sI (sI (sI st 58 23 a4) 67 ((sI st 58 23 a4).1 58 25).toNatClampNeg a5) 58 25 a7) 58 20 a8)))) else none)))
theorem t_m_opens {G : Cx} (C : CX G prog_14_method_25_code "PaperStarsModel") (CR0 : CR G (Option.some FieldType.boolean)) (E : LAin (gly G)) (hnL : gnL G = 2) (hgd : 1 ≤ gd G) {q : Int32 × Mm} (hgr : gr G = some (.int q.1)) (hgs : gsf G = q.2) (v1 : Int32) (st : Mm) (hf : f_m_opens v1 st = some q) : AW G st 0 [(0, .ref (gad G 58)), (1, .int v1)] [] := by
  unfold f_m_opens at hf
  refine aw_aload_n C 0 0 (j := 0) rfl rfl (by decide +kernel) rfl ?_
  refine aw_get C (k := 23) fc_12 (la_58 E) rfl (by decide) tb_965 (by decide +kernel) rfl ?_
  refine aw_bipush C (i0 := 6) (v := 6) (by decide) (by decide +kernel) rfl ?_
  refine aw_icmp_ne C (tgt := 19) (off := 13) (by decide +kernel) (by decide) rfl (fun c1 => ?_) (fun c1 => ?_)
  · have hf := ift c1 hf
    refine aw_aload_n C 0 0 (j := 0) rfl rfl (by decide +kernel) rfl ?_
    refine aw_iconst C (i0 := 5) (v := 5) (by decide) (by decide +kernel) rfl ?_
    refine aw_aload_n C 0 0 (j := 0) rfl rfl (by decide +kernel) rfl ?_
    refine aw_get C (k := 20) fc_12 (la_58 E) rfl (by decide) tb_962 (by decide +kernel) rfl ?_
    obtain ⟨q2, hq2, hf⟩ := ibd hf
    refine aw_callV C (rest := []) (c_m_wrongAt E (5 : Int32) (st.1 58 20) _ q2 hq2) tb_1179 yf_151 yi_151 (la_58 E) [.int (5 : Int32), .int (st.1 58 20)] rfl rfl _ rfl (Nat.le_trans (by decide) hgd) (Nat.le_of_ble_eq_true rfl) (by decide +kernel) rfl ?_
    show AW _ _ _ _ [.int q2.1]
    obtain ⟨g3, hf⟩ := igd hf
    exact aw_zretq C CR0 hgr hgs g3 hf (by decide +kernel)
  · have hf := iff_ c1 hf
    refine aw_aload_n C 0 0 (j := 0) rfl rfl (by decide +kernel) rfl ?_
    refine aw_aload_n C 0 0 (j := 0) rfl rfl (by decide +kernel) rfl ?_
    refine aw_get C (k := 23) fc_12 (la_58 E) rfl (by decide) tb_965 (by decide +kernel) rfl ?_
    refine aw_iconst C (i0 := 1) (v := 1) (by decide) (by decide +kernel) rfl ?_
    refine aw_iadd C (by decide +kernel) rfl ?_
    obtain ⟨a4, ha4⟩ : ∃ z, z = ((st.1 58 23) + (1 : Int32)) := ⟨_, rfl⟩
    refine aw_nmi ha4 ?_
    have hf := ilt ha4 hf
    refine aw_put C (k := 23) fc_12 (la_58 E) rfl (by decide) rfl rfl tb_965 (by decide +kernel) rfl ?_
    refine aw_aload_n C 0 0 (j := 0) rfl rfl (by decide +kernel) rfl ?_
    refine aw_getr C (k := 31) fc_12 (la_58 E) rfl (by decide) tb_973 (by decide +kernel) rfl ?_
    refine aw_aload_n C 0 0 (j := 0) rfl rfl (by decide +kernel) rfl ?_
    refine aw_get C (k := 25) fc_12 (la_58 E) rfl (by decide) tb_967 (by decide +kernel) rfl ?_
    refine aw_ldc C tb_1242 (by decide +kernel) rfl ?_
    refine aw_iload_n C 1 1 (j := 1) rfl rfl (by decide +kernel) rfl ?_
    refine aw_imul C (by decide +kernel) rfl ?_
    obtain ⟨a5, ha5⟩ : ∃ z, z = ((1048576 : Int32) * v1) := ⟨_, rfl⟩
    refine aw_nmi ha5 ?_
    have hf := ilt ha5 hf
    obtain ⟨g6, hf⟩ := igd hf
    refine aw_iast C (la_67 E) g6 (by decide +kernel) rfl ?_
    refine aw_aload_n C 0 0 (j := 0) rfl rfl (by decide +kernel) rfl ?_
    refine aw_aload_n C 0 0 (j := 0) rfl rfl (by decide +kernel) rfl ?_
    refine aw_get C (k := 25) fc_12 (la_58 E) rfl (by decide) tb_967 (by decide +kernel) rfl ?_
    refine aw_iconst C (i0 := 1) (v := 1) (by decide) (by decide +kernel) rfl ?_
    refine aw_iadd C (by decide +kernel) rfl ?_
    obtain ⟨a7, ha7⟩ : ∃ z, z = (((sI (sI st 58 23 a4) 67 ((sI st 58 23 a4).1 58 25).toNatClampNeg a5).1 58 25) + (1 : Int32)) := ⟨_, rfl⟩
    refine aw_nmi ha7 ?_
    have hf := ilt ha7 hf
    refine aw_put C (k := 25) fc_12 (la_58 E) rfl (by decide) rfl rfl tb_967 (by decide +kernel) rfl ?_
    refine aw_aload_n C 0 0 (j := 0) rfl rfl (by decide +kernel) rfl ?_
    refine aw_aload_n C 0 0 (j := 0) rfl rfl (by decide +kernel) rfl ?_
    refine aw_get C (k := 20) fc_12 (la_58 E) rfl (by decide) tb_962 (by decide +kernel) rfl ?_
    refine aw_iconst C (i0 := 1) (v := 1) (by decide) (by decide +kernel) rfl ?_
    refine aw_iadd C (by decide +kernel) rfl ?_
    obtain ⟨a8, ha8⟩ : ∃ z, z = (((sI (sI (sI st 58 23 a4) 67 ((sI st 58 23 a4).1 58 25).toNatClampNeg a5) 58 25 a7).1 58 20) + (1 : Int32)) := ⟨_, rfl⟩
    refine aw_nmi ha8 ?_
    have hf := ilt ha8 hf
    refine aw_put C (k := 20) fc_12 (la_58 E) rfl (by decide) rfl rfl tb_962 (by decide +kernel) rfl ?_
    refine aw_iconst C (i0 := 1) (v := 1) (by decide) (by decide +kernel) rfl ?_
    exact aw_zretq C CR0 hgr hgs (by decide) hf (by decide +kernel)
theorem c_m_opens {lay : Ly} (E : LAin lay) (v1 : Int32) (st : Mm) (q : Int32 × Mm) (hf : f_m_opens v1 st = some q) : Con 1 Y166 prog_14_method_25_code 2 (Option.some FieldType.boolean) lay (fun ad => [.ref (ad 58), .int v1]) st (some (.int q.1)) q.2 :=
  am_met yf_166.2.2.2.2.2 (fun ad => Nat.le_of_ble_eq_true rfl) (fun G C CR0 e1 e2 e3 e4 e5 => t_m_opens C CR0 (by rw [e1]; exact E) e2 (Nat.le_of_eq e5.symm) e3 e4 v1 st hf)
def b_m_closesSums_37 (k0 : Int32 → Mm → Option (Unit × Mm)) (v1 : Int32) (st : Mm) : Option (Unit × Mm) :=
  (f_m_waitTop st).bind (fun q1 => (f_m_notes q1.1 (0 : Int32) q1.2).bind (fun q2 => lt_ ((q2.2.1 58 25) - (1 : Int32)) (fun a3 => k0 v1 (sI q2.2 58 25 a3))))
def b_m_closesSums_17 (k0 : Int32 → Mm → Option (Unit × Mm)) (v1 : Int32) (st : Mm) : Option (Unit × Mm) :=
  if v1 = 0 then (some ((), st)) else ((f_m_waitTop st).bind (fun q2 => if q2.1 = (2 : Int32) then (b_m_closesSums_37 k0 v1 q2.2) else ((f_m_waitTop q2.2).bind (fun q4 => if q4.1 = (3 : Int32) then (b_m_closesSums_37 k0 v1 q4.2) else (some ((), q4.2))))))
def b_m_closesSums_0 (k0 : Int32 → Mm → Option (Unit × Mm)) (v1 : Int32) (st : Mm) : Option (Unit × Mm) :=
  (f_m_waitTop st).bind (fun q1 => if q1.1 < (4 : Int32) then (b_m_closesSums_17 k0 v1 q1.2) else ((f_m_waitTop q1.2).bind (fun q3 => if q3.1 ≤ (6 : Int32) then (b_m_closesSums_37 k0 v1 q3.2) else (b_m_closesSums_17 k0 v1 q3.2))))
def f_m_closesSums_0 : Nat → Int32 → Mm → Option (Unit × Mm)
  | 0 => fun _ _ => none
  | n + 1 => b_m_closesSums_0 (f_m_closesSums_0 n)
def f_m_closesSums (v1 : Int32) (st : Mm) : Option (Unit × Mm) :=
  f_m_closesSums_0 1000000 v1 st
theorem t_m_closesSums_37 {G : Cx} (C : CX G prog_14_method_29_code "PaperStarsModel") (CR0 : CR G (Option.none)) (E : LAin (gly G)) (hnL : gnL G = 2) (hgd : 1 ≤ gd G) {q : Unit × Mm} (hgr : gr G = none) (hgs : gsf G = q.2) (k0 : Int32 → Mm → Option (Unit × Mm)) (hk0 : ∀ (v1 : Int32) (st : Mm), k0 v1 st = some q → AW G st 0 [(0, .ref (gad G 58)), (1, .int v1)] []) (v1 : Int32) (st : Mm) (hf : b_m_closesSums_37 k0 v1 st = some q) : AW G st 37 [(0, .ref (gad G 58)), (1, .int v1)] [] := by
  unfold b_m_closesSums_37 at hf
  refine aw_aload_n C 0 0 (j := 0) rfl rfl (by decide +kernel) rfl ?_
  refine aw_aload_n C 0 0 (j := 0) rfl rfl (by decide +kernel) rfl ?_
  obtain ⟨q1, hq1, hf⟩ := ibd hf
  refine aw_callV C (rest := [.ref (gad G 58)]) (c_m_waitTop E _ q1 hq1) tb_1273 yf_175 yi_175 (la_58 E) [] rfl rfl _ rfl (Nat.le_trans (by decide) hgd) (Nat.le_of_ble_eq_true rfl) (by decide +kernel) rfl ?_
  show AW _ _ _ _ [.int q1.1, .ref (gad G 58)]
  refine aw_iconst C (i0 := 0) (v := 0) (by decide) (by decide +kernel) rfl ?_
  obtain ⟨q2, hq2, hf⟩ := ibd hf
  refine aw_callV C (rest := []) (c_m_notes E q1.1 (0 : Int32) _ q2 hq2) tb_1259 yf_171 yi_171 (la_58 E) [.int q1.1, .int (0 : Int32)] rfl rfl _ rfl (Nat.le_trans (by decide) hgd) (Nat.le_of_ble_eq_true rfl) (by decide +kernel) rfl ?_
  show AW _ _ _ _ []
  refine aw_aload_n C 0 0 (j := 0) rfl rfl (by decide +kernel) rfl ?_
  refine aw_aload_n C 0 0 (j := 0) rfl rfl (by decide +kernel) rfl ?_
  refine aw_get C (k := 25) fc_12 (la_58 E) rfl (by decide) tb_967 (by decide +kernel) rfl ?_
  refine aw_iconst C (i0 := 1) (v := 1) (by decide) (by decide +kernel) rfl ?_
  refine aw_isub C (by decide +kernel) rfl ?_
  obtain ⟨a3, ha3⟩ : ∃ z, z = ((q2.2.1 58 25) - (1 : Int32)) := ⟨_, rfl⟩
  refine aw_nmi ha3 ?_
  have hf := ilt ha3 hf
  refine aw_put C (k := 25) fc_12 (la_58 E) rfl (by decide) rfl rfl tb_967 (by decide +kernel) rfl ?_
  refine aw_goto C (tgt := 0) (off := -56) (by decide +kernel) (by decide) ?_
  exact hk0 v1 _ hf
theorem t_m_closesSums_17 {G : Cx} (C : CX G prog_14_method_29_code "PaperStarsModel") (CR0 : CR G (Option.none)) (E : LAin (gly G)) (hnL : gnL G = 2) (hgd : 1 ≤ gd G) {q : Unit × Mm} (hgr : gr G = none) (hgs : gsf G = q.2) (k0 : Int32 → Mm → Option (Unit × Mm)) (hk0 : ∀ (v1 : Int32) (st : Mm), k0 v1 st = some q → AW G st 0 [(0, .ref (gad G 58)), (1, .int v1)] []) (v1 : Int32) (st : Mm) (hf : b_m_closesSums_17 k0 v1 st = some q) : AW G st 17 [(0, .ref (gad G 58)), (1, .int v1)] [] := by
  unfold b_m_closesSums_17 at hf
  refine aw_iload_n C 1 1 (j := 1) rfl rfl (by decide +kernel) rfl ?_
  refine aw_if_eq C (tgt := 59) (off := 41) (by decide +kernel) (by decide) rfl (fun c1 => ?_) (fun c1 => ?_)
  · have hf := ift c1 hf
    exact aw_vretq C CR0 hgr hgs hf (by decide +kernel)
  · have hf := iff_ c1 hf
    refine aw_aload_n C 0 0 (j := 0) rfl rfl (by decide +kernel) rfl ?_
    obtain ⟨q2, hq2, hf⟩ := ibd hf
    refine aw_callV C (rest := []) (c_m_waitTop E _ q2 hq2) tb_1273 yf_175 yi_175 (la_58 E) [] rfl rfl _ rfl (Nat.le_trans (by decide) hgd) (Nat.le_of_ble_eq_true rfl) (by decide +kernel) rfl ?_
    show AW _ _ _ _ [.int q2.1]
    refine aw_iconst C (i0 := 2) (v := 2) (by decide) (by decide +kernel) rfl ?_
    refine aw_icmp_eq C (tgt := 37) (off := 11) (by decide +kernel) (by decide) rfl (fun c3 => ?_) (fun c3 => ?_)
    · have hf := ift c3 hf
      exact t_m_closesSums_37 C CR0 E hnL hgd hgr hgs k0 hk0 v1 _ hf
    · have hf := iff_ c3 hf
      refine aw_aload_n C 0 0 (j := 0) rfl rfl (by decide +kernel) rfl ?_
      obtain ⟨q4, hq4, hf⟩ := ibd hf
      refine aw_callV C (rest := []) (c_m_waitTop E _ q4 hq4) tb_1273 yf_175 yi_175 (la_58 E) [] rfl rfl _ rfl (Nat.le_trans (by decide) hgd) (Nat.le_of_ble_eq_true rfl) (by decide +kernel) rfl ?_
      show AW _ _ _ _ [.int q4.1]
      refine aw_iconst C (i0 := 3) (v := 3) (by decide) (by decide +kernel) rfl ?_
      refine aw_icmp_ne C (tgt := 59) (off := 25) (by decide +kernel) (by decide) rfl (fun c5 => ?_) (fun c5 => ?_)
      · have hf := ift c5 hf
        exact t_m_closesSums_37 C CR0 E hnL hgd hgr hgs k0 hk0 v1 _ hf
      · have hf := iff_ c5 hf
        exact aw_vretq C CR0 hgr hgs hf (by decide +kernel)
theorem t_m_closesSums_0 {G : Cx} (C : CX G prog_14_method_29_code "PaperStarsModel") (CR0 : CR G (Option.none)) (E : LAin (gly G)) (hnL : gnL G = 2) (hgd : 1 ≤ gd G) {q : Unit × Mm} (hgr : gr G = none) (hgs : gsf G = q.2) (k0 : Int32 → Mm → Option (Unit × Mm)) (hk0 : ∀ (v1 : Int32) (st : Mm), k0 v1 st = some q → AW G st 0 [(0, .ref (gad G 58)), (1, .int v1)] []) (v1 : Int32) (st : Mm) (hf : b_m_closesSums_0 k0 v1 st = some q) : AW G st 0 [(0, .ref (gad G 58)), (1, .int v1)] [] := by
  unfold b_m_closesSums_0 at hf
  refine aw_aload_n C 0 0 (j := 0) rfl rfl (by decide +kernel) rfl ?_
  obtain ⟨q1, hq1, hf⟩ := ibd hf
  refine aw_callV C (rest := []) (c_m_waitTop E _ q1 hq1) tb_1273 yf_175 yi_175 (la_58 E) [] rfl rfl _ rfl (Nat.le_trans (by decide) hgd) (Nat.le_of_ble_eq_true rfl) (by decide +kernel) rfl ?_
  show AW _ _ _ _ [.int q1.1]
  refine aw_iconst C (i0 := 4) (v := 4) (by decide) (by decide +kernel) rfl ?_
  refine aw_icmp_lt C (tgt := 17) (off := 12) (by decide +kernel) (by decide) rfl (fun c2 => ?_) (fun c2 => ?_)
  · have hf := ift c2 hf
    exact t_m_closesSums_17 C CR0 E hnL hgd hgr hgs k0 hk0 v1 _ hf
  · have hf := iff_ c2 hf
    refine aw_aload_n C 0 0 (j := 0) rfl rfl (by decide +kernel) rfl ?_
    obtain ⟨q3, hq3, hf⟩ := ibd hf
    refine aw_callV C (rest := []) (c_m_waitTop E _ q3 hq3) tb_1273 yf_175 yi_175 (la_58 E) [] rfl rfl _ rfl (Nat.le_trans (by decide) hgd) (Nat.le_of_ble_eq_true rfl) (by decide +kernel) rfl ?_
    show AW _ _ _ _ [.int q3.1]
    refine aw_bipush C (i0 := 6) (v := 6) (by decide) (by decide +kernel) rfl ?_
    refine aw_icmp_le C (tgt := 37) (off := 23) (by decide +kernel) (by decide) rfl (fun c4 => ?_) (fun c4 => ?_)
    · have hf := ift c4 hf
      exact t_m_closesSums_37 C CR0 E hnL hgd hgr hgs k0 hk0 v1 _ hf
    · have hf := iff_ c4 hf
      exact t_m_closesSums_17 C CR0 E hnL hgd hgr hgs k0 hk0 v1 _ hf
theorem u_m_closesSums_0 {G : Cx} (C : CX G prog_14_method_29_code "PaperStarsModel") (CR0 : CR G (Option.none)) (E : LAin (gly G)) (hnL : gnL G = 2) (hgd : 1 ≤ gd G) {q : Unit × Mm} (hgr : gr G = none) (hgs : gsf G = q.2) : ∀ (n : Nat) (v1 : Int32) (st : Mm), f_m_closesSums_0 n v1 st = some q → AW G st 0 [(0, .ref (gad G 58)), (1, .int v1)] [] := by
  intro n
  induction n with
  | zero => intro v1 st hf; cases hf
  | succ n ih => intro v1 st hf; exact t_m_closesSums_0 C CR0 E hnL hgd hgr hgs (f_m_closesSums_0 n) ih v1 st hf
theorem t_m_closesSums {G : Cx} (C : CX G prog_14_method_29_code "PaperStarsModel") (CR0 : CR G (Option.none)) (E : LAin (gly G)) (hnL : gnL G = 2) (hgd : 1 ≤ gd G) {q : Unit × Mm} (hgr : gr G = none) (hgs : gsf G = q.2) (v1 : Int32) (st : Mm) (hf : f_m_closesSums v1 st = some q) : AW G st 0 [(0, .ref (gad G 58)), (1, .int v1)] [] := by
  unfold f_m_closesSums at hf
  exact u_m_closesSums_0 C CR0 E hnL hgd hgr hgs _ v1 _ hf
theorem c_m_closesSums {lay : Ly} (E : LAin lay) (v1 : Int32) (st : Mm) (q : Unit × Mm) (hf : f_m_closesSums v1 st = some q) : Con 1 Y174 prog_14_method_29_code 2 (Option.none) lay (fun ad => [.ref (ad 58), .int v1]) st (none) q.2 :=
  am_met yf_174.2.2.2.2.2 (fun ad => Nat.le_of_ble_eq_true rfl) (fun G C CR0 e1 e2 e3 e4 e5 => t_m_closesSums C CR0 (by rw [e1]; exact E) e2 (Nat.le_of_eq e5.symm) e3 e4 v1 st hf)
def b_m_hasOpenSum_2 (k2 : Int32 → Mm → Option (Int32 × Mm)) (v2 : Int32) (st : Mm) : Option (Int32 × Mm) :=
  if (st.1 58 25) ≤ v2 then (some ((0 : Int32), st)) else (if inb v2 180 then if ((st.1 67 v2.toNatClampNeg) / (1048576 : Int32)) = (14 : Int32) then (some ((1 : Int32), st)) else (lt_ (v2 + (1 : Int32)) (fun a4 => k2 a4 st)) else none)
def f_m_hasOpenSum_2 : Nat → Int32 → Mm → Option (Int32 × Mm)
  | 0 => fun _ _ => none
  | n + 1 => b_m_hasOpenSum_2 (f_m_hasOpenSum_2 n)
def f_m_hasOpenSum (v1 : Int32) (st : Mm) : Option (Int32 × Mm) :=
  f_m_hasOpenSum_2 1000000 v1 st
theorem t_m_hasOpenSum_2 {G : Cx} (C : CX G prog_14_method_31_code "PaperStarsModel") (CR0 : CR G (Option.some FieldType.boolean)) (E : LAin (gly G)) (hnL : gnL G = 3) (hgd : 0 ≤ gd G) {q : Int32 × Mm} (hgr : gr G = some (.int q.1)) (hgs : gsf G = q.2) (k2 : Int32 → Mm → Option (Int32 × Mm)) (hk2 : ∀ (v2 : Int32) (st : Mm), k2 v2 st = some q → AW G st 2 [(0, .ref (gad G 58)), (2, .int v2)] []) (v2 : Int32) (st : Mm) (hf : b_m_hasOpenSum_2 k2 v2 st = some q) : AW G st 2 [(0, .ref (gad G 58)), (2, .int v2)] [] := by
  unfold b_m_hasOpenSum_2 at hf
  refine aw_iload_n C 2 1 (j := 2) rfl rfl (by decide +kernel) rfl ?_
  refine aw_aload_n C 0 0 (j := 0) rfl rfl (by decide +kernel) rfl ?_
  refine aw_get C (k := 25) fc_12 (la_58 E) rfl (by decide) tb_967 (by decide +kernel) rfl ?_
  refine aw_icmp_ge C (tgt := 32) (off := 25) (by decide +kernel) (by decide) rfl (fun c1 => ?_) (fun c1 => ?_)
  · have hf := ift c1 hf
    refine aw_iconst C (i0 := 0) (v := 0) (by decide) (by decide +kernel) rfl ?_
    exact aw_zretq C CR0 hgr hgs (by decide) hf (by decide +kernel)
  · have hf := iff_ c1 hf
    refine aw_aload_n C 0 0 (j := 0) rfl rfl (by decide +kernel) rfl ?_
    refine aw_getr C (k := 31) fc_12 (la_58 E) rfl (by decide) tb_973 (by decide +kernel) rfl ?_
    refine aw_iload_n C 2 1 (j := 2) rfl rfl (by decide +kernel) rfl ?_
    obtain ⟨g2, hf⟩ := igd hf
    refine aw_iald C (la_67 E) g2 (by decide +kernel) rfl ?_
    refine aw_ldc C tb_1242 (by decide +kernel) rfl ?_
    refine aw_idiv C (by decide) (by decide +kernel) rfl ?_
    refine aw_bipush C (i0 := 14) (v := 14) (by decide) (by decide +kernel) rfl ?_
    refine aw_icmp_ne C (tgt := 26) (off := 5) (by decide +kernel) (by decide) rfl (fun c3 => ?_) (fun c3 => ?_)
    · have hf := ift c3 hf
      refine aw_iconst C (i0 := 1) (v := 1) (by decide) (by decide +kernel) rfl ?_
      exact aw_zretq C CR0 hgr hgs (by decide) hf (by decide +kernel)
    · have hf := iff_ c3 hf
      obtain ⟨a4, ha4⟩ : ∃ z, z = (v2 + (1 : Int32)) := ⟨_, rfl⟩
      have hf := ilt ha4 hf
      refine aw_iinc C [(2, .int a4), (0, .ref (gad G 58))] 1 (n := 1) rfl (by rw [ha4]; rfl) (by rw [hnL]; decide) rfl (by decide +kernel) rfl ?_
      refine aw_goto C (tgt := 2) (off := -27) (by decide +kernel) (by decide) ?_
      refine aw_sub [(0, .ref (gad G 58)), (2, .int a4)] [1, 0] rfl ?_
      exact hk2 a4 _ hf
theorem u_m_hasOpenSum_2 {G : Cx} (C : CX G prog_14_method_31_code "PaperStarsModel") (CR0 : CR G (Option.some FieldType.boolean)) (E : LAin (gly G)) (hnL : gnL G = 3) (hgd : 0 ≤ gd G) {q : Int32 × Mm} (hgr : gr G = some (.int q.1)) (hgs : gsf G = q.2) : ∀ (n : Nat) (v2 : Int32) (st : Mm), f_m_hasOpenSum_2 n v2 st = some q → AW G st 2 [(0, .ref (gad G 58)), (2, .int v2)] [] := by
  intro n
  induction n with
  | zero => intro v2 st hf; cases hf
  | succ n ih => intro v2 st hf; exact t_m_hasOpenSum_2 C CR0 E hnL hgd hgr hgs (f_m_hasOpenSum_2 n) ih v2 st hf
theorem t_m_hasOpenSum {G : Cx} (C : CX G prog_14_method_31_code "PaperStarsModel") (CR0 : CR G (Option.some FieldType.boolean)) (E : LAin (gly G)) (hnL : gnL G = 3) (hgd : 0 ≤ gd G) {q : Int32 × Mm} (hgr : gr G = some (.int q.1)) (hgs : gsf G = q.2) (v1 : Int32) (st : Mm) (hf : f_m_hasOpenSum v1 st = some q) : AW G st 0 [(0, .ref (gad G 58)), (1, .int v1)] [] := by
  unfold f_m_hasOpenSum at hf
  refine aw_iload_n C 1 1 (j := 1) rfl rfl (by decide +kernel) rfl ?_
  refine aw_istore_n C [(2, .int v1), (0, .ref (gad G 58)), (1, .int v1)] (j := 2) rfl (by rw [hnL]; decide) rfl (by decide +kernel) rfl ?_
  refine aw_sub [(0, .ref (gad G 58)), (2, .int v1)] [1, 0] rfl ?_
  exact u_m_hasOpenSum_2 C CR0 E hnL hgd hgr hgs _ v1 _ hf
theorem c_m_hasOpenSum {lay : Ly} (E : LAin lay) (v1 : Int32) (st : Mm) (q : Int32 × Mm) (hf : f_m_hasOpenSum v1 st = some q) : Con 0 Y176 prog_14_method_31_code 3 (Option.some FieldType.boolean) lay (fun ad => [.ref (ad 58), .int v1]) st (some (.int q.1)) q.2 :=
  am_met yf_176.2.2.2.2.2 (fun ad => Nat.le_of_ble_eq_true rfl) (fun G C CR0 e1 e2 e3 e4 e5 => t_m_hasOpenSum C CR0 (by rw [e1]; exact E) e2 (Nat.le_of_eq e5.symm) e3 e4 v1 st hf)
