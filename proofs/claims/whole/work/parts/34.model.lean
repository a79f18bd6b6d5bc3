def b_m_keepsOblong_92 (v1 : Int64) (v3 : Int32) (st : Mm) : Option (Unit × Mm) :=
  if inb v3 2200 then lt_ (v3 + (1 : Int32)) (fun a2 => some ((), (sI (sL st 80 v3.toNatClampNeg v1) 58 49 a2))) else none
def b_m_keepsOblong_39 (k39 : Int64 → Int32 → Int32 → Mm → Option (Unit × Mm)) (v1 : Int64) (v3 : Int32) (v4 : Int32) (st : Mm) : Option (Unit × Mm) :=
  if (st.1 58 49) ≤ v4 then (b_m_keepsOblong_92 v1 v3 st) else (if inb v4 2200 then if (lg_cmp ((st.2 80 v4.toNatClampNeg) &&& (v1 ^^^ (-1 : Int64))) (0 : Int64)) = 0 then (lt_ (v4 + (1 : Int32)) (fun a4 => k39 v1 v3 a4 st)) else (if inb v4 2200 then lt_ (st.2 80 v4.toNatClampNeg) (fun a6 => if inb v3 2200 then lt_ (v3 + (1 : Int32)) (fun a8 => lt_ (v4 + (1 : Int32)) (fun a9 => k39 v1 a8 a9 (sL st 80 v3.toNatClampNeg a6))) else none) else none) else none)
def f_m_keepsOblong_39 : Nat → Int64 → Int32 → Int32 → Mm → Option (Unit × Mm)
  | 0 => fun _ _ _ _ => none
  | n + 1 => b_m_keepsOblong_39 (f_m_keepsOblong_39 n)
def b_m_keepsOblong_34 (v1 : Int64) (st : Mm) : Option (Unit × Mm) :=
  f_m_keepsOblong_39 1000000 v1 (0 : Int32) (0 : Int32) st
def b_m_keepsOblong_2 (k2 : Int64 → Int32 → Mm → Option (Unit × Mm)) (v1 : Int64) (v3 : Int32) (st : Mm) : Option (Unit × Mm) :=
  if (st.1 58 49) ≤ v3 then (b_m_keepsOblong_34 v1 st) else (if inb v3 2200 then if (lg_cmp (v1 &&& ((st.2 80 v3.toNatClampNeg) ^^^ (-1 : Int64))) (0 : Int64)) = 0 then (some ((), st)) else (lt_ (v3 + (1 : Int32)) (fun a4 => k2 v1 a4 st)) else none)
def f_m_keepsOblong_2 : Nat → Int64 → Int32 → Mm → Option (Unit × Mm)
  | 0 => fun _ _ _ => none
  | n + 1 => b_m_keepsOblong_2 (f_m_keepsOblong_2 n)
def f_m_keepsOblong (v1 : Int64) (st : Mm) : Option (Unit × Mm) :=
  f_m_keepsOblong_2 1000000 v1 (0 : Int32) st
theorem t_m_keepsOblong_92 {G : Cx} (C : CX G prog_14_method_86_code "PaperStarsModel") (CR0 : CR G (Option.none)) (E : LAin (gly G)) (hnL : gnL G = 5) (hgd : 0 ≤ gd G) {q : Unit × Mm} (hgr : gr G = none) (hgs : gsf G = q.2) (v1 : Int64) (v3 : Int32) (st : Mm) (hf : b_m_keepsOblong_92 v1 v3 st = some q) : AW G st 92 [(0, .ref (gad G 58)), (1, .long v1), (3, .int v3)] [] := by
  unfold b_m_keepsOblong_92 at hf
  refine aw_aload_n C 0 0 (j := 0) rfl rfl (by decide +kernel) rfl ?_
  refine aw_getr C (k := 47) fc_12 (la_58 E) rfl (by decide) tb_989 (by decide +kernel) rfl ?_
  refine aw_iload_n C 3 2 (j := 3) rfl rfl (by decide +kernel) rfl ?_
  refine aw_lload_n C 1 1 (j := 1) rfl rfl (by decide +kernel) rfl ?_
  obtain ⟨g1, hf⟩ := igd hf
  refine aw_last C (la_80 E) g1 (by decide +kernel) rfl ?_
  refine aw_aload_n C 0 0 (j := 0) rfl rfl (by decide +kernel) rfl ?_
  refine aw_iload_n C 3 2 (j := 3) rfl rfl (by decide +kernel) rfl ?_
  refine aw_iconst C (i0 := 1) (v := 1) (by decide) (by decide +kernel) rfl ?_
  refine aw_iadd C (by decide +kernel) rfl ?_
  obtain ⟨a2, ha2⟩ : ∃ z, z = (v3 + (1 : Int32)) := ⟨_, rfl⟩
  refine aw_nmi ha2 ?_
  have hf := ilt ha2 hf
  refine aw_put C (k := 49) fc_12 (la_58 E) rfl (by decide) rfl rfl tb_991 (by decide +kernel) rfl ?_
  exact aw_vretq C CR0 hgr hgs hf (by decide +kernel)
theorem t_m_keepsOblong_39 {G : Cx} (C : CX G prog_14_method_86_code "PaperStarsModel") (CR0 : CR G (Option.none)) (E : LAin (gly G)) (hnL : gnL G = 5) (hgd : 0 ≤ gd G) {q : Unit × Mm} (hgr : gr G = none) (hgs : gsf G = q.2) (k39 : Int64 → Int32 → Int32 → Mm → Option (Unit × Mm)) (hk39 : ∀ (v1 : Int64) (v3 : Int32) (v4 : Int32) (st : Mm), k39 v1 v3 v4 st = some q → AW G st 39 [(0, .ref (gad G 58)), (1, .long v1), (3, .int v3), (4, .int v4)] []) (v1 : Int64) (v3 : Int32) (v4 : Int32) (st : Mm) (hf : b_m_keepsOblong_39 k39 v1 v3 v4 st = some q) : AW G st 39 [(0, .ref (gad G 58)), (1, .long v1), (3, .int v3), (4, .int v4)] [] := by
  unfold b_m_keepsOblong_39 at hf
  refine aw_iload C 4 3 rfl (by decide +kernel) rfl ?_
  refine aw_aload_n C 0 0 (j := 0) rfl rfl (by decide +kernel) rfl ?_
  refine aw_get C (k := 49) fc_12 (la_58 E) rfl (by decide) tb_991 (by decide +kernel) rfl ?_
  refine aw_icmp_ge C (tgt := 92) (off := 47) (by decide +kernel) (by decide) rfl (fun c1 => ?_) (fun c1 => ?_)
  · have hf := ift c1 hf
    refine aw_sub [(0, .ref (gad G 58)), (1, .long v1), (3, .int v3)] [0, 1, 2] rfl ?_
    exact t_m_keepsOblong_92 C CR0 E hnL hgd hgr hgs v1 v3 _ hf
  · have hf := iff_ c1 hf
    refine aw_aload_n C 0 0 (j := 0) rfl rfl (by decide +kernel) rfl ?_
    refine aw_getr C (k := 47) fc_12 (la_58 E) rfl (by decide) tb_989 (by decide +kernel) rfl ?_
    refine aw_iload C 4 3 rfl (by decide +kernel) rfl ?_
    obtain ⟨g2, hf⟩ := igd hf
    refine aw_lald C (la_80 E) g2 (by decide +kernel) rfl ?_
    refine aw_lload_n C 1 1 (j := 1) rfl rfl (by decide +kernel) rfl ?_
    refine aw_ldc2 C tb_1475 (by decide +kernel) rfl ?_
    refine aw_lxor C (by decide +kernel) rfl ?_
    refine aw_land C (by decide +kernel) rfl ?_
    refine aw_lconst C (i0 := 0) (v := 0) (by decide) (by decide +kernel) rfl ?_
    refine aw_lcmp C (by decide +kernel) rfl ?_
    refine aw_if_ne C (tgt := 69) (off := 6) (by decide +kernel) (by decide) rfl (fun c3 => ?_) (fun c3 => ?_)
    · have hf := ift c3 hf
      refine aw_goto C (tgt := 86) (off := 20) (by decide +kernel) (by decide) ?_
      obtain ⟨a4, ha4⟩ : ∃ z, z = (v4 + (1 : Int32)) := ⟨_, rfl⟩
      have hf := ilt ha4 hf
      refine aw_iinc C [(4, .int a4), (0, .ref (gad G 58)), (1, .long v1), (3, .int v3)] 3 (n := 1) rfl (by rw [ha4]; rfl) (by rw [hnL]; decide) rfl (by decide +kernel) rfl ?_
      refine aw_goto C (tgt := 39) (off := -50) (by decide +kernel) (by decide) ?_
      refine aw_sub [(0, .ref (gad G 58)), (1, .long v1), (3, .int v3), (4, .int a4)] [1, 2, 3, 0] rfl ?_
      exact hk39 v1 v3 a4 _ hf
    · have hf := iff_ c3 hf
      refine aw_aload_n C 0 0 (j := 0) rfl rfl (by decide +kernel) rfl ?_
      refine aw_getr C (k := 47) fc_12 (la_58 E) rfl (by decide) tb_989 (by decide +kernel) rfl ?_
      refine aw_iload_n C 3 2 (j := 3) rfl rfl (by decide +kernel) rfl ?_
      refine aw_aload_n C 0 0 (j := 0) rfl rfl (by decide +kernel) rfl ?_
      refine aw_getr C (k := 47) fc_12 (la_58 E) rfl (by decide) tb_989 (by decide +kernel) rfl ?_
      refine aw_iload C 4 3 rfl (by decide +kernel) rfl ?_
      obtain ⟨g5, hf⟩ := igd hf
      refine aw_lald C (la_80 E) g5 (by decide +kernel) rfl ?_
      obtain ⟨a6, ha6⟩ : ∃ z, z = (st.2 80 v4.toNatClampNeg) := ⟨_, rfl⟩
      refine aw_nml ha6 ?_
      have hf := ilt ha6 hf
      obtain ⟨g7, hf⟩ := igd hf
      refine aw_last C (la_80 E) g7 (by decide +kernel) rfl ?_
      refine aw_iload_n C 3 2 (j := 3) rfl rfl (by decide +kernel) rfl ?_
      refine aw_iconst C (i0 := 1) (v := 1) (by decide) (by decide +kernel) rfl ?_
      refine aw_iadd C (by decide +kernel) rfl ?_
      obtain ⟨a8, ha8⟩ : ∃ z, z = (v3 + (1 : Int32)) := ⟨_, rfl⟩
      refine aw_nmi ha8 ?_
      have hf := ilt ha8 hf
      refine aw_istore_n C [(3, .int a8), (0, .ref (gad G 58)), (1, .long v1), (4, .int v4)] (j := 3) rfl (by rw [hnL]; decide) rfl (by decide +kernel) rfl ?_
      obtain ⟨a9, ha9⟩ : ∃ z, z = (v4 + (1 : Int32)) := ⟨_, rfl⟩
      have hf := ilt ha9 hf
      refine aw_iinc C [(4, .int a9), (3, .int a8), (0, .ref (gad G 58)), (1, .long v1)] 3 (n := 1) rfl (by rw [ha9]; rfl) (by rw [hnL]; decide) rfl (by decide +kernel) rfl ?_
      refine aw_goto C (tgt := 39) (off := -50) (by decide +kernel) (by decide) ?_
      refine aw_sub [(0, .ref (gad G 58)), (1, .long v1), (3, .int a8), (4, .int a9)] [2, 3, 1, 0] rfl ?_
      exact hk39 v1 a8 a9 _ hf
theorem u_m_keepsOblong_39 {G : Cx} (C : CX G prog_14_method_86_code "PaperStarsModel") (CR0 : CR G (Option.none)) (E : LAin (gly G)) (hnL : gnL G = 5) (hgd : 0 ≤ gd G) {q : Unit × Mm} (hgr : gr G = none) (hgs : gsf G = q.2) : ∀ (n : Nat) (v1 : Int64) (v3 : Int32) (v4 : Int32) (st : Mm), f_m_keepsOblong_39 n v1 v3 v4 st = some q → AW G st 39 [(0, .ref (gad G 58)), (1, .long v1), (3, .int v3), (4, .int v4)] [] := by
  intro n
  induction n with
  | zero => intro v1 v3 v4 st hf; cases hf
  | succ n ih => intro v1 v3 v4 st hf; exact t_m_keepsOblong_39 C CR0 E hnL hgd hgr hgs (f_m_keepsOblong_39 n) ih v1 v3 v4 st hf
theorem t_m_keepsOblong_34 {G : Cx} (C : CX G prog_14_method_86_code "PaperStarsModel") (CR0 : CR G (Option.none)) (E : LAin (gly G)) (hnL : gnL G = 5) (hgd : 0 ≤ gd G) {q : Unit × Mm} (hgr : gr G = none) (hgs : gsf G = q.2) (v1 : Int64) (st : Mm) (hf : b_m_keepsOblong_34 v1 st = some q) : AW G st 34 [(0, .ref (gad G 58)), (1, .long v1)] [] := by
  unfold b_m_keepsOblong_34 at hf
  refine aw_iconst C (i0 := 0) (v := 0) (by decide) (by decide +kernel) rfl ?_
  refine aw_istore_n C [(3, .int (0 : Int32)), (0, .ref (gad G 58)), (1, .long v1)] (j := 3) rfl (by rw [hnL]; decide) rfl (by decide +kernel) rfl ?_
  refine aw_iconst C (i0 := 0) (v := 0) (by decide) (by decide +kernel) rfl ?_
  refine aw_istore C [(4, .int (0 : Int32)), (3, .int (0 : Int32)), (0, .ref (gad G 58)), (1, .long v1)] (by rw [hnL]; decide) rfl (by decide +kernel) rfl ?_
  refine aw_sub [(0, .ref (gad G 58)), (1, .long v1), (3, .int (0 : Int32)), (4, .int (0 : Int32))] [2, 3, 1, 0] rfl ?_
  exact u_m_keepsOblong_39 C CR0 E hnL hgd hgr hgs _ v1 (0 : Int32) (0 : Int32) _ hf
theorem t_m_keepsOblong_2 {G : Cx} (C : CX G prog_14_method_86_code "PaperStarsModel") (CR0 : CR G (Option.none)) (E : LAin (gly G)) (hnL : gnL G = 5) (hgd : 0 ≤ gd G) {q : Unit × Mm} (hgr : gr G = none) (hgs : gsf G = q.2) (k2 : Int64 → Int32 → Mm → Option (Unit × Mm)) (hk2 : ∀ (v1 : Int64) (v3 : Int32) (st : Mm), k2 v1 v3 st = some q → AW G st 2 [(0, .ref (gad G 58)), (1, .long v1), (3, .int v3)] []) (v1 : Int64) (v3 : Int32) (st : Mm) (hf : b_m_keepsOblong_2 k2 v1 v3 st = some q) : AW G st 2 [(0, .ref (gad G 58)), (1, .long v1), (3, .int v3)] [] := by
  unfold b_m_keepsOblong_2 at hf
  refine aw_iload_n C 3 2 (j := 3) rfl rfl (by decide +kernel) rfl ?_
  refine aw_aload_n C 0 0 (j := 0) rfl rfl (by decide +kernel) rfl ?_
  refine aw_get C (k := 49) fc_12 (la_58 E) rfl (by decide) tb_991 (by decide +kernel) rfl ?_
  refine aw_icmp_ge C (tgt := 34) (off := 27) (by decide +kernel) (by decide) rfl (fun c1 => ?_) (fun c1 => ?_)
  · have hf := ift c1 hf
    refine aw_sub [(0, .ref (gad G 58)), (1, .long v1)] [0, 1] rfl ?_
    exact t_m_keepsOblong_34 C CR0 E hnL hgd hgr hgs v1 _ hf
  · have hf := iff_ c1 hf
    refine aw_lload_n C 1 1 (j := 1) rfl rfl (by decide +kernel) rfl ?_
    refine aw_aload_n C 0 0 (j := 0) rfl rfl (by decide +kernel) rfl ?_
    refine aw_getr C (k := 47) fc_12 (la_58 E) rfl (by decide) tb_989 (by decide +kernel) rfl ?_
    refine aw_iload_n C 3 2 (j := 3) rfl rfl (by decide +kernel) rfl ?_
    obtain ⟨g2, hf⟩ := igd hf
    refine aw_lald C (la_80 E) g2 (by decide +kernel) rfl ?_
    refine aw_ldc2 C tb_1475 (by decide +kernel) rfl ?_
    refine aw_lxor C (by decide +kernel) rfl ?_
    refine aw_land C (by decide +kernel) rfl ?_
    refine aw_lconst C (i0 := 0) (v := 0) (by decide) (by decide +kernel) rfl ?_
    refine aw_lcmp C (by decide +kernel) rfl ?_
    refine aw_if_ne C (tgt := 28) (off := 4) (by decide +kernel) (by decide) rfl (fun c3 => ?_) (fun c3 => ?_)
    · have hf := ift c3 hf
      exact aw_vretq C CR0 hgr hgs hf (by decide +kernel)
    · have hf := iff_ c3 hf
      obtain ⟨a4, ha4⟩ : ∃ z, z = (v3 + (1 : Int32)) := ⟨_, rfl⟩
      have hf := ilt ha4 hf
      refine aw_iinc C [(3, .int a4), (0, .ref (gad G 58)), (1, .long v1)] 2 (n := 1) rfl (by rw [ha4]; rfl) (by rw [hnL]; decide) rfl (by decide +kernel) rfl ?_
      refine aw_goto C (tgt := 2) (off := -29) (by decide +kernel) (by decide) ?_
      refine aw_sub [(0, .ref (gad G 58)), (1, .long v1), (3, .int a4)] [1, 2, 0] rfl ?_
      exact hk2 v1 a4 _ hf
theorem u_m_keepsOblong_2 {G : Cx} (C : CX G prog_14_method_86_code "PaperStarsModel") (CR0 : CR G (Option.none)) (E : LAin (gly G)) (hnL : gnL G = 5) (hgd : 0 ≤ gd G) {q : Unit × Mm} (hgr : gr G = none) (hgs : gsf G = q.2) : ∀ (n : Nat) (v1 : Int64) (v3 : Int32) (st : Mm), f_m_keepsOblong_2 n v1 v3 st = some q → AW G st 2 [(0, .ref (gad G 58)), (1, .long v1), (3, .int v3)] [] := by
  intro n
  induction n with
  | zero => intro v1 v3 st hf; cases hf
  | succ n ih => intro v1 v3 st hf; exact t_m_keepsOblong_2 C CR0 E hnL hgd hgr hgs (f_m_keepsOblong_2 n) ih v1 v3 st hf
theorem t_m_keepsOblong {G : Cx} (C : CX G prog_14_method_86_code "PaperStarsModel") (CR0 : CR G (Option.none)) (E : LAin (gly G)) (hnL : gnL G = 5) (hgd : 0 ≤ gd G) {q : Unit × Mm} (hgr : gr G = none) (hgs : gsf G = q.2) (v1 : Int64) (st : Mm) (hf : f_m_keepsOblong v1 st = some q) : AW G st 0 [(0, .ref (gad G 58)), (1, .long v1)] [] := by
  unfold f_m_keepsOblong at hf
  refine aw_iconst C (i0 := 0) (v := 0) (by decide) (by decide +kernel) rfl ?_
  refine aw_istore_n C [(3, .int (0 : Int32)), (0, .ref (gad G 58)), (1, .long v1)] (j := 3) rfl (by rw [hnL]; decide) rfl (by decide +kernel) rfl ?_
  refine aw_sub [(0, .ref (gad G 58)), (1, .long v1), (3, .int (0 : Int32))] [1, 2, 0] rfl ?_
  exact u_m_keepsOblong_2 C CR0 E hnL hgd hgr hgs _ v1 (0 : Int32) _ hf
theorem c_m_keepsOblong {lay : Ly} (E : LAin lay) (v1 : Int64) (st : Mm) (q : Unit × Mm) (hf : f_m_keepsOblong v1 st = some q) : Con 0 Y225 prog_14_method_86_code 5 (Option.none) lay (fun ad => [.ref (ad 58), .long v1]) st (none) q.2 :=
  am_met yf_225.2.2.2.2.2 (fun ad => Nat.le_of_ble_eq_true rfl) (fun G C CR0 e1 e2 e3 e4 e5 => t_m_keepsOblong C CR0 (by rw [e1]; exact E) e2 (Nat.le_of_eq e5.symm) e3 e4 v1 st hf)
def b_m_numberOf_2 (k2 : Int32 → Int32 → Int32 → Mm → Option (Int32 × Mm)) (v1 : Int32) (v2 : Int32) (v3 : Int32) (st : Mm) : Option (Int32 × Mm) :=
  if (st.1 58 48) ≤ v3 then (some ((-1 : Int32), st)) else (if inb v3 64 then if (st.1 79 v3.toNatClampNeg) = (((16 : Int32) * v2) + v1) then (some (v3, st)) else (lt_ (v3 + (1 : Int32)) (fun a4 => k2 v1 v2 a4 st)) else none)
def f_m_numberOf_2 : Nat → Int32 → Int32 → Int32 → Mm → Option (Int32 × Mm)
  | 0 => fun _ _ _ _ => none
  | n + 1 => b_m_numberOf_2 (f_m_numberOf_2 n)
def f_m_numberOf (v1 : Int32) (v2 : Int32) (st : Mm) : Option (Int32 × Mm) :=
  f_m_numberOf_2 1000000 v1 v2 (0 : Int32) st
theorem t_m_numberOf_2 {G : Cx} (C : CX G prog_14_method_84_code "PaperStarsModel") (CR0 : CR G (Option.some FieldType.int)) (E : LAin (gly G)) (hnL : gnL G = 4) (hgd : 0 ≤ gd G) {q : Int32 × Mm} (hgr : gr G = some (.int q.1)) (hgs : gsf G = q.2) (k2 : Int32 → Int32 → Int32 → Mm → Option (Int32 × Mm)) (hk2 : ∀ (v1 : Int32) (v2 : Int32) (v3 : Int32) (st : Mm), k2 v1 v2 v3 st = some q → AW G st 2 [(0, .ref (gad G 58)), (1, .int v1), (2, .int v2), (3, .int v3)] []) (v1 : Int32) (v2 : Int32) (v3 : Int32) (st : Mm) (hf : b_m_numberOf_2 k2 v1 v2 v3 st = some q) : AW G st 2 [(0, .ref (gad G 58)), (1, .int v1), (2, .int v2), (3, .int v3)] [] := by
  unfold b_m_numberOf_2 at hf
  refine aw_iload_n C 3 3 (j := 3) rfl rfl (by decide +kernel) rfl ?_
  refine aw_aload_n C 0 0 (j := 0) rfl rfl (by decide +kernel) rfl ?_
  refine aw_get C (k := 48) fc_12 (la_58 E) rfl (by decide) tb_990 (by decide +kernel) rfl ?_
  refine aw_icmp_ge C (tgt := 33) (off := 26) (by decide +kernel) (by decide) rfl (fun c1 => ?_) (fun c1 => ?_)
  · have hf := ift c1 hf
    refine aw_iconst C (i0 := -1) (v := -1) (by decide) (by decide +kernel) rfl ?_
    exact aw_iretq C CR0 hgr hgs hf (by decide +kernel)
  · have hf := iff_ c1 hf
    refine aw_aload_n C 0 0 (j := 0) rfl rfl (by decide +kernel) rfl ?_
    refine aw_getr C (k := 46) fc_12 (la_58 E) rfl (by decide) tb_988 (by decide +kernel) rfl ?_
    refine aw_iload_n C 3 3 (j := 3) rfl rfl (by decide +kernel) rfl ?_
    obtain ⟨g2, hf⟩ := igd hf
    refine aw_iald C (la_79 E) g2 (by decide +kernel) rfl ?_
    refine aw_bipush C (i0 := 16) (v := 16) (by decide) (by decide +kernel) rfl ?_
    refine aw_iload_n C 2 2 (j := 2) rfl rfl (by decide +kernel) rfl ?_
    refine aw_imul C (by decide +kernel) rfl ?_
    refine aw_iload_n C 1 1 (j := 1) rfl rfl (by decide +kernel) rfl ?_
    refine aw_iadd C (by decide +kernel) rfl ?_
    refine aw_icmp_ne C (tgt := 27) (off := 5) (by decide +kernel) (by decide) rfl (fun c3 => ?_) (fun c3 => ?_)
    · have hf := ift c3 hf
      refine aw_iload_n C 3 3 (j := 3) rfl rfl (by decide +kernel) rfl ?_
      exact aw_iretq C CR0 hgr hgs hf (by decide +kernel)
    · have hf := iff_ c3 hf
      obtain ⟨a4, ha4⟩ : ∃ z, z = (v3 + (1 : Int32)) := ⟨_, rfl⟩
      have hf := ilt ha4 hf
      refine aw_iinc C [(3, .int a4), (0, .ref (gad G 58)), (1, .int v1), (2, .int v2)] 3 (n := 1) rfl (by rw [ha4]; rfl) (by rw [hnL]; decide) rfl (by decide +kernel) rfl ?_
      refine aw_goto C (tgt := 2) (off := -28) (by decide +kernel) (by decide) ?_
      refine aw_sub [(0, .ref (gad G 58)), (1, .int v1), (2, .int v2), (3, .int a4)] [1, 2, 3, 0] rfl ?_
      exact hk2 v1 v2 a4 _ hf
theorem u_m_numberOf_2 {G : Cx} (C : CX G prog_14_method_84_code "PaperStarsModel") (CR0 : CR G (Option.some FieldType.int)) (E : LAin (gly G)) (hnL : gnL G = 4) (hgd : 0 ≤ gd G) {q : Int32 × Mm} (hgr : gr G = some (.int q.1)) (hgs : gsf G = q.2) : ∀ (n : Nat) (v1 : Int32) (v2 : Int32) (v3 : Int32) (st : Mm), f_m_numberOf_2 n v1 v2 v3 st = some q → AW G st 2 [(0, .ref (gad G 58)), (1, .int v1), (2, .int v2), (3, .int v3)] [] := by
  intro n
  induction n with
  | zero => intro v1 v2 v3 st hf; cases hf
  | succ n ih => intro v1 v2 v3 st hf; exact t_m_numberOf_2 C CR0 E hnL hgd hgr hgs (f_m_numberOf_2 n) ih v1 v2 v3 st hf
theorem t_m_numberOf {G : Cx} (C : CX G prog_14_method_84_code "PaperStarsModel") (CR0 : CR G (Option.some FieldType.int)) (E : LAin (gly G)) (hnL : gnL G = 4) (hgd : 0 ≤ gd G) {q : Int32 × Mm} (hgr : gr G = some (.int q.1)) (hgs : gsf G = q.2) (v1 : Int32) (v2 : Int32) (st : Mm) (hf : f_m_numberOf v1 v2 st = some q) : AW G st 0 [(0, .ref (gad G 58)), (1, .int v1), (2, .int v2)] [] := by
  unfold f_m_numberOf at hf
  refine aw_iconst C (i0 := 0) (v := 0) (by decide) (by decide +kernel) rfl ?_
  refine aw_istore_n C [(3, .int (0 : Int32)), (0, .ref (gad G 58)), (1, .int v1), (2, .int v2)] (j := 3) rfl (by rw [hnL]; decide) rfl (by decide +kernel) rfl ?_
  refine aw_sub [(0, .ref (gad G 58)), (1, .int v1), (2, .int v2), (3, .int (0 : Int32))] [1, 2, 3, 0] rfl ?_
  exact u_m_numberOf_2 C CR0 E hnL hgd hgr hgs _ v1 v2 (0 : Int32) _ hf
theorem c_m_numberOf {lay : Ly} (E : LAin lay) (v1 : Int32) (v2 : Int32) (st : Mm) (q : Int32 × Mm) (hf : f_m_numberOf v1 v2 st = some q) : Con 0 Y224 prog_14_method_84_code 4 (Option.some FieldType.int) lay (fun ad => [.ref (ad 58), .int v1, .int v2]) st (some (.int q.1)) q.2 :=
  am_met yf_224.2.2.2.2.2 (fun ad => Nat.le_of_ble_eq_true rfl) (fun G C CR0 e1 e2 e3 e4 e5 => t_m_numberOf C CR0 (by rw [e1]; exact E) e2 (Nat.le_of_eq e5.symm) e3 e4 v1 v2 st hf)
def b_m_oblong_83 (k8 : Int32 → Int32 → Int64 → Int32 → Mm → Option (Int64 × Mm)) (v1 : Int32) (v2 : Int32) (v3 : Int64) (v5 : Int32) (st : Mm) : Option (Int64 × Mm) :=
  lt_ (v5 + (1 : Int32)) (fun a1 => k8 v1 v2 v3 a1 st)
def b_m_oblong_23 (k8 : Int32 → Int32 → Int64 → Int32 → Mm → Option (Int64 × Mm)) (k23 : Int32 → Int32 → Int64 → Int32 → Int32 → Mm → Option (Int64 × Mm)) (v1 : Int32) (v2 : Int32) (v3 : Int64) (v5 : Int32) (v6 : Int32) (st : Mm) : Option (Int64 × Mm) :=
  if (v2 - v2 / (16 : Int32) * (16 : Int32)) < v6 then (b_m_oblong_83 k8 v1 v2 v3 v5 st) else ((f_m_isPlace v6 v5 st).bind (fun q2 => if q2.1 = 0 then (lt_ (v6 + (1 : Int32)) (fun a4 => k23 v1 v2 v3 v5 a4 q2.2)) else (if inb (((16 : Int32) * v5) + v6) 256 then if (q2.2.1 78 (((16 : Int32) * v5) + v6).toNatClampNeg) = 0 then (some ((0 : Int64), q2.2)) else ((f_m_numberOf v6 v5 q2.2).bind (fun q7 => lt_ (v3 ||| ((1 : Int64) <<< (q7.1.toInt64 &&& 63))) (fun a8 => lt_ (v6 + (1 : Int32)) (fun a9 => k23 v1 v2 a8 v5 a9 q7.2)))) else none)))
def f_m_oblong_23 (k8 : Int32 → Int32 → Int64 → Int32 → Mm → Option (Int64 × Mm)) : Nat → Int32 → Int32 → Int64 → Int32 → Int32 → Mm → Option (Int64 × Mm)
  | 0 => fun _ _ _ _ _ _ => none
  | n + 1 => b_m_oblong_23 k8 (f_m_oblong_23 k8 n)
def b_m_oblong_8 (k8 : Int32 → Int32 → Int64 → Int32 → Mm → Option (Int64 × Mm)) (v1 : Int32) (v2 : Int32) (v3 : Int64) (v5 : Int32) (st : Mm) : Option (Int64 × Mm) :=
  if (v2 / (16 : Int32)) < v5 then (some (v3, st)) else (lt_ (v1 - v1 / (16 : Int32) * (16 : Int32)) (fun a2 => f_m_oblong_23 k8 1000000 v1 v2 v3 v5 a2 st))
def f_m_oblong_8 : Nat → Int32 → Int32 → Int64 → Int32 → Mm → Option (Int64 × Mm)
  | 0 => fun _ _ _ _ _ => none
  | n + 1 => b_m_oblong_8 (f_m_oblong_8 n)
def f_m_oblong (v1 : Int32) (v2 : Int32) (st : Mm) : Option (Int64 × Mm) :=
  lt_ (v1 / (16 : Int32)) (fun a1 => f_m_oblong_8 1000000 v1 v2 (0 : Int64) a1 st)
theorem t_m_oblong_83 {G : Cx} (C : CX G prog_14_method_85_code "PaperStarsModel") (CR0 : CR G (Option.some FieldType.long)) (E : LAin (gly G)) (hnL : gnL G = 7) (hgd : 1 ≤ gd G) {q : Int64 × Mm} (hgr : gr G = some (.long q.1)) (hgs : gsf G = q.2) (k8 : Int32 → Int32 → Int64 → Int32 → Mm → Option (Int64 × Mm)) (hk8 : ∀ (v1 : Int32) (v2 : Int32) (v3 : Int64) (v5 : Int32) (st : Mm), k8 v1 v2 v3 v5 st = some q → AW G st 8 [(0, .ref (gad G 58)), (1, .int v1), (2, .int v2), (3, .long v3), (5, .int v5)] []) (v1 : Int32) (v2 : Int32) (v3 : Int64) (v5 : Int32) (st : Mm) (hf : b_m_oblong_83 k8 v1 v2 v3 v5 st = some q) : AW G st 83 [(0, .ref (gad G 58)), (1, .int v1), (2, .int v2), (3, .long v3), (5, .int v5)] [] := by
  unfold b_m_oblong_83 at hf
  obtain ⟨a1, ha1⟩ : ∃ z, z = (v5 + (1 : Int32)) := ⟨_, rfl⟩
  have hf := ilt ha1 hf
  refine aw_iinc C [(5, .int a1), (0, .ref (gad G 58)), (1, .int v1), (2, .int v2), (3, .long v3)] 4 (n := 1) rfl (by rw [ha1]; rfl) (by rw [hnL]; decide) rfl (by decide +kernel) rfl ?_
  refine aw_goto C (tgt := 8) (off := -78) (by decide +kernel) (by decide) ?_
  refine aw_sub [(0, .ref (gad G 58)), (1, .int v1), (2, .int v2), (3, .long v3), (5, .int a1)] [1, 2, 3, 4, 0] rfl ?_
  exact hk8 v1 v2 v3 a1 _ hf
theorem t_m_oblong_23 {G : Cx} (C : CX G prog_14_method_85_code "PaperStarsModel") (CR0 : CR G (Option.some FieldType.long)) (E : LAin (gly G)) (hnL : gnL G = 7) (hgd : 1 ≤ gd G) {q : Int64 × Mm} (hgr : gr G = some (.long q.1)) (hgs : gsf G = q.2) (k8 : Int32 → Int32 → Int64 → Int32 → Mm → Option (Int64 × Mm)) (k23 : Int32 → Int32 → Int64 → Int32 → Int32 → Mm → Option (Int64 × Mm)) (hk8 : ∀ (v1 : Int32) (v2 : Int32) (v3 : Int64) (v5 : Int32) (st : Mm), k8 v1 v2 v3 v5 st = some q → AW G st 8 [(0, .ref (gad G 58)), (1, .int v1), (2, .int v2), (3, .long v3), (5, .int v5)] []) (hk23 : ∀ (v1 : Int32) (v2 : Int32) (v3 : Int64) (v5 : Int32) (v6 : Int32) (st : Mm), k23 v1 v2 v3 v5 v6 st = some q → AW G st 23 [(0, .ref (gad G 58)), (1, .int v1), (2, .int v2), (3, .long v3), (5, .int v5), (6, .int v6)] []) (v1 : Int32) (v2 : Int32) (v3 : Int64) (v5 : Int32) (v6 : Int32) (st : Mm) (hf : b_m_oblong_23 k8 k23 v1 v2 v3 v5 v6 st = some q) : AW G st 23 [(0, .ref (gad G 58)), (1, .int v1), (2, .int v2), (3, .long v3), (5, .int v5), (6, .int v6)] [] := by
  unfold b_m_oblong_23 at hf
  refine aw_iload C 6 5 rfl (by decide +kernel) rfl ?_
  refine aw_iload_n C 2 2 (j := 2) rfl rfl (by decide +kernel) rfl ?_
  refine aw_bipush C (i0 := 16) (v := 16) (by decide) (by decide +kernel) rfl ?_
  refine aw_irem C (by decide) (by decide +kernel) rfl ?_
  refine aw_icmp_gt C (tgt := 83) (off := 54) (by decide +kernel) (by decide) rfl (fun c1 => ?_) (fun c1 => ?_)
  · have hf := ift c1 hf
    refine aw_sub [(0, .ref (gad G 58)), (1, .int v1), (2, .int v2), (3, .long v3), (5, .int v5)] [0, 1, 2, 3, 4] rfl ?_
    exact t_m_oblong_83 C CR0 E hnL hgd hgr hgs k8 hk8 v1 v2 v3 v5 _ hf
  · have hf := iff_ c1 hf
    refine aw_aload_n C 0 0 (j := 0) rfl rfl (by decide +kernel) rfl ?_
    refine aw_iload C 6 5 rfl (by decide +kernel) rfl ?_
    refine aw_iload C 5 4 rfl (by decide +kernel) rfl ?_
    obtain ⟨q2, hq2, hf⟩ := ibd hf
    refine aw_callV C (rest := []) (c_m_isPlace E v6 v5 _ q2 hq2) tb_1218 yf_161 yi_161 (la_58 E) [.int v6, .int v5] rfl rfl _ rfl (Nat.le_trans (by decide) hgd) (Nat.le_of_ble_eq_true rfl) (by decide +kernel) rfl ?_
    show AW _ _ _ _ [.int q2.1]
    refine aw_if_ne C (tgt := 46) (off := 6) (by decide +kernel) (by decide) rfl (fun c3 => ?_) (fun c3 => ?_)
    · have hf := ift c3 hf
      refine aw_goto C (tgt := 77) (off := 34) (by decide +kernel) (by decide) ?_
      obtain ⟨a4, ha4⟩ : ∃ z, z = (v6 + (1 : Int32)) := ⟨_, rfl⟩
      have hf := ilt ha4 hf
      refine aw_iinc C [(6, .int a4), (0, .ref (gad G 58)), (1, .int v1), (2, .int v2), (3, .long v3), (5, .int v5)] 5 (n := 1) rfl (by rw [ha4]; rfl) (by rw [hnL]; decide) rfl (by decide +kernel) rfl ?_
      refine aw_goto C (tgt := 23) (off := -57) (by decide +kernel) (by decide) ?_
      refine aw_sub [(0, .ref (gad G 58)), (1, .int v1), (2, .int v2), (3, .long v3), (5, .int v5), (6, .int a4)] [1, 2, 3, 4, 5, 0] rfl ?_
      exact hk23 v1 v2 v3 v5 a4 _ hf
    · have hf := iff_ c3 hf
      refine aw_aload_n C 0 0 (j := 0) rfl rfl (by decide +kernel) rfl ?_
      refine aw_getr C (k := 45) fc_12 (la_58 E) rfl (by decide) tb_987 (by decide +kernel) rfl ?_
      refine aw_bipush C (i0 := 16) (v := 16) (by decide) (by decide +kernel) rfl ?_
      refine aw_iload C 5 4 rfl (by decide +kernel) rfl ?_
      refine aw_imul C (by decide +kernel) rfl ?_
      refine aw_iload C 6 5 rfl (by decide +kernel) rfl ?_
      refine aw_iadd C (by decide +kernel) rfl ?_
      obtain ⟨g5, hf⟩ := igd hf
      refine aw_zald C (la_78 E) g5 (by decide +kernel) rfl ?_
      refine aw_if_ne C (tgt := 64) (off := 5) (by decide +kernel) (by decide) rfl (fun c6 => ?_) (fun c6 => ?_)
      · have hf := ift c6 hf
        refine aw_lconst C (i0 := 0) (v := 0) (by decide) (by decide +kernel) rfl ?_
        exact aw_lretq C CR0 hgr hgs hf (by decide +kernel)
      · have hf := iff_ c6 hf
        refine aw_lload_n C 3 3 (j := 3) rfl rfl (by decide +kernel) rfl ?_
        refine aw_lconst C (i0 := 1) (v := 1) (by decide) (by decide +kernel) rfl ?_
        refine aw_aload_n C 0 0 (j := 0) rfl rfl (by decide +kernel) rfl ?_
        refine aw_iload C 6 5 rfl (by decide +kernel) rfl ?_
        refine aw_iload C 5 4 rfl (by decide +kernel) rfl ?_
        obtain ⟨q7, hq7, hf⟩ := ibd hf
        refine aw_callV C (rest := [.long (1 : Int64), .long v3]) (c_m_numberOf E v6 v5 _ q7 hq7) tb_1467 yf_224 yi_224 (la_58 E) [.int v6, .int v5] rfl rfl _ rfl (Nat.le_trans (by decide) hgd) (Nat.le_of_ble_eq_true rfl) (by decide +kernel) rfl ?_
        show AW _ _ _ _ [.int q7.1, .long (1 : Int64), .long v3]
        refine aw_lshl C (by decide +kernel) rfl ?_
        refine aw_lor C (by decide +kernel) rfl ?_
        obtain ⟨a8, ha8⟩ : ∃ z, z = (v3 ||| ((1 : Int64) <<< (q7.1.toInt64 &&& 63))) := ⟨_, rfl⟩
        refine aw_nml ha8 ?_
        have hf := ilt ha8 hf
        refine aw_lstore_n C [(3, .long a8), (0, .ref (gad G 58)), (1, .int v1), (2, .int v2), (5, .int v5), (6, .int v6)] (j := 3) rfl (by rw [hnL]; decide) rfl (by decide +kernel) rfl ?_
        obtain ⟨a9, ha9⟩ : ∃ z, z = (v6 + (1 : Int32)) := ⟨_, rfl⟩
        have hf := ilt ha9 hf
        refine aw_iinc C [(6, .int a9), (3, .long a8), (0, .ref (gad G 58)), (1, .int v1), (2, .int v2), (5, .int v5)] 5 (n := 1) rfl (by rw [ha9]; rfl) (by rw [hnL]; decide) rfl (by decide +kernel) rfl ?_
        refine aw_goto C (tgt := 23) (off := -57) (by decide +kernel) (by decide) ?_
        refine aw_sub [(0, .ref (gad G 58)), (1, .int v1), (2, .int v2), (3, .long a8), (5, .int v5), (6, .int a9)] [2, 3, 4, 1, 5, 0] rfl ?_
        exact hk23 v1 v2 a8 v5 a9 _ hf
theorem u_m_oblong_23 {G : Cx} (C : CX G prog_14_method_85_code "PaperStarsModel") (CR0 : CR G (Option.some FieldType.long)) (E : LAin (gly G)) (hnL : gnL G = 7) (hgd : 1 ≤ gd G) {q : Int64 × Mm} (hgr : gr G = some (.long q.1)) (hgs : gsf G = q.2) (k8 : Int32 → Int32 → Int64 → Int32 → Mm → Option (Int64 × Mm)) (hk8 : ∀ (v1 : Int32) (v2 : Int32) (v3 : Int64) (v5 : Int32) (st : Mm), k8 v1 v2 v3 v5 st = some q → AW G st 8 [(0, .ref (gad G 58)), (1, .int v1), (2, .int v2), (3, .long v3), (5, .int v5)] []) : ∀ (n : Nat) (v1 : Int32) (v2 : Int32) (v3 : Int64) (v5 : Int32) (v6 : Int32) (st : Mm), f_m_oblong_23 k8 n v1 v2 v3 v5 v6 st = some q → AW G st 23 [(0, .ref (gad G 58)), (1, .int v1), (2, .int v2), (3, .long v3), (5, .int v5), (6, .int v6)] [] := by
  intro n
  induction n with
  | zero => intro v1 v2 v3 v5 v6 st hf; cases hf
  | succ n ih => intro v1 v2 v3 v5 v6 st hf; exact t_m_oblong_23 C CR0 E hnL hgd hgr hgs k8 (f_m_oblong_23 k8 n) hk8 ih v1 v2 v3 v5 v6 st hf
theorem t_m_oblong_8 {G : Cx} (C : CX G prog_14_method_85_code "PaperStarsModel") (CR0 : CR G (Option.some FieldType.long)) (E : LAin (gly G)) (hnL : gnL G = 7) (hgd : 1 ≤ gd G) {q : Int64 × Mm} (hgr : gr G = some (.long q.1)) (hgs : gsf G = q.2) (k8 : Int32 → Int32 → Int64 → Int32 → Mm → Option (Int64 × Mm)) (hk8 : ∀ (v1 : Int32) (v2 : Int32) (v3 : Int64) (v5 : Int32) (st : Mm), k8 v1 v2 v3 v5 st = some q → AW G st 8 [(0, .ref (gad G 58)), (1, .int v1), (2, .int v2), (3, .long v3), (5, .int v5)] []) (v1 : Int32) (v2 : Int32) (v3 : Int64) (v5 : Int32) (st : Mm) (hf : b_m_oblong_8 k8 v1 v2 v3 v5 st = some q) : AW G st 8 [(0, .ref (gad G 58)), (1, .int v1), (2, .int v2), (3, .long v3), (5, .int v5)] [] := by
  unfold b_m_oblong_8 at hf
  refine aw_iload C 5 4 rfl (by decide +kernel) rfl ?_
  refine aw_iload_n C 2 2 (j := 2) rfl rfl (by decide +kernel) rfl ?_
  refine aw_bipush C (i0 := 16) (v := 16) (by decide) (by decide +kernel) rfl ?_
  refine aw_idiv C (by decide) (by decide +kernel) rfl ?_
  refine aw_icmp_gt C (tgt := 89) (off := 75) (by decide +kernel) (by decide) rfl (fun c1 => ?_) (fun c1 => ?_)
  · have hf := ift c1 hf
    refine aw_lload_n C 3 3 (j := 3) rfl rfl (by decide +kernel) rfl ?_
    exact aw_lretq C CR0 hgr hgs hf (by decide +kernel)
  · have hf := iff_ c1 hf
    refine aw_iload_n C 1 1 (j := 1) rfl rfl (by decide +kernel) rfl ?_
    refine aw_bipush C (i0 := 16) (v := 16) (by decide) (by decide +kernel) rfl ?_
    refine aw_irem C (by decide) (by decide +kernel) rfl ?_
    obtain ⟨a2, ha2⟩ : ∃ z, z = (v1 - v1 / (16 : Int32) * (16 : Int32)) := ⟨_, rfl⟩
    refine aw_nmi ha2 ?_
    have hf := ilt ha2 hf
    refine aw_istore C [(6, .int a2), (0, .ref (gad G 58)), (1, .int v1), (2, .int v2), (3, .long v3), (5, .int v5)] (by rw [hnL]; decide) rfl (by decide +kernel) rfl ?_
    refine aw_sub [(0, .ref (gad G 58)), (1, .int v1), (2, .int v2), (3, .long v3), (5, .int v5), (6, .int a2)] [1, 2, 3, 4, 5, 0] rfl ?_
    exact u_m_oblong_23 C CR0 E hnL hgd hgr hgs k8 hk8 _ v1 v2 v3 v5 a2 _ hf
theorem u_m_oblong_8 {G : Cx} (C : CX G prog_14_method_85_code "PaperStarsModel") (CR0 : CR G (Option.some FieldType.long)) (E : LAin (gly G)) (hnL : gnL G = 7) (hgd : 1 ≤ gd G) {q : Int64 × Mm} (hgr : gr G = some (.long q.1)) (hgs : gsf G = q.2) : ∀ (n : Nat) (v1 : Int32) (v2 : Int32) (v3 : Int64) (v5 : Int32) (st : Mm), f_m_oblong_8 n v1 v2 v3 v5 st = some q → AW G st 8 [(0, .ref (gad G 58)), (1, .int v1), (2, .int v2), (3, .long v3), (5, .int v5)] [] := by
  intro n
  induction n with
  | zero => intro v1 v2 v3 v5 st hf; cases hf
  | succ n ih => intro v1 v2 v3 v5 st hf; exact t_m_oblong_8 C CR0 E hnL hgd hgr hgs (f_m_oblong_8 n) ih v1 v2 v3 v5 st hf
theorem t_m_oblong {G : Cx} (C : CX G prog_14_method_85_code "PaperStarsModel") (CR0 : CR G (Option.some FieldType.long)) (E : LAin (gly G)) (hnL : gnL G = 7) (hgd : 1 ≤ gd G) {q : Int64 × Mm} (hgr : gr G = some (.long q.1)) (hgs : gsf G = q.2) (v1 : Int32) (v2 : Int32) (st : Mm) (hf : f_m_oblong v1 v2 st = some q) : AW G st 0 [(0, .ref (gad G 58)), (1, .int v1), (2, .int v2)] [] := by
  unfold f_m_oblong at hf
  refine aw_lconst C (i0 := 0) (v := 0) (by decide) (by decide +kernel) rfl ?_
  refine aw_lstore_n C [(3, .long (0 : Int64)), (0, .ref (gad G 58)), (1, .int v1), (2, .int v2)] (j := 3) rfl (by rw [hnL]; decide) rfl (by decide +kernel) rfl ?_
  refine aw_iload_n C 1 2 (j := 1) rfl rfl (by decide +kernel) rfl ?_
  refine aw_bipush C (i0 := 16) (v := 16) (by decide) (by decide +kernel) rfl ?_
  refine aw_idiv C (by decide) (by decide +kernel) rfl ?_
  obtain ⟨a1, ha1⟩ : ∃ z, z = (v1 / (16 : Int32)) := ⟨_, rfl⟩
  refine aw_nmi ha1 ?_
  have hf := ilt ha1 hf
  refine aw_istore C [(5, .int a1), (3, .long (0 : Int64)), (0, .ref (gad G 58)), (1, .int v1), (2, .int v2)] (by rw [hnL]; decide) rfl (by decide +kernel) rfl ?_
  refine aw_sub [(0, .ref (gad G 58)), (1, .int v1), (2, .int v2), (3, .long (0 : Int64)), (5, .int a1)] [2, 3, 4, 1, 0] rfl ?_
  exact u_m_oblong_8 C CR0 E hnL hgd hgr hgs _ v1 v2 (0 : Int64) a1 _ hf
theorem c_m_oblong {lay : Ly} (E : LAin lay) (v1 : Int32) (v2 : Int32) (st : Mm) (q : Int64 × Mm) (hf : f_m_oblong v1 v2 st = some q) : Con 1 Y223 prog_14_method_85_code 7 (Option.some FieldType.long) lay (fun ad => [.ref (ad 58), .int v1, .int v2]) st (some (.long q.1)) q.2 :=
  am_met yf_223.2.2.2.2.2 (fun ad => Nat.le_of_ble_eq_true rfl) (fun G C CR0 e1 e2 e3 e4 e5 => t_m_oblong C CR0 (by rw [e1]; exact E) e2 (Nat.le_of_eq e5.symm) e3 e4 v1 v2 st hf)
def b_m_laysOblongs_153 (k65 : Int32 → Mm → Option (Unit × Mm)) (v1 : Int32) (st : Mm) : Option (Unit × Mm) :=
  lt_ (v1 + (1 : Int32)) (fun a1 => k65 a1 st)
def b_m_laysOblongs_75 (k65 : Int32 → Mm → Option (Unit × Mm)) (k75 : Int32 → Int32 → Mm → Option (Unit × Mm)) (v1 : Int32) (v2 : Int32) (st : Mm) : Option (Unit × Mm) :=
  if (st.1 58 48) ≤ v2 then (b_m_laysOblongs_153 k65 v1 st) else (if inb v1 64 then lt_ (st.1 79 v1.toNatClampNeg) (fun a3 => if inb v2 64 then lt_ (st.1 79 v2.toNatClampNeg) (fun a5 => if (a5 - a5 / (16 : Int32) * (16 : Int32)) < (a3 - a3 / (16 : Int32) * (16 : Int32)) then (lt_ (v2 + (1 : Int32)) (fun a7 => k75 v1 a7 st)) else (if (a3 / (16 : Int32)) ≤ (a5 / (16 : Int32)) then ((f_m_oblong a3 a5 st).bind (fun q9 => if (lg_cmp q9.1 (0 : Int64)) = 0 then (lt_ (v2 + (1 : Int32)) (fun a11 => k75 v1 a11 q9.2)) else ((f_m_keepsOblong q9.1 q9.2).bind (fun q12 => lt_ (v2 + (1 : Int32)) (fun a13 => k75 v1 a13 q12.2))))) else (lt_ (v2 + (1 : Int32)) (fun a14 => k75 v1 a14 st)))) else none) else none)
def f_m_laysOblongs_75 (k65 : Int32 → Mm → Option (Unit × Mm)) : Nat → Int32 → Int32 → Mm → Option (Unit × Mm)
  | 0 => fun _ _ _ => none
  | n + 1 => b_m_laysOblongs_75 k65 (f_m_laysOblongs_75 k65 n)
def b_m_laysOblongs_65 (k65 : Int32 → Mm → Option (Unit × Mm)) (v1 : Int32) (st : Mm) : Option (Unit × Mm) :=
  if (st.1 58 48) ≤ v1 then (some ((), st)) else (f_m_laysOblongs_75 k65 1000000 v1 (0 : Int32) st)
def f_m_laysOblongs_65 : Nat → Int32 → Mm → Option (Unit × Mm)
  | 0 => fun _ _ => none
  | n + 1 => b_m_laysOblongs_65 (f_m_laysOblongs_65 n)
def b_m_laysOblongs_58 (st : Mm) : Option (Unit × Mm) :=
  f_m_laysOblongs_65 1000000 (0 : Int32) (sI st 58 49 (0 : Int32))
def b_m_laysOblongs_7 (k7 : Int32 → Mm → Option (Unit × Mm)) (v1 : Int32) (st : Mm) : Option (Unit × Mm) :=
  if (256 : Int32) ≤ v1 then (b_m_laysOblongs_58 st) else ((f_m_isPlace (v1 - v1 / (16 : Int32) * (16 : Int32)) (v1 / (16 : Int32)) st).bind (fun q2 => if q2.1 = 0 then (lt_ (v1 + (1 : Int32)) (fun a4 => k7 a4 q2.2)) else (if inb (q2.2.1 58 48) 64 then lt_ (((sI q2.2 79 (q2.2.1 58 48).toNatClampNeg v1).1 58 48) + (1 : Int32)) (fun a6 => lt_ (v1 + (1 : Int32)) (fun a7 => k7 a7 (sI (sI q2.2 79 (q2.2.1 58 48).toNatClampNeg v1) 58 48 a6))) else none)))
def f_m_laysOblongs_7 : Nat → Int32 → Mm → Option (Unit × Mm)
  | 0 => fun _ _ => none
  | n + 1 => b_m_laysOblongs_7 (f_m_laysOblongs_7 n)
def f_m_laysOblongs (st : Mm) : Option (Unit × Mm) :=
  f_m_laysOblongs_7 1000000 (0 : Int32) (sI st 58 48 (0 : Int32))
theorem t_m_laysOblongs_153 {G : Cx} (C : CX G prog_14_method_87_code "PaperStarsModel") (CR0 : CR G (Option.none)) (E : LAin (gly G)) (hnL : gnL G = 7) (hgd : 2 ≤ gd G) {q : Unit × Mm} (hgr : gr G = none) (hgs : gsf G = q.2) (k65 : Int32 → Mm → Option (Unit × Mm)) (hk65 : ∀ (v1 : Int32) (st : Mm), k65 v1 st = some q → AW G st 65 [(0, .ref (gad G 58)), (1, .int v1)] []) (v1 : Int32) (st : Mm) (hf : b_m_laysOblongs_153 k65 v1 st = some q) : AW G st 153 [(0, .ref (gad G 58)), (1, .int v1)] [] := by
  unfold b_m_laysOblongs_153 at hf
  obtain ⟨a1, ha1⟩ : ∃ z, z = (v1 + (1 : Int32)) := ⟨_, rfl⟩
  have hf := ilt ha1 hf
  refine aw_iinc C [(1, .int a1), (0, .ref (gad G 58))] 1 (n := 1) rfl (by rw [ha1]; rfl) (by rw [hnL]; decide) rfl (by decide +kernel) rfl ?_
  refine aw_goto C (tgt := 65) (off := -91) (by decide +kernel) (by decide) ?_
  refine aw_sub [(0, .ref (gad G 58)), (1, .int a1)] [1, 0] rfl ?_
  exact hk65 a1 _ hf
theorem t_m_laysOblongs_75 {G : Cx} (C : CX G prog_14_method_87_code "PaperStarsModel") (CR0 : CR G (Option.none)) (E : LAin (gly G)) (hnL : gnL G = 7) (hgd : 2 ≤ gd G) {q : Unit × Mm} (hgr : gr G = none) (hgs : gsf G = q.2) (k65 : Int32 → Mm → Option (Unit × Mm)) (k75 : Int32 → Int32 → Mm → Option (Unit × Mm)) (hk65 : ∀ (v1 : Int32) (st : Mm), k65 v1 st = some q → AW G st 65 [(0, .ref (gad G 58)), (1, .int v1)] []) (hk75 : ∀ (v1 : Int32) (v2 : Int32) (st : Mm), k75 v1 v2 st = some q → AW G st 75 [(0, .ref (gad G 58)), (1, .int v1), (2, .int v2)] []) (v1 : Int32) (v2 : Int32) (st : Mm) (hf : b_m_laysOblongs_75 k65 k75 v1 v2 st = some q) : AW G st 75 [(0, .ref (gad G 58)), (1, .int v1), (2, .int v2)] [] := by
  unfold b_m_laysOblongs_75 at hf
  refine aw_iload_n C 2 2 (j := 2) rfl rfl (by decide +kernel) rfl ?_
  refine aw_aload_n C 0 0 (j := 0) rfl rfl (by decide +kernel) rfl ?_
  refine aw_get C (k := 48) fc_12 (la_58 E) rfl (by decide) tb_990 (by decide +kernel) rfl ?_
  refine aw_icmp_ge C (tgt := 153) (off := 73) (by decide +kernel) (by decide) rfl (fun c1 => ?_) (fun c1 => ?_)
  · have hf := ift c1 hf
    refine aw_sub [(0, .ref (gad G 58)), (1, .int v1)] [0, 1] rfl ?_
    exact t_m_laysOblongs_153 C CR0 E hnL hgd hgr hgs k65 hk65 v1 _ hf
  · have hf := iff_ c1 hf
    refine aw_aload_n C 0 0 (j := 0) rfl rfl (by decide +kernel) rfl ?_
    refine aw_getr C (k := 46) fc_12 (la_58 E) rfl (by decide) tb_988 (by decide +kernel) rfl ?_
    refine aw_iload_n C 1 1 (j := 1) rfl rfl (by decide +kernel) rfl ?_
    obtain ⟨g2, hf⟩ := igd hf
    refine aw_iald C (la_79 E) g2 (by decide +kernel) rfl ?_
    obtain ⟨a3, ha3⟩ : ∃ z, z = (st.1 79 v1.toNatClampNeg) := ⟨_, rfl⟩
    refine aw_nmi ha3 ?_
    have hf := ilt ha3 hf
    refine aw_istore_n C [(3, .int a3), (0, .ref (gad G 58)), (1, .int v1), (2, .int v2)] (j := 3) rfl (by rw [hnL]; decide) rfl (by decide +kernel) rfl ?_
    refine aw_aload_n C 0 1 (j := 0) rfl rfl (by decide +kernel) rfl ?_
    refine aw_getr C (k := 46) fc_12 (la_58 E) rfl (by decide) tb_988 (by decide +kernel) rfl ?_
    refine aw_iload_n C 2 3 (j := 2) rfl rfl (by decide +kernel) rfl ?_
    obtain ⟨g4, hf⟩ := igd hf
    refine aw_iald C (la_79 E) g4 (by decide +kernel) rfl ?_
    obtain ⟨a5, ha5⟩ : ∃ z, z = (st.1 79 v2.toNatClampNeg) := ⟨_, rfl⟩
    refine aw_nmi ha5 ?_
    have hf := ilt ha5 hf
    refine aw_istore C [(4, .int a5), (3, .int a3), (0, .ref (gad G 58)), (1, .int v1), (2, .int v2)] (by rw [hnL]; decide) rfl (by decide +kernel) rfl ?_
    refine aw_iload C 4 0 rfl (by decide +kernel) rfl ?_
    refine aw_bipush C (i0 := 16) (v := 16) (by decide) (by decide +kernel) rfl ?_
    refine aw_irem C (by decide) (by decide +kernel) rfl ?_
    refine aw_iload_n C 3 1 (j := 3) rfl rfl (by decide +kernel) rfl ?_
    refine aw_bipush C (i0 := 16) (v := 16) (by decide) (by decide +kernel) rfl ?_
    refine aw_irem C (by decide) (by decide +kernel) rfl ?_
    refine aw_icmp_lt C (tgt := 147) (off := 40) (by decide +kernel) (by decide) rfl (fun c6 => ?_) (fun c6 => ?_)
    · have hf := ift c6 hf
      obtain ⟨a7, ha7⟩ : ∃ z, z = (v2 + (1 : Int32)) := ⟨_, rfl⟩
      have hf := ilt ha7 hf
      refine aw_iinc C [(2, .int a7), (4, .int a5), (3, .int a3), (0, .ref (gad G 58)), (1, .int v1)] 4 (n := 1) rfl (by rw [ha7]; rfl) (by rw [hnL]; decide) rfl (by decide +kernel) rfl ?_
      refine aw_goto C (tgt := 75) (off := -75) (by decide +kernel) (by decide) ?_
      refine aw_sub [(0, .ref (gad G 58)), (1, .int v1), (2, .int a7)] [3, 4, 0] rfl ?_
      exact hk75 v1 a7 _ hf
    · have hf := iff_ c6 hf
      refine aw_iload C 4 0 rfl (by decide +kernel) rfl ?_
      refine aw_bipush C (i0 := 16) (v := 16) (by decide) (by decide +kernel) rfl ?_
      refine aw_idiv C (by decide) (by decide +kernel) rfl ?_
      refine aw_iload_n C 3 1 (j := 3) rfl rfl (by decide +kernel) rfl ?_
      refine aw_bipush C (i0 := 16) (v := 16) (by decide) (by decide +kernel) rfl ?_
      refine aw_idiv C (by decide) (by decide +kernel) rfl ?_
      refine aw_icmp_ge C (tgt := 125) (off := 6) (by decide +kernel) (by decide) rfl (fun c8 => ?_) (fun c8 => ?_)
      · have hf := ift c8 hf
        refine aw_aload_n C 0 2 (j := 0) rfl rfl (by decide +kernel) rfl ?_
        refine aw_iload_n C 3 1 (j := 3) rfl rfl (by decide +kernel) rfl ?_
        refine aw_iload C 4 0 rfl (by decide +kernel) rfl ?_
        obtain ⟨q9, hq9, hf⟩ := ibd hf
        refine aw_callV C (rest := []) (c_m_oblong E a3 a5 _ q9 hq9) tb_1463 yf_223 yi_223 (la_58 E) [.int a3, .int a5] rfl rfl _ rfl (Nat.le_trans (by decide) hgd) (Nat.le_of_ble_eq_true rfl) (by decide +kernel) rfl ?_
        show AW _ _ _ _ [.long q9.1]
        refine aw_lstore C [(5, .long q9.1), (4, .int a5), (3, .int a3), (0, .ref (gad G 58)), (1, .int v1), (2, .int v2)] (by rw [hnL]; decide) rfl (by decide +kernel) rfl ?_
        refine aw_lload C 5 0 rfl (by decide +kernel) rfl ?_
        refine aw_lconst C (i0 := 0) (v := 0) (by decide) (by decide +kernel) rfl ?_
        refine aw_lcmp C (by decide +kernel) rfl ?_
        refine aw_if_eq C (tgt := 147) (off := 9) (by decide +kernel) (by decide) rfl (fun c10 => ?_) (fun c10 => ?_)
        · have hf := ift c10 hf
          obtain ⟨a11, ha11⟩ : ∃ z, z = (v2 + (1 : Int32)) := ⟨_, rfl⟩
          have hf := ilt ha11 hf
          refine aw_iinc C [(2, .int a11), (5, .long q9.1), (4, .int a5), (3, .int a3), (0, .ref (gad G 58)), (1, .int v1)] 5 (n := 1) rfl (by rw [ha11]; rfl) (by rw [hnL]; decide) rfl (by decide +kernel) rfl ?_
          refine aw_goto C (tgt := 75) (off := -75) (by decide +kernel) (by decide) ?_
          refine aw_sub [(0, .ref (gad G 58)), (1, .int v1), (2, .int a11)] [4, 5, 0] rfl ?_
          exact hk75 v1 a11 _ hf
        · have hf := iff_ c10 hf
          refine aw_aload_n C 0 3 (j := 0) rfl rfl (by decide +kernel) rfl ?_
          refine aw_lload C 5 0 rfl (by decide +kernel) rfl ?_
          obtain ⟨q12, hq12, hf⟩ := ibd hf
          refine aw_callV C (rest := []) (c_m_keepsOblong E q9.1 _ q12 hq12) tb_1471 yf_225 yi_225 (la_58 E) [.long q9.1] rfl rfl _ rfl (Nat.le_trans (by decide) hgd) (Nat.le_of_ble_eq_true rfl) (by decide +kernel) rfl ?_
          show AW _ _ _ _ []
          obtain ⟨a13, ha13⟩ : ∃ z, z = (v2 + (1 : Int32)) := ⟨_, rfl⟩
          have hf := ilt ha13 hf
          refine aw_iinc C [(2, .int a13), (5, .long q9.1), (4, .int a5), (3, .int a3), (0, .ref (gad G 58)), (1, .int v1)] 5 (n := 1) rfl (by rw [ha13]; rfl) (by rw [hnL]; decide) rfl (by decide +kernel) rfl ?_
          refine aw_goto C (tgt := 75) (off := -75) (by decide +kernel) (by decide) ?_
          refine aw_sub [(0, .ref (gad G 58)), (1, .int v1), (2, .int a13)] [4, 5, 0] rfl ?_
          exact hk75 v1 a13 _ hf
      · have hf := iff_ c8 hf
        refine aw_goto C (tgt := 147) (off := 25) (by decide +kernel) (by decide) ?_
        obtain ⟨a14, ha14⟩ : ∃ z, z = (v2 + (1 : Int32)) := ⟨_, rfl⟩
        have hf := ilt ha14 hf
        refine aw_iinc C [(2, .int a14), (4, .int a5), (3, .int a3), (0, .ref (gad G 58)), (1, .int v1)] 4 (n := 1) rfl (by rw [ha14]; rfl) (by rw [hnL]; decide) rfl (by decide +kernel) rfl ?_
        refine aw_goto C (tgt := 75) (off := -75) (by decide +kernel) (by decide) ?_
        refine aw_sub [(0, .ref (gad G 58)), (1, .int v1), (2, .int a14)] [3, 4, 0] rfl ?_
        exact hk75 v1 a14 _ hf
theorem u_m_laysOblongs_75 {G : Cx} (C : CX G prog_14_method_87_code "PaperStarsModel") (CR0 : CR G (Option.none)) (E : LAin (gly G)) (hnL : gnL G = 7) (hgd : 2 ≤ gd G) {q : Unit × Mm} (hgr : gr G = none) (hgs : gsf G = q.2) (k65 : Int32 → Mm → Option (Unit × Mm)) (hk65 : ∀ (v1 : Int32) (st : Mm), k65 v1 st = some q → AW G st 65 [(0, .ref (gad G 58)), (1, .int v1)] []) : ∀ (n : Nat) (v1 : Int32) (v2 : Int32) (st : Mm), f_m_laysOblongs_75 k65 n v1 v2 st = some q → AW G st 75 [(0, .ref (gad G 58)), (1, .int v1), (2, .int v2)] [] := by
  intro n
  induction n with
  | zero => intro v1 v2 st hf; cases hf
  | succ n ih => intro v1 v2 st hf; exact t_m_laysOblongs_75 C CR0 E hnL hgd hgr hgs k65 (f_m_laysOblongs_75 k65 n) hk65 ih v1 v2 st hf
theorem t_m_laysOblongs_65 {G : Cx} (C : CX G prog_14_method_87_code "PaperStarsModel") (CR0 : CR G (Option.none)) (E : LAin (gly G)) (hnL : gnL G = 7) (hgd : 2 ≤ gd G) {q : Unit × Mm} (hgr : gr G = none) (hgs : gsf G = q.2) (k65 : Int32 → Mm → Option (Unit × Mm)) (hk65 : ∀ (v1 : Int32) (st : Mm), k65 v1 st = some q → AW G st 65 [(0, .ref (gad G 58)), (1, .int v1)] []) (v1 : Int32) (st : Mm) (hf : b_m_laysOblongs_65 k65 v1 st = some q) : AW G st 65 [(0, .ref (gad G 58)), (1, .int v1)] [] := by
  unfold b_m_laysOblongs_65 at hf
  refine aw_iload_n C 1 1 (j := 1) rfl rfl (by decide +kernel) rfl ?_
  refine aw_aload_n C 0 0 (j := 0) rfl rfl (by decide +kernel) rfl ?_
  refine aw_get C (k := 48) fc_12 (la_58 E) rfl (by decide) tb_990 (by decide +kernel) rfl ?_
  refine aw_icmp_ge C (tgt := 159) (off := 89) (by decide +kernel) (by decide) rfl (fun c1 => ?_) (fun c1 => ?_)
  · have hf := ift c1 hf
    exact aw_vretq C CR0 hgr hgs hf (by decide +kernel)
  · have hf := iff_ c1 hf
    refine aw_iconst C (i0 := 0) (v := 0) (by decide) (by decide +kernel) rfl ?_
    refine aw_istore_n C [(2, .int (0 : Int32)), (0, .ref (gad G 58)), (1, .int v1)] (j := 2) rfl (by rw [hnL]; decide) rfl (by decide +kernel) rfl ?_
    refine aw_sub [(0, .ref (gad G 58)), (1, .int v1), (2, .int (0 : Int32))] [1, 2, 0] rfl ?_
    exact u_m_laysOblongs_75 C CR0 E hnL hgd hgr hgs k65 hk65 _ v1 (0 : Int32) _ hf
theorem u_m_laysOblongs_65 {G : Cx} (C : CX G prog_14_method_87_code "PaperStarsModel") (CR0 : CR G (Option.none)) (E : LAin (gly G)) (hnL : gnL G = 7) (hgd : 2 ≤ gd G) {q : Unit × Mm} (hgr : gr G = none) (hgs : gsf G = q.2) : ∀ (n : Nat) (v1 : Int32) (st : Mm), f_m_laysOblongs_65 n v1 st = some q → AW G st 65 [(0, .ref (gad G 58)), (1, .int v1)] [] := by
  intro n
  induction n with
  | zero => intro v1 st hf; cases hf
  | succ n ih => intro v1 st hf; exact t_m_laysOblongs_65 C CR0 E hnL hgd hgr hgs (f_m_laysOblongs_65 n) ih v1 st hf
theorem t_m_laysOblongs_58 {G : Cx} (C : CX G prog_14_method_87_code "PaperStarsModel") (CR0 : CR G (Option.none)) (E : LAin (gly G)) (hnL : gnL G = 7) (hgd : 2 ≤ gd G) {q : Unit × Mm} (hgr : gr G = none) (hgs : gsf G = q.2) (st : Mm) (hf : b_m_laysOblongs_58 st = some q) : AW G st 58 [(0, .ref (gad G 58))] [] := by
  unfold b_m_laysOblongs_58 at hf
  refine aw_aload_n C 0 0 (j := 0) rfl rfl (by decide +kernel) rfl ?_
  refine aw_iconst C (i0 := 0) (v := 0) (by decide) (by decide +kernel) rfl ?_
  refine aw_put C (k := 49) fc_12 (la_58 E) rfl (by decide) rfl rfl tb_991 (by decide +kernel) rfl ?_
  refine aw_iconst C (i0 := 0) (v := 0) (by decide) (by decide +kernel) rfl ?_
  refine aw_istore_n C [(1, .int (0 : Int32)), (0, .ref (gad G 58))] (j := 1) rfl (by rw [hnL]; decide) rfl (by decide +kernel) rfl ?_
  refine aw_sub [(0, .ref (gad G 58)), (1, .int (0 : Int32))] [1, 0] rfl ?_
  exact u_m_laysOblongs_65 C CR0 E hnL hgd hgr hgs _ (0 : Int32) _ hf
theorem t_m_laysOblongs_7 {G : Cx} (C : CX G prog_14_method_87_code "PaperStarsModel") (CR0 : CR G (Option.none)) (E : LAin (gly G)) (hnL : gnL G = 7) (hgd : 2 ≤ gd G) {q : Unit × Mm} (hgr : gr G = none) (hgs : gsf G = q.2) (k7 : Int32 → Mm → Option (Unit × Mm)) (hk7 : ∀ (v1 : Int32) (st : Mm), k7 v1 st = some q → AW G st 7 [(0, .ref (gad G 58)), (1, .int v1)] []) (v1 : Int32) (st : Mm) (hf : b_m_laysOblongs_7 k7 v1 st = some q) : AW G st 7 [(0, .ref (gad G 58)), (1, .int v1)] [] := by
  unfold b_m_laysOblongs_7 at hf
  refine aw_iload_n C 1 1 (j := 1) rfl rfl (by decide +kernel) rfl ?_
  refine aw_sipush C (i0 := 256) (v := 256) (by decide) (by decide +kernel) rfl ?_
  refine aw_icmp_ge C (tgt := 58) (off := 47) (by decide +kernel) (by decide) rfl (fun c1 => ?_) (fun c1 => ?_)
  · have hf := ift c1 hf
    refine aw_sub [(0, .ref (gad G 58))] [0] rfl ?_
    exact t_m_laysOblongs_58 C CR0 E hnL hgd hgr hgs _ hf
  · have hf := iff_ c1 hf
    refine aw_aload_n C 0 0 (j := 0) rfl rfl (by decide +kernel) rfl ?_
    refine aw_iload_n C 1 1 (j := 1) rfl rfl (by decide +kernel) rfl ?_
    refine aw_bipush C (i0 := 16) (v := 16) (by decide) (by decide +kernel) rfl ?_
    refine aw_irem C (by decide) (by decide +kernel) rfl ?_
    refine aw_iload_n C 1 1 (j := 1) rfl rfl (by decide +kernel) rfl ?_
    refine aw_bipush C (i0 := 16) (v := 16) (by decide) (by decide +kernel) rfl ?_
    refine aw_idiv C (by decide) (by decide +kernel) rfl ?_
    obtain ⟨q2, hq2, hf⟩ := ibd hf
    refine aw_callV C (rest := []) (c_m_isPlace E (v1 - v1 / (16 : Int32) * (16 : Int32)) (v1 / (16 : Int32)) _ q2 hq2) tb_1218 yf_161 yi_161 (la_58 E) [.int (v1 - v1 / (16 : Int32) * (16 : Int32)), .int (v1 / (16 : Int32))] rfl rfl _ rfl (Nat.le_trans (by decide) hgd) (Nat.le_of_ble_eq_true rfl) (by decide +kernel) rfl ?_
    show AW _ _ _ _ [.int q2.1]
    refine aw_if_ne C (tgt := 32) (off := 6) (by decide +kernel) (by decide) rfl (fun c3 => ?_) (fun c3 => ?_)
    · have hf := ift c3 hf
      refine aw_goto C (tgt := 52) (off := 23) (by decide +kernel) (by decide) ?_
      obtain ⟨a4, ha4⟩ : ∃ z, z = (v1 + (1 : Int32)) := ⟨_, rfl⟩
      have hf := ilt ha4 hf
      refine aw_iinc C [(1, .int a4), (0, .ref (gad G 58))] 1 (n := 1) rfl (by rw [ha4]; rfl) (by rw [hnL]; decide) rfl (by decide +kernel) rfl ?_
      refine aw_goto C (tgt := 7) (off := -48) (by decide +kernel) (by decide) ?_
      refine aw_sub [(0, .ref (gad G 58)), (1, .int a4)] [1, 0] rfl ?_
      exact hk7 a4 _ hf
    · have hf := iff_ c3 hf
      refine aw_aload_n C 0 0 (j := 0) rfl rfl (by decide +kernel) rfl ?_
      refine aw_getr C (k := 46) fc_12 (la_58 E) rfl (by decide) tb_988 (by decide +kernel) rfl ?_
      refine aw_aload_n C 0 0 (j := 0) rfl rfl (by decide +kernel) rfl ?_
      refine aw_get C (k := 48) fc_12 (la_58 E) rfl (by decide) tb_990 (by decide +kernel) rfl ?_
      refine aw_iload_n C 1 1 (j := 1) rfl rfl (by decide +kernel) rfl ?_
      obtain ⟨g5, hf⟩ := igd hf
      refine aw_iast C (la_79 E) g5 (by decide +kernel) rfl ?_
      refine aw_aload_n C 0 0 (j := 0) rfl rfl (by decide +kernel) rfl ?_
      refine aw_aload_n C 0 0 (j := 0) rfl rfl (by decide +kernel) rfl ?_
      refine aw_get C (k := 48) fc_12 (la_58 E) rfl (by decide) tb_990 (by decide +kernel) rfl ?_
      refine aw_iconst C (i0 := 1) (v := 1) (by decide) (by decide +kernel) rfl ?_
      refine aw_iadd C (by decide +kernel) rfl ?_
      obtain ⟨a6, ha6⟩ : ∃ z, z = (((sI q2.2 79 (q2.2.1 58 48).toNatClampNeg v1).1 58 48) + (1 : Int32)) := ⟨_, rfl⟩
      refine aw_nmi ha6 ?_
      have hf := ilt ha6 hf
      refine aw_put C (k := 48) fc_12 (la_58 E) rfl (by decide) rfl rfl tb_990 (by decide +kernel) rfl ?_
      obtain ⟨a7, ha7⟩ : ∃ z, z = (v1 + (1 : Int32)) := ⟨_, rfl⟩
      have hf := ilt ha7 hf
      refine aw_iinc C [(1, .int a7), (0, .ref (gad G 58))] 1 (n := 1) rfl (by rw [ha7]; rfl) (by rw [hnL]; decide) rfl (by decide +kernel) rfl ?_
      refine aw_goto C (tgt := 7) (off := -48) (by decide +kernel) (by decide) ?_
      refine aw_sub [(0, .ref (gad G 58)), (1, .int a7)] [1, 0] rfl ?_
      exact hk7 a7 _ hf
theorem u_m_laysOblongs_7 {G : Cx} (C : CX G prog_14_method_87_code "PaperStarsModel") (CR0 : CR G (Option.none)) (E : LAin (gly G)) (hnL : gnL G = 7) (hgd : 2 ≤ gd G) {q : Unit × Mm} (hgr : gr G = none) (hgs : gsf G = q.2) : ∀ (n : Nat) (v1 : Int32) (st : Mm), f_m_laysOblongs_7 n v1 st = some q → AW G st 7 [(0, .ref (gad G 58)), (1, .int v1)] [] := by
  intro n
  induction n with
  | zero => intro v1 st hf; cases hf
  | succ n ih => intro v1 st hf; exact t_m_laysOblongs_7 C CR0 E hnL hgd hgr hgs (f_m_laysOblongs_7 n) ih v1 st hf
theorem t_m_laysOblongs {G : Cx} (C : CX G prog_14_method_87_code "PaperStarsModel") (CR0 : CR G (Option.none)) (E : LAin (gly G)) (hnL : gnL G = 7) (hgd : 2 ≤ gd G) {q : Unit × Mm} (hgr : gr G = none) (hgs : gsf G = q.2) (st : Mm) (hf : f_m_laysOblongs st = some q) : AW G st 0 [(0, .ref (gad G 58))] [] := by
  unfold f_m_laysOblongs at hf
  refine aw_aload_n C 0 0 (j := 0) rfl rfl (by decide +kernel) rfl ?_
  refine aw_iconst C (i0 := 0) (v := 0) (by decide) (by decide +kernel) rfl ?_
  refine aw_put C (k := 48) fc_12 (la_58 E) rfl (by decide) rfl rfl tb_990 (by decide +kernel) rfl ?_
  refine aw_iconst C (i0 := 0) (v := 0) (by decide) (by decide +kernel) rfl ?_
  refine aw_istore_n C [(1, .int (0 : Int32)), (0, .ref (gad G 58))] (j := 1) rfl (by rw [hnL]; decide) rfl (by decide +kernel) rfl ?_
  refine aw_sub [(0, .ref (gad G 58)), (1, .int (0 : Int32))] [1, 0] rfl ?_
  exact u_m_laysOblongs_7 C CR0 E hnL hgd hgr hgs _ (0 : Int32) _ hf
theorem c_m_laysOblongs {lay : Ly} (E : LAin lay) (st : Mm) (q : Unit × Mm) (hf : f_m_laysOblongs st = some q) : Con 2 Y222 prog_14_method_87_code 7 (Option.none) lay (fun ad => [.ref (ad 58)]) st (none) q.2 :=
  am_met yf_222.2.2.2.2.2 (fun ad => Nat.le_of_ble_eq_true rfl) (fun G C CR0 e1 e2 e3 e4 e5 => t_m_laysOblongs C CR0 (by rw [e1]; exact E) e2 (Nat.le_of_eq e5.symm) e3 e4 st hf)
def b_m_snips_87 (k87 : Int64 → Int32 → Mm → Option (Int32 × Mm)) (v4 : Int64) (v6 : Int32) (st : Mm) : Option (Int32 × Mm) :=
  if (5 : Int32) ≤ v6 then (some ((-2 : Int32), st)) else ((f_m_doFor v4 v6 st).bind (fun q2 => if q2.1 = 0 then (lt_ (v6 + (1 : Int32)) (fun a4 => k87 v4 a4 q2.2)) else (some (v6, q2.2))))
def f_m_snips_87 : Nat → Int64 → Int32 → Mm → Option (Int32 × Mm)
  | 0 => fun _ _ _ => none
  | n + 1 => b_m_snips_87 (f_m_snips_87 n)
def b_m_snips_84 (v4 : Int64) (st : Mm) : Option (Int32 × Mm) :=
  f_m_snips_87 1000000 v4 (0 : Int32) st
def b_m_snips_45 (k45 : Int64 → Int32 → Mm → Option (Int32 × Mm)) (v4 : Int64) (v6 : Int32) (st : Mm) : Option (Int32 × Mm) :=
  if (st.1 58 48) ≤ v6 then (b_m_snips_84 v4 st) else (if inb v6 64 then if inb (st.1 79 v6.toNatClampNeg) 256 then if (st.1 78 (st.1 79 v6.toNatClampNeg).toNatClampNeg) = 0 then (lt_ (v6 + (1 : Int32)) (fun a5 => k45 v4 a5 st)) else (lt_ (v4 ||| ((1 : Int64) <<< (v6.toInt64 &&& 63))) (fun a6 => lt_ (v6 + (1 : Int32)) (fun a7 => k45 a6 a7 st))) else none else none)
def f_m_snips_45 : Nat → Int64 → Int32 → Mm → Option (Int32 × Mm)
  | 0 => fun _ _ _ => none
  | n + 1 => b_m_snips_45 (f_m_snips_45 n)
def f_m_snips (v1 : Int32) (v2 : Int32) (v3 : Int32) (st : Mm) : Option (Int32 × Mm) :=
  (f_m_foldsSo v1 v2 v3 st).bind (fun q1 => if q1.1 = 0 then (some ((-1 : Int32), q1.2)) else ((f_m_placeMany q1.2).bind (fun q3 => if q3.1 ≤ (64 : Int32) then ((f_m_firstUnlike q3.2).bind (fun q5 => if q5.1 = (-1 : Int32) then ((f_m_laysOblongs q5.2).bind (fun q7 => f_m_snips_45 1000000 (0 : Int64) (0 : Int32) q7.2)) else (some ((-3 : Int32), q5.2)))) else (some ((-4 : Int32), q3.2)))))
theorem t_m_snips_87 {G : Cx} (C : CX G prog_14_method_90_code "PaperStarsModel") (CR0 : CR G (Option.some FieldType.int)) (E : LAin (gly G)) (hnL : gnL G = 7) (hgd : 3 ≤ gd G) {q : Int32 × Mm} (hgr : gr G = some (.int q.1)) (hgs : gsf G = q.2) (k87 : Int64 → Int32 → Mm → Option (Int32 × Mm)) (hk87 : ∀ (v4 : Int64) (v6 : Int32) (st : Mm), k87 v4 v6 st = some q → AW G st 87 [(0, .ref (gad G 58)), (4, .long v4), (6, .int v6)] []) (v4 : Int64) (v6 : Int32) (st : Mm) (hf : b_m_snips_87 k87 v4 v6 st = some q) : AW G st 87 [(0, .ref (gad G 58)), (4, .long v4), (6, .int v6)] [] := by
  unfold b_m_snips_87 at hf
  refine aw_iload C 6 2 rfl (by decide +kernel) rfl ?_
  refine aw_iconst C (i0 := 5) (v := 5) (by decide) (by decide +kernel) rfl ?_
  refine aw_icmp_ge C (tgt := 113) (off := 23) (by decide +kernel) (by decide) rfl (fun c1 => ?_) (fun c1 => ?_)
  · have hf := ift c1 hf
    refine aw_bipush C (i0 := -2) (v := -2) (by decide) (by decide +kernel) rfl ?_
    exact aw_iretq C CR0 hgr hgs hf (by decide +kernel)
  · have hf := iff_ c1 hf
    refine aw_aload_n C 0 0 (j := 0) rfl rfl (by decide +kernel) rfl ?_
    refine aw_lload C 4 1 rfl (by decide +kernel) rfl ?_
    refine aw_iload C 6 2 rfl (by decide +kernel) rfl ?_
    obtain ⟨q2, hq2, hf⟩ := ibd hf
    refine aw_callV C (rest := []) (c_m_doFor E v4 v6 _ q2 hq2) tb_1476 yf_226 yi_226 (la_58 E) [.long v4, .int v6] rfl rfl _ rfl (Nat.le_trans (by decide) hgd) (Nat.le_of_ble_eq_true rfl) (by decide +kernel) rfl ?_
    show AW _ _ _ _ [.int q2.1]
    refine aw_if_eq C (tgt := 107) (off := 6) (by decide +kernel) (by decide) rfl (fun c3 => ?_) (fun c3 => ?_)
    · have hf := ift c3 hf
      obtain ⟨a4, ha4⟩ : ∃ z, z = (v6 + (1 : Int32)) := ⟨_, rfl⟩
      have hf := ilt ha4 hf
      refine aw_iinc C [(6, .int a4), (0, .ref (gad G 58)), (4, .long v4)] 2 (n := 1) rfl (by rw [ha4]; rfl) (by rw [hnL]; decide) rfl (by decide +kernel) rfl ?_
      refine aw_goto C (tgt := 87) (off := -23) (by decide +kernel) (by decide) ?_
      refine aw_sub [(0, .ref (gad G 58)), (4, .long v4), (6, .int a4)] [1, 2, 0] rfl ?_
      exact hk87 v4 a4 _ hf
    · have hf := iff_ c3 hf
      refine aw_iload C 6 2 rfl (by decide +kernel) rfl ?_
      exact aw_iretq C CR0 hgr hgs hf (by decide +kernel)
theorem u_m_snips_87 {G : Cx} (C : CX G prog_14_method_90_code "PaperStarsModel") (CR0 : CR G (Option.some FieldType.int)) (E : LAin (gly G)) (hnL : gnL G = 7) (hgd : 3 ≤ gd G) {q : Int32 × Mm} (hgr : gr G = some (.int q.1)) (hgs : gsf G = q.2) : ∀ (n : Nat) (v4 : Int64) (v6 : Int32) (st : Mm), f_m_snips_87 n v4 v6 st = some q → AW G st 87 [(0, .ref (gad G 58)), (4, .long v4), (6, .int v6)] [] := by
  intro n
  induction n with
  | zero => intro v4 v6 st hf; cases hf
  | succ n ih => intro v4 v6 st hf; exact t_m_snips_87 C CR0 E hnL hgd hgr hgs (f_m_snips_87 n) ih v4 v6 st hf
theorem t_m_snips_84 {G : Cx} (C : CX G prog_14_method_90_code "PaperStarsModel") (CR0 : CR G (Option.some FieldType.int)) (E : LAin (gly G)) (hnL : gnL G = 7) (hgd : 3 ≤ gd G) {q : Int32 × Mm} (hgr : gr G = some (.int q.1)) (hgs : gsf G = q.2) (v4 : Int64) (st : Mm) (hf : b_m_snips_84 v4 st = some q) : AW G st 84 [(0, .ref (gad G 58)), (4, .long v4)] [] := by
  unfold b_m_snips_84 at hf
  refine aw_iconst C (i0 := 0) (v := 0) (by decide) (by decide +kernel) rfl ?_
  refine aw_istore C [(6, .int (0 : Int32)), (0, .ref (gad G 58)), (4, .long v4)] (by rw [hnL]; decide) rfl (by decide +kernel) rfl ?_
  refine aw_sub [(0, .ref (gad G 58)), (4, .long v4), (6, .int (0 : Int32))] [1, 2, 0] rfl ?_
  exact u_m_snips_87 C CR0 E hnL hgd hgr hgs _ v4 (0 : Int32) _ hf
theorem t_m_snips_45 {G : Cx} (C : CX G prog_14_method_90_code "PaperStarsModel") (CR0 : CR G (Option.some FieldType.int)) (E : LAin (gly G)) (hnL : gnL G = 7) (hgd : 3 ≤ gd G) {q : Int32 × Mm} (hgr : gr G = some (.int q.1)) (hgs : gsf G = q.2) (k45 : Int64 → Int32 → Mm → Option (Int32 × Mm)) (hk45 : ∀ (v4 : Int64) (v6 : Int32) (st : Mm), k45 v4 v6 st = some q → AW G st 45 [(0, .ref (gad G 58)), (4, .long v4), (6, .int v6)] []) (v4 : Int64) (v6 : Int32) (st : Mm) (hf : b_m_snips_45 k45 v4 v6 st = some q) : AW G st 45 [(0, .ref (gad G 58)), (4, .long v4), (6, .int v6)] [] := by
  unfold b_m_snips_45 at hf
  refine aw_iload C 6 2 rfl (by decide +kernel) rfl ?_
  refine aw_aload_n C 0 0 (j := 0) rfl rfl (by decide +kernel) rfl ?_
  refine aw_get C (k := 48) fc_12 (la_58 E) rfl (by decide) tb_990 (by decide +kernel) rfl ?_
  refine aw_icmp_ge C (tgt := 84) (off := 33) (by decide +kernel) (by decide) rfl (fun c1 => ?_) (fun c1 => ?_)
  · have hf := ift c1 hf
    refine aw_sub [(0, .ref (gad G 58)), (4, .long v4)] [0, 1] rfl ?_
    exact t_m_snips_84 C CR0 E hnL hgd hgr hgs v4 _ hf
  · have hf := iff_ c1 hf
    refine aw_aload_n C 0 0 (j := 0) rfl rfl (by decide +kernel) rfl ?_
    refine aw_getr C (k := 45) fc_12 (la_58 E) rfl (by decide) tb_987 (by decide +kernel) rfl ?_
    refine aw_aload_n C 0 0 (j := 0) rfl rfl (by decide +kernel) rfl ?_
    refine aw_getr C (k := 46) fc_12 (la_58 E) rfl (by decide) tb_988 (by decide +kernel) rfl ?_
    refine aw_iload C 6 2 rfl (by decide +kernel) rfl ?_
    obtain ⟨g2, hf⟩ := igd hf
    refine aw_iald C (la_79 E) g2 (by decide +kernel) rfl ?_
    obtain ⟨g3, hf⟩ := igd hf
    refine aw_zald C (la_78 E) g3 (by decide +kernel) rfl ?_
    refine aw_if_eq C (tgt := 78) (off := 12) (by decide +kernel) (by decide) rfl (fun c4 => ?_) (fun c4 => ?_)
    · have hf := ift c4 hf
      obtain ⟨a5, ha5⟩ : ∃ z, z = (v6 + (1 : Int32)) := ⟨_, rfl⟩
      have hf := ilt ha5 hf
      refine aw_iinc C [(6, .int a5), (0, .ref (gad G 58)), (4, .long v4)] 2 (n := 1) rfl (by rw [ha5]; rfl) (by rw [hnL]; decide) rfl (by decide +kernel) rfl ?_
      refine aw_goto C (tgt := 45) (off := -36) (by decide +kernel) (by decide) ?_
      refine aw_sub [(0, .ref (gad G 58)), (4, .long v4), (6, .int a5)] [1, 2, 0] rfl ?_
      exact hk45 v4 a5 _ hf
    · have hf := iff_ c4 hf
      refine aw_lload C 4 1 rfl (by decide +kernel) rfl ?_
      refine aw_lconst C (i0 := 1) (v := 1) (by decide) (by decide +kernel) rfl ?_
      refine aw_iload C 6 2 rfl (by decide +kernel) rfl ?_
      refine aw_lshl C (by decide +kernel) rfl ?_
      refine aw_lor C (by decide +kernel) rfl ?_
      obtain ⟨a6, ha6⟩ : ∃ z, z = (v4 ||| ((1 : Int64) <<< (v6.toInt64 &&& 63))) := ⟨_, rfl⟩
      refine aw_nml ha6 ?_
      have hf := ilt ha6 hf
      refine aw_lstore C [(4, .long a6), (0, .ref (gad G 58)), (6, .int v6)] (by rw [hnL]; decide) rfl (by decide +kernel) rfl ?_
      obtain ⟨a7, ha7⟩ : ∃ z, z = (v6 + (1 : Int32)) := ⟨_, rfl⟩
      have hf := ilt ha7 hf
      refine aw_iinc C [(6, .int a7), (4, .long a6), (0, .ref (gad G 58))] 2 (n := 1) rfl (by rw [ha7]; rfl) (by rw [hnL]; decide) rfl (by decide +kernel) rfl ?_
      refine aw_goto C (tgt := 45) (off := -36) (by decide +kernel) (by decide) ?_
      refine aw_sub [(0, .ref (gad G 58)), (4, .long a6), (6, .int a7)] [2, 1, 0] rfl ?_
      exact hk45 a6 a7 _ hf
theorem u_m_snips_45 {G : Cx} (C : CX G prog_14_method_90_code "PaperStarsModel") (CR0 : CR G (Option.some FieldType.int)) (E : LAin (gly G)) (hnL : gnL G = 7) (hgd : 3 ≤ gd G) {q : Int32 × Mm} (hgr : gr G = some (.int q.1)) (hgs : gsf G = q.2) : ∀ (n : Nat) (v4 : Int64) (v6 : Int32) (st : Mm), f_m_snips_45 n v4 v6 st = some q → AW G st 45 [(0, .ref (gad G 58)), (4, .long v4), (6, .int v6)] [] := by
  intro n
  induction n with
  | zero => intro v4 v6 st hf; cases hf
  | succ n ih => intro v4 v6 st hf; exact t_m_snips_45 C CR0 E hnL hgd hgr hgs (f_m_snips_45 n) ih v4 v6 st hf
theorem t_m_snips {G : Cx} (C : CX G prog_14_method_90_code "PaperStarsModel") (CR0 : CR G (Option.some FieldType.int)) (E : LAin (gly G)) (hnL : gnL G = 7) (hgd : 3 ≤ gd G) {q : Int32 × Mm} (hgr : gr G = some (.int q.1)) (hgs : gsf G = q.2) (v1 : Int32) (v2 : Int32) (v3 : Int32) (st : Mm) (hf : f_m_snips v1 v2 v3 st = some q) : AW G st 0 [(0, .ref (gad G 58)), (1, .int v1), (2, .int v2), (3, .int v3)] [] := by
  unfold f_m_snips at hf
  refine aw_aload_n C 0 0 (j := 0) rfl rfl (by decide +kernel) rfl ?_
  refine aw_iload_n C 1 1 (j := 1) rfl rfl (by decide +kernel) rfl ?_
  refine aw_iload_n C 2 2 (j := 2) rfl rfl (by decide +kernel) rfl ?_
  refine aw_iload_n C 3 3 (j := 3) rfl rfl (by decide +kernel) rfl ?_
  obtain ⟨q1, hq1, hf⟩ := ibd hf
  refine aw_callV C (rest := []) (c_m_foldsSo E v1 v2 v3 _ q1 hq1) tb_1439 yf_217 yi_217 (la_58 E) [.int v1, .int v2, .int v3] rfl rfl _ rfl (Nat.le_trans (by decide) hgd) (Nat.le_of_ble_eq_true rfl) (by decide +kernel) rfl ?_
  show AW _ _ _ _ [.int q1.1]
  refine aw_if_ne C (tgt := 12) (off := 5) (by decide +kernel) (by decide) rfl (fun c2 => ?_) (fun c2 => ?_)
  · have hf := ift c2 hf
    refine aw_iconst C (i0 := -1) (v := -1) (by decide) (by decide +kernel) rfl ?_
    exact aw_iretq C CR0 hgr hgs hf (by decide +kernel)
  · have hf := iff_ c2 hf
    refine aw_aload_n C 0 0 (j := 0) rfl rfl (by decide +kernel) rfl ?_
    obtain ⟨q3, hq3, hf⟩ := ibd hf
    refine aw_callV C (rest := []) (c_m_placeMany E _ q3 hq3) tb_1308 yf_184 yi_184 (la_58 E) [] rfl rfl _ rfl (Nat.le_trans (by decide) hgd) (Nat.le_of_ble_eq_true rfl) (by decide +kernel) rfl ?_
    show AW _ _ _ _ [.int q3.1]
    refine aw_bipush C (i0 := 64) (v := 64) (by decide) (by decide +kernel) rfl ?_
    refine aw_icmp_le C (tgt := 24) (off := 6) (by decide +kernel) (by decide) rfl (fun c4 => ?_) (fun c4 => ?_)
    · have hf := ift c4 hf
      refine aw_aload_n C 0 0 (j := 0) rfl rfl (by decide +kernel) rfl ?_
      obtain ⟨q5, hq5, hf⟩ := ibd hf
      refine aw_callV C (rest := []) (c_m_firstUnlike E _ q5 hq5) tb_1443 yf_218 yi_218 (la_58 E) [] rfl rfl _ rfl (Nat.le_trans (by decide) hgd) (Nat.le_of_ble_eq_true rfl) (by decide +kernel) rfl ?_
      show AW _ _ _ _ [.int q5.1]
      refine aw_iconst C (i0 := -1) (v := -1) (by decide) (by decide +kernel) rfl ?_
      refine aw_icmp_eq C (tgt := 35) (off := 6) (by decide +kernel) (by decide) rfl (fun c6 => ?_) (fun c6 => ?_)
      · have hf := ift c6 hf
        refine aw_aload_n C 0 0 (j := 0) rfl rfl (by decide +kernel) rfl ?_
        obtain ⟨q7, hq7, hf⟩ := ibd hf
        refine aw_callV C (rest := []) (c_m_laysOblongs E _ q7 hq7) tb_1459 yf_222 yi_222 (la_58 E) [] rfl rfl _ rfl (Nat.le_trans (by decide) hgd) (Nat.le_of_ble_eq_true rfl) (by decide +kernel) rfl ?_
        show AW _ _ _ _ []
        refine aw_lconst C (i0 := 0) (v := 0) (by decide) (by decide +kernel) rfl ?_
        refine aw_lstore C [(4, .long (0 : Int64)), (0, .ref (gad G 58)), (1, .int v1), (2, .int v2), (3, .int v3)] (by rw [hnL]; decide) rfl (by decide +kernel) rfl ?_
        refine aw_iconst C (i0 := 0) (v := 0) (by decide) (by decide +kernel) rfl ?_
        refine aw_istore C [(6, .int (0 : Int32)), (4, .long (0 : Int64)), (0, .ref (gad G 58)), (1, .int v1), (2, .int v2), (3, .int v3)] (by rw [hnL]; decide) rfl (by decide +kernel) rfl ?_
        refine aw_sub [(0, .ref (gad G 58)), (4, .long (0 : Int64)), (6, .int (0 : Int32))] [2, 1, 0] rfl ?_
        exact u_m_snips_45 C CR0 E hnL hgd hgr hgs _ (0 : Int64) (0 : Int32) _ hf
      · have hf := iff_ c6 hf
        refine aw_bipush C (i0 := -3) (v := -3) (by decide) (by decide +kernel) rfl ?_
        exact aw_iretq C CR0 hgr hgs hf (by decide +kernel)
    · have hf := iff_ c4 hf
      refine aw_bipush C (i0 := -4) (v := -4) (by decide) (by decide +kernel) rfl ?_
      exact aw_iretq C CR0 hgr hgs hf (by decide +kernel)
theorem c_m_snips {lay : Ly} (E : LAin lay) (v1 : Int32) (v2 : Int32) (v3 : Int32) (st : Mm) (q : Int32 × Mm) (hf : f_m_snips v1 v2 v3 st = some q) : Con 3 Y221 prog_14_method_90_code 7 (Option.some FieldType.int) lay (fun ad => [.ref (ad 58), .int v1, .int v2, .int v3]) st (some (.int q.1)) q.2 :=
  am_met yf_221.2.2.2.2.2 (fun ad => Nat.le_of_ble_eq_true rfl) (fun G C CR0 e1 e2 e3 e4 e5 => t_m_snips C CR0 (by rw [e1]; exact E) e2 (Nat.le_of_eq e5.symm) e3 e4 v1 v2 v3 st hf)
def b_m_isStraight_59 (k3 : Int32 → Int32 → Int32 → Int32 → Mm → Option (Int32 × Mm)) (v1 : Int32) (v2 : Int32) (v3 : Int32) (v4 : Int32) (s0 : Int32) (s1 : Int32) (st : Mm) : Option (Int32 × Mm) :=
  if s0 = s1 then (lt_ (v4 + (1 : Int32)) (fun a2 => k3 v1 v2 v3 a2 st)) else (some ((0 : Int32), st))
def b_m_isStraight_3 (k3 : Int32 → Int32 → Int32 → Int32 → Mm → Option (Int32 × Mm)) (v1 : Int32) (v2 : Int32) (v3 : Int32) (v4 : Int32) (st : Mm) : Option (Int32 × Mm) :=
  if (256 : Int32) ≤ v4 then (some ((1 : Int32), st)) else ((f_m_isPlace (v4 - v4 / (16 : Int32) * (16 : Int32)) (v4 / (16 : Int32)) st).bind (fun q2 => if q2.1 = 0 then (lt_ (v4 + (1 : Int32)) (fun a4 => k3 v1 v2 v3 a4 q2.2)) else (if inb v4 256 then if ((v1 * (v4 - v4 / (16 : Int32) * (16 : Int32))) + (v2 * (v4 / (16 : Int32)))) ≤ v3 then (b_m_isStraight_59 k3 v1 v2 v3 v4 (q2.2.1 78 v4.toNatClampNeg) (0 : Int32) q2.2) else (b_m_isStraight_59 k3 v1 v2 v3 v4 (q2.2.1 78 v4.toNatClampNeg) (1 : Int32) q2.2) else none)))
def f_m_isStraight_3 : Nat → Int32 → Int32 → Int32 → Int32 → Mm → Option (Int32 × Mm)
  | 0 => fun _ _ _ _ _ => none
  | n + 1 => b_m_isStraight_3 (f_m_isStraight_3 n)
def f_m_isStraight (v1 : Int32) (v2 : Int32) (v3 : Int32) (st : Mm) : Option (Int32 × Mm) :=
  f_m_isStraight_3 1000000 v1 v2 v3 (0 : Int32) st
theorem t_m_isStraight_59 {G : Cx} (C : CX G prog_14_method_91_code "PaperStarsModel") (CR0 : CR G (Option.some FieldType.boolean)) (E : LAin (gly G)) (hnL : gnL G = 5) (hgd : 1 ≤ gd G) {q : Int32 × Mm} (hgr : gr G = some (.int q.1)) (hgs : gsf G = q.2) (k3 : Int32 → Int32 → Int32 → Int32 → Mm → Option (Int32 × Mm)) (hk3 : ∀ (v1 : Int32) (v2 : Int32) (v3 : Int32) (v4 : Int32) (st : Mm), k3 v1 v2 v3 v4 st = some q → AW G st 3 [(0, .ref (gad G 58)), (1, .int v1), (2, .int v2), (3, .int v3), (4, .int v4)] []) (v1 : Int32) (v2 : Int32) (v3 : Int32) (v4 : Int32) (s0 : Int32) (s1 : Int32) (st : Mm) (hf : b_m_isStraight_59 k3 v1 v2 v3 v4 s0 s1 st = some q) : AW G st 59 [(0, .ref (gad G 58)), (1, .int v1), (2, .int v2), (3, .int v3), (4, .int v4)] [.int s1, .int s0] := by
  unfold b_m_isStraight_59 at hf
  refine aw_icmp_eq C (tgt := 64) (off := 5) (by decide +kernel) (by decide) rfl (fun c1 => ?_) (fun c1 => ?_)
  · have hf := ift c1 hf
    obtain ⟨a2, ha2⟩ : ∃ z, z = (v4 + (1 : Int32)) := ⟨_, rfl⟩
    have hf := ilt ha2 hf
    refine aw_iinc C [(4, .int a2), (0, .ref (gad G 58)), (1, .int v1), (2, .int v2), (3, .int v3)] 4 (n := 1) rfl (by rw [ha2]; rfl) (by rw [hnL]; decide) rfl (by decide +kernel) rfl ?_
    refine aw_goto C (tgt := 3) (off := -64) (by decide +kernel) (by decide) ?_
    refine aw_sub [(0, .ref (gad G 58)), (1, .int v1), (2, .int v2), (3, .int v3), (4, .int a2)] [1, 2, 3, 4, 0] rfl ?_
    exact hk3 v1 v2 v3 a2 _ hf
  · have hf := iff_ c1 hf
    refine aw_iconst C (i0 := 0) (v := 0) (by decide) (by decide +kernel) rfl ?_
    exact aw_zretq C CR0 hgr hgs (by decide) hf (by decide +kernel)
theorem t_m_isStraight_3 {G : Cx} (C : CX G prog_14_method_91_code "PaperStarsModel") (CR0 : CR G (Option.some FieldType.boolean)) (E : LAin (gly G)) (hnL : gnL G = 5) (hgd : 1 ≤ gd G) {q : Int32 × Mm} (hgr : gr G = some (.int q.1)) (hgs : gsf G = q.2) (k3 : Int32 → Int32 → Int32 → Int32 → Mm → Option (Int32 × Mm)) (hk3 : ∀ (v1 : Int32) (v2 : Int32) (v3 : Int32) (v4 : Int32) (st : Mm), k3 v1 v2 v3 v4 st = some q → AW G st 3 [(0, .ref (gad G 58)), (1, .int v1), (2, .int v2), (3, .int v3), (4, .int v4)] []) (v1 : Int32) (v2 : Int32) (v3 : Int32) (v4 : Int32) (st : Mm) (hf : b_m_isStraight_3 k3 v1 v2 v3 v4 st = some q) : AW G st 3 [(0, .ref (gad G 58)), (1, .int v1), (2, .int v2), (3, .int v3), (4, .int v4)] [] := by
  unfold b_m_isStraight_3 at hf
  refine aw_iload C 4 4 rfl (by decide +kernel) rfl ?_
  refine aw_sipush C (i0 := 256) (v := 256) (by decide) (by decide +kernel) rfl ?_
  refine aw_icmp_ge C (tgt := 70) (off := 62) (by decide +kernel) (by decide) rfl (fun c1 => ?_) (fun c1 => ?_)
  · have hf := ift c1 hf
    refine aw_iconst C (i0 := 1) (v := 1) (by decide) (by decide +kernel) rfl ?_
    exact aw_zretq C CR0 hgr hgs (by decide) hf (by decide +kernel)
  · have hf := iff_ c1 hf
    refine aw_aload_n C 0 0 (j := 0) rfl rfl (by decide +kernel) rfl ?_
    refine aw_iload C 4 4 rfl (by decide +kernel) rfl ?_
    refine aw_bipush C (i0 := 16) (v := 16) (by decide) (by decide +kernel) rfl ?_
    refine aw_irem C (by decide) (by decide +kernel) rfl ?_
    refine aw_iload C 4 4 rfl (by decide +kernel) rfl ?_
    refine aw_bipush C (i0 := 16) (v := 16) (by decide) (by decide +kernel) rfl ?_
    refine aw_idiv C (by decide) (by decide +kernel) rfl ?_
    obtain ⟨q2, hq2, hf⟩ := ibd hf
    refine aw_callV C (rest := []) (c_m_isPlace E (v4 - v4 / (16 : Int32) * (16 : Int32)) (v4 / (16 : Int32)) _ q2 hq2) tb_1218 yf_161 yi_161 (la_58 E) [.int (v4 - v4 / (16 : Int32) * (16 : Int32)), .int (v4 / (16 : Int32))] rfl rfl _ rfl (Nat.le_trans (by decide) hgd) (Nat.le_of_ble_eq_true rfl) (by decide +kernel) rfl ?_
    show AW _ _ _ _ [.int q2.1]
    refine aw_if_eq C (tgt := 64) (off := 39) (by decide +kernel) (by decide) rfl (fun c3 => ?_) (fun c3 => ?_)
    · have hf := ift c3 hf
      obtain ⟨a4, ha4⟩ : ∃ z, z = (v4 + (1 : Int32)) := ⟨_, rfl⟩
      have hf := ilt ha4 hf
      refine aw_iinc C [(4, .int a4), (0, .ref (gad G 58)), (1, .int v1), (2, .int v2), (3, .int v3)] 4 (n := 1) rfl (by rw [ha4]; rfl) (by rw [hnL]; decide) rfl (by decide +kernel) rfl ?_
      refine aw_goto C (tgt := 3) (off := -64) (by decide +kernel) (by decide) ?_
      refine aw_sub [(0, .ref (gad G 58)), (1, .int v1), (2, .int v2), (3, .int v3), (4, .int a4)] [1, 2, 3, 4, 0] rfl ?_
      exact hk3 v1 v2 v3 a4 _ hf
    · have hf := iff_ c3 hf
      refine aw_aload_n C 0 0 (j := 0) rfl rfl (by decide +kernel) rfl ?_
      refine aw_getr C (k := 45) fc_12 (la_58 E) rfl (by decide) tb_987 (by decide +kernel) rfl ?_
      refine aw_iload C 4 4 rfl (by decide +kernel) rfl ?_
      obtain ⟨g5, hf⟩ := igd hf
      refine aw_zald C (la_78 E) g5 (by decide +kernel) rfl ?_
      refine aw_iload_n C 1 1 (j := 1) rfl rfl (by decide +kernel) rfl ?_
      refine aw_iload C 4 4 rfl (by decide +kernel) rfl ?_
      refine aw_bipush C (i0 := 16) (v := 16) (by decide) (by decide +kernel) rfl ?_
      refine aw_irem C (by decide) (by decide +kernel) rfl ?_
      refine aw_imul C (by decide +kernel) rfl ?_
      refine aw_iload_n C 2 2 (j := 2) rfl rfl (by decide +kernel) rfl ?_
      refine aw_iload C 4 4 rfl (by decide +kernel) rfl ?_
      refine aw_bipush C (i0 := 16) (v := 16) (by decide) (by decide +kernel) rfl ?_
      refine aw_idiv C (by decide) (by decide +kernel) rfl ?_
      refine aw_imul C (by decide +kernel) rfl ?_
      refine aw_iadd C (by decide +kernel) rfl ?_
      refine aw_iload_n C 3 3 (j := 3) rfl rfl (by decide +kernel) rfl ?_
      refine aw_icmp_le C (tgt := 58) (off := 7) (by decide +kernel) (by decide) rfl (fun c6 => ?_) (fun c6 => ?_)
      · have hf := ift c6 hf
        refine aw_iconst C (i0 := 0) (v := 0) (by decide) (by decide +kernel) rfl ?_
        exact t_m_isStraight_59 C CR0 E hnL hgd hgr hgs k3 hk3 v1 v2 v3 v4 (q2.2.1 78 v4.toNatClampNeg) (0 : Int32) _ hf
      · have hf := iff_ c6 hf
        refine aw_iconst C (i0 := 1) (v := 1) (by decide) (by decide +kernel) rfl ?_
        refine aw_goto C (tgt := 59) (off := 4) (by decide +kernel) (by decide) ?_
        exact t_m_isStraight_59 C CR0 E hnL hgd hgr hgs k3 hk3 v1 v2 v3 v4 (q2.2.1 78 v4.toNatClampNeg) (1 : Int32) _ hf
theorem u_m_isStraight_3 {G : Cx} (C : CX G prog_14_method_91_code "PaperStarsModel") (CR0 : CR G (Option.some FieldType.boolean)) (E : LAin (gly G)) (hnL : gnL G = 5) (hgd : 1 ≤ gd G) {q : Int32 × Mm} (hgr : gr G = some (.int q.1)) (hgs : gsf G = q.2) : ∀ (n : Nat) (v1 : Int32) (v2 : Int32) (v3 : Int32) (v4 : Int32) (st : Mm), f_m_isStraight_3 n v1 v2 v3 v4 st = some q → AW G st 3 [(0, .ref (gad G 58)), (1, .int v1), (2, .int v2), (3, .int v3), (4, .int v4)] [] := by
  intro n
  induction n with
  | zero => intro v1 v2 v3 v4 st hf; cases hf
  | succ n ih => intro v1 v2 v3 v4 st hf; exact t_m_isStraight_3 C CR0 E hnL hgd hgr hgs (f_m_isStraight_3 n) ih v1 v2 v3 v4 st hf
theorem t_m_isStraight {G : Cx} (C : CX G prog_14_method_91_code "PaperStarsModel") (CR0 : CR G (Option.some FieldType.boolean)) (E : LAin (gly G)) (hnL : gnL G = 5) (hgd : 1 ≤ gd G) {q : Int32 × Mm} (hgr : gr G = some (.int q.1)) (hgs : gsf G = q.2) (v1 : Int32) (v2 : Int32) (v3 : Int32) (st : Mm) (hf : f_m_isStraight v1 v2 v3 st = some q) : AW G st 0 [(0, .ref (gad G 58)), (1, .int v1), (2, .int v2), (3, .int v3)] [] := by
  unfold f_m_isStraight at hf
  refine aw_iconst C (i0 := 0) (v := 0) (by decide) (by decide +kernel) rfl ?_
  refine aw_istore C [(4, .int (0 : Int32)), (0, .ref (gad G 58)), (1, .int v1), (2, .int v2), (3, .int v3)] (by rw [hnL]; decide) rfl (by decide +kernel) rfl ?_
  refine aw_sub [(0, .ref (gad G 58)), (1, .int v1), (2, .int v2), (3, .int v3), (4, .int (0 : Int32))] [1, 2, 3, 4, 0] rfl ?_
  exact u_m_isStraight_3 C CR0 E hnL hgd hgr hgs _ v1 v2 v3 (0 : Int32) _ hf
theorem c_m_isStraight {lay : Ly} (E : LAin lay) (v1 : Int32) (v2 : Int32) (v3 : Int32) (st : Mm) (q : Int32 × Mm) (hf : f_m_isStraight v1 v2 v3 st = some q) : Con 1 Y229 prog_14_method_91_code 5 (Option.some FieldType.boolean) lay (fun ad => [.ref (ad 58), .int v1, .int v2, .int v3]) st (some (.int q.1)) q.2 :=
  am_met yf_229.2.2.2.2.2 (fun ad => Nat.le_of_ble_eq_true rfl) (fun G C CR0 e1 e2 e3 e4 e5 => t_m_isStraight C CR0 (by rw [e1]; exact E) e2 (Nat.le_of_eq e5.symm) e3 e4 v1 v2 v3 st hf)
def b_m_straight_125 (v4 : Int32) (v7 : Int32) (v8 : Int32) (v9 : Int32) (st : Mm) : Option (Int32 × Mm) :=
  if v4 = 0 then (some (v7, st)) else (if v4 = (1 : Int32) then (some (v8, st)) else (some (v9, st)))
def b_m_straight_109 (k59 : Int32 → Int32 → Mm → Option (Int32 × Mm)) (v4 : Int32) (v6 : Int32) (v7 : Int32) (v8 : Int32) (v9 : Int32) (st : Mm) : Option (Int32 × Mm) :=
  (f_m_isStraight v7 v8 v9 st).bind (fun q1 => if q1.1 = 0 then (lt_ (v6 + (1 : Int32)) (fun a3 => k59 v4 a3 q1.2)) else (b_m_straight_125 v4 v7 v8 v9 q1.2))
def b_m_straight_59 (k59 : Int32 → Int32 → Mm → Option (Int32 × Mm)) (v4 : Int32) (v6 : Int32) (st : Mm) : Option (Int32 × Mm) :=
  if (5929 : Int32) ≤ v6 then (some ((-1000 : Int32), st)) else (lt_ ((v6 / (847 : Int32)) - (3 : Int32)) (fun a2 => lt_ (((v6 / (121 : Int32)) - (v6 / (121 : Int32)) / (7 : Int32) * (7 : Int32)) - (3 : Int32)) (fun a3 => lt_ ((v6 - v6 / (121 : Int32) * (121 : Int32)) - (60 : Int32)) (fun a4 => if a2 = 0 then (if a3 = 0 then (lt_ (v6 + (1 : Int32)) (fun a7 => k59 v4 a7 st)) else (b_m_straight_109 k59 v4 v6 a2 a3 a4 st)) else (b_m_straight_109 k59 v4 v6 a2 a3 a4 st)))))
def f_m_straight_59 : Nat → Int32 → Int32 → Mm → Option (Int32 × Mm)
  | 0 => fun _ _ _ => none
  | n + 1 => b_m_straight_59 (f_m_straight_59 n)
def f_m_straight (v1 : Int32) (v2 : Int32) (v3 : Int32) (v4 : Int32) (st : Mm) : Option (Int32 × Mm) :=
  (f_m_in v4 (0 : Int32) (2 : Int32) st).bind (fun q1 => if q1.1 = 0 then (some ((-1000 : Int32), q1.2)) else ((f_m_foldsSo v1 v2 v3 q1.2).bind (fun q3 => if q3.1 = 0 then (some ((-1000 : Int32), q3.2)) else ((f_m_firstUnlike q3.2).bind (fun q5 => if q5.1 = (-1 : Int32) then ((f_m_wantsCutMany q5.2).bind (fun q7 => if q7.1 = 0 then (some ((-1000 : Int32), q7.2)) else ((f_m_placeMany q7.2).bind (fun q9 => if q7.1 = q9.1 then (some ((-1000 : Int32), q9.2)) else (f_m_straight_59 1000000 v4 (0 : Int32) q9.2))))) else (some ((-1000 : Int32), q5.2)))))))
theorem t_m_straight_125 {G : Cx} (C : CX G prog_14_method_92_code "PaperStarsModel") (CR0 : CR G (Option.some FieldType.int)) (E : LAin (gly G)) (hnL : gnL G = 10) (hgd : 3 ≤ gd G) {q : Int32 × Mm} (hgr : gr G = some (.int q.1)) (hgs : gsf G = q.2) (v4 : Int32) (v7 : Int32) (v8 : Int32) (v9 : Int32) (st : Mm) (hf : b_m_straight_125 v4 v7 v8 v9 st = some q) : AW G st 125 [(4, .int v4), (7, .int v7), (8, .int v8), (9, .int v9)] [] := by
  unfold b_m_straight_125 at hf
  refine aw_iload C 4 0 rfl (by decide +kernel) rfl ?_
  refine aw_if_ne C (tgt := 135) (off := 8) (by decide +kernel) (by decide) rfl (fun c1 => ?_) (fun c1 => ?_)
  · have hf := ift c1 hf
    refine aw_iload C 7 1 rfl (by decide +kernel) rfl ?_
    refine aw_goto C (tgt := 148) (off := 16) (by decide +kernel) (by decide) ?_
    exact aw_iretq C CR0 hgr hgs hf (by decide +kernel)
  · have hf := iff_ c1 hf
    refine aw_iload C 4 0 rfl (by decide +kernel) rfl ?_
    refine aw_iconst C (i0 := 1) (v := 1) (by decide) (by decide +kernel) rfl ?_
    refine aw_icmp_ne C (tgt := 146) (off := 8) (by decide +kernel) (by decide) rfl (fun c2 => ?_) (fun c2 => ?_)
    · have hf := ift c2 hf
      refine aw_iload C 8 2 rfl (by decide +kernel) rfl ?_
      refine aw_goto C (tgt := 148) (off := 5) (by decide +kernel) (by decide) ?_
      exact aw_iretq C CR0 hgr hgs hf (by decide +kernel)
    · have hf := iff_ c2 hf
      refine aw_iload C 9 3 rfl (by decide +kernel) rfl ?_
      exact aw_iretq C CR0 hgr hgs hf (by decide +kernel)
theorem t_m_straight_109 {G : Cx} (C : CX G prog_14_method_92_code "PaperStarsModel") (CR0 : CR G (Option.some FieldType.int)) (E : LAin (gly G)) (hnL : gnL G = 10) (hgd : 3 ≤ gd G) {q : Int32 × Mm} (hgr : gr G = some (.int q.1)) (hgs : gsf G = q.2) (k59 : Int32 → Int32 → Mm → Option (Int32 × Mm)) (hk59 : ∀ (v4 : Int32) (v6 : Int32) (st : Mm), k59 v4 v6 st = some q → AW G st 59 [(0, .ref (gad G 58)), (4, .int v4), (6, .int v6)] []) (v4 : Int32) (v6 : Int32) (v7 : Int32) (v8 : Int32) (v9 : Int32) (st : Mm) (hf : b_m_straight_109 k59 v4 v6 v7 v8 v9 st = some q) : AW G st 109 [(0, .ref (gad G 58)), (4, .int v4), (6, .int v6), (7, .int v7), (8, .int v8), (9, .int v9)] [] := by
  unfold b_m_straight_109 at hf
  refine aw_aload_n C 0 0 (j := 0) rfl rfl (by decide +kernel) rfl ?_
  refine aw_iload C 7 3 rfl (by decide +kernel) rfl ?_
  refine aw_iload C 8 4 rfl (by decide +kernel) rfl ?_
  refine aw_iload C 9 5 rfl (by decide +kernel) rfl ?_
  obtain ⟨q1, hq1, hf⟩ := ibd hf
  refine aw_callV C (rest := []) (c_m_isStraight E v7 v8 v9 _ q1 hq1) tb_1487 yf_229 yi_229 (la_58 E) [.int v7, .int v8, .int v9] rfl rfl _ rfl (Nat.le_trans (by decide) hgd) (Nat.le_of_ble_eq_true rfl) (by decide +kernel) rfl ?_
  show AW _ _ _ _ [.int q1.1]
  refine aw_if_ne C (tgt := 125) (off := 6) (by decide +kernel) (by decide) rfl (fun c2 => ?_) (fun c2 => ?_)
  · have hf := ift c2 hf
    refine aw_goto C (tgt := 149) (off := 27) (by decide +kernel) (by decide) ?_
    obtain ⟨a3, ha3⟩ : ∃ z, z = (v6 + (1 : Int32)) := ⟨_, rfl⟩
    have hf := ilt ha3 hf
    refine aw_iinc C [(6, .int a3), (0, .ref (gad G 58)), (4, .int v4), (7, .int v7), (8, .int v8), (9, .int v9)] 2 (n := 1) rfl (by rw [ha3]; rfl) (by rw [hnL]; decide) rfl (by decide +kernel) rfl ?_
    refine aw_goto C (tgt := 59) (off := -93) (by decide +kernel) (by decide) ?_
    refine aw_sub [(0, .ref (gad G 58)), (4, .int v4), (6, .int a3)] [1, 2, 0] rfl ?_
    exact hk59 v4 a3 _ hf
  · have hf := iff_ c2 hf
    refine aw_sub [(4, .int v4), (7, .int v7), (8, .int v8), (9, .int v9)] [1, 3, 4, 5] rfl ?_
    exact t_m_straight_125 C CR0 E hnL hgd hgr hgs v4 v7 v8 v9 _ hf
theorem t_m_straight_59 {G : Cx} (C : CX G prog_14_method_92_code "PaperStarsModel") (CR0 : CR G (Option.some FieldType.int)) (E : LAin (gly G)) (hnL : gnL G = 10) (hgd : 3 ≤ gd G) {q : Int32 × Mm} (hgr : gr G = some (.int q.1)) (hgs : gsf G = q.2) (k59 : Int32 → Int32 → Mm → Option (Int32 × Mm)) (hk59 : ∀ (v4 : Int32) (v6 : Int32) (st : Mm), k59 v4 v6 st = some q → AW G st 59 [(0, .ref (gad G 58)), (4, .int v4), (6, .int v6)] []) (v4 : Int32) (v6 : Int32) (st : Mm) (hf : b_m_straight_59 k59 v4 v6 st = some q) : AW G st 59 [(0, .ref (gad G 58)), (4, .int v4), (6, .int v6)] [] := by
  unfold b_m_straight_59 at hf
  refine aw_iload C 6 2 rfl (by decide +kernel) rfl ?_
  refine aw_sipush C (i0 := 5929) (v := 5929) (by decide) (by decide +kernel) rfl ?_
  refine aw_icmp_ge C (tgt := 155) (off := 91) (by decide +kernel) (by decide) rfl (fun c1 => ?_) (fun c1 => ?_)
  · have hf := ift c1 hf
    refine aw_sipush C (i0 := -1000) (v := -1000) (by decide) (by decide +kernel) rfl ?_
    exact aw_iretq C CR0 hgr hgs hf (by decide +kernel)
  · have hf := iff_ c1 hf
    refine aw_iload C 6 2 rfl (by decide +kernel) rfl ?_
    refine aw_sipush C (i0 := 847) (v := 847) (by decide) (by decide +kernel) rfl ?_
    refine aw_idiv C (by decide) (by decide +kernel) rfl ?_
    refine aw_iconst C (i0 := 3) (v := 3) (by decide) (by decide +kernel) rfl ?_
    refine aw_isub C (by decide +kernel) rfl ?_
    obtain ⟨a2, ha2⟩ : ∃ z, z = ((v6 / (847 : Int32)) - (3 : Int32)) := ⟨_, rfl⟩
    refine aw_nmi ha2 ?_
    have hf := ilt ha2 hf
    refine aw_istore C [(7, .int a2), (0, .ref (gad G 58)), (4, .int v4), (6, .int v6)] (by rw [hnL]; decide) rfl (by decide +kernel) rfl ?_
    refine aw_iload C 6 3 rfl (by decide +kernel) rfl ?_
    refine aw_bipush C (i0 := 121) (v := 121) (by decide) (by decide +kernel) rfl ?_
    refine aw_idiv C (by decide) (by decide +kernel) rfl ?_
    refine aw_bipush C (i0 := 7) (v := 7) (by decide) (by decide +kernel) rfl ?_
    refine aw_irem C (by decide) (by decide +kernel) rfl ?_
    refine aw_iconst C (i0 := 3) (v := 3) (by decide) (by decide +kernel) rfl ?_
    refine aw_isub C (by decide +kernel) rfl ?_
    obtain ⟨a3, ha3⟩ : ∃ z, z = (((v6 / (121 : Int32)) - (v6 / (121 : Int32)) / (7 : Int32) * (7 : Int32)) - (3 : Int32)) := ⟨_, rfl⟩
    refine aw_nmi ha3 ?_
    have hf := ilt ha3 hf
    refine aw_istore C [(8, .int a3), (7, .int a2), (0, .ref (gad G 58)), (4, .int v4), (6, .int v6)] (by rw [hnL]; decide) rfl (by decide +kernel) rfl ?_
    refine aw_iload C 6 4 rfl (by decide +kernel) rfl ?_
    refine aw_bipush C (i0 := 121) (v := 121) (by decide) (by decide +kernel) rfl ?_
    refine aw_irem C (by decide) (by decide +kernel) rfl ?_
    refine aw_bipush C (i0 := 60) (v := 60) (by decide) (by decide +kernel) rfl ?_
    refine aw_isub C (by decide +kernel) rfl ?_
    obtain ⟨a4, ha4⟩ : ∃ z, z = ((v6 - v6 / (121 : Int32) * (121 : Int32)) - (60 : Int32)) := ⟨_, rfl⟩
    refine aw_nmi ha4 ?_
    have hf := ilt ha4 hf
    refine aw_istore C [(9, .int a4), (8, .int a3), (7, .int a2), (0, .ref (gad G 58)), (4, .int v4), (6, .int v6)] (by rw [hnL]; decide) rfl (by decide +kernel) rfl ?_
    refine aw_iload C 7 2 rfl (by decide +kernel) rfl ?_
    refine aw_if_ne C (tgt := 109) (off := 8) (by decide +kernel) (by decide) rfl (fun c5 => ?_) (fun c5 => ?_)
    · have hf := ift c5 hf
      refine aw_iload C 8 1 rfl (by decide +kernel) rfl ?_
      refine aw_if_eq C (tgt := 149) (off := 43) (by decide +kernel) (by decide) rfl (fun c6 => ?_) (fun c6 => ?_)
      · have hf := ift c6 hf
        obtain ⟨a7, ha7⟩ : ∃ z, z = (v6 + (1 : Int32)) := ⟨_, rfl⟩
        have hf := ilt ha7 hf
        refine aw_iinc C [(6, .int a7), (9, .int a4), (8, .int a3), (7, .int a2), (0, .ref (gad G 58)), (4, .int v4)] 5 (n := 1) rfl (by rw [ha7]; rfl) (by rw [hnL]; decide) rfl (by decide +kernel) rfl ?_
        refine aw_goto C (tgt := 59) (off := -93) (by decide +kernel) (by decide) ?_
        refine aw_sub [(0, .ref (gad G 58)), (4, .int v4), (6, .int a7)] [4, 5, 0] rfl ?_
        exact hk59 v4 a7 _ hf
      · have hf := iff_ c6 hf
        refine aw_sub [(0, .ref (gad G 58)), (4, .int v4), (6, .int v6), (7, .int a2), (8, .int a3), (9, .int a4)] [3, 4, 5, 2, 1, 0] rfl ?_
        exact t_m_straight_109 C CR0 E hnL hgd hgr hgs k59 hk59 v4 v6 a2 a3 a4 _ hf
    · have hf := iff_ c5 hf
      refine aw_sub [(0, .ref (gad G 58)), (4, .int v4), (6, .int v6), (7, .int a2), (8, .int a3), (9, .int a4)] [3, 4, 5, 2, 1, 0] rfl ?_
      exact t_m_straight_109 C CR0 E hnL hgd hgr hgs k59 hk59 v4 v6 a2 a3 a4 _ hf
theorem u_m_straight_59 {G : Cx} (C : CX G prog_14_method_92_code "PaperStarsModel") (CR0 : CR G (Option.some FieldType.int)) (E : LAin (gly G)) (hnL : gnL G = 10) (hgd : 3 ≤ gd G) {q : Int32 × Mm} (hgr : gr G = some (.int q.1)) (hgs : gsf G = q.2) : ∀ (n : Nat) (v4 : Int32) (v6 : Int32) (st : Mm), f_m_straight_59 n v4 v6 st = some q → AW G st 59 [(0, .ref (gad G 58)), (4, .int v4), (6, .int v6)] [] := by
  intro n
  induction n with
  | zero => intro v4 v6 st hf; cases hf
  | succ n ih => intro v4 v6 st hf; exact t_m_straight_59 C CR0 E hnL hgd hgr hgs (f_m_straight_59 n) ih v4 v6 st hf
theorem t_m_straight {G : Cx} (C : CX G prog_14_method_92_code "PaperStarsModel") (CR0 : CR G (Option.some FieldType.int)) (E : LAin (gly G)) (hnL : gnL G = 10) (hgd : 3 ≤ gd G) {q : Int32 × Mm} (hgr : gr G = some (.int q.1)) (hgs : gsf G = q.2) (v1 : Int32) (v2 : Int32) (v3 : Int32) (v4 : Int32) (st : Mm) (hf : f_m_straight v1 v2 v3 v4 st = some q) : AW G st 0 [(0, .ref (gad G 58)), (1, .int v1), (2, .int v2), (3, .int v3), (4, .int v4)] [] := by
  unfold f_m_straight at hf
  refine aw_iload C 4 4 rfl (by decide +kernel) rfl ?_
  refine aw_iconst C (i0 := 0) (v := 0) (by decide) (by decide +kernel) rfl ?_
  refine aw_iconst C (i0 := 2) (v := 2) (by decide) (by decide +kernel) rfl ?_
  obtain ⟨q1, hq1, hf⟩ := ibd hf
  refine aw_callS C (rest := []) (c_m_in E v4 (0 : Int32) (2 : Int32) _ q1 hq1) tb_1144 yf_142 tb_1145 rfl _ rfl (Nat.le_trans (by decide) hgd) (Nat.le_of_ble_eq_true rfl) (by decide +kernel) rfl ?_
  show AW _ _ _ _ [.int q1.1]
  refine aw_if_eq C (tgt := 28) (off := 21) (by decide +kernel) (by decide) rfl (fun c2 => ?_) (fun c2 => ?_)
  · have hf := ift c2 hf
    refine aw_sipush C (i0 := -1000) (v := -1000) (by decide) (by decide +kernel) rfl ?_
    exact aw_iretq C CR0 hgr hgs hf (by decide +kernel)
  · have hf := iff_ c2 hf
    refine aw_aload_n C 0 0 (j := 0) rfl rfl (by decide +kernel) rfl ?_
    refine aw_iload_n C 1 1 (j := 1) rfl rfl (by decide +kernel) rfl ?_
    refine aw_iload_n C 2 2 (j := 2) rfl rfl (by decide +kernel) rfl ?_
    refine aw_iload_n C 3 3 (j := 3) rfl rfl (by decide +kernel) rfl ?_
    obtain ⟨q3, hq3, hf⟩ := ibd hf
    refine aw_callV C (rest := []) (c_m_foldsSo E v1 v2 v3 _ q3 hq3) tb_1439 yf_217 yi_217 (la_58 E) [.int v1, .int v2, .int v3] rfl rfl _ rfl (Nat.le_trans (by decide) hgd) (Nat.le_of_ble_eq_true rfl) (by decide +kernel) rfl ?_
    show AW _ _ _ _ [.int q3.1]
    refine aw_if_eq C (tgt := 28) (off := 11) (by decide +kernel) (by decide) rfl (fun c4 => ?_) (fun c4 => ?_)
    · have hf := ift c4 hf
      refine aw_sipush C (i0 := -1000) (v := -1000) (by decide) (by decide +kernel) rfl ?_
      exact aw_iretq C CR0 hgr hgs hf (by decide +kernel)
    · have hf := iff_ c4 hf
      refine aw_aload_n C 0 0 (j := 0) rfl rfl (by decide +kernel) rfl ?_
      obtain ⟨q5, hq5, hf⟩ := ibd hf
      refine aw_callV C (rest := []) (c_m_firstUnlike E _ q5 hq5) tb_1443 yf_218 yi_218 (la_58 E) [] rfl rfl _ rfl (Nat.le_trans (by decide) hgd) (Nat.le_of_ble_eq_true rfl) (by decide +kernel) rfl ?_
      show AW _ _ _ _ [.int q5.1]
      refine aw_iconst C (i0 := -1) (v := -1) (by decide) (by decide +kernel) rfl ?_
      refine aw_icmp_eq C (tgt := 32) (off := 7) (by decide +kernel) (by decide) rfl (fun c6 => ?_) (fun c6 => ?_)
      · have hf := ift c6 hf
        refine aw_aload_n C 0 0 (j := 0) rfl rfl (by decide +kernel) rfl ?_
        obtain ⟨q7, hq7, hf⟩ := ibd hf
        refine aw_callV C (rest := []) (c_m_wantsCutMany E _ q7 hq7) tb_1451 yf_220 yi_220 (la_58 E) [] rfl rfl _ rfl (Nat.le_trans (by decide) hgd) (Nat.le_of_ble_eq_true rfl) (by decide +kernel) rfl ?_
        show AW _ _ _ _ [.int q7.1]
        refine aw_istore C [(5, .int q7.1), (0, .ref (gad G 58)), (1, .int v1), (2, .int v2), (3, .int v3), (4, .int v4)] (by rw [hnL]; decide) rfl (by decide +kernel) rfl ?_
        refine aw_iload C 5 0 rfl (by decide +kernel) rfl ?_
        refine aw_if_eq C (tgt := 52) (off := 12) (by decide +kernel) (by decide) rfl (fun c8 => ?_) (fun c8 => ?_)
        · have hf := ift c8 hf
          refine aw_sipush C (i0 := -1000) (v := -1000) (by decide) (by decide +kernel) rfl ?_
          exact aw_iretq C CR0 hgr hgs hf (by decide +kernel)
        · have hf := iff_ c8 hf
          refine aw_iload C 5 0 rfl (by decide +kernel) rfl ?_
          refine aw_aload_n C 0 1 (j := 0) rfl rfl (by decide +kernel) rfl ?_
          obtain ⟨q9, hq9, hf⟩ := ibd hf
          refine aw_callV C (rest := [.int q7.1]) (c_m_placeMany E _ q9 hq9) tb_1308 yf_184 yi_184 (la_58 E) [] rfl rfl _ rfl (Nat.le_trans (by decide) hgd) (Nat.le_of_ble_eq_true rfl) (by decide +kernel) rfl ?_
          show AW _ _ _ _ [.int q9.1, .int q7.1]
          refine aw_icmp_ne C (tgt := 56) (off := 7) (by decide +kernel) (by decide) rfl (fun c10 => ?_) (fun c10 => ?_)
          · have hf := ift c10 hf
            refine aw_sipush C (i0 := -1000) (v := -1000) (by decide) (by decide +kernel) rfl ?_
            exact aw_iretq C CR0 hgr hgs hf (by decide +kernel)
          · have hf := iff_ c10 hf
            refine aw_iconst C (i0 := 0) (v := 0) (by decide) (by decide +kernel) rfl ?_
            refine aw_istore C [(6, .int (0 : Int32)), (5, .int q7.1), (0, .ref (gad G 58)), (1, .int v1), (2, .int v2), (3, .int v3), (4, .int v4)] (by rw [hnL]; decide) rfl (by decide +kernel) rfl ?_
            refine aw_sub [(0, .ref (gad G 58)), (4, .int v4), (6, .int (0 : Int32))] [2, 6, 0] rfl ?_
            exact u_m_straight_59 C CR0 E hnL hgd hgr hgs _ v4 (0 : Int32) _ hf
      · have hf := iff_ c6 hf
        refine aw_sipush C (i0 := -1000) (v := -1000) (by decide) (by decide +kernel) rfl ?_
        exact aw_iretq C CR0 hgr hgs hf (by decide +kernel)
theorem c_m_straight {lay : Ly} (E : LAin lay) (v1 : Int32) (v2 : Int32) (v3 : Int32) (v4 : Int32) (st : Mm) (q : Int32 × Mm) (hf : f_m_straight v1 v2 v3 v4 st = some q) : Con 3 Y228 prog_14_method_92_code 10 (Option.some FieldType.int) lay (fun ad => [.ref (ad 58), .int v1, .int v2, .int v3, .int v4]) st (some (.int q.1)) q.2 :=
  am_met yf_228.2.2.2.2.2 (fun ad => Nat.le_of_ble_eq_true rfl) (fun G C CR0 e1 e2 e3 e4 e5 => t_m_straight C CR0 (by rw [e1]; exact E) e2 (Nat.le_of_eq e5.symm) e3 e4 v1 v2 v3 v4 st hf)
def b_m_scraps_77 (v4 : Int32) (st : Mm) : Option (Int32 × Mm) :=
  some (((((100 : Int32) * (v4 / (10 : Int32))) + ((10 : Int32) * ((v4 / (2 : Int32)) - (v4 / (2 : Int32)) / (5 : Int32) * (5 : Int32)))) + (v4 - v4 / (2 : Int32) * (2 : Int32))), st)
def b_m_scraps_111 (v2 : Int32) (v3 : Int32) (st : Mm) : Option (Int32 × Mm) :=
  if v2 = (-1 : Int32) then (some (v3, st)) else (some ((-2 : Int32), st))
def b_m_scraps_24 (k24 : Int32 → Int32 → Int32 → Int32 → Mm → Option (Int32 × Mm)) (v1 : Int32) (v2 : Int32) (v3 : Int32) (v4 : Int32) (st : Mm) : Option (Int32 × Mm) :=
  if (50 : Int32) ≤ v4 then (b_m_scraps_111 v2 v3 st) else ((f_m_foldsSo (v4 / (10 : Int32)) ((v4 / (2 : Int32)) - (v4 / (2 : Int32)) / (5 : Int32) * (5 : Int32)) (v4 - v4 / (2 : Int32) * (2 : Int32)) st).bind (fun q2 => if q2.1 = 0 then (lt_ (v4 + (1 : Int32)) (fun a4 => k24 v1 v2 v3 a4 q2.2)) else ((f_m_firstUnlike q2.2).bind (fun q5 => if q5.1 = (-1 : Int32) then ((f_m_wantsCutMany q5.2).bind (fun q7 => if q7.1 = v1 then (if v3 = v2 then (b_m_scraps_77 v4 q7.2) else (lt_ (v3 + (1 : Int32)) (fun a10 => lt_ (v4 + (1 : Int32)) (fun a11 => k24 v1 v2 a10 a11 q7.2)))) else (lt_ (v4 + (1 : Int32)) (fun a12 => k24 v1 v2 v3 a12 q7.2)))) else (lt_ (v4 + (1 : Int32)) (fun a13 => k24 v1 v2 v3 a13 q5.2))))))
def f_m_scraps_24 : Nat → Int32 → Int32 → Int32 → Int32 → Mm → Option (Int32 × Mm)
  | 0 => fun _ _ _ _ _ => none
  | n + 1 => b_m_scraps_24 (f_m_scraps_24 n)
def f_m_scraps (v1 : Int32) (v2 : Int32) (st : Mm) : Option (Int32 × Mm) :=
  (f_m_in v1 (0 : Int32) (256 : Int32) st).bind (fun q1 => if q1.1 = 0 then (some ((-3 : Int32), q1.2)) else (if (-1 : Int32) ≤ v2 then (f_m_scraps_24 1000000 v1 v2 (0 : Int32) (0 : Int32) q1.2) else (some ((-3 : Int32), q1.2))))
theorem t_m_scraps_77 {G : Cx} (C : CX G prog_14_method_93_code "PaperStarsModel") (CR0 : CR G (Option.some FieldType.int)) (E : LAin (gly G)) (hnL : gnL G = 5) (hgd : 3 ≤ gd G) {q : Int32 × Mm} (hgr : gr G = some (.int q.1)) (hgs : gsf G = q.2) (v4 : Int32) (st : Mm) (hf : b_m_scraps_77 v4 st = some q) : AW G st 77 [(4, .int v4)] [] := by
  unfold b_m_scraps_77 at hf
  refine aw_bipush C (i0 := 100) (v := 100) (by decide) (by decide +kernel) rfl ?_
  refine aw_iload C 4 0 rfl (by decide +kernel) rfl ?_
  refine aw_bipush C (i0 := 10) (v := 10) (by decide) (by decide +kernel) rfl ?_
  refine aw_idiv C (by decide) (by decide +kernel) rfl ?_
  refine aw_imul C (by decide +kernel) rfl ?_
  refine aw_bipush C (i0 := 10) (v := 10) (by decide) (by decide +kernel) rfl ?_
  refine aw_iload C 4 0 rfl (by decide +kernel) rfl ?_
  refine aw_iconst C (i0 := 2) (v := 2) (by decide) (by decide +kernel) rfl ?_
  refine aw_idiv C (by decide) (by decide +kernel) rfl ?_
  refine aw_iconst C (i0 := 5) (v := 5) (by decide) (by decide +kernel) rfl ?_
  refine aw_irem C (by decide) (by decide +kernel) rfl ?_
  refine aw_imul C (by decide +kernel) rfl ?_
  refine aw_iadd C (by decide +kernel) rfl ?_
  refine aw_iload C 4 0 rfl (by decide +kernel) rfl ?_
  refine aw_iconst C (i0 := 2) (v := 2) (by decide) (by decide +kernel) rfl ?_
  refine aw_irem C (by decide) (by decide +kernel) rfl ?_
  refine aw_iadd C (by decide +kernel) rfl ?_
  exact aw_iretq C CR0 hgr hgs hf (by decide +kernel)
theorem t_m_scraps_111 {G : Cx} (C : CX G prog_14_method_93_code "PaperStarsModel") (CR0 : CR G (Option.some FieldType.int)) (E : LAin (gly G)) (hnL : gnL G = 5) (hgd : 3 ≤ gd G) {q : Int32 × Mm} (hgr : gr G = some (.int q.1)) (hgs : gsf G = q.2) (v2 : Int32) (v3 : Int32) (st : Mm) (hf : b_m_scraps_111 v2 v3 st = some q) : AW G st 111 [(2, .int v2), (3, .int v3)] [] := by
  unfold b_m_scraps_111 at hf
  refine aw_iload_n C 2 0 (j := 2) rfl rfl (by decide +kernel) rfl ?_
  refine aw_iconst C (i0 := -1) (v := -1) (by decide) (by decide +kernel) rfl ?_
  refine aw_icmp_ne C (tgt := 120) (off := 7) (by decide +kernel) (by decide) rfl (fun c1 => ?_) (fun c1 => ?_)
  · have hf := ift c1 hf
    refine aw_iload_n C 3 1 (j := 3) rfl rfl (by decide +kernel) rfl ?_
    refine aw_goto C (tgt := 122) (off := 5) (by decide +kernel) (by decide) ?_
    exact aw_iretq C CR0 hgr hgs hf (by decide +kernel)
  · have hf := iff_ c1 hf
    refine aw_bipush C (i0 := -2) (v := -2) (by decide) (by decide +kernel) rfl ?_
    exact aw_iretq C CR0 hgr hgs hf (by decide +kernel)
theorem t_m_scraps_24 {G : Cx} (C : CX G prog_14_method_93_code "PaperStarsModel") (CR0 : CR G (Option.some FieldType.int)) (E : LAin (gly G)) (hnL : gnL G = 5) (hgd : 3 ≤ gd G) {q : Int32 × Mm} (hgr : gr G = some (.int q.1)) (hgs : gsf G = q.2) (k24 : Int32 → Int32 → Int32 → Int32 → Mm → Option (Int32 × Mm)) (hk24 : ∀ (v1 : Int32) (v2 : Int32) (v3 : Int32) (v4 : Int32) (st : Mm), k24 v1 v2 v3 v4 st = some q → AW G st 24 [(0, .ref (gad G 58)), (1, .int v1), (2, .int v2), (3, .int v3), (4, .int v4)] []) (v1 : Int32) (v2 : Int32) (v3 : Int32) (v4 : Int32) (st : Mm) (hf : b_m_scraps_24 k24 v1 v2 v3 v4 st = some q) : AW G st 24 [(0, .ref (gad G 58)), (1, .int v1), (2, .int v2), (3, .int v3), (4, .int v4)] [] := by
  unfold b_m_scraps_24 at hf
  refine aw_iload C 4 4 rfl (by decide +kernel) rfl ?_
  refine aw_bipush C (i0 := 50) (v := 50) (by decide) (by decide +kernel) rfl ?_
  refine aw_icmp_ge C (tgt := 111) (off := 83) (by decide +kernel) (by decide) rfl (fun c1 => ?_) (fun c1 => ?_)
  · have hf := ift c1 hf
    refine aw_sub [(2, .int v2), (3, .int v3)] [2, 3] rfl ?_
    exact t_m_scraps_111 C CR0 E hnL hgd hgr hgs v2 v3 _ hf
  · have hf := iff_ c1 hf
    refine aw_aload_n C 0 0 (j := 0) rfl rfl (by decide +kernel) rfl ?_
    refine aw_iload C 4 4 rfl (by decide +kernel) rfl ?_
    refine aw_bipush C (i0 := 10) (v := 10) (by decide) (by decide +kernel) rfl ?_
    refine aw_idiv C (by decide) (by decide +kernel) rfl ?_
    refine aw_iload C 4 4 rfl (by decide +kernel) rfl ?_
    refine aw_iconst C (i0 := 2) (v := 2) (by decide) (by decide +kernel) rfl ?_
    refine aw_idiv C (by decide) (by decide +kernel) rfl ?_
    refine aw_iconst C (i0 := 5) (v := 5) (by decide) (by decide +kernel) rfl ?_
    refine aw_irem C (by decide) (by decide +kernel) rfl ?_
    refine aw_iload C 4 4 rfl (by decide +kernel) rfl ?_
    refine aw_iconst C (i0 := 2) (v := 2) (by decide) (by decide +kernel) rfl ?_
    refine aw_irem C (by decide) (by decide +kernel) rfl ?_
    obtain ⟨q2, hq2, hf⟩ := ibd hf
    refine aw_callV C (rest := []) (c_m_foldsSo E (v4 / (10 : Int32)) ((v4 / (2 : Int32)) - (v4 / (2 : Int32)) / (5 : Int32) * (5 : Int32)) (v4 - v4 / (2 : Int32) * (2 : Int32)) _ q2 hq2) tb_1439 yf_217 yi_217 (la_58 E) [.int (v4 / (10 : Int32)), .int ((v4 / (2 : Int32)) - (v4 / (2 : Int32)) / (5 : Int32) * (5 : Int32)), .int (v4 - v4 / (2 : Int32) * (2 : Int32))] rfl rfl _ rfl (Nat.le_trans (by decide) hgd) (Nat.le_of_ble_eq_true rfl) (by decide +kernel) rfl ?_
    show AW _ _ _ _ [.int q2.1]
    refine aw_if_eq C (tgt := 105) (off := 55) (by decide +kernel) (by decide) rfl (fun c3 => ?_) (fun c3 => ?_)
    · have hf := ift c3 hf
      obtain ⟨a4, ha4⟩ : ∃ z, z = (v4 + (1 : Int32)) := ⟨_, rfl⟩
      have hf := ilt ha4 hf
      refine aw_iinc C [(4, .int a4), (0, .ref (gad G 58)), (1, .int v1), (2, .int v2), (3, .int v3)] 4 (n := 1) rfl (by rw [ha4]; rfl) (by rw [hnL]; decide) rfl (by decide +kernel) rfl ?_
      refine aw_goto C (tgt := 24) (off := -84) (by decide +kernel) (by decide) ?_
      refine aw_sub [(0, .ref (gad G 58)), (1, .int v1), (2, .int v2), (3, .int v3), (4, .int a4)] [1, 2, 3, 4, 0] rfl ?_
      exact hk24 v1 v2 v3 a4 _ hf
    · have hf := iff_ c3 hf
      refine aw_aload_n C 0 0 (j := 0) rfl rfl (by decide +kernel) rfl ?_
      obtain ⟨q5, hq5, hf⟩ := ibd hf
      refine aw_callV C (rest := []) (c_m_firstUnlike E _ q5 hq5) tb_1443 yf_218 yi_218 (la_58 E) [] rfl rfl _ rfl (Nat.le_trans (by decide) hgd) (Nat.le_of_ble_eq_true rfl) (by decide +kernel) rfl ?_
      show AW _ _ _ _ [.int q5.1]
      refine aw_iconst C (i0 := -1) (v := -1) (by decide) (by decide +kernel) rfl ?_
      refine aw_icmp_ne C (tgt := 105) (off := 47) (by decide +kernel) (by decide) rfl (fun c6 => ?_) (fun c6 => ?_)
      · have hf := ift c6 hf
        refine aw_aload_n C 0 0 (j := 0) rfl rfl (by decide +kernel) rfl ?_
        obtain ⟨q7, hq7, hf⟩ := ibd hf
        refine aw_callV C (rest := []) (c_m_wantsCutMany E _ q7 hq7) tb_1451 yf_220 yi_220 (la_58 E) [] rfl rfl _ rfl (Nat.le_trans (by decide) hgd) (Nat.le_of_ble_eq_true rfl) (by decide +kernel) rfl ?_
        show AW _ _ _ _ [.int q7.1]
        refine aw_iload_n C 1 1 (j := 1) rfl rfl (by decide +kernel) rfl ?_
        refine aw_icmp_eq C (tgt := 72) (off := 6) (by decide +kernel) (by decide) rfl (fun c8 => ?_) (fun c8 => ?_)
        · have hf := ift c8 hf
          refine aw_iload_n C 3 3 (j := 3) rfl rfl (by decide +kernel) rfl ?_
          refine aw_iload_n C 2 2 (j := 2) rfl rfl (by decide +kernel) rfl ?_
          refine aw_icmp_ne C (tgt := 101) (off := 27) (by decide +kernel) (by decide) rfl (fun c9 => ?_) (fun c9 => ?_)
          · have hf := ift c9 hf
            refine aw_sub [(4, .int v4)] [4] rfl ?_
            exact t_m_scraps_77 C CR0 E hnL hgd hgr hgs v4 _ hf
          · have hf := iff_ c9 hf
            refine aw_iload_n C 3 3 (j := 3) rfl rfl (by decide +kernel) rfl ?_
            refine aw_iconst C (i0 := 1) (v := 1) (by decide) (by decide +kernel) rfl ?_
            refine aw_iadd C (by decide +kernel) rfl ?_
            obtain ⟨a10, ha10⟩ : ∃ z, z = (v3 + (1 : Int32)) := ⟨_, rfl⟩
            refine aw_nmi ha10 ?_
            have hf := ilt ha10 hf
            refine aw_istore_n C [(3, .int a10), (0, .ref (gad G 58)), (1, .int v1), (2, .int v2), (4, .int v4)] (j := 3) rfl (by rw [hnL]; decide) rfl (by decide +kernel) rfl ?_
            obtain ⟨a11, ha11⟩ : ∃ z, z = (v4 + (1 : Int32)) := ⟨_, rfl⟩
            have hf := ilt ha11 hf
            refine aw_iinc C [(4, .int a11), (3, .int a10), (0, .ref (gad G 58)), (1, .int v1), (2, .int v2)] 4 (n := 1) rfl (by rw [ha11]; rfl) (by rw [hnL]; decide) rfl (by decide +kernel) rfl ?_
            refine aw_goto C (tgt := 24) (off := -84) (by decide +kernel) (by decide) ?_
            refine aw_sub [(0, .ref (gad G 58)), (1, .int v1), (2, .int v2), (3, .int a10), (4, .int a11)] [2, 3, 4, 1, 0] rfl ?_
            exact hk24 v1 v2 a10 a11 _ hf
        · have hf := iff_ c8 hf
          refine aw_goto C (tgt := 105) (off := 36) (by decide +kernel) (by decide) ?_
          obtain ⟨a12, ha12⟩ : ∃ z, z = (v4 + (1 : Int32)) := ⟨_, rfl⟩
          have hf := ilt ha12 hf
          refine aw_iinc C [(4, .int a12), (0, .ref (gad G 58)), (1, .int v1), (2, .int v2), (3, .int v3)] 4 (n := 1) rfl (by rw [ha12]; rfl) (by rw [hnL]; decide) rfl (by decide +kernel) rfl ?_
          refine aw_goto C (tgt := 24) (off := -84) (by decide +kernel) (by decide) ?_
          refine aw_sub [(0, .ref (gad G 58)), (1, .int v1), (2, .int v2), (3, .int v3), (4, .int a12)] [1, 2, 3, 4, 0] rfl ?_
          exact hk24 v1 v2 v3 a12 _ hf
      · have hf := iff_ c6 hf
        obtain ⟨a13, ha13⟩ : ∃ z, z = (v4 + (1 : Int32)) := ⟨_, rfl⟩
        have hf := ilt ha13 hf
        refine aw_iinc C [(4, .int a13), (0, .ref (gad G 58)), (1, .int v1), (2, .int v2), (3, .int v3)] 4 (n := 1) rfl (by rw [ha13]; rfl) (by rw [hnL]; decide) rfl (by decide +kernel) rfl ?_
        refine aw_goto C (tgt := 24) (off := -84) (by decide +kernel) (by decide) ?_
        refine aw_sub [(0, .ref (gad G 58)), (1, .int v1), (2, .int v2), (3, .int v3), (4, .int a13)] [1, 2, 3, 4, 0] rfl ?_
        exact hk24 v1 v2 v3 a13 _ hf
theorem u_m_scraps_24 {G : Cx} (C : CX G prog_14_method_93_code "PaperStarsModel") (CR0 : CR G (Option.some FieldType.int)) (E : LAin (gly G)) (hnL : gnL G = 5) (hgd : 3 ≤ gd G) {q : Int32 × Mm} (hgr : gr G = some (.int q.1)) (hgs : gsf G = q.2) : ∀ (n : Nat) (v1 : Int32) (v2 : Int32) (v3 : Int32) (v4 : Int32) (st : Mm), f_m_scraps_24 n v1 v2 v3 v4 st = some q → AW G st 24 [(0, .ref (gad G 58)), (1, .int v1), (2, .int v2), (3, .int v3), (4, .int v4)] [] := by
  intro n
  induction n with
  | zero => intro v1 v2 v3 v4 st hf; cases hf
  | succ n ih => intro v1 v2 v3 v4 st hf; exact t_m_scraps_24 C CR0 E hnL hgd hgr hgs (f_m_scraps_24 n) ih v1 v2 v3 v4 st hf
theorem t_m_scraps {G : Cx} (C : CX G prog_14_method_93_code "PaperStarsModel") (CR0 : CR G (Option.some FieldType.int)) (E : LAin (gly G)) (hnL : gnL G = 5) (hgd : 3 ≤ gd G) {q : Int32 × Mm} (hgr : gr G = some (.int q.1)) (hgs : gsf G = q.2) (v1 : Int32) (v2 : Int32) (st : Mm) (hf : f_m_scraps v1 v2 st = some q) : AW G st 0 [(0, .ref (gad G 58)), (1, .int v1), (2, .int v2)] [] := by
  unfold f_m_scraps at hf
  refine aw_iload_n C 1 1 (j := 1) rfl rfl (by decide +kernel) rfl ?_
  refine aw_iconst C (i0 := 0) (v := 0) (by decide) (by decide +kernel) rfl ?_
  refine aw_sipush C (i0 := 256) (v := 256) (by decide) (by decide +kernel) rfl ?_
  obtain ⟨q1, hq1, hf⟩ := ibd hf
  refine aw_callS C (rest := []) (c_m_in E v1 (0 : Int32) (256 : Int32) _ q1 hq1) tb_1144 yf_142 tb_1145 rfl _ rfl (Nat.le_trans (by decide) hgd) (Nat.le_of_ble_eq_true rfl) (by decide +kernel) rfl ?_
  show AW _ _ _ _ [.int q1.1]
  refine aw_if_eq C (tgt := 16) (off := 8) (by decide +kernel) (by decide) rfl (fun c2 => ?_) (fun c2 => ?_)
  · have hf := ift c2 hf
    refine aw_bipush C (i0 := -3) (v := -3) (by decide) (by decide +kernel) rfl ?_
    exact aw_iretq C CR0 hgr hgs hf (by decide +kernel)
  · have hf := iff_ c2 hf
    refine aw_iload_n C 2 2 (j := 2) rfl rfl (by decide +kernel) rfl ?_
    refine aw_iconst C (i0 := -1) (v := -1) (by decide) (by decide +kernel) rfl ?_
    refine aw_icmp_ge C (tgt := 19) (off := 6) (by decide +kernel) (by decide) rfl (fun c3 => ?_) (fun c3 => ?_)
    · have hf := ift c3 hf
      refine aw_iconst C (i0 := 0) (v := 0) (by decide) (by decide +kernel) rfl ?_
      refine aw_istore_n C [(3, .int (0 : Int32)), (0, .ref (gad G 58)), (1, .int v1), (2, .int v2)] (j := 3) rfl (by rw [hnL]; decide) rfl (by decide +kernel) rfl ?_
      refine aw_iconst C (i0 := 0) (v := 0) (by decide) (by decide +kernel) rfl ?_
      refine aw_istore C [(4, .int (0 : Int32)), (3, .int (0 : Int32)), (0, .ref (gad G 58)), (1, .int v1), (2, .int v2)] (by rw [hnL]; decide) rfl (by decide +kernel) rfl ?_
      refine aw_sub [(0, .ref (gad G 58)), (1, .int v1), (2, .int v2), (3, .int (0 : Int32)), (4, .int (0 : Int32))] [2, 3, 4, 1, 0] rfl ?_
      exact u_m_scraps_24 C CR0 E hnL hgd hgr hgs _ v1 v2 (0 : Int32) (0 : Int32) _ hf
    · have hf := iff_ c3 hf
      refine aw_bipush C (i0 := -3) (v := -3) (by decide) (by decide +kernel) rfl ?_
      exact aw_iretq C CR0 hgr hgs hf (by decide +kernel)
theorem c_m_scraps {lay : Ly} (E : LAin lay) (v1 : Int32) (v2 : Int32) (st : Mm) (q : Int32 × Mm) (hf : f_m_scraps v1 v2 st = some q) : Con 3 Y230 prog_14_method_93_code 5 (Option.some FieldType.int) lay (fun ad => [.ref (ad 58), .int v1, .int v2]) st (some (.int q.1)) q.2 :=
  am_met yf_230.2.2.2.2.2 (fun ad => Nat.le_of_ble_eq_true rfl) (fun G C CR0 e1 e2 e3 e4 e5 => t_m_scraps C CR0 (by rw [e1]; exact E) e2 (Nat.le_of_eq e5.symm) e3 e4 v1 v2 st hf)
def b_m_turned_23 (k23 : Int32 → Int32 → Int32 → Int32 → Int32 → Mm → Option (Int32 × Mm)) (v1 : Int32) (v2 : Int32) (v3 : Int32) (v4 : Int32) (v5 : Int32) (st : Mm) : Option (Int32 × Mm) :=
  if (v2 - v2 / (4 : Int32) * (4 : Int32)) ≤ v5 then (some (((v1 * v4) + v3), st)) else (lt_ ((v1 - (1 : Int32)) - v4) (fun a2 => lt_ (v5 + (1 : Int32)) (fun a3 => k23 v1 v2 a2 v3 a3 st)))
def f_m_turned_23 : Nat → Int32 → Int32 → Int32 → Int32 → Int32 → Mm → Option (Int32 × Mm)
  | 0 => fun _ _ _ _ _ _ => none
  | n + 1 => b_m_turned_23 (f_m_turned_23 n)
def f_m_turned (v0 : Int32) (v1 : Int32) (v2 : Int32) (st : Mm) : Option (Int32 × Mm) :=
  if ¬ v1 = 0 then lt_ (v0 - v0 / v1 * v1) (fun a2 => if ¬ v1 = 0 then lt_ (v0 / v1) (fun a4 => if v2 ≤ (3 : Int32) then (f_m_turned_23 1000000 v1 v2 a2 a4 (0 : Int32) st) else (lt_ ((v1 - (1 : Int32)) - a2) (fun a6 => f_m_turned_23 1000000 v1 v2 a6 a4 (0 : Int32) st))) else none) else none
theorem t_m_turned_23 {G : Cx} (C : CX G prog_14_method_94_code "PaperStarsModel") (CR0 : CR G (Option.some FieldType.int)) (E : LAin (gly G)) (hnL : gnL G = 7) (hgd : 0 ≤ gd G) {q : Int32 × Mm} (hgr : gr G = some (.int q.1)) (hgs : gsf G = q.2) (k23 : Int32 → Int32 → Int32 → Int32 → Int32 → Mm → Option (Int32 × Mm)) (hk23 : ∀ (v1 : Int32) (v2 : Int32) (v3 : Int32) (v4 : Int32) (v5 : Int32) (st : Mm), k23 v1 v2 v3 v4 v5 st = some q → AW G st 23 [(1, .int v1), (2, .int v2), (3, .int v3), (4, .int v4), (5, .int v5)] []) (v1 : Int32) (v2 : Int32) (v3 : Int32) (v4 : Int32) (v5 : Int32) (st : Mm) (hf : b_m_turned_23 k23 v1 v2 v3 v4 v5 st = some q) : AW G st 23 [(1, .int v1), (2, .int v2), (3, .int v3), (4, .int v4), (5, .int v5)] [] := by
  unfold b_m_turned_23 at hf
  refine aw_iload C 5 4 rfl (by decide +kernel) rfl ?_
  refine aw_iload_n C 2 1 (j := 2) rfl rfl (by decide +kernel) rfl ?_
  refine aw_iconst C (i0 := 4) (v := 4) (by decide) (by decide +kernel) rfl ?_
  refine aw_irem C (by decide) (by decide +kernel) rfl ?_
  refine aw_icmp_ge C (tgt := 51) (off := 23) (by decide +kernel) (by decide) rfl (fun c1 => ?_) (fun c1 => ?_)
  · have hf := ift c1 hf
    refine aw_iload_n C 1 0 (j := 1) rfl rfl (by decide +kernel) rfl ?_
    refine aw_iload C 4 3 rfl (by decide +kernel) rfl ?_
    refine aw_imul C (by decide +kernel) rfl ?_
    refine aw_iload_n C 3 2 (j := 3) rfl rfl (by decide +kernel) rfl ?_
    refine aw_iadd C (by decide +kernel) rfl ?_
    exact aw_iretq C CR0 hgr hgs hf (by decide +kernel)
  · have hf := iff_ c1 hf
    refine aw_iload_n C 3 2 (j := 3) rfl rfl (by decide +kernel) rfl ?_
    refine aw_istore C [(6, .int v3), (1, .int v1), (2, .int v2), (3, .int v3), (4, .int v4), (5, .int v5)] (by rw [hnL]; decide) rfl (by decide +kernel) rfl ?_
    refine aw_iload_n C 1 1 (j := 1) rfl rfl (by decide +kernel) rfl ?_
    refine aw_iconst C (i0 := 1) (v := 1) (by decide) (by decide +kernel) rfl ?_
    refine aw_isub C (by decide +kernel) rfl ?_
    refine aw_iload C 4 4 rfl (by decide +kernel) rfl ?_
    refine aw_isub C (by decide +kernel) rfl ?_
    obtain ⟨a2, ha2⟩ : ∃ z, z = ((v1 - (1 : Int32)) - v4) := ⟨_, rfl⟩
    refine aw_nmi ha2 ?_
    have hf := ilt ha2 hf
    refine aw_istore_n C [(3, .int a2), (6, .int v3), (1, .int v1), (2, .int v2), (4, .int v4), (5, .int v5)] (j := 3) rfl (by rw [hnL]; decide) rfl (by decide +kernel) rfl ?_
    refine aw_iload C 6 1 rfl (by decide +kernel) rfl ?_
    refine aw_istore C [(4, .int v3), (3, .int a2), (6, .int v3), (1, .int v1), (2, .int v2), (5, .int v5)] (by rw [hnL]; decide) rfl (by decide +kernel) rfl ?_
    obtain ⟨a3, ha3⟩ : ∃ z, z = (v5 + (1 : Int32)) := ⟨_, rfl⟩
    have hf := ilt ha3 hf
    refine aw_iinc C [(5, .int a3), (4, .int v3), (3, .int a2), (6, .int v3), (1, .int v1), (2, .int v2)] 5 (n := 1) rfl (by rw [ha3]; rfl) (by rw [hnL]; decide) rfl (by decide +kernel) rfl ?_
    refine aw_goto C (tgt := 23) (off := -25) (by decide +kernel) (by decide) ?_
    refine aw_sub [(1, .int v1), (2, .int v2), (3, .int a2), (4, .int v3), (5, .int a3)] [4, 5, 2, 1, 0] rfl ?_
    exact hk23 v1 v2 a2 v3 a3 _ hf
theorem u_m_turned_23 {G : Cx} (C : CX G prog_14_method_94_code "PaperStarsModel") (CR0 : CR G (Option.some FieldType.int)) (E : LAin (gly G)) (hnL : gnL G = 7) (hgd : 0 ≤ gd G) {q : Int32 × Mm} (hgr : gr G = some (.int q.1)) (hgs : gsf G = q.2) : ∀ (n : Nat) (v1 : Int32) (v2 : Int32) (v3 : Int32) (v4 : Int32) (v5 : Int32) (st : Mm), f_m_turned_23 n v1 v2 v3 v4 v5 st = some q → AW G st 23 [(1, .int v1), (2, .int v2), (3, .int v3), (4, .int v4), (5, .int v5)] [] := by
  intro n
  induction n with
  | zero => intro v1 v2 v3 v4 v5 st hf; cases hf
  | succ n ih => intro v1 v2 v3 v4 v5 st hf; exact t_m_turned_23 C CR0 E hnL hgd hgr hgs (f_m_turned_23 n) ih v1 v2 v3 v4 v5 st hf
theorem t_m_turned {G : Cx} (C : CX G prog_14_method_94_code "PaperStarsModel") (CR0 : CR G (Option.some FieldType.int)) (E : LAin (gly G)) (hnL : gnL G = 7) (hgd : 0 ≤ gd G) {q : Int32 × Mm} (hgr : gr G = some (.int q.1)) (hgs : gsf G = q.2) (v0 : Int32) (v1 : Int32) (v2 : Int32) (st : Mm) (hf : f_m_turned v0 v1 v2 st = some q) : AW G st 0 [(0, .int v0), (1, .int v1), (2, .int v2)] [] := by
  unfold f_m_turned at hf
  refine aw_iload_n C 0 0 (j := 0) rfl rfl (by decide +kernel) rfl ?_
  refine aw_iload_n C 1 1 (j := 1) rfl rfl (by decide +kernel) rfl ?_
  obtain ⟨g1, hf⟩ := igd hf
  refine aw_irem C g1 (by decide +kernel) rfl ?_
  obtain ⟨a2, ha2⟩ : ∃ z, z = (v0 - v0 / v1 * v1) := ⟨_, rfl⟩
  refine aw_nmi ha2 ?_
  have hf := ilt ha2 hf
  refine aw_istore_n C [(3, .int a2), (0, .int v0), (1, .int v1), (2, .int v2)] (j := 3) rfl (by rw [hnL]; decide) rfl (by decide +kernel) rfl ?_
  refine aw_iload_n C 0 1 (j := 0) rfl rfl (by decide +kernel) rfl ?_
  refine aw_iload_n C 1 2 (j := 1) rfl rfl (by decide +kernel) rfl ?_
  obtain ⟨g3, hf⟩ := igd hf
  refine aw_idiv C g3 (by decide +kernel) rfl ?_
  obtain ⟨a4, ha4⟩ : ∃ z, z = (v0 / v1) := ⟨_, rfl⟩
  refine aw_nmi ha4 ?_
  have hf := ilt ha4 hf
  refine aw_istore C [(4, .int a4), (3, .int a2), (0, .int v0), (1, .int v1), (2, .int v2)] (by rw [hnL]; decide) rfl (by decide +kernel) rfl ?_
  refine aw_iload_n C 2 4 (j := 2) rfl rfl (by decide +kernel) rfl ?_
  refine aw_iconst C (i0 := 3) (v := 3) (by decide) (by decide +kernel) rfl ?_
  refine aw_icmp_le C (tgt := 20) (off := 9) (by decide +kernel) (by decide) rfl (fun c5 => ?_) (fun c5 => ?_)
  · have hf := ift c5 hf
    refine aw_iconst C (i0 := 0) (v := 0) (by decide) (by decide +kernel) rfl ?_
    refine aw_istore C [(5, .int (0 : Int32)), (4, .int a4), (3, .int a2), (0, .int v0), (1, .int v1), (2, .int v2)] (by rw [hnL]; decide) rfl (by decide +kernel) rfl ?_
    refine aw_sub [(1, .int v1), (2, .int v2), (3, .int a2), (4, .int a4), (5, .int (0 : Int32))] [4, 5, 2, 1, 0] rfl ?_
    exact u_m_turned_23 C CR0 E hnL hgd hgr hgs _ v1 v2 a2 a4 (0 : Int32) _ hf
  · have hf := iff_ c5 hf
    refine aw_iload_n C 1 3 (j := 1) rfl rfl (by decide +kernel) rfl ?_
    refine aw_iconst C (i0 := 1) (v := 1) (by decide) (by decide +kernel) rfl ?_
    refine aw_isub C (by decide +kernel) rfl ?_
    refine aw_iload_n C 3 1 (j := 3) rfl rfl (by decide +kernel) rfl ?_
    refine aw_isub C (by decide +kernel) rfl ?_
    obtain ⟨a6, ha6⟩ : ∃ z, z = ((v1 - (1 : Int32)) - a2) := ⟨_, rfl⟩
    refine aw_nmi ha6 ?_
    have hf := ilt ha6 hf
    refine aw_istore_n C [(3, .int a6), (4, .int a4), (0, .int v0), (1, .int v1), (2, .int v2)] (j := 3) rfl (by rw [hnL]; decide) rfl (by decide +kernel) rfl ?_
    refine aw_iconst C (i0 := 0) (v := 0) (by decide) (by decide +kernel) rfl ?_
    refine aw_istore C [(5, .int (0 : Int32)), (3, .int a6), (4, .int a4), (0, .int v0), (1, .int v1), (2, .int v2)] (by rw [hnL]; decide) rfl (by decide +kernel) rfl ?_
    refine aw_sub [(1, .int v1), (2, .int v2), (3, .int a6), (4, .int a4), (5, .int (0 : Int32))] [4, 5, 1, 2, 0] rfl ?_
    exact u_m_turned_23 C CR0 E hnL hgd hgr hgs _ v1 v2 a6 a4 (0 : Int32) _ hf
theorem c_m_turned {lay : Ly} (E : LAin lay) (v0 : Int32) (v1 : Int32) (v2 : Int32) (st : Mm) (q : Int32 × Mm) (hf : f_m_turned v0 v1 v2 st = some q) : Con 0 Y233 prog_14_method_94_code 7 (Option.some FieldType.int) lay (fun ad => [.int v0, .int v1, .int v2]) st (some (.int q.1)) q.2 :=
  am_met yf_233.2.2.2.2.2 (fun ad => Nat.le_of_ble_eq_true rfl) (fun G C CR0 e1 e2 e3 e4 e5 => t_m_turned C CR0 (by rw [e1]; exact E) e2 (Nat.le_of_eq e5.symm) e3 e4 v0 v1 v2 st hf)
def b_m_leaves_161 (k62 : Int32 → Int32 → Int32 → Int32 → Mm → Option (Int64 × Mm)) (v1 : Int32) (v2 : Int32) (v3 : Int32) (v4 : Int32) (st : Mm) : Option (Int64 × Mm) :=
  lt_ (v4 + (1 : Int32)) (fun a1 => k62 v1 v2 v3 a1 st)
def b_m_leaves_118 (k62 : Int32 → Int32 → Int32 → Int32 → Mm → Option (Int64 × Mm)) (k118 : Int32 → Int32 → Int32 → Int32 → Int32 → Int32 → Mm → Option (Int64 × Mm)) (v1 : Int32) (v2 : Int32) (v3 : Int32) (v4 : Int32) (v5 : Int32) (v6 : Int32) (st : Mm) : Option (Int64 × Mm) :=
  if v6 < v5 then (b_m_leaves_161 k62 v1 v2 v3 v4 st) else (if v5 ≤ 0 then (b_m_leaves_161 k62 v1 v2 v3 v4 st) else (if inb v6 50 then if inb (v6 - v5) 50 then lt_ ((st.2 83 v6.toNatClampNeg) + (st.2 83 (v6 - v5).toNatClampNeg)) (fun a5 => if inb v6 50 then lt_ (v6 + (-1 : Int32)) (fun a7 => k118 v1 v2 v3 v4 v5 a7 (sL st 83 v6.toNatClampNeg a5)) else none) else none else none))
def f_m_leaves_118 (k62 : Int32 → Int32 → Int32 → Int32 → Mm → Option (Int64 × Mm)) : Nat → Int32 → Int32 → Int32 → Int32 → Int32 → Int32 → Mm → Option (Int64 × Mm)
  | 0 => fun _ _ _ _ _ _ _ => none
  | n + 1 => b_m_leaves_118 k62 (f_m_leaves_118 k62 n)
def b_m_leaves_113 (k62 : Int32 → Int32 → Int32 → Int32 → Mm → Option (Int64 × Mm)) (v1 : Int32) (v2 : Int32) (v3 : Int32) (v4 : Int32) (v5 : Int32) (st : Mm) : Option (Int64 × Mm) :=
  lt_ (v1 * v1) (fun a1 => f_m_leaves_118 k62 1000000 v1 v2 v3 v4 v5 a1 st)
def b_m_leaves_77 (k62 : Int32 → Int32 → Int32 → Int32 → Mm → Option (Int64 × Mm)) (k77 : Int32 → Int32 → Int32 → Int32 → Int32 → Int32 → Mm → Option (Int64 × Mm)) (v1 : Int32) (v2 : Int32) (v3 : Int32) (v4 : Int32) (v5 : Int32) (v6 : Int32) (st : Mm) : Option (Int64 × Mm) :=
  if inb v6 49 then if (st.1 84 v6.toNatClampNeg) = 0 then (if inb v6 49 then lt_ (v5 + (1 : Int32)) (fun a4 => (f_m_turned v6 v1 v3 (sI st 84 v6.toNatClampNeg (1 : Int32))).bind (fun q5 => k77 v1 v2 v3 v4 a4 q5.1 q5.2)) else none) else (b_m_leaves_113 k62 v1 v2 v3 v4 v5 st) else none
def f_m_leaves_77 (k62 : Int32 → Int32 → Int32 → Int32 → Mm → Option (Int64 × Mm)) : Nat → Int32 → Int32 → Int32 → Int32 → Int32 → Int32 → Mm → Option (Int64 × Mm)
  | 0 => fun _ _ _ _ _ _ _ => none
  | n + 1 => b_m_leaves_77 k62 (f_m_leaves_77 k62 n)
def b_m_leaves_62 (k62 : Int32 → Int32 → Int32 → Int32 → Mm → Option (Int64 × Mm)) (v1 : Int32) (v2 : Int32) (v3 : Int32) (v4 : Int32) (st : Mm) : Option (Int64 × Mm) :=
  if (v1 * v1) ≤ v4 then (if inb v2 50 then some ((st.2 83 v2.toNatClampNeg), st) else none) else (f_m_leaves_77 k62 1000000 v1 v2 v3 v4 (0 : Int32) v4 st)
def f_m_leaves_62 : Nat → Int32 → Int32 → Int32 → Int32 → Mm → Option (Int64 × Mm)
  | 0 => fun _ _ _ _ _ => none
  | n + 1 => b_m_leaves_62 (f_m_leaves_62 n)
def b_m_leaves_59 (v1 : Int32) (v2 : Int32) (v3 : Int32) (st : Mm) : Option (Int64 × Mm) :=
  f_m_leaves_62 1000000 v1 v2 v3 (0 : Int32) st
def b_m_leaves_37 (k37 : Int32 → Int32 → Int32 → Int32 → Mm → Option (Int64 × Mm)) (v1 : Int32) (v2 : Int32) (v3 : Int32) (v4 : Int32) (st : Mm) : Option (Int64 × Mm) :=
  if (v1 * v1) ≤ v4 then (b_m_leaves_59 v1 v2 v3 st) else (if inb v4 49 then lt_ (v4 + (1 : Int32)) (fun a3 => k37 v1 v2 v3 a3 (sI st 84 v4.toNatClampNeg (0 : Int32))) else none)
def f_m_leaves_37 : Nat → Int32 → Int32 → Int32 → Int32 → Mm → Option (Int64 × Mm)
  | 0 => fun _ _ _ _ _ => none
  | n + 1 => b_m_leaves_37 (f_m_leaves_37 n)
def b_m_leaves_34 (v1 : Int32) (v2 : Int32) (v3 : Int32) (st : Mm) : Option (Int64 × Mm) :=
  f_m_leaves_37 1000000 v1 v2 v3 (0 : Int32) st
def b_m_leaves_3 (k3 : Int32 → Int32 → Int32 → Int32 → Mm → Option (Int64 × Mm)) (v1 : Int32) (v2 : Int32) (v3 : Int32) (v4 : Int32) (st : Mm) : Option (Int64 × Mm) :=
  if (v1 * v1) < v4 then (b_m_leaves_34 v1 v2 v3 st) else (if v4 = 0 then (if inb v4 50 then lt_ (v4 + (1 : Int32)) (fun a4 => k3 v1 v2 v3 a4 (sL st 83 v4.toNatClampNeg (1 : Int64))) else none) else (if inb v4 50 then lt_ (v4 + (1 : Int32)) (fun a6 => k3 v1 v2 v3 a6 (sL st 83 v4.toNatClampNeg (0 : Int64))) else none))
def f_m_leaves_3 : Nat → Int32 → Int32 → Int32 → Int32 → Mm → Option (Int64 × Mm)
  | 0 => fun _ _ _ _ _ => none
  | n + 1 => b_m_leaves_3 (f_m_leaves_3 n)
def f_m_leaves (v1 : Int32) (v2 : Int32) (v3 : Int32) (st : Mm) : Option (Int64 × Mm) :=
  f_m_leaves_3 1000000 v1 v2 v3 (0 : Int32) st
theorem t_m_leaves_161 {G : Cx} (C : CX G prog_14_method_95_code "PaperStarsModel") (CR0 : CR G (Option.some FieldType.long)) (E : LAin (gly G)) (hnL : gnL G = 7) (hgd : 1 ≤ gd G) {q : Int64 × Mm} (hgr : gr G = some (.long q.1)) (hgs : gsf G = q.2) (k62 : Int32 → Int32 → Int32 → Int32 → Mm → Option (Int64 × Mm)) (hk62 : ∀ (v1 : Int32) (v2 : Int32) (v3 : Int32) (v4 : Int32) (st : Mm), k62 v1 v2 v3 v4 st = some q → AW G st 62 [(0, .ref (gad G 58)), (1, .int v1), (2, .int v2), (3, .int v3), (4, .int v4)] []) (v1 : Int32) (v2 : Int32) (v3 : Int32) (v4 : Int32) (st : Mm) (hf : b_m_leaves_161 k62 v1 v2 v3 v4 st = some q) : AW G st 161 [(0, .ref (gad G 58)), (1, .int v1), (2, .int v2), (3, .int v3), (4, .int v4)] [] := by
  unfold b_m_leaves_161 at hf
  obtain ⟨a1, ha1⟩ : ∃ z, z = (v4 + (1 : Int32)) := ⟨_, rfl⟩
  have hf := ilt ha1 hf
  refine aw_iinc C [(4, .int a1), (0, .ref (gad G 58)), (1, .int v1), (2, .int v2), (3, .int v3)] 4 (n := 1) rfl (by rw [ha1]; rfl) (by rw [hnL]; decide) rfl (by decide +kernel) rfl ?_
  refine aw_goto C (tgt := 62) (off := -102) (by decide +kernel) (by decide) ?_
  refine aw_sub [(0, .ref (gad G 58)), (1, .int v1), (2, .int v2), (3, .int v3), (4, .int a1)] [1, 2, 3, 4, 0] rfl ?_
  exact hk62 v1 v2 v3 a1 _ hf
theorem t_m_leaves_118 {G : Cx} (C : CX G prog_14_method_95_code "PaperStarsModel") (CR0 : CR G (Option.some FieldType.long)) (E : LAin (gly G)) (hnL : gnL G = 7) (hgd : 1 ≤ gd G) {q : Int64 × Mm} (hgr : gr G = some (.long q.1)) (hgs : gsf G = q.2) (k62 : Int32 → Int32 → Int32 → Int32 → Mm → Option (Int64 × Mm)) (k118 : Int32 → Int32 → Int32 → Int32 → Int32 → Int32 → Mm → Option (Int64 × Mm)) (hk62 : ∀ (v1 : Int32) (v2 : Int32) (v3 : Int32) (v4 : Int32) (st : Mm), k62 v1 v2 v3 v4 st = some q → AW G st 62 [(0, .ref (gad G 58)), (1, .int v1), (2, .int v2), (3, .int v3), (4, .int v4)] []) (hk118 : ∀ (v1 : Int32) (v2 : Int32) (v3 : Int32) (v4 : Int32) (v5 : Int32) (v6 : Int32) (st : Mm), k118 v1 v2 v3 v4 v5 v6 st = some q → AW G st 118 [(0, .ref (gad G 58)), (1, .int v1), (2, .int v2), (3, .int v3), (4, .int v4), (5, .int v5), (6, .int v6)] []) (v1 : Int32) (v2 : Int32) (v3 : Int32) (v4 : Int32) (v5 : Int32) (v6 : Int32) (st : Mm) (hf : b_m_leaves_118 k62 k118 v1 v2 v3 v4 v5 v6 st = some q) : AW G st 118 [(0, .ref (gad G 58)), (1, .int v1), (2, .int v2), (3, .int v3), (4, .int v4), (5, .int v5), (6, .int v6)] [] := by
  unfold b_m_leaves_118 at hf
  refine aw_iload C 6 6 rfl (by decide +kernel) rfl ?_
  refine aw_iload C 5 5 rfl (by decide +kernel) rfl ?_
  refine aw_icmp_lt C (tgt := 161) (off := 39) (by decide +kernel) (by decide) rfl (fun c1 => ?_) (fun c1 => ?_)
  · have hf := ift c1 hf
    refine aw_sub [(0, .ref (gad G 58)), (1, .int v1), (2, .int v2), (3, .int v3), (4, .int v4)] [0, 1, 2, 3, 4] rfl ?_
    exact t_m_leaves_161 C CR0 E hnL hgd hgr hgs k62 hk62 v1 v2 v3 v4 _ hf
  · have hf := iff_ c1 hf
    refine aw_iload C 5 5 rfl (by decide +kernel) rfl ?_
    refine aw_if_le C (tgt := 161) (off := 34) (by decide +kernel) (by decide) rfl (fun c2 => ?_) (fun c2 => ?_)
    · have hf := ift c2 hf
      refine aw_sub [(0, .ref (gad G 58)), (1, .int v1), (2, .int v2), (3, .int v3), (4, .int v4)] [0, 1, 2, 3, 4] rfl ?_
      exact t_m_leaves_161 C CR0 E hnL hgd hgr hgs k62 hk62 v1 v2 v3 v4 _ hf
    · have hf := iff_ c2 hf
      refine aw_aload_n C 0 0 (j := 0) rfl rfl (by decide +kernel) rfl ?_
      refine aw_getr C (k := 52) fc_12 (la_58 E) rfl (by decide) tb_994 (by decide +kernel) rfl ?_
      refine aw_iload C 6 6 rfl (by decide +kernel) rfl ?_
      refine aw_aload_n C 0 0 (j := 0) rfl rfl (by decide +kernel) rfl ?_
      refine aw_getr C (k := 52) fc_12 (la_58 E) rfl (by decide) tb_994 (by decide +kernel) rfl ?_
      refine aw_iload C 6 6 rfl (by decide +kernel) rfl ?_
      obtain ⟨g3, hf⟩ := igd hf
      refine aw_lald C (la_83 E) g3 (by decide +kernel) rfl ?_
      refine aw_aload_n C 0 0 (j := 0) rfl rfl (by decide +kernel) rfl ?_
      refine aw_getr C (k := 52) fc_12 (la_58 E) rfl (by decide) tb_994 (by decide +kernel) rfl ?_
      refine aw_iload C 6 6 rfl (by decide +kernel) rfl ?_
      refine aw_iload C 5 5 rfl (by decide +kernel) rfl ?_
      refine aw_isub C (by decide +kernel) rfl ?_
      obtain ⟨g4, hf⟩ := igd hf
      refine aw_lald C (la_83 E) g4 (by decide +kernel) rfl ?_
      refine aw_ladd C (by decide +kernel) rfl ?_
      obtain ⟨a5, ha5⟩ : ∃ z, z = ((st.2 83 v6.toNatClampNeg) + (st.2 83 (v6 - v5).toNatClampNeg)) := ⟨_, rfl⟩
      refine aw_nml ha5 ?_
      have hf := ilt ha5 hf
      obtain ⟨g6, hf⟩ := igd hf
      refine aw_last C (la_83 E) g6 (by decide +kernel) rfl ?_
      obtain ⟨a7, ha7⟩ : ∃ z, z = (v6 + (-1 : Int32)) := ⟨_, rfl⟩
      have hf := ilt ha7 hf
      refine aw_iinc C [(6, .int a7), (0, .ref (gad G 58)), (1, .int v1), (2, .int v2), (3, .int v3), (4, .int v4), (5, .int v5)] 6 (n := -1) rfl (by rw [ha7]; rfl) (by rw [hnL]; decide) rfl (by decide +kernel) rfl ?_
      refine aw_goto C (tgt := 118) (off := -40) (by decide +kernel) (by decide) ?_
      refine aw_sub [(0, .ref (gad G 58)), (1, .int v1), (2, .int v2), (3, .int v3), (4, .int v4), (5, .int v5), (6, .int a7)] [1, 2, 3, 4, 5, 6, 0] rfl ?_
      exact hk118 v1 v2 v3 v4 v5 a7 _ hf
theorem u_m_leaves_118 {G : Cx} (C : CX G prog_14_method_95_code "PaperStarsModel") (CR0 : CR G (Option.some FieldType.long)) (E : LAin (gly G)) (hnL : gnL G = 7) (hgd : 1 ≤ gd G) {q : Int64 × Mm} (hgr : gr G = some (.long q.1)) (hgs : gsf G = q.2) (k62 : Int32 → Int32 → Int32 → Int32 → Mm → Option (Int64 × Mm)) (hk62 : ∀ (v1 : Int32) (v2 : Int32) (v3 : Int32) (v4 : Int32) (st : Mm), k62 v1 v2 v3 v4 st = some q → AW G st 62 [(0, .ref (gad G 58)), (1, .int v1), (2, .int v2), (3, .int v3), (4, .int v4)] []) : ∀ (n : Nat) (v1 : Int32) (v2 : Int32) (v3 : Int32) (v4 : Int32) (v5 : Int32) (v6 : Int32) (st : Mm), f_m_leaves_118 k62 n v1 v2 v3 v4 v5 v6 st = some q → AW G st 118 [(0, .ref (gad G 58)), (1, .int v1), (2, .int v2), (3, .int v3), (4, .int v4), (5, .int v5), (6, .int v6)] [] := by
  intro n
  induction n with
  | zero => intro v1 v2 v3 v4 v5 v6 st hf; cases hf
  | succ n ih => intro v1 v2 v3 v4 v5 v6 st hf; exact t_m_leaves_118 C CR0 E hnL hgd hgr hgs k62 (f_m_leaves_118 k62 n) hk62 ih v1 v2 v3 v4 v5 v6 st hf
theorem t_m_leaves_113 {G : Cx} (C : CX G prog_14_method_95_code "PaperStarsModel") (CR0 : CR G (Option.some FieldType.long)) (E : LAin (gly G)) (hnL : gnL G = 7) (hgd : 1 ≤ gd G) {q : Int64 × Mm} (hgr : gr G = some (.long q.1)) (hgs : gsf G = q.2) (k62 : Int32 → Int32 → Int32 → Int32 → Mm → Option (Int64 × Mm)) (hk62 : ∀ (v1 : Int32) (v2 : Int32) (v3 : Int32) (v4 : Int32) (st : Mm), k62 v1 v2 v3 v4 st = some q → AW G st 62 [(0, .ref (gad G 58)), (1, .int v1), (2, .int v2), (3, .int v3), (4, .int v4)] []) (v1 : Int32) (v2 : Int32) (v3 : Int32) (v4 : Int32) (v5 : Int32) (st : Mm) (hf : b_m_leaves_113 k62 v1 v2 v3 v4 v5 st = some q) : AW G st 113 [(0, .ref (gad G 58)), (1, .int v1), (2, .int v2), (3, .int v3), (4, .int v4), (5, .int v5)] [] := by
  unfold b_m_leaves_113 at hf
  refine aw_iload_n C 1 1 (j := 1) rfl rfl (by decide +kernel) rfl ?_
  refine aw_iload_n C 1 1 (j := 1) rfl rfl (by decide +kernel) rfl ?_
  refine aw_imul C (by decide +kernel) rfl ?_
  obtain ⟨a1, ha1⟩ : ∃ z, z = (v1 * v1) := ⟨_, rfl⟩
  refine aw_nmi ha1 ?_
  have hf := ilt ha1 hf
  refine aw_istore C [(6, .int a1), (0, .ref (gad G 58)), (1, .int v1), (2, .int v2), (3, .int v3), (4, .int v4), (5, .int v5)] (by rw [hnL]; decide) rfl (by decide +kernel) rfl ?_
  refine aw_sub [(0, .ref (gad G 58)), (1, .int v1), (2, .int v2), (3, .int v3), (4, .int v4), (5, .int v5), (6, .int a1)] [1, 2, 3, 4, 5, 6, 0] rfl ?_
  exact u_m_leaves_118 C CR0 E hnL hgd hgr hgs k62 hk62 _ v1 v2 v3 v4 v5 a1 _ hf
theorem t_m_leaves_77 {G : Cx} (C : CX G prog_14_method_95_code "PaperStarsModel") (CR0 : CR G (Option.some FieldType.long)) (E : LAin (gly G)) (hnL : gnL G = 7) (hgd : 1 ≤ gd G) {q : Int64 × Mm} (hgr : gr G = some (.long q.1)) (hgs : gsf G = q.2) (k62 : Int32 → Int32 → Int32 → Int32 → Mm → Option (Int64 × Mm)) (k77 : Int32 → Int32 → Int32 → Int32 → Int32 → Int32 → Mm → Option (Int64 × Mm)) (hk62 : ∀ (v1 : Int32) (v2 : Int32) (v3 : Int32) (v4 : Int32) (st : Mm), k62 v1 v2 v3 v4 st = some q → AW G st 62 [(0, .ref (gad G 58)), (1, .int v1), (2, .int v2), (3, .int v3), (4, .int v4)] []) (hk77 : ∀ (v1 : Int32) (v2 : Int32) (v3 : Int32) (v4 : Int32) (v5 : Int32) (v6 : Int32) (st : Mm), k77 v1 v2 v3 v4 v5 v6 st = some q → AW G st 77 [(0, .ref (gad G 58)), (1, .int v1), (2, .int v2), (3, .int v3), (4, .int v4), (5, .int v5), (6, .int v6)] []) (v1 : Int32) (v2 : Int32) (v3 : Int32) (v4 : Int32) (v5 : Int32) (v6 : Int32) (st : Mm) (hf : b_m_leaves_77 k62 k77 v1 v2 v3 v4 v5 v6 st = some q) : AW G st 77 [(0, .ref (gad G 58)), (1, .int v1), (2, .int v2), (3, .int v3), (4, .int v4), (5, .int v5), (6, .int v6)] [] := by
  unfold b_m_leaves_77 at hf
  refine aw_aload_n C 0 0 (j := 0) rfl rfl (by decide +kernel) rfl ?_
  refine aw_getr C (k := 53) fc_12 (la_58 E) rfl (by decide) tb_995 (by decide +kernel) rfl ?_
  refine aw_iload C 6 6 rfl (by decide +kernel) rfl ?_
  obtain ⟨g1, hf⟩ := igd hf
  refine aw_zald C (la_84 E) g1 (by decide +kernel) rfl ?_
  refine aw_if_ne C (tgt := 113) (off := 29) (by decide +kernel) (by decide) rfl (fun c2 => ?_) (fun c2 => ?_)
  · have hf := ift c2 hf
    refine aw_aload_n C 0 0 (j := 0) rfl rfl (by decide +kernel) rfl ?_
    refine aw_getr C (k := 53) fc_12 (la_58 E) rfl (by decide) tb_995 (by decide +kernel) rfl ?_
    refine aw_iload C 6 6 rfl (by decide +kernel) rfl ?_
    refine aw_iconst C (i0 := 1) (v := 1) (by decide) (by decide +kernel) rfl ?_
    obtain ⟨g3, hf⟩ := igd hf
    refine aw_zastB C (la_84 E) g3 (by decide) (by decide +kernel) rfl ?_
    refine aw_iload C 5 5 rfl (by decide +kernel) rfl ?_
    refine aw_iconst C (i0 := 1) (v := 1) (by decide) (by decide +kernel) rfl ?_
    refine aw_iadd C (by decide +kernel) rfl ?_
    obtain ⟨a4, ha4⟩ : ∃ z, z = (v5 + (1 : Int32)) := ⟨_, rfl⟩
    refine aw_nmi ha4 ?_
    have hf := ilt ha4 hf
    refine aw_istore C [(5, .int a4), (0, .ref (gad G 58)), (1, .int v1), (2, .int v2), (3, .int v3), (4, .int v4), (6, .int v6)] (by rw [hnL]; decide) rfl (by decide +kernel) rfl ?_
    refine aw_iload C 6 6 rfl (by decide +kernel) rfl ?_
    refine aw_iload_n C 1 2 (j := 1) rfl rfl (by decide +kernel) rfl ?_
    refine aw_iload_n C 3 4 (j := 3) rfl rfl (by decide +kernel) rfl ?_
    obtain ⟨q5, hq5, hf⟩ := ibd hf
    refine aw_callS C (rest := []) (c_m_turned E v6 v1 v3 _ q5 hq5) tb_1503 yf_233 tb_1504 rfl _ rfl (Nat.le_trans (by decide) hgd) (Nat.le_of_ble_eq_true rfl) (by decide +kernel) rfl ?_
    show AW _ _ _ _ [.int q5.1]
    refine aw_istore C [(6, .int q5.1), (5, .int a4), (0, .ref (gad G 58)), (1, .int v1), (2, .int v2), (3, .int v3), (4, .int v4)] (by rw [hnL]; decide) rfl (by decide +kernel) rfl ?_
    refine aw_goto C (tgt := 77) (off := -33) (by decide +kernel) (by decide) ?_
    refine aw_sub [(0, .ref (gad G 58)), (1, .int v1), (2, .int v2), (3, .int v3), (4, .int v4), (5, .int a4), (6, .int q5.1)] [2, 3, 4, 5, 6, 1, 0] rfl ?_
    exact hk77 v1 v2 v3 v4 a4 q5.1 _ hf
  · have hf := iff_ c2 hf
    refine aw_sub [(0, .ref (gad G 58)), (1, .int v1), (2, .int v2), (3, .int v3), (4, .int v4), (5, .int v5)] [0, 1, 2, 3, 4, 5] rfl ?_
    exact t_m_leaves_113 C CR0 E hnL hgd hgr hgs k62 hk62 v1 v2 v3 v4 v5 _ hf
theorem u_m_leaves_77 {G : Cx} (C : CX G prog_14_method_95_code "PaperStarsModel") (CR0 : CR G (Option.some FieldType.long)) (E : LAin (gly G)) (hnL : gnL G = 7) (hgd : 1 ≤ gd G) {q : Int64 × Mm} (hgr : gr G = some (.long q.1)) (hgs : gsf G = q.2) (k62 : Int32 → Int32 → Int32 → Int32 → Mm → Option (Int64 × Mm)) (hk62 : ∀ (v1 : Int32) (v2 : Int32) (v3 : Int32) (v4 : Int32) (st : Mm), k62 v1 v2 v3 v4 st = some q → AW G st 62 [(0, .ref (gad G 58)), (1, .int v1), (2, .int v2), (3, .int v3), (4, .int v4)] []) : ∀ (n : Nat) (v1 : Int32) (v2 : Int32) (v3 : Int32) (v4 : Int32) (v5 : Int32) (v6 : Int32) (st : Mm), f_m_leaves_77 k62 n v1 v2 v3 v4 v5 v6 st = some q → AW G st 77 [(0, .ref (gad G 58)), (1, .int v1), (2, .int v2), (3, .int v3), (4, .int v4), (5, .int v5), (6, .int v6)] [] := by
  intro n
  induction n with
  | zero => intro v1 v2 v3 v4 v5 v6 st hf; cases hf
  | succ n ih => intro v1 v2 v3 v4 v5 v6 st hf; exact t_m_leaves_77 C CR0 E hnL hgd hgr hgs k62 (f_m_leaves_77 k62 n) hk62 ih v1 v2 v3 v4 v5 v6 st hf
theorem t_m_leaves_62 {G : Cx} (C : CX G prog_14_method_95_code "PaperStarsModel") (CR0 : CR G (Option.some FieldType.long)) (E : LAin (gly G)) (hnL : gnL G = 7) (hgd : 1 ≤ gd G) {q : Int64 × Mm} (hgr : gr G = some (.long q.1)) (hgs : gsf G = q.2) (k62 : Int32 → Int32 → Int32 → Int32 → Mm → Option (Int64 × Mm)) (hk62 : ∀ (v1 : Int32) (v2 : Int32) (v3 : Int32) (v4 : Int32) (st : Mm), k62 v1 v2 v3 v4 st = some q → AW G st 62 [(0, .ref (gad G 58)), (1, .int v1), (2, .int v2), (3, .int v3), (4, .int v4)] []) (v1 : Int32) (v2 : Int32) (v3 : Int32) (v4 : Int32) (st : Mm) (hf : b_m_leaves_62 k62 v1 v2 v3 v4 st = some q) : AW G st 62 [(0, .ref (gad G 58)), (1, .int v1), (2, .int v2), (3, .int v3), (4, .int v4)] [] := by
  unfold b_m_leaves_62 at hf
  refine aw_iload C 4 4 rfl (by decide +kernel) rfl ?_
  refine aw_iload_n C 1 1 (j := 1) rfl rfl (by decide +kernel) rfl ?_
  refine aw_iload_n C 1 1 (j := 1) rfl rfl (by decide +kernel) rfl ?_
  refine aw_imul C (by decide +kernel) rfl ?_
  refine aw_icmp_ge C (tgt := 167) (off := 100) (by decide +kernel) (by decide) rfl (fun c1 => ?_) (fun c1 => ?_)
  · have hf := ift c1 hf
    refine aw_aload_n C 0 0 (j := 0) rfl rfl (by decide +kernel) rfl ?_
    refine aw_getr C (k := 52) fc_12 (la_58 E) rfl (by decide) tb_994 (by decide +kernel) rfl ?_
    refine aw_iload_n C 2 2 (j := 2) rfl rfl (by decide +kernel) rfl ?_
    obtain ⟨g2, hf⟩ := igd hf
    refine aw_lald C (la_83 E) g2 (by decide +kernel) rfl ?_
    exact aw_lretq C CR0 hgr hgs hf (by decide +kernel)
  · have hf := iff_ c1 hf
    refine aw_iconst C (i0 := 0) (v := 0) (by decide) (by decide +kernel) rfl ?_
    refine aw_istore C [(5, .int (0 : Int32)), (0, .ref (gad G 58)), (1, .int v1), (2, .int v2), (3, .int v3), (4, .int v4)] (by rw [hnL]; decide) rfl (by decide +kernel) rfl ?_
    refine aw_iload C 4 5 rfl (by decide +kernel) rfl ?_
    refine aw_istore C [(6, .int v4), (5, .int (0 : Int32)), (0, .ref (gad G 58)), (1, .int v1), (2, .int v2), (3, .int v3), (4, .int v4)] (by rw [hnL]; decide) rfl (by decide +kernel) rfl ?_
    refine aw_sub [(0, .ref (gad G 58)), (1, .int v1), (2, .int v2), (3, .int v3), (4, .int v4), (5, .int (0 : Int32)), (6, .int v4)] [2, 3, 4, 5, 6, 1, 0] rfl ?_
    exact u_m_leaves_77 C CR0 E hnL hgd hgr hgs k62 hk62 _ v1 v2 v3 v4 (0 : Int32) v4 _ hf
theorem u_m_leaves_62 {G : Cx} (C : CX G prog_14_method_95_code "PaperStarsModel") (CR0 : CR G (Option.some FieldType.long)) (E : LAin (gly G)) (hnL : gnL G = 7) (hgd : 1 ≤ gd G) {q : Int64 × Mm} (hgr : gr G = some (.long q.1)) (hgs : gsf G = q.2) : ∀ (n : Nat) (v1 : Int32) (v2 : Int32) (v3 : Int32) (v4 : Int32) (st : Mm), f_m_leaves_62 n v1 v2 v3 v4 st = some q → AW G st 62 [(0, .ref (gad G 58)), (1, .int v1), (2, .int v2), (3, .int v3), (4, .int v4)] [] := by
  intro n
  induction n with
  | zero => intro v1 v2 v3 v4 st hf; cases hf
  | succ n ih => intro v1 v2 v3 v4 st hf; exact t_m_leaves_62 C CR0 E hnL hgd hgr hgs (f_m_leaves_62 n) ih v1 v2 v3 v4 st hf
theorem t_m_leaves_59 {G : Cx} (C : CX G prog_14_method_95_code "PaperStarsModel") (CR0 : CR G (Option.some FieldType.long)) (E : LAin (gly G)) (hnL : gnL G = 7) (hgd : 1 ≤ gd G) {q : Int64 × Mm} (hgr : gr G = some (.long q.1)) (hgs : gsf G = q.2) (v1 : Int32) (v2 : Int32) (v3 : Int32) (st : Mm) (hf : b_m_leaves_59 v1 v2 v3 st = some q) : AW G st 59 [(0, .ref (gad G 58)), (1, .int v1), (2, .int v2), (3, .int v3)] [] := by
  unfold b_m_leaves_59 at hf
  refine aw_iconst C (i0 := 0) (v := 0) (by decide) (by decide +kernel) rfl ?_
  refine aw_istore C [(4, .int (0 : Int32)), (0, .ref (gad G 58)), (1, .int v1), (2, .int v2), (3, .int v3)] (by rw [hnL]; decide) rfl (by decide +kernel) rfl ?_
  refine aw_sub [(0, .ref (gad G 58)), (1, .int v1), (2, .int v2), (3, .int v3), (4, .int (0 : Int32))] [1, 2, 3, 4, 0] rfl ?_
  exact u_m_leaves_62 C CR0 E hnL hgd hgr hgs _ v1 v2 v3 (0 : Int32) _ hf
theorem t_m_leaves_37 {G : Cx} (C : CX G prog_14_method_95_code "PaperStarsModel") (CR0 : CR G (Option.some FieldType.long)) (E : LAin (gly G)) (hnL : gnL G = 7) (hgd : 1 ≤ gd G) {q : Int64 × Mm} (hgr : gr G = some (.long q.1)) (hgs : gsf G = q.2) (k37 : Int32 → Int32 → Int32 → Int32 → Mm → Option (Int64 × Mm)) (hk37 : ∀ (v1 : Int32) (v2 : Int32) (v3 : Int32) (v4 : Int32) (st : Mm), k37 v1 v2 v3 v4 st = some q → AW G st 37 [(0, .ref (gad G 58)), (1, .int v1), (2, .int v2), (3, .int v3), (4, .int v4)] []) (v1 : Int32) (v2 : Int32) (v3 : Int32) (v4 : Int32) (st : Mm) (hf : b_m_leaves_37 k37 v1 v2 v3 v4 st = some q) : AW G st 37 [(0, .ref (gad G 58)), (1, .int v1), (2, .int v2), (3, .int v3), (4, .int v4)] [] := by
  unfold b_m_leaves_37 at hf
  refine aw_iload C 4 4 rfl (by decide +kernel) rfl ?_
  refine aw_iload_n C 1 1 (j := 1) rfl rfl (by decide +kernel) rfl ?_
  refine aw_iload_n C 1 1 (j := 1) rfl rfl (by decide +kernel) rfl ?_
  refine aw_imul C (by decide +kernel) rfl ?_
  refine aw_icmp_ge C (tgt := 59) (off := 17) (by decide +kernel) (by decide) rfl (fun c1 => ?_) (fun c1 => ?_)
  · have hf := ift c1 hf
    refine aw_sub [(0, .ref (gad G 58)), (1, .int v1), (2, .int v2), (3, .int v3)] [0, 1, 2, 3] rfl ?_
    exact t_m_leaves_59 C CR0 E hnL hgd hgr hgs v1 v2 v3 _ hf
  · have hf := iff_ c1 hf
    refine aw_aload_n C 0 0 (j := 0) rfl rfl (by decide +kernel) rfl ?_
    refine aw_getr C (k := 53) fc_12 (la_58 E) rfl (by decide) tb_995 (by decide +kernel) rfl ?_
    refine aw_iload C 4 4 rfl (by decide +kernel) rfl ?_
    refine aw_iconst C (i0 := 0) (v := 0) (by decide) (by decide +kernel) rfl ?_
    obtain ⟨g2, hf⟩ := igd hf
    refine aw_zastB C (la_84 E) g2 (by decide) (by decide +kernel) rfl ?_
    obtain ⟨a3, ha3⟩ : ∃ z, z = (v4 + (1 : Int32)) := ⟨_, rfl⟩
    have hf := ilt ha3 hf
    refine aw_iinc C [(4, .int a3), (0, .ref (gad G 58)), (1, .int v1), (2, .int v2), (3, .int v3)] 4 (n := 1) rfl (by rw [ha3]; rfl) (by rw [hnL]; decide) rfl (by decide +kernel) rfl ?_
    refine aw_goto C (tgt := 37) (off := -19) (by decide +kernel) (by decide) ?_
    refine aw_sub [(0, .ref (gad G 58)), (1, .int v1), (2, .int v2), (3, .int v3), (4, .int a3)] [1, 2, 3, 4, 0] rfl ?_
    exact hk37 v1 v2 v3 a3 _ hf
theorem u_m_leaves_37 {G : Cx} (C : CX G prog_14_method_95_code "PaperStarsModel") (CR0 : CR G (Option.some FieldType.long)) (E : LAin (gly G)) (hnL : gnL G = 7) (hgd : 1 ≤ gd G) {q : Int64 × Mm} (hgr : gr G = some (.long q.1)) (hgs : gsf G = q.2) : ∀ (n : Nat) (v1 : Int32) (v2 : Int32) (v3 : Int32) (v4 : Int32) (st : Mm), f_m_leaves_37 n v1 v2 v3 v4 st = some q → AW G st 37 [(0, .ref (gad G 58)), (1, .int v1), (2, .int v2), (3, .int v3), (4, .int v4)] [] := by
  intro n
  induction n with
  | zero => intro v1 v2 v3 v4 st hf; cases hf
  | succ n ih => intro v1 v2 v3 v4 st hf; exact t_m_leaves_37 C CR0 E hnL hgd hgr hgs (f_m_leaves_37 n) ih v1 v2 v3 v4 st hf
theorem t_m_leaves_34 {G : Cx} (C : CX G prog_14_method_95_code "PaperStarsModel") (CR0 : CR G (Option.some FieldType.long)) (E : LAin (gly G)) (hnL : gnL G = 7) (hgd : 1 ≤ gd G) {q : Int64 × Mm} (hgr : gr G = some (.long q.1)) (hgs : gsf G = q.2) (v1 : Int32) (v2 : Int32) (v3 : Int32) (st : Mm) (hf : b_m_leaves_34 v1 v2 v3 st = some q) : AW G st 34 [(0, .ref (gad G 58)), (1, .int v1), (2, .int v2), (3, .int v3)] [] := by
  unfold b_m_leaves_34 at hf
  refine aw_iconst C (i0 := 0) (v := 0) (by decide) (by decide +kernel) rfl ?_
  refine aw_istore C [(4, .int (0 : Int32)), (0, .ref (gad G 58)), (1, .int v1), (2, .int v2), (3, .int v3)] (by rw [hnL]; decide) rfl (by decide +kernel) rfl ?_
  refine aw_sub [(0, .ref (gad G 58)), (1, .int v1), (2, .int v2), (3, .int v3), (4, .int (0 : Int32))] [1, 2, 3, 4, 0] rfl ?_
  exact u_m_leaves_37 C CR0 E hnL hgd hgr hgs _ v1 v2 v3 (0 : Int32) _ hf
theorem t_m_leaves_3 {G : Cx} (C : CX G prog_14_method_95_code "PaperStarsModel") (CR0 : CR G (Option.some FieldType.long)) (E : LAin (gly G)) (hnL : gnL G = 7) (hgd : 1 ≤ gd G) {q : Int64 × Mm} (hgr : gr G = some (.long q.1)) (hgs : gsf G = q.2) (k3 : Int32 → Int32 → Int32 → Int32 → Mm → Option (Int64 × Mm)) (hk3 : ∀ (v1 : Int32) (v2 : Int32) (v3 : Int32) (v4 : Int32) (st : Mm), k3 v1 v2 v3 v4 st = some q → AW G st 3 [(0, .ref (gad G 58)), (1, .int v1), (2, .int v2), (3, .int v3), (4, .int v4)] []) (v1 : Int32) (v2 : Int32) (v3 : Int32) (v4 : Int32) (st : Mm) (hf : b_m_leaves_3 k3 v1 v2 v3 v4 st = some q) : AW G st 3 [(0, .ref (gad G 58)), (1, .int v1), (2, .int v2), (3, .int v3), (4, .int v4)] [] := by
  unfold b_m_leaves_3 at hf
  refine aw_iload C 4 4 rfl (by decide +kernel) rfl ?_
  refine aw_iload_n C 1 1 (j := 1) rfl rfl (by decide +kernel) rfl ?_
  refine aw_iload_n C 1 1 (j := 1) rfl rfl (by decide +kernel) rfl ?_
  refine aw_imul C (by decide +kernel) rfl ?_
  refine aw_icmp_gt C (tgt := 34) (off := 26) (by decide +kernel) (by decide) rfl (fun c1 => ?_) (fun c1 => ?_)
  · have hf := ift c1 hf
    refine aw_sub [(0, .ref (gad G 58)), (1, .int v1), (2, .int v2), (3, .int v3)] [0, 1, 2, 3] rfl ?_
    exact t_m_leaves_34 C CR0 E hnL hgd hgr hgs v1 v2 v3 _ hf
  · have hf := iff_ c1 hf
    refine aw_aload_n C 0 0 (j := 0) rfl rfl (by decide +kernel) rfl ?_
    refine aw_getr C (k := 52) fc_12 (la_58 E) rfl (by decide) tb_994 (by decide +kernel) rfl ?_
    refine aw_iload C 4 4 rfl (by decide +kernel) rfl ?_
    refine aw_iload C 4 4 rfl (by decide +kernel) rfl ?_
    refine aw_if_ne C (tgt := 26) (off := 7) (by decide +kernel) (by decide) rfl (fun c2 => ?_) (fun c2 => ?_)
    · have hf := ift c2 hf
      refine aw_lconst C (i0 := 1) (v := 1) (by decide) (by decide +kernel) rfl ?_
      refine aw_goto C (tgt := 27) (off := 4) (by decide +kernel) (by decide) ?_
      obtain ⟨g3, hf⟩ := igd hf
      refine aw_last C (la_83 E) g3 (by decide +kernel) rfl ?_
      obtain ⟨a4, ha4⟩ : ∃ z, z = (v4 + (1 : Int32)) := ⟨_, rfl⟩
      have hf := ilt ha4 hf
      refine aw_iinc C [(4, .int a4), (0, .ref (gad G 58)), (1, .int v1), (2, .int v2), (3, .int v3)] 4 (n := 1) rfl (by rw [ha4]; rfl) (by rw [hnL]; decide) rfl (by decide +kernel) rfl ?_
      refine aw_goto C (tgt := 3) (off := -28) (by decide +kernel) (by decide) ?_
      refine aw_sub [(0, .ref (gad G 58)), (1, .int v1), (2, .int v2), (3, .int v3), (4, .int a4)] [1, 2, 3, 4, 0] rfl ?_
      exact hk3 v1 v2 v3 a4 _ hf
    · have hf := iff_ c2 hf
      refine aw_lconst C (i0 := 0) (v := 0) (by decide) (by decide +kernel) rfl ?_
      obtain ⟨g5, hf⟩ := igd hf
      refine aw_last C (la_83 E) g5 (by decide +kernel) rfl ?_
      obtain ⟨a6, ha6⟩ : ∃ z, z = (v4 + (1 : Int32)) := ⟨_, rfl⟩
      have hf := ilt ha6 hf
      refine aw_iinc C [(4, .int a6), (0, .ref (gad G 58)), (1, .int v1), (2, .int v2), (3, .int v3)] 4 (n := 1) rfl (by rw [ha6]; rfl) (by rw [hnL]; decide) rfl (by decide +kernel) rfl ?_
      refine aw_goto C (tgt := 3) (off := -28) (by decide +kernel) (by decide) ?_
      refine aw_sub [(0, .ref (gad G 58)), (1, .int v1), (2, .int v2), (3, .int v3), (4, .int a6)] [1, 2, 3, 4, 0] rfl ?_
      exact hk3 v1 v2 v3 a6 _ hf
theorem u_m_leaves_3 {G : Cx} (C : CX G prog_14_method_95_code "PaperStarsModel") (CR0 : CR G (Option.some FieldType.long)) (E : LAin (gly G)) (hnL : gnL G = 7) (hgd : 1 ≤ gd G) {q : Int64 × Mm} (hgr : gr G = some (.long q.1)) (hgs : gsf G = q.2) : ∀ (n : Nat) (v1 : Int32) (v2 : Int32) (v3 : Int32) (v4 : Int32) (st : Mm), f_m_leaves_3 n v1 v2 v3 v4 st = some q → AW G st 3 [(0, .ref (gad G 58)), (1, .int v1), (2, .int v2), (3, .int v3), (4, .int v4)] [] := by
  intro n
  induction n with
  | zero => intro v1 v2 v3 v4 st hf; cases hf
  | succ n ih => intro v1 v2 v3 v4 st hf; exact t_m_leaves_3 C CR0 E hnL hgd hgr hgs (f_m_leaves_3 n) ih v1 v2 v3 v4 st hf
theorem t_m_leaves {G : Cx} (C : CX G prog_14_method_95_code "PaperStarsModel") (CR0 : CR G (Option.some FieldType.long)) (E : LAin (gly G)) (hnL : gnL G = 7) (hgd : 1 ≤ gd G) {q : Int64 × Mm} (hgr : gr G = some (.long q.1)) (hgs : gsf G = q.2) (v1 : Int32) (v2 : Int32) (v3 : Int32) (st : Mm) (hf : f_m_leaves v1 v2 v3 st = some q) : AW G st 0 [(0, .ref (gad G 58)), (1, .int v1), (2, .int v2), (3, .int v3)] [] := by
  unfold f_m_leaves at hf
  refine aw_iconst C (i0 := 0) (v := 0) (by decide) (by decide +kernel) rfl ?_
  refine aw_istore C [(4, .int (0 : Int32)), (0, .ref (gad G 58)), (1, .int v1), (2, .int v2), (3, .int v3)] (by rw [hnL]; decide) rfl (by decide +kernel) rfl ?_
  refine aw_sub [(0, .ref (gad G 58)), (1, .int v1), (2, .int v2), (3, .int v3), (4, .int (0 : Int32))] [1, 2, 3, 4, 0] rfl ?_
  exact u_m_leaves_3 C CR0 E hnL hgd hgr hgs _ v1 v2 v3 (0 : Int32) _ hf
theorem c_m_leaves {lay : Ly} (E : LAin lay) (v1 : Int32) (v2 : Int32) (v3 : Int32) (st : Mm) (q : Int64 × Mm) (hf : f_m_leaves v1 v2 v3 st = some q) : Con 1 Y232 prog_14_method_95_code 7 (Option.some FieldType.long) lay (fun ad => [.ref (ad 58), .int v1, .int v2, .int v3]) st (some (.long q.1)) q.2 :=
  am_met yf_232.2.2.2.2.2 (fun ad => Nat.le_of_ble_eq_true rfl) (fun G C CR0 e1 e2 e3 e4 e5 => t_m_leaves C CR0 (by rw [e1]; exact E) e2 (Nat.le_of_eq e5.symm) e3 e4 v1 v2 v3 st hf)
def b_m_alike_30 (k30 : Int32 → Int32 → Int64 → Int32 → Mm → Option (Int64 × Mm)) (v1 : Int32) (v2 : Int32) (v3 : Int64) (v5 : Int32) (st : Mm) : Option (Int64 × Mm) :=
  if (8 : Int32) ≤ v5 then (some ((v3 / (8 : Int64)), st)) else ((f_m_leaves v1 v2 v5 st).bind (fun q2 => lt_ (v3 + q2.1) (fun a3 => lt_ (v5 + (1 : Int32)) (fun a4 => k30 v1 v2 a3 a4 q2.2))))
def f_m_alike_30 : Nat → Int32 → Int32 → Int64 → Int32 → Mm → Option (Int64 × Mm)
  | 0 => fun _ _ _ _ _ => none
  | n + 1 => b_m_alike_30 (f_m_alike_30 n)
def f_m_alike (v1 : Int32) (v2 : Int32) (st : Mm) : Option (Int64 × Mm) :=
  (f_m_in v1 (1 : Int32) (7 : Int32) st).bind (fun q1 => if q1.1 = 0 then (some ((-1 : Int64), q1.2)) else ((f_m_in v2 (0 : Int32) (v1 * v1) q1.2).bind (fun q3 => if q3.1 = 0 then (some ((-1 : Int64), q3.2)) else (f_m_alike_30 1000000 v1 v2 (0 : Int64) (0 : Int32) q3.2))))
theorem t_m_alike_30 {G : Cx} (C : CX G prog_14_method_96_code "PaperStarsModel") (CR0 : CR G (Option.some FieldType.long)) (E : LAin (gly G)) (hnL : gnL G = 6) (hgd : 2 ≤ gd G) {q : Int64 × Mm} (hgr : gr G = some (.long q.1)) (hgs : gsf G = q.2) (k30 : Int32 → Int32 → Int64 → Int32 → Mm → Option (Int64 × Mm)) (hk30 : ∀ (v1 : Int32) (v2 : Int32) (v3 : Int64) (v5 : Int32) (st : Mm), k30 v1 v2 v3 v5 st = some q → AW G st 30 [(0, .ref (gad G 58)), (1, .int v1), (2, .int v2), (3, .long v3), (5, .int v5)] []) (v1 : Int32) (v2 : Int32) (v3 : Int64) (v5 : Int32) (st : Mm) (hf : b_m_alike_30 k30 v1 v2 v3 v5 st = some q) : AW G st 30 [(0, .ref (gad G 58)), (1, .int v1), (2, .int v2), (3, .long v3), (5, .int v5)] [] := by
  unfold b_m_alike_30 at hf
  refine aw_iload C 5 4 rfl (by decide +kernel) rfl ?_
  refine aw_bipush C (i0 := 8) (v := 8) (by decide) (by decide +kernel) rfl ?_
  refine aw_icmp_ge C (tgt := 54) (off := 20) (by decide +kernel) (by decide) rfl (fun c1 => ?_) (fun c1 => ?_)
  · have hf := ift c1 hf
    refine aw_lload_n C 3 3 (j := 3) rfl rfl (by decide +kernel) rfl ?_
    refine aw_ldc2 C tb_1506 (by decide +kernel) rfl ?_
    refine aw_ldiv C (by decide) (by decide +kernel) rfl ?_
    exact aw_lretq C CR0 hgr hgs hf (by decide +kernel)
  · have hf := iff_ c1 hf
    refine aw_lload_n C 3 3 (j := 3) rfl rfl (by decide +kernel) rfl ?_
    refine aw_aload_n C 0 0 (j := 0) rfl rfl (by decide +kernel) rfl ?_
    refine aw_iload_n C 1 1 (j := 1) rfl rfl (by decide +kernel) rfl ?_
    refine aw_iload_n C 2 2 (j := 2) rfl rfl (by decide +kernel) rfl ?_
    refine aw_iload C 5 4 rfl (by decide +kernel) rfl ?_
    obtain ⟨q2, hq2, hf⟩ := ibd hf
    refine aw_callV C (rest := [.long v3]) (c_m_leaves E v1 v2 v5 _ q2 hq2) tb_1499 yf_232 yi_232 (la_58 E) [.int v1, .int v2, .int v5] rfl rfl _ rfl (Nat.le_trans (by decide) hgd) (Nat.le_of_ble_eq_true rfl) (by decide +kernel) rfl ?_
    show AW _ _ _ _ [.long q2.1, .long v3]
    refine aw_ladd C (by decide +kernel) rfl ?_
    obtain ⟨a3, ha3⟩ : ∃ z, z = (v3 + q2.1) := ⟨_, rfl⟩
    refine aw_nml ha3 ?_
    have hf := ilt ha3 hf
    refine aw_lstore_n C [(3, .long a3), (0, .ref (gad G 58)), (1, .int v1), (2, .int v2), (5, .int v5)] (j := 3) rfl (by rw [hnL]; decide) rfl (by decide +kernel) rfl ?_
    obtain ⟨a4, ha4⟩ : ∃ z, z = (v5 + (1 : Int32)) := ⟨_, rfl⟩
    have hf := ilt ha4 hf
    refine aw_iinc C [(5, .int a4), (3, .long a3), (0, .ref (gad G 58)), (1, .int v1), (2, .int v2)] 4 (n := 1) rfl (by rw [ha4]; rfl) (by rw [hnL]; decide) rfl (by decide +kernel) rfl ?_
    refine aw_goto C (tgt := 30) (off := -21) (by decide +kernel) (by decide) ?_
    refine aw_sub [(0, .ref (gad G 58)), (1, .int v1), (2, .int v2), (3, .long a3), (5, .int a4)] [2, 3, 4, 1, 0] rfl ?_
    exact hk30 v1 v2 a3 a4 _ hf
theorem u_m_alike_30 {G : Cx} (C : CX G prog_14_method_96_code "PaperStarsModel") (CR0 : CR G (Option.some FieldType.long)) (E : LAin (gly G)) (hnL : gnL G = 6) (hgd : 2 ≤ gd G) {q : Int64 × Mm} (hgr : gr G = some (.long q.1)) (hgs : gsf G = q.2) : ∀ (n : Nat) (v1 : Int32) (v2 : Int32) (v3 : Int64) (v5 : Int32) (st : Mm), f_m_alike_30 n v1 v2 v3 v5 st = some q → AW G st 30 [(0, .ref (gad G 58)), (1, .int v1), (2, .int v2), (3, .long v3), (5, .int v5)] [] := by
  intro n
  induction n with
  | zero => intro v1 v2 v3 v5 st hf; cases hf
  | succ n ih => intro v1 v2 v3 v5 st hf; exact t_m_alike_30 C CR0 E hnL hgd hgr hgs (f_m_alike_30 n) ih v1 v2 v3 v5 st hf
theorem t_m_alike {G : Cx} (C : CX G prog_14_method_96_code "PaperStarsModel") (CR0 : CR G (Option.some FieldType.long)) (E : LAin (gly G)) (hnL : gnL G = 6) (hgd : 2 ≤ gd G) {q : Int64 × Mm} (hgr : gr G = some (.long q.1)) (hgs : gsf G = q.2) (v1 : Int32) (v2 : Int32) (st : Mm) (hf : f_m_alike v1 v2 st = some q) : AW G st 0 [(0, .ref (gad G 58)), (1, .int v1), (2, .int v2)] [] := by
  unfold f_m_alike at hf
  refine aw_iload_n C 1 1 (j := 1) rfl rfl (by decide +kernel) rfl ?_
  refine aw_iconst C (i0 := 1) (v := 1) (by decide) (by decide +kernel) rfl ?_
  refine aw_bipush C (i0 := 7) (v := 7) (by decide) (by decide +kernel) rfl ?_
  obtain ⟨q1, hq1, hf⟩ := ibd hf
  refine aw_callS C (rest := []) (c_m_in E v1 (1 : Int32) (7 : Int32) _ q1 hq1) tb_1144 yf_142 tb_1145 rfl _ rfl (Nat.le_trans (by decide) hgd) (Nat.le_of_ble_eq_true rfl) (by decide +kernel) rfl ?_
  show AW _ _ _ _ [.int q1.1]
  refine aw_if_eq C (tgt := 21) (off := 14) (by decide +kernel) (by decide) rfl (fun c2 => ?_) (fun c2 => ?_)
  · have hf := ift c2 hf
    refine aw_ldc2 C tb_1475 (by decide +kernel) rfl ?_
    exact aw_lretq C CR0 hgr hgs hf (by decide +kernel)
  · have hf := iff_ c2 hf
    refine aw_iload_n C 2 2 (j := 2) rfl rfl (by decide +kernel) rfl ?_
    refine aw_iconst C (i0 := 0) (v := 0) (by decide) (by decide +kernel) rfl ?_
    refine aw_iload_n C 1 1 (j := 1) rfl rfl (by decide +kernel) rfl ?_
    refine aw_iload_n C 1 1 (j := 1) rfl rfl (by decide +kernel) rfl ?_
    refine aw_imul C (by decide +kernel) rfl ?_
    obtain ⟨q3, hq3, hf⟩ := ibd hf
    refine aw_callS C (rest := []) (c_m_in E v2 (0 : Int32) (v1 * v1) _ q3 hq3) tb_1144 yf_142 tb_1145 rfl _ rfl (Nat.le_trans (by decide) hgd) (Nat.le_of_ble_eq_true rfl) (by decide +kernel) rfl ?_
    show AW _ _ _ _ [.int q3.1]
    refine aw_if_ne C (tgt := 25) (off := 7) (by decide +kernel) (by decide) rfl (fun c4 => ?_) (fun c4 => ?_)
    · have hf := ift c4 hf
      refine aw_ldc2 C tb_1475 (by decide +kernel) rfl ?_
      exact aw_lretq C CR0 hgr hgs hf (by decide +kernel)
    · have hf := iff_ c4 hf
      refine aw_lconst C (i0 := 0) (v := 0) (by decide) (by decide +kernel) rfl ?_
      refine aw_lstore_n C [(3, .long (0 : Int64)), (0, .ref (gad G 58)), (1, .int v1), (2, .int v2)] (j := 3) rfl (by rw [hnL]; decide) rfl (by decide +kernel) rfl ?_
      refine aw_iconst C (i0 := 0) (v := 0) (by decide) (by decide +kernel) rfl ?_
      refine aw_istore C [(5, .int (0 : Int32)), (3, .long (0 : Int64)), (0, .ref (gad G 58)), (1, .int v1), (2, .int v2)] (by rw [hnL]; decide) rfl (by decide +kernel) rfl ?_
      refine aw_sub [(0, .ref (gad G 58)), (1, .int v1), (2, .int v2), (3, .long (0 : Int64)), (5, .int (0 : Int32))] [2, 3, 4, 1, 0] rfl ?_
      exact u_m_alike_30 C CR0 E hnL hgd hgr hgs _ v1 v2 (0 : Int64) (0 : Int32) _ hf
theorem c_m_alike {lay : Ly} (E : LAin lay) (v1 : Int32) (v2 : Int32) (st : Mm) (q : Int64 × Mm) (hf : f_m_alike v1 v2 st = some q) : Con 2 Y231 prog_14_method_96_code 6 (Option.some FieldType.long) lay (fun ad => [.ref (ad 58), .int v1, .int v2]) st (some (.long q.1)) q.2 :=
  am_met yf_231.2.2.2.2.2 (fun ad => Nat.le_of_ble_eq_true rfl) (fun G C CR0 e1 e2 e3 e4 e5 => t_m_alike C CR0 (by rw [e1]; exact E) e2 (Nat.le_of_eq e5.symm) e3 e4 v1 v2 st hf)
def b_m_lengthOf_4 (k4 : Int32 → Int32 → Int32 → Mm → Option (Int32 × Mm)) (v1 : Int32) (v2 : Int32) (v3 : Int32) (st : Mm) : Option (Int32 × Mm) :=
  if (10 : Int32) ≤ v3 then (some (v2, st)) else ((f_m_has v1 v3 st).bind (fun q2 => if q2.1 = 0 then (lt_ (v2 + (0 : Int32)) (fun a4 => lt_ (v3 + (1 : Int32)) (fun a5 => k4 v1 a4 a5 q2.2))) else (if inb v3 10 then lt_ (v2 + (q2.2.1 85 v3.toNatClampNeg)) (fun a7 => lt_ (v3 + (1 : Int32)) (fun a8 => k4 v1 a7 a8 q2.2)) else none)))
def f_m_lengthOf_4 : Nat → Int32 → Int32 → Int32 → Mm → Option (Int32 × Mm)
  | 0 => fun _ _ _ _ => none
  | n + 1 => b_m_lengthOf_4 (f_m_lengthOf_4 n)
def f_m_lengthOf (v1 : Int32) (st : Mm) : Option (Int32 × Mm) :=
  f_m_lengthOf_4 1000000 v1 (0 : Int32) (0 : Int32) st
theorem t_m_lengthOf_4 {G : Cx} (C : CX G prog_14_method_97_code "PaperStarsModel") (CR0 : CR G (Option.some FieldType.int)) (E : LAin (gly G)) (hnL : gnL G = 4) (hgd : 1 ≤ gd G) {q : Int32 × Mm} (hgr : gr G = some (.int q.1)) (hgs : gsf G = q.2) (k4 : Int32 → Int32 → Int32 → Mm → Option (Int32 × Mm)) (hk4 : ∀ (v1 : Int32) (v2 : Int32) (v3 : Int32) (st : Mm), k4 v1 v2 v3 st = some q → AW G st 4 [(0, .ref (gad G 58)), (1, .int v1), (2, .int v2), (3, .int v3)] []) (v1 : Int32) (v2 : Int32) (v3 : Int32) (st : Mm) (hf : b_m_lengthOf_4 k4 v1 v2 v3 st = some q) : AW G st 4 [(0, .ref (gad G 58)), (1, .int v1), (2, .int v2), (3, .int v3)] [] := by
  unfold b_m_lengthOf_4 at hf
  refine aw_iload_n C 3 3 (j := 3) rfl rfl (by decide +kernel) rfl ?_
  refine aw_bipush C (i0 := 10) (v := 10) (by decide) (by decide +kernel) rfl ?_
  refine aw_icmp_ge C (tgt := 37) (off := 30) (by decide +kernel) (by decide) rfl (fun c1 => ?_) (fun c1 => ?_)
  · have hf := ift c1 hf
    refine aw_iload_n C 2 2 (j := 2) rfl rfl (by decide +kernel) rfl ?_
    exact aw_iretq C CR0 hgr hgs hf (by decide +kernel)
  · have hf := iff_ c1 hf
    refine aw_iload_n C 2 2 (j := 2) rfl rfl (by decide +kernel) rfl ?_
    refine aw_iload_n C 1 1 (j := 1) rfl rfl (by decide +kernel) rfl ?_
    refine aw_iload_n C 3 3 (j := 3) rfl rfl (by decide +kernel) rfl ?_
    obtain ⟨q2, hq2, hf⟩ := ibd hf
    refine aw_callS C (rest := [.int v2]) (c_m_has E v1 v3 _ q2 hq2) tb_1195 yf_155 tb_1196 rfl _ rfl (Nat.le_trans (by decide) hgd) (Nat.le_of_ble_eq_true rfl) (by decide +kernel) rfl ?_
    show AW _ _ _ _ [.int q2.1, .int v2]
    refine aw_if_eq C (tgt := 28) (off := 12) (by decide +kernel) (by decide) rfl (fun c3 => ?_) (fun c3 => ?_)
    · have hf := ift c3 hf
      refine aw_iconst C (i0 := 0) (v := 0) (by decide) (by decide +kernel) rfl ?_
      refine aw_iadd C (by decide +kernel) rfl ?_
      obtain ⟨a4, ha4⟩ : ∃ z, z = (v2 + (0 : Int32)) := ⟨_, rfl⟩
      refine aw_nmi ha4 ?_
      have hf := ilt ha4 hf
      refine aw_istore_n C [(2, .int a4), (0, .ref (gad G 58)), (1, .int v1), (3, .int v3)] (j := 2) rfl (by rw [hnL]; decide) rfl (by decide +kernel) rfl ?_
      obtain ⟨a5, ha5⟩ : ∃ z, z = (v3 + (1 : Int32)) := ⟨_, rfl⟩
      have hf := ilt ha5 hf
      refine aw_iinc C [(3, .int a5), (2, .int a4), (0, .ref (gad G 58)), (1, .int v1)] 3 (n := 1) rfl (by rw [ha5]; rfl) (by rw [hnL]; decide) rfl (by decide +kernel) rfl ?_
      refine aw_goto C (tgt := 4) (off := -30) (by decide +kernel) (by decide) ?_
      refine aw_sub [(0, .ref (gad G 58)), (1, .int v1), (2, .int a4), (3, .int a5)] [2, 3, 1, 0] rfl ?_
      exact hk4 v1 a4 a5 _ hf
    · have hf := iff_ c3 hf
      refine aw_aload_n C 0 0 (j := 0) rfl rfl (by decide +kernel) rfl ?_
      refine aw_getr C (k := 54) fc_12 (la_58 E) rfl (by decide) tb_996 (by decide +kernel) rfl ?_
      refine aw_iload_n C 3 3 (j := 3) rfl rfl (by decide +kernel) rfl ?_
      obtain ⟨g6, hf⟩ := igd hf
      refine aw_iald C (la_85 E) g6 (by decide +kernel) rfl ?_
      refine aw_goto C (tgt := 29) (off := 4) (by decide +kernel) (by decide) ?_
      refine aw_iadd C (by decide +kernel) rfl ?_
      obtain ⟨a7, ha7⟩ : ∃ z, z = (v2 + (q2.2.1 85 v3.toNatClampNeg)) := ⟨_, rfl⟩
      refine aw_nmi ha7 ?_
      have hf := ilt ha7 hf
      refine aw_istore_n C [(2, .int a7), (0, .ref (gad G 58)), (1, .int v1), (3, .int v3)] (j := 2) rfl (by rw [hnL]; decide) rfl (by decide +kernel) rfl ?_
      obtain ⟨a8, ha8⟩ : ∃ z, z = (v3 + (1 : Int32)) := ⟨_, rfl⟩
      have hf := ilt ha8 hf
      refine aw_iinc C [(3, .int a8), (2, .int a7), (0, .ref (gad G 58)), (1, .int v1)] 3 (n := 1) rfl (by rw [ha8]; rfl) (by rw [hnL]; decide) rfl (by decide +kernel) rfl ?_
      refine aw_goto C (tgt := 4) (off := -30) (by decide +kernel) (by decide) ?_
      refine aw_sub [(0, .ref (gad G 58)), (1, .int v1), (2, .int a7), (3, .int a8)] [2, 3, 1, 0] rfl ?_
      exact hk4 v1 a7 a8 _ hf
theorem u_m_lengthOf_4 {G : Cx} (C : CX G prog_14_method_97_code "PaperStarsModel") (CR0 : CR G (Option.some FieldType.int)) (E : LAin (gly G)) (hnL : gnL G = 4) (hgd : 1 ≤ gd G) {q : Int32 × Mm} (hgr : gr G = some (.int q.1)) (hgs : gsf G = q.2) : ∀ (n : Nat) (v1 : Int32) (v2 : Int32) (v3 : Int32) (st : Mm), f_m_lengthOf_4 n v1 v2 v3 st = some q → AW G st 4 [(0, .ref (gad G 58)), (1, .int v1), (2, .int v2), (3, .int v3)] [] := by
  intro n
  induction n with
  | zero => intro v1 v2 v3 st hf; cases hf
  | succ n ih => intro v1 v2 v3 st hf; exact t_m_lengthOf_4 C CR0 E hnL hgd hgr hgs (f_m_lengthOf_4 n) ih v1 v2 v3 st hf
theorem t_m_lengthOf {G : Cx} (C : CX G prog_14_method_97_code "PaperStarsModel") (CR0 : CR G (Option.some FieldType.int)) (E : LAin (gly G)) (hnL : gnL G = 4) (hgd : 1 ≤ gd G) {q : Int32 × Mm} (hgr : gr G = some (.int q.1)) (hgs : gsf G = q.2) (v1 : Int32) (st : Mm) (hf : f_m_lengthOf v1 st = some q) : AW G st 0 [(0, .ref (gad G 58)), (1, .int v1)] [] := by
  unfold f_m_lengthOf at hf
  refine aw_iconst C (i0 := 0) (v := 0) (by decide) (by decide +kernel) rfl ?_
  refine aw_istore_n C [(2, .int (0 : Int32)), (0, .ref (gad G 58)), (1, .int v1)] (j := 2) rfl (by rw [hnL]; decide) rfl (by decide +kernel) rfl ?_
  refine aw_iconst C (i0 := 0) (v := 0) (by decide) (by decide +kernel) rfl ?_
  refine aw_istore_n C [(3, .int (0 : Int32)), (2, .int (0 : Int32)), (0, .ref (gad G 58)), (1, .int v1)] (j := 3) rfl (by rw [hnL]; decide) rfl (by decide +kernel) rfl ?_
  refine aw_sub [(0, .ref (gad G 58)), (1, .int v1), (2, .int (0 : Int32)), (3, .int (0 : Int32))] [2, 3, 1, 0] rfl ?_
  exact u_m_lengthOf_4 C CR0 E hnL hgd hgr hgs _ v1 (0 : Int32) (0 : Int32) _ hf
theorem c_m_lengthOf {lay : Ly} (E : LAin lay) (v1 : Int32) (st : Mm) (q : Int32 × Mm) (hf : f_m_lengthOf v1 st = some q) : Con 1 Y235 prog_14_method_97_code 4 (Option.some FieldType.int) lay (fun ad => [.ref (ad 58), .int v1]) st (some (.int q.1)) q.2 :=
  am_met yf_235.2.2.2.2.2 (fun ad => Nat.le_of_ble_eq_true rfl) (fun G C CR0 e1 e2 e3 e4 e5 => t_m_lengthOf C CR0 (by rw [e1]; exact E) e2 (Nat.le_of_eq e5.symm) e3 e4 v1 st hf)
def b_m_strips_227 (k139 : Int32 → Int32 → Int32 → Int32 → Mm → Option (Int32 × Mm)) (v1 : Int32) (v3 : Int32) (v4 : Int32) (v5 : Int32) (st : Mm) : Option (Int32 × Mm) :=
  lt_ (v5 + (1 : Int32)) (fun a1 => k139 v1 v3 v4 a1 st)
def b_m_strips_169 (k139 : Int32 → Int32 → Int32 → Int32 → Mm → Option (Int32 × Mm)) (k169 : Int32 → Int32 → Int32 → Int32 → Int32 → Mm → Option (Int32 × Mm)) (v1 : Int32) (v3 : Int32) (v4 : Int32) (v5 : Int32) (v6 : Int32) (st : Mm) : Option (Int32 × Mm) :=
  if v6 ≤ 0 then (b_m_strips_227 k139 v1 v3 v4 v5 st) else ((f_m_lengthOf v6 st).bind (fun q2 => if v1 < q2.1 then (lt_ ((v6 - (1 : Int32)) &&& v5) (fun a4 => k169 v1 v3 v4 v5 a4 q2.2)) else (if inb v5 1024 then if inb (v5 &&& (v6 ^^^ (-1 : Int32))) 1024 then (f_m_min (q2.2.1 86 v5.toNatClampNeg) ((q2.2.1 86 (v5 &&& (v6 ^^^ (-1 : Int32))).toNatClampNeg) + (1 : Int32)) q2.2).bind (fun q7 => if inb v5 1024 then lt_ ((v6 - (1 : Int32)) &&& v5) (fun a9 => k169 v1 v3 v4 v5 a9 (sI q7.2 86 v5.toNatClampNeg q7.1)) else none) else none else none)))
def f_m_strips_169 (k139 : Int32 → Int32 → Int32 → Int32 → Mm → Option (Int32 × Mm)) : Nat → Int32 → Int32 → Int32 → Int32 → Int32 → Mm → Option (Int32 × Mm)
  | 0 => fun _ _ _ _ _ _ => none
  | n + 1 => b_m_strips_169 k139 (f_m_strips_169 k139 n)
def b_m_strips_233 (v1 : Int32) (v3 : Int32) (v4 : Int32) (st : Mm) : Option (Int32 × Mm) :=
  if v3 = 0 then (if inb v4 1024 then some ((st.1 86 v4.toNatClampNeg), st) else none) else (if inb v4 1024 then (f_m_lengthOf v4 st).bind (fun q4 => some ((((st.1 86 v4.toNatClampNeg) * v1) - q4.1), q4.2)) else none)
def b_m_strips_139 (k139 : Int32 → Int32 → Int32 → Int32 → Mm → Option (Int32 × Mm)) (v1 : Int32) (v3 : Int32) (v4 : Int32) (v5 : Int32) (st : Mm) : Option (Int32 × Mm) :=
  if v4 < v5 then (b_m_strips_233 v1 v3 v4 st) else (if v5 = 0 then (if inb v5 1024 then f_m_strips_169 k139 1000000 v1 v3 v4 v5 v5 (sI st 86 v5.toNatClampNeg (0 : Int32)) else none) else (if inb v5 1024 then f_m_strips_169 k139 1000000 v1 v3 v4 v5 v5 (sI st 86 v5.toNatClampNeg (1000000000 : Int32)) else none))
def f_m_strips_139 : Nat → Int32 → Int32 → Int32 → Int32 → Mm → Option (Int32 × Mm)
  | 0 => fun _ _ _ _ _ => none
  | n + 1 => b_m_strips_139 (f_m_strips_139 n)
def b_m_strips_129 (v1 : Int32) (v2 : Int32) (v3 : Int32) (st : Mm) : Option (Int32 × Mm) :=
  lt_ (((1 : Int32) <<< (v2 &&& 31)) - (1 : Int32)) (fun a1 => f_m_strips_139 1000000 v1 v3 a1 (0 : Int32) st)
def b_m_strips_92 (k92 : Int32 → Int32 → Int32 → Int32 → Mm → Option (Int32 × Mm)) (v1 : Int32) (v2 : Int32) (v3 : Int32) (v4 : Int32) (st : Mm) : Option (Int32 × Mm) :=
  if v2 ≤ v4 then (b_m_strips_129 v1 v2 v3 st) else (if inb v4 10 then if (st.1 85 v4.toNatClampNeg) < (1 : Int32) then (some ((-2 : Int32), st)) else (if inb v4 10 then if (st.1 85 v4.toNatClampNeg) ≤ v1 then (lt_ (v4 + (1 : Int32)) (fun a6 => k92 v1 v2 v3 a6 st)) else (some ((-2 : Int32), st)) else none) else none)
def f_m_strips_92 : Nat → Int32 → Int32 → Int32 → Int32 → Mm → Option (Int32 × Mm)
  | 0 => fun _ _ _ _ _ => none
  | n + 1 => b_m_strips_92 (f_m_strips_92 n)
def b_m_strips_89 (v1 : Int32) (v2 : Int32) (v3 : Int32) (st : Mm) : Option (Int32 × Mm) :=
  f_m_strips_92 1000000 v1 v2 v3 (0 : Int32) st
def b_m_strips_48 (k48 : Int32 → Int32 → Int32 → Int32 → Mm → Option (Int32 × Mm)) (v1 : Int32) (v2 : Int32) (v3 : Int32) (v4 : Int32) (st : Mm) : Option (Int32 × Mm) :=
  if (10 : Int32) ≤ v4 then (b_m_strips_89 v1 v2 v3 st) else (if v2 ≤ v4 then (if inb v4 10 then lt_ (v4 + (1 : Int32)) (fun a4 => k48 v1 v2 v3 a4 (sI st 85 v4.toNatClampNeg (0 : Int32))) else none) else (if inb v4 200 then lt_ ((st.1 65 v4.toNatClampNeg) &&& (255 : Int32)) (fun a6 => if inb v4 10 then lt_ (v4 + (1 : Int32)) (fun a8 => k48 v1 v2 v3 a8 (sI st 85 v4.toNatClampNeg a6)) else none) else none))
def f_m_strips_48 : Nat → Int32 → Int32 → Int32 → Int32 → Mm → Option (Int32 × Mm)
  | 0 => fun _ _ _ _ _ => none
  | n + 1 => b_m_strips_48 (f_m_strips_48 n)
def f_m_strips (v1 : Int32) (v2 : Int32) (v3 : Int32) (st : Mm) : Option (Int32 × Mm) :=
  (f_m_in v1 (1 : Int32) (255 : Int32) st).bind (fun q1 => if q1.1 = 0 then (some ((-1 : Int32), q1.2)) else ((f_m_in v2 (1 : Int32) (10 : Int32) q1.2).bind (fun q3 => if q3.1 = 0 then (some ((-1 : Int32), q3.2)) else ((f_m_in v3 (0 : Int32) (1 : Int32) q3.2).bind (fun q5 => if q5.1 = 0 then (some ((-1 : Int32), q5.2)) else (if v2 ≤ (q5.2.1 58 19) then (f_m_strips_48 1000000 v1 v2 v3 (0 : Int32) (sI q5.2 58 19 (0 : Int32))) else (some ((-1 : Int32), q5.2))))))))
theorem t_m_strips_227 {G : Cx} (C : CX G prog_14_method_98_code "PaperStarsModel") (CR0 : CR G (Option.some FieldType.int)) (E : LAin (gly G)) (hnL : gnL G = 7) (hgd : 2 ≤ gd G) {q : Int32 × Mm} (hgr : gr G = some (.int q.1)) (hgs : gsf G = q.2) (k139 : Int32 → Int32 → Int32 → Int32 → Mm → Option (Int32 × Mm)) (hk139 : ∀ (v1 : Int32) (v3 : Int32) (v4 : Int32) (v5 : Int32) (st : Mm), k139 v1 v3 v4 v5 st = some q → AW G st 139 [(0, .ref (gad G 58)), (1, .int v1), (3, .int v3), (4, .int v4), (5, .int v5)] []) (v1 : Int32) (v3 : Int32) (v4 : Int32) (v5 : Int32) (st : Mm) (hf : b_m_strips_227 k139 v1 v3 v4 v5 st = some q) : AW G st 227 [(0, .ref (gad G 58)), (1, .int v1), (3, .int v3), (4, .int v4), (5, .int v5)] [] := by
  unfold b_m_strips_227 at hf
  obtain ⟨a1, ha1⟩ : ∃ z, z = (v5 + (1 : Int32)) := ⟨_, rfl⟩
  have hf := ilt ha1 hf
  refine aw_iinc C [(5, .int a1), (0, .ref (gad G 58)), (1, .int v1), (3, .int v3), (4, .int v4)] 4 (n := 1) rfl (by rw [ha1]; rfl) (by rw [hnL]; decide) rfl (by decide +kernel) rfl ?_
  refine aw_goto C (tgt := 139) (off := -91) (by decide +kernel) (by decide) ?_
  refine aw_sub [(0, .ref (gad G 58)), (1, .int v1), (3, .int v3), (4, .int v4), (5, .int a1)] [1, 2, 3, 4, 0] rfl ?_
  exact hk139 v1 v3 v4 a1 _ hf
theorem t_m_strips_169 {G : Cx} (C : CX G prog_14_method_98_code "PaperStarsModel") (CR0 : CR G (Option.some FieldType.int)) (E : LAin (gly G)) (hnL : gnL G = 7) (hgd : 2 ≤ gd G) {q : Int32 × Mm} (hgr : gr G = some (.int q.1)) (hgs : gsf G = q.2) (k139 : Int32 → Int32 → Int32 → Int32 → Mm → Option (Int32 × Mm)) (k169 : Int32 → Int32 → Int32 → Int32 → Int32 → Mm → Option (Int32 × Mm)) (hk139 : ∀ (v1 : Int32) (v3 : Int32) (v4 : Int32) (v5 : Int32) (st : Mm), k139 v1 v3 v4 v5 st = some q → AW G st 139 [(0, .ref (gad G 58)), (1, .int v1), (3, .int v3), (4, .int v4), (5, .int v5)] []) (hk169 : ∀ (v1 : Int32) (v3 : Int32) (v4 : Int32) (v5 : Int32) (v6 : Int32) (st : Mm), k169 v1 v3 v4 v5 v6 st = some q → AW G st 169 [(0, .ref (gad G 58)), (1, .int v1), (3, .int v3), (4, .int v4), (5, .int v5), (6, .int v6)] []) (v1 : Int32) (v3 : Int32) (v4 : Int32) (v5 : Int32) (v6 : Int32) (st : Mm) (hf : b_m_strips_169 k139 k169 v1 v3 v4 v5 v6 st = some q) : AW G st 169 [(0, .ref (gad G 58)), (1, .int v1), (3, .int v3), (4, .int v4), (5, .int v5), (6, .int v6)] [] := by
  unfold b_m_strips_169 at hf
  refine aw_iload C 6 5 rfl (by decide +kernel) rfl ?_
  refine aw_if_le C (tgt := 227) (off := 56) (by decide +kernel) (by decide) rfl (fun c1 => ?_) (fun c1 => ?_)
  · have hf := ift c1 hf
    refine aw_sub [(0, .ref (gad G 58)), (1, .int v1), (3, .int v3), (4, .int v4), (5, .int v5)] [0, 1, 2, 3, 4] rfl ?_
    exact t_m_strips_227 C CR0 E hnL hgd hgr hgs k139 hk139 v1 v3 v4 v5 _ hf
  · have hf := iff_ c1 hf
    refine aw_aload_n C 0 0 (j := 0) rfl rfl (by decide +kernel) rfl ?_
    refine aw_iload C 6 5 rfl (by decide +kernel) rfl ?_
    obtain ⟨q2, hq2, hf⟩ := ibd hf
    refine aw_callV C (rest := []) (c_m_lengthOf E v6 _ q2 hq2) tb_1511 yf_235 yi_235 (la_58 E) [.int v6] rfl rfl _ rfl (Nat.le_trans (by decide) hgd) (Nat.le_of_ble_eq_true rfl) (by decide +kernel) rfl ?_
    show AW _ _ _ _ [.int q2.1]
    refine aw_iload_n C 1 1 (j := 1) rfl rfl (by decide +kernel) rfl ?_
    refine aw_icmp_gt C (tgt := 215) (off := 34) (by decide +kernel) (by decide) rfl (fun c3 => ?_) (fun c3 => ?_)
    · have hf := ift c3 hf
      refine aw_iload C 6 5 rfl (by decide +kernel) rfl ?_
      refine aw_iconst C (i0 := 1) (v := 1) (by decide) (by decide +kernel) rfl ?_
      refine aw_isub C (by decide +kernel) rfl ?_
      refine aw_iload C 5 4 rfl (by decide +kernel) rfl ?_
      refine aw_iand C (by decide +kernel) rfl ?_
      obtain ⟨a4, ha4⟩ : ∃ z, z = ((v6 - (1 : Int32)) &&& v5) := ⟨_, rfl⟩
      refine aw_nmi ha4 ?_
      have hf := ilt ha4 hf
      refine aw_istore C [(6, .int a4), (0, .ref (gad G 58)), (1, .int v1), (3, .int v3), (4, .int v4), (5, .int v5)] (by rw [hnL]; decide) rfl (by decide +kernel) rfl ?_
      refine aw_goto C (tgt := 169) (off := -55) (by decide +kernel) (by decide) ?_
      refine aw_sub [(0, .ref (gad G 58)), (1, .int v1), (3, .int v3), (4, .int v4), (5, .int v5), (6, .int a4)] [1, 2, 3, 4, 5, 0] rfl ?_
      exact hk169 v1 v3 v4 v5 a4 _ hf
    · have hf := iff_ c3 hf
      refine aw_aload_n C 0 0 (j := 0) rfl rfl (by decide +kernel) rfl ?_
      refine aw_getr C (k := 55) fc_12 (la_58 E) rfl (by decide) tb_997 (by decide +kernel) rfl ?_
      refine aw_iload C 5 4 rfl (by decide +kernel) rfl ?_
      refine aw_aload_n C 0 0 (j := 0) rfl rfl (by decide +kernel) rfl ?_
      refine aw_getr C (k := 55) fc_12 (la_58 E) rfl (by decide) tb_997 (by decide +kernel) rfl ?_
      refine aw_iload C 5 4 rfl (by decide +kernel) rfl ?_
      obtain ⟨g5, hf⟩ := igd hf
      refine aw_iald C (la_86 E) g5 (by decide +kernel) rfl ?_
      refine aw_aload_n C 0 0 (j := 0) rfl rfl (by decide +kernel) rfl ?_
      refine aw_getr C (k := 55) fc_12 (la_58 E) rfl (by decide) tb_997 (by decide +kernel) rfl ?_
      refine aw_iload C 5 4 rfl (by decide +kernel) rfl ?_
      refine aw_iload C 6 5 rfl (by decide +kernel) rfl ?_
      refine aw_iconst C (i0 := -1) (v := -1) (by decide) (by decide +kernel) rfl ?_
      refine aw_ixor C (by decide +kernel) rfl ?_
      refine aw_iand C (by decide +kernel) rfl ?_
      obtain ⟨g6, hf⟩ := igd hf
      refine aw_iald C (la_86 E) g6 (by decide +kernel) rfl ?_
      refine aw_iconst C (i0 := 1) (v := 1) (by decide) (by decide +kernel) rfl ?_
      refine aw_iadd C (by decide +kernel) rfl ?_
      obtain ⟨q7, hq7, hf⟩ := ibd hf
      refine aw_callS C (rest := [.int v5, .ref (gad G 86)]) (c_m_min E (q2.2.1 86 v5.toNatClampNeg) ((q2.2.1 86 (v5 &&& (v6 ^^^ (-1 : Int32))).toNatClampNeg) + (1 : Int32)) _ q7 hq7) tb_1412 yf_210 tb_1413 rfl _ rfl (Nat.le_trans (by decide) hgd) (Nat.le_of_ble_eq_true rfl) (by decide +kernel) rfl ?_
      show AW _ _ _ _ [.int q7.1, .int v5, .ref (gad G 86)]
      obtain ⟨g8, hf⟩ := igd hf
      refine aw_iast C (la_86 E) g8 (by decide +kernel) rfl ?_
      refine aw_iload C 6 5 rfl (by decide +kernel) rfl ?_
      refine aw_iconst C (i0 := 1) (v := 1) (by decide) (by decide +kernel) rfl ?_
      refine aw_isub C (by decide +kernel) rfl ?_
      refine aw_iload C 5 4 rfl (by decide +kernel) rfl ?_
      refine aw_iand C (by decide +kernel) rfl ?_
      obtain ⟨a9, ha9⟩ : ∃ z, z = ((v6 - (1 : Int32)) &&& v5) := ⟨_, rfl⟩
      refine aw_nmi ha9 ?_
      have hf := ilt ha9 hf
      refine aw_istore C [(6, .int a9), (0, .ref (gad G 58)), (1, .int v1), (3, .int v3), (4, .int v4), (5, .int v5)] (by rw [hnL]; decide) rfl (by decide +kernel) rfl ?_
      refine aw_goto C (tgt := 169) (off := -55) (by decide +kernel) (by decide) ?_
      refine aw_sub [(0, .ref (gad G 58)), (1, .int v1), (3, .int v3), (4, .int v4), (5, .int v5), (6, .int a9)] [1, 2, 3, 4, 5, 0] rfl ?_
      exact hk169 v1 v3 v4 v5 a9 _ hf
theorem u_m_strips_169 {G : Cx} (C : CX G prog_14_method_98_code "PaperStarsModel") (CR0 : CR G (Option.some FieldType.int)) (E : LAin (gly G)) (hnL : gnL G = 7) (hgd : 2 ≤ gd G) {q : Int32 × Mm} (hgr : gr G = some (.int q.1)) (hgs : gsf G = q.2) (k139 : Int32 → Int32 → Int32 → Int32 → Mm → Option (Int32 × Mm)) (hk139 : ∀ (v1 : Int32) (v3 : Int32) (v4 : Int32) (v5 : Int32) (st : Mm), k139 v1 v3 v4 v5 st = some q → AW G st 139 [(0, .ref (gad G 58)), (1, .int v1), (3, .int v3), (4, .int v4), (5, .int v5)] []) : ∀ (n : Nat) (v1 : Int32) (v3 : Int32) (v4 : Int32) (v5 : Int32) (v6 : Int32) (st : Mm), f_m_strips_169 k139 n v1 v3 v4 v5 v6 st = some q → AW G st 169 [(0, .ref (gad G 58)), (1, .int v1), (3, .int v3), (4, .int v4), (5, .int v5), (6, .int v6)] [] := by
  intro n
  induction n with
  | zero => intro v1 v3 v4 v5 v6 st hf; cases hf
  | succ n ih => intro v1 v3 v4 v5 v6 st hf; exact t_m_strips_169 C CR0 E hnL hgd hgr hgs k139 (f_m_strips_169 k139 n) hk139 ih v1 v3 v4 v5 v6 st hf
theorem t_m_strips_233 {G : Cx} (C : CX G prog_14_method_98_code "PaperStarsModel") (CR0 : CR G (Option.some FieldType.int)) (E : LAin (gly G)) (hnL : gnL G = 7) (hgd : 2 ≤ gd G) {q : Int32 × Mm} (hgr : gr G = some (.int q.1)) (hgs : gsf G = q.2) (v1 : Int32) (v3 : Int32) (v4 : Int32) (st : Mm) (hf : b_m_strips_233 v1 v3 v4 st = some q) : AW G st 233 [(0, .ref (gad G 58)), (1, .int v1), (3, .int v3), (4, .int v4)] [] := by
  unfold b_m_strips_233 at hf
  refine aw_iload_n C 3 2 (j := 3) rfl rfl (by decide +kernel) rfl ?_
  refine aw_if_ne C (tgt := 247) (off := 13) (by decide +kernel) (by decide) rfl (fun c1 => ?_) (fun c1 => ?_)
  · have hf := ift c1 hf
    refine aw_aload_n C 0 0 (j := 0) rfl rfl (by decide +kernel) rfl ?_
    refine aw_getr C (k := 55) fc_12 (la_58 E) rfl (by decide) tb_997 (by decide +kernel) rfl ?_
    refine aw_iload C 4 3 rfl (by decide +kernel) rfl ?_
    obtain ⟨g2, hf⟩ := igd hf
    refine aw_iald C (la_86 E) g2 (by decide +kernel) rfl ?_
    refine aw_goto C (tgt := 263) (off := 19) (by decide +kernel) (by decide) ?_
    exact aw_iretq C CR0 hgr hgs hf (by decide +kernel)
  · have hf := iff_ c1 hf
    refine aw_aload_n C 0 0 (j := 0) rfl rfl (by decide +kernel) rfl ?_
    refine aw_getr C (k := 55) fc_12 (la_58 E) rfl (by decide) tb_997 (by decide +kernel) rfl ?_
    refine aw_iload C 4 3 rfl (by decide +kernel) rfl ?_
    obtain ⟨g3, hf⟩ := igd hf
    refine aw_iald C (la_86 E) g3 (by decide +kernel) rfl ?_
    refine aw_iload_n C 1 1 (j := 1) rfl rfl (by decide +kernel) rfl ?_
    refine aw_imul C (by decide +kernel) rfl ?_
    refine aw_aload_n C 0 0 (j := 0) rfl rfl (by decide +kernel) rfl ?_
    refine aw_iload C 4 3 rfl (by decide +kernel) rfl ?_
    obtain ⟨q4, hq4, hf⟩ := ibd hf
    refine aw_callV C (rest := [.int ((st.1 86 v4.toNatClampNeg) * v1)]) (c_m_lengthOf E v4 _ q4 hq4) tb_1511 yf_235 yi_235 (la_58 E) [.int v4] rfl rfl _ rfl (Nat.le_trans (by decide) hgd) (Nat.le_of_ble_eq_true rfl) (by decide +kernel) rfl ?_
    show AW _ _ _ _ [.int q4.1, .int ((st.1 86 v4.toNatClampNeg) * v1)]
    refine aw_isub C (by decide +kernel) rfl ?_
    exact aw_iretq C CR0 hgr hgs hf (by decide +kernel)
theorem t_m_strips_139 {G : Cx} (C : CX G prog_14_method_98_code "PaperStarsModel") (CR0 : CR G (Option.some FieldType.int)) (E : LAin (gly G)) (hnL : gnL G = 7) (hgd : 2 ≤ gd G) {q : Int32 × Mm} (hgr : gr G = some (.int q.1)) (hgs : gsf G = q.2) (k139 : Int32 → Int32 → Int32 → Int32 → Mm → Option (Int32 × Mm)) (hk139 : ∀ (v1 : Int32) (v3 : Int32) (v4 : Int32) (v5 : Int32) (st : Mm), k139 v1 v3 v4 v5 st = some q → AW G st 139 [(0, .ref (gad G 58)), (1, .int v1), (3, .int v3), (4, .int v4), (5, .int v5)] []) (v1 : Int32) (v3 : Int32) (v4 : Int32) (v5 : Int32) (st : Mm) (hf : b_m_strips_139 k139 v1 v3 v4 v5 st = some q) : AW G st 139 [(0, .ref (gad G 58)), (1, .int v1), (3, .int v3), (4, .int v4), (5, .int v5)] [] := by
  unfold b_m_strips_139 at hf
  refine aw_iload C 5 4 rfl (by decide +kernel) rfl ?_
  refine aw_iload C 4 3 rfl (by decide +kernel) rfl ?_
  refine aw_icmp_gt C (tgt := 233) (off := 90) (by decide +kernel) (by decide) rfl (fun c1 => ?_) (fun c1 => ?_)
  · have hf := ift c1 hf
    refine aw_sub [(0, .ref (gad G 58)), (1, .int v1), (3, .int v3), (4, .int v4)] [0, 1, 2, 3] rfl ?_
    exact t_m_strips_233 C CR0 E hnL hgd hgr hgs v1 v3 v4 _ hf
  · have hf := iff_ c1 hf
    refine aw_aload_n C 0 0 (j := 0) rfl rfl (by decide +kernel) rfl ?_
    refine aw_getr C (k := 55) fc_12 (la_58 E) rfl (by decide) tb_997 (by decide +kernel) rfl ?_
    refine aw_iload C 5 4 rfl (by decide +kernel) rfl ?_
    refine aw_iload C 5 4 rfl (by decide +kernel) rfl ?_
    refine aw_if_ne C (tgt := 161) (off := 7) (by decide +kernel) (by decide) rfl (fun c2 => ?_) (fun c2 => ?_)
    · have hf := ift c2 hf
      refine aw_iconst C (i0 := 0) (v := 0) (by decide) (by decide +kernel) rfl ?_
      refine aw_goto C (tgt := 164) (off := 6) (by decide +kernel) (by decide) ?_
      obtain ⟨g3, hf⟩ := igd hf
      refine aw_iast C (la_86 E) g3 (by decide +kernel) rfl ?_
      refine aw_iload C 5 4 rfl (by decide +kernel) rfl ?_
      refine aw_istore C [(6, .int v5), (0, .ref (gad G 58)), (1, .int v1), (3, .int v3), (4, .int v4), (5, .int v5)] (by rw [hnL]; decide) rfl (by decide +kernel) rfl ?_
      refine aw_sub [(0, .ref (gad G 58)), (1, .int v1), (3, .int v3), (4, .int v4), (5, .int v5), (6, .int v5)] [1, 2, 3, 4, 5, 0] rfl ?_
      exact u_m_strips_169 C CR0 E hnL hgd hgr hgs k139 hk139 _ v1 v3 v4 v5 v5 _ hf
    · have hf := iff_ c2 hf
      refine aw_ldcw C tb_1400 (by decide +kernel) rfl ?_
      obtain ⟨g4, hf⟩ := igd hf
      refine aw_iast C (la_86 E) g4 (by decide +kernel) rfl ?_
      refine aw_iload C 5 4 rfl (by decide +kernel) rfl ?_
      refine aw_istore C [(6, .int v5), (0, .ref (gad G 58)), (1, .int v1), (3, .int v3), (4, .int v4), (5, .int v5)] (by rw [hnL]; decide) rfl (by decide +kernel) rfl ?_
      refine aw_sub [(0, .ref (gad G 58)), (1, .int v1), (3, .int v3), (4, .int v4), (5, .int v5), (6, .int v5)] [1, 2, 3, 4, 5, 0] rfl ?_
      exact u_m_strips_169 C CR0 E hnL hgd hgr hgs k139 hk139 _ v1 v3 v4 v5 v5 _ hf
theorem u_m_strips_139 {G : Cx} (C : CX G prog_14_method_98_code "PaperStarsModel") (CR0 : CR G (Option.some FieldType.int)) (E : LAin (gly G)) (hnL : gnL G = 7) (hgd : 2 ≤ gd G) {q : Int32 × Mm} (hgr : gr G = some (.int q.1)) (hgs : gsf G = q.2) : ∀ (n : Nat) (v1 : Int32) (v3 : Int32) (v4 : Int32) (v5 : Int32) (st : Mm), f_m_strips_139 n v1 v3 v4 v5 st = some q → AW G st 139 [(0, .ref (gad G 58)), (1, .int v1), (3, .int v3), (4, .int v4), (5, .int v5)] [] := by
  intro n
  induction n with
  | zero => intro v1 v3 v4 v5 st hf; cases hf
  | succ n ih => intro v1 v3 v4 v5 st hf; exact t_m_strips_139 C CR0 E hnL hgd hgr hgs (f_m_strips_139 n) ih v1 v3 v4 v5 st hf
theorem t_m_strips_129 {G : Cx} (C : CX G prog_14_method_98_code "PaperStarsModel") (CR0 : CR G (Option.some FieldType.int)) (E : LAin (gly G)) (hnL : gnL G = 7) (hgd : 2 ≤ gd G) {q : Int32 × Mm} (hgr : gr G = some (.int q.1)) (hgs : gsf G = q.2) (v1 : Int32) (v2 : Int32) (v3 : Int32) (st : Mm) (hf : b_m_strips_129 v1 v2 v3 st = some q) : AW G st 129 [(0, .ref (gad G 58)), (1, .int v1), (2, .int v2), (3, .int v3)] [] := by
  unfold b_m_strips_129 at hf
  refine aw_iconst C (i0 := 1) (v := 1) (by decide) (by decide +kernel) rfl ?_
  refine aw_iload_n C 2 2 (j := 2) rfl rfl (by decide +kernel) rfl ?_
  refine aw_ishl C (by decide +kernel) rfl ?_
  refine aw_iconst C (i0 := 1) (v := 1) (by decide) (by decide +kernel) rfl ?_
  refine aw_isub C (by decide +kernel) rfl ?_
  obtain ⟨a1, ha1⟩ : ∃ z, z = (((1 : Int32) <<< (v2 &&& 31)) - (1 : Int32)) := ⟨_, rfl⟩
  refine aw_nmi ha1 ?_
  have hf := ilt ha1 hf
  refine aw_istore C [(4, .int a1), (0, .ref (gad G 58)), (1, .int v1), (2, .int v2), (3, .int v3)] (by rw [hnL]; decide) rfl (by decide +kernel) rfl ?_
  refine aw_iconst C (i0 := 0) (v := 0) (by decide) (by decide +kernel) rfl ?_
  refine aw_istore C [(5, .int (0 : Int32)), (4, .int a1), (0, .ref (gad G 58)), (1, .int v1), (2, .int v2), (3, .int v3)] (by rw [hnL]; decide) rfl (by decide +kernel) rfl ?_
  refine aw_sub [(0, .ref (gad G 58)), (1, .int v1), (3, .int v3), (4, .int a1), (5, .int (0 : Int32))] [2, 3, 5, 1, 0] rfl ?_
  exact u_m_strips_139 C CR0 E hnL hgd hgr hgs _ v1 v3 a1 (0 : Int32) _ hf
theorem t_m_strips_92 {G : Cx} (C : CX G prog_14_method_98_code "PaperStarsModel") (CR0 : CR G (Option.some FieldType.int)) (E : LAin (gly G)) (hnL : gnL G = 7) (hgd : 2 ≤ gd G) {q : Int32 × Mm} (hgr : gr G = some (.int q.1)) (hgs : gsf G = q.2) (k92 : Int32 → Int32 → Int32 → Int32 → Mm → Option (Int32 × Mm)) (hk92 : ∀ (v1 : Int32) (v2 : Int32) (v3 : Int32) (v4 : Int32) (st : Mm), k92 v1 v2 v3 v4 st = some q → AW G st 92 [(0, .ref (gad G 58)), (1, .int v1), (2, .int v2), (3, .int v3), (4, .int v4)] []) (v1 : Int32) (v2 : Int32) (v3 : Int32) (v4 : Int32) (st : Mm) (hf : b_m_strips_92 k92 v1 v2 v3 v4 st = some q) : AW G st 92 [(0, .ref (gad G 58)), (1, .int v1), (2, .int v2), (3, .int v3), (4, .int v4)] [] := by
  unfold b_m_strips_92 at hf
  refine aw_iload C 4 4 rfl (by decide +kernel) rfl ?_
  refine aw_iload_n C 2 2 (j := 2) rfl rfl (by decide +kernel) rfl ?_
  refine aw_icmp_ge C (tgt := 129) (off := 34) (by decide +kernel) (by decide) rfl (fun c1 => ?_) (fun c1 => ?_)
  · have hf := ift c1 hf
    refine aw_sub [(0, .ref (gad G 58)), (1, .int v1), (2, .int v2), (3, .int v3)] [0, 1, 2, 3] rfl ?_
    exact t_m_strips_129 C CR0 E hnL hgd hgr hgs v1 v2 v3 _ hf
  · have hf := iff_ c1 hf
    refine aw_aload_n C 0 0 (j := 0) rfl rfl (by decide +kernel) rfl ?_
    refine aw_getr C (k := 54) fc_12 (la_58 E) rfl (by decide) tb_996 (by decide +kernel) rfl ?_
    refine aw_iload C 4 4 rfl (by decide +kernel) rfl ?_
    obtain ⟨g2, hf⟩ := igd hf
    refine aw_iald C (la_85 E) g2 (by decide +kernel) rfl ?_
    refine aw_iconst C (i0 := 1) (v := 1) (by decide) (by decide +kernel) rfl ?_
    refine aw_icmp_lt C (tgt := 120) (off := 14) (by decide +kernel) (by decide) rfl (fun c3 => ?_) (fun c3 => ?_)
    · have hf := ift c3 hf
      refine aw_bipush C (i0 := -2) (v := -2) (by decide) (by decide +kernel) rfl ?_
      exact aw_iretq C CR0 hgr hgs hf (by decide +kernel)
    · have hf := iff_ c3 hf
      refine aw_aload_n C 0 0 (j := 0) rfl rfl (by decide +kernel) rfl ?_
      refine aw_getr C (k := 54) fc_12 (la_58 E) rfl (by decide) tb_996 (by decide +kernel) rfl ?_
      refine aw_iload C 4 4 rfl (by decide +kernel) rfl ?_
      obtain ⟨g4, hf⟩ := igd hf
      refine aw_iald C (la_85 E) g4 (by decide +kernel) rfl ?_
      refine aw_iload_n C 1 1 (j := 1) rfl rfl (by decide +kernel) rfl ?_
      refine aw_icmp_le C (tgt := 123) (off := 6) (by decide +kernel) (by decide) rfl (fun c5 => ?_) (fun c5 => ?_)
      · have hf := ift c5 hf
        obtain ⟨a6, ha6⟩ : ∃ z, z = (v4 + (1 : Int32)) := ⟨_, rfl⟩
        have hf := ilt ha6 hf
        refine aw_iinc C [(4, .int a6), (0, .ref (gad G 58)), (1, .int v1), (2, .int v2), (3, .int v3)] 4 (n := 1) rfl (by rw [ha6]; rfl) (by rw [hnL]; decide) rfl (by decide +kernel) rfl ?_
        refine aw_goto C (tgt := 92) (off := -34) (by decide +kernel) (by decide) ?_
        refine aw_sub [(0, .ref (gad G 58)), (1, .int v1), (2, .int v2), (3, .int v3), (4, .int a6)] [1, 2, 3, 4, 0] rfl ?_
        exact hk92 v1 v2 v3 a6 _ hf
      · have hf := iff_ c5 hf
        refine aw_bipush C (i0 := -2) (v := -2) (by decide) (by decide +kernel) rfl ?_
        exact aw_iretq C CR0 hgr hgs hf (by decide +kernel)
theorem u_m_strips_92 {G : Cx} (C : CX G prog_14_method_98_code "PaperStarsModel") (CR0 : CR G (Option.some FieldType.int)) (E : LAin (gly G)) (hnL : gnL G = 7) (hgd : 2 ≤ gd G) {q : Int32 × Mm} (hgr : gr G = some (.int q.1)) (hgs : gsf G = q.2) : ∀ (n : Nat) (v1 : Int32) (v2 : Int32) (v3 : Int32) (v4 : Int32) (st : Mm), f_m_strips_92 n v1 v2 v3 v4 st = some q → AW G st 92 [(0, .ref (gad G 58)), (1, .int v1), (2, .int v2), (3, .int v3), (4, .int v4)] [] := by
  intro n
  induction n with
  | zero => intro v1 v2 v3 v4 st hf; cases hf
  | succ n ih => intro v1 v2 v3 v4 st hf; exact t_m_strips_92 C CR0 E hnL hgd hgr hgs (f_m_strips_92 n) ih v1 v2 v3 v4 st hf
theorem t_m_strips_89 {G : Cx} (C : CX G prog_14_method_98_code "PaperStarsModel") (CR0 : CR G (Option.some FieldType.int)) (E : LAin (gly G)) (hnL : gnL G = 7) (hgd : 2 ≤ gd G) {q : Int32 × Mm} (hgr : gr G = some (.int q.1)) (hgs : gsf G = q.2) (v1 : Int32) (v2 : Int32) (v3 : Int32) (st : Mm) (hf : b_m_strips_89 v1 v2 v3 st = some q) : AW G st 89 [(0, .ref (gad G 58)), (1, .int v1), (2, .int v2), (3, .int v3)] [] := by
  unfold b_m_strips_89 at hf
  refine aw_iconst C (i0 := 0) (v := 0) (by decide) (by decide +kernel) rfl ?_
  refine aw_istore C [(4, .int (0 : Int32)), (0, .ref (gad G 58)), (1, .int v1), (2, .int v2), (3, .int v3)] (by rw [hnL]; decide) rfl (by decide +kernel) rfl ?_
  refine aw_sub [(0, .ref (gad G 58)), (1, .int v1), (2, .int v2), (3, .int v3), (4, .int (0 : Int32))] [1, 2, 3, 4, 0] rfl ?_
  exact u_m_strips_92 C CR0 E hnL hgd hgr hgs _ v1 v2 v3 (0 : Int32) _ hf
theorem t_m_strips_48 {G : Cx} (C : CX G prog_14_method_98_code "PaperStarsModel") (CR0 : CR G (Option.some FieldType.int)) (E : LAin (gly G)) (hnL : gnL G = 7) (hgd : 2 ≤ gd G) {q : Int32 × Mm} (hgr : gr G = some (.int q.1)) (hgs : gsf G = q.2) (k48 : Int32 → Int32 → Int32 → Int32 → Mm → Option (Int32 × Mm)) (hk48 : ∀ (v1 : Int32) (v2 : Int32) (v3 : Int32) (v4 : Int32) (st : Mm), k48 v1 v2 v3 v4 st = some q → AW G st 48 [(0, .ref (gad G 58)), (1, .int v1), (2, .int v2), (3, .int v3), (4, .int v4)] []) (v1 : Int32) (v2 : Int32) (v3 : Int32) (v4 : Int32) (st : Mm) (hf : b_m_strips_48 k48 v1 v2 v3 v4 st = some q) : AW G st 48 [(0, .ref (gad G 58)), (1, .int v1), (2, .int v2), (3, .int v3), (4, .int v4)] [] := by
  unfold b_m_strips_48 at hf
  refine aw_iload C 4 4 rfl (by decide +kernel) rfl ?_
  refine aw_bipush C (i0 := 10) (v := 10) (by decide) (by decide +kernel) rfl ?_
  refine aw_icmp_ge C (tgt := 89) (off := 37) (by decide +kernel) (by decide) rfl (fun c1 => ?_) (fun c1 => ?_)
  · have hf := ift c1 hf
    refine aw_sub [(0, .ref (gad G 58)), (1, .int v1), (2, .int v2), (3, .int v3)] [0, 1, 2, 3] rfl ?_
    exact t_m_strips_89 C CR0 E hnL hgd hgr hgs v1 v2 v3 _ hf
  · have hf := iff_ c1 hf
    refine aw_aload_n C 0 0 (j := 0) rfl rfl (by decide +kernel) rfl ?_
    refine aw_getr C (k := 54) fc_12 (la_58 E) rfl (by decide) tb_996 (by decide +kernel) rfl ?_
    refine aw_iload C 4 4 rfl (by decide +kernel) rfl ?_
    refine aw_iload C 4 4 rfl (by decide +kernel) rfl ?_
    refine aw_iload_n C 2 2 (j := 2) rfl rfl (by decide +kernel) rfl ?_
    refine aw_icmp_ge C (tgt := 81) (off := 17) (by decide +kernel) (by decide) rfl (fun c2 => ?_) (fun c2 => ?_)
    · have hf := ift c2 hf
      refine aw_iconst C (i0 := 0) (v := 0) (by decide) (by decide +kernel) rfl ?_
      obtain ⟨g3, hf⟩ := igd hf
      refine aw_iast C (la_85 E) g3 (by decide +kernel) rfl ?_
      obtain ⟨a4, ha4⟩ : ∃ z, z = (v4 + (1 : Int32)) := ⟨_, rfl⟩
      have hf := ilt ha4 hf
      refine aw_iinc C [(4, .int a4), (0, .ref (gad G 58)), (1, .int v1), (2, .int v2), (3, .int v3)] 4 (n := 1) rfl (by rw [ha4]; rfl) (by rw [hnL]; decide) rfl (by decide +kernel) rfl ?_
      refine aw_goto C (tgt := 48) (off := -38) (by decide +kernel) (by decide) ?_
      refine aw_sub [(0, .ref (gad G 58)), (1, .int v1), (2, .int v2), (3, .int v3), (4, .int a4)] [1, 2, 3, 4, 0] rfl ?_
      exact hk48 v1 v2 v3 a4 _ hf
    · have hf := iff_ c2 hf
      refine aw_aload_n C 0 0 (j := 0) rfl rfl (by decide +kernel) rfl ?_
      refine aw_getr C (k := 18) fc_12 (la_58 E) rfl (by decide) tb_960 (by decide +kernel) rfl ?_
      refine aw_iload C 4 4 rfl (by decide +kernel) rfl ?_
      obtain ⟨g5, hf⟩ := igd hf
      refine aw_bald C (la_65 E) g5 (by decide +kernel) rfl ?_
      refine aw_sipush C (i0 := 255) (v := 255) (by decide) (by decide +kernel) rfl ?_
      refine aw_iand C (by decide +kernel) rfl ?_
      refine aw_goto C (tgt := 82) (off := 4) (by decide +kernel) (by decide) ?_
      obtain ⟨a6, ha6⟩ : ∃ z, z = ((st.1 65 v4.toNatClampNeg) &&& (255 : Int32)) := ⟨_, rfl⟩
      refine aw_nmi ha6 ?_
      have hf := ilt ha6 hf
      obtain ⟨g7, hf⟩ := igd hf
      refine aw_iast C (la_85 E) g7 (by decide +kernel) rfl ?_
      obtain ⟨a8, ha8⟩ : ∃ z, z = (v4 + (1 : Int32)) := ⟨_, rfl⟩
      have hf := ilt ha8 hf
      refine aw_iinc C [(4, .int a8), (0, .ref (gad G 58)), (1, .int v1), (2, .int v2), (3, .int v3)] 4 (n := 1) rfl (by rw [ha8]; rfl) (by rw [hnL]; decide) rfl (by decide +kernel) rfl ?_
      refine aw_goto C (tgt := 48) (off := -38) (by decide +kernel) (by decide) ?_
      refine aw_sub [(0, .ref (gad G 58)), (1, .int v1), (2, .int v2), (3, .int v3), (4, .int a8)] [1, 2, 3, 4, 0] rfl ?_
      exact hk48 v1 v2 v3 a8 _ hf
theorem u_m_strips_48 {G : Cx} (C : CX G prog_14_method_98_code "PaperStarsModel") (CR0 : CR G (Option.some FieldType.int)) (E : LAin (gly G)) (hnL : gnL G = 7) (hgd : 2 ≤ gd G) {q : Int32 × Mm} (hgr : gr G = some (.int q.1)) (hgs : gsf G = q.2) : ∀ (n : Nat) (v1 : Int32) (v2 : Int32) (v3 : Int32) (v4 : Int32) (st : Mm), f_m_strips_48 n v1 v2 v3 v4 st = some q → AW G st 48 [(0, .ref (gad G 58)), (1, .int v1), (2, .int v2), (3, .int v3), (4, .int v4)] [] := by
  intro n
  induction n with
  | zero => intro v1 v2 v3 v4 st hf; cases hf
  | succ n ih => intro v1 v2 v3 v4 st hf; exact t_m_strips_48 C CR0 E hnL hgd hgr hgs (f_m_strips_48 n) ih v1 v2 v3 v4 st hf
theorem t_m_strips {G : Cx} (C : CX G prog_14_method_98_code "PaperStarsModel") (CR0 : CR G (Option.some FieldType.int)) (E : LAin (gly G)) (hnL : gnL G = 7) (hgd : 2 ≤ gd G) {q : Int32 × Mm} (hgr : gr G = some (.int q.1)) (hgs : gsf G = q.2) (v1 : Int32) (v2 : Int32) (v3 : Int32) (st : Mm) (hf : f_m_strips v1 v2 v3 st = some q) : AW G st 0 [(0, .ref (gad G 58)), (1, .int v1), (2, .int v2), (3, .int v3)] [] := by
  unfold f_m_strips at hf
  refine aw_iload_n C 1 1 (j := 1) rfl rfl (by decide +kernel) rfl ?_
  refine aw_iconst C (i0 := 1) (v := 1) (by decide) (by decide +kernel) rfl ?_
  refine aw_sipush C (i0 := 255) (v := 255) (by decide) (by decide +kernel) rfl ?_
  obtain ⟨q1, hq1, hf⟩ := ibd hf
  refine aw_callS C (rest := []) (c_m_in E v1 (1 : Int32) (255 : Int32) _ q1 hq1) tb_1144 yf_142 tb_1145 rfl _ rfl (Nat.le_trans (by decide) hgd) (Nat.le_of_ble_eq_true rfl) (by decide +kernel) rfl ?_
  show AW _ _ _ _ [.int q1.1]
  refine aw_if_eq C (tgt := 38) (off := 30) (by decide +kernel) (by decide) rfl (fun c2 => ?_) (fun c2 => ?_)
  · have hf := ift c2 hf
    refine aw_iconst C (i0 := -1) (v := -1) (by decide) (by decide +kernel) rfl ?_
    exact aw_iretq C CR0 hgr hgs hf (by decide +kernel)
  · have hf := iff_ c2 hf
    refine aw_iload_n C 2 2 (j := 2) rfl rfl (by decide +kernel) rfl ?_
    refine aw_iconst C (i0 := 1) (v := 1) (by decide) (by decide +kernel) rfl ?_
    refine aw_bipush C (i0 := 10) (v := 10) (by decide) (by decide +kernel) rfl ?_
    obtain ⟨q3, hq3, hf⟩ := ibd hf
    refine aw_callS C (rest := []) (c_m_in E v2 (1 : Int32) (10 : Int32) _ q3 hq3) tb_1144 yf_142 tb_1145 rfl _ rfl (Nat.le_trans (by decide) hgd) (Nat.le_of_ble_eq_true rfl) (by decide +kernel) rfl ?_
    show AW _ _ _ _ [.int q3.1]
    refine aw_if_eq C (tgt := 38) (off := 20) (by decide +kernel) (by decide) rfl (fun c4 => ?_) (fun c4 => ?_)
    · have hf := ift c4 hf
      refine aw_iconst C (i0 := -1) (v := -1) (by decide) (by decide +kernel) rfl ?_
      exact aw_iretq C CR0 hgr hgs hf (by decide +kernel)
    · have hf := iff_ c4 hf
      refine aw_iload_n C 3 3 (j := 3) rfl rfl (by decide +kernel) rfl ?_
      refine aw_iconst C (i0 := 0) (v := 0) (by decide) (by decide +kernel) rfl ?_
      refine aw_iconst C (i0 := 1) (v := 1) (by decide) (by decide +kernel) rfl ?_
      obtain ⟨q5, hq5, hf⟩ := ibd hf
      refine aw_callS C (rest := []) (c_m_in E v3 (0 : Int32) (1 : Int32) _ q5 hq5) tb_1144 yf_142 tb_1145 rfl _ rfl (Nat.le_trans (by decide) hgd) (Nat.le_of_ble_eq_true rfl) (by decide +kernel) rfl ?_
      show AW _ _ _ _ [.int q5.1]
      refine aw_if_eq C (tgt := 38) (off := 11) (by decide +kernel) (by decide) rfl (fun c6 => ?_) (fun c6 => ?_)
      · have hf := ift c6 hf
        refine aw_iconst C (i0 := -1) (v := -1) (by decide) (by decide +kernel) rfl ?_
        exact aw_iretq C CR0 hgr hgs hf (by decide +kernel)
      · have hf := iff_ c6 hf
        refine aw_iload_n C 2 2 (j := 2) rfl rfl (by decide +kernel) rfl ?_
        refine aw_aload_n C 0 0 (j := 0) rfl rfl (by decide +kernel) rfl ?_
        refine aw_get C (k := 19) fc_12 (la_58 E) rfl (by decide) tb_961 (by decide +kernel) rfl ?_
        refine aw_icmp_le C (tgt := 40) (off := 5) (by decide +kernel) (by decide) rfl (fun c7 => ?_) (fun c7 => ?_)
        · have hf := ift c7 hf
          refine aw_aload_n C 0 0 (j := 0) rfl rfl (by decide +kernel) rfl ?_
          refine aw_iconst C (i0 := 0) (v := 0) (by decide) (by decide +kernel) rfl ?_
          refine aw_put C (k := 19) fc_12 (la_58 E) rfl (by decide) rfl rfl tb_961 (by decide +kernel) rfl ?_
          refine aw_iconst C (i0 := 0) (v := 0) (by decide) (by decide +kernel) rfl ?_
          refine aw_istore C [(4, .int (0 : Int32)), (0, .ref (gad G 58)), (1, .int v1), (2, .int v2), (3, .int v3)] (by rw [hnL]; decide) rfl (by decide +kernel) rfl ?_
          refine aw_sub [(0, .ref (gad G 58)), (1, .int v1), (2, .int v2), (3, .int v3), (4, .int (0 : Int32))] [1, 2, 3, 4, 0] rfl ?_
          exact u_m_strips_48 C CR0 E hnL hgd hgr hgs _ v1 v2 v3 (0 : Int32) _ hf
        · have hf := iff_ c7 hf
          refine aw_iconst C (i0 := -1) (v := -1) (by decide) (by decide +kernel) rfl ?_
          exact aw_iretq C CR0 hgr hgs hf (by decide +kernel)
theorem c_m_strips {lay : Ly} (E : LAin lay) (v1 : Int32) (v2 : Int32) (v3 : Int32) (st : Mm) (q : Int32 × Mm) (hf : f_m_strips v1 v2 v3 st = some q) : Con 2 Y234 prog_14_method_98_code 7 (Option.some FieldType.int) lay (fun ad => [.ref (ad 58), .int v1, .int v2, .int v3]) st (some (.int q.1)) q.2 :=
  am_met yf_234.2.2.2.2.2 (fun ad => Nat.le_of_ble_eq_true rfl) (fun G C CR0 e1 e2 e3 e4 e5 => t_m_strips C CR0 (by rw [e1]; exact E) e2 (Nat.le_of_eq e5.symm) e3 e4 v1 v2 v3 st hf)
