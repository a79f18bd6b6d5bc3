def b_m_laysRecipe_14 (k14 : Int32 → Mm → Option (Unit × Mm)) (v1 : Int32) (st : Mm) : Option (Unit × Mm) :=
  if (st.1 58 1) ≤ v1 then (some ((), st)) else (if inb v1 9 then lt_ (st.1 59 v1.toNatClampNeg) (fun a3 => if inb v1 9 then if inb v1 9 then (f_m_foldsOnce ((sI st 63 v1.toNatClampNeg a3).1 59 v1.toNatClampNeg) (sI st 63 v1.toNatClampNeg a3)).bind (fun q6 => lt_ (v1 + (1 : Int32)) (fun a7 => k14 a7 q6.2)) else none else none) else none)
def f_m_laysRecipe_14 : Nat → Int32 → Mm → Option (Unit × Mm)
  | 0 => fun _ _ => none
  | n + 1 => b_m_laysRecipe_14 (f_m_laysRecipe_14 n)
def f_m_laysRecipe (st : Mm) : Option (Unit × Mm) :=
  (f_m_startsWedge st).bind (fun q1 => lt_ (q1.2.1 58 1) (fun a2 => f_m_laysRecipe_14 1000000 (0 : Int32) (sI q1.2 58 12 a2)))
theorem t_m_laysRecipe_14 {G : Cx} (C : CX G prog_14_method_15_code "PaperStarsModel") (CR0 : CR G (Option.none)) (E : LAin (gly G)) (hnL : gnL G = 2) (hgd : 1 ≤ gd G) {q : Unit × Mm} (hgr : gr G = none) (hgs : gsf G = q.2) (k14 : Int32 → Mm → Option (Unit × Mm)) (hk14 : ∀ (v1 : Int32) (st : Mm), k14 v1 st = some q → AW G st 14 [(0, .ref (gad G 58)), (1, .int v1)] []) (v1 : Int32) (st : Mm) (hf : b_m_laysRecipe_14 k14 v1 st = some q) : AW G st 14 [(0, .ref (gad G 58)), (1, .int v1)] [] := by
  unfold b_m_laysRecipe_14 at hf
  refine aw_iload_n C 1 1 (j := 1) rfl rfl (by decide +kernel) rfl ?_
  refine aw_aload_n C 0 0 (j := 0) rfl rfl (by decide +kernel) rfl ?_
  refine aw_get C (k := 1) fc_12 (la_58 E) rfl (by decide) tb_943 (by decide +kernel) rfl ?_
  refine aw_icmp_ge C (tgt := 51) (off := 32) (by decide +kernel) (by decide) rfl (fun c1 => ?_) (fun c1 => ?_)
  · have hf := ift c1 hf
    exact aw_vretq C CR0 hgr hgs hf (by decide +kernel)
  · have hf := iff_ c1 hf
    refine aw_aload_n C 0 0 (j := 0) rfl rfl (by decide +kernel) rfl ?_
    refine aw_getr C (k := 11) fc_12 (la_58 E) rfl (by decide) tb_953 (by decide +kernel) rfl ?_
    refine aw_iload_n C 1 1 (j := 1) rfl rfl (by decide +kernel) rfl ?_
    refine aw_aload_n C 0 0 (j := 0) rfl rfl (by decide +kernel) rfl ?_
    refine aw_getr C (k := 4) fc_12 (la_58 E) rfl (by decide) tb_946 (by decide +kernel) rfl ?_
    refine aw_iload_n C 1 1 (j := 1) rfl rfl (by decide +kernel) rfl ?_
    obtain ⟨g2, hf⟩ := igd hf
    refine aw_iald C (la_59 E) g2 (by decide +kernel) rfl ?_
    obtain ⟨a3, ha3⟩ : ∃ z, z = (st.1 59 v1.toNatClampNeg) := ⟨_, rfl⟩
    refine aw_nmi ha3 ?_
    have hf := ilt ha3 hf
    obtain ⟨g4, hf⟩ := igd hf
    refine aw_iast C (la_63 E) g4 (by decide +kernel) rfl ?_
    refine aw_aload_n C 0 0 (j := 0) rfl rfl (by decide +kernel) rfl ?_
    refine aw_aload_n C 0 0 (j := 0) rfl rfl (by decide +kernel) rfl ?_
    refine aw_getr C (k := 4) fc_12 (la_58 E) rfl (by decide) tb_946 (by decide +kernel) rfl ?_
    refine aw_iload_n C 1 1 (j := 1) rfl rfl (by decide +kernel) rfl ?_
    obtain ⟨g5, hf⟩ := igd hf
    refine aw_iald C (la_59 E) g5 (by decide +kernel) rfl ?_
    obtain ⟨q6, hq6, hf⟩ := ibd hf
    refine aw_callV C (rest := []) (c_m_foldsOnce E ((sI st 63 v1.toNatClampNeg a3).1 59 v1.toNatClampNeg) _ q6 hq6) tb_1175 yf_150 yi_150 (la_58 E) [.int ((sI st 63 v1.toNatClampNeg a3).1 59 v1.toNatClampNeg)] rfl rfl _ rfl (Nat.le_trans (by decide) hgd) (Nat.le_of_ble_eq_true rfl) (by decide +kernel) rfl ?_
    show AW _ _ _ _ [.int q6.1]
    refine aw_pop C rfl (by decide +kernel) rfl ?_
    obtain ⟨a7, ha7⟩ : ∃ z, z = (v1 + (1 : Int32)) := ⟨_, rfl⟩
    have hf := ilt ha7 hf
    refine aw_iinc C [(1, .int a7), (0, .ref (gad G 58))] 1 (n := 1) rfl (by rw [ha7]; rfl) (by rw [hnL]; decide) rfl (by decide +kernel) rfl ?_
    refine aw_goto C (tgt := 14) (off := -34) (by decide +kernel) (by decide) ?_
    refine aw_sub [(0, .ref (gad G 58)), (1, .int a7)] [1, 0] rfl ?_
    exact hk14 a7 _ hf
theorem u_m_laysRecipe_14 {G : Cx} (C : CX G prog_14_method_15_code "PaperStarsModel") (CR0 : CR G (Option.none)) (E : LAin (gly G)) (hnL : gnL G = 2) (hgd : 1 ≤ gd G) {q : Unit × Mm} (hgr : gr G = none) (hgs : gsf G = q.2) : ∀ (n : Nat) (v1 : Int32) (st : Mm), f_m_laysRecipe_14 n v1 st = some q → AW G st 14 [(0, .ref (gad G 58)), (1, .int v1)] [] := by
  intro n
  induction n with
  | zero => intro v1 st hf; cases hf
  | succ n ih => intro v1 st hf; exact t_m_laysRecipe_14 C CR0 E hnL hgd hgr hgs (f_m_laysRecipe_14 n) ih v1 st hf
theorem t_m_laysRecipe {G : Cx} (C : CX G prog_14_method_15_code "PaperStarsModel") (CR0 : CR G (Option.none)) (E : LAin (gly G)) (hnL : gnL G = 2) (hgd : 1 ≤ gd G) {q : Unit × Mm} (hgr : gr G = none) (hgs : gsf G = q.2) (st : Mm) (hf : f_m_laysRecipe st = some q) : AW G st 0 [(0, .ref (gad G 58))] [] := by
  unfold f_m_laysRecipe at hf
  refine aw_aload_n C 0 0 (j := 0) rfl rfl (by decide +kernel) rfl ?_
  obtain ⟨q1, hq1, hf⟩ := ibd hf
  refine aw_callV C (rest := []) (c_m_startsWedge E _ q1 hq1) tb_1167 yf_148 yi_148 (la_58 E) [] rfl rfl _ rfl (Nat.le_trans (by decide) hgd) (Nat.le_of_ble_eq_true rfl) (by decide +kernel) rfl ?_
  show AW _ _ _ _ []
  refine aw_aload_n C 0 0 (j := 0) rfl rfl (by decide +kernel) rfl ?_
  refine aw_aload_n C 0 0 (j := 0) rfl rfl (by decide +kernel) rfl ?_
  refine aw_get C (k := 1) fc_12 (la_58 E) rfl (by decide) tb_943 (by decide +kernel) rfl ?_
  obtain ⟨a2, ha2⟩ : ∃ z, z = (q1.2.1 58 1) := ⟨_, rfl⟩
  refine aw_nmi ha2 ?_
  have hf := ilt ha2 hf
  refine aw_put C (k := 12) fc_12 (la_58 E) rfl (by decide) rfl rfl tb_954 (by decide +kernel) rfl ?_
  refine aw_iconst C (i0 := 0) (v := 0) (by decide) (by decide +kernel) rfl ?_
  refine aw_istore_n C [(1, .int (0 : Int32)), (0, .ref (gad G 58))] (j := 1) rfl (by rw [hnL]; decide) rfl (by decide +kernel) rfl ?_
  refine aw_sub [(0, .ref (gad G 58)), (1, .int (0 : Int32))] [1, 0] rfl ?_
  exact u_m_laysRecipe_14 C CR0 E hnL hgd hgr hgs _ (0 : Int32) _ hf
theorem c_m_laysRecipe {lay : Ly} (E : LAin lay) (st : Mm) (q : Unit × Mm) (hf : f_m_laysRecipe st = some q) : Con 1 Y183 prog_14_method_15_code 2 (Option.none) lay (fun ad => [.ref (ad 58)]) st (none) q.2 :=
  am_met yf_183.2.2.2.2.2 (fun ad => Nat.le_of_ble_eq_true rfl) (fun G C CR0 e1 e2 e3 e4 e5 => t_m_laysRecipe C CR0 (by rw [e1]; exact E) e2 (Nat.le_of_eq e5.symm) e3 e4 st hf)
def b_m_placeMany_4 (k4 : Int32 → Int32 → Mm → Option (Int32 × Mm)) (v1 : Int32) (v2 : Int32) (st : Mm) : Option (Int32 × Mm) :=
  if (256 : Int32) ≤ v2 then (some (v1, st)) else ((f_m_isPlace (v2 - v2 / (16 : Int32) * (16 : Int32)) (v2 / (16 : Int32)) st).bind (fun q2 => if q2.1 = 0 then (lt_ (v1 + (0 : Int32)) (fun a4 => lt_ (v2 + (1 : Int32)) (fun a5 => k4 a4 a5 q2.2))) else (lt_ (v1 + (1 : Int32)) (fun a6 => lt_ (v2 + (1 : Int32)) (fun a7 => k4 a6 a7 q2.2)))))
def f_m_placeMany_4 : Nat → Int32 → Int32 → Mm → Option (Int32 × Mm)
  | 0 => fun _ _ _ => none
  | n + 1 => b_m_placeMany_4 (f_m_placeMany_4 n)
def f_m_placeMany (st : Mm) : Option (Int32 × Mm) :=
  f_m_placeMany_4 1000000 (0 : Int32) (0 : Int32) st
theorem t_m_placeMany_4 {G : Cx} (C : CX G prog_14_method_12_code "PaperStarsModel") (CR0 : CR G (Option.some FieldType.int)) (E : LAin (gly G)) (hnL : gnL G = 3) (hgd : 1 ≤ gd G) {q : Int32 × Mm} (hgr : gr G = some (.int q.1)) (hgs : gsf G = q.2) (k4 : Int32 → Int32 → Mm → Option (Int32 × Mm)) (hk4 : ∀ (v1 : Int32) (v2 : Int32) (st : Mm), k4 v1 v2 st = some q → AW G st 4 [(0, .ref (gad G 58)), (1, .int v1), (2, .int v2)] []) (v1 : Int32) (v2 : Int32) (st : Mm) (hf : b_m_placeMany_4 k4 v1 v2 st = some q) : AW G st 4 [(0, .ref (gad G 58)), (1, .int v1), (2, .int v2)] [] := by
  unfold b_m_placeMany_4 at hf
  refine aw_iload_n C 2 2 (j := 2) rfl rfl (by decide +kernel) rfl ?_
  refine aw_sipush C (i0 := 256) (v := 256) (by decide) (by decide +kernel) rfl ?_
  refine aw_icmp_ge C (tgt := 40) (off := 32) (by decide +kernel) (by decide) rfl (fun c1 => ?_) (fun c1 => ?_)
  · have hf := ift c1 hf
    refine aw_iload_n C 1 1 (j := 1) rfl rfl (by decide +kernel) rfl ?_
    exact aw_iretq C CR0 hgr hgs hf (by decide +kernel)
  · have hf := iff_ c1 hf
    refine aw_iload_n C 1 1 (j := 1) rfl rfl (by decide +kernel) rfl ?_
    refine aw_aload_n C 0 0 (j := 0) rfl rfl (by decide +kernel) rfl ?_
    refine aw_iload_n C 2 2 (j := 2) rfl rfl (by decide +kernel) rfl ?_
    refine aw_bipush C (i0 := 16) (v := 16) (by decide) (by decide +kernel) rfl ?_
    refine aw_irem C (by decide) (by decide +kernel) rfl ?_
    refine aw_iload_n C 2 2 (j := 2) rfl rfl (by decide +kernel) rfl ?_
    refine aw_bipush C (i0 := 16) (v := 16) (by decide) (by decide +kernel) rfl ?_
    refine aw_idiv C (by decide) (by decide +kernel) rfl ?_
    obtain ⟨q2, hq2, hf⟩ := ibd hf
    refine aw_callV C (rest := [.int v1]) (c_m_isPlace E (v2 - v2 / (16 : Int32) * (16 : Int32)) (v2 / (16 : Int32)) _ q2 hq2) tb_1218 yf_161 yi_161 (la_58 E) [.int (v2 - v2 / (16 : Int32) * (16 : Int32)), .int (v2 / (16 : Int32))] rfl rfl _ rfl (Nat.le_trans (by decide) hgd) (Nat.le_of_ble_eq_true rfl) (by decide +kernel) rfl ?_
    show AW _ _ _ _ [.int q2.1, .int v1]
    refine aw_if_eq C (tgt := 31) (off := 7) (by decide +kernel) (by decide) rfl (fun c3 => ?_) (fun c3 => ?_)
    · have hf := ift c3 hf
      refine aw_iconst C (i0 := 0) (v := 0) (by decide) (by decide +kernel) rfl ?_
      refine aw_iadd C (by decide +kernel) rfl ?_
      obtain ⟨a4, ha4⟩ : ∃ z, z = (v1 + (0 : Int32)) := ⟨_, rfl⟩
      refine aw_nmi ha4 ?_
      have hf := ilt ha4 hf
      refine aw_istore_n C [(1, .int a4), (0, .ref (gad G 58)), (2, .int v2)] (j := 1) rfl (by rw [hnL]; decide) rfl (by decide +kernel) rfl ?_
      obtain ⟨a5, ha5⟩ : ∃ z, z = (v2 + (1 : Int32)) := ⟨_, rfl⟩
      have hf := ilt ha5 hf
      refine aw_iinc C [(2, .int a5), (1, .int a4), (0, .ref (gad G 58))] 2 (n := 1) rfl (by rw [ha5]; rfl) (by rw [hnL]; decide) rfl (by decide +kernel) rfl ?_
      refine aw_goto C (tgt := 4) (off := -33) (by decide +kernel) (by decide) ?_
      refine aw_sub [(0, .ref (gad G 58)), (1, .int a4), (2, .int a5)] [2, 1, 0] rfl ?_
      exact hk4 a4 a5 _ hf
    · have hf := iff_ c3 hf
      refine aw_iconst C (i0 := 1) (v := 1) (by decide) (by decide +kernel) rfl ?_
      refine aw_goto C (tgt := 32) (off := 4) (by decide +kernel) (by decide) ?_
      refine aw_iadd C (by decide +kernel) rfl ?_
      obtain ⟨a6, ha6⟩ : ∃ z, z = (v1 + (1 : Int32)) := ⟨_, rfl⟩
      refine aw_nmi ha6 ?_
      have hf := ilt ha6 hf
      refine aw_istore_n C [(1, .int a6), (0, .ref (gad G 58)), (2, .int v2)] (j := 1) rfl (by rw [hnL]; decide) rfl (by decide +kernel) rfl ?_
      obtain ⟨a7, ha7⟩ : ∃ z, z = (v2 + (1 : Int32)) := ⟨_, rfl⟩
      have hf := ilt ha7 hf
      refine aw_iinc C [(2, .int a7), (1, .int a6), (0, .ref (gad G 58))] 2 (n := 1) rfl (by rw [ha7]; rfl) (by rw [hnL]; decide) rfl (by decide +kernel) rfl ?_
      refine aw_goto C (tgt := 4) (off := -33) (by decide +kernel) (by decide) ?_
      refine aw_sub [(0, .ref (gad G 58)), (1, .int a6), (2, .int a7)] [2, 1, 0] rfl ?_
      exact hk4 a6 a7 _ hf
theorem u_m_placeMany_4 {G : Cx} (C : CX G prog_14_method_12_code "PaperStarsModel") (CR0 : CR G (Option.some FieldType.int)) (E : LAin (gly G)) (hnL : gnL G = 3) (hgd : 1 ≤ gd G) {q : Int32 × Mm} (hgr : gr G = some (.int q.1)) (hgs : gsf G = q.2) : ∀ (n : Nat) (v1 : Int32) (v2 : Int32) (st : Mm), f_m_placeMany_4 n v1 v2 st = some q → AW G st 4 [(0, .ref (gad G 58)), (1, .int v1), (2, .int v2)] [] := by
  intro n
  induction n with
  | zero => intro v1 v2 st hf; cases hf
  | succ n ih => intro v1 v2 st hf; exact t_m_placeMany_4 C CR0 E hnL hgd hgr hgs (f_m_placeMany_4 n) ih v1 v2 st hf
theorem t_m_placeMany {G : Cx} (C : CX G prog_14_method_12_code "PaperStarsModel") (CR0 : CR G (Option.some FieldType.int)) (E : LAin (gly G)) (hnL : gnL G = 3) (hgd : 1 ≤ gd G) {q : Int32 × Mm} (hgr : gr G = some (.int q.1)) (hgs : gsf G = q.2) (st : Mm) (hf : f_m_placeMany st = some q) : AW G st 0 [(0, .ref (gad G 58))] [] := by
  unfold f_m_placeMany at hf
  refine aw_iconst C (i0 := 0) (v := 0) (by decide) (by decide +kernel) rfl ?_
  refine aw_istore_n C [(1, .int (0 : Int32)), (0, .ref (gad G 58))] (j := 1) rfl (by rw [hnL]; decide) rfl (by decide +kernel) rfl ?_
  refine aw_iconst C (i0 := 0) (v := 0) (by decide) (by decide +kernel) rfl ?_
  refine aw_istore_n C [(2, .int (0 : Int32)), (1, .int (0 : Int32)), (0, .ref (gad G 58))] (j := 2) rfl (by rw [hnL]; decide) rfl (by decide +kernel) rfl ?_
  refine aw_sub [(0, .ref (gad G 58)), (1, .int (0 : Int32)), (2, .int (0 : Int32))] [2, 1, 0] rfl ?_
  exact u_m_placeMany_4 C CR0 E hnL hgd hgr hgs _ (0 : Int32) (0 : Int32) _ hf
theorem c_m_placeMany {lay : Ly} (E : LAin lay) (st : Mm) (q : Int32 × Mm) (hf : f_m_placeMany st = some q) : Con 1 Y184 prog_14_method_12_code 3 (Option.some FieldType.int) lay (fun ad => [.ref (ad 58)]) st (some (.int q.1)) q.2 :=
  am_met yf_184.2.2.2.2.2 (fun ad => Nat.le_of_ble_eq_true rfl) (fun G C CR0 e1 e2 e3 e4 e5 => t_m_placeMany C CR0 (by rw [e1]; exact E) e2 (Nat.le_of_eq e5.symm) e3 e4 st hf)
def f_m_wedge (v1 : Int32) (st : Mm) : Option (Int32 × Mm) :=
  (f_m_laysRecipe st).bind (fun q1 => if v1 = 0 then (some ((q1.2.1 58 8), q1.2)) else (if v1 = 1 then (some ((q1.2.1 58 9), q1.2)) else (if v1 = 2 then ((f_m_placeMany q1.2).bind (fun q5 => some (q5.1, q5.2))) else (if v1 = 3 then ((f_m_cutMany q1.2).bind (fun q7 => some (q7.1, q7.2))) else (if v1 = 4 then (some ((q1.2.1 58 1), q1.2)) else (if v1 = 5 then (if (q1.2.1 58 10) = 0 then (some ((0 : Int32), q1.2)) else (some ((1 : Int32), q1.2))) else (some ((-1 : Int32), q1.2))))))))
theorem t_m_wedge {G : Cx} (C : CX G prog_14_method_49_code "PaperStarsModel") (CR0 : CR G (Option.some FieldType.int)) (E : LAin (gly G)) (hnL : gnL G = 2) (hgd : 2 ≤ gd G) {q : Int32 × Mm} (hgr : gr G = some (.int q.1)) (hgs : gsf G = q.2) (v1 : Int32) (st : Mm) (hf : f_m_wedge v1 st = some q) : AW G st 0 [(0, .ref (gad G 58)), (1, .int v1)] [] := by
  unfold f_m_wedge at hf
  refine aw_aload_n C 0 0 (j := 0) rfl rfl (by decide +kernel) rfl ?_
  obtain ⟨q1, hq1, hf⟩ := ibd hf
  refine aw_callV C (rest := []) (c_m_laysRecipe E _ q1 hq1) tb_1304 yf_183 yi_183 (la_58 E) [] rfl rfl _ rfl (Nat.le_trans (by decide) hgd) (Nat.le_of_ble_eq_true rfl) (by decide +kernel) rfl ?_
  show AW _ _ _ _ []
  refine aw_iload_n C 1 1 (j := 1) rfl rfl (by decide +kernel) rfl ?_
  by_cases w2 : v1 = 0
  · have hf := ift w2 hf
    refine aw_tin C (tgt := 44) (off := 39) (dflt := 77) (lo := 0) (hi := 5) (offs := #[39, 44, 49, 54, 59, 64]) (len := 39) (by decide +kernel) (by rw [w2]; decide) (by rw [w2]; decide) (by rw [w2]; decide) (by decide) ?_
    refine aw_aload_n C 0 0 (j := 0) rfl rfl (by decide +kernel) rfl ?_
    refine aw_get C (k := 8) fc_12 (la_58 E) rfl (by decide) tb_950 (by decide +kernel) rfl ?_
    exact aw_iretq C CR0 hgr hgs hf (by decide +kernel)
  · have hf := iff_ w2 hf
    by_cases w3 : v1 = 1
    · have hf := ift w3 hf
      refine aw_tin C (tgt := 49) (off := 44) (dflt := 77) (lo := 0) (hi := 5) (offs := #[39, 44, 49, 54, 59, 64]) (len := 39) (by decide +kernel) (by rw [w3]; decide) (by rw [w3]; decide) (by rw [w3]; decide) (by decide) ?_
      refine aw_aload_n C 0 0 (j := 0) rfl rfl (by decide +kernel) rfl ?_
      refine aw_get C (k := 9) fc_12 (la_58 E) rfl (by decide) tb_951 (by decide +kernel) rfl ?_
      exact aw_iretq C CR0 hgr hgs hf (by decide +kernel)
    · have hf := iff_ w3 hf
      by_cases w4 : v1 = 2
      · have hf := ift w4 hf
        refine aw_tin C (tgt := 54) (off := 49) (dflt := 77) (lo := 0) (hi := 5) (offs := #[39, 44, 49, 54, 59, 64]) (len := 39) (by decide +kernel) (by rw [w4]; decide) (by rw [w4]; decide) (by rw [w4]; decide) (by decide) ?_
        refine aw_aload_n C 0 0 (j := 0) rfl rfl (by decide +kernel) rfl ?_
        obtain ⟨q5, hq5, hf⟩ := ibd hf
        refine aw_callV C (rest := []) (c_m_placeMany E _ q5 hq5) tb_1308 yf_184 yi_184 (la_58 E) [] rfl rfl _ rfl (Nat.le_trans (by decide) hgd) (Nat.le_of_ble_eq_true rfl) (by decide +kernel) rfl ?_
        show AW _ _ _ _ [.int q5.1]
        exact aw_iretq C CR0 hgr hgs hf (by decide +kernel)
      · have hf := iff_ w4 hf
        by_cases w6 : v1 = 3
        · have hf := ift w6 hf
          refine aw_tin C (tgt := 59) (off := 54) (dflt := 77) (lo := 0) (hi := 5) (offs := #[39, 44, 49, 54, 59, 64]) (len := 39) (by decide +kernel) (by rw [w6]; decide) (by rw [w6]; decide) (by rw [w6]; decide) (by decide) ?_
          refine aw_aload_n C 0 0 (j := 0) rfl rfl (by decide +kernel) rfl ?_
          obtain ⟨q7, hq7, hf⟩ := ibd hf
          refine aw_callV C (rest := []) (c_m_cutMany E _ q7 hq7) tb_1312 yf_185 yi_185 (la_58 E) [] rfl rfl _ rfl (Nat.le_trans (by decide) hgd) (Nat.le_of_ble_eq_true rfl) (by decide +kernel) rfl ?_
          show AW _ _ _ _ [.int q7.1]
          exact aw_iretq C CR0 hgr hgs hf (by decide +kernel)
        · have hf := iff_ w6 hf
          by_cases w8 : v1 = 4
          · have hf := ift w8 hf
            refine aw_tin C (tgt := 64) (off := 59) (dflt := 77) (lo := 0) (hi := 5) (offs := #[39, 44, 49, 54, 59, 64]) (len := 39) (by decide +kernel) (by rw [w8]; decide) (by rw [w8]; decide) (by rw [w8]; decide) (by decide) ?_
            refine aw_aload_n C 0 0 (j := 0) rfl rfl (by decide +kernel) rfl ?_
            refine aw_get C (k := 1) fc_12 (la_58 E) rfl (by decide) tb_943 (by decide +kernel) rfl ?_
            exact aw_iretq C CR0 hgr hgs hf (by decide +kernel)
          · have hf := iff_ w8 hf
            by_cases w9 : v1 = 5
            · have hf := ift w9 hf
              refine aw_tin C (tgt := 69) (off := 64) (dflt := 77) (lo := 0) (hi := 5) (offs := #[39, 44, 49, 54, 59, 64]) (len := 39) (by decide +kernel) (by rw [w9]; decide) (by rw [w9]; decide) (by rw [w9]; decide) (by decide) ?_
              refine aw_aload_n C 0 0 (j := 0) rfl rfl (by decide +kernel) rfl ?_
              refine aw_get C (k := 10) fc_12 (la_58 E) rfl (by decide) tb_952 (by decide +kernel) rfl ?_
              refine aw_if_eq C (tgt := 80) (off := 7) (by decide +kernel) (by decide) rfl (fun c10 => ?_) (fun c10 => ?_)
              · have hf := ift c10 hf
                refine aw_iconst C (i0 := 0) (v := 0) (by decide) (by decide +kernel) rfl ?_
                exact aw_iretq C CR0 hgr hgs hf (by decide +kernel)
              · have hf := iff_ c10 hf
                refine aw_iconst C (i0 := 1) (v := 1) (by decide) (by decide +kernel) rfl ?_
                refine aw_goto C (tgt := 81) (off := 4) (by decide +kernel) (by decide) ?_
                exact aw_iretq C CR0 hgr hgs hf (by decide +kernel)
            · have hf := iff_ w9 hf
              have zw2 := am_ne w2 (k := 0) (by decide)
              have zw3 := am_ne w3 (k := 1) (by decide)
              have zw4 := am_ne w4 (k := 2) (by decide)
              have zw6 := am_ne w6 (k := 3) (by decide)
              have zw8 := am_ne w8 (k := 4) (by decide)
              have zw9 := am_ne w9 (k := 5) (by decide)
              refine aw_tout C (tgt := 82) (dflt := 77) (lo := 0) (hi := 5) (offs := #[39, 44, 49, 54, 59, 64]) (len := 39) (by decide +kernel) (by omega) (by decide) ?_
              refine aw_iconst C (i0 := -1) (v := -1) (by decide) (by decide +kernel) rfl ?_
              exact aw_iretq C CR0 hgr hgs hf (by decide +kernel)
theorem c_m_wedge {lay : Ly} (E : LAin lay) (v1 : Int32) (st : Mm) (q : Int32 × Mm) (hf : f_m_wedge v1 st = some q) : Con 2 Y182 prog_14_method_49_code 2 (Option.some FieldType.int) lay (fun ad => [.ref (ad 58), .int v1]) st (some (.int q.1)) q.2 :=
  am_met yf_182.2.2.2.2.2 (fun ad => Nat.le_of_ble_eq_true rfl) (fun G C CR0 e1 e2 e3 e4 e5 => t_m_wedge C CR0 (by rw [e1]; exact E) e2 (Nat.le_of_eq e5.symm) e3 e4 v1 st hf)
def f_m_layers (v1 : Int32) (v2 : Int32) (st : Mm) : Option (Int32 × Mm) :=
  (f_m_laysRecipe st).bind (fun q1 => (f_m_isPlace v1 v2 q1.2).bind (fun q2 => if q2.1 = 0 then (some ((-1 : Int32), q2.2)) else ((f_m_laysLayers q2.2).bind (fun q4 => if inb (((16 : Int32) * v2) + v1) 256 then some ((q4.2.1 64 (((16 : Int32) * v2) + v1).toNatClampNeg), q4.2) else none))))
theorem t_m_layers {G : Cx} (C : CX G prog_14_method_51_code "PaperStarsModel") (CR0 : CR G (Option.some FieldType.int)) (E : LAin (gly G)) (hnL : gnL G = 3) (hgd : 3 ≤ gd G) {q : Int32 × Mm} (hgr : gr G = some (.int q.1)) (hgs : gsf G = q.2) (v1 : Int32) (v2 : Int32) (st : Mm) (hf : f_m_layers v1 v2 st = some q) : AW G st 0 [(0, .ref (gad G 58)), (1, .int v1), (2, .int v2)] [] := by
  unfold f_m_layers at hf
  refine aw_aload_n C 0 0 (j := 0) rfl rfl (by decide +kernel) rfl ?_
  obtain ⟨q1, hq1, hf⟩ := ibd hf
  refine aw_callV C (rest := []) (c_m_laysRecipe E _ q1 hq1) tb_1304 yf_183 yi_183 (la_58 E) [] rfl rfl _ rfl (Nat.le_trans (by decide) hgd) (Nat.le_of_ble_eq_true rfl) (by decide +kernel) rfl ?_
  show AW _ _ _ _ []
  refine aw_aload_n C 0 0 (j := 0) rfl rfl (by decide +kernel) rfl ?_
  refine aw_iload_n C 1 1 (j := 1) rfl rfl (by decide +kernel) rfl ?_
  refine aw_iload_n C 2 2 (j := 2) rfl rfl (by decide +kernel) rfl ?_
  obtain ⟨q2, hq2, hf⟩ := ibd hf
  refine aw_callV C (rest := []) (c_m_isPlace E v1 v2 _ q2 hq2) tb_1218 yf_161 yi_161 (la_58 E) [.int v1, .int v2] rfl rfl _ rfl (Nat.le_trans (by decide) hgd) (Nat.le_of_ble_eq_true rfl) (by decide +kernel) rfl ?_
  show AW _ _ _ _ [.int q2.1]
  refine aw_if_ne C (tgt := 15) (off := 5) (by decide +kernel) (by decide) rfl (fun c3 => ?_) (fun c3 => ?_)
  · have hf := ift c3 hf
    refine aw_iconst C (i0 := -1) (v := -1) (by decide) (by decide +kernel) rfl ?_
    exact aw_iretq C CR0 hgr hgs hf (by decide +kernel)
  · have hf := iff_ c3 hf
    refine aw_aload_n C 0 0 (j := 0) rfl rfl (by decide +kernel) rfl ?_
    obtain ⟨q4, hq4, hf⟩ := ibd hf
    refine aw_callV C (rest := []) (c_m_laysLayers E _ q4 hq4) tb_1187 yf_153 yi_153 (la_58 E) [] rfl rfl _ rfl (Nat.le_trans (by decide) hgd) (Nat.le_of_ble_eq_true rfl) (by decide +kernel) rfl ?_
    show AW _ _ _ _ []
    refine aw_aload_n C 0 0 (j := 0) rfl rfl (by decide +kernel) rfl ?_
    refine aw_getr C (k := 17) fc_12 (la_58 E) rfl (by decide) tb_959 (by decide +kernel) rfl ?_
    refine aw_bipush C (i0 := 16) (v := 16) (by decide) (by decide +kernel) rfl ?_
    refine aw_iload_n C 2 2 (j := 2) rfl rfl (by decide +kernel) rfl ?_
    refine aw_imul C (by decide +kernel) rfl ?_
    refine aw_iload_n C 1 1 (j := 1) rfl rfl (by decide +kernel) rfl ?_
    refine aw_iadd C (by decide +kernel) rfl ?_
    obtain ⟨g5, hf⟩ := igd hf
    refine aw_iald C (la_64 E) g5 (by decide +kernel) rfl ?_
    exact aw_iretq C CR0 hgr hgs hf (by decide +kernel)
theorem c_m_layers {lay : Ly} (E : LAin lay) (v1 : Int32) (v2 : Int32) (st : Mm) (q : Int32 × Mm) (hf : f_m_layers v1 v2 st = some q) : Con 3 Y186 prog_14_method_51_code 3 (Option.some FieldType.int) lay (fun ad => [.ref (ad 58), .int v1, .int v2]) st (some (.int q.1)) q.2 :=
  am_met yf_186.2.2.2.2.2 (fun ad => Nat.le_of_ble_eq_true rfl) (fun G C CR0 e1 e2 e3 e4 e5 => t_m_layers C CR0 (by rw [e1]; exact E) e2 (Nat.le_of_eq e5.symm) e3 e4 v1 v2 st hf)
def f_m_snipped (v1 : Int32) (v2 : Int32) (st : Mm) : Option (Int32 × Mm) :=
  (f_m_laysRecipe st).bind (fun q1 => (f_m_isPlace v1 v2 q1.2).bind (fun q2 => if q2.1 = 0 then (some ((-1 : Int32), q2.2)) else (if inb (((16 : Int32) * v2) + v1) 256 then if (q2.2.1 61 (((16 : Int32) * v2) + v1).toNatClampNeg) = 0 then (some ((0 : Int32), q2.2)) else (some ((1 : Int32), q2.2)) else none)))
theorem t_m_snipped {G : Cx} (C : CX G prog_14_method_52_code "PaperStarsModel") (CR0 : CR G (Option.some FieldType.int)) (E : LAin (gly G)) (hnL : gnL G = 3) (hgd : 2 ≤ gd G) {q : Int32 × Mm} (hgr : gr G = some (.int q.1)) (hgs : gsf G = q.2) (v1 : Int32) (v2 : Int32) (st : Mm) (hf : f_m_snipped v1 v2 st = some q) : AW G st 0 [(0, .ref (gad G 58)), (1, .int v1), (2, .int v2)] [] := by
  unfold f_m_snipped at hf
  refine aw_aload_n C 0 0 (j := 0) rfl rfl (by decide +kernel) rfl ?_
  obtain ⟨q1, hq1, hf⟩ := ibd hf
  refine aw_callV C (rest := []) (c_m_laysRecipe E _ q1 hq1) tb_1304 yf_183 yi_183 (la_58 E) [] rfl rfl _ rfl (Nat.le_trans (by decide) hgd) (Nat.le_of_ble_eq_true rfl) (by decide +kernel) rfl ?_
  show AW _ _ _ _ []
  refine aw_aload_n C 0 0 (j := 0) rfl rfl (by decide +kernel) rfl ?_
  refine aw_iload_n C 1 1 (j := 1) rfl rfl (by decide +kernel) rfl ?_
  refine aw_iload_n C 2 2 (j := 2) rfl rfl (by decide +kernel) rfl ?_
  obtain ⟨q2, hq2, hf⟩ := ibd hf
  refine aw_callV C (rest := []) (c_m_isPlace E v1 v2 _ q2 hq2) tb_1218 yf_161 yi_161 (la_58 E) [.int v1, .int v2] rfl rfl _ rfl (Nat.le_trans (by decide) hgd) (Nat.le_of_ble_eq_true rfl) (by decide +kernel) rfl ?_
  show AW _ _ _ _ [.int q2.1]
  refine aw_if_ne C (tgt := 17) (off := 7) (by decide +kernel) (by decide) rfl (fun c3 => ?_) (fun c3 => ?_)
  · have hf := ift c3 hf
    refine aw_iconst C (i0 := -1) (v := -1) (by decide) (by decide +kernel) rfl ?_
    refine aw_goto C (tgt := 36) (off := 22) (by decide +kernel) (by decide) ?_
    exact aw_iretq C CR0 hgr hgs hf (by decide +kernel)
  · have hf := iff_ c3 hf
    refine aw_aload_n C 0 0 (j := 0) rfl rfl (by decide +kernel) rfl ?_
    refine aw_getr C (k := 6) fc_12 (la_58 E) rfl (by decide) tb_948 (by decide +kernel) rfl ?_
    refine aw_bipush C (i0 := 16) (v := 16) (by decide) (by decide +kernel) rfl ?_
    refine aw_iload_n C 2 2 (j := 2) rfl rfl (by decide +kernel) rfl ?_
    refine aw_imul C (by decide +kernel) rfl ?_
    refine aw_iload_n C 1 1 (j := 1) rfl rfl (by decide +kernel) rfl ?_
    refine aw_iadd C (by decide +kernel) rfl ?_
    obtain ⟨g4, hf⟩ := igd hf
    refine aw_zald C (la_61 E) g4 (by decide +kernel) rfl ?_
    refine aw_if_eq C (tgt := 35) (off := 7) (by decide +kernel) (by decide) rfl (fun c5 => ?_) (fun c5 => ?_)
    · have hf := ift c5 hf
      refine aw_iconst C (i0 := 0) (v := 0) (by decide) (by decide +kernel) rfl ?_
      exact aw_iretq C CR0 hgr hgs hf (by decide +kernel)
    · have hf := iff_ c5 hf
      refine aw_iconst C (i0 := 1) (v := 1) (by decide) (by decide +kernel) rfl ?_
      refine aw_goto C (tgt := 36) (off := 4) (by decide +kernel) (by decide) ?_
      exact aw_iretq C CR0 hgr hgs hf (by decide +kernel)
theorem c_m_snipped {lay : Ly} (E : LAin lay) (v1 : Int32) (v2 : Int32) (st : Mm) (q : Int32 × Mm) (hf : f_m_snipped v1 v2 st = some q) : Con 2 Y187 prog_14_method_52_code 3 (Option.some FieldType.int) lay (fun ad => [.ref (ad 58), .int v1, .int v2]) st (some (.int q.1)) q.2 :=
  am_met yf_187.2.2.2.2.2 (fun ad => Nat.le_of_ble_eq_true rfl) (fun G C CR0 e1 e2 e3 e4 e5 => t_m_snipped C CR0 (by rw [e1]; exact E) e2 (Nat.le_of_eq e5.symm) e3 e4 v1 v2 st hf)
def f_m_isCell (v1 : Int32) (v2 : Int32) (st : Mm) : Option (Int32 × Mm) :=
  if v1 < 0 then (some ((0 : Int32), st)) else (if (st.1 58 0) ≤ v1 then (some ((0 : Int32), st)) else (if v2 < 0 then (some ((0 : Int32), st)) else (if (st.1 58 0) ≤ v2 then (some ((0 : Int32), st)) else (some ((1 : Int32), st)))))
theorem t_m_isCell {G : Cx} (C : CX G prog_14_method_8_code "PaperStarsModel") (CR0 : CR G (Option.some FieldType.boolean)) (E : LAin (gly G)) (hnL : gnL G = 3) (hgd : 0 ≤ gd G) {q : Int32 × Mm} (hgr : gr G = some (.int q.1)) (hgs : gsf G = q.2) (v1 : Int32) (v2 : Int32) (st : Mm) (hf : f_m_isCell v1 v2 st = some q) : AW G st 0 [(0, .ref (gad G 58)), (1, .int v1), (2, .int v2)] [] := by
  unfold f_m_isCell at hf
  refine aw_iload_n C 1 1 (j := 1) rfl rfl (by decide +kernel) rfl ?_
  refine aw_if_lt C (tgt := 28) (off := 27) (by decide +kernel) (by decide) rfl (fun c1 => ?_) (fun c1 => ?_)
  · have hf := ift c1 hf
    refine aw_iconst C (i0 := 0) (v := 0) (by decide) (by decide +kernel) rfl ?_
    exact aw_zretq C CR0 hgr hgs (by decide) hf (by decide +kernel)
  · have hf := iff_ c1 hf
    refine aw_iload_n C 1 1 (j := 1) rfl rfl (by decide +kernel) rfl ?_
    refine aw_aload_n C 0 0 (j := 0) rfl rfl (by decide +kernel) rfl ?_
    refine aw_get C (k := 0) fc_12 (la_58 E) rfl (by decide) tb_942 (by decide +kernel) rfl ?_
    refine aw_icmp_ge C (tgt := 28) (off := 19) (by decide +kernel) (by decide) rfl (fun c2 => ?_) (fun c2 => ?_)
    · have hf := ift c2 hf
      refine aw_iconst C (i0 := 0) (v := 0) (by decide) (by decide +kernel) rfl ?_
      exact aw_zretq C CR0 hgr hgs (by decide) hf (by decide +kernel)
    · have hf := iff_ c2 hf
      refine aw_iload_n C 2 2 (j := 2) rfl rfl (by decide +kernel) rfl ?_
      refine aw_if_lt C (tgt := 28) (off := 15) (by decide +kernel) (by decide) rfl (fun c3 => ?_) (fun c3 => ?_)
      · have hf := ift c3 hf
        refine aw_iconst C (i0 := 0) (v := 0) (by decide) (by decide +kernel) rfl ?_
        exact aw_zretq C CR0 hgr hgs (by decide) hf (by decide +kernel)
      · have hf := iff_ c3 hf
        refine aw_iload_n C 2 2 (j := 2) rfl rfl (by decide +kernel) rfl ?_
        refine aw_aload_n C 0 0 (j := 0) rfl rfl (by decide +kernel) rfl ?_
        refine aw_get C (k := 0) fc_12 (la_58 E) rfl (by decide) tb_942 (by decide +kernel) rfl ?_
        refine aw_icmp_ge C (tgt := 28) (off := 7) (by decide +kernel) (by decide) rfl (fun c4 => ?_) (fun c4 => ?_)
        · have hf := ift c4 hf
          refine aw_iconst C (i0 := 0) (v := 0) (by decide) (by decide +kernel) rfl ?_
          exact aw_zretq C CR0 hgr hgs (by decide) hf (by decide +kernel)
        · have hf := iff_ c4 hf
          refine aw_iconst C (i0 := 1) (v := 1) (by decide) (by decide +kernel) rfl ?_
          refine aw_goto C (tgt := 29) (off := 4) (by decide +kernel) (by decide) ?_
          exact aw_zretq C CR0 hgr hgs (by decide) hf (by decide +kernel)
theorem c_m_isCell {lay : Ly} (E : LAin lay) (v1 : Int32) (v2 : Int32) (st : Mm) (q : Int32 × Mm) (hf : f_m_isCell v1 v2 st = some q) : Con 0 Y189 prog_14_method_8_code 3 (Option.some FieldType.boolean) lay (fun ad => [.ref (ad 58), .int v1, .int v2]) st (some (.int q.1)) q.2 :=
  am_met yf_189.2.2.2.2.2 (fun ad => Nat.le_of_ble_eq_true rfl) (fun G C CR0 e1 e2 e3 e4 e5 => t_m_isCell C CR0 (by rw [e1]; exact E) e2 (Nat.le_of_eq e5.symm) e3 e4 v1 v2 st hf)
def f_m_hasPaper (v1 : Int32) (v2 : Int32) (v3 : Int32) (st : Mm) : Option (Int32 × Mm) :=
  (f_m_placeOf v1 v2 v3 st).bind (fun q1 => if q1.1 = (-1 : Int32) then (some ((1 : Int32), q1.2)) else (if inb q1.1 256 then if (q1.2.1 61 q1.1.toNatClampNeg) = 0 then (some ((1 : Int32), q1.2)) else (some ((0 : Int32), q1.2)) else none))
theorem t_m_hasPaper {G : Cx} (C : CX G prog_14_method_53_code "PaperStarsModel") (CR0 : CR G (Option.some FieldType.boolean)) (E : LAin (gly G)) (hnL : gnL G = 5) (hgd : 2 ≤ gd G) {q : Int32 × Mm} (hgr : gr G = some (.int q.1)) (hgs : gsf G = q.2) (v1 : Int32) (v2 : Int32) (v3 : Int32) (st : Mm) (hf : f_m_hasPaper v1 v2 v3 st = some q) : AW G st 0 [(0, .ref (gad G 58)), (1, .int v1), (2, .int v2), (3, .int v3)] [] := by
  unfold f_m_hasPaper at hf
  refine aw_aload_n C 0 0 (j := 0) rfl rfl (by decide +kernel) rfl ?_
  refine aw_iload_n C 1 1 (j := 1) rfl rfl (by decide +kernel) rfl ?_
  refine aw_iload_n C 2 2 (j := 2) rfl rfl (by decide +kernel) rfl ?_
  refine aw_iload_n C 3 3 (j := 3) rfl rfl (by decide +kernel) rfl ?_
  obtain ⟨q1, hq1, hf⟩ := ibd hf
  refine aw_callV C (rest := []) (c_m_placeOf E v1 v2 v3 _ q1 hq1) tb_1191 yf_154 yi_154 (la_58 E) [.int v1, .int v2, .int v3] rfl rfl _ rfl (Nat.le_trans (by decide) hgd) (Nat.le_of_ble_eq_true rfl) (by decide +kernel) rfl ?_
  show AW _ _ _ _ [.int q1.1]
  refine aw_istore C [(4, .int q1.1), (0, .ref (gad G 58)), (1, .int v1), (2, .int v2), (3, .int v3)] (by rw [hnL]; decide) rfl (by decide +kernel) rfl ?_
  refine aw_iload C 4 0 rfl (by decide +kernel) rfl ?_
  refine aw_iconst C (i0 := -1) (v := -1) (by decide) (by decide +kernel) rfl ?_
  refine aw_icmp_eq C (tgt := 25) (off := 13) (by decide +kernel) (by decide) rfl (fun c2 => ?_) (fun c2 => ?_)
  · have hf := ift c2 hf
    refine aw_iconst C (i0 := 1) (v := 1) (by decide) (by decide +kernel) rfl ?_
    refine aw_goto C (tgt := 30) (off := 4) (by decide +kernel) (by decide) ?_
    exact aw_zretq C CR0 hgr hgs (by decide) hf (by decide +kernel)
  · have hf := iff_ c2 hf
    refine aw_aload_n C 0 1 (j := 0) rfl rfl (by decide +kernel) rfl ?_
    refine aw_getr C (k := 6) fc_12 (la_58 E) rfl (by decide) tb_948 (by decide +kernel) rfl ?_
    refine aw_iload C 4 0 rfl (by decide +kernel) rfl ?_
    obtain ⟨g3, hf⟩ := igd hf
    refine aw_zald C (la_61 E) g3 (by decide +kernel) rfl ?_
    refine aw_if_ne C (tgt := 29) (off := 7) (by decide +kernel) (by decide) rfl (fun c4 => ?_) (fun c4 => ?_)
    · have hf := ift c4 hf
      refine aw_iconst C (i0 := 1) (v := 1) (by decide) (by decide +kernel) rfl ?_
      refine aw_goto C (tgt := 30) (off := 4) (by decide +kernel) (by decide) ?_
      exact aw_zretq C CR0 hgr hgs (by decide) hf (by decide +kernel)
    · have hf := iff_ c4 hf
      refine aw_iconst C (i0 := 0) (v := 0) (by decide) (by decide +kernel) rfl ?_
      exact aw_zretq C CR0 hgr hgs (by decide) hf (by decide +kernel)
theorem c_m_hasPaper {lay : Ly} (E : LAin lay) (v1 : Int32) (v2 : Int32) (v3 : Int32) (st : Mm) (q : Int32 × Mm) (hf : f_m_hasPaper v1 v2 v3 st = some q) : Con 2 Y191 prog_14_method_53_code 5 (Option.some FieldType.boolean) lay (fun ad => [.ref (ad 58), .int v1, .int v2, .int v3]) st (some (.int q.1)) q.2 :=
  am_met yf_191.2.2.2.2.2 (fun ad => Nat.le_of_ble_eq_true rfl) (fun G C CR0 e1 e2 e3 e4 e5 => t_m_hasPaper C CR0 (by rw [e1]; exact E) e2 (Nat.le_of_eq e5.symm) e3 e4 v1 v2 v3 st hf)
def b_m_opens0_6 (k6 : Int32 → Int32 → Mm → Option (Unit × Mm)) (v1 : Int32) (v2 : Int32) (st : Mm) : Option (Unit × Mm) :=
  if (256 : Int32) ≤ v2 then (some ((), st)) else ((f_m_isCell (v2 - v2 / (16 : Int32) * (16 : Int32)) (v2 / (16 : Int32)) st).bind (fun q2 => if q2.1 = 0 then (if inb v2 256 then lt_ (v2 + (1 : Int32)) (fun a5 => k6 v1 a5 (sI q2.2 72 v2.toNatClampNeg (0 : Int32))) else none) else ((f_m_hasPaper (v2 - v2 / (16 : Int32) * (16 : Int32)) (v2 / (16 : Int32)) v1 q2.2).bind (fun q6 => if q6.1 = 0 then (if inb v2 256 then lt_ (v2 + (1 : Int32)) (fun a9 => k6 v1 a9 (sI q6.2 72 v2.toNatClampNeg (0 : Int32))) else none) else (if inb v2 256 then lt_ (v2 + (1 : Int32)) (fun a11 => k6 v1 a11 (sI q6.2 72 v2.toNatClampNeg (1 : Int32))) else none)))))
def f_m_opens0_6 : Nat → Int32 → Int32 → Mm → Option (Unit × Mm)
  | 0 => fun _ _ _ => none
  | n + 1 => b_m_opens0_6 (f_m_opens0_6 n)
def f_m_opens0 (v1 : Int32) (st : Mm) : Option (Unit × Mm) :=
  (f_m_laysRecipe st).bind (fun q1 => f_m_opens0_6 1000000 v1 (0 : Int32) q1.2)
theorem t_m_opens0_6 {G : Cx} (C : CX G prog_14_method_54_code "PaperStarsModel") (CR0 : CR G (Option.none)) (E : LAin (gly G)) (hnL : gnL G = 3) (hgd : 3 ≤ gd G) {q : Unit × Mm} (hgr : gr G = none) (hgs : gsf G = q.2) (k6 : Int32 → Int32 → Mm → Option (Unit × Mm)) (hk6 : ∀ (v1 : Int32) (v2 : Int32) (st : Mm), k6 v1 v2 st = some q → AW G st 6 [(0, .ref (gad G 58)), (1, .int v1), (2, .int v2)] []) (v1 : Int32) (v2 : Int32) (st : Mm) (hf : b_m_opens0_6 k6 v1 v2 st = some q) : AW G st 6 [(0, .ref (gad G 58)), (1, .int v1), (2, .int v2)] [] := by
  unfold b_m_opens0_6 at hf
  refine aw_iload_n C 2 2 (j := 2) rfl rfl (by decide +kernel) rfl ?_
  refine aw_sipush C (i0 := 256) (v := 256) (by decide) (by decide +kernel) rfl ?_
  refine aw_icmp_ge C (tgt := 61) (off := 51) (by decide +kernel) (by decide) rfl (fun c1 => ?_) (fun c1 => ?_)
  · have hf := ift c1 hf
    exact aw_vretq C CR0 hgr hgs hf (by decide +kernel)
  · have hf := iff_ c1 hf
    refine aw_aload_n C 0 0 (j := 0) rfl rfl (by decide +kernel) rfl ?_
    refine aw_getr C (k := 36) fc_12 (la_58 E) rfl (by decide) tb_978 (by decide +kernel) rfl ?_
    refine aw_iload_n C 2 2 (j := 2) rfl rfl (by decide +kernel) rfl ?_
    refine aw_aload_n C 0 0 (j := 0) rfl rfl (by decide +kernel) rfl ?_
    refine aw_iload_n C 2 2 (j := 2) rfl rfl (by decide +kernel) rfl ?_
    refine aw_bipush C (i0 := 16) (v := 16) (by decide) (by decide +kernel) rfl ?_
    refine aw_irem C (by decide) (by decide +kernel) rfl ?_
    refine aw_iload_n C 2 2 (j := 2) rfl rfl (by decide +kernel) rfl ?_
    refine aw_bipush C (i0 := 16) (v := 16) (by decide) (by decide +kernel) rfl ?_
    refine aw_idiv C (by decide) (by decide +kernel) rfl ?_
    obtain ⟨q2, hq2, hf⟩ := ibd hf
    refine aw_callV C (rest := [.int v2, .ref (gad G 72)]) (c_m_isCell E (v2 - v2 / (16 : Int32) * (16 : Int32)) (v2 / (16 : Int32)) _ q2 hq2) tb_1328 yf_189 yi_189 (la_58 E) [.int (v2 - v2 / (16 : Int32) * (16 : Int32)), .int (v2 / (16 : Int32))] rfl rfl _ rfl (Nat.le_trans (by decide) hgd) (Nat.le_of_ble_eq_true rfl) (by decide +kernel) rfl ?_
    show AW _ _ _ _ [.int q2.1, .int v2, .ref (gad G 72)]
    refine aw_if_eq C (tgt := 53) (off := 23) (by decide +kernel) (by decide) rfl (fun c3 => ?_) (fun c3 => ?_)
    · have hf := ift c3 hf
      refine aw_iconst C (i0 := 0) (v := 0) (by decide) (by decide +kernel) rfl ?_
      obtain ⟨g4, hf⟩ := igd hf
      refine aw_zastB C (la_72 E) g4 (by decide) (by decide +kernel) rfl ?_
      obtain ⟨a5, ha5⟩ : ∃ z, z = (v2 + (1 : Int32)) := ⟨_, rfl⟩
      have hf := ilt ha5 hf
      refine aw_iinc C [(2, .int a5), (0, .ref (gad G 58)), (1, .int v1)] 2 (n := 1) rfl (by rw [ha5]; rfl) (by rw [hnL]; decide) rfl (by decide +kernel) rfl ?_
      refine aw_goto C (tgt := 6) (off := -52) (by decide +kernel) (by decide) ?_
      refine aw_sub [(0, .ref (gad G 58)), (1, .int v1), (2, .int a5)] [1, 2, 0] rfl ?_
      exact hk6 v1 a5 _ hf
    · have hf := iff_ c3 hf
      refine aw_aload_n C 0 0 (j := 0) rfl rfl (by decide +kernel) rfl ?_
      refine aw_iload_n C 2 2 (j := 2) rfl rfl (by decide +kernel) rfl ?_
      refine aw_bipush C (i0 := 16) (v := 16) (by decide) (by decide +kernel) rfl ?_
      refine aw_irem C (by decide) (by decide +kernel) rfl ?_
      refine aw_iload_n C 2 2 (j := 2) rfl rfl (by decide +kernel) rfl ?_
      refine aw_bipush C (i0 := 16) (v := 16) (by decide) (by decide +kernel) rfl ?_
      refine aw_idiv C (by decide) (by decide +kernel) rfl ?_
      refine aw_iload_n C 1 1 (j := 1) rfl rfl (by decide +kernel) rfl ?_
      obtain ⟨q6, hq6, hf⟩ := ibd hf
      refine aw_callV C (rest := [.int v2, .ref (gad G 72)]) (c_m_hasPaper E (v2 - v2 / (16 : Int32) * (16 : Int32)) (v2 / (16 : Int32)) v1 _ q6 hq6) tb_1336 yf_191 yi_191 (la_58 E) [.int (v2 - v2 / (16 : Int32) * (16 : Int32)), .int (v2 / (16 : Int32)), .int v1] rfl rfl _ rfl (Nat.le_trans (by decide) hgd) (Nat.le_of_ble_eq_true rfl) (by decide +kernel) rfl ?_
      show AW _ _ _ _ [.int q6.1, .int v2, .ref (gad G 72)]
      refine aw_if_eq C (tgt := 53) (off := 7) (by decide +kernel) (by decide) rfl (fun c7 => ?_) (fun c7 => ?_)
      · have hf := ift c7 hf
        refine aw_iconst C (i0 := 0) (v := 0) (by decide) (by decide +kernel) rfl ?_
        obtain ⟨g8, hf⟩ := igd hf
        refine aw_zastB C (la_72 E) g8 (by decide) (by decide +kernel) rfl ?_
        obtain ⟨a9, ha9⟩ : ∃ z, z = (v2 + (1 : Int32)) := ⟨_, rfl⟩
        have hf := ilt ha9 hf
        refine aw_iinc C [(2, .int a9), (0, .ref (gad G 58)), (1, .int v1)] 2 (n := 1) rfl (by rw [ha9]; rfl) (by rw [hnL]; decide) rfl (by decide +kernel) rfl ?_
        refine aw_goto C (tgt := 6) (off := -52) (by decide +kernel) (by decide) ?_
        refine aw_sub [(0, .ref (gad G 58)), (1, .int v1), (2, .int a9)] [1, 2, 0] rfl ?_
        exact hk6 v1 a9 _ hf
      · have hf := iff_ c7 hf
        refine aw_iconst C (i0 := 1) (v := 1) (by decide) (by decide +kernel) rfl ?_
        refine aw_goto C (tgt := 54) (off := 4) (by decide +kernel) (by decide) ?_
        obtain ⟨g10, hf⟩ := igd hf
        refine aw_zastB C (la_72 E) g10 (by decide) (by decide +kernel) rfl ?_
        obtain ⟨a11, ha11⟩ : ∃ z, z = (v2 + (1 : Int32)) := ⟨_, rfl⟩
        have hf := ilt ha11 hf
        refine aw_iinc C [(2, .int a11), (0, .ref (gad G 58)), (1, .int v1)] 2 (n := 1) rfl (by rw [ha11]; rfl) (by rw [hnL]; decide) rfl (by decide +kernel) rfl ?_
        refine aw_goto C (tgt := 6) (off := -52) (by decide +kernel) (by decide) ?_
        refine aw_sub [(0, .ref (gad G 58)), (1, .int v1), (2, .int a11)] [1, 2, 0] rfl ?_
        exact hk6 v1 a11 _ hf
theorem u_m_opens0_6 {G : Cx} (C : CX G prog_14_method_54_code "PaperStarsModel") (CR0 : CR G (Option.none)) (E : LAin (gly G)) (hnL : gnL G = 3) (hgd : 3 ≤ gd G) {q : Unit × Mm} (hgr : gr G = none) (hgs : gsf G = q.2) : ∀ (n : Nat) (v1 : Int32) (v2 : Int32) (st : Mm), f_m_opens0_6 n v1 v2 st = some q → AW G st 6 [(0, .ref (gad G 58)), (1, .int v1), (2, .int v2)] [] := by
  intro n
  induction n with
  | zero => intro v1 v2 st hf; cases hf
  | succ n ih => intro v1 v2 st hf; exact t_m_opens0_6 C CR0 E hnL hgd hgr hgs (f_m_opens0_6 n) ih v1 v2 st hf
theorem t_m_opens0 {G : Cx} (C : CX G prog_14_method_54_code "PaperStarsModel") (CR0 : CR G (Option.none)) (E : LAin (gly G)) (hnL : gnL G = 3) (hgd : 3 ≤ gd G) {q : Unit × Mm} (hgr : gr G = none) (hgs : gsf G = q.2) (v1 : Int32) (st : Mm) (hf : f_m_opens0 v1 st = some q) : AW G st 0 [(0, .ref (gad G 58)), (1, .int v1)] [] := by
  unfold f_m_opens0 at hf
  refine aw_aload_n C 0 0 (j := 0) rfl rfl (by decide +kernel) rfl ?_
  obtain ⟨q1, hq1, hf⟩ := ibd hf
  refine aw_callV C (rest := []) (c_m_laysRecipe E _ q1 hq1) tb_1304 yf_183 yi_183 (la_58 E) [] rfl rfl _ rfl (Nat.le_trans (by decide) hgd) (Nat.le_of_ble_eq_true rfl) (by decide +kernel) rfl ?_
  show AW _ _ _ _ []
  refine aw_iconst C (i0 := 0) (v := 0) (by decide) (by decide +kernel) rfl ?_
  refine aw_istore_n C [(2, .int (0 : Int32)), (0, .ref (gad G 58)), (1, .int v1)] (j := 2) rfl (by rw [hnL]; decide) rfl (by decide +kernel) rfl ?_
  refine aw_sub [(0, .ref (gad G 58)), (1, .int v1), (2, .int (0 : Int32))] [1, 2, 0] rfl ?_
  exact u_m_opens0_6 C CR0 E hnL hgd hgr hgs _ v1 (0 : Int32) _ hf
theorem c_m_opens0 {lay : Ly} (E : LAin lay) (v1 : Int32) (st : Mm) (q : Unit × Mm) (hf : f_m_opens0 v1 st = some q) : Con 3 Y190 prog_14_method_54_code 3 (Option.none) lay (fun ad => [.ref (ad 58), .int v1]) st (none) q.2 :=
  am_met yf_190.2.2.2.2.2 (fun ad => Nat.le_of_ble_eq_true rfl) (fun G C CR0 e1 e2 e3 e4 e5 => t_m_opens0 C CR0 (by rw [e1]; exact E) e2 (Nat.le_of_eq e5.symm) e3 e4 v1 st hf)
def f_m_opened (v1 : Int32) (v2 : Int32) (st : Mm) : Option (Int32 × Mm) :=
  (f_m_isCell v1 v2 st).bind (fun q1 => if q1.1 = 0 then (some ((-1 : Int32), q1.2)) else ((f_m_opens0 (0 : Int32) q1.2).bind (fun q3 => if inb (((16 : Int32) * v2) + v1) 256 then if (q3.2.1 72 (((16 : Int32) * v2) + v1).toNatClampNeg) = 0 then (some ((0 : Int32), q3.2)) else (some ((1 : Int32), q3.2)) else none)))
theorem t_m_opened {G : Cx} (C : CX G prog_14_method_55_code "PaperStarsModel") (CR0 : CR G (Option.some FieldType.int)) (E : LAin (gly G)) (hnL : gnL G = 3) (hgd : 4 ≤ gd G) {q : Int32 × Mm} (hgr : gr G = some (.int q.1)) (hgs : gsf G = q.2) (v1 : Int32) (v2 : Int32) (st : Mm) (hf : f_m_opened v1 v2 st = some q) : AW G st 0 [(0, .ref (gad G 58)), (1, .int v1), (2, .int v2)] [] := by
  unfold f_m_opened at hf
  refine aw_aload_n C 0 0 (j := 0) rfl rfl (by decide +kernel) rfl ?_
  refine aw_iload_n C 1 1 (j := 1) rfl rfl (by decide +kernel) rfl ?_
  refine aw_iload_n C 2 2 (j := 2) rfl rfl (by decide +kernel) rfl ?_
  obtain ⟨q1, hq1, hf⟩ := ibd hf
  refine aw_callV C (rest := []) (c_m_isCell E v1 v2 _ q1 hq1) tb_1328 yf_189 yi_189 (la_58 E) [.int v1, .int v2] rfl rfl _ rfl (Nat.le_trans (by decide) hgd) (Nat.le_of_ble_eq_true rfl) (by decide +kernel) rfl ?_
  show AW _ _ _ _ [.int q1.1]
  refine aw_if_ne C (tgt := 11) (off := 5) (by decide +kernel) (by decide) rfl (fun c2 => ?_) (fun c2 => ?_)
  · have hf := ift c2 hf
    refine aw_iconst C (i0 := -1) (v := -1) (by decide) (by decide +kernel) rfl ?_
    exact aw_iretq C CR0 hgr hgs hf (by decide +kernel)
  · have hf := iff_ c2 hf
    refine aw_aload_n C 0 0 (j := 0) rfl rfl (by decide +kernel) rfl ?_
    refine aw_iconst C (i0 := 0) (v := 0) (by decide) (by decide +kernel) rfl ?_
    obtain ⟨q3, hq3, hf⟩ := ibd hf
    refine aw_callV C (rest := []) (c_m_opens0 E (0 : Int32) _ q3 hq3) tb_1332 yf_190 yi_190 (la_58 E) [.int (0 : Int32)] rfl rfl _ rfl (Nat.le_trans (by decide) hgd) (Nat.le_of_ble_eq_true rfl) (by decide +kernel) rfl ?_
    show AW _ _ _ _ []
    refine aw_aload_n C 0 0 (j := 0) rfl rfl (by decide +kernel) rfl ?_
    refine aw_getr C (k := 36) fc_12 (la_58 E) rfl (by decide) tb_978 (by decide +kernel) rfl ?_
    refine aw_bipush C (i0 := 16) (v := 16) (by decide) (by decide +kernel) rfl ?_
    refine aw_iload_n C 2 2 (j := 2) rfl rfl (by decide +kernel) rfl ?_
    refine aw_imul C (by decide +kernel) rfl ?_
    refine aw_iload_n C 1 1 (j := 1) rfl rfl (by decide +kernel) rfl ?_
    refine aw_iadd C (by decide +kernel) rfl ?_
    obtain ⟨g4, hf⟩ := igd hf
    refine aw_zald C (la_72 E) g4 (by decide +kernel) rfl ?_
    refine aw_if_eq C (tgt := 34) (off := 7) (by decide +kernel) (by decide) rfl (fun c5 => ?_) (fun c5 => ?_)
    · have hf := ift c5 hf
      refine aw_iconst C (i0 := 0) (v := 0) (by decide) (by decide +kernel) rfl ?_
      exact aw_iretq C CR0 hgr hgs hf (by decide +kernel)
    · have hf := iff_ c5 hf
      refine aw_iconst C (i0 := 1) (v := 1) (by decide) (by decide +kernel) rfl ?_
      refine aw_goto C (tgt := 35) (off := 4) (by decide +kernel) (by decide) ?_
      exact aw_iretq C CR0 hgr hgs hf (by decide +kernel)
theorem c_m_opened {lay : Ly} (E : LAin lay) (v1 : Int32) (v2 : Int32) (st : Mm) (q : Int32 × Mm) (hf : f_m_opened v1 v2 st = some q) : Con 4 Y188 prog_14_method_55_code 3 (Option.some FieldType.int) lay (fun ad => [.ref (ad 58), .int v1, .int v2]) st (some (.int q.1)) q.2 :=
  am_met yf_188.2.2.2.2.2 (fun ad => Nat.le_of_ble_eq_true rfl) (fun G C CR0 e1 e2 e3 e4 e5 => t_m_opened C CR0 (by rw [e1]; exact E) e2 (Nat.le_of_eq e5.symm) e3 e4 v1 v2 st hf)
def b_m_beside_47 (v3 : Int32) (s0 : Int32) (s1 : Int32) (st : Mm) : Option (Int32 × Mm) :=
  lt_ (s0 + s1) (fun a1 => (f_m_isCell v3 a1 st).bind (fun q2 => if q2.1 = 0 then (some ((-1 : Int32), q2.2)) else (some ((((16 : Int32) * a1) + v3), q2.2))))
def b_m_beside_22 (v1 : Int32) (v2 : Int32) (s0 : Int32) (s1 : Int32) (st : Mm) : Option (Int32 × Mm) :=
  lt_ (s0 + s1) (fun a1 => if v2 = (2 : Int32) then (b_m_beside_47 a1 (v1 / (16 : Int32)) (1 : Int32) st) else (if v2 = (3 : Int32) then (b_m_beside_47 a1 (v1 / (16 : Int32)) (-1 : Int32) st) else (b_m_beside_47 a1 (v1 / (16 : Int32)) (0 : Int32) st)))
def f_m_beside (v1 : Int32) (v2 : Int32) (st : Mm) : Option (Int32 × Mm) :=
  if v2 = 0 then (b_m_beside_22 v1 v2 (v1 - v1 / (16 : Int32) * (16 : Int32)) (1 : Int32) st) else (if v2 = (1 : Int32) then (b_m_beside_22 v1 v2 (v1 - v1 / (16 : Int32) * (16 : Int32)) (-1 : Int32) st) else (b_m_beside_22 v1 v2 (v1 - v1 / (16 : Int32) * (16 : Int32)) (0 : Int32) st))
theorem t_m_beside_47 {G : Cx} (C : CX G prog_14_method_57_code "PaperStarsModel") (CR0 : CR G (Option.some FieldType.int)) (E : LAin (gly G)) (hnL : gnL G = 5) (hgd : 1 ≤ gd G) {q : Int32 × Mm} (hgr : gr G = some (.int q.1)) (hgs : gsf G = q.2) (v3 : Int32) (s0 : Int32) (s1 : Int32) (st : Mm) (hf : b_m_beside_47 v3 s0 s1 st = some q) : AW G st 47 [(0, .ref (gad G 58)), (3, .int v3)] [.int s1, .int s0] := by
  unfold b_m_beside_47 at hf
  refine aw_iadd C (by decide +kernel) rfl ?_
  obtain ⟨a1, ha1⟩ : ∃ z, z = (s0 + s1) := ⟨_, rfl⟩
  refine aw_nmi ha1 ?_
  have hf := ilt ha1 hf
  refine aw_istore C [(4, .int a1), (0, .ref (gad G 58)), (3, .int v3)] (by rw [hnL]; decide) rfl (by decide +kernel) rfl ?_
  refine aw_aload_n C 0 1 (j := 0) rfl rfl (by decide +kernel) rfl ?_
  refine aw_iload_n C 3 2 (j := 3) rfl rfl (by decide +kernel) rfl ?_
  refine aw_iload C 4 0 rfl (by decide +kernel) rfl ?_
  obtain ⟨q2, hq2, hf⟩ := ibd hf
  refine aw_callV C (rest := []) (c_m_isCell E v3 a1 _ q2 hq2) tb_1328 yf_189 yi_189 (la_58 E) [.int v3, .int a1] rfl rfl _ rfl (Nat.le_trans (by decide) hgd) (Nat.le_of_ble_eq_true rfl) (by decide +kernel) rfl ?_
  show AW _ _ _ _ [.int q2.1]
  refine aw_if_eq C (tgt := 70) (off := 13) (by decide +kernel) (by decide) rfl (fun c3 => ?_) (fun c3 => ?_)
  · have hf := ift c3 hf
    refine aw_iconst C (i0 := -1) (v := -1) (by decide) (by decide +kernel) rfl ?_
    exact aw_iretq C CR0 hgr hgs hf (by decide +kernel)
  · have hf := iff_ c3 hf
    refine aw_bipush C (i0 := 16) (v := 16) (by decide) (by decide +kernel) rfl ?_
    refine aw_iload C 4 0 rfl (by decide +kernel) rfl ?_
    refine aw_imul C (by decide +kernel) rfl ?_
    refine aw_iload_n C 3 2 (j := 3) rfl rfl (by decide +kernel) rfl ?_
    refine aw_iadd C (by decide +kernel) rfl ?_
    refine aw_goto C (tgt := 71) (off := 4) (by decide +kernel) (by decide) ?_
    exact aw_iretq C CR0 hgr hgs hf (by decide +kernel)
theorem t_m_beside_22 {G : Cx} (C : CX G prog_14_method_57_code "PaperStarsModel") (CR0 : CR G (Option.some FieldType.int)) (E : LAin (gly G)) (hnL : gnL G = 5) (hgd : 1 ≤ gd G) {q : Int32 × Mm} (hgr : gr G = some (.int q.1)) (hgs : gsf G = q.2) (v1 : Int32) (v2 : Int32) (s0 : Int32) (s1 : Int32) (st : Mm) (hf : b_m_beside_22 v1 v2 s0 s1 st = some q) : AW G st 22 [(0, .ref (gad G 58)), (1, .int v1), (2, .int v2)] [.int s1, .int s0] := by
  unfold b_m_beside_22 at hf
  refine aw_iadd C (by decide +kernel) rfl ?_
  obtain ⟨a1, ha1⟩ : ∃ z, z = (s0 + s1) := ⟨_, rfl⟩
  refine aw_nmi ha1 ?_
  have hf := ilt ha1 hf
  refine aw_istore_n C [(3, .int a1), (0, .ref (gad G 58)), (1, .int v1), (2, .int v2)] (j := 3) rfl (by rw [hnL]; decide) rfl (by decide +kernel) rfl ?_
  refine aw_iload_n C 1 2 (j := 1) rfl rfl (by decide +kernel) rfl ?_
  refine aw_bipush C (i0 := 16) (v := 16) (by decide) (by decide +kernel) rfl ?_
  refine aw_idiv C (by decide) (by decide +kernel) rfl ?_
  refine aw_iload_n C 2 3 (j := 2) rfl rfl (by decide +kernel) rfl ?_
  refine aw_iconst C (i0 := 2) (v := 2) (by decide) (by decide +kernel) rfl ?_
  refine aw_icmp_ne C (tgt := 37) (off := 7) (by decide +kernel) (by decide) rfl (fun c2 => ?_) (fun c2 => ?_)
  · have hf := ift c2 hf
    refine aw_iconst C (i0 := 1) (v := 1) (by decide) (by decide +kernel) rfl ?_
    refine aw_goto C (tgt := 47) (off := 13) (by decide +kernel) (by decide) ?_
    refine aw_sub [(0, .ref (gad G 58)), (3, .int a1)] [1, 0] rfl ?_
    exact t_m_beside_47 C CR0 E hnL hgd hgr hgs a1 (v1 / (16 : Int32)) (1 : Int32) _ hf
  · have hf := iff_ c2 hf
    refine aw_iload_n C 2 3 (j := 2) rfl rfl (by decide +kernel) rfl ?_
    refine aw_iconst C (i0 := 3) (v := 3) (by decide) (by decide +kernel) rfl ?_
    refine aw_icmp_ne C (tgt := 46) (off := 7) (by decide +kernel) (by decide) rfl (fun c3 => ?_) (fun c3 => ?_)
    · have hf := ift c3 hf
      refine aw_iconst C (i0 := -1) (v := -1) (by decide) (by decide +kernel) rfl ?_
      refine aw_goto C (tgt := 47) (off := 4) (by decide +kernel) (by decide) ?_
      refine aw_sub [(0, .ref (gad G 58)), (3, .int a1)] [1, 0] rfl ?_
      exact t_m_beside_47 C CR0 E hnL hgd hgr hgs a1 (v1 / (16 : Int32)) (-1 : Int32) _ hf
    · have hf := iff_ c3 hf
      refine aw_iconst C (i0 := 0) (v := 0) (by decide) (by decide +kernel) rfl ?_
      refine aw_sub [(0, .ref (gad G 58)), (3, .int a1)] [1, 0] rfl ?_
      exact t_m_beside_47 C CR0 E hnL hgd hgr hgs a1 (v1 / (16 : Int32)) (0 : Int32) _ hf
theorem t_m_beside {G : Cx} (C : CX G prog_14_method_57_code "PaperStarsModel") (CR0 : CR G (Option.some FieldType.int)) (E : LAin (gly G)) (hnL : gnL G = 5) (hgd : 1 ≤ gd G) {q : Int32 × Mm} (hgr : gr G = some (.int q.1)) (hgs : gsf G = q.2) (v1 : Int32) (v2 : Int32) (st : Mm) (hf : f_m_beside v1 v2 st = some q) : AW G st 0 [(0, .ref (gad G 58)), (1, .int v1), (2, .int v2)] [] := by
  unfold f_m_beside at hf
  refine aw_iload_n C 1 1 (j := 1) rfl rfl (by decide +kernel) rfl ?_
  refine aw_bipush C (i0 := 16) (v := 16) (by decide) (by decide +kernel) rfl ?_
  refine aw_irem C (by decide) (by decide +kernel) rfl ?_
  refine aw_iload_n C 2 2 (j := 2) rfl rfl (by decide +kernel) rfl ?_
  refine aw_if_ne C (tgt := 12) (off := 7) (by decide +kernel) (by decide) rfl (fun c1 => ?_) (fun c1 => ?_)
  · have hf := ift c1 hf
    refine aw_iconst C (i0 := 1) (v := 1) (by decide) (by decide +kernel) rfl ?_
    refine aw_goto C (tgt := 22) (off := 13) (by decide +kernel) (by decide) ?_
    exact t_m_beside_22 C CR0 E hnL hgd hgr hgs v1 v2 (v1 - v1 / (16 : Int32) * (16 : Int32)) (1 : Int32) _ hf
  · have hf := iff_ c1 hf
    refine aw_iload_n C 2 2 (j := 2) rfl rfl (by decide +kernel) rfl ?_
    refine aw_iconst C (i0 := 1) (v := 1) (by decide) (by decide +kernel) rfl ?_
    refine aw_icmp_ne C (tgt := 21) (off := 7) (by decide +kernel) (by decide) rfl (fun c2 => ?_) (fun c2 => ?_)
    · have hf := ift c2 hf
      refine aw_iconst C (i0 := -1) (v := -1) (by decide) (by decide +kernel) rfl ?_
      refine aw_goto C (tgt := 22) (off := 4) (by decide +kernel) (by decide) ?_
      exact t_m_beside_22 C CR0 E hnL hgd hgr hgs v1 v2 (v1 - v1 / (16 : Int32) * (16 : Int32)) (-1 : Int32) _ hf
    · have hf := iff_ c2 hf
      refine aw_iconst C (i0 := 0) (v := 0) (by decide) (by decide +kernel) rfl ?_
      exact t_m_beside_22 C CR0 E hnL hgd hgr hgs v1 v2 (v1 - v1 / (16 : Int32) * (16 : Int32)) (0 : Int32) _ hf
theorem c_m_beside {lay : Ly} (E : LAin lay) (v1 : Int32) (v2 : Int32) (st : Mm) (q : Int32 × Mm) (hf : f_m_beside v1 v2 st = some q) : Con 1 Y196 prog_14_method_57_code 5 (Option.some FieldType.int) lay (fun ad => [.ref (ad 58), .int v1, .int v2]) st (some (.int q.1)) q.2 :=
  am_met yf_196.2.2.2.2.2 (fun ad => Nat.le_of_ble_eq_true rfl) (fun G C CR0 e1 e2 e3 e4 e5 => t_m_beside C CR0 (by rw [e1]; exact E) e2 (Nat.le_of_eq e5.symm) e3 e4 v1 v2 st hf)
def b_m_edgeMany_61 (k4 : Int32 → Int32 → Mm → Option (Int32 × Mm)) (v1 : Int32) (v2 : Int32) (st : Mm) : Option (Int32 × Mm) :=
  lt_ (v2 + (1 : Int32)) (fun a1 => k4 v1 a1 st)
def b_m_edgeMany_13 (k4 : Int32 → Int32 → Mm → Option (Int32 × Mm)) (k13 : Int32 → Int32 → Int32 → Mm → Option (Int32 × Mm)) (v1 : Int32) (v2 : Int32) (v3 : Int32) (st : Mm) : Option (Int32 × Mm) :=
  if (4 : Int32) ≤ v3 then (b_m_edgeMany_61 k4 v1 v2 st) else (if inb v2 256 then if (st.1 72 v2.toNatClampNeg) = 0 then (lt_ (v3 + (1 : Int32)) (fun a4 => k13 v1 v2 a4 st)) else ((f_m_beside v2 v3 st).bind (fun q5 => if q5.1 = (-1 : Int32) then (lt_ (v1 + (1 : Int32)) (fun a7 => lt_ (v3 + (1 : Int32)) (fun a8 => k13 a7 v2 a8 q5.2))) else ((f_m_beside v2 v3 q5.2).bind (fun q9 => if inb q9.1 256 then if (q9.2.1 72 q9.1.toNatClampNeg) = 0 then (lt_ (v1 + (1 : Int32)) (fun a12 => lt_ (v3 + (1 : Int32)) (fun a13 => k13 a12 v2 a13 q9.2))) else (lt_ (v3 + (1 : Int32)) (fun a14 => k13 v1 v2 a14 q9.2)) else none)))) else none)
def f_m_edgeMany_13 (k4 : Int32 → Int32 → Mm → Option (Int32 × Mm)) : Nat → Int32 → Int32 → Int32 → Mm → Option (Int32 × Mm)
  | 0 => fun _ _ _ _ => none
  | n + 1 => b_m_edgeMany_13 k4 (f_m_edgeMany_13 k4 n)
def b_m_edgeMany_4 (k4 : Int32 → Int32 → Mm → Option (Int32 × Mm)) (v1 : Int32) (v2 : Int32) (st : Mm) : Option (Int32 × Mm) :=
  if (256 : Int32) ≤ v2 then (some (v1, st)) else (f_m_edgeMany_13 k4 1000000 v1 v2 (0 : Int32) st)
def f_m_edgeMany_4 : Nat → Int32 → Int32 → Mm → Option (Int32 × Mm)
  | 0 => fun _ _ _ => none
  | n + 1 => b_m_edgeMany_4 (f_m_edgeMany_4 n)
def f_m_edgeMany (st : Mm) : Option (Int32 × Mm) :=
  f_m_edgeMany_4 1000000 (0 : Int32) (0 : Int32) st
theorem t_m_edgeMany_61 {G : Cx} (C : CX G prog_14_method_63_code "PaperStarsModel") (CR0 : CR G (Option.some FieldType.int)) (E : LAin (gly G)) (hnL : gnL G = 4) (hgd : 2 ≤ gd G) {q : Int32 × Mm} (hgr : gr G = some (.int q.1)) (hgs : gsf G = q.2) (k4 : Int32 → Int32 → Mm → Option (Int32 × Mm)) (hk4 : ∀ (v1 : Int32) (v2 : Int32) (st : Mm), k4 v1 v2 st = some q → AW G st 4 [(0, .ref (gad G 58)), (1, .int v1), (2, .int v2)] []) (v1 : Int32) (v2 : Int32) (st : Mm) (hf : b_m_edgeMany_61 k4 v1 v2 st = some q) : AW G st 61 [(0, .ref (gad G 58)), (1, .int v1), (2, .int v2)] [] := by
  unfold b_m_edgeMany_61 at hf
  obtain ⟨a1, ha1⟩ : ∃ z, z = (v2 + (1 : Int32)) := ⟨_, rfl⟩
  have hf := ilt ha1 hf
  refine aw_iinc C [(2, .int a1), (0, .ref (gad G 58)), (1, .int v1)] 2 (n := 1) rfl (by rw [ha1]; rfl) (by rw [hnL]; decide) rfl (by decide +kernel) rfl ?_
  refine aw_goto C (tgt := 4) (off := -60) (by decide +kernel) (by decide) ?_
  refine aw_sub [(0, .ref (gad G 58)), (1, .int v1), (2, .int a1)] [1, 2, 0] rfl ?_
  exact hk4 v1 a1 _ hf
theorem t_m_edgeMany_13 {G : Cx} (C : CX G prog_14_method_63_code "PaperStarsModel") (CR0 : CR G (Option.some FieldType.int)) (E : LAin (gly G)) (hnL : gnL G = 4) (hgd : 2 ≤ gd G) {q : Int32 × Mm} (hgr : gr G = some (.int q.1)) (hgs : gsf G = q.2) (k4 : Int32 → Int32 → Mm → Option (Int32 × Mm)) (k13 : Int32 → Int32 → Int32 → Mm → Option (Int32 × Mm)) (hk4 : ∀ (v1 : Int32) (v2 : Int32) (st : Mm), k4 v1 v2 st = some q → AW G st 4 [(0, .ref (gad G 58)), (1, .int v1), (2, .int v2)] []) (hk13 : ∀ (v1 : Int32) (v2 : Int32) (v3 : Int32) (st : Mm), k13 v1 v2 v3 st = some q → AW G st 13 [(0, .ref (gad G 58)), (1, .int v1), (2, .int v2), (3, .int v3)] []) (v1 : Int32) (v2 : Int32) (v3 : Int32) (st : Mm) (hf : b_m_edgeMany_13 k4 k13 v1 v2 v3 st = some q) : AW G st 13 [(0, .ref (gad G 58)), (1, .int v1), (2, .int v2), (3, .int v3)] [] := by
  unfold b_m_edgeMany_13 at hf
  refine aw_iload_n C 3 3 (j := 3) rfl rfl (by decide +kernel) rfl ?_
  refine aw_iconst C (i0 := 4) (v := 4) (by decide) (by decide +kernel) rfl ?_
  refine aw_icmp_ge C (tgt := 61) (off := 46) (by decide +kernel) (by decide) rfl (fun c1 => ?_) (fun c1 => ?_)
  · have hf := ift c1 hf
    refine aw_sub [(0, .ref (gad G 58)), (1, .int v1), (2, .int v2)] [0, 1, 2] rfl ?_
    exact t_m_edgeMany_61 C CR0 E hnL hgd hgr hgs k4 hk4 v1 v2 _ hf
  · have hf := iff_ c1 hf
    refine aw_aload_n C 0 0 (j := 0) rfl rfl (by decide +kernel) rfl ?_
    refine aw_getr C (k := 36) fc_12 (la_58 E) rfl (by decide) tb_978 (by decide +kernel) rfl ?_
    refine aw_iload_n C 2 2 (j := 2) rfl rfl (by decide +kernel) rfl ?_
    obtain ⟨g2, hf⟩ := igd hf
    refine aw_zald C (la_72 E) g2 (by decide +kernel) rfl ?_
    refine aw_if_eq C (tgt := 55) (off := 31) (by decide +kernel) (by decide) rfl (fun c3 => ?_) (fun c3 => ?_)
    · have hf := ift c3 hf
      obtain ⟨a4, ha4⟩ : ∃ z, z = (v3 + (1 : Int32)) := ⟨_, rfl⟩
      have hf := ilt ha4 hf
      refine aw_iinc C [(3, .int a4), (0, .ref (gad G 58)), (1, .int v1), (2, .int v2)] 3 (n := 1) rfl (by rw [ha4]; rfl) (by rw [hnL]; decide) rfl (by decide +kernel) rfl ?_
      refine aw_goto C (tgt := 13) (off := -45) (by decide +kernel) (by decide) ?_
      refine aw_sub [(0, .ref (gad G 58)), (1, .int v1), (2, .int v2), (3, .int a4)] [1, 2, 3, 0] rfl ?_
      exact hk13 v1 v2 a4 _ hf
    · have hf := iff_ c3 hf
      refine aw_aload_n C 0 0 (j := 0) rfl rfl (by decide +kernel) rfl ?_
      refine aw_iload_n C 2 2 (j := 2) rfl rfl (by decide +kernel) rfl ?_
      refine aw_iload_n C 3 3 (j := 3) rfl rfl (by decide +kernel) rfl ?_
      obtain ⟨q5, hq5, hf⟩ := ibd hf
      refine aw_callV C (rest := []) (c_m_beside E v2 v3 _ q5 hq5) tb_1356 yf_196 yi_196 (la_58 E) [.int v2, .int v3] rfl rfl _ rfl (Nat.le_trans (by decide) hgd) (Nat.le_of_ble_eq_true rfl) (by decide +kernel) rfl ?_
      show AW _ _ _ _ [.int q5.1]
      refine aw_iconst C (i0 := -1) (v := -1) (by decide) (by decide +kernel) rfl ?_
      refine aw_icmp_eq C (tgt := 51) (off := 17) (by decide +kernel) (by decide) rfl (fun c6 => ?_) (fun c6 => ?_)
      · have hf := ift c6 hf
        refine aw_iload_n C 1 1 (j := 1) rfl rfl (by decide +kernel) rfl ?_
        refine aw_iconst C (i0 := 1) (v := 1) (by decide) (by decide +kernel) rfl ?_
        refine aw_iadd C (by decide +kernel) rfl ?_
        obtain ⟨a7, ha7⟩ : ∃ z, z = (v1 + (1 : Int32)) := ⟨_, rfl⟩
        refine aw_nmi ha7 ?_
        have hf := ilt ha7 hf
        refine aw_istore_n C [(1, .int a7), (0, .ref (gad G 58)), (2, .int v2), (3, .int v3)] (j := 1) rfl (by rw [hnL]; decide) rfl (by decide +kernel) rfl ?_
        obtain ⟨a8, ha8⟩ : ∃ z, z = (v3 + (1 : Int32)) := ⟨_, rfl⟩
        have hf := ilt ha8 hf
        refine aw_iinc C [(3, .int a8), (1, .int a7), (0, .ref (gad G 58)), (2, .int v2)] 3 (n := 1) rfl (by rw [ha8]; rfl) (by rw [hnL]; decide) rfl (by decide +kernel) rfl ?_
        refine aw_goto C (tgt := 13) (off := -45) (by decide +kernel) (by decide) ?_
        refine aw_sub [(0, .ref (gad G 58)), (1, .int a7), (2, .int v2), (3, .int a8)] [2, 1, 3, 0] rfl ?_
        exact hk13 a7 v2 a8 _ hf
      · have hf := iff_ c6 hf
        refine aw_aload_n C 0 0 (j := 0) rfl rfl (by decide +kernel) rfl ?_
        refine aw_getr C (k := 36) fc_12 (la_58 E) rfl (by decide) tb_978 (by decide +kernel) rfl ?_
        refine aw_aload_n C 0 0 (j := 0) rfl rfl (by decide +kernel) rfl ?_
        refine aw_iload_n C 2 2 (j := 2) rfl rfl (by decide +kernel) rfl ?_
        refine aw_iload_n C 3 3 (j := 3) rfl rfl (by decide +kernel) rfl ?_
        obtain ⟨q9, hq9, hf⟩ := ibd hf
        refine aw_callV C (rest := [.ref (gad G 72)]) (c_m_beside E v2 v3 _ q9 hq9) tb_1356 yf_196 yi_196 (la_58 E) [.int v2, .int v3] rfl rfl _ rfl (Nat.le_trans (by decide) hgd) (Nat.le_of_ble_eq_true rfl) (by decide +kernel) rfl ?_
        show AW _ _ _ _ [.int q9.1, .ref (gad G 72)]
        obtain ⟨g10, hf⟩ := igd hf
        refine aw_zald C (la_72 E) g10 (by decide +kernel) rfl ?_
        refine aw_if_ne C (tgt := 55) (off := 7) (by decide +kernel) (by decide) rfl (fun c11 => ?_) (fun c11 => ?_)
        · have hf := ift c11 hf
          refine aw_iload_n C 1 1 (j := 1) rfl rfl (by decide +kernel) rfl ?_
          refine aw_iconst C (i0 := 1) (v := 1) (by decide) (by decide +kernel) rfl ?_
          refine aw_iadd C (by decide +kernel) rfl ?_
          obtain ⟨a12, ha12⟩ : ∃ z, z = (v1 + (1 : Int32)) := ⟨_, rfl⟩
          refine aw_nmi ha12 ?_
          have hf := ilt ha12 hf
          refine aw_istore_n C [(1, .int a12), (0, .ref (gad G 58)), (2, .int v2), (3, .int v3)] (j := 1) rfl (by rw [hnL]; decide) rfl (by decide +kernel) rfl ?_
          obtain ⟨a13, ha13⟩ : ∃ z, z = (v3 + (1 : Int32)) := ⟨_, rfl⟩
          have hf := ilt ha13 hf
          refine aw_iinc C [(3, .int a13), (1, .int a12), (0, .ref (gad G 58)), (2, .int v2)] 3 (n := 1) rfl (by rw [ha13]; rfl) (by rw [hnL]; decide) rfl (by decide +kernel) rfl ?_
          refine aw_goto C (tgt := 13) (off := -45) (by decide +kernel) (by decide) ?_
          refine aw_sub [(0, .ref (gad G 58)), (1, .int a12), (2, .int v2), (3, .int a13)] [2, 1, 3, 0] rfl ?_
          exact hk13 a12 v2 a13 _ hf
        · have hf := iff_ c11 hf
          obtain ⟨a14, ha14⟩ : ∃ z, z = (v3 + (1 : Int32)) := ⟨_, rfl⟩
          have hf := ilt ha14 hf
          refine aw_iinc C [(3, .int a14), (0, .ref (gad G 58)), (1, .int v1), (2, .int v2)] 3 (n := 1) rfl (by rw [ha14]; rfl) (by rw [hnL]; decide) rfl (by decide +kernel) rfl ?_
          refine aw_goto C (tgt := 13) (off := -45) (by decide +kernel) (by decide) ?_
          refine aw_sub [(0, .ref (gad G 58)), (1, .int v1), (2, .int v2), (3, .int a14)] [1, 2, 3, 0] rfl ?_
          exact hk13 v1 v2 a14 _ hf
theorem u_m_edgeMany_13 {G : Cx} (C : CX G prog_14_method_63_code "PaperStarsModel") (CR0 : CR G (Option.some FieldType.int)) (E : LAin (gly G)) (hnL : gnL G = 4) (hgd : 2 ≤ gd G) {q : Int32 × Mm} (hgr : gr G = some (.int q.1)) (hgs : gsf G = q.2) (k4 : Int32 → Int32 → Mm → Option (Int32 × Mm)) (hk4 : ∀ (v1 : Int32) (v2 : Int32) (st : Mm), k4 v1 v2 st = some q → AW G st 4 [(0, .ref (gad G 58)), (1, .int v1), (2, .int v2)] []) : ∀ (n : Nat) (v1 : Int32) (v2 : Int32) (v3 : Int32) (st : Mm), f_m_edgeMany_13 k4 n v1 v2 v3 st = some q → AW G st 13 [(0, .ref (gad G 58)), (1, .int v1), (2, .int v2), (3, .int v3)] [] := by
  intro n
  induction n with
  | zero => intro v1 v2 v3 st hf; cases hf
  | succ n ih => intro v1 v2 v3 st hf; exact t_m_edgeMany_13 C CR0 E hnL hgd hgr hgs k4 (f_m_edgeMany_13 k4 n) hk4 ih v1 v2 v3 st hf
theorem t_m_edgeMany_4 {G : Cx} (C : CX G prog_14_method_63_code "PaperStarsModel") (CR0 : CR G (Option.some FieldType.int)) (E : LAin (gly G)) (hnL : gnL G = 4) (hgd : 2 ≤ gd G) {q : Int32 × Mm} (hgr : gr G = some (.int q.1)) (hgs : gsf G = q.2) (k4 : Int32 → Int32 → Mm → Option (Int32 × Mm)) (hk4 : ∀ (v1 : Int32) (v2 : Int32) (st : Mm), k4 v1 v2 st = some q → AW G st 4 [(0, .ref (gad G 58)), (1, .int v1), (2, .int v2)] []) (v1 : Int32) (v2 : Int32) (st : Mm) (hf : b_m_edgeMany_4 k4 v1 v2 st = some q) : AW G st 4 [(0, .ref (gad G 58)), (1, .int v1), (2, .int v2)] [] := by
  unfold b_m_edgeMany_4 at hf
  refine aw_iload_n C 2 2 (j := 2) rfl rfl (by decide +kernel) rfl ?_
  refine aw_sipush C (i0 := 256) (v := 256) (by decide) (by decide +kernel) rfl ?_
  refine aw_icmp_ge C (tgt := 67) (off := 59) (by decide +kernel) (by decide) rfl (fun c1 => ?_) (fun c1 => ?_)
  · have hf := ift c1 hf
    refine aw_iload_n C 1 1 (j := 1) rfl rfl (by decide +kernel) rfl ?_
    exact aw_iretq C CR0 hgr hgs hf (by decide +kernel)
  · have hf := iff_ c1 hf
    refine aw_iconst C (i0 := 0) (v := 0) (by decide) (by decide +kernel) rfl ?_
    refine aw_istore_n C [(3, .int (0 : Int32)), (0, .ref (gad G 58)), (1, .int v1), (2, .int v2)] (j := 3) rfl (by rw [hnL]; decide) rfl (by decide +kernel) rfl ?_
    refine aw_sub [(0, .ref (gad G 58)), (1, .int v1), (2, .int v2), (3, .int (0 : Int32))] [1, 2, 3, 0] rfl ?_
    exact u_m_edgeMany_13 C CR0 E hnL hgd hgr hgs k4 hk4 _ v1 v2 (0 : Int32) _ hf
theorem u_m_edgeMany_4 {G : Cx} (C : CX G prog_14_method_63_code "PaperStarsModel") (CR0 : CR G (Option.some FieldType.int)) (E : LAin (gly G)) (hnL : gnL G = 4) (hgd : 2 ≤ gd G) {q : Int32 × Mm} (hgr : gr G = some (.int q.1)) (hgs : gsf G = q.2) : ∀ (n : Nat) (v1 : Int32) (v2 : Int32) (st : Mm), f_m_edgeMany_4 n v1 v2 st = some q → AW G st 4 [(0, .ref (gad G 58)), (1, .int v1), (2, .int v2)] [] := by
  intro n
  induction n with
  | zero => intro v1 v2 st hf; cases hf
  | succ n ih => intro v1 v2 st hf; exact t_m_edgeMany_4 C CR0 E hnL hgd hgr hgs (f_m_edgeMany_4 n) ih v1 v2 st hf
theorem t_m_edgeMany {G : Cx} (C : CX G prog_14_method_63_code "PaperStarsModel") (CR0 : CR G (Option.some FieldType.int)) (E : LAin (gly G)) (hnL : gnL G = 4) (hgd : 2 ≤ gd G) {q : Int32 × Mm} (hgr : gr G = some (.int q.1)) (hgs : gsf G = q.2) (st : Mm) (hf : f_m_edgeMany st = some q) : AW G st 0 [(0, .ref (gad G 58))] [] := by
  unfold f_m_edgeMany at hf
  refine aw_iconst C (i0 := 0) (v := 0) (by decide) (by decide +kernel) rfl ?_
  refine aw_istore_n C [(1, .int (0 : Int32)), (0, .ref (gad G 58))] (j := 1) rfl (by rw [hnL]; decide) rfl (by decide +kernel) rfl ?_
  refine aw_iconst C (i0 := 0) (v := 0) (by decide) (by decide +kernel) rfl ?_
  refine aw_istore_n C [(2, .int (0 : Int32)), (1, .int (0 : Int32)), (0, .ref (gad G 58))] (j := 2) rfl (by rw [hnL]; decide) rfl (by decide +kernel) rfl ?_
  refine aw_sub [(0, .ref (gad G 58)), (1, .int (0 : Int32)), (2, .int (0 : Int32))] [2, 1, 0] rfl ?_
  exact u_m_edgeMany_4 C CR0 E hnL hgd hgr hgs _ (0 : Int32) (0 : Int32) _ hf
theorem c_m_edgeMany {lay : Ly} (E : LAin lay) (st : Mm) (q : Int32 × Mm) (hf : f_m_edgeMany st = some q) : Con 2 Y200 prog_14_method_63_code 4 (Option.some FieldType.int) lay (fun ad => [.ref (ad 58)]) st (some (.int q.1)) q.2 :=
  am_met yf_200.2.2.2.2.2 (fun ad => Nat.le_of_ble_eq_true rfl) (fun G C CR0 e1 e2 e3 e4 e5 => t_m_edgeMany C CR0 (by rw [e1]; exact E) e2 (Nat.le_of_eq e5.symm) e3 e4 st hf)
def b_m_floods_117 (k20 : Int32 → Int32 → Int32 → Int32 → Int32 → Mm → Option (Int32 × Mm)) (v1 : Int32) (v2 : Int32) (v3 : Int32) (v4 : Int32) (v5 : Int32) (st : Mm) : Option (Int32 × Mm) :=
  lt_ (v5 + (1 : Int32)) (fun a1 => k20 v1 v2 v3 v4 a1 st)
def b_m_floods_30 (k20 : Int32 → Int32 → Int32 → Int32 → Int32 → Mm → Option (Int32 × Mm)) (k30 : Int32 → Int32 → Int32 → Int32 → Int32 → Int32 → Mm → Option (Int32 × Mm)) (v1 : Int32) (v2 : Int32) (v3 : Int32) (v4 : Int32) (v5 : Int32) (v6 : Int32) (st : Mm) : Option (Int32 × Mm) :=
  if (4 : Int32) ≤ v6 then (b_m_floods_117 k20 v1 v2 v3 v4 v5 st) else (if inb v5 256 then (f_m_beside (st.1 74 v5.toNatClampNeg) v6 st).bind (fun q3 => if q3.1 = (-1 : Int32) then (lt_ (v6 + (1 : Int32)) (fun a5 => k30 v1 v2 v3 v4 v5 a5 q3.2)) else (if q3.1 = v3 then (lt_ (v6 + (1 : Int32)) (fun a7 => k30 v1 v2 v3 v4 v5 a7 q3.2)) else (if inb q3.1 256 then if (q3.2.1 72 q3.1.toNatClampNeg) = v2 then (if inb q3.1 256 then if (q3.2.1 73 q3.1.toNatClampNeg) = (-1 : Int32) then (if inb q3.1 256 then if inb v4 256 then lt_ (v4 + (1 : Int32)) (fun a14 => lt_ (v6 + (1 : Int32)) (fun a15 => k30 v1 v2 v3 a14 v5 a15 (sI (sI q3.2 73 q3.1.toNatClampNeg v1) 74 v4.toNatClampNeg q3.1))) else none else none) else (lt_ (v6 + (1 : Int32)) (fun a16 => k30 v1 v2 v3 v4 v5 a16 q3.2)) else none) else (lt_ (v6 + (1 : Int32)) (fun a17 => k30 v1 v2 v3 v4 v5 a17 q3.2)) else none))) else none)
def f_m_floods_30 (k20 : Int32 → Int32 → Int32 → Int32 → Int32 → Mm → Option (Int32 × Mm)) : Nat → Int32 → Int32 → Int32 → Int32 → Int32 → Int32 → Mm → Option (Int32 × Mm)
  | 0 => fun _ _ _ _ _ _ _ => none
  | n + 1 => b_m_floods_30 k20 (f_m_floods_30 k20 n)
def b_m_floods_20 (k20 : Int32 → Int32 → Int32 → Int32 → Int32 → Mm → Option (Int32 × Mm)) (v1 : Int32) (v2 : Int32) (v3 : Int32) (v4 : Int32) (v5 : Int32) (st : Mm) : Option (Int32 × Mm) :=
  if v4 ≤ v5 then (some (v4, st)) else (f_m_floods_30 k20 1000000 v1 v2 v3 v4 v5 (0 : Int32) st)
def f_m_floods_20 : Nat → Int32 → Int32 → Int32 → Int32 → Int32 → Mm → Option (Int32 × Mm)
  | 0 => fun _ _ _ _ _ _ => none
  | n + 1 => b_m_floods_20 (f_m_floods_20 n)
def f_m_floods (v1 : Int32) (v2 : Int32) (v3 : Int32) (st : Mm) : Option (Int32 × Mm) :=
  if inb v1 256 then f_m_floods_20 1000000 v1 v2 v3 (1 : Int32) (0 : Int32) (sI (sI st 74 (0 : Int32).toNatClampNeg v1) 73 v1.toNatClampNeg v1) else none
theorem t_m_floods_117 {G : Cx} (C : CX G prog_14_method_58_code "PaperStarsModel") (CR0 : CR G (Option.some FieldType.int)) (E : LAin (gly G)) (hnL : gnL G = 8) (hgd : 2 ≤ gd G) {q : Int32 × Mm} (hgr : gr G = some (.int q.1)) (hgs : gsf G = q.2) (k20 : Int32 → Int32 → Int32 → Int32 → Int32 → Mm → Option (Int32 × Mm)) (hk20 : ∀ (v1 : Int32) (v2 : Int32) (v3 : Int32) (v4 : Int32) (v5 : Int32) (st : Mm), k20 v1 v2 v3 v4 v5 st = some q → AW G st 20 [(0, .ref (gad G 58)), (1, .int v1), (2, .int v2), (3, .int v3), (4, .int v4), (5, .int v5)] []) (v1 : Int32) (v2 : Int32) (v3 : Int32) (v4 : Int32) (v5 : Int32) (st : Mm) (hf : b_m_floods_117 k20 v1 v2 v3 v4 v5 st = some q) : AW G st 117 [(0, .ref (gad G 58)), (1, .int v1), (2, .int v2), (3, .int v3), (4, .int v4), (5, .int v5)] [] := by
  unfold b_m_floods_117 at hf
  obtain ⟨a1, ha1⟩ : ∃ z, z = (v5 + (1 : Int32)) := ⟨_, rfl⟩
  have hf := ilt ha1 hf
  refine aw_iinc C [(5, .int a1), (0, .ref (gad G 58)), (1, .int v1), (2, .int v2), (3, .int v3), (4, .int v4)] 5 (n := 1) rfl (by rw [ha1]; rfl) (by rw [hnL]; decide) rfl (by decide +kernel) rfl ?_
  refine aw_goto C (tgt := 20) (off := -100) (by decide +kernel) (by decide) ?_
  refine aw_sub [(0, .ref (gad G 58)), (1, .int v1), (2, .int v2), (3, .int v3), (4, .int v4), (5, .int a1)] [1, 2, 3, 4, 5, 0] rfl ?_
  exact hk20 v1 v2 v3 v4 a1 _ hf
theorem t_m_floods_30 {G : Cx} (C : CX G prog_14_method_58_code "PaperStarsModel") (CR0 : CR G (Option.some FieldType.int)) (E : LAin (gly G)) (hnL : gnL G = 8) (hgd : 2 ≤ gd G) {q : Int32 × Mm} (hgr : gr G = some (.int q.1)) (hgs : gsf G = q.2) (k20 : Int32 → Int32 → Int32 → Int32 → Int32 → Mm → Option (Int32 × Mm)) (k30 : Int32 → Int32 → Int32 → Int32 → Int32 → Int32 → Mm → Option (Int32 × Mm)) (hk20 : ∀ (v1 : Int32) (v2 : Int32) (v3 : Int32) (v4 : Int32) (v5 : Int32) (st : Mm), k20 v1 v2 v3 v4 v5 st = some q → AW G st 20 [(0, .ref (gad G 58)), (1, .int v1), (2, .int v2), (3, .int v3), (4, .int v4), (5, .int v5)] []) (hk30 : ∀ (v1 : Int32) (v2 : Int32) (v3 : Int32) (v4 : Int32) (v5 : Int32) (v6 : Int32) (st : Mm), k30 v1 v2 v3 v4 v5 v6 st = some q → AW G st 30 [(0, .ref (gad G 58)), (1, .int v1), (2, .int v2), (3, .int v3), (4, .int v4), (5, .int v5), (6, .int v6)] []) (v1 : Int32) (v2 : Int32) (v3 : Int32) (v4 : Int32) (v5 : Int32) (v6 : Int32) (st : Mm) (hf : b_m_floods_30 k20 k30 v1 v2 v3 v4 v5 v6 st = some q) : AW G st 30 [(0, .ref (gad G 58)), (1, .int v1), (2, .int v2), (3, .int v3), (4, .int v4), (5, .int v5), (6, .int v6)] [] := by
  unfold b_m_floods_30 at hf
  refine aw_iload C 6 6 rfl (by decide +kernel) rfl ?_
  refine aw_iconst C (i0 := 4) (v := 4) (by decide) (by decide +kernel) rfl ?_
  refine aw_icmp_ge C (tgt := 117) (off := 84) (by decide +kernel) (by decide) rfl (fun c1 => ?_) (fun c1 => ?_)
  · have hf := ift c1 hf
    refine aw_sub [(0, .ref (gad G 58)), (1, .int v1), (2, .int v2), (3, .int v3), (4, .int v4), (5, .int v5)] [0, 1, 2, 3, 4, 5] rfl ?_
    exact t_m_floods_117 C CR0 E hnL hgd hgr hgs k20 hk20 v1 v2 v3 v4 v5 _ hf
  · have hf := iff_ c1 hf
    refine aw_aload_n C 0 0 (j := 0) rfl rfl (by decide +kernel) rfl ?_
    refine aw_aload_n C 0 0 (j := 0) rfl rfl (by decide +kernel) rfl ?_
    refine aw_getr C (k := 38) fc_12 (la_58 E) rfl (by decide) tb_980 (by decide +kernel) rfl ?_
    refine aw_iload C 5 5 rfl (by decide +kernel) rfl ?_
    obtain ⟨g2, hf⟩ := igd hf
    refine aw_iald C (la_74 E) g2 (by decide +kernel) rfl ?_
    refine aw_iload C 6 6 rfl (by decide +kernel) rfl ?_
    obtain ⟨q3, hq3, hf⟩ := ibd hf
    refine aw_callV C (rest := []) (c_m_beside E (st.1 74 v5.toNatClampNeg) v6 _ q3 hq3) tb_1356 yf_196 yi_196 (la_58 E) [.int (st.1 74 v5.toNatClampNeg), .int v6] rfl rfl _ rfl (Nat.le_trans (by decide) hgd) (Nat.le_of_ble_eq_true rfl) (by decide +kernel) rfl ?_
    show AW _ _ _ _ [.int q3.1]
    refine aw_istore C [(7, .int q3.1), (0, .ref (gad G 58)), (1, .int v1), (2, .int v2), (3, .int v3), (4, .int v4), (5, .int v5), (6, .int v6)] (by rw [hnL]; decide) rfl (by decide +kernel) rfl ?_
    refine aw_iload C 7 0 rfl (by decide +kernel) rfl ?_
    refine aw_iconst C (i0 := -1) (v := -1) (by decide) (by decide +kernel) rfl ?_
    refine aw_icmp_eq C (tgt := 111) (off := 57) (by decide +kernel) (by decide) rfl (fun c4 => ?_) (fun c4 => ?_)
    · have hf := ift c4 hf
      obtain ⟨a5, ha5⟩ : ∃ z, z = (v6 + (1 : Int32)) := ⟨_, rfl⟩
      have hf := ilt ha5 hf
      refine aw_iinc C [(6, .int a5), (7, .int q3.1), (0, .ref (gad G 58)), (1, .int v1), (2, .int v2), (3, .int v3), (4, .int v4), (5, .int v5)] 7 (n := 1) rfl (by rw [ha5]; rfl) (by rw [hnL]; decide) rfl (by decide +kernel) rfl ?_
      refine aw_goto C (tgt := 30) (off := -84) (by decide +kernel) (by decide) ?_
      refine aw_sub [(0, .ref (gad G 58)), (1, .int v1), (2, .int v2), (3, .int v3), (4, .int v4), (5, .int v5), (6, .int a5)] [2, 3, 4, 5, 6, 7, 0] rfl ?_
      exact hk30 v1 v2 v3 v4 v5 a5 _ hf
    · have hf := iff_ c4 hf
      refine aw_iload C 7 0 rfl (by decide +kernel) rfl ?_
      refine aw_iload_n C 3 4 (j := 3) rfl rfl (by decide +kernel) rfl ?_
      refine aw_icmp_eq C (tgt := 111) (off := 51) (by decide +kernel) (by decide) rfl (fun c6 => ?_) (fun c6 => ?_)
      · have hf := ift c6 hf
        obtain ⟨a7, ha7⟩ : ∃ z, z = (v6 + (1 : Int32)) := ⟨_, rfl⟩
        have hf := ilt ha7 hf
        refine aw_iinc C [(6, .int a7), (7, .int q3.1), (0, .ref (gad G 58)), (1, .int v1), (2, .int v2), (3, .int v3), (4, .int v4), (5, .int v5)] 7 (n := 1) rfl (by rw [ha7]; rfl) (by rw [hnL]; decide) rfl (by decide +kernel) rfl ?_
        refine aw_goto C (tgt := 30) (off := -84) (by decide +kernel) (by decide) ?_
        refine aw_sub [(0, .ref (gad G 58)), (1, .int v1), (2, .int v2), (3, .int v3), (4, .int v4), (5, .int v5), (6, .int a7)] [2, 3, 4, 5, 6, 7, 0] rfl ?_
        exact hk30 v1 v2 v3 v4 v5 a7 _ hf
      · have hf := iff_ c6 hf
        refine aw_aload_n C 0 1 (j := 0) rfl rfl (by decide +kernel) rfl ?_
        refine aw_getr C (k := 36) fc_12 (la_58 E) rfl (by decide) tb_978 (by decide +kernel) rfl ?_
        refine aw_iload C 7 0 rfl (by decide +kernel) rfl ?_
        obtain ⟨g8, hf⟩ := igd hf
        refine aw_zald C (la_72 E) g8 (by decide +kernel) rfl ?_
        refine aw_iload_n C 2 3 (j := 2) rfl rfl (by decide +kernel) rfl ?_
        refine aw_icmp_ne C (tgt := 111) (off := 40) (by decide +kernel) (by decide) rfl (fun c9 => ?_) (fun c9 => ?_)
        · have hf := ift c9 hf
          refine aw_aload_n C 0 1 (j := 0) rfl rfl (by decide +kernel) rfl ?_
          refine aw_getr C (k := 37) fc_12 (la_58 E) rfl (by decide) tb_979 (by decide +kernel) rfl ?_
          refine aw_iload C 7 0 rfl (by decide +kernel) rfl ?_
          obtain ⟨g10, hf⟩ := igd hf
          refine aw_iald C (la_73 E) g10 (by decide +kernel) rfl ?_
          refine aw_iconst C (i0 := -1) (v := -1) (by decide) (by decide +kernel) rfl ?_
          refine aw_icmp_eq C (tgt := 88) (off := 6) (by decide +kernel) (by decide) rfl (fun c11 => ?_) (fun c11 => ?_)
          · have hf := ift c11 hf
            refine aw_aload_n C 0 1 (j := 0) rfl rfl (by decide +kernel) rfl ?_
            refine aw_getr C (k := 37) fc_12 (la_58 E) rfl (by decide) tb_979 (by decide +kernel) rfl ?_
            refine aw_iload C 7 0 rfl (by decide +kernel) rfl ?_
            refine aw_iload_n C 1 2 (j := 1) rfl rfl (by decide +kernel) rfl ?_
            obtain ⟨g12, hf⟩ := igd hf
            refine aw_iast C (la_73 E) g12 (by decide +kernel) rfl ?_
            refine aw_aload_n C 0 1 (j := 0) rfl rfl (by decide +kernel) rfl ?_
            refine aw_getr C (k := 38) fc_12 (la_58 E) rfl (by decide) tb_980 (by decide +kernel) rfl ?_
            refine aw_iload C 4 5 rfl (by decide +kernel) rfl ?_
            refine aw_iload C 7 0 rfl (by decide +kernel) rfl ?_
            obtain ⟨g13, hf⟩ := igd hf
            refine aw_iast C (la_74 E) g13 (by decide +kernel) rfl ?_
            refine aw_iload C 4 5 rfl (by decide +kernel) rfl ?_
            refine aw_iconst C (i0 := 1) (v := 1) (by decide) (by decide +kernel) rfl ?_
            refine aw_iadd C (by decide +kernel) rfl ?_
            obtain ⟨a14, ha14⟩ : ∃ z, z = (v4 + (1 : Int32)) := ⟨_, rfl⟩
            refine aw_nmi ha14 ?_
            have hf := ilt ha14 hf
            refine aw_istore C [(4, .int a14), (7, .int q3.1), (0, .ref (gad G 58)), (1, .int v1), (2, .int v2), (3, .int v3), (5, .int v5), (6, .int v6)] (by rw [hnL]; decide) rfl (by decide +kernel) rfl ?_
            obtain ⟨a15, ha15⟩ : ∃ z, z = (v6 + (1 : Int32)) := ⟨_, rfl⟩
            have hf := ilt ha15 hf
            refine aw_iinc C [(6, .int a15), (4, .int a14), (7, .int q3.1), (0, .ref (gad G 58)), (1, .int v1), (2, .int v2), (3, .int v3), (5, .int v5)] 7 (n := 1) rfl (by rw [ha15]; rfl) (by rw [hnL]; decide) rfl (by decide +kernel) rfl ?_
            refine aw_goto C (tgt := 30) (off := -84) (by decide +kernel) (by decide) ?_
            refine aw_sub [(0, .ref (gad G 58)), (1, .int v1), (2, .int v2), (3, .int v3), (4, .int a14), (5, .int v5), (6, .int a15)] [3, 4, 5, 6, 1, 7, 0] rfl ?_
            exact hk30 v1 v2 v3 a14 v5 a15 _ hf
          · have hf := iff_ c11 hf
            refine aw_goto C (tgt := 111) (off := 26) (by decide +kernel) (by decide) ?_
            obtain ⟨a16, ha16⟩ : ∃ z, z = (v6 + (1 : Int32)) := ⟨_, rfl⟩
            have hf := ilt ha16 hf
            refine aw_iinc C [(6, .int a16), (7, .int q3.1), (0, .ref (gad G 58)), (1, .int v1), (2, .int v2), (3, .int v3), (4, .int v4), (5, .int v5)] 7 (n := 1) rfl (by rw [ha16]; rfl) (by rw [hnL]; decide) rfl (by decide +kernel) rfl ?_
            refine aw_goto C (tgt := 30) (off := -84) (by decide +kernel) (by decide) ?_
            refine aw_sub [(0, .ref (gad G 58)), (1, .int v1), (2, .int v2), (3, .int v3), (4, .int v4), (5, .int v5), (6, .int a16)] [2, 3, 4, 5, 6, 7, 0] rfl ?_
            exact hk30 v1 v2 v3 v4 v5 a16 _ hf
        · have hf := iff_ c9 hf
          obtain ⟨a17, ha17⟩ : ∃ z, z = (v6 + (1 : Int32)) := ⟨_, rfl⟩
          have hf := ilt ha17 hf
          refine aw_iinc C [(6, .int a17), (7, .int q3.1), (0, .ref (gad G 58)), (1, .int v1), (2, .int v2), (3, .int v3), (4, .int v4), (5, .int v5)] 7 (n := 1) rfl (by rw [ha17]; rfl) (by rw [hnL]; decide) rfl (by decide +kernel) rfl ?_
          refine aw_goto C (tgt := 30) (off := -84) (by decide +kernel) (by decide) ?_
          refine aw_sub [(0, .ref (gad G 58)), (1, .int v1), (2, .int v2), (3, .int v3), (4, .int v4), (5, .int v5), (6, .int a17)] [2, 3, 4, 5, 6, 7, 0] rfl ?_
          exact hk30 v1 v2 v3 v4 v5 a17 _ hf
theorem u_m_floods_30 {G : Cx} (C : CX G prog_14_method_58_code "PaperStarsModel") (CR0 : CR G (Option.some FieldType.int)) (E : LAin (gly G)) (hnL : gnL G = 8) (hgd : 2 ≤ gd G) {q : Int32 × Mm} (hgr : gr G = some (.int q.1)) (hgs : gsf G = q.2) (k20 : Int32 → Int32 → Int32 → Int32 → Int32 → Mm → Option (Int32 × Mm)) (hk20 : ∀ (v1 : Int32) (v2 : Int32) (v3 : Int32) (v4 : Int32) (v5 : Int32) (st : Mm), k20 v1 v2 v3 v4 v5 st = some q → AW G st 20 [(0, .ref (gad G 58)), (1, .int v1), (2, .int v2), (3, .int v3), (4, .int v4), (5, .int v5)] []) : ∀ (n : Nat) (v1 : Int32) (v2 : Int32) (v3 : Int32) (v4 : Int32) (v5 : Int32) (v6 : Int32) (st : Mm), f_m_floods_30 k20 n v1 v2 v3 v4 v5 v6 st = some q → AW G st 30 [(0, .ref (gad G 58)), (1, .int v1), (2, .int v2), (3, .int v3), (4, .int v4), (5, .int v5), (6, .int v6)] [] := by
  intro n
  induction n with
  | zero => intro v1 v2 v3 v4 v5 v6 st hf; cases hf
  | succ n ih => intro v1 v2 v3 v4 v5 v6 st hf; exact t_m_floods_30 C CR0 E hnL hgd hgr hgs k20 (f_m_floods_30 k20 n) hk20 ih v1 v2 v3 v4 v5 v6 st hf
theorem t_m_floods_20 {G : Cx} (C : CX G prog_14_method_58_code "PaperStarsModel") (CR0 : CR G (Option.some FieldType.int)) (E : LAin (gly G)) (hnL : gnL G = 8) (hgd : 2 ≤ gd G) {q : Int32 × Mm} (hgr : gr G = some (.int q.1)) (hgs : gsf G = q.2) (k20 : Int32 → Int32 → Int32 → Int32 → Int32 → Mm → Option (Int32 × Mm)) (hk20 : ∀ (v1 : Int32) (v2 : Int32) (v3 : Int32) (v4 : Int32) (v5 : Int32) (st : Mm), k20 v1 v2 v3 v4 v5 st = some q → AW G st 20 [(0, .ref (gad G 58)), (1, .int v1), (2, .int v2), (3, .int v3), (4, .int v4), (5, .int v5)] []) (v1 : Int32) (v2 : Int32) (v3 : Int32) (v4 : Int32) (v5 : Int32) (st : Mm) (hf : b_m_floods_20 k20 v1 v2 v3 v4 v5 st = some q) : AW G st 20 [(0, .ref (gad G 58)), (1, .int v1), (2, .int v2), (3, .int v3), (4, .int v4), (5, .int v5)] [] := by
  unfold b_m_floods_20 at hf
  refine aw_iload C 5 5 rfl (by decide +kernel) rfl ?_
  refine aw_iload C 4 4 rfl (by decide +kernel) rfl ?_
  refine aw_icmp_ge C (tgt := 123) (off := 99) (by decide +kernel) (by decide) rfl (fun c1 => ?_) (fun c1 => ?_)
  · have hf := ift c1 hf
    refine aw_iload C 4 4 rfl (by decide +kernel) rfl ?_
    exact aw_iretq C CR0 hgr hgs hf (by decide +kernel)
  · have hf := iff_ c1 hf
    refine aw_iconst C (i0 := 0) (v := 0) (by decide) (by decide +kernel) rfl ?_
    refine aw_istore C [(6, .int (0 : Int32)), (0, .ref (gad G 58)), (1, .int v1), (2, .int v2), (3, .int v3), (4, .int v4), (5, .int v5)] (by rw [hnL]; decide) rfl (by decide +kernel) rfl ?_
    refine aw_sub [(0, .ref (gad G 58)), (1, .int v1), (2, .int v2), (3, .int v3), (4, .int v4), (5, .int v5), (6, .int (0 : Int32))] [1, 2, 3, 4, 5, 6, 0] rfl ?_
    exact u_m_floods_30 C CR0 E hnL hgd hgr hgs k20 hk20 _ v1 v2 v3 v4 v5 (0 : Int32) _ hf
theorem u_m_floods_20 {G : Cx} (C : CX G prog_14_method_58_code "PaperStarsModel") (CR0 : CR G (Option.some FieldType.int)) (E : LAin (gly G)) (hnL : gnL G = 8) (hgd : 2 ≤ gd G) {q : Int32 × Mm} (hgr : gr G = some (.int q.1)) (hgs : gsf G = q.2) : ∀ (n : Nat) (v1 : Int32) (v2 : Int32) (v3 : Int32) (v4 : Int32) (v5 : Int32) (st : Mm), f_m_floods_20 n v1 v2 v3 v4 v5 st = some q → AW G st 20 [(0, .ref (gad G 58)), (1, .int v1), (2, .int v2), (3, .int v3), (4, .int v4), (5, .int v5)] [] := by
  intro n
  induction n with
  | zero => intro v1 v2 v3 v4 v5 st hf; cases hf
  | succ n ih => intro v1 v2 v3 v4 v5 st hf; exact t_m_floods_20 C CR0 E hnL hgd hgr hgs (f_m_floods_20 n) ih v1 v2 v3 v4 v5 st hf
theorem t_m_floods {G : Cx} (C : CX G prog_14_method_58_code "PaperStarsModel") (CR0 : CR G (Option.some FieldType.int)) (E : LAin (gly G)) (hnL : gnL G = 8) (hgd : 2 ≤ gd G) {q : Int32 × Mm} (hgr : gr G = some (.int q.1)) (hgs : gsf G = q.2) (v1 : Int32) (v2 : Int32) (v3 : Int32) (st : Mm) (hf : f_m_floods v1 v2 v3 st = some q) : AW G st 0 [(0, .ref (gad G 58)), (1, .int v1), (2, .int v2), (3, .int v3)] [] := by
  unfold f_m_floods at hf
  refine aw_iconst C (i0 := 1) (v := 1) (by decide) (by decide +kernel) rfl ?_
  refine aw_istore C [(4, .int (1 : Int32)), (0, .ref (gad G 58)), (1, .int v1), (2, .int v2), (3, .int v3)] (by rw [hnL]; decide) rfl (by decide +kernel) rfl ?_
  refine aw_aload_n C 0 1 (j := 0) rfl rfl (by decide +kernel) rfl ?_
  refine aw_getr C (k := 38) fc_12 (la_58 E) rfl (by decide) tb_980 (by decide +kernel) rfl ?_
  refine aw_iconst C (i0 := 0) (v := 0) (by decide) (by decide +kernel) rfl ?_
  refine aw_iload_n C 1 2 (j := 1) rfl rfl (by decide +kernel) rfl ?_
  refine aw_iast C (la_74 E) (by decide) (by decide +kernel) rfl ?_
  refine aw_aload_n C 0 1 (j := 0) rfl rfl (by decide +kernel) rfl ?_
  refine aw_getr C (k := 37) fc_12 (la_58 E) rfl (by decide) tb_979 (by decide +kernel) rfl ?_
  refine aw_iload_n C 1 2 (j := 1) rfl rfl (by decide +kernel) rfl ?_
  refine aw_iload_n C 1 2 (j := 1) rfl rfl (by decide +kernel) rfl ?_
  obtain ⟨g1, hf⟩ := igd hf
  refine aw_iast C (la_73 E) g1 (by decide +kernel) rfl ?_
  refine aw_iconst C (i0 := 0) (v := 0) (by decide) (by decide +kernel) rfl ?_
  refine aw_istore C [(5, .int (0 : Int32)), (4, .int (1 : Int32)), (0, .ref (gad G 58)), (1, .int v1), (2, .int v2), (3, .int v3)] (by rw [hnL]; decide) rfl (by decide +kernel) rfl ?_
  refine aw_sub [(0, .ref (gad G 58)), (1, .int v1), (2, .int v2), (3, .int v3), (4, .int (1 : Int32)), (5, .int (0 : Int32))] [2, 3, 4, 5, 1, 0] rfl ?_
  exact u_m_floods_20 C CR0 E hnL hgd hgr hgs _ v1 v2 v3 (1 : Int32) (0 : Int32) _ hf
theorem c_m_floods {lay : Ly} (E : LAin lay) (v1 : Int32) (v2 : Int32) (v3 : Int32) (st : Mm) (q : Int32 × Mm) (hf : f_m_floods v1 v2 v3 st = some q) : Con 2 Y195 prog_14_method_58_code 8 (Option.some FieldType.int) lay (fun ad => [.ref (ad 58), .int v1, .int v2, .int v3]) st (some (.int q.1)) q.2 :=
  am_met yf_195.2.2.2.2.2 (fun ad => Nat.le_of_ble_eq_true rfl) (fun G C CR0 e1 e2 e3 e4 e5 => t_m_floods C CR0 (by rw [e1]; exact E) e2 (Nat.le_of_eq e5.symm) e3 e4 v1 v2 v3 st hf)
def b_m_forgets_2 (k2 : Int32 → Mm → Option (Unit × Mm)) (v1 : Int32) (st : Mm) : Option (Unit × Mm) :=
  if (256 : Int32) ≤ v1 then (some ((), st)) else (if inb v1 256 then lt_ (v1 + (1 : Int32)) (fun a3 => k2 a3 (sI st 73 v1.toNatClampNeg (-1 : Int32))) else none)
def f_m_forgets_2 : Nat → Int32 → Mm → Option (Unit × Mm)
  | 0 => fun _ _ => none
  | n + 1 => b_m_forgets_2 (f_m_forgets_2 n)
def f_m_forgets (st : Mm) : Option (Unit × Mm) :=
  f_m_forgets_2 1000000 (0 : Int32) st
theorem t_m_forgets_2 {G : Cx} (C : CX G prog_14_method_59_code "PaperStarsModel") (CR0 : CR G (Option.none)) (E : LAin (gly G)) (hnL : gnL G = 2) (hgd : 0 ≤ gd G) {q : Unit × Mm} (hgr : gr G = none) (hgs : gsf G = q.2) (k2 : Int32 → Mm → Option (Unit × Mm)) (hk2 : ∀ (v1 : Int32) (st : Mm), k2 v1 st = some q → AW G st 2 [(0, .ref (gad G 58)), (1, .int v1)] []) (v1 : Int32) (st : Mm) (hf : b_m_forgets_2 k2 v1 st = some q) : AW G st 2 [(0, .ref (gad G 58)), (1, .int v1)] [] := by
  unfold b_m_forgets_2 at hf
  refine aw_iload_n C 1 1 (j := 1) rfl rfl (by decide +kernel) rfl ?_
  refine aw_sipush C (i0 := 256) (v := 256) (by decide) (by decide +kernel) rfl ?_
  refine aw_icmp_ge C (tgt := 22) (off := 16) (by decide +kernel) (by decide) rfl (fun c1 => ?_) (fun c1 => ?_)
  · have hf := ift c1 hf
    exact aw_vretq C CR0 hgr hgs hf (by decide +kernel)
  · have hf := iff_ c1 hf
    refine aw_aload_n C 0 0 (j := 0) rfl rfl (by decide +kernel) rfl ?_
    refine aw_getr C (k := 37) fc_12 (la_58 E) rfl (by decide) tb_979 (by decide +kernel) rfl ?_
    refine aw_iload_n C 1 1 (j := 1) rfl rfl (by decide +kernel) rfl ?_
    refine aw_iconst C (i0 := -1) (v := -1) (by decide) (by decide +kernel) rfl ?_
    obtain ⟨g2, hf⟩ := igd hf
    refine aw_iast C (la_73 E) g2 (by decide +kernel) rfl ?_
    obtain ⟨a3, ha3⟩ : ∃ z, z = (v1 + (1 : Int32)) := ⟨_, rfl⟩
    have hf := ilt ha3 hf
    refine aw_iinc C [(1, .int a3), (0, .ref (gad G 58))] 1 (n := 1) rfl (by rw [ha3]; rfl) (by rw [hnL]; decide) rfl (by decide +kernel) rfl ?_
    refine aw_goto C (tgt := 2) (off := -17) (by decide +kernel) (by decide) ?_
    refine aw_sub [(0, .ref (gad G 58)), (1, .int a3)] [1, 0] rfl ?_
    exact hk2 a3 _ hf
theorem u_m_forgets_2 {G : Cx} (C : CX G prog_14_method_59_code "PaperStarsModel") (CR0 : CR G (Option.none)) (E : LAin (gly G)) (hnL : gnL G = 2) (hgd : 0 ≤ gd G) {q : Unit × Mm} (hgr : gr G = none) (hgs : gsf G = q.2) : ∀ (n : Nat) (v1 : Int32) (st : Mm), f_m_forgets_2 n v1 st = some q → AW G st 2 [(0, .ref (gad G 58)), (1, .int v1)] [] := by
  intro n
  induction n with
  | zero => intro v1 st hf; cases hf
  | succ n ih => intro v1 st hf; exact t_m_forgets_2 C CR0 E hnL hgd hgr hgs (f_m_forgets_2 n) ih v1 st hf
theorem t_m_forgets {G : Cx} (C : CX G prog_14_method_59_code "PaperStarsModel") (CR0 : CR G (Option.none)) (E : LAin (gly G)) (hnL : gnL G = 2) (hgd : 0 ≤ gd G) {q : Unit × Mm} (hgr : gr G = none) (hgs : gsf G = q.2) (st : Mm) (hf : f_m_forgets st = some q) : AW G st 0 [(0, .ref (gad G 58))] [] := by
  unfold f_m_forgets at hf
  refine aw_iconst C (i0 := 0) (v := 0) (by decide) (by decide +kernel) rfl ?_
  refine aw_istore_n C [(1, .int (0 : Int32)), (0, .ref (gad G 58))] (j := 1) rfl (by rw [hnL]; decide) rfl (by decide +kernel) rfl ?_
  refine aw_sub [(0, .ref (gad G 58)), (1, .int (0 : Int32))] [1, 0] rfl ?_
  exact u_m_forgets_2 C CR0 E hnL hgd hgr hgs _ (0 : Int32) _ hf
theorem c_m_forgets {lay : Ly} (E : LAin lay) (st : Mm) (q : Unit × Mm) (hf : f_m_forgets st = some q) : Con 0 Y194 prog_14_method_59_code 2 (Option.none) lay (fun ad => [.ref (ad 58)]) st (none) q.2 :=
  am_met yf_194.2.2.2.2.2 (fun ad => Nat.le_of_ble_eq_true rfl) (fun G C CR0 e1 e2 e3 e4 e5 => t_m_forgets C CR0 (by rw [e1]; exact E) e2 (Nat.le_of_eq e5.symm) e3 e4 st hf)
def f_m_isAtBorder (v1 : Int32) (st : Mm) : Option (Int32 × Mm) :=
  if (v1 - v1 / (16 : Int32) * (16 : Int32)) = 0 then (some ((1 : Int32), st)) else (if (v1 / (16 : Int32)) = 0 then (some ((1 : Int32), st)) else (if (v1 - v1 / (16 : Int32) * (16 : Int32)) = ((st.1 58 0) - (1 : Int32)) then (some ((1 : Int32), st)) else (if (v1 / (16 : Int32)) = ((st.1 58 0) - (1 : Int32)) then (some ((1 : Int32), st)) else (some ((0 : Int32), st)))))
theorem t_m_isAtBorder {G : Cx} (C : CX G prog_14_method_61_code "PaperStarsModel") (CR0 : CR G (Option.some FieldType.boolean)) (E : LAin (gly G)) (hnL : gnL G = 2) (hgd : 0 ≤ gd G) {q : Int32 × Mm} (hgr : gr G = some (.int q.1)) (hgs : gsf G = q.2) (v1 : Int32) (st : Mm) (hf : f_m_isAtBorder v1 st = some q) : AW G st 0 [(0, .ref (gad G 58)), (1, .int v1)] [] := by
  unfold f_m_isAtBorder at hf
  refine aw_iload_n C 1 1 (j := 1) rfl rfl (by decide +kernel) rfl ?_
  refine aw_bipush C (i0 := 16) (v := 16) (by decide) (by decide +kernel) rfl ?_
  refine aw_irem C (by decide) (by decide +kernel) rfl ?_
  refine aw_if_eq C (tgt := 40) (off := 36) (by decide +kernel) (by decide) rfl (fun c1 => ?_) (fun c1 => ?_)
  · have hf := ift c1 hf
    refine aw_iconst C (i0 := 1) (v := 1) (by decide) (by decide +kernel) rfl ?_
    refine aw_goto C (tgt := 45) (off := 4) (by decide +kernel) (by decide) ?_
    exact aw_zretq C CR0 hgr hgs (by decide) hf (by decide +kernel)
  · have hf := iff_ c1 hf
    refine aw_iload_n C 1 1 (j := 1) rfl rfl (by decide +kernel) rfl ?_
    refine aw_bipush C (i0 := 16) (v := 16) (by decide) (by decide +kernel) rfl ?_
    refine aw_idiv C (by decide) (by decide +kernel) rfl ?_
    refine aw_if_eq C (tgt := 40) (off := 29) (by decide +kernel) (by decide) rfl (fun c2 => ?_) (fun c2 => ?_)
    · have hf := ift c2 hf
      refine aw_iconst C (i0 := 1) (v := 1) (by decide) (by decide +kernel) rfl ?_
      refine aw_goto C (tgt := 45) (off := 4) (by decide +kernel) (by decide) ?_
      exact aw_zretq C CR0 hgr hgs (by decide) hf (by decide +kernel)
    · have hf := iff_ c2 hf
      refine aw_iload_n C 1 1 (j := 1) rfl rfl (by decide +kernel) rfl ?_
      refine aw_bipush C (i0 := 16) (v := 16) (by decide) (by decide +kernel) rfl ?_
      refine aw_irem C (by decide) (by decide +kernel) rfl ?_
      refine aw_aload_n C 0 0 (j := 0) rfl rfl (by decide +kernel) rfl ?_
      refine aw_get C (k := 0) fc_12 (la_58 E) rfl (by decide) tb_942 (by decide +kernel) rfl ?_
      refine aw_iconst C (i0 := 1) (v := 1) (by decide) (by decide +kernel) rfl ?_
      refine aw_isub C (by decide +kernel) rfl ?_
      refine aw_icmp_eq C (tgt := 40) (off := 16) (by decide +kernel) (by decide) rfl (fun c3 => ?_) (fun c3 => ?_)
      · have hf := ift c3 hf
        refine aw_iconst C (i0 := 1) (v := 1) (by decide) (by decide +kernel) rfl ?_
        refine aw_goto C (tgt := 45) (off := 4) (by decide +kernel) (by decide) ?_
        exact aw_zretq C CR0 hgr hgs (by decide) hf (by decide +kernel)
      · have hf := iff_ c3 hf
        refine aw_iload_n C 1 1 (j := 1) rfl rfl (by decide +kernel) rfl ?_
        refine aw_bipush C (i0 := 16) (v := 16) (by decide) (by decide +kernel) rfl ?_
        refine aw_idiv C (by decide) (by decide +kernel) rfl ?_
        refine aw_aload_n C 0 0 (j := 0) rfl rfl (by decide +kernel) rfl ?_
        refine aw_get C (k := 0) fc_12 (la_58 E) rfl (by decide) tb_942 (by decide +kernel) rfl ?_
        refine aw_iconst C (i0 := 1) (v := 1) (by decide) (by decide +kernel) rfl ?_
        refine aw_isub C (by decide +kernel) rfl ?_
        refine aw_icmp_ne C (tgt := 44) (off := 7) (by decide +kernel) (by decide) rfl (fun c4 => ?_) (fun c4 => ?_)
        · have hf := ift c4 hf
          refine aw_iconst C (i0 := 1) (v := 1) (by decide) (by decide +kernel) rfl ?_
          refine aw_goto C (tgt := 45) (off := 4) (by decide +kernel) (by decide) ?_
          exact aw_zretq C CR0 hgr hgs (by decide) hf (by decide +kernel)
        · have hf := iff_ c4 hf
          refine aw_iconst C (i0 := 0) (v := 0) (by decide) (by decide +kernel) rfl ?_
          exact aw_zretq C CR0 hgr hgs (by decide) hf (by decide +kernel)
theorem c_m_isAtBorder {lay : Ly} (E : LAin lay) (v1 : Int32) (st : Mm) (q : Int32 × Mm) (hf : f_m_isAtBorder v1 st = some q) : Con 0 Y199 prog_14_method_61_code 2 (Option.some FieldType.boolean) lay (fun ad => [.ref (ad 58), .int v1]) st (some (.int q.1)) q.2 :=
  am_met yf_199.2.2.2.2.2 (fun ad => Nat.le_of_ble_eq_true rfl) (fun G C CR0 e1 e2 e3 e4 e5 => t_m_isAtBorder C CR0 (by rw [e1]; exact E) e2 (Nat.le_of_eq e5.symm) e3 e4 v1 st hf)
def b_m_holeMany_104 (k8 : Int32 → Int32 → Mm → Option (Int32 × Mm)) (v1 : Int32) (v2 : Int32) (v4 : Int32) (st : Mm) : Option (Int32 × Mm) :=
  if v4 = 0 then (lt_ (v1 + (0 : Int32)) (fun a2 => lt_ (v2 + (1 : Int32)) (fun a3 => k8 a2 a3 st))) else (lt_ (v1 + (1 : Int32)) (fun a4 => lt_ (v2 + (1 : Int32)) (fun a5 => k8 a4 a5 st)))
def b_m_holeMany_66 (k8 : Int32 → Int32 → Mm → Option (Int32 × Mm)) (k66 : Int32 → Int32 → Int32 → Int32 → Int32 → Mm → Option (Int32 × Mm)) (v1 : Int32) (v2 : Int32) (v3 : Int32) (v4 : Int32) (v5 : Int32) (st : Mm) : Option (Int32 × Mm) :=
  if v3 ≤ v5 then (b_m_holeMany_104 k8 v1 v2 v4 st) else (if v4 = 0 then (lt_ (v5 + (1 : Int32)) (fun a3 => k66 v1 v2 v3 (0 : Int32) a3 st)) else (if inb v5 256 then (f_m_isAtBorder (st.1 74 v5.toNatClampNeg) st).bind (fun q5 => if q5.1 = 0 then (lt_ (v5 + (1 : Int32)) (fun a7 => k66 v1 v2 v3 (1 : Int32) a7 q5.2)) else (lt_ (v5 + (1 : Int32)) (fun a8 => k66 v1 v2 v3 (0 : Int32) a8 q5.2))) else none))
def f_m_holeMany_66 (k8 : Int32 → Int32 → Mm → Option (Int32 × Mm)) : Nat → Int32 → Int32 → Int32 → Int32 → Int32 → Mm → Option (Int32 × Mm)
  | 0 => fun _ _ _ _ _ _ => none
  | n + 1 => b_m_holeMany_66 k8 (f_m_holeMany_66 k8 n)
def b_m_holeMany_8 (k8 : Int32 → Int32 → Mm → Option (Int32 × Mm)) (v1 : Int32) (v2 : Int32) (st : Mm) : Option (Int32 × Mm) :=
  if (256 : Int32) ≤ v2 then (some (v1, st)) else ((f_m_isCell (v2 - v2 / (16 : Int32) * (16 : Int32)) (v2 / (16 : Int32)) st).bind (fun q2 => if q2.1 = 0 then (lt_ (v2 + (1 : Int32)) (fun a4 => k8 v1 a4 q2.2)) else (if inb v2 256 then if (q2.2.1 72 v2.toNatClampNeg) = 0 then (if inb v2 256 then if (q2.2.1 73 v2.toNatClampNeg) = (-1 : Int32) then ((f_m_floods v2 (0 : Int32) (-1 : Int32) q2.2).bind (fun q9 => f_m_holeMany_66 k8 1000000 v1 v2 q9.1 (1 : Int32) (0 : Int32) q9.2)) else (lt_ (v2 + (1 : Int32)) (fun a10 => k8 v1 a10 q2.2)) else none) else (lt_ (v2 + (1 : Int32)) (fun a11 => k8 v1 a11 q2.2)) else none)))
def f_m_holeMany_8 : Nat → Int32 → Int32 → Mm → Option (Int32 × Mm)
  | 0 => fun _ _ _ => none
  | n + 1 => b_m_holeMany_8 (f_m_holeMany_8 n)
def f_m_holeMany (st : Mm) : Option (Int32 × Mm) :=
  (f_m_forgets st).bind (fun q1 => f_m_holeMany_8 1000000 (0 : Int32) (0 : Int32) q1.2)
theorem t_m_holeMany_104 {G : Cx} (C : CX G prog_14_method_62_code "PaperStarsModel") (CR0 : CR G (Option.some FieldType.int)) (E : LAin (gly G)) (hnL : gnL G = 6) (hgd : 3 ≤ gd G) {q : Int32 × Mm} (hgr : gr G = some (.int q.1)) (hgs : gsf G = q.2) (k8 : Int32 → Int32 → Mm → Option (Int32 × Mm)) (hk8 : ∀ (v1 : Int32) (v2 : Int32) (st : Mm), k8 v1 v2 st = some q → AW G st 8 [(0, .ref (gad G 58)), (1, .int v1), (2, .int v2)] []) (v1 : Int32) (v2 : Int32) (v4 : Int32) (st : Mm) (hf : b_m_holeMany_104 k8 v1 v2 v4 st = some q) : AW G st 104 [(0, .ref (gad G 58)), (1, .int v1), (2, .int v2), (4, .int v4)] [] := by
  unfold b_m_holeMany_104 at hf
  refine aw_iload_n C 1 1 (j := 1) rfl rfl (by decide +kernel) rfl ?_
  refine aw_iload C 4 3 rfl (by decide +kernel) rfl ?_
  refine aw_if_eq C (tgt := 114) (off := 7) (by decide +kernel) (by decide) rfl (fun c1 => ?_) (fun c1 => ?_)
  · have hf := ift c1 hf
    refine aw_iconst C (i0 := 0) (v := 0) (by decide) (by decide +kernel) rfl ?_
    refine aw_iadd C (by decide +kernel) rfl ?_
    obtain ⟨a2, ha2⟩ : ∃ z, z = (v1 + (0 : Int32)) := ⟨_, rfl⟩
    refine aw_nmi ha2 ?_
    have hf := ilt ha2 hf
    refine aw_istore_n C [(1, .int a2), (0, .ref (gad G 58)), (2, .int v2), (4, .int v4)] (j := 1) rfl (by rw [hnL]; decide) rfl (by decide +kernel) rfl ?_
    obtain ⟨a3, ha3⟩ : ∃ z, z = (v2 + (1 : Int32)) := ⟨_, rfl⟩
    have hf := ilt ha3 hf
    refine aw_iinc C [(2, .int a3), (1, .int a2), (0, .ref (gad G 58)), (4, .int v4)] 2 (n := 1) rfl (by rw [ha3]; rfl) (by rw [hnL]; decide) rfl (by decide +kernel) rfl ?_
    refine aw_goto C (tgt := 8) (off := -112) (by decide +kernel) (by decide) ?_
    refine aw_sub [(0, .ref (gad G 58)), (1, .int a2), (2, .int a3)] [2, 1, 0] rfl ?_
    exact hk8 a2 a3 _ hf
  · have hf := iff_ c1 hf
    refine aw_iconst C (i0 := 1) (v := 1) (by decide) (by decide +kernel) rfl ?_
    refine aw_goto C (tgt := 115) (off := 4) (by decide +kernel) (by decide) ?_
    refine aw_iadd C (by decide +kernel) rfl ?_
    obtain ⟨a4, ha4⟩ : ∃ z, z = (v1 + (1 : Int32)) := ⟨_, rfl⟩
    refine aw_nmi ha4 ?_
    have hf := ilt ha4 hf
    refine aw_istore_n C [(1, .int a4), (0, .ref (gad G 58)), (2, .int v2), (4, .int v4)] (j := 1) rfl (by rw [hnL]; decide) rfl (by decide +kernel) rfl ?_
    obtain ⟨a5, ha5⟩ : ∃ z, z = (v2 + (1 : Int32)) := ⟨_, rfl⟩
    have hf := ilt ha5 hf
    refine aw_iinc C [(2, .int a5), (1, .int a4), (0, .ref (gad G 58)), (4, .int v4)] 2 (n := 1) rfl (by rw [ha5]; rfl) (by rw [hnL]; decide) rfl (by decide +kernel) rfl ?_
    refine aw_goto C (tgt := 8) (off := -112) (by decide +kernel) (by decide) ?_
    refine aw_sub [(0, .ref (gad G 58)), (1, .int a4), (2, .int a5)] [2, 1, 0] rfl ?_
    exact hk8 a4 a5 _ hf
theorem t_m_holeMany_66 {G : Cx} (C : CX G prog_14_method_62_code "PaperStarsModel") (CR0 : CR G (Option.some FieldType.int)) (E : LAin (gly G)) (hnL : gnL G = 6) (hgd : 3 ≤ gd G) {q : Int32 × Mm} (hgr : gr G = some (.int q.1)) (hgs : gsf G = q.2) (k8 : Int32 → Int32 → Mm → Option (Int32 × Mm)) (k66 : Int32 → Int32 → Int32 → Int32 → Int32 → Mm → Option (Int32 × Mm)) (hk8 : ∀ (v1 : Int32) (v2 : Int32) (st : Mm), k8 v1 v2 st = some q → AW G st 8 [(0, .ref (gad G 58)), (1, .int v1), (2, .int v2)] []) (hk66 : ∀ (v1 : Int32) (v2 : Int32) (v3 : Int32) (v4 : Int32) (v5 : Int32) (st : Mm), k66 v1 v2 v3 v4 v5 st = some q → AW G st 66 [(0, .ref (gad G 58)), (1, .int v1), (2, .int v2), (3, .int v3), (4, .int v4), (5, .int v5)] []) (v1 : Int32) (v2 : Int32) (v3 : Int32) (v4 : Int32) (v5 : Int32) (st : Mm) (hf : b_m_holeMany_66 k8 k66 v1 v2 v3 v4 v5 st = some q) : AW G st 66 [(0, .ref (gad G 58)), (1, .int v1), (2, .int v2), (3, .int v3), (4, .int v4), (5, .int v5)] [] := by
  unfold b_m_holeMany_66 at hf
  refine aw_iload C 5 5 rfl (by decide +kernel) rfl ?_
  refine aw_iload_n C 3 3 (j := 3) rfl rfl (by decide +kernel) rfl ?_
  refine aw_icmp_ge C (tgt := 104) (off := 35) (by decide +kernel) (by decide) rfl (fun c1 => ?_) (fun c1 => ?_)
  · have hf := ift c1 hf
    refine aw_sub [(0, .ref (gad G 58)), (1, .int v1), (2, .int v2), (4, .int v4)] [0, 1, 2, 4] rfl ?_
    exact t_m_holeMany_104 C CR0 E hnL hgd hgr hgs k8 hk8 v1 v2 v4 _ hf
  · have hf := iff_ c1 hf
    refine aw_iload C 4 4 rfl (by decide +kernel) rfl ?_
    refine aw_if_eq C (tgt := 95) (off := 21) (by decide +kernel) (by decide) rfl (fun c2 => ?_) (fun c2 => ?_)
    · have hf := ift c2 hf
      refine aw_iconst C (i0 := 0) (v := 0) (by decide) (by decide +kernel) rfl ?_
      refine aw_istore C [(4, .int (0 : Int32)), (0, .ref (gad G 58)), (1, .int v1), (2, .int v2), (3, .int v3), (5, .int v5)] (by rw [hnL]; decide) rfl (by decide +kernel) rfl ?_
      obtain ⟨a3, ha3⟩ : ∃ z, z = (v5 + (1 : Int32)) := ⟨_, rfl⟩
      have hf := ilt ha3 hf
      refine aw_iinc C [(5, .int a3), (4, .int (0 : Int32)), (0, .ref (gad G 58)), (1, .int v1), (2, .int v2), (3, .int v3)] 5 (n := 1) rfl (by rw [ha3]; rfl) (by rw [hnL]; decide) rfl (by decide +kernel) rfl ?_
      refine aw_goto C (tgt := 66) (off := -35) (by decide +kernel) (by decide) ?_
      refine aw_sub [(0, .ref (gad G 58)), (1, .int v1), (2, .int v2), (3, .int v3), (4, .int (0 : Int32)), (5, .int a3)] [2, 3, 4, 5, 1, 0] rfl ?_
      exact hk66 v1 v2 v3 (0 : Int32) a3 _ hf
    · have hf := iff_ c2 hf
      refine aw_aload_n C 0 0 (j := 0) rfl rfl (by decide +kernel) rfl ?_
      refine aw_aload_n C 0 0 (j := 0) rfl rfl (by decide +kernel) rfl ?_
      refine aw_getr C (k := 38) fc_12 (la_58 E) rfl (by decide) tb_980 (by decide +kernel) rfl ?_
      refine aw_iload C 5 5 rfl (by decide +kernel) rfl ?_
      obtain ⟨g4, hf⟩ := igd hf
      refine aw_iald C (la_74 E) g4 (by decide +kernel) rfl ?_
      obtain ⟨q5, hq5, hf⟩ := ibd hf
      refine aw_callV C (rest := []) (c_m_isAtBorder E (st.1 74 v5.toNatClampNeg) _ q5 hq5) tb_1368 yf_199 yi_199 (la_58 E) [.int (st.1 74 v5.toNatClampNeg)] rfl rfl _ rfl (Nat.le_trans (by decide) hgd) (Nat.le_of_ble_eq_true rfl) (by decide +kernel) rfl ?_
      show AW _ _ _ _ [.int q5.1]
      refine aw_if_ne C (tgt := 95) (off := 7) (by decide +kernel) (by decide) rfl (fun c6 => ?_) (fun c6 => ?_)
      · have hf := ift c6 hf
        refine aw_iconst C (i0 := 1) (v := 1) (by decide) (by decide +kernel) rfl ?_
        refine aw_goto C (tgt := 96) (off := 4) (by decide +kernel) (by decide) ?_
        refine aw_istore C [(4, .int (1 : Int32)), (0, .ref (gad G 58)), (1, .int v1), (2, .int v2), (3, .int v3), (5, .int v5)] (by rw [hnL]; decide) rfl (by decide +kernel) rfl ?_
        obtain ⟨a7, ha7⟩ : ∃ z, z = (v5 + (1 : Int32)) := ⟨_, rfl⟩
        have hf := ilt ha7 hf
        refine aw_iinc C [(5, .int a7), (4, .int (1 : Int32)), (0, .ref (gad G 58)), (1, .int v1), (2, .int v2), (3, .int v3)] 5 (n := 1) rfl (by rw [ha7]; rfl) (by rw [hnL]; decide) rfl (by decide +kernel) rfl ?_
        refine aw_goto C (tgt := 66) (off := -35) (by decide +kernel) (by decide) ?_
        refine aw_sub [(0, .ref (gad G 58)), (1, .int v1), (2, .int v2), (3, .int v3), (4, .int (1 : Int32)), (5, .int a7)] [2, 3, 4, 5, 1, 0] rfl ?_
        exact hk66 v1 v2 v3 (1 : Int32) a7 _ hf
      · have hf := iff_ c6 hf
        refine aw_iconst C (i0 := 0) (v := 0) (by decide) (by decide +kernel) rfl ?_
        refine aw_istore C [(4, .int (0 : Int32)), (0, .ref (gad G 58)), (1, .int v1), (2, .int v2), (3, .int v3), (5, .int v5)] (by rw [hnL]; decide) rfl (by decide +kernel) rfl ?_
        obtain ⟨a8, ha8⟩ : ∃ z, z = (v5 + (1 : Int32)) := ⟨_, rfl⟩
        have hf := ilt ha8 hf
        refine aw_iinc C [(5, .int a8), (4, .int (0 : Int32)), (0, .ref (gad G 58)), (1, .int v1), (2, .int v2), (3, .int v3)] 5 (n := 1) rfl (by rw [ha8]; rfl) (by rw [hnL]; decide) rfl (by decide +kernel) rfl ?_
        refine aw_goto C (tgt := 66) (off := -35) (by decide +kernel) (by decide) ?_
        refine aw_sub [(0, .ref (gad G 58)), (1, .int v1), (2, .int v2), (3, .int v3), (4, .int (0 : Int32)), (5, .int a8)] [2, 3, 4, 5, 1, 0] rfl ?_
        exact hk66 v1 v2 v3 (0 : Int32) a8 _ hf
theorem u_m_holeMany_66 {G : Cx} (C : CX G prog_14_method_62_code "PaperStarsModel") (CR0 : CR G (Option.some FieldType.int)) (E : LAin (gly G)) (hnL : gnL G = 6) (hgd : 3 ≤ gd G) {q : Int32 × Mm} (hgr : gr G = some (.int q.1)) (hgs : gsf G = q.2) (k8 : Int32 → Int32 → Mm → Option (Int32 × Mm)) (hk8 : ∀ (v1 : Int32) (v2 : Int32) (st : Mm), k8 v1 v2 st = some q → AW G st 8 [(0, .ref (gad G 58)), (1, .int v1), (2, .int v2)] []) : ∀ (n : Nat) (v1 : Int32) (v2 : Int32) (v3 : Int32) (v4 : Int32) (v5 : Int32) (st : Mm), f_m_holeMany_66 k8 n v1 v2 v3 v4 v5 st = some q → AW G st 66 [(0, .ref (gad G 58)), (1, .int v1), (2, .int v2), (3, .int v3), (4, .int v4), (5, .int v5)] [] := by
  intro n
  induction n with
  | zero => intro v1 v2 v3 v4 v5 st hf; cases hf
  | succ n ih => intro v1 v2 v3 v4 v5 st hf; exact t_m_holeMany_66 C CR0 E hnL hgd hgr hgs k8 (f_m_holeMany_66 k8 n) hk8 ih v1 v2 v3 v4 v5 st hf
theorem t_m_holeMany_8 {G : Cx} (C : CX G prog_14_method_62_code "PaperStarsModel") (CR0 : CR G (Option.some FieldType.int)) (E : LAin (gly G)) (hnL : gnL G = 6) (hgd : 3 ≤ gd G) {q : Int32 × Mm} (hgr : gr G = some (.int q.1)) (hgs : gsf G = q.2) (k8 : Int32 → Int32 → Mm → Option (Int32 × Mm)) (hk8 : ∀ (v1 : Int32) (v2 : Int32) (st : Mm), k8 v1 v2 st = some q → AW G st 8 [(0, .ref (gad G 58)), (1, .int v1), (2, .int v2)] []) (v1 : Int32) (v2 : Int32) (st : Mm) (hf : b_m_holeMany_8 k8 v1 v2 st = some q) : AW G st 8 [(0, .ref (gad G 58)), (1, .int v1), (2, .int v2)] [] := by
  unfold b_m_holeMany_8 at hf
  refine aw_iload_n C 2 2 (j := 2) rfl rfl (by decide +kernel) rfl ?_
  refine aw_sipush C (i0 := 256) (v := 256) (by decide) (by decide +kernel) rfl ?_
  refine aw_icmp_ge C (tgt := 123) (off := 111) (by decide +kernel) (by decide) rfl (fun c1 => ?_) (fun c1 => ?_)
  · have hf := ift c1 hf
    refine aw_iload_n C 1 1 (j := 1) rfl rfl (by decide +kernel) rfl ?_
    exact aw_iretq C CR0 hgr hgs hf (by decide +kernel)
  · have hf := iff_ c1 hf
    refine aw_aload_n C 0 0 (j := 0) rfl rfl (by decide +kernel) rfl ?_
    refine aw_iload_n C 2 2 (j := 2) rfl rfl (by decide +kernel) rfl ?_
    refine aw_bipush C (i0 := 16) (v := 16) (by decide) (by decide +kernel) rfl ?_
    refine aw_irem C (by decide) (by decide +kernel) rfl ?_
    refine aw_iload_n C 2 2 (j := 2) rfl rfl (by decide +kernel) rfl ?_
    refine aw_bipush C (i0 := 16) (v := 16) (by decide) (by decide +kernel) rfl ?_
    refine aw_idiv C (by decide) (by decide +kernel) rfl ?_
    obtain ⟨q2, hq2, hf⟩ := ibd hf
    refine aw_callV C (rest := []) (c_m_isCell E (v2 - v2 / (16 : Int32) * (16 : Int32)) (v2 / (16 : Int32)) _ q2 hq2) tb_1328 yf_189 yi_189 (la_58 E) [.int (v2 - v2 / (16 : Int32) * (16 : Int32)), .int (v2 / (16 : Int32))] rfl rfl _ rfl (Nat.le_trans (by decide) hgd) (Nat.le_of_ble_eq_true rfl) (by decide +kernel) rfl ?_
    show AW _ _ _ _ [.int q2.1]
    refine aw_if_eq C (tgt := 117) (off := 90) (by decide +kernel) (by decide) rfl (fun c3 => ?_) (fun c3 => ?_)
    · have hf := ift c3 hf
      obtain ⟨a4, ha4⟩ : ∃ z, z = (v2 + (1 : Int32)) := ⟨_, rfl⟩
      have hf := ilt ha4 hf
      refine aw_iinc C [(2, .int a4), (0, .ref (gad G 58)), (1, .int v1)] 2 (n := 1) rfl (by rw [ha4]; rfl) (by rw [hnL]; decide) rfl (by decide +kernel) rfl ?_
      refine aw_goto C (tgt := 8) (off := -112) (by decide +kernel) (by decide) ?_
      refine aw_sub [(0, .ref (gad G 58)), (1, .int v1), (2, .int a4)] [1, 2, 0] rfl ?_
      exact hk8 v1 a4 _ hf
    · have hf := iff_ c3 hf
      refine aw_aload_n C 0 0 (j := 0) rfl rfl (by decide +kernel) rfl ?_
      refine aw_getr C (k := 36) fc_12 (la_58 E) rfl (by decide) tb_978 (by decide +kernel) rfl ?_
      refine aw_iload_n C 2 2 (j := 2) rfl rfl (by decide +kernel) rfl ?_
      obtain ⟨g5, hf⟩ := igd hf
      refine aw_zald C (la_72 E) g5 (by decide +kernel) rfl ?_
      refine aw_if_ne C (tgt := 117) (off := 81) (by decide +kernel) (by decide) rfl (fun c6 => ?_) (fun c6 => ?_)
      · have hf := ift c6 hf
        refine aw_aload_n C 0 0 (j := 0) rfl rfl (by decide +kernel) rfl ?_
        refine aw_getr C (k := 37) fc_12 (la_58 E) rfl (by decide) tb_979 (by decide +kernel) rfl ?_
        refine aw_iload_n C 2 2 (j := 2) rfl rfl (by decide +kernel) rfl ?_
        obtain ⟨g7, hf⟩ := igd hf
        refine aw_iald C (la_73 E) g7 (by decide +kernel) rfl ?_
        refine aw_iconst C (i0 := -1) (v := -1) (by decide) (by decide +kernel) rfl ?_
        refine aw_icmp_eq C (tgt := 52) (off := 6) (by decide +kernel) (by decide) rfl (fun c8 => ?_) (fun c8 => ?_)
        · have hf := ift c8 hf
          refine aw_aload_n C 0 0 (j := 0) rfl rfl (by decide +kernel) rfl ?_
          refine aw_iload_n C 2 2 (j := 2) rfl rfl (by decide +kernel) rfl ?_
          refine aw_iconst C (i0 := 0) (v := 0) (by decide) (by decide +kernel) rfl ?_
          refine aw_iconst C (i0 := -1) (v := -1) (by decide) (by decide +kernel) rfl ?_
          obtain ⟨q9, hq9, hf⟩ := ibd hf
          refine aw_callV C (rest := []) (c_m_floods E v2 (0 : Int32) (-1 : Int32) _ q9 hq9) tb_1352 yf_195 yi_195 (la_58 E) [.int v2, .int (0 : Int32), .int (-1 : Int32)] rfl rfl _ rfl (Nat.le_trans (by decide) hgd) (Nat.le_of_ble_eq_true rfl) (by decide +kernel) rfl ?_
          show AW _ _ _ _ [.int q9.1]
          refine aw_istore_n C [(3, .int q9.1), (0, .ref (gad G 58)), (1, .int v1), (2, .int v2)] (j := 3) rfl (by rw [hnL]; decide) rfl (by decide +kernel) rfl ?_
          refine aw_iconst C (i0 := 1) (v := 1) (by decide) (by decide +kernel) rfl ?_
          refine aw_istore C [(4, .int (1 : Int32)), (3, .int q9.1), (0, .ref (gad G 58)), (1, .int v1), (2, .int v2)] (by rw [hnL]; decide) rfl (by decide +kernel) rfl ?_
          refine aw_iconst C (i0 := 0) (v := 0) (by decide) (by decide +kernel) rfl ?_
          refine aw_istore C [(5, .int (0 : Int32)), (4, .int (1 : Int32)), (3, .int q9.1), (0, .ref (gad G 58)), (1, .int v1), (2, .int v2)] (by rw [hnL]; decide) rfl (by decide +kernel) rfl ?_
          refine aw_sub [(0, .ref (gad G 58)), (1, .int v1), (2, .int v2), (3, .int q9.1), (4, .int (1 : Int32)), (5, .int (0 : Int32))] [3, 4, 5, 2, 1, 0] rfl ?_
          exact u_m_holeMany_66 C CR0 E hnL hgd hgr hgs k8 hk8 _ v1 v2 q9.1 (1 : Int32) (0 : Int32) _ hf
        · have hf := iff_ c8 hf
          refine aw_goto C (tgt := 117) (off := 68) (by decide +kernel) (by decide) ?_
          obtain ⟨a10, ha10⟩ : ∃ z, z = (v2 + (1 : Int32)) := ⟨_, rfl⟩
          have hf := ilt ha10 hf
          refine aw_iinc C [(2, .int a10), (0, .ref (gad G 58)), (1, .int v1)] 2 (n := 1) rfl (by rw [ha10]; rfl) (by rw [hnL]; decide) rfl (by decide +kernel) rfl ?_
          refine aw_goto C (tgt := 8) (off := -112) (by decide +kernel) (by decide) ?_
          refine aw_sub [(0, .ref (gad G 58)), (1, .int v1), (2, .int a10)] [1, 2, 0] rfl ?_
          exact hk8 v1 a10 _ hf
      · have hf := iff_ c6 hf
        obtain ⟨a11, ha11⟩ : ∃ z, z = (v2 + (1 : Int32)) := ⟨_, rfl⟩
        have hf := ilt ha11 hf
        refine aw_iinc C [(2, .int a11), (0, .ref (gad G 58)), (1, .int v1)] 2 (n := 1) rfl (by rw [ha11]; rfl) (by rw [hnL]; decide) rfl (by decide +kernel) rfl ?_
        refine aw_goto C (tgt := 8) (off := -112) (by decide +kernel) (by decide) ?_
        refine aw_sub [(0, .ref (gad G 58)), (1, .int v1), (2, .int a11)] [1, 2, 0] rfl ?_
        exact hk8 v1 a11 _ hf
theorem u_m_holeMany_8 {G : Cx} (C : CX G prog_14_method_62_code "PaperStarsModel") (CR0 : CR G (Option.some FieldType.int)) (E : LAin (gly G)) (hnL : gnL G = 6) (hgd : 3 ≤ gd G) {q : Int32 × Mm} (hgr : gr G = some (.int q.1)) (hgs : gsf G = q.2) : ∀ (n : Nat) (v1 : Int32) (v2 : Int32) (st : Mm), f_m_holeMany_8 n v1 v2 st = some q → AW G st 8 [(0, .ref (gad G 58)), (1, .int v1), (2, .int v2)] [] := by
  intro n
  induction n with
  | zero => intro v1 v2 st hf; cases hf
  | succ n ih => intro v1 v2 st hf; exact t_m_holeMany_8 C CR0 E hnL hgd hgr hgs (f_m_holeMany_8 n) ih v1 v2 st hf
theorem t_m_holeMany {G : Cx} (C : CX G prog_14_method_62_code "PaperStarsModel") (CR0 : CR G (Option.some FieldType.int)) (E : LAin (gly G)) (hnL : gnL G = 6) (hgd : 3 ≤ gd G) {q : Int32 × Mm} (hgr : gr G = some (.int q.1)) (hgs : gsf G = q.2) (st : Mm) (hf : f_m_holeMany st = some q) : AW G st 0 [(0, .ref (gad G 58))] [] := by
  unfold f_m_holeMany at hf
  refine aw_aload_n C 0 0 (j := 0) rfl rfl (by decide +kernel) rfl ?_
  obtain ⟨q1, hq1, hf⟩ := ibd hf
  refine aw_callV C (rest := []) (c_m_forgets E _ q1 hq1) tb_1348 yf_194 yi_194 (la_58 E) [] rfl rfl _ rfl (Nat.le_trans (by decide) hgd) (Nat.le_of_ble_eq_true rfl) (by decide +kernel) rfl ?_
  show AW _ _ _ _ []
  refine aw_iconst C (i0 := 0) (v := 0) (by decide) (by decide +kernel) rfl ?_
  refine aw_istore_n C [(1, .int (0 : Int32)), (0, .ref (gad G 58))] (j := 1) rfl (by rw [hnL]; decide) rfl (by decide +kernel) rfl ?_
  refine aw_iconst C (i0 := 0) (v := 0) (by decide) (by decide +kernel) rfl ?_
  refine aw_istore_n C [(2, .int (0 : Int32)), (1, .int (0 : Int32)), (0, .ref (gad G 58))] (j := 2) rfl (by rw [hnL]; decide) rfl (by decide +kernel) rfl ?_
  refine aw_sub [(0, .ref (gad G 58)), (1, .int (0 : Int32)), (2, .int (0 : Int32))] [2, 1, 0] rfl ?_
  exact u_m_holeMany_8 C CR0 E hnL hgd hgr hgs _ (0 : Int32) (0 : Int32) _ hf
theorem c_m_holeMany {lay : Ly} (E : LAin lay) (st : Mm) (q : Int32 × Mm) (hf : f_m_holeMany st = some q) : Con 3 Y198 prog_14_method_62_code 6 (Option.some FieldType.int) lay (fun ad => [.ref (ad 58)]) st (some (.int q.1)) q.2 :=
  am_met yf_198.2.2.2.2.2 (fun ad => Nat.le_of_ble_eq_true rfl) (fun G C CR0 e1 e2 e3 e4 e5 => t_m_holeMany C CR0 (by rw [e1]; exact E) e2 (Nat.le_of_eq e5.symm) e3 e4 st hf)
def b_m_laysPieces_21 (k21 : Int32 → Mm → Option (Unit × Mm)) (v1 : Int32) (st : Mm) : Option (Unit × Mm) :=
  if (256 : Int32) ≤ v1 then (some ((), st)) else (if inb v1 256 then if (st.1 72 v1.toNatClampNeg) = 0 then (lt_ (v1 + (1 : Int32)) (fun a4 => k21 a4 st)) else (if inb v1 256 then if (st.1 73 v1.toNatClampNeg) = (-1 : Int32) then ((f_m_floods v1 (1 : Int32) (-1 : Int32) st).bind (fun q7 => lt_ ((q7.2.1 58 39) + (1 : Int32)) (fun a8 => if ((sI q7.2 58 39 a8).1 58 40) < q7.1 then (lt_ (v1 + (1 : Int32)) (fun a10 => k21 a10 (sI (sI (sI q7.2 58 39 a8) 58 40 q7.1) 58 41 v1))) else (lt_ (v1 + (1 : Int32)) (fun a11 => k21 a11 (sI q7.2 58 39 a8)))))) else (lt_ (v1 + (1 : Int32)) (fun a12 => k21 a12 st)) else none) else none)
def f_m_laysPieces_21 : Nat → Int32 → Mm → Option (Unit × Mm)
  | 0 => fun _ _ => none
  | n + 1 => b_m_laysPieces_21 (f_m_laysPieces_21 n)
def f_m_laysPieces (st : Mm) : Option (Unit × Mm) :=
  (f_m_forgets st).bind (fun q1 => f_m_laysPieces_21 1000000 (0 : Int32) (sI (sI (sI q1.2 58 39 (0 : Int32)) 58 40 (0 : Int32)) 58 41 (-1 : Int32)))
theorem t_m_laysPieces_21 {G : Cx} (C : CX G prog_14_method_60_code "PaperStarsModel") (CR0 : CR G (Option.none)) (E : LAin (gly G)) (hnL : gnL G = 3) (hgd : 3 ≤ gd G) {q : Unit × Mm} (hgr : gr G = none) (hgs : gsf G = q.2) (k21 : Int32 → Mm → Option (Unit × Mm)) (hk21 : ∀ (v1 : Int32) (st : Mm), k21 v1 st = some q → AW G st 21 [(0, .ref (gad G 58)), (1, .int v1)] []) (v1 : Int32) (st : Mm) (hf : b_m_laysPieces_21 k21 v1 st = some q) : AW G st 21 [(0, .ref (gad G 58)), (1, .int v1)] [] := by
  unfold b_m_laysPieces_21 at hf
  refine aw_iload_n C 1 1 (j := 1) rfl rfl (by decide +kernel) rfl ?_
  refine aw_sipush C (i0 := 256) (v := 256) (by decide) (by decide +kernel) rfl ?_
  refine aw_icmp_ge C (tgt := 95) (off := 70) (by decide +kernel) (by decide) rfl (fun c1 => ?_) (fun c1 => ?_)
  · have hf := ift c1 hf
    exact aw_vretq C CR0 hgr hgs hf (by decide +kernel)
  · have hf := iff_ c1 hf
    refine aw_aload_n C 0 0 (j := 0) rfl rfl (by decide +kernel) rfl ?_
    refine aw_getr C (k := 36) fc_12 (la_58 E) rfl (by decide) tb_978 (by decide +kernel) rfl ?_
    refine aw_iload_n C 1 1 (j := 1) rfl rfl (by decide +kernel) rfl ?_
    obtain ⟨g2, hf⟩ := igd hf
    refine aw_zald C (la_72 E) g2 (by decide +kernel) rfl ?_
    refine aw_if_eq C (tgt := 89) (off := 55) (by decide +kernel) (by decide) rfl (fun c3 => ?_) (fun c3 => ?_)
    · have hf := ift c3 hf
      obtain ⟨a4, ha4⟩ : ∃ z, z = (v1 + (1 : Int32)) := ⟨_, rfl⟩
      have hf := ilt ha4 hf
      refine aw_iinc C [(1, .int a4), (0, .ref (gad G 58))] 1 (n := 1) rfl (by rw [ha4]; rfl) (by rw [hnL]; decide) rfl (by decide +kernel) rfl ?_
      refine aw_goto C (tgt := 21) (off := -71) (by decide +kernel) (by decide) ?_
      refine aw_sub [(0, .ref (gad G 58)), (1, .int a4)] [1, 0] rfl ?_
      exact hk21 a4 _ hf
    · have hf := iff_ c3 hf
      refine aw_aload_n C 0 0 (j := 0) rfl rfl (by decide +kernel) rfl ?_
      refine aw_getr C (k := 37) fc_12 (la_58 E) rfl (by decide) tb_979 (by decide +kernel) rfl ?_
      refine aw_iload_n C 1 1 (j := 1) rfl rfl (by decide +kernel) rfl ?_
      obtain ⟨g5, hf⟩ := igd hf
      refine aw_iald C (la_73 E) g5 (by decide +kernel) rfl ?_
      refine aw_iconst C (i0 := -1) (v := -1) (by decide) (by decide +kernel) rfl ?_
      refine aw_icmp_eq C (tgt := 50) (off := 6) (by decide +kernel) (by decide) rfl (fun c6 => ?_) (fun c6 => ?_)
      · have hf := ift c6 hf
        refine aw_aload_n C 0 0 (j := 0) rfl rfl (by decide +kernel) rfl ?_
        refine aw_iload_n C 1 1 (j := 1) rfl rfl (by decide +kernel) rfl ?_
        refine aw_iconst C (i0 := 1) (v := 1) (by decide) (by decide +kernel) rfl ?_
        refine aw_iconst C (i0 := -1) (v := -1) (by decide) (by decide +kernel) rfl ?_
        obtain ⟨q7, hq7, hf⟩ := ibd hf
        refine aw_callV C (rest := []) (c_m_floods E v1 (1 : Int32) (-1 : Int32) _ q7 hq7) tb_1352 yf_195 yi_195 (la_58 E) [.int v1, .int (1 : Int32), .int (-1 : Int32)] rfl rfl _ rfl (Nat.le_trans (by decide) hgd) (Nat.le_of_ble_eq_true rfl) (by decide +kernel) rfl ?_
        show AW _ _ _ _ [.int q7.1]
        refine aw_istore_n C [(2, .int q7.1), (0, .ref (gad G 58)), (1, .int v1)] (j := 2) rfl (by rw [hnL]; decide) rfl (by decide +kernel) rfl ?_
        refine aw_aload_n C 0 1 (j := 0) rfl rfl (by decide +kernel) rfl ?_
        refine aw_aload_n C 0 1 (j := 0) rfl rfl (by decide +kernel) rfl ?_
        refine aw_get C (k := 39) fc_12 (la_58 E) rfl (by decide) tb_981 (by decide +kernel) rfl ?_
        refine aw_iconst C (i0 := 1) (v := 1) (by decide) (by decide +kernel) rfl ?_
        refine aw_iadd C (by decide +kernel) rfl ?_
        obtain ⟨a8, ha8⟩ : ∃ z, z = ((q7.2.1 58 39) + (1 : Int32)) := ⟨_, rfl⟩
        refine aw_nmi ha8 ?_
        have hf := ilt ha8 hf
        refine aw_put C (k := 39) fc_12 (la_58 E) rfl (by decide) rfl rfl tb_981 (by decide +kernel) rfl ?_
        refine aw_iload_n C 2 0 (j := 2) rfl rfl (by decide +kernel) rfl ?_
        refine aw_aload_n C 0 1 (j := 0) rfl rfl (by decide +kernel) rfl ?_
        refine aw_get C (k := 40) fc_12 (la_58 E) rfl (by decide) tb_982 (by decide +kernel) rfl ?_
        refine aw_icmp_gt C (tgt := 79) (off := 6) (by decide +kernel) (by decide) rfl (fun c9 => ?_) (fun c9 => ?_)
        · have hf := ift c9 hf
          refine aw_aload_n C 0 1 (j := 0) rfl rfl (by decide +kernel) rfl ?_
          refine aw_iload_n C 2 0 (j := 2) rfl rfl (by decide +kernel) rfl ?_
          refine aw_put C (k := 40) fc_12 (la_58 E) rfl (by decide) rfl rfl tb_982 (by decide +kernel) rfl ?_
          refine aw_aload_n C 0 1 (j := 0) rfl rfl (by decide +kernel) rfl ?_
          refine aw_iload_n C 1 2 (j := 1) rfl rfl (by decide +kernel) rfl ?_
          refine aw_put C (k := 41) fc_12 (la_58 E) rfl (by decide) rfl rfl tb_983 (by decide +kernel) rfl ?_
          obtain ⟨a10, ha10⟩ : ∃ z, z = (v1 + (1 : Int32)) := ⟨_, rfl⟩
          have hf := ilt ha10 hf
          refine aw_iinc C [(1, .int a10), (2, .int q7.1), (0, .ref (gad G 58))] 2 (n := 1) rfl (by rw [ha10]; rfl) (by rw [hnL]; decide) rfl (by decide +kernel) rfl ?_
          refine aw_goto C (tgt := 21) (off := -71) (by decide +kernel) (by decide) ?_
          refine aw_sub [(0, .ref (gad G 58)), (1, .int a10)] [2, 0] rfl ?_
          exact hk21 a10 _ hf
        · have hf := iff_ c9 hf
          refine aw_goto C (tgt := 89) (off := 13) (by decide +kernel) (by decide) ?_
          obtain ⟨a11, ha11⟩ : ∃ z, z = (v1 + (1 : Int32)) := ⟨_, rfl⟩
          have hf := ilt ha11 hf
          refine aw_iinc C [(1, .int a11), (2, .int q7.1), (0, .ref (gad G 58))] 2 (n := 1) rfl (by rw [ha11]; rfl) (by rw [hnL]; decide) rfl (by decide +kernel) rfl ?_
          refine aw_goto C (tgt := 21) (off := -71) (by decide +kernel) (by decide) ?_
          refine aw_sub [(0, .ref (gad G 58)), (1, .int a11)] [2, 0] rfl ?_
          exact hk21 a11 _ hf
      · have hf := iff_ c6 hf
        refine aw_goto C (tgt := 89) (off := 42) (by decide +kernel) (by decide) ?_
        obtain ⟨a12, ha12⟩ : ∃ z, z = (v1 + (1 : Int32)) := ⟨_, rfl⟩
        have hf := ilt ha12 hf
        refine aw_iinc C [(1, .int a12), (0, .ref (gad G 58))] 1 (n := 1) rfl (by rw [ha12]; rfl) (by rw [hnL]; decide) rfl (by decide +kernel) rfl ?_
        refine aw_goto C (tgt := 21) (off := -71) (by decide +kernel) (by decide) ?_
        refine aw_sub [(0, .ref (gad G 58)), (1, .int a12)] [1, 0] rfl ?_
        exact hk21 a12 _ hf
theorem u_m_laysPieces_21 {G : Cx} (C : CX G prog_14_method_60_code "PaperStarsModel") (CR0 : CR G (Option.none)) (E : LAin (gly G)) (hnL : gnL G = 3) (hgd : 3 ≤ gd G) {q : Unit × Mm} (hgr : gr G = none) (hgs : gsf G = q.2) : ∀ (n : Nat) (v1 : Int32) (st : Mm), f_m_laysPieces_21 n v1 st = some q → AW G st 21 [(0, .ref (gad G 58)), (1, .int v1)] [] := by
  intro n
  induction n with
  | zero => intro v1 st hf; cases hf
  | succ n ih => intro v1 st hf; exact t_m_laysPieces_21 C CR0 E hnL hgd hgr hgs (f_m_laysPieces_21 n) ih v1 st hf
theorem t_m_laysPieces {G : Cx} (C : CX G prog_14_method_60_code "PaperStarsModel") (CR0 : CR G (Option.none)) (E : LAin (gly G)) (hnL : gnL G = 3) (hgd : 3 ≤ gd G) {q : Unit × Mm} (hgr : gr G = none) (hgs : gsf G = q.2) (st : Mm) (hf : f_m_laysPieces st = some q) : AW G st 0 [(0, .ref (gad G 58))] [] := by
  unfold f_m_laysPieces at hf
  refine aw_aload_n C 0 0 (j := 0) rfl rfl (by decide +kernel) rfl ?_
  obtain ⟨q1, hq1, hf⟩ := ibd hf
  refine aw_callV C (rest := []) (c_m_forgets E _ q1 hq1) tb_1348 yf_194 yi_194 (la_58 E) [] rfl rfl _ rfl (Nat.le_trans (by decide) hgd) (Nat.le_of_ble_eq_true rfl) (by decide +kernel) rfl ?_
  show AW _ _ _ _ []
  refine aw_aload_n C 0 0 (j := 0) rfl rfl (by decide +kernel) rfl ?_
  refine aw_iconst C (i0 := 0) (v := 0) (by decide) (by decide +kernel) rfl ?_
  refine aw_put C (k := 39) fc_12 (la_58 E) rfl (by decide) rfl rfl tb_981 (by decide +kernel) rfl ?_
  refine aw_aload_n C 0 0 (j := 0) rfl rfl (by decide +kernel) rfl ?_
  refine aw_iconst C (i0 := 0) (v := 0) (by decide) (by decide +kernel) rfl ?_
  refine aw_put C (k := 40) fc_12 (la_58 E) rfl (by decide) rfl rfl tb_982 (by decide +kernel) rfl ?_
  refine aw_aload_n C 0 0 (j := 0) rfl rfl (by decide +kernel) rfl ?_
  refine aw_iconst C (i0 := -1) (v := -1) (by decide) (by decide +kernel) rfl ?_
  refine aw_put C (k := 41) fc_12 (la_58 E) rfl (by decide) rfl rfl tb_983 (by decide +kernel) rfl ?_
  refine aw_iconst C (i0 := 0) (v := 0) (by decide) (by decide +kernel) rfl ?_
  refine aw_istore_n C [(1, .int (0 : Int32)), (0, .ref (gad G 58))] (j := 1) rfl (by rw [hnL]; decide) rfl (by decide +kernel) rfl ?_
  refine aw_sub [(0, .ref (gad G 58)), (1, .int (0 : Int32))] [1, 0] rfl ?_
  exact u_m_laysPieces_21 C CR0 E hnL hgd hgr hgs _ (0 : Int32) _ hf
theorem c_m_laysPieces {lay : Ly} (E : LAin lay) (st : Mm) (q : Unit × Mm) (hf : f_m_laysPieces st = some q) : Con 3 Y193 prog_14_method_60_code 3 (Option.none) lay (fun ad => [.ref (ad 58)]) st (none) q.2 :=
  am_met yf_193.2.2.2.2.2 (fun ad => Nat.le_of_ble_eq_true rfl) (fun G C CR0 e1 e2 e3 e4 e5 => t_m_laysPieces C CR0 (by rw [e1]; exact E) e2 (Nat.le_of_eq e5.symm) e3 e4 st hf)
def b_m_paperMany_4 (k4 : Int32 → Int32 → Mm → Option (Int32 × Mm)) (v1 : Int32) (v2 : Int32) (st : Mm) : Option (Int32 × Mm) :=
  if (256 : Int32) ≤ v2 then (some (v1, st)) else (if inb v2 256 then if (st.1 72 v2.toNatClampNeg) = 0 then (lt_ (v1 + (0 : Int32)) (fun a4 => lt_ (v2 + (1 : Int32)) (fun a5 => k4 a4 a5 st))) else (lt_ (v1 + (1 : Int32)) (fun a6 => lt_ (v2 + (1 : Int32)) (fun a7 => k4 a6 a7 st))) else none)
def f_m_paperMany_4 : Nat → Int32 → Int32 → Mm → Option (Int32 × Mm)
  | 0 => fun _ _ _ => none
  | n + 1 => b_m_paperMany_4 (f_m_paperMany_4 n)
def f_m_paperMany (st : Mm) : Option (Int32 × Mm) :=
  f_m_paperMany_4 1000000 (0 : Int32) (0 : Int32) st
theorem t_m_paperMany_4 {G : Cx} (C : CX G prog_14_method_56_code "PaperStarsModel") (CR0 : CR G (Option.some FieldType.int)) (E : LAin (gly G)) (hnL : gnL G = 3) (hgd : 0 ≤ gd G) {q : Int32 × Mm} (hgr : gr G = some (.int q.1)) (hgs : gsf G = q.2) (k4 : Int32 → Int32 → Mm → Option (Int32 × Mm)) (hk4 : ∀ (v1 : Int32) (v2 : Int32) (st : Mm), k4 v1 v2 st = some q → AW G st 4 [(0, .ref (gad G 58)), (1, .int v1), (2, .int v2)] []) (v1 : Int32) (v2 : Int32) (st : Mm) (hf : b_m_paperMany_4 k4 v1 v2 st = some q) : AW G st 4 [(0, .ref (gad G 58)), (1, .int v1), (2, .int v2)] [] := by
  unfold b_m_paperMany_4 at hf
  refine aw_iload_n C 2 2 (j := 2) rfl rfl (by decide +kernel) rfl ?_
  refine aw_sipush C (i0 := 256) (v := 256) (by decide) (by decide +kernel) rfl ?_
  refine aw_icmp_ge C (tgt := 34) (off := 26) (by decide +kernel) (by decide) rfl (fun c1 => ?_) (fun c1 => ?_)
  · have hf := ift c1 hf
    refine aw_iload_n C 1 1 (j := 1) rfl rfl (by decide +kernel) rfl ?_
    exact aw_iretq C CR0 hgr hgs hf (by decide +kernel)
  · have hf := iff_ c1 hf
    refine aw_iload_n C 1 1 (j := 1) rfl rfl (by decide +kernel) rfl ?_
    refine aw_aload_n C 0 0 (j := 0) rfl rfl (by decide +kernel) rfl ?_
    refine aw_getr C (k := 36) fc_12 (la_58 E) rfl (by decide) tb_978 (by decide +kernel) rfl ?_
    refine aw_iload_n C 2 2 (j := 2) rfl rfl (by decide +kernel) rfl ?_
    obtain ⟨g2, hf⟩ := igd hf
    refine aw_zald C (la_72 E) g2 (by decide +kernel) rfl ?_
    refine aw_if_eq C (tgt := 25) (off := 7) (by decide +kernel) (by decide) rfl (fun c3 => ?_) (fun c3 => ?_)
    · have hf := ift c3 hf
      refine aw_iconst C (i0 := 0) (v := 0) (by decide) (by decide +kernel) rfl ?_
      refine aw_iadd C (by decide +kernel) rfl ?_
      obtain ⟨a4, ha4⟩ : ∃ z, z = (v1 + (0 : Int32)) := ⟨_, rfl⟩
      refine aw_nmi ha4 ?_
      have hf := ilt ha4 hf
      refine aw_istore_n C [(1, .int a4), (0, .ref (gad G 58)), (2, .int v2)] (j := 1) rfl (by rw [hnL]; decide) rfl (by decide +kernel) rfl ?_
      obtain ⟨a5, ha5⟩ : ∃ z, z = (v2 + (1 : Int32)) := ⟨_, rfl⟩
      have hf := ilt ha5 hf
      refine aw_iinc C [(2, .int a5), (1, .int a4), (0, .ref (gad G 58))] 2 (n := 1) rfl (by rw [ha5]; rfl) (by rw [hnL]; decide) rfl (by decide +kernel) rfl ?_
      refine aw_goto C (tgt := 4) (off := -27) (by decide +kernel) (by decide) ?_
      refine aw_sub [(0, .ref (gad G 58)), (1, .int a4), (2, .int a5)] [2, 1, 0] rfl ?_
      exact hk4 a4 a5 _ hf
    · have hf := iff_ c3 hf
      refine aw_iconst C (i0 := 1) (v := 1) (by decide) (by decide +kernel) rfl ?_
      refine aw_goto C (tgt := 26) (off := 4) (by decide +kernel) (by decide) ?_
      refine aw_iadd C (by decide +kernel) rfl ?_
      obtain ⟨a6, ha6⟩ : ∃ z, z = (v1 + (1 : Int32)) := ⟨_, rfl⟩
      refine aw_nmi ha6 ?_
      have hf := ilt ha6 hf
      refine aw_istore_n C [(1, .int a6), (0, .ref (gad G 58)), (2, .int v2)] (j := 1) rfl (by rw [hnL]; decide) rfl (by decide +kernel) rfl ?_
      obtain ⟨a7, ha7⟩ : ∃ z, z = (v2 + (1 : Int32)) := ⟨_, rfl⟩
      have hf := ilt ha7 hf
      refine aw_iinc C [(2, .int a7), (1, .int a6), (0, .ref (gad G 58))] 2 (n := 1) rfl (by rw [ha7]; rfl) (by rw [hnL]; decide) rfl (by decide +kernel) rfl ?_
      refine aw_goto C (tgt := 4) (off := -27) (by decide +kernel) (by decide) ?_
      refine aw_sub [(0, .ref (gad G 58)), (1, .int a6), (2, .int a7)] [2, 1, 0] rfl ?_
      exact hk4 a6 a7 _ hf
theorem u_m_paperMany_4 {G : Cx} (C : CX G prog_14_method_56_code "PaperStarsModel") (CR0 : CR G (Option.some FieldType.int)) (E : LAin (gly G)) (hnL : gnL G = 3) (hgd : 0 ≤ gd G) {q : Int32 × Mm} (hgr : gr G = some (.int q.1)) (hgs : gsf G = q.2) : ∀ (n : Nat) (v1 : Int32) (v2 : Int32) (st : Mm), f_m_paperMany_4 n v1 v2 st = some q → AW G st 4 [(0, .ref (gad G 58)), (1, .int v1), (2, .int v2)] [] := by
  intro n
  induction n with
  | zero => intro v1 v2 st hf; cases hf
  | succ n ih => intro v1 v2 st hf; exact t_m_paperMany_4 C CR0 E hnL hgd hgr hgs (f_m_paperMany_4 n) ih v1 v2 st hf
theorem t_m_paperMany {G : Cx} (C : CX G prog_14_method_56_code "PaperStarsModel") (CR0 : CR G (Option.some FieldType.int)) (E : LAin (gly G)) (hnL : gnL G = 3) (hgd : 0 ≤ gd G) {q : Int32 × Mm} (hgr : gr G = some (.int q.1)) (hgs : gsf G = q.2) (st : Mm) (hf : f_m_paperMany st = some q) : AW G st 0 [(0, .ref (gad G 58))] [] := by
  unfold f_m_paperMany at hf
  refine aw_iconst C (i0 := 0) (v := 0) (by decide) (by decide +kernel) rfl ?_
  refine aw_istore_n C [(1, .int (0 : Int32)), (0, .ref (gad G 58))] (j := 1) rfl (by rw [hnL]; decide) rfl (by decide +kernel) rfl ?_
  refine aw_iconst C (i0 := 0) (v := 0) (by decide) (by decide +kernel) rfl ?_
  refine aw_istore_n C [(2, .int (0 : Int32)), (1, .int (0 : Int32)), (0, .ref (gad G 58))] (j := 2) rfl (by rw [hnL]; decide) rfl (by decide +kernel) rfl ?_
  refine aw_sub [(0, .ref (gad G 58)), (1, .int (0 : Int32)), (2, .int (0 : Int32))] [2, 1, 0] rfl ?_
  exact u_m_paperMany_4 C CR0 E hnL hgd hgr hgs _ (0 : Int32) (0 : Int32) _ hf
theorem c_m_paperMany {lay : Ly} (E : LAin lay) (st : Mm) (q : Int32 × Mm) (hf : f_m_paperMany st = some q) : Con 0 Y197 prog_14_method_56_code 3 (Option.some FieldType.int) lay (fun ad => [.ref (ad 58)]) st (some (.int q.1)) q.2 :=
  am_met yf_197.2.2.2.2.2 (fun ad => Nat.le_of_ble_eq_true rfl) (fun G C CR0 e1 e2 e3 e4 e5 => t_m_paperMany C CR0 (by rw [e1]; exact E) e2 (Nat.le_of_eq e5.symm) e3 e4 st hf)
def b_m_isThread_70 (v2 : Int32) (st : Mm) : Option (Int32 × Mm) :=
  if v2 ≤ (1 : Int32) then (some ((0 : Int32), st)) else (some ((1 : Int32), st))
def b_m_isThread_8 (k8 : Int32 → Int32 → Int32 → Mm → Option (Int32 × Mm)) (v1 : Int32) (v2 : Int32) (v3 : Int32) (st : Mm) : Option (Int32 × Mm) :=
  if (4 : Int32) ≤ v3 then (b_m_isThread_70 v2 st) else ((f_m_beside v1 v3 st).bind (fun q2 => if q2.1 = (-1 : Int32) then (lt_ (v3 + (1 : Int32)) (fun a4 => k8 v1 v2 a4 q2.2)) else (if inb q2.1 256 then if (q2.2.1 72 q2.1.toNatClampNeg) = 0 then (lt_ (v3 + (1 : Int32)) (fun a7 => k8 v1 v2 a7 q2.2)) else (if inb q2.1 256 then if (q2.2.1 73 q2.1.toNatClampNeg) = (-1 : Int32) then ((f_m_floods q2.1 (1 : Int32) v1 q2.2).bind (fun q10 => lt_ (v2 + (1 : Int32)) (fun a11 => lt_ (v3 + (1 : Int32)) (fun a12 => k8 v1 a11 a12 q10.2)))) else (lt_ (v3 + (1 : Int32)) (fun a13 => k8 v1 v2 a13 q2.2)) else none) else none)))
def f_m_isThread_8 : Nat → Int32 → Int32 → Int32 → Mm → Option (Int32 × Mm)
  | 0 => fun _ _ _ _ => none
  | n + 1 => b_m_isThread_8 (f_m_isThread_8 n)
def f_m_isThread (v1 : Int32) (st : Mm) : Option (Int32 × Mm) :=
  (f_m_forgets st).bind (fun q1 => f_m_isThread_8 1000000 v1 (0 : Int32) (0 : Int32) q1.2)
theorem t_m_isThread_70 {G : Cx} (C : CX G prog_14_method_64_code "PaperStarsModel") (CR0 : CR G (Option.some FieldType.boolean)) (E : LAin (gly G)) (hnL : gnL G = 5) (hgd : 3 ≤ gd G) {q : Int32 × Mm} (hgr : gr G = some (.int q.1)) (hgs : gsf G = q.2) (v2 : Int32) (st : Mm) (hf : b_m_isThread_70 v2 st = some q) : AW G st 70 [(2, .int v2)] [] := by
  unfold b_m_isThread_70 at hf
  refine aw_iload_n C 2 0 (j := 2) rfl rfl (by decide +kernel) rfl ?_
  refine aw_iconst C (i0 := 1) (v := 1) (by decide) (by decide +kernel) rfl ?_
  refine aw_icmp_le C (tgt := 79) (off := 7) (by decide +kernel) (by decide) rfl (fun c1 => ?_) (fun c1 => ?_)
  · have hf := ift c1 hf
    refine aw_iconst C (i0 := 0) (v := 0) (by decide) (by decide +kernel) rfl ?_
    exact aw_zretq C CR0 hgr hgs (by decide) hf (by decide +kernel)
  · have hf := iff_ c1 hf
    refine aw_iconst C (i0 := 1) (v := 1) (by decide) (by decide +kernel) rfl ?_
    refine aw_goto C (tgt := 80) (off := 4) (by decide +kernel) (by decide) ?_
    exact aw_zretq C CR0 hgr hgs (by decide) hf (by decide +kernel)
theorem t_m_isThread_8 {G : Cx} (C : CX G prog_14_method_64_code "PaperStarsModel") (CR0 : CR G (Option.some FieldType.boolean)) (E : LAin (gly G)) (hnL : gnL G = 5) (hgd : 3 ≤ gd G) {q : Int32 × Mm} (hgr : gr G = some (.int q.1)) (hgs : gsf G = q.2) (k8 : Int32 → Int32 → Int32 → Mm → Option (Int32 × Mm)) (hk8 : ∀ (v1 : Int32) (v2 : Int32) (v3 : Int32) (st : Mm), k8 v1 v2 v3 st = some q → AW G st 8 [(0, .ref (gad G 58)), (1, .int v1), (2, .int v2), (3, .int v3)] []) (v1 : Int32) (v2 : Int32) (v3 : Int32) (st : Mm) (hf : b_m_isThread_8 k8 v1 v2 v3 st = some q) : AW G st 8 [(0, .ref (gad G 58)), (1, .int v1), (2, .int v2), (3, .int v3)] [] := by
  unfold b_m_isThread_8 at hf
  refine aw_iload_n C 3 3 (j := 3) rfl rfl (by decide +kernel) rfl ?_
  refine aw_iconst C (i0 := 4) (v := 4) (by decide) (by decide +kernel) rfl ?_
  refine aw_icmp_ge C (tgt := 70) (off := 60) (by decide +kernel) (by decide) rfl (fun c1 => ?_) (fun c1 => ?_)
  · have hf := ift c1 hf
    refine aw_sub [(2, .int v2)] [2] rfl ?_
    exact t_m_isThread_70 C CR0 E hnL hgd hgr hgs v2 _ hf
  · have hf := iff_ c1 hf
    refine aw_aload_n C 0 0 (j := 0) rfl rfl (by decide +kernel) rfl ?_
    refine aw_iload_n C 1 1 (j := 1) rfl rfl (by decide +kernel) rfl ?_
    refine aw_iload_n C 3 3 (j := 3) rfl rfl (by decide +kernel) rfl ?_
    obtain ⟨q2, hq2, hf⟩ := ibd hf
    refine aw_callV C (rest := []) (c_m_beside E v1 v3 _ q2 hq2) tb_1356 yf_196 yi_196 (la_58 E) [.int v1, .int v3] rfl rfl _ rfl (Nat.le_trans (by decide) hgd) (Nat.le_of_ble_eq_true rfl) (by decide +kernel) rfl ?_
    show AW _ _ _ _ [.int q2.1]
    refine aw_istore C [(4, .int q2.1), (0, .ref (gad G 58)), (1, .int v1), (2, .int v2), (3, .int v3)] (by rw [hnL]; decide) rfl (by decide +kernel) rfl ?_
    refine aw_iload C 4 0 rfl (by decide +kernel) rfl ?_
    refine aw_iconst C (i0 := -1) (v := -1) (by decide) (by decide +kernel) rfl ?_
    refine aw_icmp_eq C (tgt := 64) (off := 40) (by decide +kernel) (by decide) rfl (fun c3 => ?_) (fun c3 => ?_)
    · have hf := ift c3 hf
      obtain ⟨a4, ha4⟩ : ∃ z, z = (v3 + (1 : Int32)) := ⟨_, rfl⟩
      have hf := ilt ha4 hf
      refine aw_iinc C [(3, .int a4), (4, .int q2.1), (0, .ref (gad G 58)), (1, .int v1), (2, .int v2)] 4 (n := 1) rfl (by rw [ha4]; rfl) (by rw [hnL]; decide) rfl (by decide +kernel) rfl ?_
      refine aw_goto C (tgt := 8) (off := -59) (by decide +kernel) (by decide) ?_
      refine aw_sub [(0, .ref (gad G 58)), (1, .int v1), (2, .int v2), (3, .int a4)] [2, 3, 4, 0] rfl ?_
      exact hk8 v1 v2 a4 _ hf
    · have hf := iff_ c3 hf
      refine aw_aload_n C 0 1 (j := 0) rfl rfl (by decide +kernel) rfl ?_
      refine aw_getr C (k := 36) fc_12 (la_58 E) rfl (by decide) tb_978 (by decide +kernel) rfl ?_
      refine aw_iload C 4 0 rfl (by decide +kernel) rfl ?_
      obtain ⟨g5, hf⟩ := igd hf
      refine aw_zald C (la_72 E) g5 (by decide +kernel) rfl ?_
      refine aw_if_eq C (tgt := 64) (off := 30) (by decide +kernel) (by decide) rfl (fun c6 => ?_) (fun c6 => ?_)
      · have hf := ift c6 hf
        obtain ⟨a7, ha7⟩ : ∃ z, z = (v3 + (1 : Int32)) := ⟨_, rfl⟩
        have hf := ilt ha7 hf
        refine aw_iinc C [(3, .int a7), (4, .int q2.1), (0, .ref (gad G 58)), (1, .int v1), (2, .int v2)] 4 (n := 1) rfl (by rw [ha7]; rfl) (by rw [hnL]; decide) rfl (by decide +kernel) rfl ?_
        refine aw_goto C (tgt := 8) (off := -59) (by decide +kernel) (by decide) ?_
        refine aw_sub [(0, .ref (gad G 58)), (1, .int v1), (2, .int v2), (3, .int a7)] [2, 3, 4, 0] rfl ?_
        exact hk8 v1 v2 a7 _ hf
      · have hf := iff_ c6 hf
        refine aw_aload_n C 0 1 (j := 0) rfl rfl (by decide +kernel) rfl ?_
        refine aw_getr C (k := 37) fc_12 (la_58 E) rfl (by decide) tb_979 (by decide +kernel) rfl ?_
        refine aw_iload C 4 0 rfl (by decide +kernel) rfl ?_
        obtain ⟨g8, hf⟩ := igd hf
        refine aw_iald C (la_73 E) g8 (by decide +kernel) rfl ?_
        refine aw_iconst C (i0 := -1) (v := -1) (by decide) (by decide +kernel) rfl ?_
        refine aw_icmp_eq C (tgt := 51) (off := 6) (by decide +kernel) (by decide) rfl (fun c9 => ?_) (fun c9 => ?_)
        · have hf := ift c9 hf
          refine aw_aload_n C 0 1 (j := 0) rfl rfl (by decide +kernel) rfl ?_
          refine aw_iload C 4 0 rfl (by decide +kernel) rfl ?_
          refine aw_iconst C (i0 := 1) (v := 1) (by decide) (by decide +kernel) rfl ?_
          refine aw_iload_n C 1 2 (j := 1) rfl rfl (by decide +kernel) rfl ?_
          obtain ⟨q10, hq10, hf⟩ := ibd hf
          refine aw_callV C (rest := []) (c_m_floods E q2.1 (1 : Int32) v1 _ q10 hq10) tb_1352 yf_195 yi_195 (la_58 E) [.int q2.1, .int (1 : Int32), .int v1] rfl rfl _ rfl (Nat.le_trans (by decide) hgd) (Nat.le_of_ble_eq_true rfl) (by decide +kernel) rfl ?_
          show AW _ _ _ _ [.int q10.1]
          refine aw_pop C rfl (by decide +kernel) rfl ?_
          refine aw_iload_n C 2 3 (j := 2) rfl rfl (by decide +kernel) rfl ?_
          refine aw_iconst C (i0 := 1) (v := 1) (by decide) (by decide +kernel) rfl ?_
          refine aw_iadd C (by decide +kernel) rfl ?_
          obtain ⟨a11, ha11⟩ : ∃ z, z = (v2 + (1 : Int32)) := ⟨_, rfl⟩
          refine aw_nmi ha11 ?_
          have hf := ilt ha11 hf
          refine aw_istore_n C [(2, .int a11), (4, .int q2.1), (0, .ref (gad G 58)), (1, .int v1), (3, .int v3)] (j := 2) rfl (by rw [hnL]; decide) rfl (by decide +kernel) rfl ?_
          obtain ⟨a12, ha12⟩ : ∃ z, z = (v3 + (1 : Int32)) := ⟨_, rfl⟩
          have hf := ilt ha12 hf
          refine aw_iinc C [(3, .int a12), (2, .int a11), (4, .int q2.1), (0, .ref (gad G 58)), (1, .int v1)] 4 (n := 1) rfl (by rw [ha12]; rfl) (by rw [hnL]; decide) rfl (by decide +kernel) rfl ?_
          refine aw_goto C (tgt := 8) (off := -59) (by decide +kernel) (by decide) ?_
          refine aw_sub [(0, .ref (gad G 58)), (1, .int v1), (2, .int a11), (3, .int a12)] [3, 4, 1, 0] rfl ?_
          exact hk8 v1 a11 a12 _ hf
        · have hf := iff_ c9 hf
          refine aw_goto C (tgt := 64) (off := 16) (by decide +kernel) (by decide) ?_
          obtain ⟨a13, ha13⟩ : ∃ z, z = (v3 + (1 : Int32)) := ⟨_, rfl⟩
          have hf := ilt ha13 hf
          refine aw_iinc C [(3, .int a13), (4, .int q2.1), (0, .ref (gad G 58)), (1, .int v1), (2, .int v2)] 4 (n := 1) rfl (by rw [ha13]; rfl) (by rw [hnL]; decide) rfl (by decide +kernel) rfl ?_
          refine aw_goto C (tgt := 8) (off := -59) (by decide +kernel) (by decide) ?_
          refine aw_sub [(0, .ref (gad G 58)), (1, .int v1), (2, .int v2), (3, .int a13)] [2, 3, 4, 0] rfl ?_
          exact hk8 v1 v2 a13 _ hf
theorem u_m_isThread_8 {G : Cx} (C : CX G prog_14_method_64_code "PaperStarsModel") (CR0 : CR G (Option.some FieldType.boolean)) (E : LAin (gly G)) (hnL : gnL G = 5) (hgd : 3 ≤ gd G) {q : Int32 × Mm} (hgr : gr G = some (.int q.1)) (hgs : gsf G = q.2) : ∀ (n : Nat) (v1 : Int32) (v2 : Int32) (v3 : Int32) (st : Mm), f_m_isThread_8 n v1 v2 v3 st = some q → AW G st 8 [(0, .ref (gad G 58)), (1, .int v1), (2, .int v2), (3, .int v3)] [] := by
  intro n
  induction n with
  | zero => intro v1 v2 v3 st hf; cases hf
  | succ n ih => intro v1 v2 v3 st hf; exact t_m_isThread_8 C CR0 E hnL hgd hgr hgs (f_m_isThread_8 n) ih v1 v2 v3 st hf
theorem t_m_isThread {G : Cx} (C : CX G prog_14_method_64_code "PaperStarsModel") (CR0 : CR G (Option.some FieldType.boolean)) (E : LAin (gly G)) (hnL : gnL G = 5) (hgd : 3 ≤ gd G) {q : Int32 × Mm} (hgr : gr G = some (.int q.1)) (hgs : gsf G = q.2) (v1 : Int32) (st : Mm) (hf : f_m_isThread v1 st = some q) : AW G st 0 [(0, .ref (gad G 58)), (1, .int v1)] [] := by
  unfold f_m_isThread at hf
  refine aw_aload_n C 0 0 (j := 0) rfl rfl (by decide +kernel) rfl ?_
  obtain ⟨q1, hq1, hf⟩ := ibd hf
  refine aw_callV C (rest := []) (c_m_forgets E _ q1 hq1) tb_1348 yf_194 yi_194 (la_58 E) [] rfl rfl _ rfl (Nat.le_trans (by decide) hgd) (Nat.le_of_ble_eq_true rfl) (by decide +kernel) rfl ?_
  show AW _ _ _ _ []
  refine aw_iconst C (i0 := 0) (v := 0) (by decide) (by decide +kernel) rfl ?_
  refine aw_istore_n C [(2, .int (0 : Int32)), (0, .ref (gad G 58)), (1, .int v1)] (j := 2) rfl (by rw [hnL]; decide) rfl (by decide +kernel) rfl ?_
  refine aw_iconst C (i0 := 0) (v := 0) (by decide) (by decide +kernel) rfl ?_
  refine aw_istore_n C [(3, .int (0 : Int32)), (2, .int (0 : Int32)), (0, .ref (gad G 58)), (1, .int v1)] (j := 3) rfl (by rw [hnL]; decide) rfl (by decide +kernel) rfl ?_
  refine aw_sub [(0, .ref (gad G 58)), (1, .int v1), (2, .int (0 : Int32)), (3, .int (0 : Int32))] [2, 3, 1, 0] rfl ?_
  exact u_m_isThread_8 C CR0 E hnL hgd hgr hgs _ v1 (0 : Int32) (0 : Int32) _ hf
theorem c_m_isThread {lay : Ly} (E : LAin lay) (v1 : Int32) (st : Mm) (q : Int32 × Mm) (hf : f_m_isThread v1 st = some q) : Con 3 Y202 prog_14_method_64_code 5 (Option.some FieldType.boolean) lay (fun ad => [.ref (ad 58), .int v1]) st (some (.int q.1)) q.2 :=
  am_met yf_202.2.2.2.2.2 (fun ad => Nat.le_of_ble_eq_true rfl) (fun G C CR0 e1 e2 e3 e4 e5 => t_m_isThread C CR0 (by rw [e1]; exact E) e2 (Nat.le_of_eq e5.symm) e3 e4 v1 st hf)
def b_m_threadMany_4 (k4 : Int32 → Int32 → Mm → Option (Int32 × Mm)) (v1 : Int32) (v2 : Int32) (st : Mm) : Option (Int32 × Mm) :=
  if (256 : Int32) ≤ v2 then (some (v1, st)) else (if inb v2 256 then if (st.1 72 v2.toNatClampNeg) = 0 then (lt_ (v1 + (0 : Int32)) (fun a4 => lt_ (v2 + (1 : Int32)) (fun a5 => k4 a4 a5 st))) else ((f_m_isThread v2 st).bind (fun q6 => if q6.1 = 0 then (lt_ (v1 + (0 : Int32)) (fun a8 => lt_ (v2 + (1 : Int32)) (fun a9 => k4 a8 a9 q6.2))) else (lt_ (v1 + (1 : Int32)) (fun a10 => lt_ (v2 + (1 : Int32)) (fun a11 => k4 a10 a11 q6.2))))) else none)
def f_m_threadMany_4 : Nat → Int32 → Int32 → Mm → Option (Int32 × Mm)
  | 0 => fun _ _ _ => none
  | n + 1 => b_m_threadMany_4 (f_m_threadMany_4 n)
def f_m_threadMany (st : Mm) : Option (Int32 × Mm) :=
  f_m_threadMany_4 1000000 (0 : Int32) (0 : Int32) st
theorem t_m_threadMany_4 {G : Cx} (C : CX G prog_14_method_65_code "PaperStarsModel") (CR0 : CR G (Option.some FieldType.int)) (E : LAin (gly G)) (hnL : gnL G = 3) (hgd : 4 ≤ gd G) {q : Int32 × Mm} (hgr : gr G = some (.int q.1)) (hgs : gsf G = q.2) (k4 : Int32 → Int32 → Mm → Option (Int32 × Mm)) (hk4 : ∀ (v1 : Int32) (v2 : Int32) (st : Mm), k4 v1 v2 st = some q → AW G st 4 [(0, .ref (gad G 58)), (1, .int v1), (2, .int v2)] []) (v1 : Int32) (v2 : Int32) (st : Mm) (hf : b_m_threadMany_4 k4 v1 v2 st = some q) : AW G st 4 [(0, .ref (gad G 58)), (1, .int v1), (2, .int v2)] [] := by
  unfold b_m_threadMany_4 at hf
  refine aw_iload_n C 2 2 (j := 2) rfl rfl (by decide +kernel) rfl ?_
  refine aw_sipush C (i0 := 256) (v := 256) (by decide) (by decide +kernel) rfl ?_
  refine aw_icmp_ge C (tgt := 42) (off := 34) (by decide +kernel) (by decide) rfl (fun c1 => ?_) (fun c1 => ?_)
  · have hf := ift c1 hf
    refine aw_iload_n C 1 1 (j := 1) rfl rfl (by decide +kernel) rfl ?_
    exact aw_iretq C CR0 hgr hgs hf (by decide +kernel)
  · have hf := iff_ c1 hf
    refine aw_iload_n C 1 1 (j := 1) rfl rfl (by decide +kernel) rfl ?_
    refine aw_aload_n C 0 0 (j := 0) rfl rfl (by decide +kernel) rfl ?_
    refine aw_getr C (k := 36) fc_12 (la_58 E) rfl (by decide) tb_978 (by decide +kernel) rfl ?_
    refine aw_iload_n C 2 2 (j := 2) rfl rfl (by decide +kernel) rfl ?_
    obtain ⟨g2, hf⟩ := igd hf
    refine aw_zald C (la_72 E) g2 (by decide +kernel) rfl ?_
    refine aw_if_eq C (tgt := 33) (off := 15) (by decide +kernel) (by decide) rfl (fun c3 => ?_) (fun c3 => ?_)
    · have hf := ift c3 hf
      refine aw_iconst C (i0 := 0) (v := 0) (by decide) (by decide +kernel) rfl ?_
      refine aw_iadd C (by decide +kernel) rfl ?_
      obtain ⟨a4, ha4⟩ : ∃ z, z = (v1 + (0 : Int32)) := ⟨_, rfl⟩
      refine aw_nmi ha4 ?_
      have hf := ilt ha4 hf
      refine aw_istore_n C [(1, .int a4), (0, .ref (gad G 58)), (2, .int v2)] (j := 1) rfl (by rw [hnL]; decide) rfl (by decide +kernel) rfl ?_
      obtain ⟨a5, ha5⟩ : ∃ z, z = (v2 + (1 : Int32)) := ⟨_, rfl⟩
      have hf := ilt ha5 hf
      refine aw_iinc C [(2, .int a5), (1, .int a4), (0, .ref (gad G 58))] 2 (n := 1) rfl (by rw [ha5]; rfl) (by rw [hnL]; decide) rfl (by decide +kernel) rfl ?_
      refine aw_goto C (tgt := 4) (off := -35) (by decide +kernel) (by decide) ?_
      refine aw_sub [(0, .ref (gad G 58)), (1, .int a4), (2, .int a5)] [2, 1, 0] rfl ?_
      exact hk4 a4 a5 _ hf
    · have hf := iff_ c3 hf
      refine aw_aload_n C 0 0 (j := 0) rfl rfl (by decide +kernel) rfl ?_
      refine aw_iload_n C 2 2 (j := 2) rfl rfl (by decide +kernel) rfl ?_
      obtain ⟨q6, hq6, hf⟩ := ibd hf
      refine aw_callV C (rest := [.int v1]) (c_m_isThread E v2 _ q6 hq6) tb_1380 yf_202 yi_202 (la_58 E) [.int v2] rfl rfl _ rfl (Nat.le_trans (by decide) hgd) (Nat.le_of_ble_eq_true rfl) (by decide +kernel) rfl ?_
      show AW _ _ _ _ [.int q6.1, .int v1]
      refine aw_if_eq C (tgt := 33) (off := 7) (by decide +kernel) (by decide) rfl (fun c7 => ?_) (fun c7 => ?_)
      · have hf := ift c7 hf
        refine aw_iconst C (i0 := 0) (v := 0) (by decide) (by decide +kernel) rfl ?_
        refine aw_iadd C (by decide +kernel) rfl ?_
        obtain ⟨a8, ha8⟩ : ∃ z, z = (v1 + (0 : Int32)) := ⟨_, rfl⟩
        refine aw_nmi ha8 ?_
        have hf := ilt ha8 hf
        refine aw_istore_n C [(1, .int a8), (0, .ref (gad G 58)), (2, .int v2)] (j := 1) rfl (by rw [hnL]; decide) rfl (by decide +kernel) rfl ?_
        obtain ⟨a9, ha9⟩ : ∃ z, z = (v2 + (1 : Int32)) := ⟨_, rfl⟩
        have hf := ilt ha9 hf
        refine aw_iinc C [(2, .int a9), (1, .int a8), (0, .ref (gad G 58))] 2 (n := 1) rfl (by rw [ha9]; rfl) (by rw [hnL]; decide) rfl (by decide +kernel) rfl ?_
        refine aw_goto C (tgt := 4) (off := -35) (by decide +kernel) (by decide) ?_
        refine aw_sub [(0, .ref (gad G 58)), (1, .int a8), (2, .int a9)] [2, 1, 0] rfl ?_
        exact hk4 a8 a9 _ hf
      · have hf := iff_ c7 hf
        refine aw_iconst C (i0 := 1) (v := 1) (by decide) (by decide +kernel) rfl ?_
        refine aw_goto C (tgt := 34) (off := 4) (by decide +kernel) (by decide) ?_
        refine aw_iadd C (by decide +kernel) rfl ?_
        obtain ⟨a10, ha10⟩ : ∃ z, z = (v1 + (1 : Int32)) := ⟨_, rfl⟩
        refine aw_nmi ha10 ?_
        have hf := ilt ha10 hf
        refine aw_istore_n C [(1, .int a10), (0, .ref (gad G 58)), (2, .int v2)] (j := 1) rfl (by rw [hnL]; decide) rfl (by decide +kernel) rfl ?_
        obtain ⟨a11, ha11⟩ : ∃ z, z = (v2 + (1 : Int32)) := ⟨_, rfl⟩
        have hf := ilt ha11 hf
        refine aw_iinc C [(2, .int a11), (1, .int a10), (0, .ref (gad G 58))] 2 (n := 1) rfl (by rw [ha11]; rfl) (by rw [hnL]; decide) rfl (by decide +kernel) rfl ?_
        refine aw_goto C (tgt := 4) (off := -35) (by decide +kernel) (by decide) ?_
        refine aw_sub [(0, .ref (gad G 58)), (1, .int a10), (2, .int a11)] [2, 1, 0] rfl ?_
        exact hk4 a10 a11 _ hf
theorem u_m_threadMany_4 {G : Cx} (C : CX G prog_14_method_65_code "PaperStarsModel") (CR0 : CR G (Option.some FieldType.int)) (E : LAin (gly G)) (hnL : gnL G = 3) (hgd : 4 ≤ gd G) {q : Int32 × Mm} (hgr : gr G = some (.int q.1)) (hgs : gsf G = q.2) : ∀ (n : Nat) (v1 : Int32) (v2 : Int32) (st : Mm), f_m_threadMany_4 n v1 v2 st = some q → AW G st 4 [(0, .ref (gad G 58)), (1, .int v1), (2, .int v2)] [] := by
  intro n
  induction n with
  | zero => intro v1 v2 st hf; cases hf
  | succ n ih => intro v1 v2 st hf; exact t_m_threadMany_4 C CR0 E hnL hgd hgr hgs (f_m_threadMany_4 n) ih v1 v2 st hf
theorem t_m_threadMany {G : Cx} (C : CX G prog_14_method_65_code "PaperStarsModel") (CR0 : CR G (Option.some FieldType.int)) (E : LAin (gly G)) (hnL : gnL G = 3) (hgd : 4 ≤ gd G) {q : Int32 × Mm} (hgr : gr G = some (.int q.1)) (hgs : gsf G = q.2) (st : Mm) (hf : f_m_threadMany st = some q) : AW G st 0 [(0, .ref (gad G 58))] [] := by
  unfold f_m_threadMany at hf
  refine aw_iconst C (i0 := 0) (v := 0) (by decide) (by decide +kernel) rfl ?_
  refine aw_istore_n C [(1, .int (0 : Int32)), (0, .ref (gad G 58))] (j := 1) rfl (by rw [hnL]; decide) rfl (by decide +kernel) rfl ?_
  refine aw_iconst C (i0 := 0) (v := 0) (by decide) (by decide +kernel) rfl ?_
  refine aw_istore_n C [(2, .int (0 : Int32)), (1, .int (0 : Int32)), (0, .ref (gad G 58))] (j := 2) rfl (by rw [hnL]; decide) rfl (by decide +kernel) rfl ?_
  refine aw_sub [(0, .ref (gad G 58)), (1, .int (0 : Int32)), (2, .int (0 : Int32))] [2, 1, 0] rfl ?_
  exact u_m_threadMany_4 C CR0 E hnL hgd hgr hgs _ (0 : Int32) (0 : Int32) _ hf
theorem c_m_threadMany {lay : Ly} (E : LAin lay) (st : Mm) (q : Int32 × Mm) (hf : f_m_threadMany st = some q) : Con 4 Y201 prog_14_method_65_code 3 (Option.some FieldType.int) lay (fun ad => [.ref (ad 58)]) st (some (.int q.1)) q.2 :=
  am_met yf_201.2.2.2.2.2 (fun ad => Nat.le_of_ble_eq_true rfl) (fun G C CR0 e1 e2 e3 e4 e5 => t_m_threadMany C CR0 (by rw [e1]; exact E) e2 (Nat.le_of_eq e5.symm) e3 e4 st hf)
def f_m_sums (v1 : Int32) (st : Mm) : Option (Int32 × Mm) :=
  (f_m_opens0 (0 : Int32) st).bind (fun q1 => (f_m_laysPieces q1.2).bind (fun q2 => if v1 = 0 then ((f_m_paperMany q2.2).bind (fun q4 => some (q4.1, q4.2))) else (if v1 = 1 then (some ((q2.2.1 58 39), q2.2)) else (if v1 = 2 then (some ((q2.2.1 58 40), q2.2)) else (if v1 = 3 then ((f_m_paperMany q2.2).bind (fun q8 => some ((q8.1 - (q8.2.1 58 40)), q8.2))) else (if v1 = 4 then ((f_m_holeMany q2.2).bind (fun q10 => some (q10.1, q10.2))) else (if v1 = 5 then ((f_m_edgeMany q2.2).bind (fun q12 => some (q12.1, q12.2))) else (if v1 = 6 then ((f_m_threadMany q2.2).bind (fun q14 => some (q14.1, q14.2))) else (some ((-1 : Int32), q2.2))))))))))
theorem t_m_sums {G : Cx} (C : CX G prog_14_method_66_code "PaperStarsModel") (CR0 : CR G (Option.some FieldType.int)) (E : LAin (gly G)) (hnL : gnL G = 2) (hgd : 5 ≤ gd G) {q : Int32 × Mm} (hgr : gr G = some (.int q.1)) (hgs : gsf G = q.2) (v1 : Int32) (st : Mm) (hf : f_m_sums v1 st = some q) : AW G st 0 [(0, .ref (gad G 58)), (1, .int v1)] [] := by
  unfold f_m_sums at hf
  refine aw_aload_n C 0 0 (j := 0) rfl rfl (by decide +kernel) rfl ?_
  refine aw_iconst C (i0 := 0) (v := 0) (by decide) (by decide +kernel) rfl ?_
  obtain ⟨q1, hq1, hf⟩ := ibd hf
  refine aw_callV C (rest := []) (c_m_opens0 E (0 : Int32) _ q1 hq1) tb_1332 yf_190 yi_190 (la_58 E) [.int (0 : Int32)] rfl rfl _ rfl (Nat.le_trans (by decide) hgd) (Nat.le_of_ble_eq_true rfl) (by decide +kernel) rfl ?_
  show AW _ _ _ _ []
  refine aw_aload_n C 0 0 (j := 0) rfl rfl (by decide +kernel) rfl ?_
  obtain ⟨q2, hq2, hf⟩ := ibd hf
  refine aw_callV C (rest := []) (c_m_laysPieces E _ q2 hq2) tb_1344 yf_193 yi_193 (la_58 E) [] rfl rfl _ rfl (Nat.le_trans (by decide) hgd) (Nat.le_of_ble_eq_true rfl) (by decide +kernel) rfl ?_
  show AW _ _ _ _ []
  refine aw_iload_n C 1 1 (j := 1) rfl rfl (by decide +kernel) rfl ?_
  by_cases w3 : v1 = 0
  · have hf := ift w3 hf
    refine aw_tin C (tgt := 52) (off := 42) (dflt := 82) (lo := 0) (hi := 6) (offs := #[42, 47, 52, 57, 67, 72, 77]) (len := 42) (by decide +kernel) (by rw [w3]; decide) (by rw [w3]; decide) (by rw [w3]; decide) (by decide) ?_
    refine aw_aload_n C 0 0 (j := 0) rfl rfl (by decide +kernel) rfl ?_
    obtain ⟨q4, hq4, hf⟩ := ibd hf
    refine aw_callV C (rest := []) (c_m_paperMany E _ q4 hq4) tb_1360 yf_197 yi_197 (la_58 E) [] rfl rfl _ rfl (Nat.le_trans (by decide) hgd) (Nat.le_of_ble_eq_true rfl) (by decide +kernel) rfl ?_
    show AW _ _ _ _ [.int q4.1]
    exact aw_iretq C CR0 hgr hgs hf (by decide +kernel)
  · have hf := iff_ w3 hf
    by_cases w5 : v1 = 1
    · have hf := ift w5 hf
      refine aw_tin C (tgt := 57) (off := 47) (dflt := 82) (lo := 0) (hi := 6) (offs := #[42, 47, 52, 57, 67, 72, 77]) (len := 42) (by decide +kernel) (by rw [w5]; decide) (by rw [w5]; decide) (by rw [w5]; decide) (by decide) ?_
      refine aw_aload_n C 0 0 (j := 0) rfl rfl (by decide +kernel) rfl ?_
      refine aw_get C (k := 39) fc_12 (la_58 E) rfl (by decide) tb_981 (by decide +kernel) rfl ?_
      exact aw_iretq C CR0 hgr hgs hf (by decide +kernel)
    · have hf := iff_ w5 hf
      by_cases w6 : v1 = 2
      · have hf := ift w6 hf
        refine aw_tin C (tgt := 62) (off := 52) (dflt := 82) (lo := 0) (hi := 6) (offs := #[42, 47, 52, 57, 67, 72, 77]) (len := 42) (by decide +kernel) (by rw [w6]; decide) (by rw [w6]; decide) (by rw [w6]; decide) (by decide) ?_
        refine aw_aload_n C 0 0 (j := 0) rfl rfl (by decide +kernel) rfl ?_
        refine aw_get C (k := 40) fc_12 (la_58 E) rfl (by decide) tb_982 (by decide +kernel) rfl ?_
        exact aw_iretq C CR0 hgr hgs hf (by decide +kernel)
      · have hf := iff_ w6 hf
        by_cases w7 : v1 = 3
        · have hf := ift w7 hf
          refine aw_tin C (tgt := 67) (off := 57) (dflt := 82) (lo := 0) (hi := 6) (offs := #[42, 47, 52, 57, 67, 72, 77]) (len := 42) (by decide +kernel) (by rw [w7]; decide) (by rw [w7]; decide) (by rw [w7]; decide) (by decide) ?_
          refine aw_aload_n C 0 0 (j := 0) rfl rfl (by decide +kernel) rfl ?_
          obtain ⟨q8, hq8, hf⟩ := ibd hf
          refine aw_callV C (rest := []) (c_m_paperMany E _ q8 hq8) tb_1360 yf_197 yi_197 (la_58 E) [] rfl rfl _ rfl (Nat.le_trans (by decide) hgd) (Nat.le_of_ble_eq_true rfl) (by decide +kernel) rfl ?_
          show AW _ _ _ _ [.int q8.1]
          refine aw_aload_n C 0 0 (j := 0) rfl rfl (by decide +kernel) rfl ?_
          refine aw_get C (k := 40) fc_12 (la_58 E) rfl (by decide) tb_982 (by decide +kernel) rfl ?_
          refine aw_isub C (by decide +kernel) rfl ?_
          exact aw_iretq C CR0 hgr hgs hf (by decide +kernel)
        · have hf := iff_ w7 hf
          by_cases w9 : v1 = 4
          · have hf := ift w9 hf
            refine aw_tin C (tgt := 77) (off := 67) (dflt := 82) (lo := 0) (hi := 6) (offs := #[42, 47, 52, 57, 67, 72, 77]) (len := 42) (by decide +kernel) (by rw [w9]; decide) (by rw [w9]; decide) (by rw [w9]; decide) (by decide) ?_
            refine aw_aload_n C 0 0 (j := 0) rfl rfl (by decide +kernel) rfl ?_
            obtain ⟨q10, hq10, hf⟩ := ibd hf
            refine aw_callV C (rest := []) (c_m_holeMany E _ q10 hq10) tb_1364 yf_198 yi_198 (la_58 E) [] rfl rfl _ rfl (Nat.le_trans (by decide) hgd) (Nat.le_of_ble_eq_true rfl) (by decide +kernel) rfl ?_
            show AW _ _ _ _ [.int q10.1]
            exact aw_iretq C CR0 hgr hgs hf (by decide +kernel)
          · have hf := iff_ w9 hf
            by_cases w11 : v1 = 5
            · have hf := ift w11 hf
              refine aw_tin C (tgt := 82) (off := 72) (dflt := 82) (lo := 0) (hi := 6) (offs := #[42, 47, 52, 57, 67, 72, 77]) (len := 42) (by decide +kernel) (by rw [w11]; decide) (by rw [w11]; decide) (by rw [w11]; decide) (by decide) ?_
              refine aw_aload_n C 0 0 (j := 0) rfl rfl (by decide +kernel) rfl ?_
              obtain ⟨q12, hq12, hf⟩ := ibd hf
              refine aw_callV C (rest := []) (c_m_edgeMany E _ q12 hq12) tb_1372 yf_200 yi_200 (la_58 E) [] rfl rfl _ rfl (Nat.le_trans (by decide) hgd) (Nat.le_of_ble_eq_true rfl) (by decide +kernel) rfl ?_
              show AW _ _ _ _ [.int q12.1]
              exact aw_iretq C CR0 hgr hgs hf (by decide +kernel)
            · have hf := iff_ w11 hf
              by_cases w13 : v1 = 6
              · have hf := ift w13 hf
                refine aw_tin C (tgt := 87) (off := 77) (dflt := 82) (lo := 0) (hi := 6) (offs := #[42, 47, 52, 57, 67, 72, 77]) (len := 42) (by decide +kernel) (by rw [w13]; decide) (by rw [w13]; decide) (by rw [w13]; decide) (by decide) ?_
                refine aw_aload_n C 0 0 (j := 0) rfl rfl (by decide +kernel) rfl ?_
                obtain ⟨q14, hq14, hf⟩ := ibd hf
                refine aw_callV C (rest := []) (c_m_threadMany E _ q14 hq14) tb_1376 yf_201 yi_201 (la_58 E) [] rfl rfl _ rfl (Nat.le_trans (by decide) hgd) (Nat.le_of_ble_eq_true rfl) (by decide +kernel) rfl ?_
                show AW _ _ _ _ [.int q14.1]
                exact aw_iretq C CR0 hgr hgs hf (by decide +kernel)
              · have hf := iff_ w13 hf
                have zw3 := am_ne w3 (k := 0) (by decide)
                have zw5 := am_ne w5 (k := 1) (by decide)
                have zw6 := am_ne w6 (k := 2) (by decide)
                have zw7 := am_ne w7 (k := 3) (by decide)
                have zw9 := am_ne w9 (k := 4) (by decide)
                have zw11 := am_ne w11 (k := 5) (by decide)
                have zw13 := am_ne w13 (k := 6) (by decide)
                refine aw_tout C (tgt := 92) (dflt := 82) (lo := 0) (hi := 6) (offs := #[42, 47, 52, 57, 67, 72, 77]) (len := 42) (by decide +kernel) (by omega) (by decide) ?_
                refine aw_iconst C (i0 := -1) (v := -1) (by decide) (by decide +kernel) rfl ?_
                exact aw_iretq C CR0 hgr hgs hf (by decide +kernel)
theorem c_m_sums {lay : Ly} (E : LAin lay) (v1 : Int32) (st : Mm) (q : Int32 × Mm) (hf : f_m_sums v1 st = some q) : Con 5 Y192 prog_14_method_66_code 2 (Option.some FieldType.int) lay (fun ad => [.ref (ad 58), .int v1]) st (some (.int q.1)) q.2 :=
  am_met yf_192.2.2.2.2.2 (fun ad => Nat.le_of_ble_eq_true rfl) (fun G C CR0 e1 e2 e3 e4 e5 => t_m_sums C CR0 (by rw [e1]; exact E) e2 (Nat.le_of_eq e5.symm) e3 e4 v1 st hf)
def b_m_piecesOf_4 (k4 : Int32 → Int32 → Int32 → Mm → Option (Int32 × Mm)) (v1 : Int32) (v2 : Int32) (v3 : Int32) (st : Mm) : Option (Int32 × Mm) :=
  if (256 : Int32) ≤ v3 then (some (v2, st)) else (if inb v3 256 then if (st.1 72 v3.toNatClampNeg) = 0 then (lt_ (v2 + (0 : Int32)) (fun a4 => lt_ (v3 + (1 : Int32)) (fun a5 => k4 v1 a4 a5 st))) else (if inb v3 256 then if (st.1 73 v3.toNatClampNeg) = v1 then (lt_ (v2 + (1 : Int32)) (fun a8 => lt_ (v3 + (1 : Int32)) (fun a9 => k4 v1 a8 a9 st))) else (lt_ (v2 + (0 : Int32)) (fun a10 => lt_ (v3 + (1 : Int32)) (fun a11 => k4 v1 a10 a11 st))) else none) else none)
def f_m_piecesOf_4 : Nat → Int32 → Int32 → Int32 → Mm → Option (Int32 × Mm)
  | 0 => fun _ _ _ _ => none
  | n + 1 => b_m_piecesOf_4 (f_m_piecesOf_4 n)
def f_m_piecesOf (v1 : Int32) (st : Mm) : Option (Int32 × Mm) :=
  f_m_piecesOf_4 1000000 v1 (0 : Int32) (0 : Int32) st
theorem t_m_piecesOf_4 {G : Cx} (C : CX G prog_14_method_67_code "PaperStarsModel") (CR0 : CR G (Option.some FieldType.int)) (E : LAin (gly G)) (hnL : gnL G = 4) (hgd : 0 ≤ gd G) {q : Int32 × Mm} (hgr : gr G = some (.int q.1)) (hgs : gsf G = q.2) (k4 : Int32 → Int32 → Int32 → Mm → Option (Int32 × Mm)) (hk4 : ∀ (v1 : Int32) (v2 : Int32) (v3 : Int32) (st : Mm), k4 v1 v2 v3 st = some q → AW G st 4 [(0, .ref (gad G 58)), (1, .int v1), (2, .int v2), (3, .int v3)] []) (v1 : Int32) (v2 : Int32) (v3 : Int32) (st : Mm) (hf : b_m_piecesOf_4 k4 v1 v2 v3 st = some q) : AW G st 4 [(0, .ref (gad G 58)), (1, .int v1), (2, .int v2), (3, .int v3)] [] := by
  unfold b_m_piecesOf_4 at hf
  refine aw_iload_n C 3 3 (j := 3) rfl rfl (by decide +kernel) rfl ?_
  refine aw_sipush C (i0 := 256) (v := 256) (by decide) (by decide +kernel) rfl ?_
  refine aw_icmp_ge C (tgt := 44) (off := 36) (by decide +kernel) (by decide) rfl (fun c1 => ?_) (fun c1 => ?_)
  · have hf := ift c1 hf
    refine aw_iload_n C 2 2 (j := 2) rfl rfl (by decide +kernel) rfl ?_
    exact aw_iretq C CR0 hgr hgs hf (by decide +kernel)
  · have hf := iff_ c1 hf
    refine aw_iload_n C 2 2 (j := 2) rfl rfl (by decide +kernel) rfl ?_
    refine aw_aload_n C 0 0 (j := 0) rfl rfl (by decide +kernel) rfl ?_
    refine aw_getr C (k := 36) fc_12 (la_58 E) rfl (by decide) tb_978 (by decide +kernel) rfl ?_
    refine aw_iload_n C 3 3 (j := 3) rfl rfl (by decide +kernel) rfl ?_
    obtain ⟨g2, hf⟩ := igd hf
    refine aw_zald C (la_72 E) g2 (by decide +kernel) rfl ?_
    refine aw_if_eq C (tgt := 35) (off := 17) (by decide +kernel) (by decide) rfl (fun c3 => ?_) (fun c3 => ?_)
    · have hf := ift c3 hf
      refine aw_iconst C (i0 := 0) (v := 0) (by decide) (by decide +kernel) rfl ?_
      refine aw_iadd C (by decide +kernel) rfl ?_
      obtain ⟨a4, ha4⟩ : ∃ z, z = (v2 + (0 : Int32)) := ⟨_, rfl⟩
      refine aw_nmi ha4 ?_
      have hf := ilt ha4 hf
      refine aw_istore_n C [(2, .int a4), (0, .ref (gad G 58)), (1, .int v1), (3, .int v3)] (j := 2) rfl (by rw [hnL]; decide) rfl (by decide +kernel) rfl ?_
      obtain ⟨a5, ha5⟩ : ∃ z, z = (v3 + (1 : Int32)) := ⟨_, rfl⟩
      have hf := ilt ha5 hf
      refine aw_iinc C [(3, .int a5), (2, .int a4), (0, .ref (gad G 58)), (1, .int v1)] 3 (n := 1) rfl (by rw [ha5]; rfl) (by rw [hnL]; decide) rfl (by decide +kernel) rfl ?_
      refine aw_goto C (tgt := 4) (off := -37) (by decide +kernel) (by decide) ?_
      refine aw_sub [(0, .ref (gad G 58)), (1, .int v1), (2, .int a4), (3, .int a5)] [2, 3, 1, 0] rfl ?_
      exact hk4 v1 a4 a5 _ hf
    · have hf := iff_ c3 hf
      refine aw_aload_n C 0 0 (j := 0) rfl rfl (by decide +kernel) rfl ?_
      refine aw_getr C (k := 37) fc_12 (la_58 E) rfl (by decide) tb_979 (by decide +kernel) rfl ?_
      refine aw_iload_n C 3 3 (j := 3) rfl rfl (by decide +kernel) rfl ?_
      obtain ⟨g6, hf⟩ := igd hf
      refine aw_iald C (la_73 E) g6 (by decide +kernel) rfl ?_
      refine aw_iload_n C 1 1 (j := 1) rfl rfl (by decide +kernel) rfl ?_
      refine aw_icmp_ne C (tgt := 35) (off := 7) (by decide +kernel) (by decide) rfl (fun c7 => ?_) (fun c7 => ?_)
      · have hf := ift c7 hf
        refine aw_iconst C (i0 := 1) (v := 1) (by decide) (by decide +kernel) rfl ?_
        refine aw_goto C (tgt := 36) (off := 4) (by decide +kernel) (by decide) ?_
        refine aw_iadd C (by decide +kernel) rfl ?_
        obtain ⟨a8, ha8⟩ : ∃ z, z = (v2 + (1 : Int32)) := ⟨_, rfl⟩
        refine aw_nmi ha8 ?_
        have hf := ilt ha8 hf
        refine aw_istore_n C [(2, .int a8), (0, .ref (gad G 58)), (1, .int v1), (3, .int v3)] (j := 2) rfl (by rw [hnL]; decide) rfl (by decide +kernel) rfl ?_
        obtain ⟨a9, ha9⟩ : ∃ z, z = (v3 + (1 : Int32)) := ⟨_, rfl⟩
        have hf := ilt ha9 hf
        refine aw_iinc C [(3, .int a9), (2, .int a8), (0, .ref (gad G 58)), (1, .int v1)] 3 (n := 1) rfl (by rw [ha9]; rfl) (by rw [hnL]; decide) rfl (by decide +kernel) rfl ?_
        refine aw_goto C (tgt := 4) (off := -37) (by decide +kernel) (by decide) ?_
        refine aw_sub [(0, .ref (gad G 58)), (1, .int v1), (2, .int a8), (3, .int a9)] [2, 3, 1, 0] rfl ?_
        exact hk4 v1 a8 a9 _ hf
      · have hf := iff_ c7 hf
        refine aw_iconst C (i0 := 0) (v := 0) (by decide) (by decide +kernel) rfl ?_
        refine aw_iadd C (by decide +kernel) rfl ?_
        obtain ⟨a10, ha10⟩ : ∃ z, z = (v2 + (0 : Int32)) := ⟨_, rfl⟩
        refine aw_nmi ha10 ?_
        have hf := ilt ha10 hf
        refine aw_istore_n C [(2, .int a10), (0, .ref (gad G 58)), (1, .int v1), (3, .int v3)] (j := 2) rfl (by rw [hnL]; decide) rfl (by decide +kernel) rfl ?_
        obtain ⟨a11, ha11⟩ : ∃ z, z = (v3 + (1 : Int32)) := ⟨_, rfl⟩
        have hf := ilt ha11 hf
        refine aw_iinc C [(3, .int a11), (2, .int a10), (0, .ref (gad G 58)), (1, .int v1)] 3 (n := 1) rfl (by rw [ha11]; rfl) (by rw [hnL]; decide) rfl (by decide +kernel) rfl ?_
        refine aw_goto C (tgt := 4) (off := -37) (by decide +kernel) (by decide) ?_
        refine aw_sub [(0, .ref (gad G 58)), (1, .int v1), (2, .int a10), (3, .int a11)] [2, 3, 1, 0] rfl ?_
        exact hk4 v1 a10 a11 _ hf
theorem u_m_piecesOf_4 {G : Cx} (C : CX G prog_14_method_67_code "PaperStarsModel") (CR0 : CR G (Option.some FieldType.int)) (E : LAin (gly G)) (hnL : gnL G = 4) (hgd : 0 ≤ gd G) {q : Int32 × Mm} (hgr : gr G = some (.int q.1)) (hgs : gsf G = q.2) : ∀ (n : Nat) (v1 : Int32) (v2 : Int32) (v3 : Int32) (st : Mm), f_m_piecesOf_4 n v1 v2 v3 st = some q → AW G st 4 [(0, .ref (gad G 58)), (1, .int v1), (2, .int v2), (3, .int v3)] [] := by
  intro n
  induction n with
  | zero => intro v1 v2 v3 st hf; cases hf
  | succ n ih => intro v1 v2 v3 st hf; exact t_m_piecesOf_4 C CR0 E hnL hgd hgr hgs (f_m_piecesOf_4 n) ih v1 v2 v3 st hf
theorem t_m_piecesOf {G : Cx} (C : CX G prog_14_method_67_code "PaperStarsModel") (CR0 : CR G (Option.some FieldType.int)) (E : LAin (gly G)) (hnL : gnL G = 4) (hgd : 0 ≤ gd G) {q : Int32 × Mm} (hgr : gr G = some (.int q.1)) (hgs : gsf G = q.2) (v1 : Int32) (st : Mm) (hf : f_m_piecesOf v1 st = some q) : AW G st 0 [(0, .ref (gad G 58)), (1, .int v1)] [] := by
  unfold f_m_piecesOf at hf
  refine aw_iconst C (i0 := 0) (v := 0) (by decide) (by decide +kernel) rfl ?_
  refine aw_istore_n C [(2, .int (0 : Int32)), (0, .ref (gad G 58)), (1, .int v1)] (j := 2) rfl (by rw [hnL]; decide) rfl (by decide +kernel) rfl ?_
  refine aw_iconst C (i0 := 0) (v := 0) (by decide) (by decide +kernel) rfl ?_
  refine aw_istore_n C [(3, .int (0 : Int32)), (2, .int (0 : Int32)), (0, .ref (gad G 58)), (1, .int v1)] (j := 3) rfl (by rw [hnL]; decide) rfl (by decide +kernel) rfl ?_
  refine aw_sub [(0, .ref (gad G 58)), (1, .int v1), (2, .int (0 : Int32)), (3, .int (0 : Int32))] [2, 3, 1, 0] rfl ?_
  exact u_m_piecesOf_4 C CR0 E hnL hgd hgr hgs _ v1 (0 : Int32) (0 : Int32) _ hf
theorem c_m_piecesOf {lay : Ly} (E : LAin lay) (v1 : Int32) (st : Mm) (q : Int32 × Mm) (hf : f_m_piecesOf v1 st = some q) : Con 0 Y204 prog_14_method_67_code 4 (Option.some FieldType.int) lay (fun ad => [.ref (ad 58), .int v1]) st (some (.int q.1)) q.2 :=
  am_met yf_204.2.2.2.2.2 (fun ad => Nat.le_of_ble_eq_true rfl) (fun G C CR0 e1 e2 e3 e4 e5 => t_m_piecesOf C CR0 (by rw [e1]; exact E) e2 (Nat.le_of_eq e5.symm) e3 e4 v1 st hf)
def f_m_piece (v1 : Int32) (v2 : Int32) (v3 : Int32) (st : Mm) : Option (Int32 × Mm) :=
  (f_m_isCell v1 v2 st).bind (fun q1 => if q1.1 = 0 then (some ((-1 : Int32), q1.2)) else ((f_m_in v3 (0 : Int32) (3 : Int32) q1.2).bind (fun q3 => if q3.1 = 0 then (some ((-1 : Int32), q3.2)) else ((f_m_opens0 (0 : Int32) q3.2).bind (fun q5 => lt_ (((16 : Int32) * v2) + v1) (fun a6 => if inb a6 256 then if (q5.2.1 72 a6.toNatClampNeg) = 0 then (some ((-2 : Int32), q5.2)) else ((f_m_laysPieces q5.2).bind (fun q9 => if inb a6 256 then lt_ (q9.2.1 73 a6.toNatClampNeg) (fun a11 => if v3 = 0 then (some (a11, q9.2)) else (if v3 = 1 then ((f_m_piecesOf a11 q9.2).bind (fun q14 => some (q14.1, q14.2))) else (if v3 = 2 then ((f_m_isThread a6 q9.2).bind (fun q16 => if q16.1 = 0 then (some ((0 : Int32), q16.2)) else (some ((1 : Int32), q16.2)))) else (if a11 = (q9.2.1 58 41) then (some ((0 : Int32), q9.2)) else (some ((1 : Int32), q9.2)))))) else none)) else none))))))
theorem t_m_piece {G : Cx} (C : CX G prog_14_method_68_code "PaperStarsModel") (CR0 : CR G (Option.some FieldType.int)) (E : LAin (gly G)) (hnL : gnL G = 6) (hgd : 4 ≤ gd G) {q : Int32 × Mm} (hgr : gr G = some (.int q.1)) (hgs : gsf G = q.2) (v1 : Int32) (v2 : Int32) (v3 : Int32) (st : Mm) (hf : f_m_piece v1 v2 v3 st = some q) : AW G st 0 [(0, .ref (gad G 58)), (1, .int v1), (2, .int v2), (3, .int v3)] [] := by
  unfold f_m_piece at hf
  refine aw_aload_n C 0 0 (j := 0) rfl rfl (by decide +kernel) rfl ?_
  refine aw_iload_n C 1 1 (j := 1) rfl rfl (by decide +kernel) rfl ?_
  refine aw_iload_n C 2 2 (j := 2) rfl rfl (by decide +kernel) rfl ?_
  obtain ⟨q1, hq1, hf⟩ := ibd hf
  refine aw_callV C (rest := []) (c_m_isCell E v1 v2 _ q1 hq1) tb_1328 yf_189 yi_189 (la_58 E) [.int v1, .int v2] rfl rfl _ rfl (Nat.le_trans (by decide) hgd) (Nat.le_of_ble_eq_true rfl) (by decide +kernel) rfl ?_
  show AW _ _ _ _ [.int q1.1]
  refine aw_if_eq C (tgt := 18) (off := 12) (by decide +kernel) (by decide) rfl (fun c2 => ?_) (fun c2 => ?_)
  · have hf := ift c2 hf
    refine aw_iconst C (i0 := -1) (v := -1) (by decide) (by decide +kernel) rfl ?_
    exact aw_iretq C CR0 hgr hgs hf (by decide +kernel)
  · have hf := iff_ c2 hf
    refine aw_iload_n C 3 3 (j := 3) rfl rfl (by decide +kernel) rfl ?_
    refine aw_iconst C (i0 := 0) (v := 0) (by decide) (by decide +kernel) rfl ?_
    refine aw_iconst C (i0 := 3) (v := 3) (by decide) (by decide +kernel) rfl ?_
    obtain ⟨q3, hq3, hf⟩ := ibd hf
    refine aw_callS C (rest := []) (c_m_in E v3 (0 : Int32) (3 : Int32) _ q3 hq3) tb_1144 yf_142 tb_1145 rfl _ rfl (Nat.le_trans (by decide) hgd) (Nat.le_of_ble_eq_true rfl) (by decide +kernel) rfl ?_
    show AW _ _ _ _ [.int q3.1]
    refine aw_if_ne C (tgt := 20) (off := 5) (by decide +kernel) (by decide) rfl (fun c4 => ?_) (fun c4 => ?_)
    · have hf := ift c4 hf
      refine aw_iconst C (i0 := -1) (v := -1) (by decide) (by decide +kernel) rfl ?_
      exact aw_iretq C CR0 hgr hgs hf (by decide +kernel)
    · have hf := iff_ c4 hf
      refine aw_aload_n C 0 0 (j := 0) rfl rfl (by decide +kernel) rfl ?_
      refine aw_iconst C (i0 := 0) (v := 0) (by decide) (by decide +kernel) rfl ?_
      obtain ⟨q5, hq5, hf⟩ := ibd hf
      refine aw_callV C (rest := []) (c_m_opens0 E (0 : Int32) _ q5 hq5) tb_1332 yf_190 yi_190 (la_58 E) [.int (0 : Int32)] rfl rfl _ rfl (Nat.le_trans (by decide) hgd) (Nat.le_of_ble_eq_true rfl) (by decide +kernel) rfl ?_
      show AW _ _ _ _ []
      refine aw_bipush C (i0 := 16) (v := 16) (by decide) (by decide +kernel) rfl ?_
      refine aw_iload_n C 2 2 (j := 2) rfl rfl (by decide +kernel) rfl ?_
      refine aw_imul C (by decide +kernel) rfl ?_
      refine aw_iload_n C 1 1 (j := 1) rfl rfl (by decide +kernel) rfl ?_
      refine aw_iadd C (by decide +kernel) rfl ?_
      obtain ⟨a6, ha6⟩ : ∃ z, z = (((16 : Int32) * v2) + v1) := ⟨_, rfl⟩
      refine aw_nmi ha6 ?_
      have hf := ilt ha6 hf
      refine aw_istore C [(4, .int a6), (0, .ref (gad G 58)), (1, .int v1), (2, .int v2), (3, .int v3)] (by rw [hnL]; decide) rfl (by decide +kernel) rfl ?_
      refine aw_aload_n C 0 1 (j := 0) rfl rfl (by decide +kernel) rfl ?_
      refine aw_getr C (k := 36) fc_12 (la_58 E) rfl (by decide) tb_978 (by decide +kernel) rfl ?_
      refine aw_iload C 4 0 rfl (by decide +kernel) rfl ?_
      obtain ⟨g7, hf⟩ := igd hf
      refine aw_zald C (la_72 E) g7 (by decide +kernel) rfl ?_
      refine aw_if_ne C (tgt := 46) (off := 6) (by decide +kernel) (by decide) rfl (fun c8 => ?_) (fun c8 => ?_)
      · have hf := ift c8 hf
        refine aw_bipush C (i0 := -2) (v := -2) (by decide) (by decide +kernel) rfl ?_
        exact aw_iretq C CR0 hgr hgs hf (by decide +kernel)
      · have hf := iff_ c8 hf
        refine aw_aload_n C 0 1 (j := 0) rfl rfl (by decide +kernel) rfl ?_
        obtain ⟨q9, hq9, hf⟩ := ibd hf
        refine aw_callV C (rest := []) (c_m_laysPieces E _ q9 hq9) tb_1344 yf_193 yi_193 (la_58 E) [] rfl rfl _ rfl (Nat.le_trans (by decide) hgd) (Nat.le_of_ble_eq_true rfl) (by decide +kernel) rfl ?_
        show AW _ _ _ _ []
        refine aw_aload_n C 0 1 (j := 0) rfl rfl (by decide +kernel) rfl ?_
        refine aw_getr C (k := 37) fc_12 (la_58 E) rfl (by decide) tb_979 (by decide +kernel) rfl ?_
        refine aw_iload C 4 0 rfl (by decide +kernel) rfl ?_
        obtain ⟨g10, hf⟩ := igd hf
        refine aw_iald C (la_73 E) g10 (by decide +kernel) rfl ?_
        obtain ⟨a11, ha11⟩ : ∃ z, z = (q9.2.1 73 a6.toNatClampNeg) := ⟨_, rfl⟩
        refine aw_nmi ha11 ?_
        have hf := ilt ha11 hf
        refine aw_istore C [(5, .int a11), (4, .int a6), (0, .ref (gad G 58)), (1, .int v1), (2, .int v2), (3, .int v3)] (by rw [hnL]; decide) rfl (by decide +kernel) rfl ?_
        refine aw_iload_n C 3 5 (j := 3) rfl rfl (by decide +kernel) rfl ?_
        by_cases w12 : v3 = 0
        · have hf := ift w12 hf
          refine aw_tin C (tgt := 88) (off := 28) (dflt := 53) (lo := 0) (hi := 2) (offs := #[28, 31, 38]) (len := 28) (by decide +kernel) (by rw [w12]; decide) (by rw [w12]; decide) (by rw [w12]; decide) (by decide) ?_
          refine aw_iload C 5 0 rfl (by decide +kernel) rfl ?_
          exact aw_iretq C CR0 hgr hgs hf (by decide +kernel)
        · have hf := iff_ w12 hf
          by_cases w13 : v3 = 1
          · have hf := ift w13 hf
            refine aw_tin C (tgt := 91) (off := 31) (dflt := 53) (lo := 0) (hi := 2) (offs := #[28, 31, 38]) (len := 28) (by decide +kernel) (by rw [w13]; decide) (by rw [w13]; decide) (by rw [w13]; decide) (by decide) ?_
            refine aw_aload_n C 0 2 (j := 0) rfl rfl (by decide +kernel) rfl ?_
            refine aw_iload C 5 0 rfl (by decide +kernel) rfl ?_
            obtain ⟨q14, hq14, hf⟩ := ibd hf
            refine aw_callV C (rest := []) (c_m_piecesOf E a11 _ q14 hq14) tb_1388 yf_204 yi_204 (la_58 E) [.int a11] rfl rfl _ rfl (Nat.le_trans (by decide) hgd) (Nat.le_of_ble_eq_true rfl) (by decide +kernel) rfl ?_
            show AW _ _ _ _ [.int q14.1]
            exact aw_iretq C CR0 hgr hgs hf (by decide +kernel)
          · have hf := iff_ w13 hf
            by_cases w15 : v3 = 2
            · have hf := ift w15 hf
              refine aw_tin C (tgt := 98) (off := 38) (dflt := 53) (lo := 0) (hi := 2) (offs := #[28, 31, 38]) (len := 28) (by decide +kernel) (by rw [w15]; decide) (by rw [w15]; decide) (by rw [w15]; decide) (by decide) ?_
              refine aw_aload_n C 0 2 (j := 0) rfl rfl (by decide +kernel) rfl ?_
              refine aw_iload C 4 1 rfl (by decide +kernel) rfl ?_
              obtain ⟨q16, hq16, hf⟩ := ibd hf
              refine aw_callV C (rest := []) (c_m_isThread E a6 _ q16 hq16) tb_1380 yf_202 yi_202 (la_58 E) [.int a6] rfl rfl _ rfl (Nat.le_trans (by decide) hgd) (Nat.le_of_ble_eq_true rfl) (by decide +kernel) rfl ?_
              show AW _ _ _ _ [.int q16.1]
              refine aw_if_eq C (tgt := 111) (off := 7) (by decide +kernel) (by decide) rfl (fun c17 => ?_) (fun c17 => ?_)
              · have hf := ift c17 hf
                refine aw_iconst C (i0 := 0) (v := 0) (by decide) (by decide +kernel) rfl ?_
                exact aw_iretq C CR0 hgr hgs hf (by decide +kernel)
              · have hf := iff_ c17 hf
                refine aw_iconst C (i0 := 1) (v := 1) (by decide) (by decide +kernel) rfl ?_
                refine aw_goto C (tgt := 112) (off := 4) (by decide +kernel) (by decide) ?_
                exact aw_iretq C CR0 hgr hgs hf (by decide +kernel)
            · have hf := iff_ w15 hf
              have zw12 := am_ne w12 (k := 0) (by decide)
              have zw13 := am_ne w13 (k := 1) (by decide)
              have zw15 := am_ne w15 (k := 2) (by decide)
              refine aw_tout C (tgt := 113) (dflt := 53) (lo := 0) (hi := 2) (offs := #[28, 31, 38]) (len := 28) (by decide +kernel) (by omega) (by decide) ?_
              refine aw_iload C 5 0 rfl (by decide +kernel) rfl ?_
              refine aw_aload_n C 0 2 (j := 0) rfl rfl (by decide +kernel) rfl ?_
              refine aw_get C (k := 41) fc_12 (la_58 E) rfl (by decide) tb_983 (by decide +kernel) rfl ?_
              refine aw_icmp_ne C (tgt := 126) (off := 7) (by decide +kernel) (by decide) rfl (fun c18 => ?_) (fun c18 => ?_)
              · have hf := ift c18 hf
                refine aw_iconst C (i0 := 0) (v := 0) (by decide) (by decide +kernel) rfl ?_
                refine aw_goto C (tgt := 127) (off := 4) (by decide +kernel) (by decide) ?_
                exact aw_iretq C CR0 hgr hgs hf (by decide +kernel)
              · have hf := iff_ c18 hf
                refine aw_iconst C (i0 := 1) (v := 1) (by decide) (by decide +kernel) rfl ?_
                exact aw_iretq C CR0 hgr hgs hf (by decide +kernel)
theorem c_m_piece {lay : Ly} (E : LAin lay) (v1 : Int32) (v2 : Int32) (v3 : Int32) (st : Mm) (q : Int32 × Mm) (hf : f_m_piece v1 v2 v3 st = some q) : Con 4 Y203 prog_14_method_68_code 6 (Option.some FieldType.int) lay (fun ad => [.ref (ad 58), .int v1, .int v2, .int v3]) st (some (.int q.1)) q.2 :=
  am_met yf_203.2.2.2.2.2 (fun ad => Nat.le_of_ble_eq_true rfl) (fun G C CR0 e1 e2 e3 e4 e5 => t_m_piece C CR0 (by rw [e1]; exact E) e2 (Nat.le_of_eq e5.symm) e3 e4 v1 v2 v3 st hf)
def f_m_deer (v1 : Int32) (v2 : Int32) (v3 : Int32) (st : Mm) : Option (Int32 × Mm) :=
  (f_m_isCell v1 v2 st).bind (fun q1 => if q1.1 = 0 then (some ((0 : Int32), q1.2)) else (if inb (((16 : Int32) * v2) + v1) 256 then if (q1.2.1 62 (((16 : Int32) * v2) + v1).toNatClampNeg) = v3 then (some ((0 : Int32), q1.2)) else (if inb (((16 : Int32) * v2) + v1) 256 then if v3 = 0 ∨ v3 = 1 then some ((1 : Int32), (sI q1.2 62 (((16 : Int32) * v2) + v1).toNatClampNeg v3)) else none else none) else none))
theorem t_m_deer {G : Cx} (C : CX G prog_14_method_69_code "PaperStarsModel") (CR0 : CR G (Option.some FieldType.boolean)) (E : LAin (gly G)) (hnL : gnL G = 4) (hgd : 1 ≤ gd G) {q : Int32 × Mm} (hgr : gr G = some (.int q.1)) (hgs : gsf G = q.2) (v1 : Int32) (v2 : Int32) (v3 : Int32) (st : Mm) (hf : f_m_deer v1 v2 v3 st = some q) : AW G st 0 [(0, .ref (gad G 58)), (1, .int v1), (2, .int v2), (3, .int v3)] [] := by
  unfold f_m_deer at hf
  refine aw_aload_n C 0 0 (j := 0) rfl rfl (by decide +kernel) rfl ?_
  refine aw_iload_n C 1 1 (j := 1) rfl rfl (by decide +kernel) rfl ?_
  refine aw_iload_n C 2 2 (j := 2) rfl rfl (by decide +kernel) rfl ?_
  obtain ⟨q1, hq1, hf⟩ := ibd hf
  refine aw_callV C (rest := []) (c_m_isCell E v1 v2 _ q1 hq1) tb_1328 yf_189 yi_189 (la_58 E) [.int v1, .int v2] rfl rfl _ rfl (Nat.le_trans (by decide) hgd) (Nat.le_of_ble_eq_true rfl) (by decide +kernel) rfl ?_
  show AW _ _ _ _ [.int q1.1]
  refine aw_if_eq C (tgt := 24) (off := 18) (by decide +kernel) (by decide) rfl (fun c2 => ?_) (fun c2 => ?_)
  · have hf := ift c2 hf
    refine aw_iconst C (i0 := 0) (v := 0) (by decide) (by decide +kernel) rfl ?_
    exact aw_zretq C CR0 hgr hgs (by decide) hf (by decide +kernel)
  · have hf := iff_ c2 hf
    refine aw_aload_n C 0 0 (j := 0) rfl rfl (by decide +kernel) rfl ?_
    refine aw_getr C (k := 7) fc_12 (la_58 E) rfl (by decide) tb_949 (by decide +kernel) rfl ?_
    refine aw_bipush C (i0 := 16) (v := 16) (by decide) (by decide +kernel) rfl ?_
    refine aw_iload_n C 2 2 (j := 2) rfl rfl (by decide +kernel) rfl ?_
    refine aw_imul C (by decide +kernel) rfl ?_
    refine aw_iload_n C 1 1 (j := 1) rfl rfl (by decide +kernel) rfl ?_
    refine aw_iadd C (by decide +kernel) rfl ?_
    obtain ⟨g3, hf⟩ := igd hf
    refine aw_zald C (la_62 E) g3 (by decide +kernel) rfl ?_
    refine aw_iload_n C 3 3 (j := 3) rfl rfl (by decide +kernel) rfl ?_
    refine aw_icmp_ne C (tgt := 26) (off := 5) (by decide +kernel) (by decide) rfl (fun c4 => ?_) (fun c4 => ?_)
    · have hf := ift c4 hf
      refine aw_iconst C (i0 := 0) (v := 0) (by decide) (by decide +kernel) rfl ?_
      exact aw_zretq C CR0 hgr hgs (by decide) hf (by decide +kernel)
    · have hf := iff_ c4 hf
      refine aw_aload_n C 0 0 (j := 0) rfl rfl (by decide +kernel) rfl ?_
      refine aw_getr C (k := 7) fc_12 (la_58 E) rfl (by decide) tb_949 (by decide +kernel) rfl ?_
      refine aw_bipush C (i0 := 16) (v := 16) (by decide) (by decide +kernel) rfl ?_
      refine aw_iload_n C 2 2 (j := 2) rfl rfl (by decide +kernel) rfl ?_
      refine aw_imul C (by decide +kernel) rfl ?_
      refine aw_iload_n C 1 1 (j := 1) rfl rfl (by decide +kernel) rfl ?_
      refine aw_iadd C (by decide +kernel) rfl ?_
      refine aw_iload_n C 3 3 (j := 3) rfl rfl (by decide +kernel) rfl ?_
      obtain ⟨g5, hf⟩ := igd hf
      obtain ⟨g6, hf⟩ := igd hf
      refine aw_zastB C (la_62 E) g5 g6 (by decide +kernel) rfl ?_
      refine aw_iconst C (i0 := 1) (v := 1) (by decide) (by decide +kernel) rfl ?_
      exact aw_zretq C CR0 hgr hgs (by decide) hf (by decide +kernel)
theorem c_m_deer {lay : Ly} (E : LAin lay) (v1 : Int32) (v2 : Int32) (v3 : Int32) (st : Mm) (q : Int32 × Mm) (hf : f_m_deer v1 v2 v3 st = some q) : Con 1 Y205 prog_14_method_69_code 4 (Option.some FieldType.boolean) lay (fun ad => [.ref (ad 58), .int v1, .int v2, .int v3]) st (some (.int q.1)) q.2 :=
  am_met yf_205.2.2.2.2.2 (fun ad => Nat.le_of_ble_eq_true rfl) (fun G C CR0 e1 e2 e3 e4 e5 => t_m_deer C CR0 (by rw [e1]; exact E) e2 (Nat.le_of_eq e5.symm) e3 e4 v1 v2 v3 st hf)
def f_m_costOf (v1 : Int32) (st : Mm) : Option (Int32 × Mm) :=
  if inb v1 256 then if (st.1 72 v1.toNatClampNeg) = 0 then (if inb v1 256 then if (st.1 62 v1.toNatClampNeg) = 0 then (some ((1 : Int32), st)) else (some ((1000000000 : Int32), st)) else none) else (some ((0 : Int32), st)) else none
theorem t_m_costOf {G : Cx} (C : CX G prog_14_method_70_code "PaperStarsModel") (CR0 : CR G (Option.some FieldType.int)) (E : LAin (gly G)) (hnL : gnL G = 2) (hgd : 0 ≤ gd G) {q : Int32 × Mm} (hgr : gr G = some (.int q.1)) (hgs : gsf G = q.2) (v1 : Int32) (st : Mm) (hf : f_m_costOf v1 st = some q) : AW G st 0 [(0, .ref (gad G 58)), (1, .int v1)] [] := by
  unfold f_m_costOf at hf
  refine aw_aload_n C 0 0 (j := 0) rfl rfl (by decide +kernel) rfl ?_
  refine aw_getr C (k := 36) fc_12 (la_58 E) rfl (by decide) tb_978 (by decide +kernel) rfl ?_
  refine aw_iload_n C 1 1 (j := 1) rfl rfl (by decide +kernel) rfl ?_
  obtain ⟨g1, hf⟩ := igd hf
  refine aw_zald C (la_72 E) g1 (by decide +kernel) rfl ?_
  refine aw_if_eq C (tgt := 13) (off := 7) (by decide +kernel) (by decide) rfl (fun c2 => ?_) (fun c2 => ?_)
  · have hf := ift c2 hf
    refine aw_aload_n C 0 0 (j := 0) rfl rfl (by decide +kernel) rfl ?_
    refine aw_getr C (k := 7) fc_12 (la_58 E) rfl (by decide) tb_949 (by decide +kernel) rfl ?_
    refine aw_iload_n C 1 1 (j := 1) rfl rfl (by decide +kernel) rfl ?_
    obtain ⟨g3, hf⟩ := igd hf
    refine aw_zald C (la_62 E) g3 (by decide +kernel) rfl ?_
    refine aw_if_eq C (tgt := 28) (off := 9) (by decide +kernel) (by decide) rfl (fun c4 => ?_) (fun c4 => ?_)
    · have hf := ift c4 hf
      refine aw_iconst C (i0 := 1) (v := 1) (by decide) (by decide +kernel) rfl ?_
      exact aw_iretq C CR0 hgr hgs hf (by decide +kernel)
    · have hf := iff_ c4 hf
      refine aw_ldcw C tb_1400 (by decide +kernel) rfl ?_
      refine aw_goto C (tgt := 29) (off := 4) (by decide +kernel) (by decide) ?_
      exact aw_iretq C CR0 hgr hgs hf (by decide +kernel)
  · have hf := iff_ c2 hf
    refine aw_iconst C (i0 := 0) (v := 0) (by decide) (by decide +kernel) rfl ?_
    refine aw_goto C (tgt := 29) (off := 19) (by decide +kernel) (by decide) ?_
    exact aw_iretq C CR0 hgr hgs hf (by decide +kernel)
theorem c_m_costOf {lay : Ly} (E : LAin lay) (v1 : Int32) (st : Mm) (q : Int32 × Mm) (hf : f_m_costOf v1 st = some q) : Con 0 Y209 prog_14_method_70_code 2 (Option.some FieldType.int) lay (fun ad => [.ref (ad 58), .int v1]) st (some (.int q.1)) q.2 :=
  am_met yf_209.2.2.2.2.2 (fun ad => Nat.le_of_ble_eq_true rfl) (fun G C CR0 e1 e2 e3 e4 e5 => t_m_costOf C CR0 (by rw [e1]; exact E) e2 (Nat.le_of_eq e5.symm) e3 e4 v1 st hf)
