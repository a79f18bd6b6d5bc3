def f_m_min (v0 : Int32) (v1 : Int32) (st : Mm) : Option (Int32 × Mm) :=
  if v1 ≤ v0 then (some (v1, st)) else (some (v0, st))
theorem t_m_min {G : Cx} (C : CX G prog_14_method_3_code "PaperStarsModel") (CR0 : CR G (Option.some FieldType.int)) (E : LAin (gly G)) (hnL : gnL G = 2) (hgd : 0 ≤ gd G) {q : Int32 × Mm} (hgr : gr G = some (.int q.1)) (hgs : gsf G = q.2) (v0 : Int32) (v1 : Int32) (st : Mm) (hf : f_m_min v0 v1 st = some q) : AW G st 0 [(0, .int v0), (1, .int v1)] [] := by
  unfold f_m_min at hf
  refine aw_iload_n C 0 0 (j := 0) rfl rfl (by decide +kernel) rfl ?_
  refine aw_iload_n C 1 1 (j := 1) rfl rfl (by decide +kernel) rfl ?_
  refine aw_icmp_ge C (tgt := 9) (off := 7) (by decide +kernel) (by decide) rfl (fun c1 => ?_) (fun c1 => ?_)
  · have hf := ift c1 hf
    refine aw_iload_n C 1 1 (j := 1) rfl rfl (by decide +kernel) rfl ?_
    exact aw_iretq C CR0 hgr hgs hf (by decide +kernel)
  · have hf := iff_ c1 hf
    refine aw_iload_n C 0 0 (j := 0) rfl rfl (by decide +kernel) rfl ?_
    refine aw_goto C (tgt := 10) (off := 4) (by decide +kernel) (by decide) ?_
    exact aw_iretq C CR0 hgr hgs hf (by decide +kernel)
theorem c_m_min {lay : Ly} (E : LAin lay) (v0 : Int32) (v1 : Int32) (st : Mm) (q : Int32 × Mm) (hf : f_m_min v0 v1 st = some q) : Con 0 Y210 prog_14_method_3_code 2 (Option.some FieldType.int) lay (fun ad => [.int v0, .int v1]) st (some (.int q.1)) q.2 :=
  am_met yf_210.2.2.2.2.2 (fun ad => Nat.le_of_ble_eq_true rfl) (fun G C CR0 e1 e2 e3 e4 e5 => t_m_min C CR0 (by rw [e1]; exact E) e2 (Nat.le_of_eq e5.symm) e3 e4 v0 v1 st hf)
def f_m_sum (v0 : Int32) (v1 : Int32) (st : Mm) : Option (Int32 × Mm) :=
  if (1000000000 : Int32) ≤ v0 then (some ((1000000000 : Int32), st)) else (if v1 < (1000000000 : Int32) then (some ((v0 + v1), st)) else (some ((1000000000 : Int32), st)))
theorem t_m_sum {G : Cx} (C : CX G prog_14_method_71_code "PaperStarsModel") (CR0 : CR G (Option.some FieldType.int)) (E : LAin (gly G)) (hnL : gnL G = 2) (hgd : 0 ≤ gd G) {q : Int32 × Mm} (hgr : gr G = some (.int q.1)) (hgs : gsf G = q.2) (v0 : Int32) (v1 : Int32) (st : Mm) (hf : f_m_sum v0 v1 st = some q) : AW G st 0 [(0, .int v0), (1, .int v1)] [] := by
  unfold f_m_sum at hf
  refine aw_iload_n C 0 0 (j := 0) rfl rfl (by decide +kernel) rfl ?_
  refine aw_ldcw C tb_1400 (by decide +kernel) rfl ?_
  refine aw_icmp_ge C (tgt := 14) (off := 10) (by decide +kernel) (by decide) rfl (fun c1 => ?_) (fun c1 => ?_)
  · have hf := ift c1 hf
    refine aw_ldcw C tb_1400 (by decide +kernel) rfl ?_
    refine aw_goto C (tgt := 23) (off := 6) (by decide +kernel) (by decide) ?_
    exact aw_iretq C CR0 hgr hgs hf (by decide +kernel)
  · have hf := iff_ c1 hf
    refine aw_iload_n C 1 1 (j := 1) rfl rfl (by decide +kernel) rfl ?_
    refine aw_ldcw C tb_1400 (by decide +kernel) rfl ?_
    refine aw_icmp_lt C (tgt := 20) (off := 9) (by decide +kernel) (by decide) rfl (fun c2 => ?_) (fun c2 => ?_)
    · have hf := ift c2 hf
      refine aw_iload_n C 0 0 (j := 0) rfl rfl (by decide +kernel) rfl ?_
      refine aw_iload_n C 1 1 (j := 1) rfl rfl (by decide +kernel) rfl ?_
      refine aw_iadd C (by decide +kernel) rfl ?_
      exact aw_iretq C CR0 hgr hgs hf (by decide +kernel)
    · have hf := iff_ c2 hf
      refine aw_ldcw C tb_1400 (by decide +kernel) rfl ?_
      refine aw_goto C (tgt := 23) (off := 6) (by decide +kernel) (by decide) ?_
      exact aw_iretq C CR0 hgr hgs hf (by decide +kernel)
theorem c_m_sum {lay : Ly} (E : LAin lay) (v0 : Int32) (v1 : Int32) (st : Mm) (q : Int32 × Mm) (hf : f_m_sum v0 v1 st = some q) : Con 0 Y208 prog_14_method_71_code 2 (Option.some FieldType.int) lay (fun ad => [.int v0, .int v1]) st (some (.int q.1)) q.2 :=
  am_met yf_208.2.2.2.2.2 (fun ad => Nat.le_of_ble_eq_true rfl) (fun G C CR0 e1 e2 e3 e4 e5 => t_m_sum C CR0 (by rw [e1]; exact E) e2 (Nat.le_of_eq e5.symm) e3 e4 v0 v1 st hf)
def b_m_joins_127 (k2 : Int32 → Int32 → Mm → Option (Unit × Mm)) (v1 : Int32) (v2 : Int32) (st : Mm) : Option (Unit × Mm) :=
  lt_ (v2 + (1 : Int32)) (fun a1 => k2 v1 a1 st)
def b_m_joins_20 (k2 : Int32 → Int32 → Mm → Option (Unit × Mm)) (k20 : Int32 → Int32 → Int32 → Mm → Option (Unit × Mm)) (v1 : Int32) (v2 : Int32) (v3 : Int32) (st : Mm) : Option (Unit × Mm) :=
  if (256 : Int32) ≤ v3 then (b_m_joins_127 k2 v1 v2 st) else ((f_m_isCell (v3 - v3 / (16 : Int32) * (16 : Int32)) (v3 / (16 : Int32)) st).bind (fun q2 => if q2.1 = 0 then (lt_ (v3 + (1 : Int32)) (fun a4 => k20 v1 v2 a4 q2.2)) else (if inb (((256 : Int32) * v2) + v3) 16384 then if inb (((256 : Int32) * (v1 &&& (v2 ^^^ (-1 : Int32)))) + v3) 16384 then (f_m_sum (q2.2.1 75 (((256 : Int32) * v2) + v3).toNatClampNeg) (q2.2.1 75 (((256 : Int32) * (v1 &&& (v2 ^^^ (-1 : Int32)))) + v3).toNatClampNeg) q2.2).bind (fun q7 => if (1000000000 : Int32) ≤ q7.1 then (lt_ (v3 + (1 : Int32)) (fun a9 => k20 v1 v2 a9 q7.2)) else (if inb (((256 : Int32) * v1) + v3) 16384 then (f_m_costOf v3 q7.2).bind (fun q11 => (f_m_min (q7.2.1 75 (((256 : Int32) * v1) + v3).toNatClampNeg) (q7.1 - q11.1) q11.2).bind (fun q12 => if inb (((256 : Int32) * v1) + v3) 16384 then lt_ (v3 + (1 : Int32)) (fun a14 => k20 v1 v2 a14 (sI q12.2 75 (((256 : Int32) * v1) + v3).toNatClampNeg q12.1)) else none)) else none)) else none else none)))
def f_m_joins_20 (k2 : Int32 → Int32 → Mm → Option (Unit × Mm)) : Nat → Int32 → Int32 → Int32 → Mm → Option (Unit × Mm)
  | 0 => fun _ _ _ _ => none
  | n + 1 => b_m_joins_20 k2 (f_m_joins_20 k2 n)
def b_m_joins_2 (k2 : Int32 → Int32 → Mm → Option (Unit × Mm)) (v1 : Int32) (v2 : Int32) (st : Mm) : Option (Unit × Mm) :=
  if v1 ≤ v2 then (some ((), st)) else (if (v2 &&& (v1 ^^^ (-1 : Int32))) = 0 then (f_m_joins_20 k2 1000000 v1 v2 (0 : Int32) st) else (b_m_joins_127 k2 v1 v2 st))
def f_m_joins_2 : Nat → Int32 → Int32 → Mm → Option (Unit × Mm)
  | 0 => fun _ _ _ => none
  | n + 1 => b_m_joins_2 (f_m_joins_2 n)
def f_m_joins (v1 : Int32) (st : Mm) : Option (Unit × Mm) :=
  f_m_joins_2 1000000 v1 (1 : Int32) st
theorem t_m_joins_127 {G : Cx} (C : CX G prog_14_method_72_code "PaperStarsModel") (CR0 : CR G (Option.none)) (E : LAin (gly G)) (hnL : gnL G = 5) (hgd : 1 ≤ gd G) {q : Unit × Mm} (hgr : gr G = none) (hgs : gsf G = q.2) (k2 : Int32 → Int32 → Mm → Option (Unit × Mm)) (hk2 : ∀ (v1 : Int32) (v2 : Int32) (st : Mm), k2 v1 v2 st = some q → AW G st 2 [(0, .ref (gad G 58)), (1, .int v1), (2, .int v2)] []) (v1 : Int32) (v2 : Int32) (st : Mm) (hf : b_m_joins_127 k2 v1 v2 st = some q) : AW G st 127 [(0, .ref (gad G 58)), (1, .int v1), (2, .int v2)] [] := by
  unfold b_m_joins_127 at hf
  obtain ⟨a1, ha1⟩ : ∃ z, z = (v2 + (1 : Int32)) := ⟨_, rfl⟩
  have hf := ilt ha1 hf
  refine aw_iinc C [(2, .int a1), (0, .ref (gad G 58)), (1, .int v1)] 2 (n := 1) rfl (by rw [ha1]; rfl) (by rw [hnL]; decide) rfl (by decide +kernel) rfl ?_
  refine aw_goto C (tgt := 2) (off := -128) (by decide +kernel) (by decide) ?_
  refine aw_sub [(0, .ref (gad G 58)), (1, .int v1), (2, .int a1)] [1, 2, 0] rfl ?_
  exact hk2 v1 a1 _ hf
theorem t_m_joins_20 {G : Cx} (C : CX G prog_14_method_72_code "PaperStarsModel") (CR0 : CR G (Option.none)) (E : LAin (gly G)) (hnL : gnL G = 5) (hgd : 1 ≤ gd G) {q : Unit × Mm} (hgr : gr G = none) (hgs : gsf G = q.2) (k2 : Int32 → Int32 → Mm → Option (Unit × Mm)) (k20 : Int32 → Int32 → Int32 → Mm → Option (Unit × Mm)) (hk2 : ∀ (v1 : Int32) (v2 : Int32) (st : Mm), k2 v1 v2 st = some q → AW G st 2 [(0, .ref (gad G 58)), (1, .int v1), (2, .int v2)] []) (hk20 : ∀ (v1 : Int32) (v2 : Int32) (v3 : Int32) (st : Mm), k20 v1 v2 v3 st = some q → AW G st 20 [(0, .ref (gad G 58)), (1, .int v1), (2, .int v2), (3, .int v3)] []) (v1 : Int32) (v2 : Int32) (v3 : Int32) (st : Mm) (hf : b_m_joins_20 k2 k20 v1 v2 v3 st = some q) : AW G st 20 [(0, .ref (gad G 58)), (1, .int v1), (2, .int v2), (3, .int v3)] [] := by
  unfold b_m_joins_20 at hf
  refine aw_iload_n C 3 3 (j := 3) rfl rfl (by decide +kernel) rfl ?_
  refine aw_sipush C (i0 := 256) (v := 256) (by decide) (by decide +kernel) rfl ?_
  refine aw_icmp_ge C (tgt := 127) (off := 103) (by decide +kernel) (by decide) rfl (fun c1 => ?_) (fun c1 => ?_)
  · have hf := ift c1 hf
    refine aw_sub [(0, .ref (gad G 58)), (1, .int v1), (2, .int v2)] [0, 1, 2] rfl ?_
    exact t_m_joins_127 C CR0 E hnL hgd hgr hgs k2 hk2 v1 v2 _ hf
  · have hf := iff_ c1 hf
    refine aw_aload_n C 0 0 (j := 0) rfl rfl (by decide +kernel) rfl ?_
    refine aw_iload_n C 3 3 (j := 3) rfl rfl (by decide +kernel) rfl ?_
    refine aw_bipush C (i0 := 16) (v := 16) (by decide) (by decide +kernel) rfl ?_
    refine aw_irem C (by decide) (by decide +kernel) rfl ?_
    refine aw_iload_n C 3 3 (j := 3) rfl rfl (by decide +kernel) rfl ?_
    refine aw_bipush C (i0 := 16) (v := 16) (by decide) (by decide +kernel) rfl ?_
    refine aw_idiv C (by decide) (by decide +kernel) rfl ?_
    obtain ⟨q2, hq2, hf⟩ := ibd hf
    refine aw_callV C (rest := []) (c_m_isCell E (v3 - v3 / (16 : Int32) * (16 : Int32)) (v3 / (16 : Int32)) _ q2 hq2) tb_1328 yf_189 yi_189 (la_58 E) [.int (v3 - v3 / (16 : Int32) * (16 : Int32)), .int (v3 / (16 : Int32))] rfl rfl _ rfl (Nat.le_trans (by decide) hgd) (Nat.le_of_ble_eq_true rfl) (by decide +kernel) rfl ?_
    show AW _ _ _ _ [.int q2.1]
    refine aw_if_ne C (tgt := 45) (off := 6) (by decide +kernel) (by decide) rfl (fun c3 => ?_) (fun c3 => ?_)
    · have hf := ift c3 hf
      refine aw_goto C (tgt := 121) (off := 79) (by decide +kernel) (by decide) ?_
      obtain ⟨a4, ha4⟩ : ∃ z, z = (v3 + (1 : Int32)) := ⟨_, rfl⟩
      have hf := ilt ha4 hf
      refine aw_iinc C [(3, .int a4), (0, .ref (gad G 58)), (1, .int v1), (2, .int v2)] 3 (n := 1) rfl (by rw [ha4]; rfl) (by rw [hnL]; decide) rfl (by decide +kernel) rfl ?_
      refine aw_goto C (tgt := 20) (off := -104) (by decide +kernel) (by decide) ?_
      refine aw_sub [(0, .ref (gad G 58)), (1, .int v1), (2, .int v2), (3, .int a4)] [1, 2, 3, 0] rfl ?_
      exact hk20 v1 v2 a4 _ hf
    · have hf := iff_ c3 hf
      refine aw_aload_n C 0 0 (j := 0) rfl rfl (by decide +kernel) rfl ?_
      refine aw_getr C (k := 42) fc_12 (la_58 E) rfl (by decide) tb_984 (by decide +kernel) rfl ?_
      refine aw_sipush C (i0 := 256) (v := 256) (by decide) (by decide +kernel) rfl ?_
      refine aw_iload_n C 2 2 (j := 2) rfl rfl (by decide +kernel) rfl ?_
      refine aw_imul C (by decide +kernel) rfl ?_
      refine aw_iload_n C 3 3 (j := 3) rfl rfl (by decide +kernel) rfl ?_
      refine aw_iadd C (by decide +kernel) rfl ?_
      obtain ⟨g5, hf⟩ := igd hf
      refine aw_iald C (la_75 E) g5 (by decide +kernel) rfl ?_
      refine aw_aload_n C 0 0 (j := 0) rfl rfl (by decide +kernel) rfl ?_
      refine aw_getr C (k := 42) fc_12 (la_58 E) rfl (by decide) tb_984 (by decide +kernel) rfl ?_
      refine aw_sipush C (i0 := 256) (v := 256) (by decide) (by decide +kernel) rfl ?_
      refine aw_iload_n C 1 1 (j := 1) rfl rfl (by decide +kernel) rfl ?_
      refine aw_iload_n C 2 2 (j := 2) rfl rfl (by decide +kernel) rfl ?_
      refine aw_iconst C (i0 := -1) (v := -1) (by decide) (by decide +kernel) rfl ?_
      refine aw_ixor C (by decide +kernel) rfl ?_
      refine aw_iand C (by decide +kernel) rfl ?_
      refine aw_imul C (by decide +kernel) rfl ?_
      refine aw_iload_n C 3 3 (j := 3) rfl rfl (by decide +kernel) rfl ?_
      refine aw_iadd C (by decide +kernel) rfl ?_
      obtain ⟨g6, hf⟩ := igd hf
      refine aw_iald C (la_75 E) g6 (by decide +kernel) rfl ?_
      obtain ⟨q7, hq7, hf⟩ := ibd hf
      refine aw_callS C (rest := []) (c_m_sum E (q2.2.1 75 (((256 : Int32) * v2) + v3).toNatClampNeg) (q2.2.1 75 (((256 : Int32) * (v1 &&& (v2 ^^^ (-1 : Int32)))) + v3).toNatClampNeg) _ q7 hq7) tb_1405 yf_208 tb_1406 rfl _ rfl (Nat.le_trans (by decide) hgd) (Nat.le_of_ble_eq_true rfl) (by decide +kernel) rfl ?_
      show AW _ _ _ _ [.int q7.1]
      refine aw_istore C [(4, .int q7.1), (0, .ref (gad G 58)), (1, .int v1), (2, .int v2), (3, .int v3)] (by rw [hnL]; decide) rfl (by decide +kernel) rfl ?_
      refine aw_iload C 4 0 rfl (by decide +kernel) rfl ?_
      refine aw_ldcw C tb_1400 (by decide +kernel) rfl ?_
      refine aw_icmp_ge C (tgt := 121) (off := 38) (by decide +kernel) (by decide) rfl (fun c8 => ?_) (fun c8 => ?_)
      · have hf := ift c8 hf
        obtain ⟨a9, ha9⟩ : ∃ z, z = (v3 + (1 : Int32)) := ⟨_, rfl⟩
        have hf := ilt ha9 hf
        refine aw_iinc C [(3, .int a9), (4, .int q7.1), (0, .ref (gad G 58)), (1, .int v1), (2, .int v2)] 4 (n := 1) rfl (by rw [ha9]; rfl) (by rw [hnL]; decide) rfl (by decide +kernel) rfl ?_
        refine aw_goto C (tgt := 20) (off := -104) (by decide +kernel) (by decide) ?_
        refine aw_sub [(0, .ref (gad G 58)), (1, .int v1), (2, .int v2), (3, .int a9)] [2, 3, 4, 0] rfl ?_
        exact hk20 v1 v2 a9 _ hf
      · have hf := iff_ c8 hf
        refine aw_aload_n C 0 1 (j := 0) rfl rfl (by decide +kernel) rfl ?_
        refine aw_getr C (k := 42) fc_12 (la_58 E) rfl (by decide) tb_984 (by decide +kernel) rfl ?_
        refine aw_sipush C (i0 := 256) (v := 256) (by decide) (by decide +kernel) rfl ?_
        refine aw_iload_n C 1 2 (j := 1) rfl rfl (by decide +kernel) rfl ?_
        refine aw_imul C (by decide +kernel) rfl ?_
        refine aw_iload_n C 3 4 (j := 3) rfl rfl (by decide +kernel) rfl ?_
        refine aw_iadd C (by decide +kernel) rfl ?_
        refine aw_aload_n C 0 1 (j := 0) rfl rfl (by decide +kernel) rfl ?_
        refine aw_getr C (k := 42) fc_12 (la_58 E) rfl (by decide) tb_984 (by decide +kernel) rfl ?_
        refine aw_sipush C (i0 := 256) (v := 256) (by decide) (by decide +kernel) rfl ?_
        refine aw_iload_n C 1 2 (j := 1) rfl rfl (by decide +kernel) rfl ?_
        refine aw_imul C (by decide +kernel) rfl ?_
        refine aw_iload_n C 3 4 (j := 3) rfl rfl (by decide +kernel) rfl ?_
        refine aw_iadd C (by decide +kernel) rfl ?_
        obtain ⟨g10, hf⟩ := igd hf
        refine aw_iald C (la_75 E) g10 (by decide +kernel) rfl ?_
        refine aw_iload C 4 0 rfl (by decide +kernel) rfl ?_
        refine aw_aload_n C 0 1 (j := 0) rfl rfl (by decide +kernel) rfl ?_
        refine aw_iload_n C 3 4 (j := 3) rfl rfl (by decide +kernel) rfl ?_
        obtain ⟨q11, hq11, hf⟩ := ibd hf
        refine aw_callV C (rest := [.int q7.1, .int (q7.2.1 75 (((256 : Int32) * v1) + v3).toNatClampNeg), .int (((256 : Int32) * v1) + v3), .ref (gad G 75)]) (c_m_costOf E v3 _ q11 hq11) tb_1408 yf_209 yi_209 (la_58 E) [.int v3] rfl rfl _ rfl (Nat.le_trans (by decide) hgd) (Nat.le_of_ble_eq_true rfl) (by decide +kernel) rfl ?_
        show AW _ _ _ _ [.int q11.1, .int q7.1, .int (q7.2.1 75 (((256 : Int32) * v1) + v3).toNatClampNeg), .int (((256 : Int32) * v1) + v3), .ref (gad G 75)]
        refine aw_isub C (by decide +kernel) rfl ?_
        obtain ⟨q12, hq12, hf⟩ := ibd hf
        refine aw_callS C (rest := [.int (((256 : Int32) * v1) + v3), .ref (gad G 75)]) (c_m_min E (q7.2.1 75 (((256 : Int32) * v1) + v3).toNatClampNeg) (q7.1 - q11.1) _ q12 hq12) tb_1412 yf_210 tb_1413 rfl _ rfl (Nat.le_trans (by decide) hgd) (Nat.le_of_ble_eq_true rfl) (by decide +kernel) rfl ?_
        show AW _ _ _ _ [.int q12.1, .int (((256 : Int32) * v1) + v3), .ref (gad G 75)]
        obtain ⟨g13, hf⟩ := igd hf
        refine aw_iast C (la_75 E) g13 (by decide +kernel) rfl ?_
        obtain ⟨a14, ha14⟩ : ∃ z, z = (v3 + (1 : Int32)) := ⟨_, rfl⟩
        have hf := ilt ha14 hf
        refine aw_iinc C [(3, .int a14), (4, .int q7.1), (0, .ref (gad G 58)), (1, .int v1), (2, .int v2)] 4 (n := 1) rfl (by rw [ha14]; rfl) (by rw [hnL]; decide) rfl (by decide +kernel) rfl ?_
        refine aw_goto C (tgt := 20) (off := -104) (by decide +kernel) (by decide) ?_
        refine aw_sub [(0, .ref (gad G 58)), (1, .int v1), (2, .int v2), (3, .int a14)] [2, 3, 4, 0] rfl ?_
        exact hk20 v1 v2 a14 _ hf
theorem u_m_joins_20 {G : Cx} (C : CX G prog_14_method_72_code "PaperStarsModel") (CR0 : CR G (Option.none)) (E : LAin (gly G)) (hnL : gnL G = 5) (hgd : 1 ≤ gd G) {q : Unit × Mm} (hgr : gr G = none) (hgs : gsf G = q.2) (k2 : Int32 → Int32 → Mm → Option (Unit × Mm)) (hk2 : ∀ (v1 : Int32) (v2 : Int32) (st : Mm), k2 v1 v2 st = some q → AW G st 2 [(0, .ref (gad G 58)), (1, .int v1), (2, .int v2)] []) : ∀ (n : Nat) (v1 : Int32) (v2 : Int32) (v3 : Int32) (st : Mm), f_m_joins_20 k2 n v1 v2 v3 st = some q → AW G st 20 [(0, .ref (gad G 58)), (1, .int v1), (2, .int v2), (3, .int v3)] [] := by
  intro n
  induction n with
  | zero => intro v1 v2 v3 st hf; cases hf
  | succ n ih => intro v1 v2 v3 st hf; exact t_m_joins_20 C CR0 E hnL hgd hgr hgs k2 (f_m_joins_20 k2 n) hk2 ih v1 v2 v3 st hf
theorem t_m_joins_2 {G : Cx} (C : CX G prog_14_method_72_code "PaperStarsModel") (CR0 : CR G (Option.none)) (E : LAin (gly G)) (hnL : gnL G = 5) (hgd : 1 ≤ gd G) {q : Unit × Mm} (hgr : gr G = none) (hgs : gsf G = q.2) (k2 : Int32 → Int32 → Mm → Option (Unit × Mm)) (hk2 : ∀ (v1 : Int32) (v2 : Int32) (st : Mm), k2 v1 v2 st = some q → AW G st 2 [(0, .ref (gad G 58)), (1, .int v1), (2, .int v2)] []) (v1 : Int32) (v2 : Int32) (st : Mm) (hf : b_m_joins_2 k2 v1 v2 st = some q) : AW G st 2 [(0, .ref (gad G 58)), (1, .int v1), (2, .int v2)] [] := by
  unfold b_m_joins_2 at hf
  refine aw_iload_n C 2 2 (j := 2) rfl rfl (by decide +kernel) rfl ?_
  refine aw_iload_n C 1 1 (j := 1) rfl rfl (by decide +kernel) rfl ?_
  refine aw_icmp_ge C (tgt := 133) (off := 129) (by decide +kernel) (by decide) rfl (fun c1 => ?_) (fun c1 => ?_)
  · have hf := ift c1 hf
    exact aw_vretq C CR0 hgr hgs hf (by decide +kernel)
  · have hf := iff_ c1 hf
    refine aw_iload_n C 2 2 (j := 2) rfl rfl (by decide +kernel) rfl ?_
    refine aw_iload_n C 1 1 (j := 1) rfl rfl (by decide +kernel) rfl ?_
    refine aw_iconst C (i0 := -1) (v := -1) (by decide) (by decide +kernel) rfl ?_
    refine aw_ixor C (by decide +kernel) rfl ?_
    refine aw_iand C (by decide +kernel) rfl ?_
    refine aw_if_eq C (tgt := 18) (off := 6) (by decide +kernel) (by decide) rfl (fun c2 => ?_) (fun c2 => ?_)
    · have hf := ift c2 hf
      refine aw_iconst C (i0 := 0) (v := 0) (by decide) (by decide +kernel) rfl ?_
      refine aw_istore_n C [(3, .int (0 : Int32)), (0, .ref (gad G 58)), (1, .int v1), (2, .int v2)] (j := 3) rfl (by rw [hnL]; decide) rfl (by decide +kernel) rfl ?_
      refine aw_sub [(0, .ref (gad G 58)), (1, .int v1), (2, .int v2), (3, .int (0 : Int32))] [1, 2, 3, 0] rfl ?_
      exact u_m_joins_20 C CR0 E hnL hgd hgr hgs k2 hk2 _ v1 v2 (0 : Int32) _ hf
    · have hf := iff_ c2 hf
      refine aw_goto C (tgt := 127) (off := 112) (by decide +kernel) (by decide) ?_
      exact t_m_joins_127 C CR0 E hnL hgd hgr hgs k2 hk2 v1 v2 _ hf
theorem u_m_joins_2 {G : Cx} (C : CX G prog_14_method_72_code "PaperStarsModel") (CR0 : CR G (Option.none)) (E : LAin (gly G)) (hnL : gnL G = 5) (hgd : 1 ≤ gd G) {q : Unit × Mm} (hgr : gr G = none) (hgs : gsf G = q.2) : ∀ (n : Nat) (v1 : Int32) (v2 : Int32) (st : Mm), f_m_joins_2 n v1 v2 st = some q → AW G st 2 [(0, .ref (gad G 58)), (1, .int v1), (2, .int v2)] [] := by
  intro n
  induction n with
  | zero => intro v1 v2 st hf; cases hf
  | succ n ih => intro v1 v2 st hf; exact t_m_joins_2 C CR0 E hnL hgd hgr hgs (f_m_joins_2 n) ih v1 v2 st hf
theorem t_m_joins {G : Cx} (C : CX G prog_14_method_72_code "PaperStarsModel") (CR0 : CR G (Option.none)) (E : LAin (gly G)) (hnL : gnL G = 5) (hgd : 1 ≤ gd G) {q : Unit × Mm} (hgr : gr G = none) (hgs : gsf G = q.2) (v1 : Int32) (st : Mm) (hf : f_m_joins v1 st = some q) : AW G st 0 [(0, .ref (gad G 58)), (1, .int v1)] [] := by
  unfold f_m_joins at hf
  refine aw_iconst C (i0 := 1) (v := 1) (by decide) (by decide +kernel) rfl ?_
  refine aw_istore_n C [(2, .int (1 : Int32)), (0, .ref (gad G 58)), (1, .int v1)] (j := 2) rfl (by rw [hnL]; decide) rfl (by decide +kernel) rfl ?_
  refine aw_sub [(0, .ref (gad G 58)), (1, .int v1), (2, .int (1 : Int32))] [1, 2, 0] rfl ?_
  exact u_m_joins_2 C CR0 E hnL hgd hgr hgs _ v1 (1 : Int32) _ hf
theorem c_m_joins {lay : Ly} (E : LAin lay) (v1 : Int32) (st : Mm) (q : Unit × Mm) (hf : f_m_joins v1 st = some q) : Con 1 Y207 prog_14_method_72_code 5 (Option.none) lay (fun ad => [.ref (ad 58), .int v1]) st (none) q.2 :=
  am_met yf_207.2.2.2.2.2 (fun ad => Nat.le_of_ble_eq_true rfl) (fun G C CR0 e1 e2 e3 e4 e5 => t_m_joins C CR0 (by rw [e1]; exact E) e2 (Nat.le_of_eq e5.symm) e3 e4 v1 st hf)
def b_m_wanders_128 (k2 : Int32 → Int32 → Mm → Option (Unit × Mm)) (k10 : Int32 → Int32 → Int32 → Mm → Option (Unit × Mm)) (v1 : Int32) (v2 : Int32) (v3 : Int32) (st : Mm) : Option (Unit × Mm) :=
  lt_ (v3 + (1 : Int32)) (fun a1 => k10 v1 v2 a1 st)
def b_m_wanders_38 (k2 : Int32 → Int32 → Mm → Option (Unit × Mm)) (k10 : Int32 → Int32 → Int32 → Mm → Option (Unit × Mm)) (k38 : Int32 → Int32 → Int32 → Int32 → Mm → Option (Unit × Mm)) (v1 : Int32) (v2 : Int32) (v3 : Int32) (v4 : Int32) (st : Mm) : Option (Unit × Mm) :=
  if (4 : Int32) ≤ v4 then (b_m_wanders_128 k2 k10 v1 v2 v3 st) else ((f_m_beside v3 v4 st).bind (fun q2 => if q2.1 = (-1 : Int32) then (lt_ (v4 + (1 : Int32)) (fun a4 => k38 v1 v2 v3 a4 q2.2)) else ((f_m_beside v3 v4 q2.2).bind (fun q5 => if inb (((256 : Int32) * v1) + q5.1) 16384 then (f_m_costOf v3 q5.2).bind (fun q7 => (f_m_sum (q5.2.1 75 (((256 : Int32) * v1) + q5.1).toNatClampNeg) q7.1 q7.2).bind (fun q8 => if inb (((256 : Int32) * v1) + v3) 16384 then if q8.1 < (q8.2.1 75 (((256 : Int32) * v1) + v3).toNatClampNeg) then (if inb (((256 : Int32) * v1) + v3) 16384 then lt_ (v4 + (1 : Int32)) (fun a12 => k38 v1 (1 : Int32) v3 a12 (sI q8.2 75 (((256 : Int32) * v1) + v3).toNatClampNeg q8.1)) else none) else (lt_ (v4 + (1 : Int32)) (fun a13 => k38 v1 v2 v3 a13 q8.2)) else none)) else none))))
def f_m_wanders_38 (k2 : Int32 → Int32 → Mm → Option (Unit × Mm)) (k10 : Int32 → Int32 → Int32 → Mm → Option (Unit × Mm)) : Nat → Int32 → Int32 → Int32 → Int32 → Mm → Option (Unit × Mm)
  | 0 => fun _ _ _ _ _ => none
  | n + 1 => b_m_wanders_38 k2 k10 (f_m_wanders_38 k2 k10 n)
def b_m_wanders_134 (k2 : Int32 → Int32 → Mm → Option (Unit × Mm)) (v1 : Int32) (v2 : Int32) (st : Mm) : Option (Unit × Mm) :=
  k2 v1 v2 st
def b_m_wanders_10 (k2 : Int32 → Int32 → Mm → Option (Unit × Mm)) (k10 : Int32 → Int32 → Int32 → Mm → Option (Unit × Mm)) (v1 : Int32) (v2 : Int32) (v3 : Int32) (st : Mm) : Option (Unit × Mm) :=
  if (256 : Int32) ≤ v3 then (b_m_wanders_134 k2 v1 v2 st) else ((f_m_isCell (v3 - v3 / (16 : Int32) * (16 : Int32)) (v3 / (16 : Int32)) st).bind (fun q2 => if q2.1 = 0 then (b_m_wanders_128 k2 k10 v1 v2 v3 q2.2) else (f_m_wanders_38 k2 k10 100000000000000000000 v1 v2 v3 (0 : Int32) q2.2)))
def f_m_wanders_10 (k2 : Int32 → Int32 → Mm → Option (Unit × Mm)) : Nat → Int32 → Int32 → Int32 → Mm → Option (Unit × Mm)
  | 0 => fun _ _ _ _ => none
  | n + 1 => b_m_wanders_10 k2 (f_m_wanders_10 k2 n)
def b_m_wanders_2 (k2 : Int32 → Int32 → Mm → Option (Unit × Mm)) (v1 : Int32) (v2 : Int32) (st : Mm) : Option (Unit × Mm) :=
  if v2 = 0 then (some ((), st)) else (f_m_wanders_10 k2 100000000000000000000 v1 (0 : Int32) (0 : Int32) st)
def f_m_wanders_2 : Nat → Int32 → Int32 → Mm → Option (Unit × Mm)
  | 0 => fun _ _ _ => none
  | n + 1 => b_m_wanders_2 (f_m_wanders_2 n)
def f_m_wanders (v1 : Int32) (st : Mm) : Option (Unit × Mm) :=
  f_m_wanders_2 100000000000000000000 v1 (1 : Int32) st
theorem t_m_wanders_128 {G : Cx} (C : CX G prog_14_method_73_code "PaperStarsModel") (CR0 : CR G (Option.none)) (E : LAin (gly G)) (hnL : gnL G = 6) (hgd : 2 ≤ gd G) {q : Unit × Mm} (hgr : gr G = none) (hgs : gsf G = q.2) (k2 : Int32 → Int32 → Mm → Option (Unit × Mm)) (k10 : Int32 → Int32 → Int32 → Mm → Option (Unit × Mm)) (hk2 : ∀ (v1 : Int32) (v2 : Int32) (st : Mm), k2 v1 v2 st = some q → AW G st 2 [(0, .ref (gad G 58)), (1, .int v1), (2, .int v2)] []) (hk10 : ∀ (v1 : Int32) (v2 : Int32) (v3 : Int32) (st : Mm), k10 v1 v2 v3 st = some q → AW G st 10 [(0, .ref (gad G 58)), (1, .int v1), (2, .int v2), (3, .int v3)] []) (v1 : Int32) (v2 : Int32) (v3 : Int32) (st : Mm) (hf : b_m_wanders_128 k2 k10 v1 v2 v3 st = some q) : AW G st 128 [(0, .ref (gad G 58)), (1, .int v1), (2, .int v2), (3, .int v3)] [] := by
  unfold b_m_wanders_128 at hf
  obtain ⟨a1, ha1⟩ : ∃ z, z = (v3 + (1 : Int32)) := ⟨_, rfl⟩
  have hf := ilt ha1 hf
  refine aw_iinc C [(3, .int a1), (0, .ref (gad G 58)), (1, .int v1), (2, .int v2)] 3 (n := 1) rfl (by rw [ha1]; rfl) (by rw [hnL]; decide) rfl (by decide +kernel) rfl ?_
  refine aw_goto C (tgt := 10) (off := -121) (by decide +kernel) (by decide) ?_
  refine aw_sub [(0, .ref (gad G 58)), (1, .int v1), (2, .int v2), (3, .int a1)] [1, 2, 3, 0] rfl ?_
  exact hk10 v1 v2 a1 _ hf
theorem t_m_wanders_38 {G : Cx} (C : CX G prog_14_method_73_code "PaperStarsModel") (CR0 : CR G (Option.none)) (E : LAin (gly G)) (hnL : gnL G = 6) (hgd : 2 ≤ gd G) {q : Unit × Mm} (hgr : gr G = none) (hgs : gsf G = q.2) (k2 : Int32 → Int32 → Mm → Option (Unit × Mm)) (k10 : Int32 → Int32 → Int32 → Mm → Option (Unit × Mm)) (k38 : Int32 → Int32 → Int32 → Int32 → Mm → Option (Unit × Mm)) (hk2 : ∀ (v1 : Int32) (v2 : Int32) (st : Mm), k2 v1 v2 st = some q → AW G st 2 [(0, .ref (gad G 58)), (1, .int v1), (2, .int v2)] []) (hk10 : ∀ (v1 : Int32) (v2 : Int32) (v3 : Int32) (st : Mm), k10 v1 v2 v3 st = some q → AW G st 10 [(0, .ref (gad G 58)), (1, .int v1), (2, .int v2), (3, .int v3)] []) (hk38 : ∀ (v1 : Int32) (v2 : Int32) (v3 : Int32) (v4 : Int32) (st : Mm), k38 v1 v2 v3 v4 st = some q → AW G st 38 [(0, .ref (gad G 58)), (1, .int v1), (2, .int v2), (3, .int v3), (4, .int v4)] []) (v1 : Int32) (v2 : Int32) (v3 : Int32) (v4 : Int32) (st : Mm) (hf : b_m_wanders_38 k2 k10 k38 v1 v2 v3 v4 st = some q) : AW G st 38 [(0, .ref (gad G 58)), (1, .int v1), (2, .int v2), (3, .int v3), (4, .int v4)] [] := by
  unfold b_m_wanders_38 at hf
  refine aw_iload C 4 4 rfl (by decide +kernel) rfl ?_
  refine aw_iconst C (i0 := 4) (v := 4) (by decide) (by decide +kernel) rfl ?_
  refine aw_icmp_ge C (tgt := 128) (off := 87) (by decide +kernel) (by decide) rfl (fun c1 => ?_) (fun c1 => ?_)
  · have hf := ift c1 hf
    refine aw_sub [(0, .ref (gad G 58)), (1, .int v1), (2, .int v2), (3, .int v3)] [0, 1, 2, 3] rfl ?_
    exact t_m_wanders_128 C CR0 E hnL hgd hgr hgs k2 k10 hk2 hk10 v1 v2 v3 _ hf
  · have hf := iff_ c1 hf
    refine aw_aload_n C 0 0 (j := 0) rfl rfl (by decide +kernel) rfl ?_
    refine aw_iload_n C 3 3 (j := 3) rfl rfl (by decide +kernel) rfl ?_
    refine aw_iload C 4 4 rfl (by decide +kernel) rfl ?_
    obtain ⟨q2, hq2, hf⟩ := ibd hf
    refine aw_callV C (rest := []) (c_m_beside E v3 v4 _ q2 hq2) tb_1356 yf_196 yi_196 (la_58 E) [.int v3, .int v4] rfl rfl _ rfl (Nat.le_trans (by decide) hgd) (Nat.le_of_ble_eq_true rfl) (by decide +kernel) rfl ?_
    show AW _ _ _ _ [.int q2.1]
    refine aw_iconst C (i0 := -1) (v := -1) (by decide) (by decide +kernel) rfl ?_
    refine aw_icmp_ne C (tgt := 58) (off := 6) (by decide +kernel) (by decide) rfl (fun c3 => ?_) (fun c3 => ?_)
    · have hf := ift c3 hf
      refine aw_goto C (tgt := 122) (off := 67) (by decide +kernel) (by decide) ?_
      obtain ⟨a4, ha4⟩ : ∃ z, z = (v4 + (1 : Int32)) := ⟨_, rfl⟩
      have hf := ilt ha4 hf
      refine aw_iinc C [(4, .int a4), (0, .ref (gad G 58)), (1, .int v1), (2, .int v2), (3, .int v3)] 4 (n := 1) rfl (by rw [ha4]; rfl) (by rw [hnL]; decide) rfl (by decide +kernel) rfl ?_
      refine aw_goto C (tgt := 38) (off := -87) (by decide +kernel) (by decide) ?_
      refine aw_sub [(0, .ref (gad G 58)), (1, .int v1), (2, .int v2), (3, .int v3), (4, .int a4)] [1, 2, 3, 4, 0] rfl ?_
      exact hk38 v1 v2 v3 a4 _ hf
    · have hf := iff_ c3 hf
      refine aw_aload_n C 0 0 (j := 0) rfl rfl (by decide +kernel) rfl ?_
      refine aw_getr C (k := 42) fc_12 (la_58 E) rfl (by decide) tb_984 (by decide +kernel) rfl ?_
      refine aw_sipush C (i0 := 256) (v := 256) (by decide) (by decide +kernel) rfl ?_
      refine aw_iload_n C 1 1 (j := 1) rfl rfl (by decide +kernel) rfl ?_
      refine aw_imul C (by decide +kernel) rfl ?_
      refine aw_aload_n C 0 0 (j := 0) rfl rfl (by decide +kernel) rfl ?_
      refine aw_iload_n C 3 3 (j := 3) rfl rfl (by decide +kernel) rfl ?_
      refine aw_iload C 4 4 rfl (by decide +kernel) rfl ?_
      obtain ⟨q5, hq5, hf⟩ := ibd hf
      refine aw_callV C (rest := [.int ((256 : Int32) * v1), .ref (gad G 75)]) (c_m_beside E v3 v4 _ q5 hq5) tb_1356 yf_196 yi_196 (la_58 E) [.int v3, .int v4] rfl rfl _ rfl (Nat.le_trans (by decide) hgd) (Nat.le_of_ble_eq_true rfl) (by decide +kernel) rfl ?_
      show AW _ _ _ _ [.int q5.1, .int ((256 : Int32) * v1), .ref (gad G 75)]
      refine aw_iadd C (by decide +kernel) rfl ?_
      obtain ⟨g6, hf⟩ := igd hf
      refine aw_iald C (la_75 E) g6 (by decide +kernel) rfl ?_
      refine aw_aload_n C 0 0 (j := 0) rfl rfl (by decide +kernel) rfl ?_
      refine aw_iload_n C 3 3 (j := 3) rfl rfl (by decide +kernel) rfl ?_
      obtain ⟨q7, hq7, hf⟩ := ibd hf
      refine aw_callV C (rest := [.int (q5.2.1 75 (((256 : Int32) * v1) + q5.1).toNatClampNeg)]) (c_m_costOf E v3 _ q7 hq7) tb_1408 yf_209 yi_209 (la_58 E) [.int v3] rfl rfl _ rfl (Nat.le_trans (by decide) hgd) (Nat.le_of_ble_eq_true rfl) (by decide +kernel) rfl ?_
      show AW _ _ _ _ [.int q7.1, .int (q5.2.1 75 (((256 : Int32) * v1) + q5.1).toNatClampNeg)]
      obtain ⟨q8, hq8, hf⟩ := ibd hf
      refine aw_callS C (rest := []) (c_m_sum E (q5.2.1 75 (((256 : Int32) * v1) + q5.1).toNatClampNeg) q7.1 _ q8 hq8) tb_1405 yf_208 tb_1406 rfl _ rfl (Nat.le_trans (by decide) hgd) (Nat.le_of_ble_eq_true rfl) (by decide +kernel) rfl ?_
      show AW _ _ _ _ [.int q8.1]
      refine aw_istore C [(5, .int q8.1), (0, .ref (gad G 58)), (1, .int v1), (2, .int v2), (3, .int v3), (4, .int v4)] (by rw [hnL]; decide) rfl (by decide +kernel) rfl ?_
      refine aw_iload C 5 0 rfl (by decide +kernel) rfl ?_
      refine aw_aload_n C 0 1 (j := 0) rfl rfl (by decide +kernel) rfl ?_
      refine aw_getr C (k := 42) fc_12 (la_58 E) rfl (by decide) tb_984 (by decide +kernel) rfl ?_
      refine aw_sipush C (i0 := 256) (v := 256) (by decide) (by decide +kernel) rfl ?_
      refine aw_iload_n C 1 2 (j := 1) rfl rfl (by decide +kernel) rfl ?_
      refine aw_imul C (by decide +kernel) rfl ?_
      refine aw_iload_n C 3 4 (j := 3) rfl rfl (by decide +kernel) rfl ?_
      refine aw_iadd C (by decide +kernel) rfl ?_
      obtain ⟨g9, hf⟩ := igd hf
      refine aw_iald C (la_75 E) g9 (by decide +kernel) rfl ?_
      refine aw_icmp_lt C (tgt := 106) (off := 6) (by decide +kernel) (by decide) rfl (fun c10 => ?_) (fun c10 => ?_)
      · have hf := ift c10 hf
        refine aw_aload_n C 0 1 (j := 0) rfl rfl (by decide +kernel) rfl ?_
        refine aw_getr C (k := 42) fc_12 (la_58 E) rfl (by decide) tb_984 (by decide +kernel) rfl ?_
        refine aw_sipush C (i0 := 256) (v := 256) (by decide) (by decide +kernel) rfl ?_
        refine aw_iload_n C 1 2 (j := 1) rfl rfl (by decide +kernel) rfl ?_
        refine aw_imul C (by decide +kernel) rfl ?_
        refine aw_iload_n C 3 4 (j := 3) rfl rfl (by decide +kernel) rfl ?_
        refine aw_iadd C (by decide +kernel) rfl ?_
        refine aw_iload C 5 0 rfl (by decide +kernel) rfl ?_
        obtain ⟨g11, hf⟩ := igd hf
        refine aw_iast C (la_75 E) g11 (by decide +kernel) rfl ?_
        refine aw_iconst C (i0 := 1) (v := 1) (by decide) (by decide +kernel) rfl ?_
        refine aw_istore_n C [(2, .int (1 : Int32)), (5, .int q8.1), (0, .ref (gad G 58)), (1, .int v1), (3, .int v3), (4, .int v4)] (j := 2) rfl (by rw [hnL]; decide) rfl (by decide +kernel) rfl ?_
        obtain ⟨a12, ha12⟩ : ∃ z, z = (v4 + (1 : Int32)) := ⟨_, rfl⟩
        have hf := ilt ha12 hf
        refine aw_iinc C [(4, .int a12), (2, .int (1 : Int32)), (5, .int q8.1), (0, .ref (gad G 58)), (1, .int v1), (3, .int v3)] 5 (n := 1) rfl (by rw [ha12]; rfl) (by rw [hnL]; decide) rfl (by decide +kernel) rfl ?_
        refine aw_goto C (tgt := 38) (off := -87) (by decide +kernel) (by decide) ?_
        refine aw_sub [(0, .ref (gad G 58)), (1, .int v1), (2, .int (1 : Int32)), (3, .int v3), (4, .int a12)] [3, 4, 1, 5, 0] rfl ?_
        exact hk38 v1 (1 : Int32) v3 a12 _ hf
      · have hf := iff_ c10 hf
        refine aw_goto C (tgt := 122) (off := 19) (by decide +kernel) (by decide) ?_
        obtain ⟨a13, ha13⟩ : ∃ z, z = (v4 + (1 : Int32)) := ⟨_, rfl⟩
        have hf := ilt ha13 hf
        refine aw_iinc C [(4, .int a13), (5, .int q8.1), (0, .ref (gad G 58)), (1, .int v1), (2, .int v2), (3, .int v3)] 5 (n := 1) rfl (by rw [ha13]; rfl) (by rw [hnL]; decide) rfl (by decide +kernel) rfl ?_
        refine aw_goto C (tgt := 38) (off := -87) (by decide +kernel) (by decide) ?_
        refine aw_sub [(0, .ref (gad G 58)), (1, .int v1), (2, .int v2), (3, .int v3), (4, .int a13)] [2, 3, 4, 5, 0] rfl ?_
        exact hk38 v1 v2 v3 a13 _ hf
theorem u_m_wanders_38 {G : Cx} (C : CX G prog_14_method_73_code "PaperStarsModel") (CR0 : CR G (Option.none)) (E : LAin (gly G)) (hnL : gnL G = 6) (hgd : 2 ≤ gd G) {q : Unit × Mm} (hgr : gr G = none) (hgs : gsf G = q.2) (k2 : Int32 → Int32 → Mm → Option (Unit × Mm)) (k10 : Int32 → Int32 → Int32 → Mm → Option (Unit × Mm)) (hk2 : ∀ (v1 : Int32) (v2 : Int32) (st : Mm), k2 v1 v2 st = some q → AW G st 2 [(0, .ref (gad G 58)), (1, .int v1), (2, .int v2)] []) (hk10 : ∀ (v1 : Int32) (v2 : Int32) (v3 : Int32) (st : Mm), k10 v1 v2 v3 st = some q → AW G st 10 [(0, .ref (gad G 58)), (1, .int v1), (2, .int v2), (3, .int v3)] []) : ∀ (n : Nat) (v1 : Int32) (v2 : Int32) (v3 : Int32) (v4 : Int32) (st : Mm), f_m_wanders_38 k2 k10 n v1 v2 v3 v4 st = some q → AW G st 38 [(0, .ref (gad G 58)), (1, .int v1), (2, .int v2), (3, .int v3), (4, .int v4)] [] := by
  intro n
  induction n with
  | zero => intro v1 v2 v3 v4 st hf; cases hf
  | succ n ih => intro v1 v2 v3 v4 st hf; exact t_m_wanders_38 C CR0 E hnL hgd hgr hgs k2 k10 (f_m_wanders_38 k2 k10 n) hk2 hk10 ih v1 v2 v3 v4 st hf
theorem t_m_wanders_134 {G : Cx} (C : CX G prog_14_method_73_code "PaperStarsModel") (CR0 : CR G (Option.none)) (E : LAin (gly G)) (hnL : gnL G = 6) (hgd : 2 ≤ gd G) {q : Unit × Mm} (hgr : gr G = none) (hgs : gsf G = q.2) (k2 : Int32 → Int32 → Mm → Option (Unit × Mm)) (hk2 : ∀ (v1 : Int32) (v2 : Int32) (st : Mm), k2 v1 v2 st = some q → AW G st 2 [(0, .ref (gad G 58)), (1, .int v1), (2, .int v2)] []) (v1 : Int32) (v2 : Int32) (st : Mm) (hf : b_m_wanders_134 k2 v1 v2 st = some q) : AW G st 134 [(0, .ref (gad G 58)), (1, .int v1), (2, .int v2)] [] := by
  unfold b_m_wanders_134 at hf
  refine aw_goto C (tgt := 2) (off := -132) (by decide +kernel) (by decide) ?_
  exact hk2 v1 v2 _ hf
theorem t_m_wanders_10 {G : Cx} (C : CX G prog_14_method_73_code "PaperStarsModel") (CR0 : CR G (Option.none)) (E : LAin (gly G)) (hnL : gnL G = 6) (hgd : 2 ≤ gd G) {q : Unit × Mm} (hgr : gr G = none) (hgs : gsf G = q.2) (k2 : Int32 → Int32 → Mm → Option (Unit × Mm)) (k10 : Int32 → Int32 → Int32 → Mm → Option (Unit × Mm)) (hk2 : ∀ (v1 : Int32) (v2 : Int32) (st : Mm), k2 v1 v2 st = some q → AW G st 2 [(0, .ref (gad G 58)), (1, .int v1), (2, .int v2)] []) (hk10 : ∀ (v1 : Int32) (v2 : Int32) (v3 : Int32) (st : Mm), k10 v1 v2 v3 st = some q → AW G st 10 [(0, .ref (gad G 58)), (1, .int v1), (2, .int v2), (3, .int v3)] []) (v1 : Int32) (v2 : Int32) (v3 : Int32) (st : Mm) (hf : b_m_wanders_10 k2 k10 v1 v2 v3 st = some q) : AW G st 10 [(0, .ref (gad G 58)), (1, .int v1), (2, .int v2), (3, .int v3)] [] := by
  unfold b_m_wanders_10 at hf
  refine aw_iload_n C 3 3 (j := 3) rfl rfl (by decide +kernel) rfl ?_
  refine aw_sipush C (i0 := 256) (v := 256) (by decide) (by decide +kernel) rfl ?_
  refine aw_icmp_ge C (tgt := 134) (off := 120) (by decide +kernel) (by decide) rfl (fun c1 => ?_) (fun c1 => ?_)
  · have hf := ift c1 hf
    refine aw_sub [(0, .ref (gad G 58)), (1, .int v1), (2, .int v2)] [0, 1, 2] rfl ?_
    exact t_m_wanders_134 C CR0 E hnL hgd hgr hgs k2 hk2 v1 v2 _ hf
  · have hf := iff_ c1 hf
    refine aw_aload_n C 0 0 (j := 0) rfl rfl (by decide +kernel) rfl ?_
    refine aw_iload_n C 3 3 (j := 3) rfl rfl (by decide +kernel) rfl ?_
    refine aw_bipush C (i0 := 16) (v := 16) (by decide) (by decide +kernel) rfl ?_
    refine aw_irem C (by decide) (by decide +kernel) rfl ?_
    refine aw_iload_n C 3 3 (j := 3) rfl rfl (by decide +kernel) rfl ?_
    refine aw_bipush C (i0 := 16) (v := 16) (by decide) (by decide +kernel) rfl ?_
    refine aw_idiv C (by decide) (by decide +kernel) rfl ?_
    obtain ⟨q2, hq2, hf⟩ := ibd hf
    refine aw_callV C (rest := []) (c_m_isCell E (v3 - v3 / (16 : Int32) * (16 : Int32)) (v3 / (16 : Int32)) _ q2 hq2) tb_1328 yf_189 yi_189 (la_58 E) [.int (v3 - v3 / (16 : Int32) * (16 : Int32)), .int (v3 / (16 : Int32))] rfl rfl _ rfl (Nat.le_trans (by decide) hgd) (Nat.le_of_ble_eq_true rfl) (by decide +kernel) rfl ?_
    show AW _ _ _ _ [.int q2.1]
    refine aw_if_ne C (tgt := 35) (off := 6) (by decide +kernel) (by decide) rfl (fun c3 => ?_) (fun c3 => ?_)
    · have hf := ift c3 hf
      refine aw_goto C (tgt := 128) (off := 96) (by decide +kernel) (by decide) ?_
      exact t_m_wanders_128 C CR0 E hnL hgd hgr hgs k2 k10 hk2 hk10 v1 v2 v3 _ hf
    · have hf := iff_ c3 hf
      refine aw_iconst C (i0 := 0) (v := 0) (by decide) (by decide +kernel) rfl ?_
      refine aw_istore C [(4, .int (0 : Int32)), (0, .ref (gad G 58)), (1, .int v1), (2, .int v2), (3, .int v3)] (by rw [hnL]; decide) rfl (by decide +kernel) rfl ?_
      refine aw_sub [(0, .ref (gad G 58)), (1, .int v1), (2, .int v2), (3, .int v3), (4, .int (0 : Int32))] [1, 2, 3, 4, 0] rfl ?_
      exact u_m_wanders_38 C CR0 E hnL hgd hgr hgs k2 k10 hk2 hk10 _ v1 v2 v3 (0 : Int32) _ hf
theorem u_m_wanders_10 {G : Cx} (C : CX G prog_14_method_73_code "PaperStarsModel") (CR0 : CR G (Option.none)) (E : LAin (gly G)) (hnL : gnL G = 6) (hgd : 2 ≤ gd G) {q : Unit × Mm} (hgr : gr G = none) (hgs : gsf G = q.2) (k2 : Int32 → Int32 → Mm → Option (Unit × Mm)) (hk2 : ∀ (v1 : Int32) (v2 : Int32) (st : Mm), k2 v1 v2 st = some q → AW G st 2 [(0, .ref (gad G 58)), (1, .int v1), (2, .int v2)] []) : ∀ (n : Nat) (v1 : Int32) (v2 : Int32) (v3 : Int32) (st : Mm), f_m_wanders_10 k2 n v1 v2 v3 st = some q → AW G st 10 [(0, .ref (gad G 58)), (1, .int v1), (2, .int v2), (3, .int v3)] [] := by
  intro n
  induction n with
  | zero => intro v1 v2 v3 st hf; cases hf
  | succ n ih => intro v1 v2 v3 st hf; exact t_m_wanders_10 C CR0 E hnL hgd hgr hgs k2 (f_m_wanders_10 k2 n) hk2 ih v1 v2 v3 st hf
theorem t_m_wanders_2 {G : Cx} (C : CX G prog_14_method_73_code "PaperStarsModel") (CR0 : CR G (Option.none)) (E : LAin (gly G)) (hnL : gnL G = 6) (hgd : 2 ≤ gd G) {q : Unit × Mm} (hgr : gr G = none) (hgs : gsf G = q.2) (k2 : Int32 → Int32 → Mm → Option (Unit × Mm)) (hk2 : ∀ (v1 : Int32) (v2 : Int32) (st : Mm), k2 v1 v2 st = some q → AW G st 2 [(0, .ref (gad G 58)), (1, .int v1), (2, .int v2)] []) (v1 : Int32) (v2 : Int32) (st : Mm) (hf : b_m_wanders_2 k2 v1 v2 st = some q) : AW G st 2 [(0, .ref (gad G 58)), (1, .int v1), (2, .int v2)] [] := by
  unfold b_m_wanders_2 at hf
  refine aw_iload_n C 2 2 (j := 2) rfl rfl (by decide +kernel) rfl ?_
  refine aw_if_eq C (tgt := 137) (off := 134) (by decide +kernel) (by decide) rfl (fun c1 => ?_) (fun c1 => ?_)
  · have hf := ift c1 hf
    exact aw_vretq C CR0 hgr hgs hf (by decide +kernel)
  · have hf := iff_ c1 hf
    refine aw_iconst C (i0 := 0) (v := 0) (by decide) (by decide +kernel) rfl ?_
    refine aw_istore_n C [(2, .int (0 : Int32)), (0, .ref (gad G 58)), (1, .int v1)] (j := 2) rfl (by rw [hnL]; decide) rfl (by decide +kernel) rfl ?_
    refine aw_iconst C (i0 := 0) (v := 0) (by decide) (by decide +kernel) rfl ?_
    refine aw_istore_n C [(3, .int (0 : Int32)), (2, .int (0 : Int32)), (0, .ref (gad G 58)), (1, .int v1)] (j := 3) rfl (by rw [hnL]; decide) rfl (by decide +kernel) rfl ?_
    refine aw_sub [(0, .ref (gad G 58)), (1, .int v1), (2, .int (0 : Int32)), (3, .int (0 : Int32))] [2, 3, 1, 0] rfl ?_
    exact u_m_wanders_10 C CR0 E hnL hgd hgr hgs k2 hk2 _ v1 (0 : Int32) (0 : Int32) _ hf
theorem u_m_wanders_2 {G : Cx} (C : CX G prog_14_method_73_code "PaperStarsModel") (CR0 : CR G (Option.none)) (E : LAin (gly G)) (hnL : gnL G = 6) (hgd : 2 ≤ gd G) {q : Unit × Mm} (hgr : gr G = none) (hgs : gsf G = q.2) : ∀ (n : Nat) (v1 : Int32) (v2 : Int32) (st : Mm), f_m_wanders_2 n v1 v2 st = some q → AW G st 2 [(0, .ref (gad G 58)), (1, .int v1), (2, .int v2)] [] := by
  intro n
  induction n with
  | zero => intro v1 v2 st hf; cases hf
  | succ n ih => intro v1 v2 st hf; exact t_m_wanders_2 C CR0 E hnL hgd hgr hgs (f_m_wanders_2 n) ih v1 v2 st hf
theorem t_m_wanders {G : Cx} (C : CX G prog_14_method_73_code "PaperStarsModel") (CR0 : CR G (Option.none)) (E : LAin (gly G)) (hnL : gnL G = 6) (hgd : 2 ≤ gd G) {q : Unit × Mm} (hgr : gr G = none) (hgs : gsf G = q.2) (v1 : Int32) (st : Mm) (hf : f_m_wanders v1 st = some q) : AW G st 0 [(0, .ref (gad G 58)), (1, .int v1)] [] := by
  unfold f_m_wanders at hf
  refine aw_iconst C (i0 := 1) (v := 1) (by decide) (by decide +kernel) rfl ?_
  refine aw_istore_n C [(2, .int (1 : Int32)), (0, .ref (gad G 58)), (1, .int v1)] (j := 2) rfl (by rw [hnL]; decide) rfl (by decide +kernel) rfl ?_
  refine aw_sub [(0, .ref (gad G 58)), (1, .int v1), (2, .int (1 : Int32))] [1, 2, 0] rfl ?_
  exact u_m_wanders_2 C CR0 E hnL hgd hgr hgs _ v1 (1 : Int32) _ hf
theorem c_m_wanders {lay : Ly} (E : LAin lay) (v1 : Int32) (st : Mm) (q : Unit × Mm) (hf : f_m_wanders v1 st = some q) : Con 2 Y211 prog_14_method_73_code 6 (Option.none) lay (fun ad => [.ref (ad 58), .int v1]) st (none) q.2 :=
  am_met yf_211.2.2.2.2.2 (fun ad => Nat.le_of_ble_eq_true rfl) (fun G C CR0 e1 e2 e3 e4 e5 => t_m_wanders C CR0 (by rw [e1]; exact E) e2 (Nat.le_of_eq e5.symm) e3 e4 v1 st hf)
def b_m_hang_169 (k89 : Int32 → Int32 → Int32 → Mm → Option (Int32 × Mm)) (v1 : Int32) (v2 : Int32) (v3 : Int32) (st : Mm) : Option (Int32 × Mm) :=
  (f_m_joins v3 st).bind (fun q1 => (f_m_wanders v3 q1.2).bind (fun q2 => lt_ (v3 + (1 : Int32)) (fun a3 => k89 v1 v2 a3 q2.2)))
def b_m_hang_130 (k89 : Int32 → Int32 → Int32 → Mm → Option (Int32 × Mm)) (k130 : Int32 → Int32 → Int32 → Int32 → Mm → Option (Int32 × Mm)) (v1 : Int32) (v2 : Int32) (v3 : Int32) (v4 : Int32) (st : Mm) : Option (Int32 × Mm) :=
  if v1 ≤ v4 then (b_m_hang_169 k89 v1 v2 v3 st) else (if v3 = ((1 : Int32) <<< (v4 &&& 31)) then (if inb v4 6 then if inb (((256 : Int32) * v3) + (st.1 76 v4.toNatClampNeg)) 16384 then lt_ (v4 + (1 : Int32)) (fun a5 => k130 v1 v2 v3 a5 (sI st 75 (((256 : Int32) * v3) + (st.1 76 v4.toNatClampNeg)).toNatClampNeg (0 : Int32))) else none else none) else (lt_ (v4 + (1 : Int32)) (fun a6 => k130 v1 v2 v3 a6 st)))
def f_m_hang_130 (k89 : Int32 → Int32 → Int32 → Mm → Option (Int32 × Mm)) : Nat → Int32 → Int32 → Int32 → Int32 → Mm → Option (Int32 × Mm)
  | 0 => fun _ _ _ _ _ => none
  | n + 1 => b_m_hang_130 k89 (f_m_hang_130 k89 n)
def b_m_hang_127 (k89 : Int32 → Int32 → Int32 → Mm → Option (Int32 × Mm)) (v1 : Int32) (v2 : Int32) (v3 : Int32) (st : Mm) : Option (Int32 × Mm) :=
  f_m_hang_130 k89 1000000 v1 v2 v3 (0 : Int32) st
def b_m_hang_97 (k89 : Int32 → Int32 → Int32 → Mm → Option (Int32 × Mm)) (k97 : Int32 → Int32 → Int32 → Int32 → Mm → Option (Int32 × Mm)) (v1 : Int32) (v2 : Int32) (v3 : Int32) (v4 : Int32) (st : Mm) : Option (Int32 × Mm) :=
  if (256 : Int32) ≤ v4 then (b_m_hang_127 k89 v1 v2 v3 st) else (if inb (((256 : Int32) * v3) + v4) 16384 then lt_ (v4 + (1 : Int32)) (fun a3 => k97 v1 v2 v3 a3 (sI st 75 (((256 : Int32) * v3) + v4).toNatClampNeg (1000000000 : Int32))) else none)
def f_m_hang_97 (k89 : Int32 → Int32 → Int32 → Mm → Option (Int32 × Mm)) : Nat → Int32 → Int32 → Int32 → Int32 → Mm → Option (Int32 × Mm)
  | 0 => fun _ _ _ _ _ => none
  | n + 1 => b_m_hang_97 k89 (f_m_hang_97 k89 n)
def b_m_hang_224 (v3 : Int32) (st : Mm) : Option (Int32 × Mm) :=
  if v3 < (1000000000 : Int32) then (some (v3, st)) else (some ((-2 : Int32), st))
def b_m_hang_192 (k192 : Int32 → Int32 → Int32 → Mm → Option (Int32 × Mm)) (v2 : Int32) (v3 : Int32) (v4 : Int32) (st : Mm) : Option (Int32 × Mm) :=
  if (256 : Int32) ≤ v4 then (b_m_hang_224 v3 st) else (if inb (((256 : Int32) * v2) + v4) 16384 then (f_m_min v3 (st.1 75 (((256 : Int32) * v2) + v4).toNatClampNeg) st).bind (fun q3 => lt_ (v4 + (1 : Int32)) (fun a4 => k192 v2 q3.1 a4 q3.2)) else none)
def f_m_hang_192 : Nat → Int32 → Int32 → Int32 → Mm → Option (Int32 × Mm)
  | 0 => fun _ _ _ _ => none
  | n + 1 => b_m_hang_192 (f_m_hang_192 n)
def b_m_hang_185 (v2 : Int32) (st : Mm) : Option (Int32 × Mm) :=
  f_m_hang_192 1000000 v2 (1000000000 : Int32) (0 : Int32) st
def b_m_hang_89 (k89 : Int32 → Int32 → Int32 → Mm → Option (Int32 × Mm)) (v1 : Int32) (v2 : Int32) (v3 : Int32) (st : Mm) : Option (Int32 × Mm) :=
  if v2 < v3 then (b_m_hang_185 v2 st) else (f_m_hang_97 k89 1000000 v1 v2 v3 (0 : Int32) st)
def f_m_hang_89 : Nat → Int32 → Int32 → Int32 → Mm → Option (Int32 × Mm)
  | 0 => fun _ _ _ _ => none
  | n + 1 => b_m_hang_89 (f_m_hang_89 n)
def b_m_hang_81 (v1 : Int32) (st : Mm) : Option (Int32 × Mm) :=
  lt_ (((1 : Int32) <<< (v1 &&& 31)) - (1 : Int32)) (fun a1 => f_m_hang_89 1000000 v1 a1 (1 : Int32) st)
def b_m_hang_35 (k35 : Int32 → Int32 → Mm → Option (Int32 × Mm)) (v1 : Int32) (v2 : Int32) (st : Mm) : Option (Int32 × Mm) :=
  if (256 : Int32) ≤ v2 then (b_m_hang_81 v1 st) else (if inb v2 256 then if (st.1 72 v2.toNatClampNeg) = 0 then (lt_ (v2 + (1 : Int32)) (fun a4 => k35 v1 a4 st)) else (if inb v2 256 then if (st.1 73 v2.toNatClampNeg) = v2 then (if inb v1 6 then lt_ (v1 + (1 : Int32)) (fun a8 => lt_ (v2 + (1 : Int32)) (fun a9 => k35 a8 a9 (sI st 76 v1.toNatClampNeg v2))) else none) else (lt_ (v2 + (1 : Int32)) (fun a10 => k35 v1 a10 st)) else none) else none)
def f_m_hang_35 : Nat → Int32 → Int32 → Mm → Option (Int32 × Mm)
  | 0 => fun _ _ _ => none
  | n + 1 => b_m_hang_35 (f_m_hang_35 n)
def f_m_hang (st : Mm) : Option (Int32 × Mm) :=
  (f_m_opens0 (0 : Int32) st).bind (fun q1 => (f_m_laysPieces q1.2).bind (fun q2 => if (2 : Int32) ≤ (q2.2.1 58 39) then (if (q2.2.1 58 39) ≤ (6 : Int32) then (f_m_hang_35 1000000 (0 : Int32) (0 : Int32) q2.2) else (some ((-3 : Int32), q2.2))) else (some ((0 : Int32), q2.2))))
theorem t_m_hang_169 {G : Cx} (C : CX G prog_14_method_74_code "PaperStarsModel") (CR0 : CR G (Option.some FieldType.int)) (E : LAin (gly G)) (hnL : gnL G = 5) (hgd : 4 ≤ gd G) {q : Int32 × Mm} (hgr : gr G = some (.int q.1)) (hgs : gsf G = q.2) (k89 : Int32 → Int32 → Int32 → Mm → Option (Int32 × Mm)) (hk89 : ∀ (v1 : Int32) (v2 : Int32) (v3 : Int32) (st : Mm), k89 v1 v2 v3 st = some q → AW G st 89 [(0, .ref (gad G 58)), (1, .int v1), (2, .int v2), (3, .int v3)] []) (v1 : Int32) (v2 : Int32) (v3 : Int32) (st : Mm) (hf : b_m_hang_169 k89 v1 v2 v3 st = some q) : AW G st 169 [(0, .ref (gad G 58)), (1, .int v1), (2, .int v2), (3, .int v3)] [] := by
  unfold b_m_hang_169 at hf
  refine aw_aload_n C 0 0 (j := 0) rfl rfl (by decide +kernel) rfl ?_
  refine aw_iload_n C 3 3 (j := 3) rfl rfl (by decide +kernel) rfl ?_
  obtain ⟨q1, hq1, hf⟩ := ibd hf
  refine aw_callV C (rest := []) (c_m_joins E v3 _ q1 hq1) tb_1401 yf_207 yi_207 (la_58 E) [.int v3] rfl rfl _ rfl (Nat.le_trans (by decide) hgd) (Nat.le_of_ble_eq_true rfl) (by decide +kernel) rfl ?_
  show AW _ _ _ _ []
  refine aw_aload_n C 0 0 (j := 0) rfl rfl (by decide +kernel) rfl ?_
  refine aw_iload_n C 3 3 (j := 3) rfl rfl (by decide +kernel) rfl ?_
  obtain ⟨q2, hq2, hf⟩ := ibd hf
  refine aw_callV C (rest := []) (c_m_wanders E v3 _ q2 hq2) tb_1415 yf_211 yi_211 (la_58 E) [.int v3] rfl rfl _ rfl (Nat.le_trans (by decide) hgd) (Nat.le_of_ble_eq_true rfl) (by decide +kernel) rfl ?_
  show AW _ _ _ _ []
  obtain ⟨a3, ha3⟩ : ∃ z, z = (v3 + (1 : Int32)) := ⟨_, rfl⟩
  have hf := ilt ha3 hf
  refine aw_iinc C [(3, .int a3), (0, .ref (gad G 58)), (1, .int v1), (2, .int v2)] 3 (n := 1) rfl (by rw [ha3]; rfl) (by rw [hnL]; decide) rfl (by decide +kernel) rfl ?_
  refine aw_goto C (tgt := 89) (off := -93) (by decide +kernel) (by decide) ?_
  refine aw_sub [(0, .ref (gad G 58)), (1, .int v1), (2, .int v2), (3, .int a3)] [1, 2, 3, 0] rfl ?_
  exact hk89 v1 v2 a3 _ hf
theorem t_m_hang_130 {G : Cx} (C : CX G prog_14_method_74_code "PaperStarsModel") (CR0 : CR G (Option.some FieldType.int)) (E : LAin (gly G)) (hnL : gnL G = 5) (hgd : 4 ≤ gd G) {q : Int32 × Mm} (hgr : gr G = some (.int q.1)) (hgs : gsf G = q.2) (k89 : Int32 → Int32 → Int32 → Mm → Option (Int32 × Mm)) (k130 : Int32 → Int32 → Int32 → Int32 → Mm → Option (Int32 × Mm)) (hk89 : ∀ (v1 : Int32) (v2 : Int32) (v3 : Int32) (st : Mm), k89 v1 v2 v3 st = some q → AW G st 89 [(0, .ref (gad G 58)), (1, .int v1), (2, .int v2), (3, .int v3)] []) (hk130 : ∀ (v1 : Int32) (v2 : Int32) (v3 : Int32) (v4 : Int32) (st : Mm), k130 v1 v2 v3 v4 st = some q → AW G st 130 [(0, .ref (gad G 58)), (1, .int v1), (2, .int v2), (3, .int v3), (4, .int v4)] []) (v1 : Int32) (v2 : Int32) (v3 : Int32) (v4 : Int32) (st : Mm) (hf : b_m_hang_130 k89 k130 v1 v2 v3 v4 st = some q) : AW G st 130 [(0, .ref (gad G 58)), (1, .int v1), (2, .int v2), (3, .int v3), (4, .int v4)] [] := by
  unfold b_m_hang_130 at hf
  refine aw_iload C 4 4 rfl (by decide +kernel) rfl ?_
  refine aw_iload_n C 1 1 (j := 1) rfl rfl (by decide +kernel) rfl ?_
  refine aw_icmp_ge C (tgt := 169) (off := 36) (by decide +kernel) (by decide) rfl (fun c1 => ?_) (fun c1 => ?_)
  · have hf := ift c1 hf
    refine aw_sub [(0, .ref (gad G 58)), (1, .int v1), (2, .int v2), (3, .int v3)] [0, 1, 2, 3] rfl ?_
    exact t_m_hang_169 C CR0 E hnL hgd hgr hgs k89 hk89 v1 v2 v3 _ hf
  · have hf := iff_ c1 hf
    refine aw_iload_n C 3 3 (j := 3) rfl rfl (by decide +kernel) rfl ?_
    refine aw_iconst C (i0 := 1) (v := 1) (by decide) (by decide +kernel) rfl ?_
    refine aw_iload C 4 4 rfl (by decide +kernel) rfl ?_
    refine aw_ishl C (by decide +kernel) rfl ?_
    refine aw_icmp_ne C (tgt := 163) (off := 22) (by decide +kernel) (by decide) rfl (fun c2 => ?_) (fun c2 => ?_)
    · have hf := ift c2 hf
      refine aw_aload_n C 0 0 (j := 0) rfl rfl (by decide +kernel) rfl ?_
      refine aw_getr C (k := 42) fc_12 (la_58 E) rfl (by decide) tb_984 (by decide +kernel) rfl ?_
      refine aw_sipush C (i0 := 256) (v := 256) (by decide) (by decide +kernel) rfl ?_
      refine aw_iload_n C 3 3 (j := 3) rfl rfl (by decide +kernel) rfl ?_
      refine aw_imul C (by decide +kernel) rfl ?_
      refine aw_aload_n C 0 0 (j := 0) rfl rfl (by decide +kernel) rfl ?_
      refine aw_getr C (k := 43) fc_12 (la_58 E) rfl (by decide) tb_985 (by decide +kernel) rfl ?_
      refine aw_iload C 4 4 rfl (by decide +kernel) rfl ?_
      obtain ⟨g3, hf⟩ := igd hf
      refine aw_iald C (la_76 E) g3 (by decide +kernel) rfl ?_
      refine aw_iadd C (by decide +kernel) rfl ?_
      refine aw_iconst C (i0 := 0) (v := 0) (by decide) (by decide +kernel) rfl ?_
      obtain ⟨g4, hf⟩ := igd hf
      refine aw_iast C (la_75 E) g4 (by decide +kernel) rfl ?_
      obtain ⟨a5, ha5⟩ : ∃ z, z = (v4 + (1 : Int32)) := ⟨_, rfl⟩
      have hf := ilt ha5 hf
      refine aw_iinc C [(4, .int a5), (0, .ref (gad G 58)), (1, .int v1), (2, .int v2), (3, .int v3)] 4 (n := 1) rfl (by rw [ha5]; rfl) (by rw [hnL]; decide) rfl (by decide +kernel) rfl ?_
      refine aw_goto C (tgt := 130) (off := -36) (by decide +kernel) (by decide) ?_
      refine aw_sub [(0, .ref (gad G 58)), (1, .int v1), (2, .int v2), (3, .int v3), (4, .int a5)] [1, 2, 3, 4, 0] rfl ?_
      exact hk130 v1 v2 v3 a5 _ hf
    · have hf := iff_ c2 hf
      obtain ⟨a6, ha6⟩ : ∃ z, z = (v4 + (1 : Int32)) := ⟨_, rfl⟩
      have hf := ilt ha6 hf
      refine aw_iinc C [(4, .int a6), (0, .ref (gad G 58)), (1, .int v1), (2, .int v2), (3, .int v3)] 4 (n := 1) rfl (by rw [ha6]; rfl) (by rw [hnL]; decide) rfl (by decide +kernel) rfl ?_
      refine aw_goto C (tgt := 130) (off := -36) (by decide +kernel) (by decide) ?_
      refine aw_sub [(0, .ref (gad G 58)), (1, .int v1), (2, .int v2), (3, .int v3), (4, .int a6)] [1, 2, 3, 4, 0] rfl ?_
      exact hk130 v1 v2 v3 a6 _ hf
theorem u_m_hang_130 {G : Cx} (C : CX G prog_14_method_74_code "PaperStarsModel") (CR0 : CR G (Option.some FieldType.int)) (E : LAin (gly G)) (hnL : gnL G = 5) (hgd : 4 ≤ gd G) {q : Int32 × Mm} (hgr : gr G = some (.int q.1)) (hgs : gsf G = q.2) (k89 : Int32 → Int32 → Int32 → Mm → Option (Int32 × Mm)) (hk89 : ∀ (v1 : Int32) (v2 : Int32) (v3 : Int32) (st : Mm), k89 v1 v2 v3 st = some q → AW G st 89 [(0, .ref (gad G 58)), (1, .int v1), (2, .int v2), (3, .int v3)] []) : ∀ (n : Nat) (v1 : Int32) (v2 : Int32) (v3 : Int32) (v4 : Int32) (st : Mm), f_m_hang_130 k89 n v1 v2 v3 v4 st = some q → AW G st 130 [(0, .ref (gad G 58)), (1, .int v1), (2, .int v2), (3, .int v3), (4, .int v4)] [] := by
  intro n
  induction n with
  | zero => intro v1 v2 v3 v4 st hf; cases hf
  | succ n ih => intro v1 v2 v3 v4 st hf; exact t_m_hang_130 C CR0 E hnL hgd hgr hgs k89 (f_m_hang_130 k89 n) hk89 ih v1 v2 v3 v4 st hf
theorem t_m_hang_127 {G : Cx} (C : CX G prog_14_method_74_code "PaperStarsModel") (CR0 : CR G (Option.some FieldType.int)) (E : LAin (gly G)) (hnL : gnL G = 5) (hgd : 4 ≤ gd G) {q : Int32 × Mm} (hgr : gr G = some (.int q.1)) (hgs : gsf G = q.2) (k89 : Int32 → Int32 → Int32 → Mm → Option (Int32 × Mm)) (hk89 : ∀ (v1 : Int32) (v2 : Int32) (v3 : Int32) (st : Mm), k89 v1 v2 v3 st = some q → AW G st 89 [(0, .ref (gad G 58)), (1, .int v1), (2, .int v2), (3, .int v3)] []) (v1 : Int32) (v2 : Int32) (v3 : Int32) (st : Mm) (hf : b_m_hang_127 k89 v1 v2 v3 st = some q) : AW G st 127 [(0, .ref (gad G 58)), (1, .int v1), (2, .int v2), (3, .int v3)] [] := by
  unfold b_m_hang_127 at hf
  refine aw_iconst C (i0 := 0) (v := 0) (by decide) (by decide +kernel) rfl ?_
  refine aw_istore C [(4, .int (0 : Int32)), (0, .ref (gad G 58)), (1, .int v1), (2, .int v2), (3, .int v3)] (by rw [hnL]; decide) rfl (by decide +kernel) rfl ?_
  refine aw_sub [(0, .ref (gad G 58)), (1, .int v1), (2, .int v2), (3, .int v3), (4, .int (0 : Int32))] [1, 2, 3, 4, 0] rfl ?_
  exact u_m_hang_130 C CR0 E hnL hgd hgr hgs k89 hk89 _ v1 v2 v3 (0 : Int32) _ hf
theorem t_m_hang_97 {G : Cx} (C : CX G prog_14_method_74_code "PaperStarsModel") (CR0 : CR G (Option.some FieldType.int)) (E : LAin (gly G)) (hnL : gnL G = 5) (hgd : 4 ≤ gd G) {q : Int32 × Mm} (hgr : gr G = some (.int q.1)) (hgs : gsf G = q.2) (k89 : Int32 → Int32 → Int32 → Mm → Option (Int32 × Mm)) (k97 : Int32 → Int32 → Int32 → Int32 → Mm → Option (Int32 × Mm)) (hk89 : ∀ (v1 : Int32) (v2 : Int32) (v3 : Int32) (st : Mm), k89 v1 v2 v3 st = some q → AW G st 89 [(0, .ref (gad G 58)), (1, .int v1), (2, .int v2), (3, .int v3)] []) (hk97 : ∀ (v1 : Int32) (v2 : Int32) (v3 : Int32) (v4 : Int32) (st : Mm), k97 v1 v2 v3 v4 st = some q → AW G st 97 [(0, .ref (gad G 58)), (1, .int v1), (2, .int v2), (3, .int v3), (4, .int v4)] []) (v1 : Int32) (v2 : Int32) (v3 : Int32) (v4 : Int32) (st : Mm) (hf : b_m_hang_97 k89 k97 v1 v2 v3 v4 st = some q) : AW G st 97 [(0, .ref (gad G 58)), (1, .int v1), (2, .int v2), (3, .int v3), (4, .int v4)] [] := by
  unfold b_m_hang_97 at hf
  refine aw_iload C 4 4 rfl (by decide +kernel) rfl ?_
  refine aw_sipush C (i0 := 256) (v := 256) (by decide) (by decide +kernel) rfl ?_
  refine aw_icmp_ge C (tgt := 127) (off := 25) (by decide +kernel) (by decide) rfl (fun c1 => ?_) (fun c1 => ?_)
  · have hf := ift c1 hf
    refine aw_sub [(0, .ref (gad G 58)), (1, .int v1), (2, .int v2), (3, .int v3)] [0, 1, 2, 3] rfl ?_
    exact t_m_hang_127 C CR0 E hnL hgd hgr hgs k89 hk89 v1 v2 v3 _ hf
  · have hf := iff_ c1 hf
    refine aw_aload_n C 0 0 (j := 0) rfl rfl (by decide +kernel) rfl ?_
    refine aw_getr C (k := 42) fc_12 (la_58 E) rfl (by decide) tb_984 (by decide +kernel) rfl ?_
    refine aw_sipush C (i0 := 256) (v := 256) (by decide) (by decide +kernel) rfl ?_
    refine aw_iload_n C 3 3 (j := 3) rfl rfl (by decide +kernel) rfl ?_
    refine aw_imul C (by decide +kernel) rfl ?_
    refine aw_iload C 4 4 rfl (by decide +kernel) rfl ?_
    refine aw_iadd C (by decide +kernel) rfl ?_
    refine aw_ldcw C tb_1400 (by decide +kernel) rfl ?_
    obtain ⟨g2, hf⟩ := igd hf
    refine aw_iast C (la_75 E) g2 (by decide +kernel) rfl ?_
    obtain ⟨a3, ha3⟩ : ∃ z, z = (v4 + (1 : Int32)) := ⟨_, rfl⟩
    have hf := ilt ha3 hf
    refine aw_iinc C [(4, .int a3), (0, .ref (gad G 58)), (1, .int v1), (2, .int v2), (3, .int v3)] 4 (n := 1) rfl (by rw [ha3]; rfl) (by rw [hnL]; decide) rfl (by decide +kernel) rfl ?_
    refine aw_goto C (tgt := 97) (off := -27) (by decide +kernel) (by decide) ?_
    refine aw_sub [(0, .ref (gad G 58)), (1, .int v1), (2, .int v2), (3, .int v3), (4, .int a3)] [1, 2, 3, 4, 0] rfl ?_
    exact hk97 v1 v2 v3 a3 _ hf
theorem u_m_hang_97 {G : Cx} (C : CX G prog_14_method_74_code "PaperStarsModel") (CR0 : CR G (Option.some FieldType.int)) (E : LAin (gly G)) (hnL : gnL G = 5) (hgd : 4 ≤ gd G) {q : Int32 × Mm} (hgr : gr G = some (.int q.1)) (hgs : gsf G = q.2) (k89 : Int32 → Int32 → Int32 → Mm → Option (Int32 × Mm)) (hk89 : ∀ (v1 : Int32) (v2 : Int32) (v3 : Int32) (st : Mm), k89 v1 v2 v3 st = some q → AW G st 89 [(0, .ref (gad G 58)), (1, .int v1), (2, .int v2), (3, .int v3)] []) : ∀ (n : Nat) (v1 : Int32) (v2 : Int32) (v3 : Int32) (v4 : Int32) (st : Mm), f_m_hang_97 k89 n v1 v2 v3 v4 st = some q → AW G st 97 [(0, .ref (gad G 58)), (1, .int v1), (2, .int v2), (3, .int v3), (4, .int v4)] [] := by
  intro n
  induction n with
  | zero => intro v1 v2 v3 v4 st hf; cases hf
  | succ n ih => intro v1 v2 v3 v4 st hf; exact t_m_hang_97 C CR0 E hnL hgd hgr hgs k89 (f_m_hang_97 k89 n) hk89 ih v1 v2 v3 v4 st hf
theorem t_m_hang_224 {G : Cx} (C : CX G prog_14_method_74_code "PaperStarsModel") (CR0 : CR G (Option.some FieldType.int)) (E : LAin (gly G)) (hnL : gnL G = 5) (hgd : 4 ≤ gd G) {q : Int32 × Mm} (hgr : gr G = some (.int q.1)) (hgs : gsf G = q.2) (v3 : Int32) (st : Mm) (hf : b_m_hang_224 v3 st = some q) : AW G st 224 [(3, .int v3)] [] := by
  unfold b_m_hang_224 at hf
  refine aw_iload_n C 3 0 (j := 3) rfl rfl (by decide +kernel) rfl ?_
  refine aw_ldcw C tb_1400 (by decide +kernel) rfl ?_
  refine aw_icmp_lt C (tgt := 236) (off := 8) (by decide +kernel) (by decide) rfl (fun c1 => ?_) (fun c1 => ?_)
  · have hf := ift c1 hf
    refine aw_iload_n C 3 0 (j := 3) rfl rfl (by decide +kernel) rfl ?_
    exact aw_iretq C CR0 hgr hgs hf (by decide +kernel)
  · have hf := iff_ c1 hf
    refine aw_bipush C (i0 := -2) (v := -2) (by decide) (by decide +kernel) rfl ?_
    refine aw_goto C (tgt := 237) (off := 4) (by decide +kernel) (by decide) ?_
    exact aw_iretq C CR0 hgr hgs hf (by decide +kernel)
theorem t_m_hang_192 {G : Cx} (C : CX G prog_14_method_74_code "PaperStarsModel") (CR0 : CR G (Option.some FieldType.int)) (E : LAin (gly G)) (hnL : gnL G = 5) (hgd : 4 ≤ gd G) {q : Int32 × Mm} (hgr : gr G = some (.int q.1)) (hgs : gsf G = q.2) (k192 : Int32 → Int32 → Int32 → Mm → Option (Int32 × Mm)) (hk192 : ∀ (v2 : Int32) (v3 : Int32) (v4 : Int32) (st : Mm), k192 v2 v3 v4 st = some q → AW G st 192 [(0, .ref (gad G 58)), (2, .int v2), (3, .int v3), (4, .int v4)] []) (v2 : Int32) (v3 : Int32) (v4 : Int32) (st : Mm) (hf : b_m_hang_192 k192 v2 v3 v4 st = some q) : AW G st 192 [(0, .ref (gad G 58)), (2, .int v2), (3, .int v3), (4, .int v4)] [] := by
  unfold b_m_hang_192 at hf
  refine aw_iload C 4 3 rfl (by decide +kernel) rfl ?_
  refine aw_sipush C (i0 := 256) (v := 256) (by decide) (by decide +kernel) rfl ?_
  refine aw_icmp_ge C (tgt := 224) (off := 27) (by decide +kernel) (by decide) rfl (fun c1 => ?_) (fun c1 => ?_)
  · have hf := ift c1 hf
    refine aw_sub [(3, .int v3)] [2] rfl ?_
    exact t_m_hang_224 C CR0 E hnL hgd hgr hgs v3 _ hf
  · have hf := iff_ c1 hf
    refine aw_iload_n C 3 2 (j := 3) rfl rfl (by decide +kernel) rfl ?_
    refine aw_aload_n C 0 0 (j := 0) rfl rfl (by decide +kernel) rfl ?_
    refine aw_getr C (k := 42) fc_12 (la_58 E) rfl (by decide) tb_984 (by decide +kernel) rfl ?_
    refine aw_sipush C (i0 := 256) (v := 256) (by decide) (by decide +kernel) rfl ?_
    refine aw_iload_n C 2 1 (j := 2) rfl rfl (by decide +kernel) rfl ?_
    refine aw_imul C (by decide +kernel) rfl ?_
    refine aw_iload C 4 3 rfl (by decide +kernel) rfl ?_
    refine aw_iadd C (by decide +kernel) rfl ?_
    obtain ⟨g2, hf⟩ := igd hf
    refine aw_iald C (la_75 E) g2 (by decide +kernel) rfl ?_
    obtain ⟨q3, hq3, hf⟩ := ibd hf
    refine aw_callS C (rest := []) (c_m_min E v3 (st.1 75 (((256 : Int32) * v2) + v4).toNatClampNeg) _ q3 hq3) tb_1412 yf_210 tb_1413 rfl _ rfl (Nat.le_trans (by decide) hgd) (Nat.le_of_ble_eq_true rfl) (by decide +kernel) rfl ?_
    show AW _ _ _ _ [.int q3.1]
    refine aw_istore_n C [(3, .int q3.1), (0, .ref (gad G 58)), (2, .int v2), (4, .int v4)] (j := 3) rfl (by rw [hnL]; decide) rfl (by decide +kernel) rfl ?_
    obtain ⟨a4, ha4⟩ : ∃ z, z = (v4 + (1 : Int32)) := ⟨_, rfl⟩
    have hf := ilt ha4 hf
    refine aw_iinc C [(4, .int a4), (3, .int q3.1), (0, .ref (gad G 58)), (2, .int v2)] 3 (n := 1) rfl (by rw [ha4]; rfl) (by rw [hnL]; decide) rfl (by decide +kernel) rfl ?_
    refine aw_goto C (tgt := 192) (off := -29) (by decide +kernel) (by decide) ?_
    refine aw_sub [(0, .ref (gad G 58)), (2, .int v2), (3, .int q3.1), (4, .int a4)] [2, 3, 1, 0] rfl ?_
    exact hk192 v2 q3.1 a4 _ hf
theorem u_m_hang_192 {G : Cx} (C : CX G prog_14_method_74_code "PaperStarsModel") (CR0 : CR G (Option.some FieldType.int)) (E : LAin (gly G)) (hnL : gnL G = 5) (hgd : 4 ≤ gd G) {q : Int32 × Mm} (hgr : gr G = some (.int q.1)) (hgs : gsf G = q.2) : ∀ (n : Nat) (v2 : Int32) (v3 : Int32) (v4 : Int32) (st : Mm), f_m_hang_192 n v2 v3 v4 st = some q → AW G st 192 [(0, .ref (gad G 58)), (2, .int v2), (3, .int v3), (4, .int v4)] [] := by
  intro n
  induction n with
  | zero => intro v2 v3 v4 st hf; cases hf
  | succ n ih => intro v2 v3 v4 st hf; exact t_m_hang_192 C CR0 E hnL hgd hgr hgs (f_m_hang_192 n) ih v2 v3 v4 st hf
theorem t_m_hang_185 {G : Cx} (C : CX G prog_14_method_74_code "PaperStarsModel") (CR0 : CR G (Option.some FieldType.int)) (E : LAin (gly G)) (hnL : gnL G = 5) (hgd : 4 ≤ gd G) {q : Int32 × Mm} (hgr : gr G = some (.int q.1)) (hgs : gsf G = q.2) (v2 : Int32) (st : Mm) (hf : b_m_hang_185 v2 st = some q) : AW G st 185 [(0, .ref (gad G 58)), (2, .int v2)] [] := by
  unfold b_m_hang_185 at hf
  refine aw_ldcw C tb_1400 (by decide +kernel) rfl ?_
  refine aw_istore_n C [(3, .int (1000000000 : Int32)), (0, .ref (gad G 58)), (2, .int v2)] (j := 3) rfl (by rw [hnL]; decide) rfl (by decide +kernel) rfl ?_
  refine aw_iconst C (i0 := 0) (v := 0) (by decide) (by decide +kernel) rfl ?_
  refine aw_istore C [(4, .int (0 : Int32)), (3, .int (1000000000 : Int32)), (0, .ref (gad G 58)), (2, .int v2)] (by rw [hnL]; decide) rfl (by decide +kernel) rfl ?_
  refine aw_sub [(0, .ref (gad G 58)), (2, .int v2), (3, .int (1000000000 : Int32)), (4, .int (0 : Int32))] [2, 3, 1, 0] rfl ?_
  exact u_m_hang_192 C CR0 E hnL hgd hgr hgs _ v2 (1000000000 : Int32) (0 : Int32) _ hf
theorem t_m_hang_89 {G : Cx} (C : CX G prog_14_method_74_code "PaperStarsModel") (CR0 : CR G (Option.some FieldType.int)) (E : LAin (gly G)) (hnL : gnL G = 5) (hgd : 4 ≤ gd G) {q : Int32 × Mm} (hgr : gr G = some (.int q.1)) (hgs : gsf G = q.2) (k89 : Int32 → Int32 → Int32 → Mm → Option (Int32 × Mm)) (hk89 : ∀ (v1 : Int32) (v2 : Int32) (v3 : Int32) (st : Mm), k89 v1 v2 v3 st = some q → AW G st 89 [(0, .ref (gad G 58)), (1, .int v1), (2, .int v2), (3, .int v3)] []) (v1 : Int32) (v2 : Int32) (v3 : Int32) (st : Mm) (hf : b_m_hang_89 k89 v1 v2 v3 st = some q) : AW G st 89 [(0, .ref (gad G 58)), (1, .int v1), (2, .int v2), (3, .int v3)] [] := by
  unfold b_m_hang_89 at hf
  refine aw_iload_n C 3 3 (j := 3) rfl rfl (by decide +kernel) rfl ?_
  refine aw_iload_n C 2 2 (j := 2) rfl rfl (by decide +kernel) rfl ?_
  refine aw_icmp_gt C (tgt := 185) (off := 94) (by decide +kernel) (by decide) rfl (fun c1 => ?_) (fun c1 => ?_)
  · have hf := ift c1 hf
    refine aw_sub [(0, .ref (gad G 58)), (2, .int v2)] [0, 2] rfl ?_
    exact t_m_hang_185 C CR0 E hnL hgd hgr hgs v2 _ hf
  · have hf := iff_ c1 hf
    refine aw_iconst C (i0 := 0) (v := 0) (by decide) (by decide +kernel) rfl ?_
    refine aw_istore C [(4, .int (0 : Int32)), (0, .ref (gad G 58)), (1, .int v1), (2, .int v2), (3, .int v3)] (by rw [hnL]; decide) rfl (by decide +kernel) rfl ?_
    refine aw_sub [(0, .ref (gad G 58)), (1, .int v1), (2, .int v2), (3, .int v3), (4, .int (0 : Int32))] [1, 2, 3, 4, 0] rfl ?_
    exact u_m_hang_97 C CR0 E hnL hgd hgr hgs k89 hk89 _ v1 v2 v3 (0 : Int32) _ hf
theorem u_m_hang_89 {G : Cx} (C : CX G prog_14_method_74_code "PaperStarsModel") (CR0 : CR G (Option.some FieldType.int)) (E : LAin (gly G)) (hnL : gnL G = 5) (hgd : 4 ≤ gd G) {q : Int32 × Mm} (hgr : gr G = some (.int q.1)) (hgs : gsf G = q.2) : ∀ (n : Nat) (v1 : Int32) (v2 : Int32) (v3 : Int32) (st : Mm), f_m_hang_89 n v1 v2 v3 st = some q → AW G st 89 [(0, .ref (gad G 58)), (1, .int v1), (2, .int v2), (3, .int v3)] [] := by
  intro n
  induction n with
  | zero => intro v1 v2 v3 st hf; cases hf
  | succ n ih => intro v1 v2 v3 st hf; exact t_m_hang_89 C CR0 E hnL hgd hgr hgs (f_m_hang_89 n) ih v1 v2 v3 st hf
theorem t_m_hang_81 {G : Cx} (C : CX G prog_14_method_74_code "PaperStarsModel") (CR0 : CR G (Option.some FieldType.int)) (E : LAin (gly G)) (hnL : gnL G = 5) (hgd : 4 ≤ gd G) {q : Int32 × Mm} (hgr : gr G = some (.int q.1)) (hgs : gsf G = q.2) (v1 : Int32) (st : Mm) (hf : b_m_hang_81 v1 st = some q) : AW G st 81 [(0, .ref (gad G 58)), (1, .int v1)] [] := by
  unfold b_m_hang_81 at hf
  refine aw_iconst C (i0 := 1) (v := 1) (by decide) (by decide +kernel) rfl ?_
  refine aw_iload_n C 1 1 (j := 1) rfl rfl (by decide +kernel) rfl ?_
  refine aw_ishl C (by decide +kernel) rfl ?_
  refine aw_iconst C (i0 := 1) (v := 1) (by decide) (by decide +kernel) rfl ?_
  refine aw_isub C (by decide +kernel) rfl ?_
  obtain ⟨a1, ha1⟩ : ∃ z, z = (((1 : Int32) <<< (v1 &&& 31)) - (1 : Int32)) := ⟨_, rfl⟩
  refine aw_nmi ha1 ?_
  have hf := ilt ha1 hf
  refine aw_istore_n C [(2, .int a1), (0, .ref (gad G 58)), (1, .int v1)] (j := 2) rfl (by rw [hnL]; decide) rfl (by decide +kernel) rfl ?_
  refine aw_iconst C (i0 := 1) (v := 1) (by decide) (by decide +kernel) rfl ?_
  refine aw_istore_n C [(3, .int (1 : Int32)), (2, .int a1), (0, .ref (gad G 58)), (1, .int v1)] (j := 3) rfl (by rw [hnL]; decide) rfl (by decide +kernel) rfl ?_
  refine aw_sub [(0, .ref (gad G 58)), (1, .int v1), (2, .int a1), (3, .int (1 : Int32))] [2, 3, 1, 0] rfl ?_
  exact u_m_hang_89 C CR0 E hnL hgd hgr hgs _ v1 a1 (1 : Int32) _ hf
theorem t_m_hang_35 {G : Cx} (C : CX G prog_14_method_74_code "PaperStarsModel") (CR0 : CR G (Option.some FieldType.int)) (E : LAin (gly G)) (hnL : gnL G = 5) (hgd : 4 ≤ gd G) {q : Int32 × Mm} (hgr : gr G = some (.int q.1)) (hgs : gsf G = q.2) (k35 : Int32 → Int32 → Mm → Option (Int32 × Mm)) (hk35 : ∀ (v1 : Int32) (v2 : Int32) (st : Mm), k35 v1 v2 st = some q → AW G st 35 [(0, .ref (gad G 58)), (1, .int v1), (2, .int v2)] []) (v1 : Int32) (v2 : Int32) (st : Mm) (hf : b_m_hang_35 k35 v1 v2 st = some q) : AW G st 35 [(0, .ref (gad G 58)), (1, .int v1), (2, .int v2)] [] := by
  unfold b_m_hang_35 at hf
  refine aw_iload_n C 2 2 (j := 2) rfl rfl (by decide +kernel) rfl ?_
  refine aw_sipush C (i0 := 256) (v := 256) (by decide) (by decide +kernel) rfl ?_
  refine aw_icmp_ge C (tgt := 81) (off := 42) (by decide +kernel) (by decide) rfl (fun c1 => ?_) (fun c1 => ?_)
  · have hf := ift c1 hf
    refine aw_sub [(0, .ref (gad G 58)), (1, .int v1)] [0, 1] rfl ?_
    exact t_m_hang_81 C CR0 E hnL hgd hgr hgs v1 _ hf
  · have hf := iff_ c1 hf
    refine aw_aload_n C 0 0 (j := 0) rfl rfl (by decide +kernel) rfl ?_
    refine aw_getr C (k := 36) fc_12 (la_58 E) rfl (by decide) tb_978 (by decide +kernel) rfl ?_
    refine aw_iload_n C 2 2 (j := 2) rfl rfl (by decide +kernel) rfl ?_
    obtain ⟨g2, hf⟩ := igd hf
    refine aw_zald C (la_72 E) g2 (by decide +kernel) rfl ?_
    refine aw_if_eq C (tgt := 75) (off := 27) (by decide +kernel) (by decide) rfl (fun c3 => ?_) (fun c3 => ?_)
    · have hf := ift c3 hf
      obtain ⟨a4, ha4⟩ : ∃ z, z = (v2 + (1 : Int32)) := ⟨_, rfl⟩
      have hf := ilt ha4 hf
      refine aw_iinc C [(2, .int a4), (0, .ref (gad G 58)), (1, .int v1)] 2 (n := 1) rfl (by rw [ha4]; rfl) (by rw [hnL]; decide) rfl (by decide +kernel) rfl ?_
      refine aw_goto C (tgt := 35) (off := -43) (by decide +kernel) (by decide) ?_
      refine aw_sub [(0, .ref (gad G 58)), (1, .int v1), (2, .int a4)] [1, 2, 0] rfl ?_
      exact hk35 v1 a4 _ hf
    · have hf := iff_ c3 hf
      refine aw_aload_n C 0 0 (j := 0) rfl rfl (by decide +kernel) rfl ?_
      refine aw_getr C (k := 37) fc_12 (la_58 E) rfl (by decide) tb_979 (by decide +kernel) rfl ?_
      refine aw_iload_n C 2 2 (j := 2) rfl rfl (by decide +kernel) rfl ?_
      obtain ⟨g5, hf⟩ := igd hf
      refine aw_iald C (la_73 E) g5 (by decide +kernel) rfl ?_
      refine aw_iload_n C 2 2 (j := 2) rfl rfl (by decide +kernel) rfl ?_
      refine aw_icmp_eq C (tgt := 64) (off := 6) (by decide +kernel) (by decide) rfl (fun c6 => ?_) (fun c6 => ?_)
      · have hf := ift c6 hf
        refine aw_aload_n C 0 0 (j := 0) rfl rfl (by decide +kernel) rfl ?_
        refine aw_getr C (k := 43) fc_12 (la_58 E) rfl (by decide) tb_985 (by decide +kernel) rfl ?_
        refine aw_iload_n C 1 1 (j := 1) rfl rfl (by decide +kernel) rfl ?_
        refine aw_iload_n C 2 2 (j := 2) rfl rfl (by decide +kernel) rfl ?_
        obtain ⟨g7, hf⟩ := igd hf
        refine aw_iast C (la_76 E) g7 (by decide +kernel) rfl ?_
        refine aw_iload_n C 1 1 (j := 1) rfl rfl (by decide +kernel) rfl ?_
        refine aw_iconst C (i0 := 1) (v := 1) (by decide) (by decide +kernel) rfl ?_
        refine aw_iadd C (by decide +kernel) rfl ?_
        obtain ⟨a8, ha8⟩ : ∃ z, z = (v1 + (1 : Int32)) := ⟨_, rfl⟩
        refine aw_nmi ha8 ?_
        have hf := ilt ha8 hf
        refine aw_istore_n C [(1, .int a8), (0, .ref (gad G 58)), (2, .int v2)] (j := 1) rfl (by rw [hnL]; decide) rfl (by decide +kernel) rfl ?_
        obtain ⟨a9, ha9⟩ : ∃ z, z = (v2 + (1 : Int32)) := ⟨_, rfl⟩
        have hf := ilt ha9 hf
        refine aw_iinc C [(2, .int a9), (1, .int a8), (0, .ref (gad G 58))] 2 (n := 1) rfl (by rw [ha9]; rfl) (by rw [hnL]; decide) rfl (by decide +kernel) rfl ?_
        refine aw_goto C (tgt := 35) (off := -43) (by decide +kernel) (by decide) ?_
        refine aw_sub [(0, .ref (gad G 58)), (1, .int a8), (2, .int a9)] [2, 1, 0] rfl ?_
        exact hk35 a8 a9 _ hf
      · have hf := iff_ c6 hf
        refine aw_goto C (tgt := 75) (off := 14) (by decide +kernel) (by decide) ?_
        obtain ⟨a10, ha10⟩ : ∃ z, z = (v2 + (1 : Int32)) := ⟨_, rfl⟩
        have hf := ilt ha10 hf
        refine aw_iinc C [(2, .int a10), (0, .ref (gad G 58)), (1, .int v1)] 2 (n := 1) rfl (by rw [ha10]; rfl) (by rw [hnL]; decide) rfl (by decide +kernel) rfl ?_
        refine aw_goto C (tgt := 35) (off := -43) (by decide +kernel) (by decide) ?_
        refine aw_sub [(0, .ref (gad G 58)), (1, .int v1), (2, .int a10)] [1, 2, 0] rfl ?_
        exact hk35 v1 a10 _ hf
theorem u_m_hang_35 {G : Cx} (C : CX G prog_14_method_74_code "PaperStarsModel") (CR0 : CR G (Option.some FieldType.int)) (E : LAin (gly G)) (hnL : gnL G = 5) (hgd : 4 ≤ gd G) {q : Int32 × Mm} (hgr : gr G = some (.int q.1)) (hgs : gsf G = q.2) : ∀ (n : Nat) (v1 : Int32) (v2 : Int32) (st : Mm), f_m_hang_35 n v1 v2 st = some q → AW G st 35 [(0, .ref (gad G 58)), (1, .int v1), (2, .int v2)] [] := by
  intro n
  induction n with
  | zero => intro v1 v2 st hf; cases hf
  | succ n ih => intro v1 v2 st hf; exact t_m_hang_35 C CR0 E hnL hgd hgr hgs (f_m_hang_35 n) ih v1 v2 st hf
theorem t_m_hang {G : Cx} (C : CX G prog_14_method_74_code "PaperStarsModel") (CR0 : CR G (Option.some FieldType.int)) (E : LAin (gly G)) (hnL : gnL G = 5) (hgd : 4 ≤ gd G) {q : Int32 × Mm} (hgr : gr G = some (.int q.1)) (hgs : gsf G = q.2) (st : Mm) (hf : f_m_hang st = some q) : AW G st 0 [(0, .ref (gad G 58))] [] := by
  unfold f_m_hang at hf
  refine aw_aload_n C 0 0 (j := 0) rfl rfl (by decide +kernel) rfl ?_
  refine aw_iconst C (i0 := 0) (v := 0) (by decide) (by decide +kernel) rfl ?_
  obtain ⟨q1, hq1, hf⟩ := ibd hf
  refine aw_callV C (rest := []) (c_m_opens0 E (0 : Int32) _ q1 hq1) tb_1332 yf_190 yi_190 (la_58 E) [.int (0 : Int32)] rfl rfl _ rfl (Nat.le_trans (by decide) hgd) (Nat.le_of_ble_eq_true rfl) (by decide +kernel) rfl ?_
  show AW _ _ _ _ []
  refine aw_aload_n C 0 0 (j := 0) rfl rfl (by decide +kernel) rfl ?_
  obtain ⟨q2, hq2, hf⟩ := ibd hf
  refine aw_callV C (rest := []) (c_m_laysPieces E _ q2 hq2) tb_1344 yf_193 yi_193 (la_58 E) [] rfl rfl _ rfl (Nat.le_trans (by decide) hgd) (Nat.le_of_ble_eq_true rfl) (by decide +kernel) rfl ?_
  show AW _ _ _ _ []
  refine aw_aload_n C 0 0 (j := 0) rfl rfl (by decide +kernel) rfl ?_
  refine aw_get C (k := 39) fc_12 (la_58 E) rfl (by decide) tb_981 (by decide +kernel) rfl ?_
  refine aw_iconst C (i0 := 2) (v := 2) (by decide) (by decide +kernel) rfl ?_
  refine aw_icmp_ge C (tgt := 19) (off := 5) (by decide +kernel) (by decide) rfl (fun c3 => ?_) (fun c3 => ?_)
  · have hf := ift c3 hf
    refine aw_aload_n C 0 0 (j := 0) rfl rfl (by decide +kernel) rfl ?_
    refine aw_get C (k := 39) fc_12 (la_58 E) rfl (by decide) tb_981 (by decide +kernel) rfl ?_
    refine aw_bipush C (i0 := 6) (v := 6) (by decide) (by decide +kernel) rfl ?_
    refine aw_icmp_le C (tgt := 31) (off := 6) (by decide +kernel) (by decide) rfl (fun c4 => ?_) (fun c4 => ?_)
    · have hf := ift c4 hf
      refine aw_iconst C (i0 := 0) (v := 0) (by decide) (by decide +kernel) rfl ?_
      refine aw_istore_n C [(1, .int (0 : Int32)), (0, .ref (gad G 58))] (j := 1) rfl (by rw [hnL]; decide) rfl (by decide +kernel) rfl ?_
      refine aw_iconst C (i0 := 0) (v := 0) (by decide) (by decide +kernel) rfl ?_
      refine aw_istore_n C [(2, .int (0 : Int32)), (1, .int (0 : Int32)), (0, .ref (gad G 58))] (j := 2) rfl (by rw [hnL]; decide) rfl (by decide +kernel) rfl ?_
      refine aw_sub [(0, .ref (gad G 58)), (1, .int (0 : Int32)), (2, .int (0 : Int32))] [2, 1, 0] rfl ?_
      exact u_m_hang_35 C CR0 E hnL hgd hgr hgs _ (0 : Int32) (0 : Int32) _ hf
    · have hf := iff_ c4 hf
      refine aw_bipush C (i0 := -3) (v := -3) (by decide) (by decide +kernel) rfl ?_
      exact aw_iretq C CR0 hgr hgs hf (by decide +kernel)
  · have hf := iff_ c3 hf
    refine aw_iconst C (i0 := 0) (v := 0) (by decide) (by decide +kernel) rfl ?_
    exact aw_iretq C CR0 hgr hgs hf (by decide +kernel)
theorem c_m_hang {lay : Ly} (E : LAin lay) (st : Mm) (q : Int32 × Mm) (hf : f_m_hang st = some q) : Con 4 Y206 prog_14_method_74_code 5 (Option.some FieldType.int) lay (fun ad => [.ref (ad 58)]) st (some (.int q.1)) q.2 :=
  am_met yf_206.2.2.2.2.2 (fun ad => Nat.le_of_ble_eq_true rfl) (fun G C CR0 e1 e2 e3 e4 e5 => t_m_hang C CR0 (by rw [e1]; exact E) e2 (Nat.le_of_eq e5.symm) e3 e4 st hf)
def f_m_want (v1 : Int32) (v2 : Int32) (st : Mm) : Option (Int32 × Mm) :=
  (f_m_in v1 (0 : Int32) ((st.1 58 0) - (1 : Int32)) st).bind (fun q1 => if q1.1 = 0 then (some ((0 : Int32), q1.2)) else ((f_m_in v2 (0 : Int32) (((1 : Int32) <<< ((q1.2.1 58 0) &&& 31)) - (1 : Int32)) q1.2).bind (fun q3 => if q3.1 = 0 then (some ((0 : Int32), q3.2)) else (if inb v1 16 then some ((1 : Int32), (sI q3.2 60 v1.toNatClampNeg v2)) else none))))
theorem t_m_want {G : Cx} (C : CX G prog_14_method_76_code "PaperStarsModel") (CR0 : CR G (Option.some FieldType.boolean)) (E : LAin (gly G)) (hnL : gnL G = 3) (hgd : 1 ≤ gd G) {q : Int32 × Mm} (hgr : gr G = some (.int q.1)) (hgs : gsf G = q.2) (v1 : Int32) (v2 : Int32) (st : Mm) (hf : f_m_want v1 v2 st = some q) : AW G st 0 [(0, .ref (gad G 58)), (1, .int v1), (2, .int v2)] [] := by
  unfold f_m_want at hf
  refine aw_iload_n C 1 1 (j := 1) rfl rfl (by decide +kernel) rfl ?_
  refine aw_iconst C (i0 := 0) (v := 0) (by decide) (by decide +kernel) rfl ?_
  refine aw_aload_n C 0 0 (j := 0) rfl rfl (by decide +kernel) rfl ?_
  refine aw_get C (k := 0) fc_12 (la_58 E) rfl (by decide) tb_942 (by decide +kernel) rfl ?_
  refine aw_iconst C (i0 := 1) (v := 1) (by decide) (by decide +kernel) rfl ?_
  refine aw_isub C (by decide +kernel) rfl ?_
  obtain ⟨q1, hq1, hf⟩ := ibd hf
  refine aw_callS C (rest := []) (c_m_in E v1 (0 : Int32) ((st.1 58 0) - (1 : Int32)) _ q1 hq1) tb_1144 yf_142 tb_1145 rfl _ rfl (Nat.le_trans (by decide) hgd) (Nat.le_of_ble_eq_true rfl) (by decide +kernel) rfl ?_
  show AW _ _ _ _ [.int q1.1]
  refine aw_if_eq C (tgt := 30) (off := 19) (by decide +kernel) (by decide) rfl (fun c2 => ?_) (fun c2 => ?_)
  · have hf := ift c2 hf
    refine aw_iconst C (i0 := 0) (v := 0) (by decide) (by decide +kernel) rfl ?_
    exact aw_zretq C CR0 hgr hgs (by decide) hf (by decide +kernel)
  · have hf := iff_ c2 hf
    refine aw_iload_n C 2 2 (j := 2) rfl rfl (by decide +kernel) rfl ?_
    refine aw_iconst C (i0 := 0) (v := 0) (by decide) (by decide +kernel) rfl ?_
    refine aw_iconst C (i0 := 1) (v := 1) (by decide) (by decide +kernel) rfl ?_
    refine aw_aload_n C 0 0 (j := 0) rfl rfl (by decide +kernel) rfl ?_
    refine aw_get C (k := 0) fc_12 (la_58 E) rfl (by decide) tb_942 (by decide +kernel) rfl ?_
    refine aw_ishl C (by decide +kernel) rfl ?_
    refine aw_iconst C (i0 := 1) (v := 1) (by decide) (by decide +kernel) rfl ?_
    refine aw_isub C (by decide +kernel) rfl ?_
    obtain ⟨q3, hq3, hf⟩ := ibd hf
    refine aw_callS C (rest := []) (c_m_in E v2 (0 : Int32) (((1 : Int32) <<< ((q1.2.1 58 0) &&& 31)) - (1 : Int32)) _ q3 hq3) tb_1144 yf_142 tb_1145 rfl _ rfl (Nat.le_trans (by decide) hgd) (Nat.le_of_ble_eq_true rfl) (by decide +kernel) rfl ?_
    show AW _ _ _ _ [.int q3.1]
    refine aw_if_ne C (tgt := 32) (off := 5) (by decide +kernel) (by decide) rfl (fun c4 => ?_) (fun c4 => ?_)
    · have hf := ift c4 hf
      refine aw_iconst C (i0 := 0) (v := 0) (by decide) (by decide +kernel) rfl ?_
      exact aw_zretq C CR0 hgr hgs (by decide) hf (by decide +kernel)
    · have hf := iff_ c4 hf
      refine aw_aload_n C 0 0 (j := 0) rfl rfl (by decide +kernel) rfl ?_
      refine aw_getr C (k := 5) fc_12 (la_58 E) rfl (by decide) tb_947 (by decide +kernel) rfl ?_
      refine aw_iload_n C 1 1 (j := 1) rfl rfl (by decide +kernel) rfl ?_
      refine aw_iload_n C 2 2 (j := 2) rfl rfl (by decide +kernel) rfl ?_
      obtain ⟨g5, hf⟩ := igd hf
      refine aw_iast C (la_60 E) g5 (by decide +kernel) rfl ?_
      refine aw_iconst C (i0 := 1) (v := 1) (by decide) (by decide +kernel) rfl ?_
      exact aw_zretq C CR0 hgr hgs (by decide) hf (by decide +kernel)
theorem c_m_want {lay : Ly} (E : LAin lay) (v1 : Int32) (v2 : Int32) (st : Mm) (q : Int32 × Mm) (hf : f_m_want v1 v2 st = some q) : Con 1 Y212 prog_14_method_76_code 3 (Option.some FieldType.boolean) lay (fun ad => [.ref (ad 58), .int v1, .int v2]) st (some (.int q.1)) q.2 :=
  am_met yf_212.2.2.2.2.2 (fun ad => Nat.le_of_ble_eq_true rfl) (fun G C CR0 e1 e2 e3 e4 e5 => t_m_want C CR0 (by rw [e1]; exact E) e2 (Nat.le_of_eq e5.symm) e3 e4 v1 v2 st hf)
def b_m_wantOpened_68 (k7 : Int32 → Mm → Option (Int32 × Mm)) (v1 : Int32) (st : Mm) : Option (Int32 × Mm) :=
  lt_ (v1 + (1 : Int32)) (fun a1 => k7 a1 st)
def b_m_wantOpened_24 (k7 : Int32 → Mm → Option (Int32 × Mm)) (k24 : Int32 → Int32 → Mm → Option (Int32 × Mm)) (v1 : Int32) (v2 : Int32) (st : Mm) : Option (Int32 × Mm) :=
  if (st.1 58 0) ≤ v2 then (b_m_wantOpened_68 k7 v1 st) else (if inb (((16 : Int32) * v1) + v2) 256 then if (st.1 72 (((16 : Int32) * v1) + v2).toNatClampNeg) = 0 then (lt_ (v2 + (1 : Int32)) (fun a4 => k24 v1 a4 st)) else (if inb v1 16 then lt_ ((st.1 60 v1.toNatClampNeg) ||| ((1 : Int32) <<< (v2 &&& 31))) (fun a6 => if inb v1 16 then lt_ (v2 + (1 : Int32)) (fun a8 => k24 v1 a8 (sI st 60 v1.toNatClampNeg a6)) else none) else none) else none)
def f_m_wantOpened_24 (k7 : Int32 → Mm → Option (Int32 × Mm)) : Nat → Int32 → Int32 → Mm → Option (Int32 × Mm)
  | 0 => fun _ _ _ => none
  | n + 1 => b_m_wantOpened_24 k7 (f_m_wantOpened_24 k7 n)
def b_m_wantOpened_7 (k7 : Int32 → Mm → Option (Int32 × Mm)) (v1 : Int32) (st : Mm) : Option (Int32 × Mm) :=
  if (st.1 58 0) ≤ v1 then ((f_m_paperMany st).bind (fun q2 => some (q2.1, q2.2))) else (if inb v1 16 then f_m_wantOpened_24 k7 1000000 v1 (0 : Int32) (sI st 60 v1.toNatClampNeg (0 : Int32)) else none)
def f_m_wantOpened_7 : Nat → Int32 → Mm → Option (Int32 × Mm)
  | 0 => fun _ _ => none
  | n + 1 => b_m_wantOpened_7 (f_m_wantOpened_7 n)
def f_m_wantOpened (st : Mm) : Option (Int32 × Mm) :=
  (f_m_opens0 (0 : Int32) st).bind (fun q1 => f_m_wantOpened_7 1000000 (0 : Int32) q1.2)
theorem t_m_wantOpened_68 {G : Cx} (C : CX G prog_14_method_77_code "PaperStarsModel") (CR0 : CR G (Option.some FieldType.int)) (E : LAin (gly G)) (hnL : gnL G = 3) (hgd : 4 ≤ gd G) {q : Int32 × Mm} (hgr : gr G = some (.int q.1)) (hgs : gsf G = q.2) (k7 : Int32 → Mm → Option (Int32 × Mm)) (hk7 : ∀ (v1 : Int32) (st : Mm), k7 v1 st = some q → AW G st 7 [(0, .ref (gad G 58)), (1, .int v1)] []) (v1 : Int32) (st : Mm) (hf : b_m_wantOpened_68 k7 v1 st = some q) : AW G st 68 [(0, .ref (gad G 58)), (1, .int v1)] [] := by
  unfold b_m_wantOpened_68 at hf
  obtain ⟨a1, ha1⟩ : ∃ z, z = (v1 + (1 : Int32)) := ⟨_, rfl⟩
  have hf := ilt ha1 hf
  refine aw_iinc C [(1, .int a1), (0, .ref (gad G 58))] 1 (n := 1) rfl (by rw [ha1]; rfl) (by rw [hnL]; decide) rfl (by decide +kernel) rfl ?_
  refine aw_goto C (tgt := 7) (off := -64) (by decide +kernel) (by decide) ?_
  refine aw_sub [(0, .ref (gad G 58)), (1, .int a1)] [1, 0] rfl ?_
  exact hk7 a1 _ hf
theorem t_m_wantOpened_24 {G : Cx} (C : CX G prog_14_method_77_code "PaperStarsModel") (CR0 : CR G (Option.some FieldType.int)) (E : LAin (gly G)) (hnL : gnL G = 3) (hgd : 4 ≤ gd G) {q : Int32 × Mm} (hgr : gr G = some (.int q.1)) (hgs : gsf G = q.2) (k7 : Int32 → Mm → Option (Int32 × Mm)) (k24 : Int32 → Int32 → Mm → Option (Int32 × Mm)) (hk7 : ∀ (v1 : Int32) (st : Mm), k7 v1 st = some q → AW G st 7 [(0, .ref (gad G 58)), (1, .int v1)] []) (hk24 : ∀ (v1 : Int32) (v2 : Int32) (st : Mm), k24 v1 v2 st = some q → AW G st 24 [(0, .ref (gad G 58)), (1, .int v1), (2, .int v2)] []) (v1 : Int32) (v2 : Int32) (st : Mm) (hf : b_m_wantOpened_24 k7 k24 v1 v2 st = some q) : AW G st 24 [(0, .ref (gad G 58)), (1, .int v1), (2, .int v2)] [] := by
  unfold b_m_wantOpened_24 at hf
  refine aw_iload_n C 2 2 (j := 2) rfl rfl (by decide +kernel) rfl ?_
  refine aw_aload_n C 0 0 (j := 0) rfl rfl (by decide +kernel) rfl ?_
  refine aw_get C (k := 0) fc_12 (la_58 E) rfl (by decide) tb_942 (by decide +kernel) rfl ?_
  refine aw_icmp_ge C (tgt := 68) (off := 39) (by decide +kernel) (by decide) rfl (fun c1 => ?_) (fun c1 => ?_)
  · have hf := ift c1 hf
    refine aw_sub [(0, .ref (gad G 58)), (1, .int v1)] [0, 1] rfl ?_
    exact t_m_wantOpened_68 C CR0 E hnL hgd hgr hgs k7 hk7 v1 _ hf
  · have hf := iff_ c1 hf
    refine aw_aload_n C 0 0 (j := 0) rfl rfl (by decide +kernel) rfl ?_
    refine aw_getr C (k := 36) fc_12 (la_58 E) rfl (by decide) tb_978 (by decide +kernel) rfl ?_
    refine aw_bipush C (i0 := 16) (v := 16) (by decide) (by decide +kernel) rfl ?_
    refine aw_iload_n C 1 1 (j := 1) rfl rfl (by decide +kernel) rfl ?_
    refine aw_imul C (by decide +kernel) rfl ?_
    refine aw_iload_n C 2 2 (j := 2) rfl rfl (by decide +kernel) rfl ?_
    refine aw_iadd C (by decide +kernel) rfl ?_
    obtain ⟨g2, hf⟩ := igd hf
    refine aw_zald C (la_72 E) g2 (by decide +kernel) rfl ?_
    refine aw_if_eq C (tgt := 62) (off := 19) (by decide +kernel) (by decide) rfl (fun c3 => ?_) (fun c3 => ?_)
    · have hf := ift c3 hf
      obtain ⟨a4, ha4⟩ : ∃ z, z = (v2 + (1 : Int32)) := ⟨_, rfl⟩
      have hf := ilt ha4 hf
      refine aw_iinc C [(2, .int a4), (0, .ref (gad G 58)), (1, .int v1)] 2 (n := 1) rfl (by rw [ha4]; rfl) (by rw [hnL]; decide) rfl (by decide +kernel) rfl ?_
      refine aw_goto C (tgt := 24) (off := -41) (by decide +kernel) (by decide) ?_
      refine aw_sub [(0, .ref (gad G 58)), (1, .int v1), (2, .int a4)] [1, 2, 0] rfl ?_
      exact hk24 v1 a4 _ hf
    · have hf := iff_ c3 hf
      refine aw_aload_n C 0 0 (j := 0) rfl rfl (by decide +kernel) rfl ?_
      refine aw_getr C (k := 5) fc_12 (la_58 E) rfl (by decide) tb_947 (by decide +kernel) rfl ?_
      refine aw_iload_n C 1 1 (j := 1) rfl rfl (by decide +kernel) rfl ?_
      refine aw_aload_n C 0 0 (j := 0) rfl rfl (by decide +kernel) rfl ?_
      refine aw_getr C (k := 5) fc_12 (la_58 E) rfl (by decide) tb_947 (by decide +kernel) rfl ?_
      refine aw_iload_n C 1 1 (j := 1) rfl rfl (by decide +kernel) rfl ?_
      obtain ⟨g5, hf⟩ := igd hf
      refine aw_iald C (la_60 E) g5 (by decide +kernel) rfl ?_
      refine aw_iconst C (i0 := 1) (v := 1) (by decide) (by decide +kernel) rfl ?_
      refine aw_iload_n C 2 2 (j := 2) rfl rfl (by decide +kernel) rfl ?_
      refine aw_ishl C (by decide +kernel) rfl ?_
      refine aw_ior C (by decide +kernel) rfl ?_
      obtain ⟨a6, ha6⟩ : ∃ z, z = ((st.1 60 v1.toNatClampNeg) ||| ((1 : Int32) <<< (v2 &&& 31))) := ⟨_, rfl⟩
      refine aw_nmi ha6 ?_
      have hf := ilt ha6 hf
      obtain ⟨g7, hf⟩ := igd hf
      refine aw_iast C (la_60 E) g7 (by decide +kernel) rfl ?_
      obtain ⟨a8, ha8⟩ : ∃ z, z = (v2 + (1 : Int32)) := ⟨_, rfl⟩
      have hf := ilt ha8 hf
      refine aw_iinc C [(2, .int a8), (0, .ref (gad G 58)), (1, .int v1)] 2 (n := 1) rfl (by rw [ha8]; rfl) (by rw [hnL]; decide) rfl (by decide +kernel) rfl ?_
      refine aw_goto C (tgt := 24) (off := -41) (by decide +kernel) (by decide) ?_
      refine aw_sub [(0, .ref (gad G 58)), (1, .int v1), (2, .int a8)] [1, 2, 0] rfl ?_
      exact hk24 v1 a8 _ hf
theorem u_m_wantOpened_24 {G : Cx} (C : CX G prog_14_method_77_code "PaperStarsModel") (CR0 : CR G (Option.some FieldType.int)) (E : LAin (gly G)) (hnL : gnL G = 3) (hgd : 4 ≤ gd G) {q : Int32 × Mm} (hgr : gr G = some (.int q.1)) (hgs : gsf G = q.2) (k7 : Int32 → Mm → Option (Int32 × Mm)) (hk7 : ∀ (v1 : Int32) (st : Mm), k7 v1 st = some q → AW G st 7 [(0, .ref (gad G 58)), (1, .int v1)] []) : ∀ (n : Nat) (v1 : Int32) (v2 : Int32) (st : Mm), f_m_wantOpened_24 k7 n v1 v2 st = some q → AW G st 24 [(0, .ref (gad G 58)), (1, .int v1), (2, .int v2)] [] := by
  intro n
  induction n with
  | zero => intro v1 v2 st hf; cases hf
  | succ n ih => intro v1 v2 st hf; exact t_m_wantOpened_24 C CR0 E hnL hgd hgr hgs k7 (f_m_wantOpened_24 k7 n) hk7 ih v1 v2 st hf
theorem t_m_wantOpened_7 {G : Cx} (C : CX G prog_14_method_77_code "PaperStarsModel") (CR0 : CR G (Option.some FieldType.int)) (E : LAin (gly G)) (hnL : gnL G = 3) (hgd : 4 ≤ gd G) {q : Int32 × Mm} (hgr : gr G = some (.int q.1)) (hgs : gsf G = q.2) (k7 : Int32 → Mm → Option (Int32 × Mm)) (hk7 : ∀ (v1 : Int32) (st : Mm), k7 v1 st = some q → AW G st 7 [(0, .ref (gad G 58)), (1, .int v1)] []) (v1 : Int32) (st : Mm) (hf : b_m_wantOpened_7 k7 v1 st = some q) : AW G st 7 [(0, .ref (gad G 58)), (1, .int v1)] [] := by
  unfold b_m_wantOpened_7 at hf
  refine aw_iload_n C 1 1 (j := 1) rfl rfl (by decide +kernel) rfl ?_
  refine aw_aload_n C 0 0 (j := 0) rfl rfl (by decide +kernel) rfl ?_
  refine aw_get C (k := 0) fc_12 (la_58 E) rfl (by decide) tb_942 (by decide +kernel) rfl ?_
  refine aw_icmp_ge C (tgt := 74) (off := 62) (by decide +kernel) (by decide) rfl (fun c1 => ?_) (fun c1 => ?_)
  · have hf := ift c1 hf
    refine aw_aload_n C 0 0 (j := 0) rfl rfl (by decide +kernel) rfl ?_
    obtain ⟨q2, hq2, hf⟩ := ibd hf
    refine aw_callV C (rest := []) (c_m_paperMany E _ q2 hq2) tb_1360 yf_197 yi_197 (la_58 E) [] rfl rfl _ rfl (Nat.le_trans (by decide) hgd) (Nat.le_of_ble_eq_true rfl) (by decide +kernel) rfl ?_
    show AW _ _ _ _ [.int q2.1]
    exact aw_iretq C CR0 hgr hgs hf (by decide +kernel)
  · have hf := iff_ c1 hf
    refine aw_aload_n C 0 0 (j := 0) rfl rfl (by decide +kernel) rfl ?_
    refine aw_getr C (k := 5) fc_12 (la_58 E) rfl (by decide) tb_947 (by decide +kernel) rfl ?_
    refine aw_iload_n C 1 1 (j := 1) rfl rfl (by decide +kernel) rfl ?_
    refine aw_iconst C (i0 := 0) (v := 0) (by decide) (by decide +kernel) rfl ?_
    obtain ⟨g3, hf⟩ := igd hf
    refine aw_iast C (la_60 E) g3 (by decide +kernel) rfl ?_
    refine aw_iconst C (i0 := 0) (v := 0) (by decide) (by decide +kernel) rfl ?_
    refine aw_istore_n C [(2, .int (0 : Int32)), (0, .ref (gad G 58)), (1, .int v1)] (j := 2) rfl (by rw [hnL]; decide) rfl (by decide +kernel) rfl ?_
    refine aw_sub [(0, .ref (gad G 58)), (1, .int v1), (2, .int (0 : Int32))] [1, 2, 0] rfl ?_
    exact u_m_wantOpened_24 C CR0 E hnL hgd hgr hgs k7 hk7 _ v1 (0 : Int32) _ hf
theorem u_m_wantOpened_7 {G : Cx} (C : CX G prog_14_method_77_code "PaperStarsModel") (CR0 : CR G (Option.some FieldType.int)) (E : LAin (gly G)) (hnL : gnL G = 3) (hgd : 4 ≤ gd G) {q : Int32 × Mm} (hgr : gr G = some (.int q.1)) (hgs : gsf G = q.2) : ∀ (n : Nat) (v1 : Int32) (st : Mm), f_m_wantOpened_7 n v1 st = some q → AW G st 7 [(0, .ref (gad G 58)), (1, .int v1)] [] := by
  intro n
  induction n with
  | zero => intro v1 st hf; cases hf
  | succ n ih => intro v1 st hf; exact t_m_wantOpened_7 C CR0 E hnL hgd hgr hgs (f_m_wantOpened_7 n) ih v1 st hf
theorem t_m_wantOpened {G : Cx} (C : CX G prog_14_method_77_code "PaperStarsModel") (CR0 : CR G (Option.some FieldType.int)) (E : LAin (gly G)) (hnL : gnL G = 3) (hgd : 4 ≤ gd G) {q : Int32 × Mm} (hgr : gr G = some (.int q.1)) (hgs : gsf G = q.2) (st : Mm) (hf : f_m_wantOpened st = some q) : AW G st 0 [(0, .ref (gad G 58))] [] := by
  unfold f_m_wantOpened at hf
  refine aw_aload_n C 0 0 (j := 0) rfl rfl (by decide +kernel) rfl ?_
  refine aw_iconst C (i0 := 0) (v := 0) (by decide) (by decide +kernel) rfl ?_
  obtain ⟨q1, hq1, hf⟩ := ibd hf
  refine aw_callV C (rest := []) (c_m_opens0 E (0 : Int32) _ q1 hq1) tb_1332 yf_190 yi_190 (la_58 E) [.int (0 : Int32)] rfl rfl _ rfl (Nat.le_trans (by decide) hgd) (Nat.le_of_ble_eq_true rfl) (by decide +kernel) rfl ?_
  show AW _ _ _ _ []
  refine aw_iconst C (i0 := 0) (v := 0) (by decide) (by decide +kernel) rfl ?_
  refine aw_istore_n C [(1, .int (0 : Int32)), (0, .ref (gad G 58))] (j := 1) rfl (by rw [hnL]; decide) rfl (by decide +kernel) rfl ?_
  refine aw_sub [(0, .ref (gad G 58)), (1, .int (0 : Int32))] [1, 0] rfl ?_
  exact u_m_wantOpened_7 C CR0 E hnL hgd hgr hgs _ (0 : Int32) _ hf
theorem c_m_wantOpened {lay : Ly} (E : LAin lay) (st : Mm) (q : Int32 × Mm) (hf : f_m_wantOpened st = some q) : Con 4 Y213 prog_14_method_77_code 3 (Option.some FieldType.int) lay (fun ad => [.ref (ad 58)]) st (some (.int q.1)) q.2 :=
  am_met yf_213.2.2.2.2.2 (fun ad => Nat.le_of_ble_eq_true rfl) (fun G C CR0 e1 e2 e3 e4 e5 => t_m_wantOpened C CR0 (by rw [e1]; exact E) e2 (Nat.le_of_eq e5.symm) e3 e4 st hf)
def f_m_isWanted (v1 : Int32) (v2 : Int32) (st : Mm) : Option (Int32 × Mm) :=
  if inb v2 16 then (f_m_has (st.1 60 v2.toNatClampNeg) v1 st).bind (fun q2 => if q2.1 = 0 ∨ q2.1 = 1 then some (q2.1, q2.2) else none) else none
theorem t_m_isWanted {G : Cx} (C : CX G prog_14_method_75_code "PaperStarsModel") (CR0 : CR G (Option.some FieldType.boolean)) (E : LAin (gly G)) (hnL : gnL G = 3) (hgd : 1 ≤ gd G) {q : Int32 × Mm} (hgr : gr G = some (.int q.1)) (hgs : gsf G = q.2) (v1 : Int32) (v2 : Int32) (st : Mm) (hf : f_m_isWanted v1 v2 st = some q) : AW G st 0 [(0, .ref (gad G 58)), (1, .int v1), (2, .int v2)] [] := by
  unfold f_m_isWanted at hf
  refine aw_aload_n C 0 0 (j := 0) rfl rfl (by decide +kernel) rfl ?_
  refine aw_getr C (k := 5) fc_12 (la_58 E) rfl (by decide) tb_947 (by decide +kernel) rfl ?_
  refine aw_iload_n C 2 2 (j := 2) rfl rfl (by decide +kernel) rfl ?_
  obtain ⟨g1, hf⟩ := igd hf
  refine aw_iald C (la_60 E) g1 (by decide +kernel) rfl ?_
  refine aw_iload_n C 1 1 (j := 1) rfl rfl (by decide +kernel) rfl ?_
  obtain ⟨q2, hq2, hf⟩ := ibd hf
  refine aw_callS C (rest := []) (c_m_has E (st.1 60 v2.toNatClampNeg) v1 _ q2 hq2) tb_1195 yf_155 tb_1196 rfl _ rfl (Nat.le_trans (by decide) hgd) (Nat.le_of_ble_eq_true rfl) (by decide +kernel) rfl ?_
  show AW _ _ _ _ [.int q2.1]
  obtain ⟨g3, hf⟩ := igd hf
  exact aw_zretq C CR0 hgr hgs g3 hf (by decide +kernel)
theorem c_m_isWanted {lay : Ly} (E : LAin lay) (v1 : Int32) (v2 : Int32) (st : Mm) (q : Int32 × Mm) (hf : f_m_isWanted v1 v2 st = some q) : Con 1 Y215 prog_14_method_75_code 3 (Option.some FieldType.boolean) lay (fun ad => [.ref (ad 58), .int v1, .int v2]) st (some (.int q.1)) q.2 :=
  am_met yf_215.2.2.2.2.2 (fun ad => Nat.le_of_ble_eq_true rfl) (fun G C CR0 e1 e2 e3 e4 e5 => t_m_isWanted C CR0 (by rw [e1]; exact E) e2 (Nat.le_of_eq e5.symm) e3 e4 v1 v2 st hf)
def b_m_differs_97 (v1 : Int32) (v2 : Int32) (v3 : Int32) (st : Mm) : Option (Int32 × Mm) :=
  if v1 = 0 then (some (v2, st)) else (some (v3, st))
def b_m_differs_23 (k23 : Int32 → Int32 → Int32 → Int32 → Mm → Option (Int32 × Mm)) (v1 : Int32) (v2 : Int32) (v3 : Int32) (v4 : Int32) (st : Mm) : Option (Int32 × Mm) :=
  if (256 : Int32) ≤ v4 then (b_m_differs_97 v1 v2 v3 st) else ((f_m_isCell (v4 - v4 / (16 : Int32) * (16 : Int32)) (v4 / (16 : Int32)) st).bind (fun q2 => if q2.1 = 0 then (lt_ (v4 + (1 : Int32)) (fun a4 => k23 v1 v2 v3 a4 q2.2)) else (if inb v4 256 then (f_m_isWanted (v4 - v4 / (16 : Int32) * (16 : Int32)) (v4 / (16 : Int32)) q2.2).bind (fun q6 => if (q2.2.1 72 v4.toNatClampNeg) = q6.1 then (lt_ (v4 + (1 : Int32)) (fun a8 => k23 v1 v2 v3 a8 q6.2)) else (if v3 = (-1 : Int32) then (lt_ (v2 + (1 : Int32)) (fun a10 => lt_ (v4 + (1 : Int32)) (fun a11 => k23 v1 a10 v4 a11 q6.2))) else (lt_ (v2 + (1 : Int32)) (fun a12 => lt_ (v4 + (1 : Int32)) (fun a13 => k23 v1 a12 v3 a13 q6.2))))) else none)))
def f_m_differs_23 : Nat → Int32 → Int32 → Int32 → Int32 → Mm → Option (Int32 × Mm)
  | 0 => fun _ _ _ _ _ => none
  | n + 1 => b_m_differs_23 (f_m_differs_23 n)
def f_m_differs (v1 : Int32) (st : Mm) : Option (Int32 × Mm) :=
  (f_m_in v1 (0 : Int32) (1 : Int32) st).bind (fun q1 => if q1.1 = 0 then (some ((-1 : Int32), q1.2)) else ((f_m_opens0 (0 : Int32) q1.2).bind (fun q3 => f_m_differs_23 1000000 v1 (0 : Int32) (-1 : Int32) (0 : Int32) q3.2)))
theorem t_m_differs_97 {G : Cx} (C : CX G prog_14_method_78_code "PaperStarsModel") (CR0 : CR G (Option.some FieldType.int)) (E : LAin (gly G)) (hnL : gnL G = 5) (hgd : 4 ≤ gd G) {q : Int32 × Mm} (hgr : gr G = some (.int q.1)) (hgs : gsf G = q.2) (v1 : Int32) (v2 : Int32) (v3 : Int32) (st : Mm) (hf : b_m_differs_97 v1 v2 v3 st = some q) : AW G st 97 [(1, .int v1), (2, .int v2), (3, .int v3)] [] := by
  unfold b_m_differs_97 at hf
  refine aw_iload_n C 1 0 (j := 1) rfl rfl (by decide +kernel) rfl ?_
  refine aw_if_ne C (tgt := 105) (off := 7) (by decide +kernel) (by decide) rfl (fun c1 => ?_) (fun c1 => ?_)
  · have hf := ift c1 hf
    refine aw_iload_n C 2 1 (j := 2) rfl rfl (by decide +kernel) rfl ?_
    refine aw_goto C (tgt := 106) (off := 4) (by decide +kernel) (by decide) ?_
    exact aw_iretq C CR0 hgr hgs hf (by decide +kernel)
  · have hf := iff_ c1 hf
    refine aw_iload_n C 3 2 (j := 3) rfl rfl (by decide +kernel) rfl ?_
    exact aw_iretq C CR0 hgr hgs hf (by decide +kernel)
theorem t_m_differs_23 {G : Cx} (C : CX G prog_14_method_78_code "PaperStarsModel") (CR0 : CR G (Option.some FieldType.int)) (E : LAin (gly G)) (hnL : gnL G = 5) (hgd : 4 ≤ gd G) {q : Int32 × Mm} (hgr : gr G = some (.int q.1)) (hgs : gsf G = q.2) (k23 : Int32 → Int32 → Int32 → Int32 → Mm → Option (Int32 × Mm)) (hk23 : ∀ (v1 : Int32) (v2 : Int32) (v3 : Int32) (v4 : Int32) (st : Mm), k23 v1 v2 v3 v4 st = some q → AW G st 23 [(0, .ref (gad G 58)), (1, .int v1), (2, .int v2), (3, .int v3), (4, .int v4)] []) (v1 : Int32) (v2 : Int32) (v3 : Int32) (v4 : Int32) (st : Mm) (hf : b_m_differs_23 k23 v1 v2 v3 v4 st = some q) : AW G st 23 [(0, .ref (gad G 58)), (1, .int v1), (2, .int v2), (3, .int v3), (4, .int v4)] [] := by
  unfold b_m_differs_23 at hf
  refine aw_iload C 4 4 rfl (by decide +kernel) rfl ?_
  refine aw_sipush C (i0 := 256) (v := 256) (by decide) (by decide +kernel) rfl ?_
  refine aw_icmp_ge C (tgt := 97) (off := 69) (by decide +kernel) (by decide) rfl (fun c1 => ?_) (fun c1 => ?_)
  · have hf := ift c1 hf
    refine aw_sub [(1, .int v1), (2, .int v2), (3, .int v3)] [1, 2, 3] rfl ?_
    exact t_m_differs_97 C CR0 E hnL hgd hgr hgs v1 v2 v3 _ hf
  · have hf := iff_ c1 hf
    refine aw_aload_n C 0 0 (j := 0) rfl rfl (by decide +kernel) rfl ?_
    refine aw_iload C 4 4 rfl (by decide +kernel) rfl ?_
    refine aw_bipush C (i0 := 16) (v := 16) (by decide) (by decide +kernel) rfl ?_
    refine aw_irem C (by decide) (by decide +kernel) rfl ?_
    refine aw_iload C 4 4 rfl (by decide +kernel) rfl ?_
    refine aw_bipush C (i0 := 16) (v := 16) (by decide) (by decide +kernel) rfl ?_
    refine aw_idiv C (by decide) (by decide +kernel) rfl ?_
    obtain ⟨q2, hq2, hf⟩ := ibd hf
    refine aw_callV C (rest := []) (c_m_isCell E (v4 - v4 / (16 : Int32) * (16 : Int32)) (v4 / (16 : Int32)) _ q2 hq2) tb_1328 yf_189 yi_189 (la_58 E) [.int (v4 - v4 / (16 : Int32) * (16 : Int32)), .int (v4 / (16 : Int32))] rfl rfl _ rfl (Nat.le_trans (by decide) hgd) (Nat.le_of_ble_eq_true rfl) (by decide +kernel) rfl ?_
    show AW _ _ _ _ [.int q2.1]
    refine aw_if_eq C (tgt := 91) (off := 46) (by decide +kernel) (by decide) rfl (fun c3 => ?_) (fun c3 => ?_)
    · have hf := ift c3 hf
      obtain ⟨a4, ha4⟩ : ∃ z, z = (v4 + (1 : Int32)) := ⟨_, rfl⟩
      have hf := ilt ha4 hf
      refine aw_iinc C [(4, .int a4), (0, .ref (gad G 58)), (1, .int v1), (2, .int v2), (3, .int v3)] 4 (n := 1) rfl (by rw [ha4]; rfl) (by rw [hnL]; decide) rfl (by decide +kernel) rfl ?_
      refine aw_goto C (tgt := 23) (off := -71) (by decide +kernel) (by decide) ?_
      refine aw_sub [(0, .ref (gad G 58)), (1, .int v1), (2, .int v2), (3, .int v3), (4, .int a4)] [1, 2, 3, 4, 0] rfl ?_
      exact hk23 v1 v2 v3 a4 _ hf
    · have hf := iff_ c3 hf
      refine aw_aload_n C 0 0 (j := 0) rfl rfl (by decide +kernel) rfl ?_
      refine aw_getr C (k := 36) fc_12 (la_58 E) rfl (by decide) tb_978 (by decide +kernel) rfl ?_
      refine aw_iload C 4 4 rfl (by decide +kernel) rfl ?_
      obtain ⟨g5, hf⟩ := igd hf
      refine aw_zald C (la_72 E) g5 (by decide +kernel) rfl ?_
      refine aw_aload_n C 0 0 (j := 0) rfl rfl (by decide +kernel) rfl ?_
      refine aw_iload C 4 4 rfl (by decide +kernel) rfl ?_
      refine aw_bipush C (i0 := 16) (v := 16) (by decide) (by decide +kernel) rfl ?_
      refine aw_irem C (by decide) (by decide +kernel) rfl ?_
      refine aw_iload C 4 4 rfl (by decide +kernel) rfl ?_
      refine aw_bipush C (i0 := 16) (v := 16) (by decide) (by decide +kernel) rfl ?_
      refine aw_idiv C (by decide) (by decide +kernel) rfl ?_
      obtain ⟨q6, hq6, hf⟩ := ibd hf
      refine aw_callV C (rest := [.int (q2.2.1 72 v4.toNatClampNeg)]) (c_m_isWanted E (v4 - v4 / (16 : Int32) * (16 : Int32)) (v4 / (16 : Int32)) _ q6 hq6) tb_1431 yf_215 yi_215 (la_58 E) [.int (v4 - v4 / (16 : Int32) * (16 : Int32)), .int (v4 / (16 : Int32))] rfl rfl _ rfl (Nat.le_trans (by decide) hgd) (Nat.le_of_ble_eq_true rfl) (by decide +kernel) rfl ?_
      show AW _ _ _ _ [.int q6.1, .int (q2.2.1 72 v4.toNatClampNeg)]
      refine aw_icmp_ne C (tgt := 75) (off := 6) (by decide +kernel) (by decide) rfl (fun c7 => ?_) (fun c7 => ?_)
      · have hf := ift c7 hf
        refine aw_goto C (tgt := 91) (off := 19) (by decide +kernel) (by decide) ?_
        obtain ⟨a8, ha8⟩ : ∃ z, z = (v4 + (1 : Int32)) := ⟨_, rfl⟩
        have hf := ilt ha8 hf
        refine aw_iinc C [(4, .int a8), (0, .ref (gad G 58)), (1, .int v1), (2, .int v2), (3, .int v3)] 4 (n := 1) rfl (by rw [ha8]; rfl) (by rw [hnL]; decide) rfl (by decide +kernel) rfl ?_
        refine aw_goto C (tgt := 23) (off := -71) (by decide +kernel) (by decide) ?_
        refine aw_sub [(0, .ref (gad G 58)), (1, .int v1), (2, .int v2), (3, .int v3), (4, .int a8)] [1, 2, 3, 4, 0] rfl ?_
        exact hk23 v1 v2 v3 a8 _ hf
      · have hf := iff_ c7 hf
        refine aw_iload_n C 3 3 (j := 3) rfl rfl (by decide +kernel) rfl ?_
        refine aw_iconst C (i0 := -1) (v := -1) (by decide) (by decide +kernel) rfl ?_
        refine aw_icmp_ne C (tgt := 85) (off := 8) (by decide +kernel) (by decide) rfl (fun c9 => ?_) (fun c9 => ?_)
        · have hf := ift c9 hf
          refine aw_iload C 4 4 rfl (by decide +kernel) rfl ?_
          refine aw_goto C (tgt := 86) (off := 4) (by decide +kernel) (by decide) ?_
          refine aw_istore_n C [(3, .int v4), (0, .ref (gad G 58)), (1, .int v1), (2, .int v2), (4, .int v4)] (j := 3) rfl (by rw [hnL]; decide) rfl (by decide +kernel) rfl ?_
          refine aw_iload_n C 2 3 (j := 2) rfl rfl (by decide +kernel) rfl ?_
          refine aw_iconst C (i0 := 1) (v := 1) (by decide) (by decide +kernel) rfl ?_
          refine aw_iadd C (by decide +kernel) rfl ?_
          obtain ⟨a10, ha10⟩ : ∃ z, z = (v2 + (1 : Int32)) := ⟨_, rfl⟩
          refine aw_nmi ha10 ?_
          have hf := ilt ha10 hf
          refine aw_istore_n C [(2, .int a10), (3, .int v4), (0, .ref (gad G 58)), (1, .int v1), (4, .int v4)] (j := 2) rfl (by rw [hnL]; decide) rfl (by decide +kernel) rfl ?_
          obtain ⟨a11, ha11⟩ : ∃ z, z = (v4 + (1 : Int32)) := ⟨_, rfl⟩
          have hf := ilt ha11 hf
          refine aw_iinc C [(4, .int a11), (2, .int a10), (3, .int v4), (0, .ref (gad G 58)), (1, .int v1)] 4 (n := 1) rfl (by rw [ha11]; rfl) (by rw [hnL]; decide) rfl (by decide +kernel) rfl ?_
          refine aw_goto C (tgt := 23) (off := -71) (by decide +kernel) (by decide) ?_
          refine aw_sub [(0, .ref (gad G 58)), (1, .int v1), (2, .int a10), (3, .int v4), (4, .int a11)] [3, 4, 1, 2, 0] rfl ?_
          exact hk23 v1 a10 v4 a11 _ hf
        · have hf := iff_ c9 hf
          refine aw_iload_n C 3 3 (j := 3) rfl rfl (by decide +kernel) rfl ?_
          refine aw_istore_n C [(3, .int v3), (0, .ref (gad G 58)), (1, .int v1), (2, .int v2), (4, .int v4)] (j := 3) rfl (by rw [hnL]; decide) rfl (by decide +kernel) rfl ?_
          refine aw_iload_n C 2 3 (j := 2) rfl rfl (by decide +kernel) rfl ?_
          refine aw_iconst C (i0 := 1) (v := 1) (by decide) (by decide +kernel) rfl ?_
          refine aw_iadd C (by decide +kernel) rfl ?_
          obtain ⟨a12, ha12⟩ : ∃ z, z = (v2 + (1 : Int32)) := ⟨_, rfl⟩
          refine aw_nmi ha12 ?_
          have hf := ilt ha12 hf
          refine aw_istore_n C [(2, .int a12), (3, .int v3), (0, .ref (gad G 58)), (1, .int v1), (4, .int v4)] (j := 2) rfl (by rw [hnL]; decide) rfl (by decide +kernel) rfl ?_
          obtain ⟨a13, ha13⟩ : ∃ z, z = (v4 + (1 : Int32)) := ⟨_, rfl⟩
          have hf := ilt ha13 hf
          refine aw_iinc C [(4, .int a13), (2, .int a12), (3, .int v3), (0, .ref (gad G 58)), (1, .int v1)] 4 (n := 1) rfl (by rw [ha13]; rfl) (by rw [hnL]; decide) rfl (by decide +kernel) rfl ?_
          refine aw_goto C (tgt := 23) (off := -71) (by decide +kernel) (by decide) ?_
          refine aw_sub [(0, .ref (gad G 58)), (1, .int v1), (2, .int a12), (3, .int v3), (4, .int a13)] [3, 4, 1, 2, 0] rfl ?_
          exact hk23 v1 a12 v3 a13 _ hf
theorem u_m_differs_23 {G : Cx} (C : CX G prog_14_method_78_code "PaperStarsModel") (CR0 : CR G (Option.some FieldType.int)) (E : LAin (gly G)) (hnL : gnL G = 5) (hgd : 4 ≤ gd G) {q : Int32 × Mm} (hgr : gr G = some (.int q.1)) (hgs : gsf G = q.2) : ∀ (n : Nat) (v1 : Int32) (v2 : Int32) (v3 : Int32) (v4 : Int32) (st : Mm), f_m_differs_23 n v1 v2 v3 v4 st = some q → AW G st 23 [(0, .ref (gad G 58)), (1, .int v1), (2, .int v2), (3, .int v3), (4, .int v4)] [] := by
  intro n
  induction n with
  | zero => intro v1 v2 v3 v4 st hf; cases hf
  | succ n ih => intro v1 v2 v3 v4 st hf; exact t_m_differs_23 C CR0 E hnL hgd hgr hgs (f_m_differs_23 n) ih v1 v2 v3 v4 st hf
theorem t_m_differs {G : Cx} (C : CX G prog_14_method_78_code "PaperStarsModel") (CR0 : CR G (Option.some FieldType.int)) (E : LAin (gly G)) (hnL : gnL G = 5) (hgd : 4 ≤ gd G) {q : Int32 × Mm} (hgr : gr G = some (.int q.1)) (hgs : gsf G = q.2) (v1 : Int32) (st : Mm) (hf : f_m_differs v1 st = some q) : AW G st 0 [(0, .ref (gad G 58)), (1, .int v1)] [] := by
  unfold f_m_differs at hf
  refine aw_iload_n C 1 1 (j := 1) rfl rfl (by decide +kernel) rfl ?_
  refine aw_iconst C (i0 := 0) (v := 0) (by decide) (by decide +kernel) rfl ?_
  refine aw_iconst C (i0 := 1) (v := 1) (by decide) (by decide +kernel) rfl ?_
  obtain ⟨q1, hq1, hf⟩ := ibd hf
  refine aw_callS C (rest := []) (c_m_in E v1 (0 : Int32) (1 : Int32) _ q1 hq1) tb_1144 yf_142 tb_1145 rfl _ rfl (Nat.le_trans (by decide) hgd) (Nat.le_of_ble_eq_true rfl) (by decide +kernel) rfl ?_
  show AW _ _ _ _ [.int q1.1]
  refine aw_if_ne C (tgt := 11) (off := 5) (by decide +kernel) (by decide) rfl (fun c2 => ?_) (fun c2 => ?_)
  · have hf := ift c2 hf
    refine aw_iconst C (i0 := -1) (v := -1) (by decide) (by decide +kernel) rfl ?_
    exact aw_iretq C CR0 hgr hgs hf (by decide +kernel)
  · have hf := iff_ c2 hf
    refine aw_aload_n C 0 0 (j := 0) rfl rfl (by decide +kernel) rfl ?_
    refine aw_iconst C (i0 := 0) (v := 0) (by decide) (by decide +kernel) rfl ?_
    obtain ⟨q3, hq3, hf⟩ := ibd hf
    refine aw_callV C (rest := []) (c_m_opens0 E (0 : Int32) _ q3 hq3) tb_1332 yf_190 yi_190 (la_58 E) [.int (0 : Int32)] rfl rfl _ rfl (Nat.le_trans (by decide) hgd) (Nat.le_of_ble_eq_true rfl) (by decide +kernel) rfl ?_
    show AW _ _ _ _ []
    refine aw_iconst C (i0 := 0) (v := 0) (by decide) (by decide +kernel) rfl ?_
    refine aw_istore_n C [(2, .int (0 : Int32)), (0, .ref (gad G 58)), (1, .int v1)] (j := 2) rfl (by rw [hnL]; decide) rfl (by decide +kernel) rfl ?_
    refine aw_iconst C (i0 := -1) (v := -1) (by decide) (by decide +kernel) rfl ?_
    refine aw_istore_n C [(3, .int (-1 : Int32)), (2, .int (0 : Int32)), (0, .ref (gad G 58)), (1, .int v1)] (j := 3) rfl (by rw [hnL]; decide) rfl (by decide +kernel) rfl ?_
    refine aw_iconst C (i0 := 0) (v := 0) (by decide) (by decide +kernel) rfl ?_
    refine aw_istore C [(4, .int (0 : Int32)), (3, .int (-1 : Int32)), (2, .int (0 : Int32)), (0, .ref (gad G 58)), (1, .int v1)] (by rw [hnL]; decide) rfl (by decide +kernel) rfl ?_
    refine aw_sub [(0, .ref (gad G 58)), (1, .int v1), (2, .int (0 : Int32)), (3, .int (-1 : Int32)), (4, .int (0 : Int32))] [3, 4, 2, 1, 0] rfl ?_
    exact u_m_differs_23 C CR0 E hnL hgd hgr hgs _ v1 (0 : Int32) (-1 : Int32) (0 : Int32) _ hf
theorem c_m_differs {lay : Ly} (E : LAin lay) (v1 : Int32) (st : Mm) (q : Int32 × Mm) (hf : f_m_differs v1 st = some q) : Con 4 Y214 prog_14_method_78_code 5 (Option.some FieldType.int) lay (fun ad => [.ref (ad 58), .int v1]) st (some (.int q.1)) q.2 :=
  am_met yf_214.2.2.2.2.2 (fun ad => Nat.le_of_ble_eq_true rfl) (fun G C CR0 e1 e2 e3 e4 e5 => t_m_differs C CR0 (by rw [e1]; exact E) e2 (Nat.le_of_eq e5.symm) e3 e4 v1 st hf)
def b_m_firstUnlike_100 (k31 : Int32 → Mm → Option (Int32 × Mm)) (k41 : Int32 → Int32 → Mm → Option (Int32 × Mm)) (v1 : Int32) (v2 : Int32) (v3 : Int32) (v4 : Int32) (st : Mm) : Option (Int32 × Mm) :=
  if inb v3 256 then if inb v3 256 then if v4 = 0 ∨ v4 = 1 then lt_ (v2 + (1 : Int32)) (fun a4 => k41 v1 a4 (sI (sI st 77 v3.toNatClampNeg (1 : Int32)) 78 v3.toNatClampNeg v4)) else none else none else none
def b_m_firstUnlike_71 (k31 : Int32 → Mm → Option (Int32 × Mm)) (k41 : Int32 → Int32 → Mm → Option (Int32 × Mm)) (v1 : Int32) (v2 : Int32) (v3 : Int32) (s0 : Int32) (st : Mm) : Option (Int32 × Mm) :=
  if inb v3 256 then if (st.1 77 v3.toNatClampNeg) = 0 then (b_m_firstUnlike_100 k31 k41 v1 v2 v3 s0 st) else (if inb v3 256 then if (st.1 78 v3.toNatClampNeg) = s0 then (b_m_firstUnlike_100 k31 k41 v1 v2 v3 s0 st) else (some ((((16 : Int32) * v1) + v2), st)) else none) else none
def b_m_firstUnlike_121 (k31 : Int32 → Mm → Option (Int32 × Mm)) (v1 : Int32) (st : Mm) : Option (Int32 × Mm) :=
  lt_ (v1 + (1 : Int32)) (fun a1 => k31 a1 st)
def b_m_firstUnlike_41 (k31 : Int32 → Mm → Option (Int32 × Mm)) (k41 : Int32 → Int32 → Mm → Option (Int32 × Mm)) (v1 : Int32) (v2 : Int32) (st : Mm) : Option (Int32 × Mm) :=
  if (st.1 58 0) ≤ v2 then (b_m_firstUnlike_121 k31 v1 st) else ((f_m_placeOf v2 v1 (0 : Int32) st).bind (fun q2 => (f_m_isWanted v2 v1 q2.2).bind (fun q3 => if q3.1 = 0 then (b_m_firstUnlike_71 k31 k41 v1 v2 q2.1 (1 : Int32) q3.2) else (b_m_firstUnlike_71 k31 k41 v1 v2 q2.1 (0 : Int32) q3.2))))
def f_m_firstUnlike_41 (k31 : Int32 → Mm → Option (Int32 × Mm)) : Nat → Int32 → Int32 → Mm → Option (Int32 × Mm)
  | 0 => fun _ _ _ => none
  | n + 1 => b_m_firstUnlike_41 k31 (f_m_firstUnlike_41 k31 n)
def b_m_firstUnlike_31 (k31 : Int32 → Mm → Option (Int32 × Mm)) (v1 : Int32) (st : Mm) : Option (Int32 × Mm) :=
  if (st.1 58 0) ≤ v1 then (some ((-1 : Int32), st)) else (f_m_firstUnlike_41 k31 1000000 v1 (0 : Int32) st)
def f_m_firstUnlike_31 : Nat → Int32 → Mm → Option (Int32 × Mm)
  | 0 => fun _ _ => none
  | n + 1 => b_m_firstUnlike_31 (f_m_firstUnlike_31 n)
def b_m_firstUnlike_29 (st : Mm) : Option (Int32 × Mm) :=
  f_m_firstUnlike_31 1000000 (0 : Int32) st
def b_m_firstUnlike_2 (k2 : Int32 → Mm → Option (Int32 × Mm)) (v1 : Int32) (st : Mm) : Option (Int32 × Mm) :=
  if (256 : Int32) ≤ v1 then (b_m_firstUnlike_29 st) else (if inb v1 256 then if inb v1 256 then lt_ (v1 + (1 : Int32)) (fun a4 => k2 a4 (sI (sI st 77 v1.toNatClampNeg (0 : Int32)) 78 v1.toNatClampNeg (0 : Int32))) else none else none)
def f_m_firstUnlike_2 : Nat → Int32 → Mm → Option (Int32 × Mm)
  | 0 => fun _ _ => none
  | n + 1 => b_m_firstUnlike_2 (f_m_firstUnlike_2 n)
def f_m_firstUnlike (st : Mm) : Option (Int32 × Mm) :=
  f_m_firstUnlike_2 1000000 (0 : Int32) st
theorem t_m_firstUnlike_100 {G : Cx} (C : CX G prog_14_method_80_code "PaperStarsModel") (CR0 : CR G (Option.some FieldType.int)) (E : LAin (gly G)) (hnL : gnL G = 5) (hgd : 2 ≤ gd G) {q : Int32 × Mm} (hgr : gr G = some (.int q.1)) (hgs : gsf G = q.2) (k31 : Int32 → Mm → Option (Int32 × Mm)) (k41 : Int32 → Int32 → Mm → Option (Int32 × Mm)) (hk31 : ∀ (v1 : Int32) (st : Mm), k31 v1 st = some q → AW G st 31 [(0, .ref (gad G 58)), (1, .int v1)] []) (hk41 : ∀ (v1 : Int32) (v2 : Int32) (st : Mm), k41 v1 v2 st = some q → AW G st 41 [(0, .ref (gad G 58)), (1, .int v1), (2, .int v2)] []) (v1 : Int32) (v2 : Int32) (v3 : Int32) (v4 : Int32) (st : Mm) (hf : b_m_firstUnlike_100 k31 k41 v1 v2 v3 v4 st = some q) : AW G st 100 [(0, .ref (gad G 58)), (1, .int v1), (2, .int v2), (3, .int v3), (4, .int v4)] [] := by
  unfold b_m_firstUnlike_100 at hf
  refine aw_aload_n C 0 0 (j := 0) rfl rfl (by decide +kernel) rfl ?_
  refine aw_getr C (k := 44) fc_12 (la_58 E) rfl (by decide) tb_986 (by decide +kernel) rfl ?_
  refine aw_iload_n C 3 3 (j := 3) rfl rfl (by decide +kernel) rfl ?_
  refine aw_iconst C (i0 := 1) (v := 1) (by decide) (by decide +kernel) rfl ?_
  obtain ⟨g1, hf⟩ := igd hf
  refine aw_zastB C (la_77 E) g1 (by decide) (by decide +kernel) rfl ?_
  refine aw_aload_n C 0 0 (j := 0) rfl rfl (by decide +kernel) rfl ?_
  refine aw_getr C (k := 45) fc_12 (la_58 E) rfl (by decide) tb_987 (by decide +kernel) rfl ?_
  refine aw_iload_n C 3 3 (j := 3) rfl rfl (by decide +kernel) rfl ?_
  refine aw_iload C 4 4 rfl (by decide +kernel) rfl ?_
  obtain ⟨g2, hf⟩ := igd hf
  obtain ⟨g3, hf⟩ := igd hf
  refine aw_zastB C (la_78 E) g2 g3 (by decide +kernel) rfl ?_
  obtain ⟨a4, ha4⟩ : ∃ z, z = (v2 + (1 : Int32)) := ⟨_, rfl⟩
  have hf := ilt ha4 hf
  refine aw_iinc C [(2, .int a4), (0, .ref (gad G 58)), (1, .int v1), (3, .int v3), (4, .int v4)] 2 (n := 1) rfl (by rw [ha4]; rfl) (by rw [hnL]; decide) rfl (by decide +kernel) rfl ?_
  refine aw_goto C (tgt := 41) (off := -77) (by decide +kernel) (by decide) ?_
  refine aw_sub [(0, .ref (gad G 58)), (1, .int v1), (2, .int a4)] [1, 2, 0] rfl ?_
  exact hk41 v1 a4 _ hf
theorem t_m_firstUnlike_71 {G : Cx} (C : CX G prog_14_method_80_code "PaperStarsModel") (CR0 : CR G (Option.some FieldType.int)) (E : LAin (gly G)) (hnL : gnL G = 5) (hgd : 2 ≤ gd G) {q : Int32 × Mm} (hgr : gr G = some (.int q.1)) (hgs : gsf G = q.2) (k31 : Int32 → Mm → Option (Int32 × Mm)) (k41 : Int32 → Int32 → Mm → Option (Int32 × Mm)) (hk31 : ∀ (v1 : Int32) (st : Mm), k31 v1 st = some q → AW G st 31 [(0, .ref (gad G 58)), (1, .int v1)] []) (hk41 : ∀ (v1 : Int32) (v2 : Int32) (st : Mm), k41 v1 v2 st = some q → AW G st 41 [(0, .ref (gad G 58)), (1, .int v1), (2, .int v2)] []) (v1 : Int32) (v2 : Int32) (v3 : Int32) (s0 : Int32) (st : Mm) (hf : b_m_firstUnlike_71 k31 k41 v1 v2 v3 s0 st = some q) : AW G st 71 [(0, .ref (gad G 58)), (1, .int v1), (2, .int v2), (3, .int v3)] [.int s0] := by
  unfold b_m_firstUnlike_71 at hf
  refine aw_istore C [(4, .int s0), (0, .ref (gad G 58)), (1, .int v1), (2, .int v2), (3, .int v3)] (by rw [hnL]; decide) rfl (by decide +kernel) rfl ?_
  refine aw_aload_n C 0 1 (j := 0) rfl rfl (by decide +kernel) rfl ?_
  refine aw_getr C (k := 44) fc_12 (la_58 E) rfl (by decide) tb_986 (by decide +kernel) rfl ?_
  refine aw_iload_n C 3 4 (j := 3) rfl rfl (by decide +kernel) rfl ?_
  obtain ⟨g1, hf⟩ := igd hf
  refine aw_zald C (la_77 E) g1 (by decide +kernel) rfl ?_
  refine aw_if_eq C (tgt := 100) (off := 21) (by decide +kernel) (by decide) rfl (fun c2 => ?_) (fun c2 => ?_)
  · have hf := ift c2 hf
    refine aw_sub [(0, .ref (gad G 58)), (1, .int v1), (2, .int v2), (3, .int v3), (4, .int s0)] [1, 2, 3, 4, 0] rfl ?_
    exact t_m_firstUnlike_100 C CR0 E hnL hgd hgr hgs k31 k41 hk31 hk41 v1 v2 v3 s0 _ hf
  · have hf := iff_ c2 hf
    refine aw_aload_n C 0 1 (j := 0) rfl rfl (by decide +kernel) rfl ?_
    refine aw_getr C (k := 45) fc_12 (la_58 E) rfl (by decide) tb_987 (by decide +kernel) rfl ?_
    refine aw_iload_n C 3 4 (j := 3) rfl rfl (by decide +kernel) rfl ?_
    obtain ⟨g3, hf⟩ := igd hf
    refine aw_zald C (la_78 E) g3 (by decide +kernel) rfl ?_
    refine aw_iload C 4 0 rfl (by decide +kernel) rfl ?_
    refine aw_icmp_eq C (tgt := 100) (off := 10) (by decide +kernel) (by decide) rfl (fun c4 => ?_) (fun c4 => ?_)
    · have hf := ift c4 hf
      refine aw_sub [(0, .ref (gad G 58)), (1, .int v1), (2, .int v2), (3, .int v3), (4, .int s0)] [1, 2, 3, 4, 0] rfl ?_
      exact t_m_firstUnlike_100 C CR0 E hnL hgd hgr hgs k31 k41 hk31 hk41 v1 v2 v3 s0 _ hf
    · have hf := iff_ c4 hf
      refine aw_bipush C (i0 := 16) (v := 16) (by decide) (by decide +kernel) rfl ?_
      refine aw_iload_n C 1 2 (j := 1) rfl rfl (by decide +kernel) rfl ?_
      refine aw_imul C (by decide +kernel) rfl ?_
      refine aw_iload_n C 2 3 (j := 2) rfl rfl (by decide +kernel) rfl ?_
      refine aw_iadd C (by decide +kernel) rfl ?_
      exact aw_iretq C CR0 hgr hgs hf (by decide +kernel)
theorem t_m_firstUnlike_121 {G : Cx} (C : CX G prog_14_method_80_code "PaperStarsModel") (CR0 : CR G (Option.some FieldType.int)) (E : LAin (gly G)) (hnL : gnL G = 5) (hgd : 2 ≤ gd G) {q : Int32 × Mm} (hgr : gr G = some (.int q.1)) (hgs : gsf G = q.2) (k31 : Int32 → Mm → Option (Int32 × Mm)) (hk31 : ∀ (v1 : Int32) (st : Mm), k31 v1 st = some q → AW G st 31 [(0, .ref (gad G 58)), (1, .int v1)] []) (v1 : Int32) (st : Mm) (hf : b_m_firstUnlike_121 k31 v1 st = some q) : AW G st 121 [(0, .ref (gad G 58)), (1, .int v1)] [] := by
  unfold b_m_firstUnlike_121 at hf
  obtain ⟨a1, ha1⟩ : ∃ z, z = (v1 + (1 : Int32)) := ⟨_, rfl⟩
  have hf := ilt ha1 hf
  refine aw_iinc C [(1, .int a1), (0, .ref (gad G 58))] 1 (n := 1) rfl (by rw [ha1]; rfl) (by rw [hnL]; decide) rfl (by decide +kernel) rfl ?_
  refine aw_goto C (tgt := 31) (off := -93) (by decide +kernel) (by decide) ?_
  refine aw_sub [(0, .ref (gad G 58)), (1, .int a1)] [1, 0] rfl ?_
  exact hk31 a1 _ hf
theorem t_m_firstUnlike_41 {G : Cx} (C : CX G prog_14_method_80_code "PaperStarsModel") (CR0 : CR G (Option.some FieldType.int)) (E : LAin (gly G)) (hnL : gnL G = 5) (hgd : 2 ≤ gd G) {q : Int32 × Mm} (hgr : gr G = some (.int q.1)) (hgs : gsf G = q.2) (k31 : Int32 → Mm → Option (Int32 × Mm)) (k41 : Int32 → Int32 → Mm → Option (Int32 × Mm)) (hk31 : ∀ (v1 : Int32) (st : Mm), k31 v1 st = some q → AW G st 31 [(0, .ref (gad G 58)), (1, .int v1)] []) (hk41 : ∀ (v1 : Int32) (v2 : Int32) (st : Mm), k41 v1 v2 st = some q → AW G st 41 [(0, .ref (gad G 58)), (1, .int v1), (2, .int v2)] []) (v1 : Int32) (v2 : Int32) (st : Mm) (hf : b_m_firstUnlike_41 k31 k41 v1 v2 st = some q) : AW G st 41 [(0, .ref (gad G 58)), (1, .int v1), (2, .int v2)] [] := by
  unfold b_m_firstUnlike_41 at hf
  refine aw_iload_n C 2 2 (j := 2) rfl rfl (by decide +kernel) rfl ?_
  refine aw_aload_n C 0 0 (j := 0) rfl rfl (by decide +kernel) rfl ?_
  refine aw_get C (k := 0) fc_12 (la_58 E) rfl (by decide) tb_942 (by decide +kernel) rfl ?_
  refine aw_icmp_ge C (tgt := 121) (off := 75) (by decide +kernel) (by decide) rfl (fun c1 => ?_) (fun c1 => ?_)
  · have hf := ift c1 hf
    refine aw_sub [(0, .ref (gad G 58)), (1, .int v1)] [0, 1] rfl ?_
    exact t_m_firstUnlike_121 C CR0 E hnL hgd hgr hgs k31 hk31 v1 _ hf
  · have hf := iff_ c1 hf
    refine aw_aload_n C 0 0 (j := 0) rfl rfl (by decide +kernel) rfl ?_
    refine aw_iload_n C 2 2 (j := 2) rfl rfl (by decide +kernel) rfl ?_
    refine aw_iload_n C 1 1 (j := 1) rfl rfl (by decide +kernel) rfl ?_
    refine aw_iconst C (i0 := 0) (v := 0) (by decide) (by decide +kernel) rfl ?_
    obtain ⟨q2, hq2, hf⟩ := ibd hf
    refine aw_callV C (rest := []) (c_m_placeOf E v2 v1 (0 : Int32) _ q2 hq2) tb_1191 yf_154 yi_154 (la_58 E) [.int v2, .int v1, .int (0 : Int32)] rfl rfl _ rfl (Nat.le_trans (by decide) hgd) (Nat.le_of_ble_eq_true rfl) (by decide +kernel) rfl ?_
    show AW _ _ _ _ [.int q2.1]
    refine aw_istore_n C [(3, .int q2.1), (0, .ref (gad G 58)), (1, .int v1), (2, .int v2)] (j := 3) rfl (by rw [hnL]; decide) rfl (by decide +kernel) rfl ?_
    refine aw_aload_n C 0 1 (j := 0) rfl rfl (by decide +kernel) rfl ?_
    refine aw_iload_n C 2 3 (j := 2) rfl rfl (by decide +kernel) rfl ?_
    refine aw_iload_n C 1 2 (j := 1) rfl rfl (by decide +kernel) rfl ?_
    obtain ⟨q3, hq3, hf⟩ := ibd hf
    refine aw_callV C (rest := []) (c_m_isWanted E v2 v1 _ q3 hq3) tb_1431 yf_215 yi_215 (la_58 E) [.int v2, .int v1] rfl rfl _ rfl (Nat.le_trans (by decide) hgd) (Nat.le_of_ble_eq_true rfl) (by decide +kernel) rfl ?_
    show AW _ _ _ _ [.int q3.1]
    refine aw_if_ne C (tgt := 70) (off := 7) (by decide +kernel) (by decide) rfl (fun c4 => ?_) (fun c4 => ?_)
    · have hf := ift c4 hf
      refine aw_iconst C (i0 := 1) (v := 1) (by decide) (by decide +kernel) rfl ?_
      refine aw_goto C (tgt := 71) (off := 4) (by decide +kernel) (by decide) ?_
      refine aw_sub [(0, .ref (gad G 58)), (1, .int v1), (2, .int v2), (3, .int q2.1)] [1, 2, 3, 0] rfl ?_
      exact t_m_firstUnlike_71 C CR0 E hnL hgd hgr hgs k31 k41 hk31 hk41 v1 v2 q2.1 (1 : Int32) _ hf
    · have hf := iff_ c4 hf
      refine aw_iconst C (i0 := 0) (v := 0) (by decide) (by decide +kernel) rfl ?_
      refine aw_sub [(0, .ref (gad G 58)), (1, .int v1), (2, .int v2), (3, .int q2.1)] [1, 2, 3, 0] rfl ?_
      exact t_m_firstUnlike_71 C CR0 E hnL hgd hgr hgs k31 k41 hk31 hk41 v1 v2 q2.1 (0 : Int32) _ hf
theorem u_m_firstUnlike_41 {G : Cx} (C : CX G prog_14_method_80_code "PaperStarsModel") (CR0 : CR G (Option.some FieldType.int)) (E : LAin (gly G)) (hnL : gnL G = 5) (hgd : 2 ≤ gd G) {q : Int32 × Mm} (hgr : gr G = some (.int q.1)) (hgs : gsf G = q.2) (k31 : Int32 → Mm → Option (Int32 × Mm)) (hk31 : ∀ (v1 : Int32) (st : Mm), k31 v1 st = some q → AW G st 31 [(0, .ref (gad G 58)), (1, .int v1)] []) : ∀ (n : Nat) (v1 : Int32) (v2 : Int32) (st : Mm), f_m_firstUnlike_41 k31 n v1 v2 st = some q → AW G st 41 [(0, .ref (gad G 58)), (1, .int v1), (2, .int v2)] [] := by
  intro n
  induction n with
  | zero => intro v1 v2 st hf; cases hf
  | succ n ih => intro v1 v2 st hf; exact t_m_firstUnlike_41 C CR0 E hnL hgd hgr hgs k31 (f_m_firstUnlike_41 k31 n) hk31 ih v1 v2 st hf
theorem t_m_firstUnlike_31 {G : Cx} (C : CX G prog_14_method_80_code "PaperStarsModel") (CR0 : CR G (Option.some FieldType.int)) (E : LAin (gly G)) (hnL : gnL G = 5) (hgd : 2 ≤ gd G) {q : Int32 × Mm} (hgr : gr G = some (.int q.1)) (hgs : gsf G = q.2) (k31 : Int32 → Mm → Option (Int32 × Mm)) (hk31 : ∀ (v1 : Int32) (st : Mm), k31 v1 st = some q → AW G st 31 [(0, .ref (gad G 58)), (1, .int v1)] []) (v1 : Int32) (st : Mm) (hf : b_m_firstUnlike_31 k31 v1 st = some q) : AW G st 31 [(0, .ref (gad G 58)), (1, .int v1)] [] := by
  unfold b_m_firstUnlike_31 at hf
  refine aw_iload_n C 1 1 (j := 1) rfl rfl (by decide +kernel) rfl ?_
  refine aw_aload_n C 0 0 (j := 0) rfl rfl (by decide +kernel) rfl ?_
  refine aw_get C (k := 0) fc_12 (la_58 E) rfl (by decide) tb_942 (by decide +kernel) rfl ?_
  refine aw_icmp_ge C (tgt := 127) (off := 91) (by decide +kernel) (by decide) rfl (fun c1 => ?_) (fun c1 => ?_)
  · have hf := ift c1 hf
    refine aw_iconst C (i0 := -1) (v := -1) (by decide) (by decide +kernel) rfl ?_
    exact aw_iretq C CR0 hgr hgs hf (by decide +kernel)
  · have hf := iff_ c1 hf
    refine aw_iconst C (i0 := 0) (v := 0) (by decide) (by decide +kernel) rfl ?_
    refine aw_istore_n C [(2, .int (0 : Int32)), (0, .ref (gad G 58)), (1, .int v1)] (j := 2) rfl (by rw [hnL]; decide) rfl (by decide +kernel) rfl ?_
    refine aw_sub [(0, .ref (gad G 58)), (1, .int v1), (2, .int (0 : Int32))] [1, 2, 0] rfl ?_
    exact u_m_firstUnlike_41 C CR0 E hnL hgd hgr hgs k31 hk31 _ v1 (0 : Int32) _ hf
theorem u_m_firstUnlike_31 {G : Cx} (C : CX G prog_14_method_80_code "PaperStarsModel") (CR0 : CR G (Option.some FieldType.int)) (E : LAin (gly G)) (hnL : gnL G = 5) (hgd : 2 ≤ gd G) {q : Int32 × Mm} (hgr : gr G = some (.int q.1)) (hgs : gsf G = q.2) : ∀ (n : Nat) (v1 : Int32) (st : Mm), f_m_firstUnlike_31 n v1 st = some q → AW G st 31 [(0, .ref (gad G 58)), (1, .int v1)] [] := by
  intro n
  induction n with
  | zero => intro v1 st hf; cases hf
  | succ n ih => intro v1 st hf; exact t_m_firstUnlike_31 C CR0 E hnL hgd hgr hgs (f_m_firstUnlike_31 n) ih v1 st hf
theorem t_m_firstUnlike_29 {G : Cx} (C : CX G prog_14_method_80_code "PaperStarsModel") (CR0 : CR G (Option.some FieldType.int)) (E : LAin (gly G)) (hnL : gnL G = 5) (hgd : 2 ≤ gd G) {q : Int32 × Mm} (hgr : gr G = some (.int q.1)) (hgs : gsf G = q.2) (st : Mm) (hf : b_m_firstUnlike_29 st = some q) : AW G st 29 [(0, .ref (gad G 58))] [] := by
  unfold b_m_firstUnlike_29 at hf
  refine aw_iconst C (i0 := 0) (v := 0) (by decide) (by decide +kernel) rfl ?_
  refine aw_istore_n C [(1, .int (0 : Int32)), (0, .ref (gad G 58))] (j := 1) rfl (by rw [hnL]; decide) rfl (by decide +kernel) rfl ?_
  refine aw_sub [(0, .ref (gad G 58)), (1, .int (0 : Int32))] [1, 0] rfl ?_
  exact u_m_firstUnlike_31 C CR0 E hnL hgd hgr hgs _ (0 : Int32) _ hf
theorem t_m_firstUnlike_2 {G : Cx} (C : CX G prog_14_method_80_code "PaperStarsModel") (CR0 : CR G (Option.some FieldType.int)) (E : LAin (gly G)) (hnL : gnL G = 5) (hgd : 2 ≤ gd G) {q : Int32 × Mm} (hgr : gr G = some (.int q.1)) (hgs : gsf G = q.2) (k2 : Int32 → Mm → Option (Int32 × Mm)) (hk2 : ∀ (v1 : Int32) (st : Mm), k2 v1 st = some q → AW G st 2 [(0, .ref (gad G 58)), (1, .int v1)] []) (v1 : Int32) (st : Mm) (hf : b_m_firstUnlike_2 k2 v1 st = some q) : AW G st 2 [(0, .ref (gad G 58)), (1, .int v1)] [] := by
  unfold b_m_firstUnlike_2 at hf
  refine aw_iload_n C 1 1 (j := 1) rfl rfl (by decide +kernel) rfl ?_
  refine aw_sipush C (i0 := 256) (v := 256) (by decide) (by decide +kernel) rfl ?_
  refine aw_icmp_ge C (tgt := 29) (off := 23) (by decide +kernel) (by decide) rfl (fun c1 => ?_) (fun c1 => ?_)
  · have hf := ift c1 hf
    refine aw_sub [(0, .ref (gad G 58))] [0] rfl ?_
    exact t_m_firstUnlike_29 C CR0 E hnL hgd hgr hgs _ hf
  · have hf := iff_ c1 hf
    refine aw_aload_n C 0 0 (j := 0) rfl rfl (by decide +kernel) rfl ?_
    refine aw_getr C (k := 44) fc_12 (la_58 E) rfl (by decide) tb_986 (by decide +kernel) rfl ?_
    refine aw_iload_n C 1 1 (j := 1) rfl rfl (by decide +kernel) rfl ?_
    refine aw_iconst C (i0 := 0) (v := 0) (by decide) (by decide +kernel) rfl ?_
    obtain ⟨g2, hf⟩ := igd hf
    refine aw_zastB C (la_77 E) g2 (by decide) (by decide +kernel) rfl ?_
    refine aw_aload_n C 0 0 (j := 0) rfl rfl (by decide +kernel) rfl ?_
    refine aw_getr C (k := 45) fc_12 (la_58 E) rfl (by decide) tb_987 (by decide +kernel) rfl ?_
    refine aw_iload_n C 1 1 (j := 1) rfl rfl (by decide +kernel) rfl ?_
    refine aw_iconst C (i0 := 0) (v := 0) (by decide) (by decide +kernel) rfl ?_
    obtain ⟨g3, hf⟩ := igd hf
    refine aw_zastB C (la_78 E) g3 (by decide) (by decide +kernel) rfl ?_
    obtain ⟨a4, ha4⟩ : ∃ z, z = (v1 + (1 : Int32)) := ⟨_, rfl⟩
    have hf := ilt ha4 hf
    refine aw_iinc C [(1, .int a4), (0, .ref (gad G 58))] 1 (n := 1) rfl (by rw [ha4]; rfl) (by rw [hnL]; decide) rfl (by decide +kernel) rfl ?_
    refine aw_goto C (tgt := 2) (off := -24) (by decide +kernel) (by decide) ?_
    refine aw_sub [(0, .ref (gad G 58)), (1, .int a4)] [1, 0] rfl ?_
    exact hk2 a4 _ hf
theorem u_m_firstUnlike_2 {G : Cx} (C : CX G prog_14_method_80_code "PaperStarsModel") (CR0 : CR G (Option.some FieldType.int)) (E : LAin (gly G)) (hnL : gnL G = 5) (hgd : 2 ≤ gd G) {q : Int32 × Mm} (hgr : gr G = some (.int q.1)) (hgs : gsf G = q.2) : ∀ (n : Nat) (v1 : Int32) (st : Mm), f_m_firstUnlike_2 n v1 st = some q → AW G st 2 [(0, .ref (gad G 58)), (1, .int v1)] [] := by
  intro n
  induction n with
  | zero => intro v1 st hf; cases hf
  | succ n ih => intro v1 st hf; exact t_m_firstUnlike_2 C CR0 E hnL hgd hgr hgs (f_m_firstUnlike_2 n) ih v1 st hf
theorem t_m_firstUnlike {G : Cx} (C : CX G prog_14_method_80_code "PaperStarsModel") (CR0 : CR G (Option.some FieldType.int)) (E : LAin (gly G)) (hnL : gnL G = 5) (hgd : 2 ≤ gd G) {q : Int32 × Mm} (hgr : gr G = some (.int q.1)) (hgs : gsf G = q.2) (st : Mm) (hf : f_m_firstUnlike st = some q) : AW G st 0 [(0, .ref (gad G 58))] [] := by
  unfold f_m_firstUnlike at hf
  refine aw_iconst C (i0 := 0) (v := 0) (by decide) (by decide +kernel) rfl ?_
  refine aw_istore_n C [(1, .int (0 : Int32)), (0, .ref (gad G 58))] (j := 1) rfl (by rw [hnL]; decide) rfl (by decide +kernel) rfl ?_
  refine aw_sub [(0, .ref (gad G 58)), (1, .int (0 : Int32))] [1, 0] rfl ?_
  exact u_m_firstUnlike_2 C CR0 E hnL hgd hgr hgs _ (0 : Int32) _ hf
theorem c_m_firstUnlike {lay : Ly} (E : LAin lay) (st : Mm) (q : Int32 × Mm) (hf : f_m_firstUnlike st = some q) : Con 2 Y218 prog_14_method_80_code 5 (Option.some FieldType.int) lay (fun ad => [.ref (ad 58)]) st (some (.int q.1)) q.2 :=
  am_met yf_218.2.2.2.2.2 (fun ad => Nat.le_of_ble_eq_true rfl) (fun G C CR0 e1 e2 e3 e4 e5 => t_m_firstUnlike C CR0 (by rw [e1]; exact E) e2 (Nat.le_of_eq e5.symm) e3 e4 st hf)
def b_m_foldsSo_77 (k41 : Int32 → Int32 → Int32 → Int32 → Mm → Option (Int32 × Mm)) (v1 : Int32) (v2 : Int32) (v3 : Int32) (v4 : Int32) (s0 : Int32) (st : Mm) : Option (Int32 × Mm) :=
  (f_m_foldsOnce s0 st).bind (fun q1 => if q1.1 = 0 then (some ((0 : Int32), q1.2)) else (if inb (q1.2.1 58 12) 9 then lt_ (((sI q1.2 63 (q1.2.1 58 12).toNatClampNeg s0).1 58 12) + (1 : Int32)) (fun a4 => lt_ (v4 + (1 : Int32)) (fun a5 => k41 v1 v2 v3 a5 (sI (sI q1.2 63 (q1.2.1 58 12).toNatClampNeg s0) 58 12 a4))) else none))
def b_m_foldsSo_41 (k41 : Int32 → Int32 → Int32 → Int32 → Mm → Option (Int32 × Mm)) (v1 : Int32) (v2 : Int32) (v3 : Int32) (v4 : Int32) (st : Mm) : Option (Int32 × Mm) :=
  if ((v1 + v2) + v3) ≤ v4 then (some ((1 : Int32), st)) else (if v1 ≤ v4 then (if (v1 + v2) ≤ v4 then (b_m_foldsSo_77 k41 v1 v2 v3 v4 (100 : Int32) st) else (b_m_foldsSo_77 k41 v1 v2 v3 v4 (118 : Int32) st)) else (b_m_foldsSo_77 k41 v1 v2 v3 v4 (104 : Int32) st))
def f_m_foldsSo_41 : Nat → Int32 → Int32 → Int32 → Int32 → Mm → Option (Int32 × Mm)
  | 0 => fun _ _ _ _ _ => none
  | n + 1 => b_m_foldsSo_41 (f_m_foldsSo_41 n)
def f_m_foldsSo (v1 : Int32) (v2 : Int32) (v3 : Int32) (st : Mm) : Option (Int32 × Mm) :=
  (f_m_in v1 (0 : Int32) (4 : Int32) st).bind (fun q1 => if q1.1 = 0 then (some ((0 : Int32), q1.2)) else ((f_m_in v2 (0 : Int32) (4 : Int32) q1.2).bind (fun q3 => if q3.1 = 0 then (some ((0 : Int32), q3.2)) else ((f_m_in v3 (0 : Int32) (1 : Int32) q3.2).bind (fun q5 => if q5.1 = 0 then (some ((0 : Int32), q5.2)) else ((f_m_startsWedge q5.2).bind (fun q7 => f_m_foldsSo_41 1000000 v1 v2 v3 (0 : Int32) (sI q7.2 58 12 (0 : Int32)))))))))
theorem t_m_foldsSo_77 {G : Cx} (C : CX G prog_14_method_79_code "PaperStarsModel") (CR0 : CR G (Option.some FieldType.boolean)) (E : LAin (gly G)) (hnL : gnL G = 6) (hgd : 1 ≤ gd G) {q : Int32 × Mm} (hgr : gr G = some (.int q.1)) (hgs : gsf G = q.2) (k41 : Int32 → Int32 → Int32 → Int32 → Mm → Option (Int32 × Mm)) (hk41 : ∀ (v1 : Int32) (v2 : Int32) (v3 : Int32) (v4 : Int32) (st : Mm), k41 v1 v2 v3 v4 st = some q → AW G st 41 [(0, .ref (gad G 58)), (1, .int v1), (2, .int v2), (3, .int v3), (4, .int v4)] []) (v1 : Int32) (v2 : Int32) (v3 : Int32) (v4 : Int32) (s0 : Int32) (st : Mm) (hf : b_m_foldsSo_77 k41 v1 v2 v3 v4 s0 st = some q) : AW G st 77 [(0, .ref (gad G 58)), (1, .int v1), (2, .int v2), (3, .int v3), (4, .int v4)] [.int s0] := by
  unfold b_m_foldsSo_77 at hf
  refine aw_istore C [(5, .int s0), (0, .ref (gad G 58)), (1, .int v1), (2, .int v2), (3, .int v3), (4, .int v4)] (by rw [hnL]; decide) rfl (by decide +kernel) rfl ?_
  refine aw_aload_n C 0 1 (j := 0) rfl rfl (by decide +kernel) rfl ?_
  refine aw_iload C 5 0 rfl (by decide +kernel) rfl ?_
  obtain ⟨q1, hq1, hf⟩ := ibd hf
  refine aw_callV C (rest := []) (c_m_foldsOnce E s0 _ q1 hq1) tb_1175 yf_150 yi_150 (la_58 E) [.int s0] rfl rfl _ rfl (Nat.le_trans (by decide) hgd) (Nat.le_of_ble_eq_true rfl) (by decide +kernel) rfl ?_
  show AW _ _ _ _ [.int q1.1]
  refine aw_if_ne C (tgt := 90) (off := 5) (by decide +kernel) (by decide) rfl (fun c2 => ?_) (fun c2 => ?_)
  · have hf := ift c2 hf
    refine aw_iconst C (i0 := 0) (v := 0) (by decide) (by decide +kernel) rfl ?_
    exact aw_zretq C CR0 hgr hgs (by decide) hf (by decide +kernel)
  · have hf := iff_ c2 hf
    refine aw_aload_n C 0 1 (j := 0) rfl rfl (by decide +kernel) rfl ?_
    refine aw_getr C (k := 11) fc_12 (la_58 E) rfl (by decide) tb_953 (by decide +kernel) rfl ?_
    refine aw_aload_n C 0 1 (j := 0) rfl rfl (by decide +kernel) rfl ?_
    refine aw_get C (k := 12) fc_12 (la_58 E) rfl (by decide) tb_954 (by decide +kernel) rfl ?_
    refine aw_iload C 5 0 rfl (by decide +kernel) rfl ?_
    obtain ⟨g3, hf⟩ := igd hf
    refine aw_iast C (la_63 E) g3 (by decide +kernel) rfl ?_
    refine aw_aload_n C 0 1 (j := 0) rfl rfl (by decide +kernel) rfl ?_
    refine aw_aload_n C 0 1 (j := 0) rfl rfl (by decide +kernel) rfl ?_
    refine aw_get C (k := 12) fc_12 (la_58 E) rfl (by decide) tb_954 (by decide +kernel) rfl ?_
    refine aw_iconst C (i0 := 1) (v := 1) (by decide) (by decide +kernel) rfl ?_
    refine aw_iadd C (by decide +kernel) rfl ?_
    obtain ⟨a4, ha4⟩ : ∃ z, z = (((sI q1.2 63 (q1.2.1 58 12).toNatClampNeg s0).1 58 12) + (1 : Int32)) := ⟨_, rfl⟩
    refine aw_nmi ha4 ?_
    have hf := ilt ha4 hf
    refine aw_put C (k := 12) fc_12 (la_58 E) rfl (by decide) rfl rfl tb_954 (by decide +kernel) rfl ?_
    obtain ⟨a5, ha5⟩ : ∃ z, z = (v4 + (1 : Int32)) := ⟨_, rfl⟩
    have hf := ilt ha5 hf
    refine aw_iinc C [(4, .int a5), (5, .int s0), (0, .ref (gad G 58)), (1, .int v1), (2, .int v2), (3, .int v3)] 5 (n := 1) rfl (by rw [ha5]; rfl) (by rw [hnL]; decide) rfl (by decide +kernel) rfl ?_
    refine aw_goto C (tgt := 41) (off := -73) (by decide +kernel) (by decide) ?_
    refine aw_sub [(0, .ref (gad G 58)), (1, .int v1), (2, .int v2), (3, .int v3), (4, .int a5)] [2, 3, 4, 5, 0] rfl ?_
    exact hk41 v1 v2 v3 a5 _ hf
theorem t_m_foldsSo_41 {G : Cx} (C : CX G prog_14_method_79_code "PaperStarsModel") (CR0 : CR G (Option.some FieldType.boolean)) (E : LAin (gly G)) (hnL : gnL G = 6) (hgd : 1 ≤ gd G) {q : Int32 × Mm} (hgr : gr G = some (.int q.1)) (hgs : gsf G = q.2) (k41 : Int32 → Int32 → Int32 → Int32 → Mm → Option (Int32 × Mm)) (hk41 : ∀ (v1 : Int32) (v2 : Int32) (v3 : Int32) (v4 : Int32) (st : Mm), k41 v1 v2 v3 v4 st = some q → AW G st 41 [(0, .ref (gad G 58)), (1, .int v1), (2, .int v2), (3, .int v3), (4, .int v4)] []) (v1 : Int32) (v2 : Int32) (v3 : Int32) (v4 : Int32) (st : Mm) (hf : b_m_foldsSo_41 k41 v1 v2 v3 v4 st = some q) : AW G st 41 [(0, .ref (gad G 58)), (1, .int v1), (2, .int v2), (3, .int v3), (4, .int v4)] [] := by
  unfold b_m_foldsSo_41 at hf
  refine aw_iload C 4 4 rfl (by decide +kernel) rfl ?_
  refine aw_iload_n C 1 1 (j := 1) rfl rfl (by decide +kernel) rfl ?_
  refine aw_iload_n C 2 2 (j := 2) rfl rfl (by decide +kernel) rfl ?_
  refine aw_iadd C (by decide +kernel) rfl ?_
  refine aw_iload_n C 3 3 (j := 3) rfl rfl (by decide +kernel) rfl ?_
  refine aw_iadd C (by decide +kernel) rfl ?_
  refine aw_icmp_ge C (tgt := 117) (off := 69) (by decide +kernel) (by decide) rfl (fun c1 => ?_) (fun c1 => ?_)
  · have hf := ift c1 hf
    refine aw_iconst C (i0 := 1) (v := 1) (by decide) (by decide +kernel) rfl ?_
    exact aw_zretq C CR0 hgr hgs (by decide) hf (by decide +kernel)
  · have hf := iff_ c1 hf
    refine aw_iload C 4 4 rfl (by decide +kernel) rfl ?_
    refine aw_iload_n C 1 1 (j := 1) rfl rfl (by decide +kernel) rfl ?_
    refine aw_icmp_ge C (tgt := 62) (off := 8) (by decide +kernel) (by decide) rfl (fun c2 => ?_) (fun c2 => ?_)
    · have hf := ift c2 hf
      refine aw_iload C 4 4 rfl (by decide +kernel) rfl ?_
      refine aw_iload_n C 1 1 (j := 1) rfl rfl (by decide +kernel) rfl ?_
      refine aw_iload_n C 2 2 (j := 2) rfl rfl (by decide +kernel) rfl ?_
      refine aw_iadd C (by decide +kernel) rfl ?_
      refine aw_icmp_ge C (tgt := 75) (off := 8) (by decide +kernel) (by decide) rfl (fun c3 => ?_) (fun c3 => ?_)
      · have hf := ift c3 hf
        refine aw_bipush C (i0 := 100) (v := 100) (by decide) (by decide +kernel) rfl ?_
        exact t_m_foldsSo_77 C CR0 E hnL hgd hgr hgs k41 hk41 v1 v2 v3 v4 (100 : Int32) _ hf
      · have hf := iff_ c3 hf
        refine aw_bipush C (i0 := 118) (v := 118) (by decide) (by decide +kernel) rfl ?_
        refine aw_goto C (tgt := 77) (off := 5) (by decide +kernel) (by decide) ?_
        exact t_m_foldsSo_77 C CR0 E hnL hgd hgr hgs k41 hk41 v1 v2 v3 v4 (118 : Int32) _ hf
    · have hf := iff_ c2 hf
      refine aw_bipush C (i0 := 104) (v := 104) (by decide) (by decide +kernel) rfl ?_
      refine aw_goto C (tgt := 77) (off := 18) (by decide +kernel) (by decide) ?_
      exact t_m_foldsSo_77 C CR0 E hnL hgd hgr hgs k41 hk41 v1 v2 v3 v4 (104 : Int32) _ hf
theorem u_m_foldsSo_41 {G : Cx} (C : CX G prog_14_method_79_code "PaperStarsModel") (CR0 : CR G (Option.some FieldType.boolean)) (E : LAin (gly G)) (hnL : gnL G = 6) (hgd : 1 ≤ gd G) {q : Int32 × Mm} (hgr : gr G = some (.int q.1)) (hgs : gsf G = q.2) : ∀ (n : Nat) (v1 : Int32) (v2 : Int32) (v3 : Int32) (v4 : Int32) (st : Mm), f_m_foldsSo_41 n v1 v2 v3 v4 st = some q → AW G st 41 [(0, .ref (gad G 58)), (1, .int v1), (2, .int v2), (3, .int v3), (4, .int v4)] [] := by
  intro n
  induction n with
  | zero => intro v1 v2 v3 v4 st hf; cases hf
  | succ n ih => intro v1 v2 v3 v4 st hf; exact t_m_foldsSo_41 C CR0 E hnL hgd hgr hgs (f_m_foldsSo_41 n) ih v1 v2 v3 v4 st hf
theorem t_m_foldsSo {G : Cx} (C : CX G prog_14_method_79_code "PaperStarsModel") (CR0 : CR G (Option.some FieldType.boolean)) (E : LAin (gly G)) (hnL : gnL G = 6) (hgd : 1 ≤ gd G) {q : Int32 × Mm} (hgr : gr G = some (.int q.1)) (hgs : gsf G = q.2) (v1 : Int32) (v2 : Int32) (v3 : Int32) (st : Mm) (hf : f_m_foldsSo v1 v2 v3 st = some q) : AW G st 0 [(0, .ref (gad G 58)), (1, .int v1), (2, .int v2), (3, .int v3)] [] := by
  unfold f_m_foldsSo at hf
  refine aw_iload_n C 1 1 (j := 1) rfl rfl (by decide +kernel) rfl ?_
  refine aw_iconst C (i0 := 0) (v := 0) (by decide) (by decide +kernel) rfl ?_
  refine aw_iconst C (i0 := 4) (v := 4) (by decide) (by decide +kernel) rfl ?_
  obtain ⟨q1, hq1, hf⟩ := ibd hf
  refine aw_callS C (rest := []) (c_m_in E v1 (0 : Int32) (4 : Int32) _ q1 hq1) tb_1144 yf_142 tb_1145 rfl _ rfl (Nat.le_trans (by decide) hgd) (Nat.le_of_ble_eq_true rfl) (by decide +kernel) rfl ?_
  show AW _ _ _ _ [.int q1.1]
  refine aw_if_eq C (tgt := 27) (off := 21) (by decide +kernel) (by decide) rfl (fun c2 => ?_) (fun c2 => ?_)
  · have hf := ift c2 hf
    refine aw_iconst C (i0 := 0) (v := 0) (by decide) (by decide +kernel) rfl ?_
    exact aw_zretq C CR0 hgr hgs (by decide) hf (by decide +kernel)
  · have hf := iff_ c2 hf
    refine aw_iload_n C 2 2 (j := 2) rfl rfl (by decide +kernel) rfl ?_
    refine aw_iconst C (i0 := 0) (v := 0) (by decide) (by decide +kernel) rfl ?_
    refine aw_iconst C (i0 := 4) (v := 4) (by decide) (by decide +kernel) rfl ?_
    obtain ⟨q3, hq3, hf⟩ := ibd hf
    refine aw_callS C (rest := []) (c_m_in E v2 (0 : Int32) (4 : Int32) _ q3 hq3) tb_1144 yf_142 tb_1145 rfl _ rfl (Nat.le_trans (by decide) hgd) (Nat.le_of_ble_eq_true rfl) (by decide +kernel) rfl ?_
    show AW _ _ _ _ [.int q3.1]
    refine aw_if_eq C (tgt := 27) (off := 12) (by decide +kernel) (by decide) rfl (fun c4 => ?_) (fun c4 => ?_)
    · have hf := ift c4 hf
      refine aw_iconst C (i0 := 0) (v := 0) (by decide) (by decide +kernel) rfl ?_
      exact aw_zretq C CR0 hgr hgs (by decide) hf (by decide +kernel)
    · have hf := iff_ c4 hf
      refine aw_iload_n C 3 3 (j := 3) rfl rfl (by decide +kernel) rfl ?_
      refine aw_iconst C (i0 := 0) (v := 0) (by decide) (by decide +kernel) rfl ?_
      refine aw_iconst C (i0 := 1) (v := 1) (by decide) (by decide +kernel) rfl ?_
      obtain ⟨q5, hq5, hf⟩ := ibd hf
      refine aw_callS C (rest := []) (c_m_in E v3 (0 : Int32) (1 : Int32) _ q5 hq5) tb_1144 yf_142 tb_1145 rfl _ rfl (Nat.le_trans (by decide) hgd) (Nat.le_of_ble_eq_true rfl) (by decide +kernel) rfl ?_
      show AW _ _ _ _ [.int q5.1]
      refine aw_if_ne C (tgt := 29) (off := 5) (by decide +kernel) (by decide) rfl (fun c6 => ?_) (fun c6 => ?_)
      · have hf := ift c6 hf
        refine aw_iconst C (i0 := 0) (v := 0) (by decide) (by decide +kernel) rfl ?_
        exact aw_zretq C CR0 hgr hgs (by decide) hf (by decide +kernel)
      · have hf := iff_ c6 hf
        refine aw_aload_n C 0 0 (j := 0) rfl rfl (by decide +kernel) rfl ?_
        obtain ⟨q7, hq7, hf⟩ := ibd hf
        refine aw_callV C (rest := []) (c_m_startsWedge E _ q7 hq7) tb_1167 yf_148 yi_148 (la_58 E) [] rfl rfl _ rfl (Nat.le_trans (by decide) hgd) (Nat.le_of_ble_eq_true rfl) (by decide +kernel) rfl ?_
        show AW _ _ _ _ []
        refine aw_aload_n C 0 0 (j := 0) rfl rfl (by decide +kernel) rfl ?_
        refine aw_iconst C (i0 := 0) (v := 0) (by decide) (by decide +kernel) rfl ?_
        refine aw_put C (k := 12) fc_12 (la_58 E) rfl (by decide) rfl rfl tb_954 (by decide +kernel) rfl ?_
        refine aw_iconst C (i0 := 0) (v := 0) (by decide) (by decide +kernel) rfl ?_
        refine aw_istore C [(4, .int (0 : Int32)), (0, .ref (gad G 58)), (1, .int v1), (2, .int v2), (3, .int v3)] (by rw [hnL]; decide) rfl (by decide +kernel) rfl ?_
        refine aw_sub [(0, .ref (gad G 58)), (1, .int v1), (2, .int v2), (3, .int v3), (4, .int (0 : Int32))] [1, 2, 3, 4, 0] rfl ?_
        exact u_m_foldsSo_41 C CR0 E hnL hgd hgr hgs _ v1 v2 v3 (0 : Int32) _ hf
theorem c_m_foldsSo {lay : Ly} (E : LAin lay) (v1 : Int32) (v2 : Int32) (v3 : Int32) (st : Mm) (q : Int32 × Mm) (hf : f_m_foldsSo v1 v2 v3 st = some q) : Con 1 Y217 prog_14_method_79_code 6 (Option.some FieldType.boolean) lay (fun ad => [.ref (ad 58), .int v1, .int v2, .int v3]) st (some (.int q.1)) q.2 :=
  am_met yf_217.2.2.2.2.2 (fun ad => Nat.le_of_ble_eq_true rfl) (fun G C CR0 e1 e2 e3 e4 e5 => t_m_foldsSo C CR0 (by rw [e1]; exact E) e2 (Nat.le_of_eq e5.symm) e3 e4 v1 v2 v3 st hf)
def f_m_fits (v1 : Int32) (v2 : Int32) (v3 : Int32) (st : Mm) : Option (Int32 × Mm) :=
  (f_m_foldsSo v1 v2 v3 st).bind (fun q1 => if q1.1 = 0 then (some ((-1 : Int32), q1.2)) else ((f_m_firstUnlike q1.2).bind (fun q3 => if q3.1 = (-1 : Int32) then (some ((1 : Int32), q3.2)) else (some (((-10 : Int32) - q3.1), q3.2)))))
theorem t_m_fits {G : Cx} (C : CX G prog_14_method_81_code "PaperStarsModel") (CR0 : CR G (Option.some FieldType.int)) (E : LAin (gly G)) (hnL : gnL G = 5) (hgd : 3 ≤ gd G) {q : Int32 × Mm} (hgr : gr G = some (.int q.1)) (hgs : gsf G = q.2) (v1 : Int32) (v2 : Int32) (v3 : Int32) (st : Mm) (hf : f_m_fits v1 v2 v3 st = some q) : AW G st 0 [(0, .ref (gad G 58)), (1, .int v1), (2, .int v2), (3, .int v3)] [] := by
  unfold f_m_fits at hf
  refine aw_aload_n C 0 0 (j := 0) rfl rfl (by decide +kernel) rfl ?_
  refine aw_iload_n C 1 1 (j := 1) rfl rfl (by decide +kernel) rfl ?_
  refine aw_iload_n C 2 2 (j := 2) rfl rfl (by decide +kernel) rfl ?_
  refine aw_iload_n C 3 3 (j := 3) rfl rfl (by decide +kernel) rfl ?_
  obtain ⟨q1, hq1, hf⟩ := ibd hf
  refine aw_callV C (rest := []) (c_m_foldsSo E v1 v2 v3 _ q1 hq1) tb_1439 yf_217 yi_217 (la_58 E) [.int v1, .int v2, .int v3] rfl rfl _ rfl (Nat.le_trans (by decide) hgd) (Nat.le_of_ble_eq_true rfl) (by decide +kernel) rfl ?_
  show AW _ _ _ _ [.int q1.1]
  refine aw_if_ne C (tgt := 12) (off := 5) (by decide +kernel) (by decide) rfl (fun c2 => ?_) (fun c2 => ?_)
  · have hf := ift c2 hf
    refine aw_iconst C (i0 := -1) (v := -1) (by decide) (by decide +kernel) rfl ?_
    exact aw_iretq C CR0 hgr hgs hf (by decide +kernel)
  · have hf := iff_ c2 hf
    refine aw_aload_n C 0 0 (j := 0) rfl rfl (by decide +kernel) rfl ?_
    obtain ⟨q3, hq3, hf⟩ := ibd hf
    refine aw_callV C (rest := []) (c_m_firstUnlike E _ q3 hq3) tb_1443 yf_218 yi_218 (la_58 E) [] rfl rfl _ rfl (Nat.le_trans (by decide) hgd) (Nat.le_of_ble_eq_true rfl) (by decide +kernel) rfl ?_
    show AW _ _ _ _ [.int q3.1]
    refine aw_istore C [(4, .int q3.1), (0, .ref (gad G 58)), (1, .int v1), (2, .int v2), (3, .int v3)] (by rw [hnL]; decide) rfl (by decide +kernel) rfl ?_
    refine aw_iload C 4 0 rfl (by decide +kernel) rfl ?_
    refine aw_iconst C (i0 := -1) (v := -1) (by decide) (by decide +kernel) rfl ?_
    refine aw_icmp_ne C (tgt := 28) (off := 7) (by decide +kernel) (by decide) rfl (fun c4 => ?_) (fun c4 => ?_)
    · have hf := ift c4 hf
      refine aw_iconst C (i0 := 1) (v := 1) (by decide) (by decide +kernel) rfl ?_
      refine aw_goto C (tgt := 33) (off := 8) (by decide +kernel) (by decide) ?_
      exact aw_iretq C CR0 hgr hgs hf (by decide +kernel)
    · have hf := iff_ c4 hf
      refine aw_bipush C (i0 := -10) (v := -10) (by decide) (by decide +kernel) rfl ?_
      refine aw_iload C 4 0 rfl (by decide +kernel) rfl ?_
      refine aw_isub C (by decide +kernel) rfl ?_
      exact aw_iretq C CR0 hgr hgs hf (by decide +kernel)
theorem c_m_fits {lay : Ly} (E : LAin lay) (v1 : Int32) (v2 : Int32) (v3 : Int32) (st : Mm) (q : Int32 × Mm) (hf : f_m_fits v1 v2 v3 st = some q) : Con 3 Y216 prog_14_method_81_code 5 (Option.some FieldType.int) lay (fun ad => [.ref (ad 58), .int v1, .int v2, .int v3]) st (some (.int q.1)) q.2 :=
  am_met yf_216.2.2.2.2.2 (fun ad => Nat.le_of_ble_eq_true rfl) (fun G C CR0 e1 e2 e3 e4 e5 => t_m_fits C CR0 (by rw [e1]; exact E) e2 (Nat.le_of_eq e5.symm) e3 e4 v1 v2 v3 st hf)
def b_m_wantsCutMany_4 (k4 : Int32 → Int32 → Mm → Option (Int32 × Mm)) (v1 : Int32) (v2 : Int32) (st : Mm) : Option (Int32 × Mm) :=
  if (256 : Int32) ≤ v2 then (some (v1, st)) else (if inb v2 256 then if (st.1 78 v2.toNatClampNeg) = 0 then (lt_ (v1 + (0 : Int32)) (fun a4 => lt_ (v2 + (1 : Int32)) (fun a5 => k4 a4 a5 st))) else (lt_ (v1 + (1 : Int32)) (fun a6 => lt_ (v2 + (1 : Int32)) (fun a7 => k4 a6 a7 st))) else none)
def f_m_wantsCutMany_4 : Nat → Int32 → Int32 → Mm → Option (Int32 × Mm)
  | 0 => fun _ _ _ => none
  | n + 1 => b_m_wantsCutMany_4 (f_m_wantsCutMany_4 n)
def f_m_wantsCutMany (st : Mm) : Option (Int32 × Mm) :=
  f_m_wantsCutMany_4 1000000 (0 : Int32) (0 : Int32) st
theorem t_m_wantsCutMany_4 {G : Cx} (C : CX G prog_14_method_82_code "PaperStarsModel") (CR0 : CR G (Option.some FieldType.int)) (E : LAin (gly G)) (hnL : gnL G = 3) (hgd : 0 ≤ gd G) {q : Int32 × Mm} (hgr : gr G = some (.int q.1)) (hgs : gsf G = q.2) (k4 : Int32 → Int32 → Mm → Option (Int32 × Mm)) (hk4 : ∀ (v1 : Int32) (v2 : Int32) (st : Mm), k4 v1 v2 st = some q → AW G st 4 [(0, .ref (gad G 58)), (1, .int v1), (2, .int v2)] []) (v1 : Int32) (v2 : Int32) (st : Mm) (hf : b_m_wantsCutMany_4 k4 v1 v2 st = some q) : AW G st 4 [(0, .ref (gad G 58)), (1, .int v1), (2, .int v2)] [] := by
  unfold b_m_wantsCutMany_4 at hf
  refine aw_iload_n C 2 2 (j := 2) rfl rfl (by decide +kernel) rfl ?_
  refine aw_sipush C (i0 := 256) (v := 256) (by decide) (by decide +kernel) rfl ?_
  refine aw_icmp_ge C (tgt := 34) (off := 26) (by decide +kernel) (by decide) rfl (fun c1 => ?_) (fun c1 => ?_)
  · have hf := ift c1 hf
    refine aw_iload_n C 1 1 (j := 1) rfl rfl (by decide +kernel) rfl ?_
    exact aw_iretq C CR0 hgr hgs hf (by decide +kernel)
  · have hf := iff_ c1 hf
    refine aw_iload_n C 1 1 (j := 1) rfl rfl (by decide +kernel) rfl ?_
    refine aw_aload_n C 0 0 (j := 0) rfl rfl (by decide +kernel) rfl ?_
    refine aw_getr C (k := 45) fc_12 (la_58 E) rfl (by decide) tb_987 (by decide +kernel) rfl ?_
    refine aw_iload_n C 2 2 (j := 2) rfl rfl (by decide +kernel) rfl ?_
    obtain ⟨g2, hf⟩ := igd hf
    refine aw_zald C (la_78 E) g2 (by decide +kernel) rfl ?_
    refine aw_if_eq C (tgt := 25) (off := 7) (by decide +kernel) (by decide) rfl (fun c3 => ?_) (fun c3 => ?_)
    · have hf := ift c3 hf
      refine aw_iconst C (i0 := 0) (v := 0) (by decide) (by decide +kernel) rfl ?_
      refine aw_iadd C (by decide +kernel) rfl ?_
      obtain ⟨a4, ha4⟩ : ∃ z, z = (v1 + (0 : Int32)) := ⟨_, rfl⟩
      refine aw_nmi ha4 ?_
      have hf := ilt ha4 hf
      refine aw_istore_n C [(1, .int a4), (0, .ref (gad G 58)), (2, .int v2)] (j := 1) rfl (by rw [hnL]; decide) rfl (by decide +kernel) rfl ?_
      obtain ⟨a5, ha5⟩ : ∃ z, z = (v2 + (1 : Int32)) := ⟨_, rfl⟩
      have hf := ilt ha5 hf
      refine aw_iinc C [(2, .int a5), (1, .int a4), (0, .ref (gad G 58))] 2 (n := 1) rfl (by rw [ha5]; rfl) (by rw [hnL]; decide) rfl (by decide +kernel) rfl ?_
      refine aw_goto C (tgt := 4) (off := -27) (by decide +kernel) (by decide) ?_
      refine aw_sub [(0, .ref (gad G 58)), (1, .int a4), (2, .int a5)] [2, 1, 0] rfl ?_
      exact hk4 a4 a5 _ hf
    · have hf := iff_ c3 hf
      refine aw_iconst C (i0 := 1) (v := 1) (by decide) (by decide +kernel) rfl ?_
      refine aw_goto C (tgt := 26) (off := 4) (by decide +kernel) (by decide) ?_
      refine aw_iadd C (by decide +kernel) rfl ?_
      obtain ⟨a6, ha6⟩ : ∃ z, z = (v1 + (1 : Int32)) := ⟨_, rfl⟩
      refine aw_nmi ha6 ?_
      have hf := ilt ha6 hf
      refine aw_istore_n C [(1, .int a6), (0, .ref (gad G 58)), (2, .int v2)] (j := 1) rfl (by rw [hnL]; decide) rfl (by decide +kernel) rfl ?_
      obtain ⟨a7, ha7⟩ : ∃ z, z = (v2 + (1 : Int32)) := ⟨_, rfl⟩
      have hf := ilt ha7 hf
      refine aw_iinc C [(2, .int a7), (1, .int a6), (0, .ref (gad G 58))] 2 (n := 1) rfl (by rw [ha7]; rfl) (by rw [hnL]; decide) rfl (by decide +kernel) rfl ?_
      refine aw_goto C (tgt := 4) (off := -27) (by decide +kernel) (by decide) ?_
      refine aw_sub [(0, .ref (gad G 58)), (1, .int a6), (2, .int a7)] [2, 1, 0] rfl ?_
      exact hk4 a6 a7 _ hf
theorem u_m_wantsCutMany_4 {G : Cx} (C : CX G prog_14_method_82_code "PaperStarsModel") (CR0 : CR G (Option.some FieldType.int)) (E : LAin (gly G)) (hnL : gnL G = 3) (hgd : 0 ≤ gd G) {q : Int32 × Mm} (hgr : gr G = some (.int q.1)) (hgs : gsf G = q.2) : ∀ (n : Nat) (v1 : Int32) (v2 : Int32) (st : Mm), f_m_wantsCutMany_4 n v1 v2 st = some q → AW G st 4 [(0, .ref (gad G 58)), (1, .int v1), (2, .int v2)] [] := by
  intro n
  induction n with
  | zero => intro v1 v2 st hf; cases hf
  | succ n ih => intro v1 v2 st hf; exact t_m_wantsCutMany_4 C CR0 E hnL hgd hgr hgs (f_m_wantsCutMany_4 n) ih v1 v2 st hf
theorem t_m_wantsCutMany {G : Cx} (C : CX G prog_14_method_82_code "PaperStarsModel") (CR0 : CR G (Option.some FieldType.int)) (E : LAin (gly G)) (hnL : gnL G = 3) (hgd : 0 ≤ gd G) {q : Int32 × Mm} (hgr : gr G = some (.int q.1)) (hgs : gsf G = q.2) (st : Mm) (hf : f_m_wantsCutMany st = some q) : AW G st 0 [(0, .ref (gad G 58))] [] := by
  unfold f_m_wantsCutMany at hf
  refine aw_iconst C (i0 := 0) (v := 0) (by decide) (by decide +kernel) rfl ?_
  refine aw_istore_n C [(1, .int (0 : Int32)), (0, .ref (gad G 58))] (j := 1) rfl (by rw [hnL]; decide) rfl (by decide +kernel) rfl ?_
  refine aw_iconst C (i0 := 0) (v := 0) (by decide) (by decide +kernel) rfl ?_
  refine aw_istore_n C [(2, .int (0 : Int32)), (1, .int (0 : Int32)), (0, .ref (gad G 58))] (j := 2) rfl (by rw [hnL]; decide) rfl (by decide +kernel) rfl ?_
  refine aw_sub [(0, .ref (gad G 58)), (1, .int (0 : Int32)), (2, .int (0 : Int32))] [2, 1, 0] rfl ?_
  exact u_m_wantsCutMany_4 C CR0 E hnL hgd hgr hgs _ (0 : Int32) (0 : Int32) _ hf
theorem c_m_wantsCutMany {lay : Ly} (E : LAin lay) (st : Mm) (q : Int32 × Mm) (hf : f_m_wantsCutMany st = some q) : Con 0 Y220 prog_14_method_82_code 3 (Option.some FieldType.int) lay (fun ad => [.ref (ad 58)]) st (some (.int q.1)) q.2 :=
  am_met yf_220.2.2.2.2.2 (fun ad => Nat.le_of_ble_eq_true rfl) (fun G C CR0 e1 e2 e3 e4 e5 => t_m_wantsCutMany C CR0 (by rw [e1]; exact E) e2 (Nat.le_of_eq e5.symm) e3 e4 st hf)
def b_m_bestFold_91 (v1 : Int32) (v2 : Int32) (v3 : Int32) (v4 : Int32) (st : Mm) : Option (Int32 × Mm) :=
  if v1 = 0 then (some ((v2 / (10 : Int32)), st)) else (if v1 = (1 : Int32) then (some (((v2 / (2 : Int32)) - (v2 / (2 : Int32)) / (5 : Int32) * (5 : Int32)), st)) else (if v1 = (2 : Int32) then (some ((v2 - v2 / (2 : Int32) * (2 : Int32)), st)) else (if v1 = (3 : Int32) then (some (v3, st)) else (some (v4, st)))))
def b_m_bestFold_23 (k23 : Int32 → Int32 → Int32 → Int32 → Int32 → Mm → Option (Int32 × Mm)) (v1 : Int32) (v2 : Int32) (v3 : Int32) (v4 : Int32) (v5 : Int32) (st : Mm) : Option (Int32 × Mm) :=
  if (50 : Int32) ≤ v5 then (b_m_bestFold_91 v1 v2 v3 v4 st) else ((f_m_foldsSo (v5 / (10 : Int32)) ((v5 / (2 : Int32)) - (v5 / (2 : Int32)) / (5 : Int32) * (5 : Int32)) (v5 - v5 / (2 : Int32) * (2 : Int32)) st).bind (fun q2 => if q2.1 = 0 then (lt_ (v5 + (1 : Int32)) (fun a4 => k23 v1 v2 v3 v4 a4 q2.2)) else ((f_m_firstUnlike q2.2).bind (fun q5 => if q5.1 = (-1 : Int32) then ((f_m_placeMany q5.2).bind (fun q7 => if q7.1 < v3 then ((f_m_placeMany q7.2).bind (fun q9 => (f_m_wantsCutMany q9.2).bind (fun q10 => lt_ (v5 + (1 : Int32)) (fun a11 => k23 v1 v5 q9.1 q10.1 a11 q10.2)))) else (lt_ (v5 + (1 : Int32)) (fun a12 => k23 v1 v2 v3 v4 a12 q7.2)))) else (lt_ (v5 + (1 : Int32)) (fun a13 => k23 v1 v2 v3 v4 a13 q5.2))))))
def f_m_bestFold_23 : Nat → Int32 → Int32 → Int32 → Int32 → Int32 → Mm → Option (Int32 × Mm)
  | 0 => fun _ _ _ _ _ _ => none
  | n + 1 => b_m_bestFold_23 (f_m_bestFold_23 n)
def f_m_bestFold (v1 : Int32) (st : Mm) : Option (Int32 × Mm) :=
  (f_m_in v1 (0 : Int32) (4 : Int32) st).bind (fun q1 => if q1.1 = 0 then (some ((-1 : Int32), q1.2)) else (f_m_bestFold_23 1000000 v1 (0 : Int32) (1000000000 : Int32) (0 : Int32) (0 : Int32) q1.2))
theorem t_m_bestFold_91 {G : Cx} (C : CX G prog_14_method_83_code "PaperStarsModel") (CR0 : CR G (Option.some FieldType.int)) (E : LAin (gly G)) (hnL : gnL G = 6) (hgd : 3 ≤ gd G) {q : Int32 × Mm} (hgr : gr G = some (.int q.1)) (hgs : gsf G = q.2) (v1 : Int32) (v2 : Int32) (v3 : Int32) (v4 : Int32) (st : Mm) (hf : b_m_bestFold_91 v1 v2 v3 v4 st = some q) : AW G st 91 [(1, .int v1), (2, .int v2), (3, .int v3), (4, .int v4)] [] := by
  unfold b_m_bestFold_91 at hf
  refine aw_iload_n C 1 0 (j := 1) rfl rfl (by decide +kernel) rfl ?_
  refine aw_if_ne C (tgt := 102) (off := 10) (by decide +kernel) (by decide) rfl (fun c1 => ?_) (fun c1 => ?_)
  · have hf := ift c1 hf
    refine aw_iload_n C 2 1 (j := 2) rfl rfl (by decide +kernel) rfl ?_
    refine aw_bipush C (i0 := 10) (v := 10) (by decide) (by decide +kernel) rfl ?_
    refine aw_idiv C (by decide) (by decide +kernel) rfl ?_
    refine aw_goto C (tgt := 137) (off := 38) (by decide +kernel) (by decide) ?_
    exact aw_iretq C CR0 hgr hgs hf (by decide +kernel)
  · have hf := iff_ c1 hf
    refine aw_iload_n C 1 0 (j := 1) rfl rfl (by decide +kernel) rfl ?_
    refine aw_iconst C (i0 := 1) (v := 1) (by decide) (by decide +kernel) rfl ?_
    refine aw_icmp_ne C (tgt := 115) (off := 11) (by decide +kernel) (by decide) rfl (fun c2 => ?_) (fun c2 => ?_)
    · have hf := ift c2 hf
      refine aw_iload_n C 2 1 (j := 2) rfl rfl (by decide +kernel) rfl ?_
      refine aw_iconst C (i0 := 2) (v := 2) (by decide) (by decide +kernel) rfl ?_
      refine aw_idiv C (by decide) (by decide +kernel) rfl ?_
      refine aw_iconst C (i0 := 5) (v := 5) (by decide) (by decide +kernel) rfl ?_
      refine aw_irem C (by decide) (by decide +kernel) rfl ?_
      refine aw_goto C (tgt := 137) (off := 25) (by decide +kernel) (by decide) ?_
      exact aw_iretq C CR0 hgr hgs hf (by decide +kernel)
    · have hf := iff_ c2 hf
      refine aw_iload_n C 1 0 (j := 1) rfl rfl (by decide +kernel) rfl ?_
      refine aw_iconst C (i0 := 2) (v := 2) (by decide) (by decide +kernel) rfl ?_
      refine aw_icmp_ne C (tgt := 126) (off := 9) (by decide +kernel) (by decide) rfl (fun c3 => ?_) (fun c3 => ?_)
      · have hf := ift c3 hf
        refine aw_iload_n C 2 1 (j := 2) rfl rfl (by decide +kernel) rfl ?_
        refine aw_iconst C (i0 := 2) (v := 2) (by decide) (by decide +kernel) rfl ?_
        refine aw_irem C (by decide) (by decide +kernel) rfl ?_
        refine aw_goto C (tgt := 137) (off := 14) (by decide +kernel) (by decide) ?_
        exact aw_iretq C CR0 hgr hgs hf (by decide +kernel)
      · have hf := iff_ c3 hf
        refine aw_iload_n C 1 0 (j := 1) rfl rfl (by decide +kernel) rfl ?_
        refine aw_iconst C (i0 := 3) (v := 3) (by decide) (by decide +kernel) rfl ?_
        refine aw_icmp_ne C (tgt := 135) (off := 7) (by decide +kernel) (by decide) rfl (fun c4 => ?_) (fun c4 => ?_)
        · have hf := ift c4 hf
          refine aw_iload_n C 3 2 (j := 3) rfl rfl (by decide +kernel) rfl ?_
          refine aw_goto C (tgt := 137) (off := 5) (by decide +kernel) (by decide) ?_
          exact aw_iretq C CR0 hgr hgs hf (by decide +kernel)
        · have hf := iff_ c4 hf
          refine aw_iload C 4 3 rfl (by decide +kernel) rfl ?_
          exact aw_iretq C CR0 hgr hgs hf (by decide +kernel)
theorem t_m_bestFold_23 {G : Cx} (C : CX G prog_14_method_83_code "PaperStarsModel") (CR0 : CR G (Option.some FieldType.int)) (E : LAin (gly G)) (hnL : gnL G = 6) (hgd : 3 ≤ gd G) {q : Int32 × Mm} (hgr : gr G = some (.int q.1)) (hgs : gsf G = q.2) (k23 : Int32 → Int32 → Int32 → Int32 → Int32 → Mm → Option (Int32 × Mm)) (hk23 : ∀ (v1 : Int32) (v2 : Int32) (v3 : Int32) (v4 : Int32) (v5 : Int32) (st : Mm), k23 v1 v2 v3 v4 v5 st = some q → AW G st 23 [(0, .ref (gad G 58)), (1, .int v1), (2, .int v2), (3, .int v3), (4, .int v4), (5, .int v5)] []) (v1 : Int32) (v2 : Int32) (v3 : Int32) (v4 : Int32) (v5 : Int32) (st : Mm) (hf : b_m_bestFold_23 k23 v1 v2 v3 v4 v5 st = some q) : AW G st 23 [(0, .ref (gad G 58)), (1, .int v1), (2, .int v2), (3, .int v3), (4, .int v4), (5, .int v5)] [] := by
  unfold b_m_bestFold_23 at hf
  refine aw_iload C 5 5 rfl (by decide +kernel) rfl ?_
  refine aw_bipush C (i0 := 50) (v := 50) (by decide) (by decide +kernel) rfl ?_
  refine aw_icmp_ge C (tgt := 91) (off := 64) (by decide +kernel) (by decide) rfl (fun c1 => ?_) (fun c1 => ?_)
  · have hf := ift c1 hf
    refine aw_sub [(1, .int v1), (2, .int v2), (3, .int v3), (4, .int v4)] [1, 2, 3, 4] rfl ?_
    exact t_m_bestFold_91 C CR0 E hnL hgd hgr hgs v1 v2 v3 v4 _ hf
  · have hf := iff_ c1 hf
    refine aw_aload_n C 0 0 (j := 0) rfl rfl (by decide +kernel) rfl ?_
    refine aw_iload C 5 5 rfl (by decide +kernel) rfl ?_
    refine aw_bipush C (i0 := 10) (v := 10) (by decide) (by decide +kernel) rfl ?_
    refine aw_idiv C (by decide) (by decide +kernel) rfl ?_
    refine aw_iload C 5 5 rfl (by decide +kernel) rfl ?_
    refine aw_iconst C (i0 := 2) (v := 2) (by decide) (by decide +kernel) rfl ?_
    refine aw_idiv C (by decide) (by decide +kernel) rfl ?_
    refine aw_iconst C (i0 := 5) (v := 5) (by decide) (by decide +kernel) rfl ?_
    refine aw_irem C (by decide) (by decide +kernel) rfl ?_
    refine aw_iload C 5 5 rfl (by decide +kernel) rfl ?_
    refine aw_iconst C (i0 := 2) (v := 2) (by decide) (by decide +kernel) rfl ?_
    refine aw_irem C (by decide) (by decide +kernel) rfl ?_
    obtain ⟨q2, hq2, hf⟩ := ibd hf
    refine aw_callV C (rest := []) (c_m_foldsSo E (v5 / (10 : Int32)) ((v5 / (2 : Int32)) - (v5 / (2 : Int32)) / (5 : Int32) * (5 : Int32)) (v5 - v5 / (2 : Int32) * (2 : Int32)) _ q2 hq2) tb_1439 yf_217 yi_217 (la_58 E) [.int (v5 / (10 : Int32)), .int ((v5 / (2 : Int32)) - (v5 / (2 : Int32)) / (5 : Int32) * (5 : Int32)), .int (v5 - v5 / (2 : Int32) * (2 : Int32))] rfl rfl _ rfl (Nat.le_trans (by decide) hgd) (Nat.le_of_ble_eq_true rfl) (by decide +kernel) rfl ?_
    show AW _ _ _ _ [.int q2.1]
    refine aw_if_eq C (tgt := 85) (off := 36) (by decide +kernel) (by decide) rfl (fun c3 => ?_) (fun c3 => ?_)
    · have hf := ift c3 hf
      obtain ⟨a4, ha4⟩ : ∃ z, z = (v5 + (1 : Int32)) := ⟨_, rfl⟩
      have hf := ilt ha4 hf
      refine aw_iinc C [(5, .int a4), (0, .ref (gad G 58)), (1, .int v1), (2, .int v2), (3, .int v3), (4, .int v4)] 5 (n := 1) rfl (by rw [ha4]; rfl) (by rw [hnL]; decide) rfl (by decide +kernel) rfl ?_
      refine aw_goto C (tgt := 23) (off := -65) (by decide +kernel) (by decide) ?_
      refine aw_sub [(0, .ref (gad G 58)), (1, .int v1), (2, .int v2), (3, .int v3), (4, .int v4), (5, .int a4)] [1, 2, 3, 4, 5, 0] rfl ?_
      exact hk23 v1 v2 v3 v4 a4 _ hf
    · have hf := iff_ c3 hf
      refine aw_aload_n C 0 0 (j := 0) rfl rfl (by decide +kernel) rfl ?_
      obtain ⟨q5, hq5, hf⟩ := ibd hf
      refine aw_callV C (rest := []) (c_m_firstUnlike E _ q5 hq5) tb_1443 yf_218 yi_218 (la_58 E) [] rfl rfl _ rfl (Nat.le_trans (by decide) hgd) (Nat.le_of_ble_eq_true rfl) (by decide +kernel) rfl ?_
      show AW _ _ _ _ [.int q5.1]
      refine aw_iconst C (i0 := -1) (v := -1) (by decide) (by decide +kernel) rfl ?_
      refine aw_icmp_ne C (tgt := 85) (off := 28) (by decide +kernel) (by decide) rfl (fun c6 => ?_) (fun c6 => ?_)
      · have hf := ift c6 hf
        refine aw_aload_n C 0 0 (j := 0) rfl rfl (by decide +kernel) rfl ?_
        obtain ⟨q7, hq7, hf⟩ := ibd hf
        refine aw_callV C (rest := []) (c_m_placeMany E _ q7 hq7) tb_1308 yf_184 yi_184 (la_58 E) [] rfl rfl _ rfl (Nat.le_trans (by decide) hgd) (Nat.le_of_ble_eq_true rfl) (by decide +kernel) rfl ?_
        show AW _ _ _ _ [.int q7.1]
        refine aw_iload_n C 3 3 (j := 3) rfl rfl (by decide +kernel) rfl ?_
        refine aw_icmp_lt C (tgt := 71) (off := 6) (by decide +kernel) (by decide) rfl (fun c8 => ?_) (fun c8 => ?_)
        · have hf := ift c8 hf
          refine aw_iload C 5 5 rfl (by decide +kernel) rfl ?_
          refine aw_istore_n C [(2, .int v5), (0, .ref (gad G 58)), (1, .int v1), (3, .int v3), (4, .int v4), (5, .int v5)] (j := 2) rfl (by rw [hnL]; decide) rfl (by decide +kernel) rfl ?_
          refine aw_aload_n C 0 1 (j := 0) rfl rfl (by decide +kernel) rfl ?_
          obtain ⟨q9, hq9, hf⟩ := ibd hf
          refine aw_callV C (rest := []) (c_m_placeMany E _ q9 hq9) tb_1308 yf_184 yi_184 (la_58 E) [] rfl rfl _ rfl (Nat.le_trans (by decide) hgd) (Nat.le_of_ble_eq_true rfl) (by decide +kernel) rfl ?_
          show AW _ _ _ _ [.int q9.1]
          refine aw_istore_n C [(3, .int q9.1), (2, .int v5), (0, .ref (gad G 58)), (1, .int v1), (4, .int v4), (5, .int v5)] (j := 3) rfl (by rw [hnL]; decide) rfl (by decide +kernel) rfl ?_
          refine aw_aload_n C 0 2 (j := 0) rfl rfl (by decide +kernel) rfl ?_
          obtain ⟨q10, hq10, hf⟩ := ibd hf
          refine aw_callV C (rest := []) (c_m_wantsCutMany E _ q10 hq10) tb_1451 yf_220 yi_220 (la_58 E) [] rfl rfl _ rfl (Nat.le_trans (by decide) hgd) (Nat.le_of_ble_eq_true rfl) (by decide +kernel) rfl ?_
          show AW _ _ _ _ [.int q10.1]
          refine aw_istore C [(4, .int q10.1), (3, .int q9.1), (2, .int v5), (0, .ref (gad G 58)), (1, .int v1), (5, .int v5)] (by rw [hnL]; decide) rfl (by decide +kernel) rfl ?_
          obtain ⟨a11, ha11⟩ : ∃ z, z = (v5 + (1 : Int32)) := ⟨_, rfl⟩
          have hf := ilt ha11 hf
          refine aw_iinc C [(5, .int a11), (4, .int q10.1), (3, .int q9.1), (2, .int v5), (0, .ref (gad G 58)), (1, .int v1)] 5 (n := 1) rfl (by rw [ha11]; rfl) (by rw [hnL]; decide) rfl (by decide +kernel) rfl ?_
          refine aw_goto C (tgt := 23) (off := -65) (by decide +kernel) (by decide) ?_
          refine aw_sub [(0, .ref (gad G 58)), (1, .int v1), (2, .int v5), (3, .int q9.1), (4, .int q10.1), (5, .int a11)] [4, 5, 3, 2, 1, 0] rfl ?_
          exact hk23 v1 v5 q9.1 q10.1 a11 _ hf
        · have hf := iff_ c8 hf
          refine aw_goto C (tgt := 85) (off := 17) (by decide +kernel) (by decide) ?_
          obtain ⟨a12, ha12⟩ : ∃ z, z = (v5 + (1 : Int32)) := ⟨_, rfl⟩
          have hf := ilt ha12 hf
          refine aw_iinc C [(5, .int a12), (0, .ref (gad G 58)), (1, .int v1), (2, .int v2), (3, .int v3), (4, .int v4)] 5 (n := 1) rfl (by rw [ha12]; rfl) (by rw [hnL]; decide) rfl (by decide +kernel) rfl ?_
          refine aw_goto C (tgt := 23) (off := -65) (by decide +kernel) (by decide) ?_
          refine aw_sub [(0, .ref (gad G 58)), (1, .int v1), (2, .int v2), (3, .int v3), (4, .int v4), (5, .int a12)] [1, 2, 3, 4, 5, 0] rfl ?_
          exact hk23 v1 v2 v3 v4 a12 _ hf
      · have hf := iff_ c6 hf
        obtain ⟨a13, ha13⟩ : ∃ z, z = (v5 + (1 : Int32)) := ⟨_, rfl⟩
        have hf := ilt ha13 hf
        refine aw_iinc C [(5, .int a13), (0, .ref (gad G 58)), (1, .int v1), (2, .int v2), (3, .int v3), (4, .int v4)] 5 (n := 1) rfl (by rw [ha13]; rfl) (by rw [hnL]; decide) rfl (by decide +kernel) rfl ?_
        refine aw_goto C (tgt := 23) (off := -65) (by decide +kernel) (by decide) ?_
        refine aw_sub [(0, .ref (gad G 58)), (1, .int v1), (2, .int v2), (3, .int v3), (4, .int v4), (5, .int a13)] [1, 2, 3, 4, 5, 0] rfl ?_
        exact hk23 v1 v2 v3 v4 a13 _ hf
theorem u_m_bestFold_23 {G : Cx} (C : CX G prog_14_method_83_code "PaperStarsModel") (CR0 : CR G (Option.some FieldType.int)) (E : LAin (gly G)) (hnL : gnL G = 6) (hgd : 3 ≤ gd G) {q : Int32 × Mm} (hgr : gr G = some (.int q.1)) (hgs : gsf G = q.2) : ∀ (n : Nat) (v1 : Int32) (v2 : Int32) (v3 : Int32) (v4 : Int32) (v5 : Int32) (st : Mm), f_m_bestFold_23 n v1 v2 v3 v4 v5 st = some q → AW G st 23 [(0, .ref (gad G 58)), (1, .int v1), (2, .int v2), (3, .int v3), (4, .int v4), (5, .int v5)] [] := by
  intro n
  induction n with
  | zero => intro v1 v2 v3 v4 v5 st hf; cases hf
  | succ n ih => intro v1 v2 v3 v4 v5 st hf; exact t_m_bestFold_23 C CR0 E hnL hgd hgr hgs (f_m_bestFold_23 n) ih v1 v2 v3 v4 v5 st hf
theorem t_m_bestFold {G : Cx} (C : CX G prog_14_method_83_code "PaperStarsModel") (CR0 : CR G (Option.some FieldType.int)) (E : LAin (gly G)) (hnL : gnL G = 6) (hgd : 3 ≤ gd G) {q : Int32 × Mm} (hgr : gr G = some (.int q.1)) (hgs : gsf G = q.2) (v1 : Int32) (st : Mm) (hf : f_m_bestFold v1 st = some q) : AW G st 0 [(0, .ref (gad G 58)), (1, .int v1)] [] := by
  unfold f_m_bestFold at hf
  refine aw_iload_n C 1 1 (j := 1) rfl rfl (by decide +kernel) rfl ?_
  refine aw_iconst C (i0 := 0) (v := 0) (by decide) (by decide +kernel) rfl ?_
  refine aw_iconst C (i0 := 4) (v := 4) (by decide) (by decide +kernel) rfl ?_
  obtain ⟨q1, hq1, hf⟩ := ibd hf
  refine aw_callS C (rest := []) (c_m_in E v1 (0 : Int32) (4 : Int32) _ q1 hq1) tb_1144 yf_142 tb_1145 rfl _ rfl (Nat.le_trans (by decide) hgd) (Nat.le_of_ble_eq_true rfl) (by decide +kernel) rfl ?_
  show AW _ _ _ _ [.int q1.1]
  refine aw_if_ne C (tgt := 11) (off := 5) (by decide +kernel) (by decide) rfl (fun c2 => ?_) (fun c2 => ?_)
  · have hf := ift c2 hf
    refine aw_iconst C (i0 := -1) (v := -1) (by decide) (by decide +kernel) rfl ?_
    exact aw_iretq C CR0 hgr hgs hf (by decide +kernel)
  · have hf := iff_ c2 hf
    refine aw_iconst C (i0 := 0) (v := 0) (by decide) (by decide +kernel) rfl ?_
    refine aw_istore_n C [(2, .int (0 : Int32)), (0, .ref (gad G 58)), (1, .int v1)] (j := 2) rfl (by rw [hnL]; decide) rfl (by decide +kernel) rfl ?_
    refine aw_ldcw C tb_1400 (by decide +kernel) rfl ?_
    refine aw_istore_n C [(3, .int (1000000000 : Int32)), (2, .int (0 : Int32)), (0, .ref (gad G 58)), (1, .int v1)] (j := 3) rfl (by rw [hnL]; decide) rfl (by decide +kernel) rfl ?_
    refine aw_iconst C (i0 := 0) (v := 0) (by decide) (by decide +kernel) rfl ?_
    refine aw_istore C [(4, .int (0 : Int32)), (3, .int (1000000000 : Int32)), (2, .int (0 : Int32)), (0, .ref (gad G 58)), (1, .int v1)] (by rw [hnL]; decide) rfl (by decide +kernel) rfl ?_
    refine aw_iconst C (i0 := 0) (v := 0) (by decide) (by decide +kernel) rfl ?_
    refine aw_istore C [(5, .int (0 : Int32)), (4, .int (0 : Int32)), (3, .int (1000000000 : Int32)), (2, .int (0 : Int32)), (0, .ref (gad G 58)), (1, .int v1)] (by rw [hnL]; decide) rfl (by decide +kernel) rfl ?_
    refine aw_sub [(0, .ref (gad G 58)), (1, .int v1), (2, .int (0 : Int32)), (3, .int (1000000000 : Int32)), (4, .int (0 : Int32)), (5, .int (0 : Int32))] [4, 5, 3, 2, 1, 0] rfl ?_
    exact u_m_bestFold_23 C CR0 E hnL hgd hgr hgs _ v1 (0 : Int32) (1000000000 : Int32) (0 : Int32) (0 : Int32) _ hf
theorem c_m_bestFold {lay : Ly} (E : LAin lay) (v1 : Int32) (st : Mm) (q : Int32 × Mm) (hf : f_m_bestFold v1 st = some q) : Con 3 Y219 prog_14_method_83_code 6 (Option.some FieldType.int) lay (fun ad => [.ref (ad 58), .int v1]) st (some (.int q.1)) q.2 :=
  am_met yf_219.2.2.2.2.2 (fun ad => Nat.le_of_ble_eq_true rfl) (fun G C CR0 e1 e2 e3 e4 e5 => t_m_bestFold C CR0 (by rw [e1]; exact E) e2 (Nat.le_of_eq e5.symm) e3 e4 v1 st hf)
def b_m_firstBit_2 (k2 : Int64 → Int32 → Mm → Option (Int32 × Mm)) (v0 : Int64) (v2 : Int32) (st : Mm) : Option (Int32 × Mm) :=
  if (lg_cmp ((v0 >>> (v2.toInt64 &&& 63)) &&& (1 : Int64)) (0 : Int64)) = 0 then (lt_ (v2 + (1 : Int32)) (fun a2 => k2 v0 a2 st)) else (some (v2, st))
def f_m_firstBit_2 : Nat → Int64 → Int32 → Mm → Option (Int32 × Mm)
  | 0 => fun _ _ _ => none
  | n + 1 => b_m_firstBit_2 (f_m_firstBit_2 n)
def f_m_firstBit (v0 : Int64) (st : Mm) : Option (Int32 × Mm) :=
  f_m_firstBit_2 1000000 v0 (0 : Int32) st
theorem t_m_firstBit_2 {G : Cx} (C : CX G prog_14_method_88_code "PaperStarsModel") (CR0 : CR G (Option.some FieldType.int)) (E : LAin (gly G)) (hnL : gnL G = 3) (hgd : 0 ≤ gd G) {q : Int32 × Mm} (hgr : gr G = some (.int q.1)) (hgs : gsf G = q.2) (k2 : Int64 → Int32 → Mm → Option (Int32 × Mm)) (hk2 : ∀ (v0 : Int64) (v2 : Int32) (st : Mm), k2 v0 v2 st = some q → AW G st 2 [(0, .long v0), (2, .int v2)] []) (v0 : Int64) (v2 : Int32) (st : Mm) (hf : b_m_firstBit_2 k2 v0 v2 st = some q) : AW G st 2 [(0, .long v0), (2, .int v2)] [] := by
  unfold b_m_firstBit_2 at hf
  refine aw_lload_n C 0 0 (j := 0) rfl rfl (by decide +kernel) rfl ?_
  refine aw_iload_n C 2 1 (j := 2) rfl rfl (by decide +kernel) rfl ?_
  refine aw_lshr C (by decide +kernel) rfl ?_
  refine aw_lconst C (i0 := 1) (v := 1) (by decide) (by decide +kernel) rfl ?_
  refine aw_land C (by decide +kernel) rfl ?_
  refine aw_lconst C (i0 := 0) (v := 0) (by decide) (by decide +kernel) rfl ?_
  refine aw_lcmp C (by decide +kernel) rfl ?_
  refine aw_if_ne C (tgt := 19) (off := 10) (by decide +kernel) (by decide) rfl (fun c1 => ?_) (fun c1 => ?_)
  · have hf := ift c1 hf
    refine aw_iload_n C 2 1 (j := 2) rfl rfl (by decide +kernel) rfl ?_
    refine aw_iconst C (i0 := 1) (v := 1) (by decide) (by decide +kernel) rfl ?_
    refine aw_iadd C (by decide +kernel) rfl ?_
    obtain ⟨a2, ha2⟩ : ∃ z, z = (v2 + (1 : Int32)) := ⟨_, rfl⟩
    refine aw_nmi ha2 ?_
    have hf := ilt ha2 hf
    refine aw_istore_n C [(2, .int a2), (0, .long v0)] (j := 2) rfl (by rw [hnL]; decide) rfl (by decide +kernel) rfl ?_
    refine aw_goto C (tgt := 2) (off := -14) (by decide +kernel) (by decide) ?_
    refine aw_sub [(0, .long v0), (2, .int a2)] [1, 0] rfl ?_
    exact hk2 v0 a2 _ hf
  · have hf := iff_ c1 hf
    refine aw_iload_n C 2 1 (j := 2) rfl rfl (by decide +kernel) rfl ?_
    exact aw_iretq C CR0 hgr hgs hf (by decide +kernel)
theorem u_m_firstBit_2 {G : Cx} (C : CX G prog_14_method_88_code "PaperStarsModel") (CR0 : CR G (Option.some FieldType.int)) (E : LAin (gly G)) (hnL : gnL G = 3) (hgd : 0 ≤ gd G) {q : Int32 × Mm} (hgr : gr G = some (.int q.1)) (hgs : gsf G = q.2) : ∀ (n : Nat) (v0 : Int64) (v2 : Int32) (st : Mm), f_m_firstBit_2 n v0 v2 st = some q → AW G st 2 [(0, .long v0), (2, .int v2)] [] := by
  intro n
  induction n with
  | zero => intro v0 v2 st hf; cases hf
  | succ n ih => intro v0 v2 st hf; exact t_m_firstBit_2 C CR0 E hnL hgd hgr hgs (f_m_firstBit_2 n) ih v0 v2 st hf
theorem t_m_firstBit {G : Cx} (C : CX G prog_14_method_88_code "PaperStarsModel") (CR0 : CR G (Option.some FieldType.int)) (E : LAin (gly G)) (hnL : gnL G = 3) (hgd : 0 ≤ gd G) {q : Int32 × Mm} (hgr : gr G = some (.int q.1)) (hgs : gsf G = q.2) (v0 : Int64) (st : Mm) (hf : f_m_firstBit v0 st = some q) : AW G st 0 [(0, .long v0)] [] := by
  unfold f_m_firstBit at hf
  refine aw_iconst C (i0 := 0) (v := 0) (by decide) (by decide +kernel) rfl ?_
  refine aw_istore_n C [(2, .int (0 : Int32)), (0, .long v0)] (j := 2) rfl (by rw [hnL]; decide) rfl (by decide +kernel) rfl ?_
  refine aw_sub [(0, .long v0), (2, .int (0 : Int32))] [1, 0] rfl ?_
  exact u_m_firstBit_2 C CR0 E hnL hgd hgr hgs _ v0 (0 : Int32) _ hf
theorem c_m_firstBit {lay : Ly} (E : LAin lay) (v0 : Int64) (st : Mm) (q : Int32 × Mm) (hf : f_m_firstBit v0 st = some q) : Con 0 Y227 prog_14_method_88_code 3 (Option.some FieldType.int) lay (fun ad => [.long v0]) st (some (.int q.1)) q.2 :=
  am_met yf_227.2.2.2.2.2 (fun ad => Nat.le_of_ble_eq_true rfl) (fun G C CR0 e1 e2 e3 e4 e5 => t_m_firstBit C CR0 (by rw [e1]; exact E) e2 (Nat.le_of_eq e5.symm) e3 e4 v0 st hf)
def b_m_doFor_31 (k31 : Int32 → Int32 → Mm → Option (Int32 × Mm)) (v3 : Int32) (v4 : Int32) (st : Mm) : Option (Int32 × Mm) :=
  if v4 < 0 then (some ((0 : Int32), st)) else (if inb v4 5 then lt_ ((st.1 81 v4.toNatClampNeg) + (1 : Int32)) (fun a3 => if inb v4 5 then if inb v4 5 then if ((sI st 81 v4.toNatClampNeg a3).1 81 v4.toNatClampNeg) < ((sI st 81 v4.toNatClampNeg a3).1 58 49) then (if inb v4 5 then if inb ((sI st 81 v4.toNatClampNeg a3).1 81 v4.toNatClampNeg) 2200 then lt_ ((sI st 81 v4.toNatClampNeg a3).2 80 ((sI st 81 v4.toNatClampNeg a3).1 81 v4.toNatClampNeg).toNatClampNeg) (fun a9 => if inb v4 5 then (f_m_firstBit ((sI st 81 v4.toNatClampNeg a3).2 82 v4.toNatClampNeg) (sI st 81 v4.toNatClampNeg a3)).bind (fun q11 => if (lg_cmp ((a9 >>> (q11.1.toInt64 &&& 63)) &&& (1 : Int64)) (0 : Int64)) = 0 then (k31 v3 v4 q11.2) else (if inb v4 5 then lt_ ((q11.2.2 82 v4.toNatClampNeg) &&& (a9 ^^^ (-1 : Int64))) (fun a14 => if (lg_cmp a14 (0 : Int64)) = 0 then (some ((1 : Int32), q11.2)) else (if (v4 + (1 : Int32)) = v3 then (k31 v3 v4 q11.2) else (lt_ (v4 + (1 : Int32)) (fun a17 => if inb a17 5 then if inb a17 5 then k31 v3 a17 (sI (sL q11.2 82 a17.toNatClampNeg a14) 81 a17.toNatClampNeg (-1 : Int32)) else none else none)))) else none)) else none) else none else none) else (lt_ (v4 - (1 : Int32)) (fun a20 => k31 v3 a20 (sI st 81 v4.toNatClampNeg a3))) else none else none) else none)
def f_m_doFor_31 : Nat → Int32 → Int32 → Mm → Option (Int32 × Mm)
  | 0 => fun _ _ _ => none
  | n + 1 => b_m_doFor_31 (f_m_doFor_31 n)
def f_m_doFor (v1 : Int64) (v3 : Int32) (st : Mm) : Option (Int32 × Mm) :=
  if (lg_cmp v1 (0 : Int64)) = 0 then (some ((1 : Int32), st)) else (if v3 = 0 then (some ((0 : Int32), st)) else (f_m_doFor_31 100000000000000000000 v3 (0 : Int32) (sI (sL st 82 (0 : Int32).toNatClampNeg v1) 81 (0 : Int32).toNatClampNeg (-1 : Int32))))
theorem t_m_doFor_31 {G : Cx} (C : CX G prog_14_method_89_code "PaperStarsModel") (CR0 : CR G (Option.some FieldType.boolean)) (E : LAin (gly G)) (hnL : gnL G = 9) (hgd : 1 ≤ gd G) {q : Int32 × Mm} (hgr : gr G = some (.int q.1)) (hgs : gsf G = q.2) (k31 : Int32 → Int32 → Mm → Option (Int32 × Mm)) (hk31 : ∀ (v3 : Int32) (v4 : Int32) (st : Mm), k31 v3 v4 st = some q → AW G st 31 [(0, .ref (gad G 58)), (3, .int v3), (4, .int v4)] []) (v3 : Int32) (v4 : Int32) (st : Mm) (hf : b_m_doFor_31 k31 v3 v4 st = some q) : AW G st 31 [(0, .ref (gad G 58)), (3, .int v3), (4, .int v4)] [] := by
  unfold b_m_doFor_31 at hf
  refine aw_iload C 4 2 rfl (by decide +kernel) rfl ?_
  refine aw_if_lt C (tgt := 174) (off := 141) (by decide +kernel) (by decide) rfl (fun c1 => ?_) (fun c1 => ?_)
  · have hf := ift c1 hf
    refine aw_iconst C (i0 := 0) (v := 0) (by decide) (by decide +kernel) rfl ?_
    exact aw_zretq C CR0 hgr hgs (by decide) hf (by decide +kernel)
  · have hf := iff_ c1 hf
    refine aw_aload_n C 0 0 (j := 0) rfl rfl (by decide +kernel) rfl ?_
    refine aw_getr C (k := 50) fc_12 (la_58 E) rfl (by decide) tb_992 (by decide +kernel) rfl ?_
    refine aw_iload C 4 2 rfl (by decide +kernel) rfl ?_
    refine aw_aload_n C 0 0 (j := 0) rfl rfl (by decide +kernel) rfl ?_
    refine aw_getr C (k := 50) fc_12 (la_58 E) rfl (by decide) tb_992 (by decide +kernel) rfl ?_
    refine aw_iload C 4 2 rfl (by decide +kernel) rfl ?_
    obtain ⟨g2, hf⟩ := igd hf
    refine aw_iald C (la_81 E) g2 (by decide +kernel) rfl ?_
    refine aw_iconst C (i0 := 1) (v := 1) (by decide) (by decide +kernel) rfl ?_
    refine aw_iadd C (by decide +kernel) rfl ?_
    obtain ⟨a3, ha3⟩ : ∃ z, z = ((st.1 81 v4.toNatClampNeg) + (1 : Int32)) := ⟨_, rfl⟩
    refine aw_nmi ha3 ?_
    have hf := ilt ha3 hf
    obtain ⟨g4, hf⟩ := igd hf
    refine aw_iast C (la_81 E) g4 (by decide +kernel) rfl ?_
    refine aw_aload_n C 0 0 (j := 0) rfl rfl (by decide +kernel) rfl ?_
    refine aw_getr C (k := 50) fc_12 (la_58 E) rfl (by decide) tb_992 (by decide +kernel) rfl ?_
    refine aw_iload C 4 2 rfl (by decide +kernel) rfl ?_
    obtain ⟨g5, hf⟩ := igd hf
    refine aw_iald C (la_81 E) g5 (by decide +kernel) rfl ?_
    refine aw_aload_n C 0 0 (j := 0) rfl rfl (by decide +kernel) rfl ?_
    refine aw_get C (k := 49) fc_12 (la_58 E) rfl (by decide) tb_991 (by decide +kernel) rfl ?_
    refine aw_icmp_lt C (tgt := 75) (off := 12) (by decide +kernel) (by decide) rfl (fun c6 => ?_) (fun c6 => ?_)
    · have hf := ift c6 hf
      refine aw_aload_n C 0 0 (j := 0) rfl rfl (by decide +kernel) rfl ?_
      refine aw_getr C (k := 47) fc_12 (la_58 E) rfl (by decide) tb_989 (by decide +kernel) rfl ?_
      refine aw_aload_n C 0 0 (j := 0) rfl rfl (by decide +kernel) rfl ?_
      refine aw_getr C (k := 50) fc_12 (la_58 E) rfl (by decide) tb_992 (by decide +kernel) rfl ?_
      refine aw_iload C 4 2 rfl (by decide +kernel) rfl ?_
      obtain ⟨g7, hf⟩ := igd hf
      refine aw_iald C (la_81 E) g7 (by decide +kernel) rfl ?_
      obtain ⟨g8, hf⟩ := igd hf
      refine aw_lald C (la_80 E) g8 (by decide +kernel) rfl ?_
      obtain ⟨a9, ha9⟩ : ∃ z, z = ((sI st 81 v4.toNatClampNeg a3).2 80 ((sI st 81 v4.toNatClampNeg a3).1 81 v4.toNatClampNeg).toNatClampNeg) := ⟨_, rfl⟩
      refine aw_nml ha9 ?_
      have hf := ilt ha9 hf
      refine aw_lstore C [(5, .long a9), (0, .ref (gad G 58)), (3, .int v3), (4, .int v4)] (by rw [hnL]; decide) rfl (by decide +kernel) rfl ?_
      refine aw_lload C 5 0 rfl (by decide +kernel) rfl ?_
      refine aw_aload_n C 0 1 (j := 0) rfl rfl (by decide +kernel) rfl ?_
      refine aw_getr C (k := 51) fc_12 (la_58 E) rfl (by decide) tb_993 (by decide +kernel) rfl ?_
      refine aw_iload C 4 3 rfl (by decide +kernel) rfl ?_
      obtain ⟨g10, hf⟩ := igd hf
      refine aw_lald C (la_82 E) g10 (by decide +kernel) rfl ?_
      obtain ⟨q11, hq11, hf⟩ := ibd hf
      refine aw_callS C (rest := [.long a9]) (c_m_firstBit E ((sI st 81 v4.toNatClampNeg a3).2 82 v4.toNatClampNeg) _ q11 hq11) tb_1480 yf_227 tb_1481 rfl _ rfl (Nat.le_trans (by decide) hgd) (Nat.le_of_ble_eq_true rfl) (by decide +kernel) rfl ?_
      show AW _ _ _ _ [.int q11.1, .long a9]
      refine aw_lshr C (by decide +kernel) rfl ?_
      refine aw_lconst C (i0 := 1) (v := 1) (by decide) (by decide +kernel) rfl ?_
      refine aw_land C (by decide +kernel) rfl ?_
      refine aw_lconst C (i0 := 0) (v := 0) (by decide) (by decide +kernel) rfl ?_
      refine aw_lcmp C (by decide +kernel) rfl ?_
      refine aw_if_ne C (tgt := 112) (off := 6) (by decide +kernel) (by decide) rfl (fun c12 => ?_) (fun c12 => ?_)
      · have hf := ift c12 hf
        refine aw_goto C (tgt := 31) (off := -78) (by decide +kernel) (by decide) ?_
        refine aw_sub [(0, .ref (gad G 58)), (3, .int v3), (4, .int v4)] [1, 2, 3] rfl ?_
        exact hk31 v3 v4 _ hf
      · have hf := iff_ c12 hf
        refine aw_aload_n C 0 1 (j := 0) rfl rfl (by decide +kernel) rfl ?_
        refine aw_getr C (k := 51) fc_12 (la_58 E) rfl (by decide) tb_993 (by decide +kernel) rfl ?_
        refine aw_iload C 4 3 rfl (by decide +kernel) rfl ?_
        obtain ⟨g13, hf⟩ := igd hf
        refine aw_lald C (la_82 E) g13 (by decide +kernel) rfl ?_
        refine aw_lload C 5 0 rfl (by decide +kernel) rfl ?_
        refine aw_ldc2 C tb_1475 (by decide +kernel) rfl ?_
        refine aw_lxor C (by decide +kernel) rfl ?_
        refine aw_land C (by decide +kernel) rfl ?_
        obtain ⟨a14, ha14⟩ : ∃ z, z = ((q11.2.2 82 v4.toNatClampNeg) &&& (a9 ^^^ (-1 : Int64))) := ⟨_, rfl⟩
        refine aw_nml ha14 ?_
        have hf := ilt ha14 hf
        refine aw_lstore C [(7, .long a14), (5, .long a9), (0, .ref (gad G 58)), (3, .int v3), (4, .int v4)] (by rw [hnL]; decide) rfl (by decide +kernel) rfl ?_
        refine aw_lload C 7 0 rfl (by decide +kernel) rfl ?_
        refine aw_lconst C (i0 := 0) (v := 0) (by decide) (by decide +kernel) rfl ?_
        refine aw_lcmp C (by decide +kernel) rfl ?_
        refine aw_if_ne C (tgt := 137) (off := 5) (by decide +kernel) (by decide) rfl (fun c15 => ?_) (fun c15 => ?_)
        · have hf := ift c15 hf
          refine aw_iconst C (i0 := 1) (v := 1) (by decide) (by decide +kernel) rfl ?_
          exact aw_zretq C CR0 hgr hgs (by decide) hf (by decide +kernel)
        · have hf := iff_ c15 hf
          refine aw_iload C 4 4 rfl (by decide +kernel) rfl ?_
          refine aw_iconst C (i0 := 1) (v := 1) (by decide) (by decide +kernel) rfl ?_
          refine aw_iadd C (by decide +kernel) rfl ?_
          refine aw_iload_n C 3 3 (j := 3) rfl rfl (by decide +kernel) rfl ?_
          refine aw_icmp_ne C (tgt := 148) (off := 6) (by decide +kernel) (by decide) rfl (fun c16 => ?_) (fun c16 => ?_)
          · have hf := ift c16 hf
            refine aw_goto C (tgt := 31) (off := -114) (by decide +kernel) (by decide) ?_
            refine aw_sub [(0, .ref (gad G 58)), (3, .int v3), (4, .int v4)] [2, 3, 4] rfl ?_
            exact hk31 v3 v4 _ hf
          · have hf := iff_ c16 hf
            refine aw_iload C 4 4 rfl (by decide +kernel) rfl ?_
            refine aw_iconst C (i0 := 1) (v := 1) (by decide) (by decide +kernel) rfl ?_
            refine aw_iadd C (by decide +kernel) rfl ?_
            obtain ⟨a17, ha17⟩ : ∃ z, z = (v4 + (1 : Int32)) := ⟨_, rfl⟩
            refine aw_nmi ha17 ?_
            have hf := ilt ha17 hf
            refine aw_istore C [(4, .int a17), (7, .long a14), (5, .long a9), (0, .ref (gad G 58)), (3, .int v3)] (by rw [hnL]; decide) rfl (by decide +kernel) rfl ?_
            refine aw_aload_n C 0 3 (j := 0) rfl rfl (by decide +kernel) rfl ?_
            refine aw_getr C (k := 51) fc_12 (la_58 E) rfl (by decide) tb_993 (by decide +kernel) rfl ?_
            refine aw_iload C 4 0 rfl (by decide +kernel) rfl ?_
            refine aw_lload C 7 1 rfl (by decide +kernel) rfl ?_
            obtain ⟨g18, hf⟩ := igd hf
            refine aw_last C (la_82 E) g18 (by decide +kernel) rfl ?_
            refine aw_aload_n C 0 3 (j := 0) rfl rfl (by decide +kernel) rfl ?_
            refine aw_getr C (k := 50) fc_12 (la_58 E) rfl (by decide) tb_992 (by decide +kernel) rfl ?_
            refine aw_iload C 4 0 rfl (by decide +kernel) rfl ?_
            refine aw_iconst C (i0 := -1) (v := -1) (by decide) (by decide +kernel) rfl ?_
            obtain ⟨g19, hf⟩ := igd hf
            refine aw_iast C (la_81 E) g19 (by decide +kernel) rfl ?_
            refine aw_goto C (tgt := 31) (off := -140) (by decide +kernel) (by decide) ?_
            refine aw_sub [(0, .ref (gad G 58)), (3, .int v3), (4, .int a17)] [3, 4, 0] rfl ?_
            exact hk31 v3 a17 _ hf
    · have hf := iff_ c6 hf
      refine aw_iload C 4 2 rfl (by decide +kernel) rfl ?_
      refine aw_iconst C (i0 := 1) (v := 1) (by decide) (by decide +kernel) rfl ?_
      refine aw_isub C (by decide +kernel) rfl ?_
      obtain ⟨a20, ha20⟩ : ∃ z, z = (v4 - (1 : Int32)) := ⟨_, rfl⟩
      refine aw_nmi ha20 ?_
      have hf := ilt ha20 hf
      refine aw_istore C [(4, .int a20), (0, .ref (gad G 58)), (3, .int v3)] (by rw [hnL]; decide) rfl (by decide +kernel) rfl ?_
      refine aw_goto C (tgt := 31) (off := -41) (by decide +kernel) (by decide) ?_
      refine aw_sub [(0, .ref (gad G 58)), (3, .int v3), (4, .int a20)] [1, 2, 0] rfl ?_
      exact hk31 v3 a20 _ hf
theorem u_m_doFor_31 {G : Cx} (C : CX G prog_14_method_89_code "PaperStarsModel") (CR0 : CR G (Option.some FieldType.boolean)) (E : LAin (gly G)) (hnL : gnL G = 9) (hgd : 1 ≤ gd G) {q : Int32 × Mm} (hgr : gr G = some (.int q.1)) (hgs : gsf G = q.2) : ∀ (n : Nat) (v3 : Int32) (v4 : Int32) (st : Mm), f_m_doFor_31 n v3 v4 st = some q → AW G st 31 [(0, .ref (gad G 58)), (3, .int v3), (4, .int v4)] [] := by
  intro n
  induction n with
  | zero => intro v3 v4 st hf; cases hf
  | succ n ih => intro v3 v4 st hf; exact t_m_doFor_31 C CR0 E hnL hgd hgr hgs (f_m_doFor_31 n) ih v3 v4 st hf
theorem t_m_doFor {G : Cx} (C : CX G prog_14_method_89_code "PaperStarsModel") (CR0 : CR G (Option.some FieldType.boolean)) (E : LAin (gly G)) (hnL : gnL G = 9) (hgd : 1 ≤ gd G) {q : Int32 × Mm} (hgr : gr G = some (.int q.1)) (hgs : gsf G = q.2) (v1 : Int64) (v3 : Int32) (st : Mm) (hf : f_m_doFor v1 v3 st = some q) : AW G st 0 [(0, .ref (gad G 58)), (1, .long v1), (3, .int v3)] [] := by
  unfold f_m_doFor at hf
  refine aw_lload_n C 1 1 (j := 1) rfl rfl (by decide +kernel) rfl ?_
  refine aw_lconst C (i0 := 0) (v := 0) (by decide) (by decide +kernel) rfl ?_
  refine aw_lcmp C (by decide +kernel) rfl ?_
  refine aw_if_ne C (tgt := 8) (off := 5) (by decide +kernel) (by decide) rfl (fun c1 => ?_) (fun c1 => ?_)
  · have hf := ift c1 hf
    refine aw_iconst C (i0 := 1) (v := 1) (by decide) (by decide +kernel) rfl ?_
    exact aw_zretq C CR0 hgr hgs (by decide) hf (by decide +kernel)
  · have hf := iff_ c1 hf
    refine aw_iload_n C 3 2 (j := 3) rfl rfl (by decide +kernel) rfl ?_
    refine aw_if_ne C (tgt := 14) (off := 5) (by decide +kernel) (by decide) rfl (fun c2 => ?_) (fun c2 => ?_)
    · have hf := ift c2 hf
      refine aw_iconst C (i0 := 0) (v := 0) (by decide) (by decide +kernel) rfl ?_
      exact aw_zretq C CR0 hgr hgs (by decide) hf (by decide +kernel)
    · have hf := iff_ c2 hf
      refine aw_iconst C (i0 := 0) (v := 0) (by decide) (by decide +kernel) rfl ?_
      refine aw_istore C [(4, .int (0 : Int32)), (0, .ref (gad G 58)), (1, .long v1), (3, .int v3)] (by rw [hnL]; decide) rfl (by decide +kernel) rfl ?_
      refine aw_aload_n C 0 1 (j := 0) rfl rfl (by decide +kernel) rfl ?_
      refine aw_getr C (k := 51) fc_12 (la_58 E) rfl (by decide) tb_993 (by decide +kernel) rfl ?_
      refine aw_iconst C (i0 := 0) (v := 0) (by decide) (by decide +kernel) rfl ?_
      refine aw_lload_n C 1 2 (j := 1) rfl rfl (by decide +kernel) rfl ?_
      refine aw_last C (la_82 E) (by decide) (by decide +kernel) rfl ?_
      refine aw_aload_n C 0 1 (j := 0) rfl rfl (by decide +kernel) rfl ?_
      refine aw_getr C (k := 50) fc_12 (la_58 E) rfl (by decide) tb_992 (by decide +kernel) rfl ?_
      refine aw_iconst C (i0 := 0) (v := 0) (by decide) (by decide +kernel) rfl ?_
      refine aw_iconst C (i0 := -1) (v := -1) (by decide) (by decide +kernel) rfl ?_
      refine aw_iast C (la_81 E) (by decide) (by decide +kernel) rfl ?_
      refine aw_sub [(0, .ref (gad G 58)), (3, .int v3), (4, .int (0 : Int32))] [1, 3, 0] rfl ?_
      exact u_m_doFor_31 C CR0 E hnL hgd hgr hgs _ v3 (0 : Int32) _ hf
theorem c_m_doFor {lay : Ly} (E : LAin lay) (v1 : Int64) (v3 : Int32) (st : Mm) (q : Int32 × Mm) (hf : f_m_doFor v1 v3 st = some q) : Con 1 Y226 prog_14_method_89_code 9 (Option.some FieldType.boolean) lay (fun ad => [.ref (ad 58), .long v1, .int v3]) st (some (.int q.1)) q.2 :=
  am_met yf_226.2.2.2.2.2 (fun ad => Nat.le_of_ble_eq_true rfl) (fun G C CR0 e1 e2 e3 e4 e5 => t_m_doFor C CR0 (by rw [e1]; exact E) e2 (Nat.le_of_eq e5.symm) e3 e4 v1 v3 st hf)
