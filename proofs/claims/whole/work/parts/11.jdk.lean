def b_Arr_fill_5 (ar arn : Nat) (k5 : Int32 → Int32 → Int32 → Mm → Option (Unit × Mm)) (v1 : Int32) (v2 : Int32) (v3 : Int32) (st : Mm) : Option (Unit × Mm) :=
  if v3 ≤ v2 then (some ((), st)) else (if inb v2 arn then lt_ (v2 + (1 : Int32)) (fun a3 => k5 v1 a3 v3 (sI st ar v2.toNatClampNeg v1)) else none)
def f_Arr_fill_5 (ar arn : Nat) : Nat → Int32 → Int32 → Int32 → Mm → Option (Unit × Mm)
  | 0 => fun _ _ _ _ => none
  | n + 1 => b_Arr_fill_5 ar arn (f_Arr_fill_5 ar arn n)
def f_Arr_fill (ar arn : Nat) (v1 : Int32) (st : Mm) : Option (Unit × Mm) :=
  lt_ (Int32.ofNat arn) (fun a1 => f_Arr_fill_5 ar arn 1000000 v1 (0 : Int32) a1 st)
theorem t_Arr_fill_5 {G : Cx} (C : CX G prog_18_method_103_code "java/util/Arrays") (CR0 : CR G (Option.none)) (ar arn : Nat) (Ear : (gly G)[ar]? = some (.inl (0, arn))) (hnL : gnL G = 4) (hgd : 0 ≤ gd G) {q : Unit × Mm} (hgr : gr G = none) (hgs : gsf G = q.2) (k5 : Int32 → Int32 → Int32 → Mm → Option (Unit × Mm)) (hk5 : ∀ (v1 : Int32) (v2 : Int32) (v3 : Int32) (st : Mm), k5 v1 v2 v3 st = some q → AW G st 5 [(0, .ref (gad G ar)), (1, .int v1), (2, .int v2), (3, .int v3)] []) (v1 : Int32) (v2 : Int32) (v3 : Int32) (st : Mm) (hf : b_Arr_fill_5 ar arn k5 v1 v2 v3 st = some q) : AW G st 5 [(0, .ref (gad G ar)), (1, .int v1), (2, .int v2), (3, .int v3)] [] := by
  unfold b_Arr_fill_5 at hf
  refine aw_iload_n C 2 2 (j := 2) rfl rfl (by decide +kernel) rfl ?_
  refine aw_iload_n C 3 3 (j := 3) rfl rfl (by decide +kernel) rfl ?_
  refine aw_icmp_ge C (tgt := 20) (off := 13) (by decide +kernel) (by decide) rfl (fun c1 => ?_) (fun c1 => ?_)
  · have hf := ift c1 hf
    exact aw_vretq C CR0 hgr hgs hf (by decide +kernel)
  · have hf := iff_ c1 hf
    refine aw_aload_n C 0 0 (j := 0) rfl rfl (by decide +kernel) rfl ?_
    refine aw_iload_n C 2 2 (j := 2) rfl rfl (by decide +kernel) rfl ?_
    refine aw_iload_n C 1 1 (j := 1) rfl rfl (by decide +kernel) rfl ?_
    obtain ⟨g2, hf⟩ := igd hf
    refine aw_iast C Ear g2 (by decide +kernel) rfl ?_
    obtain ⟨a3, ha3⟩ : ∃ z, z = (v2 + (1 : Int32)) := ⟨_, rfl⟩
    have hf := ilt ha3 hf
    refine aw_iinc C [(2, .int a3), (0, .ref (gad G ar)), (1, .int v1), (3, .int v3)] 2 (n := 1) rfl (by rw [ha3]; rfl) (by rw [hnL]; decide) rfl (by decide +kernel) rfl ?_
    refine aw_goto C (tgt := 5) (off := -12) (by decide +kernel) (by decide) ?_
    refine aw_sub [(0, .ref (gad G ar)), (1, .int v1), (2, .int a3), (3, .int v3)] [1, 2, 0, 3] rfl ?_
    exact hk5 v1 a3 v3 _ hf
theorem u_Arr_fill_5 {G : Cx} (C : CX G prog_18_method_103_code "java/util/Arrays") (CR0 : CR G (Option.none)) (ar arn : Nat) (Ear : (gly G)[ar]? = some (.inl (0, arn))) (hnL : gnL G = 4) (hgd : 0 ≤ gd G) {q : Unit × Mm} (hgr : gr G = none) (hgs : gsf G = q.2) : ∀ (n : Nat) (v1 : Int32) (v2 : Int32) (v3 : Int32) (st : Mm), f_Arr_fill_5 ar arn n v1 v2 v3 st = some q → AW G st 5 [(0, .ref (gad G ar)), (1, .int v1), (2, .int v2), (3, .int v3)] [] := by
  intro n
  induction n with
  | zero => intro v1 v2 v3 st hf; cases hf
  | succ n ih => intro v1 v2 v3 st hf; exact t_Arr_fill_5 C CR0 ar arn Ear hnL hgd hgr hgs (f_Arr_fill_5 ar arn n) ih v1 v2 v3 st hf
theorem t_Arr_fill {G : Cx} (C : CX G prog_18_method_103_code "java/util/Arrays") (CR0 : CR G (Option.none)) (ar arn : Nat) (Ear : (gly G)[ar]? = some (.inl (0, arn))) (hnL : gnL G = 4) (hgd : 0 ≤ gd G) {q : Unit × Mm} (hgr : gr G = none) (hgs : gsf G = q.2) (v1 : Int32) (st : Mm) (hf : f_Arr_fill ar arn v1 st = some q) : AW G st 0 [(0, .ref (gad G ar)), (1, .int v1)] [] := by
  unfold f_Arr_fill at hf
  refine aw_iconst C (i0 := 0) (v := 0) (by decide) (by decide +kernel) rfl ?_
  refine aw_istore_n C [(2, .int (0 : Int32)), (0, .ref (gad G ar)), (1, .int v1)] (j := 2) rfl (by rw [hnL]; decide) rfl (by decide +kernel) rfl ?_
  refine aw_aload_n C 0 1 (j := 0) rfl rfl (by decide +kernel) rfl ?_
  refine aw_alen C Ear (by decide) rfl (by decide +kernel) rfl ?_
  obtain ⟨a1, ha1⟩ : ∃ z, z = (Int32.ofNat arn) := ⟨_, rfl⟩
  refine aw_nmi ha1 ?_
  have hf := ilt ha1 hf
  refine aw_istore_n C [(3, .int a1), (2, .int (0 : Int32)), (0, .ref (gad G ar)), (1, .int v1)] (j := 3) rfl (by rw [hnL]; decide) rfl (by decide +kernel) rfl ?_
  refine aw_sub [(0, .ref (gad G ar)), (1, .int v1), (2, .int (0 : Int32)), (3, .int a1)] [2, 3, 1, 0] rfl ?_
  exact u_Arr_fill_5 C CR0 ar arn Ear hnL hgd hgr hgs _ v1 (0 : Int32) a1 _ hf
theorem c_Arr_fill {lay : Ly} (ar arn : Nat) (Ear : lay[ar]? = some (.inl (0, arn))) (v1 : Int32) (st : Mm) (q : Unit × Mm) (hf : f_Arr_fill ar arn v1 st = some q) : Con 0 Y33 prog_18_method_103_code 4 (Option.none) lay (fun ad => [.ref (ad ar), .int v1]) st (none) q.2 :=
  am_met yf_33.2.2.2.2.2 (fun ad => Nat.le_of_ble_eq_true rfl) (fun G C CR0 e1 e2 e3 e4 e5 => t_Arr_fill C CR0 ar arn (by rw [e1]; exact Ear) e2 (Nat.le_of_eq e5.symm) e3 e4 v1 st hf)
def f_Int_bitCount (v0 : Int32) (st : Mm) : Option (Int32 × Mm) :=
  lt_ (v0 - (((v0.toUInt32 >>> ((1 : Int32).toUInt32 &&& Int32.toUInt32 31)).toInt32) &&& (1431655765 : Int32))) (fun a1 => lt_ ((a1 &&& (858993459 : Int32)) + (((a1.toUInt32 >>> ((2 : Int32).toUInt32 &&& Int32.toUInt32 31)).toInt32) &&& (858993459 : Int32))) (fun a2 => lt_ ((a2 + ((a2.toUInt32 >>> ((4 : Int32).toUInt32 &&& Int32.toUInt32 31)).toInt32)) &&& (252645135 : Int32)) (fun a3 => lt_ (a3 + ((a3.toUInt32 >>> ((8 : Int32).toUInt32 &&& Int32.toUInt32 31)).toInt32)) (fun a4 => lt_ (a4 + ((a4.toUInt32 >>> ((16 : Int32).toUInt32 &&& Int32.toUInt32 31)).toInt32)) (fun a5 => some ((a5 &&& (63 : Int32)), st))))))
theorem t_Int_bitCount {G : Cx} (C : CX G prog_15_method_49_code "java/lang/Integer") (CR0 : CR G (Option.some FieldType.int))  (hnL : gnL G = 1) (hgd : 0 ≤ gd G) {q : Int32 × Mm} (hgr : gr G = some (.int q.1)) (hgs : gsf G = q.2) (v0 : Int32) (st : Mm) (hf : f_Int_bitCount v0 st = some q) : AW G st 0 [(0, .int v0)] [] := by
  unfold f_Int_bitCount at hf
  refine aw_iload_n C 0 0 (j := 0) rfl rfl (by decide +kernel) rfl ?_
  refine aw_iload_n C 0 0 (j := 0) rfl rfl (by decide +kernel) rfl ?_
  refine aw_iconst C (i0 := 1) (v := 1) (by decide) (by decide +kernel) rfl ?_
  refine aw_iushr C (by decide +kernel) rfl ?_
  refine aw_ldcw C tb_605 (by decide +kernel) rfl ?_
  refine aw_iand C (by decide +kernel) rfl ?_
  refine aw_isub C (by decide +kernel) rfl ?_
  obtain ⟨a1, ha1⟩ : ∃ z, z = (v0 - (((v0.toUInt32 >>> ((1 : Int32).toUInt32 &&& Int32.toUInt32 31)).toInt32) &&& (1431655765 : Int32))) := ⟨_, rfl⟩
  refine aw_nmi ha1 ?_
  have hf := ilt ha1 hf
  refine aw_istore_n C [(0, .int a1)] (j := 0) rfl (by rw [hnL]; decide) rfl (by decide +kernel) rfl ?_
  refine aw_iload_n C 0 0 (j := 0) rfl rfl (by decide +kernel) rfl ?_
  refine aw_ldcw C tb_606 (by decide +kernel) rfl ?_
  refine aw_iand C (by decide +kernel) rfl ?_
  refine aw_iload_n C 0 0 (j := 0) rfl rfl (by decide +kernel) rfl ?_
  refine aw_iconst C (i0 := 2) (v := 2) (by decide) (by decide +kernel) rfl ?_
  refine aw_iushr C (by decide +kernel) rfl ?_
  refine aw_ldcw C tb_606 (by decide +kernel) rfl ?_
  refine aw_iand C (by decide +kernel) rfl ?_
  refine aw_iadd C (by decide +kernel) rfl ?_
  obtain ⟨a2, ha2⟩ : ∃ z, z = ((a1 &&& (858993459 : Int32)) + (((a1.toUInt32 >>> ((2 : Int32).toUInt32 &&& Int32.toUInt32 31)).toInt32) &&& (858993459 : Int32))) := ⟨_, rfl⟩
  refine aw_nmi ha2 ?_
  have hf := ilt ha2 hf
  refine aw_istore_n C [(0, .int a2)] (j := 0) rfl (by rw [hnL]; decide) rfl (by decide +kernel) rfl ?_
  refine aw_iload_n C 0 0 (j := 0) rfl rfl (by decide +kernel) rfl ?_
  refine aw_iload_n C 0 0 (j := 0) rfl rfl (by decide +kernel) rfl ?_
  refine aw_iconst C (i0 := 4) (v := 4) (by decide) (by decide +kernel) rfl ?_
  refine aw_iushr C (by decide +kernel) rfl ?_
  refine aw_iadd C (by decide +kernel) rfl ?_
  refine aw_ldcw C tb_607 (by decide +kernel) rfl ?_
  refine aw_iand C (by decide +kernel) rfl ?_
  obtain ⟨a3, ha3⟩ : ∃ z, z = ((a2 + ((a2.toUInt32 >>> ((4 : Int32).toUInt32 &&& Int32.toUInt32 31)).toInt32)) &&& (252645135 : Int32)) := ⟨_, rfl⟩
  refine aw_nmi ha3 ?_
  have hf := ilt ha3 hf
  refine aw_istore_n C [(0, .int a3)] (j := 0) rfl (by rw [hnL]; decide) rfl (by decide +kernel) rfl ?_
  refine aw_iload_n C 0 0 (j := 0) rfl rfl (by decide +kernel) rfl ?_
  refine aw_iload_n C 0 0 (j := 0) rfl rfl (by decide +kernel) rfl ?_
  refine aw_bipush C (i0 := 8) (v := 8) (by decide) (by decide +kernel) rfl ?_
  refine aw_iushr C (by decide +kernel) rfl ?_
  refine aw_iadd C (by decide +kernel) rfl ?_
  obtain ⟨a4, ha4⟩ : ∃ z, z = (a3 + ((a3.toUInt32 >>> ((8 : Int32).toUInt32 &&& Int32.toUInt32 31)).toInt32)) := ⟨_, rfl⟩
  refine aw_nmi ha4 ?_
  have hf := ilt ha4 hf
  refine aw_istore_n C [(0, .int a4)] (j := 0) rfl (by rw [hnL]; decide) rfl (by decide +kernel) rfl ?_
  refine aw_iload_n C 0 0 (j := 0) rfl rfl (by decide +kernel) rfl ?_
  refine aw_iload_n C 0 0 (j := 0) rfl rfl (by decide +kernel) rfl ?_
  refine aw_bipush C (i0 := 16) (v := 16) (by decide) (by decide +kernel) rfl ?_
  refine aw_iushr C (by decide +kernel) rfl ?_
  refine aw_iadd C (by decide +kernel) rfl ?_
  obtain ⟨a5, ha5⟩ : ∃ z, z = (a4 + ((a4.toUInt32 >>> ((16 : Int32).toUInt32 &&& Int32.toUInt32 31)).toInt32)) := ⟨_, rfl⟩
  refine aw_nmi ha5 ?_
  have hf := ilt ha5 hf
  refine aw_istore_n C [(0, .int a5)] (j := 0) rfl (by rw [hnL]; decide) rfl (by decide +kernel) rfl ?_
  refine aw_iload_n C 0 0 (j := 0) rfl rfl (by decide +kernel) rfl ?_
  refine aw_bipush C (i0 := 63) (v := 63) (by decide) (by decide +kernel) rfl ?_
  refine aw_iand C (by decide +kernel) rfl ?_
  exact aw_iretq C CR0 hgr hgs hf (by decide +kernel)
theorem c_Int_bitCount {lay : Ly}  (v0 : Int32) (st : Mm) (q : Int32 × Mm) (hf : f_Int_bitCount v0 st = some q) : Con 0 Y64 prog_15_method_49_code 1 (Option.some FieldType.int) lay (fun ad => [.int v0]) st (some (.int q.1)) q.2 :=
  am_met yf_64.2.2.2.2.2 (fun ad => Nat.le_of_ble_eq_true rfl) (fun G C CR0 e1 e2 e3 e4 e5 => t_Int_bitCount C CR0  e2 (Nat.le_of_eq e5.symm) e3 e4 v0 st hf)
def b_Int_numberOfTrailingZeros_62 (v0 : Int32) (v1 : Int32) (st : Mm) : Option (Int32 × Mm) :=
  if v0 ≤ (4 : Int32) then (some ((v1 + ((v0.toUInt32 >>> ((1 : Int32).toUInt32 &&& Int32.toUInt32 31)).toInt32)), st)) else (lt_ (v1 + (2 : Int32)) (fun a2 => lt_ ((v0.toUInt32 >>> ((2 : Int32).toUInt32 &&& Int32.toUInt32 31)).toInt32) (fun a3 => some ((a2 + ((a3.toUInt32 >>> ((1 : Int32).toUInt32 &&& Int32.toUInt32 31)).toInt32)), st))))
def b_Int_numberOfTrailingZeros_49 (v0 : Int32) (v1 : Int32) (st : Mm) : Option (Int32 × Mm) :=
  if v0 ≤ (16 : Int32) then (b_Int_numberOfTrailingZeros_62 v0 v1 st) else (lt_ (v1 + (4 : Int32)) (fun a2 => lt_ ((v0.toUInt32 >>> ((4 : Int32).toUInt32 &&& Int32.toUInt32 31)).toInt32) (fun a3 => b_Int_numberOfTrailingZeros_62 a3 a2 st)))
def b_Int_numberOfTrailingZeros_34 (v0 : Int32) (v1 : Int32) (st : Mm) : Option (Int32 × Mm) :=
  if v0 ≤ (256 : Int32) then (b_Int_numberOfTrailingZeros_49 v0 v1 st) else (lt_ (v1 + (8 : Int32)) (fun a2 => lt_ ((v0.toUInt32 >>> ((8 : Int32).toUInt32 &&& Int32.toUInt32 31)).toInt32) (fun a3 => b_Int_numberOfTrailingZeros_49 a3 a2 st)))
def f_Int_numberOfTrailingZeros (v0 : Int32) (st : Mm) : Option (Int32 × Mm) :=
  lt_ ((v0 ^^^ (-1 : Int32)) &&& (v0 - (1 : Int32))) (fun a1 => if 0 < a1 then (if a1 ≤ (65536 : Int32) then (b_Int_numberOfTrailingZeros_34 a1 (1 : Int32) st) else (lt_ ((1 : Int32) + (16 : Int32)) (fun a4 => lt_ ((a1.toUInt32 >>> ((16 : Int32).toUInt32 &&& Int32.toUInt32 31)).toInt32) (fun a5 => b_Int_numberOfTrailingZeros_34 a5 a4 st)))) else (some ((a1 &&& (32 : Int32)), st)))
theorem t_Int_numberOfTrailingZeros_62 {G : Cx} (C : CX G prog_15_method_48_code "java/lang/Integer") (CR0 : CR G (Option.some FieldType.int))  (hnL : gnL G = 2) (hgd : 0 ≤ gd G) {q : Int32 × Mm} (hgr : gr G = some (.int q.1)) (hgs : gsf G = q.2) (v0 : Int32) (v1 : Int32) (st : Mm) (hf : b_Int_numberOfTrailingZeros_62 v0 v1 st = some q) : AW G st 62 [(0, .int v0), (1, .int v1)] [] := by
  unfold b_Int_numberOfTrailingZeros_62 at hf
  refine aw_iload_n C 0 0 (j := 0) rfl rfl (by decide +kernel) rfl ?_
  refine aw_iconst C (i0 := 4) (v := 4) (by decide) (by decide +kernel) rfl ?_
  refine aw_icmp_le C (tgt := 74) (off := 10) (by decide +kernel) (by decide) rfl (fun c1 => ?_) (fun c1 => ?_)
  · have hf := ift c1 hf
    refine aw_iload_n C 1 1 (j := 1) rfl rfl (by decide +kernel) rfl ?_
    refine aw_iload_n C 0 0 (j := 0) rfl rfl (by decide +kernel) rfl ?_
    refine aw_iconst C (i0 := 1) (v := 1) (by decide) (by decide +kernel) rfl ?_
    refine aw_iushr C (by decide +kernel) rfl ?_
    refine aw_iadd C (by decide +kernel) rfl ?_
    exact aw_iretq C CR0 hgr hgs hf (by decide +kernel)
  · have hf := iff_ c1 hf
    obtain ⟨a2, ha2⟩ : ∃ z, z = (v1 + (2 : Int32)) := ⟨_, rfl⟩
    have hf := ilt ha2 hf
    refine aw_iinc C [(1, .int a2), (0, .int v0)] 1 (n := 2) rfl (by rw [ha2]; rfl) (by rw [hnL]; decide) rfl (by decide +kernel) rfl ?_
    refine aw_iload_n C 0 1 (j := 0) rfl rfl (by decide +kernel) rfl ?_
    refine aw_iconst C (i0 := 2) (v := 2) (by decide) (by decide +kernel) rfl ?_
    refine aw_iushr C (by decide +kernel) rfl ?_
    obtain ⟨a3, ha3⟩ : ∃ z, z = ((v0.toUInt32 >>> ((2 : Int32).toUInt32 &&& Int32.toUInt32 31)).toInt32) := ⟨_, rfl⟩
    refine aw_nmi ha3 ?_
    have hf := ilt ha3 hf
    refine aw_istore_n C [(0, .int a3), (1, .int a2)] (j := 0) rfl (by rw [hnL]; decide) rfl (by decide +kernel) rfl ?_
    refine aw_iload_n C 1 1 (j := 1) rfl rfl (by decide +kernel) rfl ?_
    refine aw_iload_n C 0 0 (j := 0) rfl rfl (by decide +kernel) rfl ?_
    refine aw_iconst C (i0 := 1) (v := 1) (by decide) (by decide +kernel) rfl ?_
    refine aw_iushr C (by decide +kernel) rfl ?_
    refine aw_iadd C (by decide +kernel) rfl ?_
    exact aw_iretq C CR0 hgr hgs hf (by decide +kernel)
theorem t_Int_numberOfTrailingZeros_49 {G : Cx} (C : CX G prog_15_method_48_code "java/lang/Integer") (CR0 : CR G (Option.some FieldType.int))  (hnL : gnL G = 2) (hgd : 0 ≤ gd G) {q : Int32 × Mm} (hgr : gr G = some (.int q.1)) (hgs : gsf G = q.2) (v0 : Int32) (v1 : Int32) (st : Mm) (hf : b_Int_numberOfTrailingZeros_49 v0 v1 st = some q) : AW G st 49 [(0, .int v0), (1, .int v1)] [] := by
  unfold b_Int_numberOfTrailingZeros_49 at hf
  refine aw_iload_n C 0 0 (j := 0) rfl rfl (by decide +kernel) rfl ?_
  refine aw_bipush C (i0 := 16) (v := 16) (by decide) (by decide +kernel) rfl ?_
  refine aw_icmp_le C (tgt := 62) (off := 10) (by decide +kernel) (by decide) rfl (fun c1 => ?_) (fun c1 => ?_)
  · have hf := ift c1 hf
    exact t_Int_numberOfTrailingZeros_62 C CR0  hnL hgd hgr hgs v0 v1 _ hf
  · have hf := iff_ c1 hf
    obtain ⟨a2, ha2⟩ : ∃ z, z = (v1 + (4 : Int32)) := ⟨_, rfl⟩
    have hf := ilt ha2 hf
    refine aw_iinc C [(1, .int a2), (0, .int v0)] 1 (n := 4) rfl (by rw [ha2]; rfl) (by rw [hnL]; decide) rfl (by decide +kernel) rfl ?_
    refine aw_iload_n C 0 1 (j := 0) rfl rfl (by decide +kernel) rfl ?_
    refine aw_iconst C (i0 := 4) (v := 4) (by decide) (by decide +kernel) rfl ?_
    refine aw_iushr C (by decide +kernel) rfl ?_
    obtain ⟨a3, ha3⟩ : ∃ z, z = ((v0.toUInt32 >>> ((4 : Int32).toUInt32 &&& Int32.toUInt32 31)).toInt32) := ⟨_, rfl⟩
    refine aw_nmi ha3 ?_
    have hf := ilt ha3 hf
    refine aw_istore_n C [(0, .int a3), (1, .int a2)] (j := 0) rfl (by rw [hnL]; decide) rfl (by decide +kernel) rfl ?_
    exact t_Int_numberOfTrailingZeros_62 C CR0  hnL hgd hgr hgs a3 a2 _ hf
theorem t_Int_numberOfTrailingZeros_34 {G : Cx} (C : CX G prog_15_method_48_code "java/lang/Integer") (CR0 : CR G (Option.some FieldType.int))  (hnL : gnL G = 2) (hgd : 0 ≤ gd G) {q : Int32 × Mm} (hgr : gr G = some (.int q.1)) (hgs : gsf G = q.2) (v0 : Int32) (v1 : Int32) (st : Mm) (hf : b_Int_numberOfTrailingZeros_34 v0 v1 st = some q) : AW G st 34 [(0, .int v0), (1, .int v1)] [] := by
  unfold b_Int_numberOfTrailingZeros_34 at hf
  refine aw_iload_n C 0 0 (j := 0) rfl rfl (by decide +kernel) rfl ?_
  refine aw_sipush C (i0 := 256) (v := 256) (by decide) (by decide +kernel) rfl ?_
  refine aw_icmp_le C (tgt := 49) (off := 11) (by decide +kernel) (by decide) rfl (fun c1 => ?_) (fun c1 => ?_)
  · have hf := ift c1 hf
    exact t_Int_numberOfTrailingZeros_49 C CR0  hnL hgd hgr hgs v0 v1 _ hf
  · have hf := iff_ c1 hf
    obtain ⟨a2, ha2⟩ : ∃ z, z = (v1 + (8 : Int32)) := ⟨_, rfl⟩
    have hf := ilt ha2 hf
    refine aw_iinc C [(1, .int a2), (0, .int v0)] 1 (n := 8) rfl (by rw [ha2]; rfl) (by rw [hnL]; decide) rfl (by decide +kernel) rfl ?_
    refine aw_iload_n C 0 1 (j := 0) rfl rfl (by decide +kernel) rfl ?_
    refine aw_bipush C (i0 := 8) (v := 8) (by decide) (by decide +kernel) rfl ?_
    refine aw_iushr C (by decide +kernel) rfl ?_
    obtain ⟨a3, ha3⟩ : ∃ z, z = ((v0.toUInt32 >>> ((8 : Int32).toUInt32 &&& Int32.toUInt32 31)).toInt32) := ⟨_, rfl⟩
    refine aw_nmi ha3 ?_
    have hf := ilt ha3 hf
    refine aw_istore_n C [(0, .int a3), (1, .int a2)] (j := 0) rfl (by rw [hnL]; decide) rfl (by decide +kernel) rfl ?_
    exact t_Int_numberOfTrailingZeros_49 C CR0  hnL hgd hgr hgs a3 a2 _ hf
theorem t_Int_numberOfTrailingZeros {G : Cx} (C : CX G prog_15_method_48_code "java/lang/Integer") (CR0 : CR G (Option.some FieldType.int))  (hnL : gnL G = 2) (hgd : 0 ≤ gd G) {q : Int32 × Mm} (hgr : gr G = some (.int q.1)) (hgs : gsf G = q.2) (v0 : Int32) (st : Mm) (hf : f_Int_numberOfTrailingZeros v0 st = some q) : AW G st 0 [(0, .int v0)] [] := by
  unfold f_Int_numberOfTrailingZeros at hf
  refine aw_iload_n C 0 0 (j := 0) rfl rfl (by decide +kernel) rfl ?_
  refine aw_iconst C (i0 := -1) (v := -1) (by decide) (by decide +kernel) rfl ?_
  refine aw_ixor C (by decide +kernel) rfl ?_
  refine aw_iload_n C 0 0 (j := 0) rfl rfl (by decide +kernel) rfl ?_
  refine aw_iconst C (i0 := 1) (v := 1) (by decide) (by decide +kernel) rfl ?_
  refine aw_isub C (by decide +kernel) rfl ?_
  refine aw_iand C (by decide +kernel) rfl ?_
  obtain ⟨a1, ha1⟩ : ∃ z, z = ((v0 ^^^ (-1 : Int32)) &&& (v0 - (1 : Int32))) := ⟨_, rfl⟩
  refine aw_nmi ha1 ?_
  have hf := ilt ha1 hf
  refine aw_istore_n C [(0, .int a1)] (j := 0) rfl (by rw [hnL]; decide) rfl (by decide +kernel) rfl ?_
  refine aw_iload_n C 0 0 (j := 0) rfl rfl (by decide +kernel) rfl ?_
  refine aw_if_gt C (tgt := 17) (off := 8) (by decide +kernel) (by decide) rfl (fun c2 => ?_) (fun c2 => ?_)
  · have hf := ift c2 hf
    refine aw_iconst C (i0 := 1) (v := 1) (by decide) (by decide +kernel) rfl ?_
    refine aw_istore_n C [(1, .int (1 : Int32)), (0, .int a1)] (j := 1) rfl (by rw [hnL]; decide) rfl (by decide +kernel) rfl ?_
    refine aw_iload_n C 0 1 (j := 0) rfl rfl (by decide +kernel) rfl ?_
    refine aw_ldcw C tb_719 (by decide +kernel) rfl ?_
    refine aw_icmp_le C (tgt := 34) (off := 11) (by decide +kernel) (by decide) rfl (fun c3 => ?_) (fun c3 => ?_)
    · have hf := ift c3 hf
      refine aw_sub [(0, .int a1), (1, .int (1 : Int32))] [1, 0] rfl ?_
      exact t_Int_numberOfTrailingZeros_34 C CR0  hnL hgd hgr hgs a1 (1 : Int32) _ hf
    · have hf := iff_ c3 hf
      obtain ⟨a4, ha4⟩ : ∃ z, z = ((1 : Int32) + (16 : Int32)) := ⟨_, rfl⟩
      have hf := ilt ha4 hf
      refine aw_iinc C [(1, .int a4), (0, .int a1)] 0 (n := 16) rfl (by rw [ha4]; rfl) (by rw [hnL]; decide) rfl (by decide +kernel) rfl ?_
      refine aw_iload_n C 0 1 (j := 0) rfl rfl (by decide +kernel) rfl ?_
      refine aw_bipush C (i0 := 16) (v := 16) (by decide) (by decide +kernel) rfl ?_
      refine aw_iushr C (by decide +kernel) rfl ?_
      obtain ⟨a5, ha5⟩ : ∃ z, z = ((a1.toUInt32 >>> ((16 : Int32).toUInt32 &&& Int32.toUInt32 31)).toInt32) := ⟨_, rfl⟩
      refine aw_nmi ha5 ?_
      have hf := ilt ha5 hf
      refine aw_istore_n C [(0, .int a5), (1, .int a4)] (j := 0) rfl (by rw [hnL]; decide) rfl (by decide +kernel) rfl ?_
      exact t_Int_numberOfTrailingZeros_34 C CR0  hnL hgd hgr hgs a5 a4 _ hf
  · have hf := iff_ c2 hf
    refine aw_iload_n C 0 0 (j := 0) rfl rfl (by decide +kernel) rfl ?_
    refine aw_bipush C (i0 := 32) (v := 32) (by decide) (by decide +kernel) rfl ?_
    refine aw_iand C (by decide +kernel) rfl ?_
    exact aw_iretq C CR0 hgr hgs hf (by decide +kernel)
theorem c_Int_numberOfTrailingZeros {lay : Ly}  (v0 : Int32) (st : Mm) (q : Int32 × Mm) (hf : f_Int_numberOfTrailingZeros v0 st = some q) : Con 0 Y89 prog_15_method_48_code 2 (Option.some FieldType.int) lay (fun ad => [.int v0]) st (some (.int q.1)) q.2 :=
  am_met yf_89.2.2.2.2.2 (fun ad => Nat.le_of_ble_eq_true rfl) (fun G C CR0 e1 e2 e3 e4 e5 => t_Int_numberOfTrailingZeros C CR0  e2 (Nat.le_of_eq e5.symm) e3 e4 v0 st hf)
def b_Int_numberOfLeadingZeros_61 (v0 : Int32) (v1 : Int32) (st : Mm) : Option (Int32 × Mm) :=
  if v0 < (4 : Int32) then (some ((v1 - ((v0.toUInt32 >>> ((1 : Int32).toUInt32 &&& Int32.toUInt32 31)).toInt32)), st)) else (lt_ (v1 + (-2 : Int32)) (fun a2 => lt_ ((v0.toUInt32 >>> ((2 : Int32).toUInt32 &&& Int32.toUInt32 31)).toInt32) (fun a3 => some ((a2 - ((a3.toUInt32 >>> ((1 : Int32).toUInt32 &&& Int32.toUInt32 31)).toInt32)), st))))
def b_Int_numberOfLeadingZeros_48 (v0 : Int32) (v1 : Int32) (st : Mm) : Option (Int32 × Mm) :=
  if v0 < (16 : Int32) then (b_Int_numberOfLeadingZeros_61 v0 v1 st) else (lt_ (v1 + (-4 : Int32)) (fun a2 => lt_ ((v0.toUInt32 >>> ((4 : Int32).toUInt32 &&& Int32.toUInt32 31)).toInt32) (fun a3 => b_Int_numberOfLeadingZeros_61 a3 a2 st)))
def b_Int_numberOfLeadingZeros_33 (v0 : Int32) (v1 : Int32) (st : Mm) : Option (Int32 × Mm) :=
  if v0 < (256 : Int32) then (b_Int_numberOfLeadingZeros_48 v0 v1 st) else (lt_ (v1 + (-8 : Int32)) (fun a2 => lt_ ((v0.toUInt32 >>> ((8 : Int32).toUInt32 &&& Int32.toUInt32 31)).toInt32) (fun a3 => b_Int_numberOfLeadingZeros_48 a3 a2 st)))
def f_Int_numberOfLeadingZeros (v0 : Int32) (st : Mm) : Option (Int32 × Mm) :=
  if 0 < v0 then (if v0 < (65536 : Int32) then (b_Int_numberOfLeadingZeros_33 v0 (31 : Int32) st) else (lt_ ((31 : Int32) + (-16 : Int32)) (fun a3 => lt_ ((v0.toUInt32 >>> ((16 : Int32).toUInt32 &&& Int32.toUInt32 31)).toInt32) (fun a4 => b_Int_numberOfLeadingZeros_33 a4 a3 st)))) else (if v0 = 0 then (some ((32 : Int32), st)) else (some ((0 : Int32), st)))
theorem t_Int_numberOfLeadingZeros_61 {G : Cx} (C : CX G prog_15_method_47_code "java/lang/Integer") (CR0 : CR G (Option.some FieldType.int))  (hnL : gnL G = 2) (hgd : 0 ≤ gd G) {q : Int32 × Mm} (hgr : gr G = some (.int q.1)) (hgs : gsf G = q.2) (v0 : Int32) (v1 : Int32) (st : Mm) (hf : b_Int_numberOfLeadingZeros_61 v0 v1 st = some q) : AW G st 61 [(0, .int v0), (1, .int v1)] [] := by
  unfold b_Int_numberOfLeadingZeros_61 at hf
  refine aw_iload_n C 0 0 (j := 0) rfl rfl (by decide +kernel) rfl ?_
  refine aw_iconst C (i0 := 4) (v := 4) (by decide) (by decide +kernel) rfl ?_
  refine aw_icmp_lt C (tgt := 73) (off := 10) (by decide +kernel) (by decide) rfl (fun c1 => ?_) (fun c1 => ?_)
  · have hf := ift c1 hf
    refine aw_iload_n C 1 1 (j := 1) rfl rfl (by decide +kernel) rfl ?_
    refine aw_iload_n C 0 0 (j := 0) rfl rfl (by decide +kernel) rfl ?_
    refine aw_iconst C (i0 := 1) (v := 1) (by decide) (by decide +kernel) rfl ?_
    refine aw_iushr C (by decide +kernel) rfl ?_
    refine aw_isub C (by decide +kernel) rfl ?_
    exact aw_iretq C CR0 hgr hgs hf (by decide +kernel)
  · have hf := iff_ c1 hf
    obtain ⟨a2, ha2⟩ : ∃ z, z = (v1 + (-2 : Int32)) := ⟨_, rfl⟩
    have hf := ilt ha2 hf
    refine aw_iinc C [(1, .int a2), (0, .int v0)] 1 (n := -2) rfl (by rw [ha2]; rfl) (by rw [hnL]; decide) rfl (by decide +kernel) rfl ?_
    refine aw_iload_n C 0 1 (j := 0) rfl rfl (by decide +kernel) rfl ?_
    refine aw_iconst C (i0 := 2) (v := 2) (by decide) (by decide +kernel) rfl ?_
    refine aw_iushr C (by decide +kernel) rfl ?_
    obtain ⟨a3, ha3⟩ : ∃ z, z = ((v0.toUInt32 >>> ((2 : Int32).toUInt32 &&& Int32.toUInt32 31)).toInt32) := ⟨_, rfl⟩
    refine aw_nmi ha3 ?_
    have hf := ilt ha3 hf
    refine aw_istore_n C [(0, .int a3), (1, .int a2)] (j := 0) rfl (by rw [hnL]; decide) rfl (by decide +kernel) rfl ?_
    refine aw_iload_n C 1 1 (j := 1) rfl rfl (by decide +kernel) rfl ?_
    refine aw_iload_n C 0 0 (j := 0) rfl rfl (by decide +kernel) rfl ?_
    refine aw_iconst C (i0 := 1) (v := 1) (by decide) (by decide +kernel) rfl ?_
    refine aw_iushr C (by decide +kernel) rfl ?_
    refine aw_isub C (by decide +kernel) rfl ?_
    exact aw_iretq C CR0 hgr hgs hf (by decide +kernel)
theorem t_Int_numberOfLeadingZeros_48 {G : Cx} (C : CX G prog_15_method_47_code "java/lang/Integer") (CR0 : CR G (Option.some FieldType.int))  (hnL : gnL G = 2) (hgd : 0 ≤ gd G) {q : Int32 × Mm} (hgr : gr G = some (.int q.1)) (hgs : gsf G = q.2) (v0 : Int32) (v1 : Int32) (st : Mm) (hf : b_Int_numberOfLeadingZeros_48 v0 v1 st = some q) : AW G st 48 [(0, .int v0), (1, .int v1)] [] := by
  unfold b_Int_numberOfLeadingZeros_48 at hf
  refine aw_iload_n C 0 0 (j := 0) rfl rfl (by decide +kernel) rfl ?_
  refine aw_bipush C (i0 := 16) (v := 16) (by decide) (by decide +kernel) rfl ?_
  refine aw_icmp_lt C (tgt := 61) (off := 10) (by decide +kernel) (by decide) rfl (fun c1 => ?_) (fun c1 => ?_)
  · have hf := ift c1 hf
    exact t_Int_numberOfLeadingZeros_61 C CR0  hnL hgd hgr hgs v0 v1 _ hf
  · have hf := iff_ c1 hf
    obtain ⟨a2, ha2⟩ : ∃ z, z = (v1 + (-4 : Int32)) := ⟨_, rfl⟩
    have hf := ilt ha2 hf
    refine aw_iinc C [(1, .int a2), (0, .int v0)] 1 (n := -4) rfl (by rw [ha2]; rfl) (by rw [hnL]; decide) rfl (by decide +kernel) rfl ?_
    refine aw_iload_n C 0 1 (j := 0) rfl rfl (by decide +kernel) rfl ?_
    refine aw_iconst C (i0 := 4) (v := 4) (by decide) (by decide +kernel) rfl ?_
    refine aw_iushr C (by decide +kernel) rfl ?_
    obtain ⟨a3, ha3⟩ : ∃ z, z = ((v0.toUInt32 >>> ((4 : Int32).toUInt32 &&& Int32.toUInt32 31)).toInt32) := ⟨_, rfl⟩
    refine aw_nmi ha3 ?_
    have hf := ilt ha3 hf
    refine aw_istore_n C [(0, .int a3), (1, .int a2)] (j := 0) rfl (by rw [hnL]; decide) rfl (by decide +kernel) rfl ?_
    exact t_Int_numberOfLeadingZeros_61 C CR0  hnL hgd hgr hgs a3 a2 _ hf
theorem t_Int_numberOfLeadingZeros_33 {G : Cx} (C : CX G prog_15_method_47_code "java/lang/Integer") (CR0 : CR G (Option.some FieldType.int))  (hnL : gnL G = 2) (hgd : 0 ≤ gd G) {q : Int32 × Mm} (hgr : gr G = some (.int q.1)) (hgs : gsf G = q.2) (v0 : Int32) (v1 : Int32) (st : Mm) (hf : b_Int_numberOfLeadingZeros_33 v0 v1 st = some q) : AW G st 33 [(0, .int v0), (1, .int v1)] [] := by
  unfold b_Int_numberOfLeadingZeros_33 at hf
  refine aw_iload_n C 0 0 (j := 0) rfl rfl (by decide +kernel) rfl ?_
  refine aw_sipush C (i0 := 256) (v := 256) (by decide) (by decide +kernel) rfl ?_
  refine aw_icmp_lt C (tgt := 48) (off := 11) (by decide +kernel) (by decide) rfl (fun c1 => ?_) (fun c1 => ?_)
  · have hf := ift c1 hf
    exact t_Int_numberOfLeadingZeros_48 C CR0  hnL hgd hgr hgs v0 v1 _ hf
  · have hf := iff_ c1 hf
    obtain ⟨a2, ha2⟩ : ∃ z, z = (v1 + (-8 : Int32)) := ⟨_, rfl⟩
    have hf := ilt ha2 hf
    refine aw_iinc C [(1, .int a2), (0, .int v0)] 1 (n := -8) rfl (by rw [ha2]; rfl) (by rw [hnL]; decide) rfl (by decide +kernel) rfl ?_
    refine aw_iload_n C 0 1 (j := 0) rfl rfl (by decide +kernel) rfl ?_
    refine aw_bipush C (i0 := 8) (v := 8) (by decide) (by decide +kernel) rfl ?_
    refine aw_iushr C (by decide +kernel) rfl ?_
    obtain ⟨a3, ha3⟩ : ∃ z, z = ((v0.toUInt32 >>> ((8 : Int32).toUInt32 &&& Int32.toUInt32 31)).toInt32) := ⟨_, rfl⟩
    refine aw_nmi ha3 ?_
    have hf := ilt ha3 hf
    refine aw_istore_n C [(0, .int a3), (1, .int a2)] (j := 0) rfl (by rw [hnL]; decide) rfl (by decide +kernel) rfl ?_
    exact t_Int_numberOfLeadingZeros_48 C CR0  hnL hgd hgr hgs a3 a2 _ hf
theorem t_Int_numberOfLeadingZeros {G : Cx} (C : CX G prog_15_method_47_code "java/lang/Integer") (CR0 : CR G (Option.some FieldType.int))  (hnL : gnL G = 2) (hgd : 0 ≤ gd G) {q : Int32 × Mm} (hgr : gr G = some (.int q.1)) (hgs : gsf G = q.2) (v0 : Int32) (st : Mm) (hf : f_Int_numberOfLeadingZeros v0 st = some q) : AW G st 0 [(0, .int v0)] [] := by
  unfold f_Int_numberOfLeadingZeros at hf
  refine aw_iload_n C 0 0 (j := 0) rfl rfl (by decide +kernel) rfl ?_
  refine aw_if_gt C (tgt := 15) (off := 14) (by decide +kernel) (by decide) rfl (fun c1 => ?_) (fun c1 => ?_)
  · have hf := ift c1 hf
    refine aw_bipush C (i0 := 31) (v := 31) (by decide) (by decide +kernel) rfl ?_
    refine aw_istore_n C [(1, .int (31 : Int32)), (0, .int v0)] (j := 1) rfl (by rw [hnL]; decide) rfl (by decide +kernel) rfl ?_
    refine aw_iload_n C 0 1 (j := 0) rfl rfl (by decide +kernel) rfl ?_
    refine aw_ldcw C tb_719 (by decide +kernel) rfl ?_
    refine aw_icmp_lt C (tgt := 33) (off := 11) (by decide +kernel) (by decide) rfl (fun c2 => ?_) (fun c2 => ?_)
    · have hf := ift c2 hf
      refine aw_sub [(0, .int v0), (1, .int (31 : Int32))] [1, 0] rfl ?_
      exact t_Int_numberOfLeadingZeros_33 C CR0  hnL hgd hgr hgs v0 (31 : Int32) _ hf
    · have hf := iff_ c2 hf
      obtain ⟨a3, ha3⟩ : ∃ z, z = ((31 : Int32) + (-16 : Int32)) := ⟨_, rfl⟩
      have hf := ilt ha3 hf
      refine aw_iinc C [(1, .int a3), (0, .int v0)] 0 (n := -16) rfl (by rw [ha3]; rfl) (by rw [hnL]; decide) rfl (by decide +kernel) rfl ?_
      refine aw_iload_n C 0 1 (j := 0) rfl rfl (by decide +kernel) rfl ?_
      refine aw_bipush C (i0 := 16) (v := 16) (by decide) (by decide +kernel) rfl ?_
      refine aw_iushr C (by decide +kernel) rfl ?_
      obtain ⟨a4, ha4⟩ : ∃ z, z = ((v0.toUInt32 >>> ((16 : Int32).toUInt32 &&& Int32.toUInt32 31)).toInt32) := ⟨_, rfl⟩
      refine aw_nmi ha4 ?_
      have hf := ilt ha4 hf
      refine aw_istore_n C [(0, .int a4), (1, .int a3)] (j := 0) rfl (by rw [hnL]; decide) rfl (by decide +kernel) rfl ?_
      exact t_Int_numberOfLeadingZeros_33 C CR0  hnL hgd hgr hgs a4 a3 _ hf
  · have hf := iff_ c1 hf
    refine aw_iload_n C 0 0 (j := 0) rfl rfl (by decide +kernel) rfl ?_
    refine aw_if_ne C (tgt := 13) (off := 8) (by decide +kernel) (by decide) rfl (fun c5 => ?_) (fun c5 => ?_)
    · have hf := ift c5 hf
      refine aw_bipush C (i0 := 32) (v := 32) (by decide) (by decide +kernel) rfl ?_
      refine aw_goto C (tgt := 14) (off := 4) (by decide +kernel) (by decide) ?_
      exact aw_iretq C CR0 hgr hgs hf (by decide +kernel)
    · have hf := iff_ c5 hf
      refine aw_iconst C (i0 := 0) (v := 0) (by decide) (by decide +kernel) rfl ?_
      exact aw_iretq C CR0 hgr hgs hf (by decide +kernel)
theorem c_Int_numberOfLeadingZeros {lay : Ly}  (v0 : Int32) (st : Mm) (q : Int32 × Mm) (hf : f_Int_numberOfLeadingZeros v0 st = some q) : Con 0 Y117 prog_15_method_47_code 2 (Option.some FieldType.int) lay (fun ad => [.int v0]) st (some (.int q.1)) q.2 :=
  am_met yf_117.2.2.2.2.2 (fun ad => Nat.le_of_ble_eq_true rfl) (fun G C CR0 e1 e2 e3 e4 e5 => t_Int_numberOfLeadingZeros C CR0  e2 (Nat.le_of_eq e5.symm) e3 e4 v0 st hf)
