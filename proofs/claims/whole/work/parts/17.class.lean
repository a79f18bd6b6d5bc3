def b_x_alike_46 (v1 : Int32) (v2 : Int32) (v3 : Int32) (v4 : Int32) (s0 : Int32) (st : Mm) : Option (Int64 × Mm) :=
  (f_x_choose v3 v2 st).bind (fun q1 => (f_x_unmoved v4 (4 : Int32) v2 v3 q1.2).bind (fun q2 => (f_x_unmoved v4 (2 : Int32) v2 v3 q2.2).bind (fun q3 => (f_x_unmoved s0 (2 : Int32) v2 v3 q3.2).bind (fun q4 => (f_x_unmoved v1 (2 : Int32) v2 v3 q4.2).bind (fun q5 => some ((((((q1.1 + ((2 : Int64) * q2.1)) + q3.1) + ((2 : Int64) * q4.1)) + ((2 : Int64) * q5.1)) / (8 : Int64)), q5.2))))))
def f_x_alike (v1 : Int32) (v2 : Int32) (st : Mm) : Option (Int64 × Mm) :=
  if v1 < (1 : Int32) then (some ((-1 : Int64), st)) else (if (7 : Int32) < v1 then (some ((-1 : Int64), st)) else (if v2 < 0 then (some ((-1 : Int64), st)) else (if v2 ≤ (v1 * v1) then (lt_ (v1 * v1) (fun a5 => lt_ (v1 &&& (1 : Int32)) (fun a6 => if a6 = (1 : Int32) then (b_x_alike_46 v1 v2 a5 a6 v1 st) else (b_x_alike_46 v1 v2 a5 a6 (0 : Int32) st)))) else (some ((-1 : Int64), st)))))
theorem t_x_alike_46 {G : Cx} (C : CX G prog_1_method_21_code "PaperStars") (CR0 : CR G (Option.some FieldType.long)) (E : LCin (gly G)) (hnL : gnL G = 16) (hgd : 2 ≤ gd G) {q : Int64 × Mm} (hgr : gr G = some (.long q.1)) (hgs : gsf G = q.2) (v1 : Int32) (v2 : Int32) (v3 : Int32) (v4 : Int32) (s0 : Int32) (st : Mm) (hf : b_x_alike_46 v1 v2 v3 v4 s0 st = some q) : AW G st 46 [(1, .int v1), (2, .int v2), (3, .int v3), (4, .int v4)] [.int s0] := by
  unfold b_x_alike_46 at hf
  refine aw_istore C [(5, .int s0), (1, .int v1), (2, .int v2), (3, .int v3), (4, .int v4)] (by rw [hnL]; decide) rfl (by decide +kernel) rfl ?_
  refine aw_iload_n C 3 3 (j := 3) rfl rfl (by decide +kernel) rfl ?_
  refine aw_iload_n C 2 2 (j := 2) rfl rfl (by decide +kernel) rfl ?_
  obtain ⟨q1, hq1, hf⟩ := ibd hf
  refine aw_callS C (rest := []) (c_x_choose v3 v2 _ q1 hq1) tb_854 yf_120 tb_855 rfl _ rfl (Nat.le_trans (by decide) hgd) (Nat.le_of_ble_eq_true rfl) (by decide +kernel) rfl ?_
  show AW _ _ _ _ [.long q1.1]
  refine aw_lstore C [(6, .long q1.1), (5, .int s0), (1, .int v1), (2, .int v2), (3, .int v3), (4, .int v4)] (by rw [hnL]; decide) rfl (by decide +kernel) rfl ?_
  refine aw_iload C 4 5 rfl (by decide +kernel) rfl ?_
  refine aw_iconst C (i0 := 4) (v := 4) (by decide) (by decide +kernel) rfl ?_
  refine aw_iload_n C 2 3 (j := 2) rfl rfl (by decide +kernel) rfl ?_
  refine aw_iload_n C 3 4 (j := 3) rfl rfl (by decide +kernel) rfl ?_
  obtain ⟨q2, hq2, hf⟩ := ibd hf
  refine aw_callS C (rest := []) (c_x_unmoved v4 (4 : Int32) v2 v3 _ q2 hq2) tb_857 yf_121 tb_858 rfl _ rfl (Nat.le_trans (by decide) hgd) (Nat.le_of_ble_eq_true rfl) (by decide +kernel) rfl ?_
  show AW _ _ _ _ [.long q2.1]
  refine aw_lstore C [(8, .long q2.1), (6, .long q1.1), (5, .int s0), (1, .int v1), (2, .int v2), (3, .int v3), (4, .int v4)] (by rw [hnL]; decide) rfl (by decide +kernel) rfl ?_
  refine aw_iload C 4 6 rfl (by decide +kernel) rfl ?_
  refine aw_iconst C (i0 := 2) (v := 2) (by decide) (by decide +kernel) rfl ?_
  refine aw_iload_n C 2 4 (j := 2) rfl rfl (by decide +kernel) rfl ?_
  refine aw_iload_n C 3 5 (j := 3) rfl rfl (by decide +kernel) rfl ?_
  obtain ⟨q3, hq3, hf⟩ := ibd hf
  refine aw_callS C (rest := []) (c_x_unmoved v4 (2 : Int32) v2 v3 _ q3 hq3) tb_857 yf_121 tb_858 rfl _ rfl (Nat.le_trans (by decide) hgd) (Nat.le_of_ble_eq_true rfl) (by decide +kernel) rfl ?_
  show AW _ _ _ _ [.long q3.1]
  refine aw_lstore C [(10, .long q3.1), (8, .long q2.1), (6, .long q1.1), (5, .int s0), (1, .int v1), (2, .int v2), (3, .int v3), (4, .int v4)] (by rw [hnL]; decide) rfl (by decide +kernel) rfl ?_
  refine aw_iload C 5 3 rfl (by decide +kernel) rfl ?_
  refine aw_iconst C (i0 := 2) (v := 2) (by decide) (by decide +kernel) rfl ?_
  refine aw_iload_n C 2 5 (j := 2) rfl rfl (by decide +kernel) rfl ?_
  refine aw_iload_n C 3 6 (j := 3) rfl rfl (by decide +kernel) rfl ?_
  obtain ⟨q4, hq4, hf⟩ := ibd hf
  refine aw_callS C (rest := []) (c_x_unmoved s0 (2 : Int32) v2 v3 _ q4 hq4) tb_857 yf_121 tb_858 rfl _ rfl (Nat.le_trans (by decide) hgd) (Nat.le_of_ble_eq_true rfl) (by decide +kernel) rfl ?_
  show AW _ _ _ _ [.long q4.1]
  refine aw_lstore C [(12, .long q4.1), (10, .long q3.1), (8, .long q2.1), (6, .long q1.1), (5, .int s0), (1, .int v1), (2, .int v2), (3, .int v3), (4, .int v4)] (by rw [hnL]; decide) rfl (by decide +kernel) rfl ?_
  refine aw_iload_n C 1 5 (j := 1) rfl rfl (by decide +kernel) rfl ?_
  refine aw_iconst C (i0 := 2) (v := 2) (by decide) (by decide +kernel) rfl ?_
  refine aw_iload_n C 2 6 (j := 2) rfl rfl (by decide +kernel) rfl ?_
  refine aw_iload_n C 3 7 (j := 3) rfl rfl (by decide +kernel) rfl ?_
  obtain ⟨q5, hq5, hf⟩ := ibd hf
  refine aw_callS C (rest := []) (c_x_unmoved v1 (2 : Int32) v2 v3 _ q5 hq5) tb_857 yf_121 tb_858 rfl _ rfl (Nat.le_trans (by decide) hgd) (Nat.le_of_ble_eq_true rfl) (by decide +kernel) rfl ?_
  show AW _ _ _ _ [.long q5.1]
  refine aw_lstore C [(14, .long q5.1), (12, .long q4.1), (10, .long q3.1), (8, .long q2.1), (6, .long q1.1), (5, .int s0), (1, .int v1), (2, .int v2), (3, .int v3), (4, .int v4)] (by rw [hnL]; decide) rfl (by decide +kernel) rfl ?_
  refine aw_lload C 6 4 rfl (by decide +kernel) rfl ?_
  refine aw_ldc2 C tb_860 (by decide +kernel) rfl ?_
  refine aw_lload C 8 3 rfl (by decide +kernel) rfl ?_
  refine aw_lmul C (by decide +kernel) rfl ?_
  refine aw_ladd C (by decide +kernel) rfl ?_
  refine aw_lload C 10 2 rfl (by decide +kernel) rfl ?_
  refine aw_ladd C (by decide +kernel) rfl ?_
  refine aw_ldc2 C tb_860 (by decide +kernel) rfl ?_
  refine aw_lload C 12 1 rfl (by decide +kernel) rfl ?_
  refine aw_lmul C (by decide +kernel) rfl ?_
  refine aw_ladd C (by decide +kernel) rfl ?_
  refine aw_ldc2 C tb_860 (by decide +kernel) rfl ?_
  refine aw_lload C 14 0 rfl (by decide +kernel) rfl ?_
  refine aw_lmul C (by decide +kernel) rfl ?_
  refine aw_ladd C (by decide +kernel) rfl ?_
  refine aw_ldc2 C tb_861 (by decide +kernel) rfl ?_
  refine aw_ldiv C (by decide) (by decide +kernel) rfl ?_
  exact aw_lretq C CR0 hgr hgs hf (by decide +kernel)
theorem t_x_alike {G : Cx} (C : CX G prog_1_method_21_code "PaperStars") (CR0 : CR G (Option.some FieldType.long)) (E : LCin (gly G)) (hnL : gnL G = 16) (hgd : 2 ≤ gd G) {q : Int64 × Mm} (hgr : gr G = some (.long q.1)) (hgs : gsf G = q.2) (v1 : Int32) (v2 : Int32) (st : Mm) (hf : f_x_alike v1 v2 st = some q) : AW G st 0 [(0, .ref (gad G 0)), (1, .int v1), (2, .int v2)] [] := by
  unfold f_x_alike at hf
  refine aw_iload_n C 1 1 (j := 1) rfl rfl (by decide +kernel) rfl ?_
  refine aw_iconst C (i0 := 1) (v := 1) (by decide) (by decide +kernel) rfl ?_
  refine aw_icmp_lt C (tgt := 22) (off := 20) (by decide +kernel) (by decide) rfl (fun c1 => ?_) (fun c1 => ?_)
  · have hf := ift c1 hf
    refine aw_ldc2 C tb_853 (by decide +kernel) rfl ?_
    exact aw_lretq C CR0 hgr hgs hf (by decide +kernel)
  · have hf := iff_ c1 hf
    refine aw_iload_n C 1 1 (j := 1) rfl rfl (by decide +kernel) rfl ?_
    refine aw_bipush C (i0 := 7) (v := 7) (by decide) (by decide +kernel) rfl ?_
    refine aw_icmp_gt C (tgt := 22) (off := 14) (by decide +kernel) (by decide) rfl (fun c2 => ?_) (fun c2 => ?_)
    · have hf := ift c2 hf
      refine aw_ldc2 C tb_853 (by decide +kernel) rfl ?_
      exact aw_lretq C CR0 hgr hgs hf (by decide +kernel)
    · have hf := iff_ c2 hf
      refine aw_iload_n C 2 2 (j := 2) rfl rfl (by decide +kernel) rfl ?_
      refine aw_if_lt C (tgt := 22) (off := 10) (by decide +kernel) (by decide) rfl (fun c3 => ?_) (fun c3 => ?_)
      · have hf := ift c3 hf
        refine aw_ldc2 C tb_853 (by decide +kernel) rfl ?_
        exact aw_lretq C CR0 hgr hgs hf (by decide +kernel)
      · have hf := iff_ c3 hf
        refine aw_iload_n C 2 2 (j := 2) rfl rfl (by decide +kernel) rfl ?_
        refine aw_iload_n C 1 1 (j := 1) rfl rfl (by decide +kernel) rfl ?_
        refine aw_iload_n C 1 1 (j := 1) rfl rfl (by decide +kernel) rfl ?_
        refine aw_imul C (by decide +kernel) rfl ?_
        refine aw_icmp_le C (tgt := 26) (off := 7) (by decide +kernel) (by decide) rfl (fun c4 => ?_) (fun c4 => ?_)
        · have hf := ift c4 hf
          refine aw_iload_n C 1 1 (j := 1) rfl rfl (by decide +kernel) rfl ?_
          refine aw_iload_n C 1 1 (j := 1) rfl rfl (by decide +kernel) rfl ?_
          refine aw_imul C (by decide +kernel) rfl ?_
          obtain ⟨a5, ha5⟩ : ∃ z, z = (v1 * v1) := ⟨_, rfl⟩
          refine aw_nmi ha5 ?_
          have hf := ilt ha5 hf
          refine aw_istore_n C [(3, .int a5), (0, .ref (gad G 0)), (1, .int v1), (2, .int v2)] (j := 3) rfl (by rw [hnL]; decide) rfl (by decide +kernel) rfl ?_
          refine aw_iload_n C 1 2 (j := 1) rfl rfl (by decide +kernel) rfl ?_
          refine aw_iconst C (i0 := 1) (v := 1) (by decide) (by decide +kernel) rfl ?_
          refine aw_iand C (by decide +kernel) rfl ?_
          obtain ⟨a6, ha6⟩ : ∃ z, z = (v1 &&& (1 : Int32)) := ⟨_, rfl⟩
          refine aw_nmi ha6 ?_
          have hf := ilt ha6 hf
          refine aw_istore C [(4, .int a6), (3, .int a5), (0, .ref (gad G 0)), (1, .int v1), (2, .int v2)] (by rw [hnL]; decide) rfl (by decide +kernel) rfl ?_
          refine aw_iload C 4 0 rfl (by decide +kernel) rfl ?_
          refine aw_iconst C (i0 := 1) (v := 1) (by decide) (by decide +kernel) rfl ?_
          refine aw_icmp_ne C (tgt := 45) (off := 7) (by decide +kernel) (by decide) rfl (fun c7 => ?_) (fun c7 => ?_)
          · have hf := ift c7 hf
            refine aw_iload_n C 1 3 (j := 1) rfl rfl (by decide +kernel) rfl ?_
            refine aw_goto C (tgt := 46) (off := 4) (by decide +kernel) (by decide) ?_
            refine aw_sub [(1, .int v1), (2, .int v2), (3, .int a5), (4, .int a6)] [3, 4, 1, 0] rfl ?_
            exact t_x_alike_46 C CR0 E hnL hgd hgr hgs v1 v2 a5 a6 v1 _ hf
          · have hf := iff_ c7 hf
            refine aw_iconst C (i0 := 0) (v := 0) (by decide) (by decide +kernel) rfl ?_
            refine aw_sub [(1, .int v1), (2, .int v2), (3, .int a5), (4, .int a6)] [3, 4, 1, 0] rfl ?_
            exact t_x_alike_46 C CR0 E hnL hgd hgr hgs v1 v2 a5 a6 (0 : Int32) _ hf
        · have hf := iff_ c4 hf
          refine aw_ldc2 C tb_853 (by decide +kernel) rfl ?_
          exact aw_lretq C CR0 hgr hgs hf (by decide +kernel)
theorem c_x_alike {lay : Ly} (E : LCin lay) (v1 : Int32) (v2 : Int32) (st : Mm) (q : Int64 × Mm) (hf : f_x_alike v1 v2 st = some q) : Con 2 Y119 prog_1_method_21_code 16 (Option.some FieldType.long) lay (fun ad => [.ref (ad 0), .int v1, .int v2]) st (some (.long q.1)) q.2 :=
  am_met yf_119.2.2.2.2.2 (fun ad => Nat.le_of_ble_eq_true rfl) (fun G C CR0 e1 e2 e3 e4 e5 => t_x_alike C CR0 (by rw [e1]; exact E) e2 (Nat.le_of_eq e5.symm) e3 e4 v1 v2 st hf)
def b_Pack_leastOf_87 (k7 : Int32 → Int32 → Int32 → Int32 → Int32 → Mm → Option (Int32 × Mm)) (v1 : Int32) (v3 : Int32) (v4 : Int32) (v5 : Int32) (v6 : Int32) (s0 : Int32) (st : Mm) : Option (Int32 × Mm) :=
  lt_ (if s0 < v5 then s0 else v5) (fun a1 => lt_ (v6 + (1 : Int32)) (fun a2 => k7 v1 v3 v4 a1 a2 st))
def b_Pack_leastOf_7 (k7 : Int32 → Int32 → Int32 → Int32 → Int32 → Mm → Option (Int32 × Mm)) (v1 : Int32) (v3 : Int32) (v4 : Int32) (v5 : Int32) (v6 : Int32) (st : Mm) : Option (Int32 × Mm) :=
  if v3 ≤ v6 then (some (v5, st)) else (if ((v1 >>> (v6 &&& 31)) &&& (1 : Int32)) = (1 : Int32) then (if inb (v1 ^^^ ((1 : Int32) <<< (v6 &&& 31))) 1024 then lt_ (st.1 57 (v1 ^^^ ((1 : Int32) <<< (v6 &&& 31))).toNatClampNeg) (fun a4 => if inb v6 200 then lt_ (st.1 12 v6.toNatClampNeg) (fun a6 => lt_ ((a4 - a4 / (256 : Int32) * (256 : Int32)) + a6) (fun a7 => if v4 < a7 then (b_Pack_leastOf_87 k7 v1 v3 v4 v5 v6 (((a4 - (a4 - a4 / (256 : Int32) * (256 : Int32))) + (256 : Int32)) + a6) st) else (b_Pack_leastOf_87 k7 v1 v3 v4 v5 v6 (a4 + a6) st))) else none) else none) else (lt_ (v6 + (1 : Int32)) (fun a9 => k7 v1 v3 v4 v5 a9 st)))
def f_Pack_leastOf_7 : Nat → Int32 → Int32 → Int32 → Int32 → Int32 → Mm → Option (Int32 × Mm)
  | 0 => fun _ _ _ _ _ _ => none
  | n + 1 => b_Pack_leastOf_7 (f_Pack_leastOf_7 n)
def f_Pack_leastOf (v1 : Int32) (v3 : Int32) (v4 : Int32) (st : Mm) : Option (Int32 × Mm) :=
  f_Pack_leastOf_7 1000000 v1 v3 v4 (2147483647 : Int32) (0 : Int32) st
theorem t_Pack_leastOf_87 {G : Cx} (C : CX G prog_7_method_3_code "PaperStars$Packing") (CR0 : CR G (Option.some FieldType.int)) (E : LCin (gly G)) (hnL : gnL G = 11) (hgd : 1 ≤ gd G) {q : Int32 × Mm} (hgr : gr G = some (.int q.1)) (hgs : gsf G = q.2) (k7 : Int32 → Int32 → Int32 → Int32 → Int32 → Mm → Option (Int32 × Mm)) (hk7 : ∀ (v1 : Int32) (v3 : Int32) (v4 : Int32) (v5 : Int32) (v6 : Int32) (st : Mm), k7 v1 v3 v4 v5 v6 st = some q → AW G st 7 [(0, .ref (gad G 56)), (1, .int v1), (2, .ref (gad G 11)), (3, .int v3), (4, .int v4), (5, .int v5), (6, .int v6)] []) (v1 : Int32) (v3 : Int32) (v4 : Int32) (v5 : Int32) (v6 : Int32) (s0 : Int32) (st : Mm) (hf : b_Pack_leastOf_87 k7 v1 v3 v4 v5 v6 s0 st = some q) : AW G st 87 [(0, .ref (gad G 56)), (1, .int v1), (2, .ref (gad G 11)), (3, .int v3), (4, .int v4), (5, .int v5), (6, .int v6)] [.int s0] := by
  unfold b_Pack_leastOf_87 at hf
  refine aw_istore C [(10, .int s0), (0, .ref (gad G 56)), (1, .int v1), (2, .ref (gad G 11)), (3, .int v3), (4, .int v4), (5, .int v5), (6, .int v6)] (by rw [hnL]; decide) rfl (by decide +kernel) rfl ?_
  refine aw_iload C 5 6 rfl (by decide +kernel) rfl ?_
  refine aw_iload C 10 0 rfl (by decide +kernel) rfl ?_
  refine aw_mmin C (Nat.le_trans (by decide) hgd) (Nat.le_of_ble_eq_true rfl) tb_875 tb_468 tb_14 tb_469 (by decide +kernel) rfl ?_
  obtain ⟨a1, ha1⟩ : ∃ z, z = (if s0 < v5 then s0 else v5) := ⟨_, rfl⟩
  refine aw_nmi ha1 ?_
  have hf := ilt ha1 hf
  refine aw_istore C [(5, .int a1), (10, .int s0), (0, .ref (gad G 56)), (1, .int v1), (2, .ref (gad G 11)), (3, .int v3), (4, .int v4), (6, .int v6)] (by rw [hnL]; decide) rfl (by decide +kernel) rfl ?_
  obtain ⟨a2, ha2⟩ : ∃ z, z = (v6 + (1 : Int32)) := ⟨_, rfl⟩
  have hf := ilt ha2 hf
  refine aw_iinc C [(6, .int a2), (5, .int a1), (10, .int s0), (0, .ref (gad G 56)), (1, .int v1), (2, .ref (gad G 11)), (3, .int v3), (4, .int v4)] 7 (n := 1) rfl (by rw [ha2]; rfl) (by rw [hnL]; decide) rfl (by decide +kernel) rfl ?_
  refine aw_goto C (tgt := 7) (off := -94) (by decide +kernel) (by decide) ?_
  refine aw_sub [(0, .ref (gad G 56)), (1, .int v1), (2, .ref (gad G 11)), (3, .int v3), (4, .int v4), (5, .int a1), (6, .int a2)] [3, 4, 5, 6, 7, 1, 0] rfl ?_
  exact hk7 v1 v3 v4 a1 a2 _ hf
theorem t_Pack_leastOf_7 {G : Cx} (C : CX G prog_7_method_3_code "PaperStars$Packing") (CR0 : CR G (Option.some FieldType.int)) (E : LCin (gly G)) (hnL : gnL G = 11) (hgd : 1 ≤ gd G) {q : Int32 × Mm} (hgr : gr G = some (.int q.1)) (hgs : gsf G = q.2) (k7 : Int32 → Int32 → Int32 → Int32 → Int32 → Mm → Option (Int32 × Mm)) (hk7 : ∀ (v1 : Int32) (v3 : Int32) (v4 : Int32) (v5 : Int32) (v6 : Int32) (st : Mm), k7 v1 v3 v4 v5 v6 st = some q → AW G st 7 [(0, .ref (gad G 56)), (1, .int v1), (2, .ref (gad G 11)), (3, .int v3), (4, .int v4), (5, .int v5), (6, .int v6)] []) (v1 : Int32) (v3 : Int32) (v4 : Int32) (v5 : Int32) (v6 : Int32) (st : Mm) (hf : b_Pack_leastOf_7 k7 v1 v3 v4 v5 v6 st = some q) : AW G st 7 [(0, .ref (gad G 56)), (1, .int v1), (2, .ref (gad G 11)), (3, .int v3), (4, .int v4), (5, .int v5), (6, .int v6)] [] := by
  unfold b_Pack_leastOf_7 at hf
  refine aw_iload C 6 6 rfl (by decide +kernel) rfl ?_
  refine aw_iload_n C 3 3 (j := 3) rfl rfl (by decide +kernel) rfl ?_
  refine aw_icmp_ge C (tgt := 104) (off := 94) (by decide +kernel) (by decide) rfl (fun c1 => ?_) (fun c1 => ?_)
  · have hf := ift c1 hf
    refine aw_iload C 5 5 rfl (by decide +kernel) rfl ?_
    exact aw_iretq C CR0 hgr hgs hf (by decide +kernel)
  · have hf := iff_ c1 hf
    refine aw_iload_n C 1 1 (j := 1) rfl rfl (by decide +kernel) rfl ?_
    refine aw_iload C 6 6 rfl (by decide +kernel) rfl ?_
    refine aw_ishr C (by decide +kernel) rfl ?_
    refine aw_iconst C (i0 := 1) (v := 1) (by decide) (by decide +kernel) rfl ?_
    refine aw_iand C (by decide +kernel) rfl ?_
    refine aw_iconst C (i0 := 1) (v := 1) (by decide) (by decide +kernel) rfl ?_
    refine aw_icmp_ne C (tgt := 98) (off := 78) (by decide +kernel) (by decide) rfl (fun c2 => ?_) (fun c2 => ?_)
    · have hf := ift c2 hf
      refine aw_aload_n C 0 0 (j := 0) rfl rfl (by decide +kernel) rfl ?_
      refine aw_getr C (k := 1) fc_5 (lc_56 E) rfl (by decide) tb_353 (by decide +kernel) rfl ?_
      refine aw_iload_n C 1 1 (j := 1) rfl rfl (by decide +kernel) rfl ?_
      refine aw_iconst C (i0 := 1) (v := 1) (by decide) (by decide +kernel) rfl ?_
      refine aw_iload C 6 6 rfl (by decide +kernel) rfl ?_
      refine aw_ishl C (by decide +kernel) rfl ?_
      refine aw_ixor C (by decide +kernel) rfl ?_
      obtain ⟨g3, hf⟩ := igd hf
      refine aw_iald C (lc_57 E) g3 (by decide +kernel) rfl ?_
      obtain ⟨a4, ha4⟩ : ∃ z, z = (st.1 57 (v1 ^^^ ((1 : Int32) <<< (v6 &&& 31))).toNatClampNeg) := ⟨_, rfl⟩
      refine aw_nmi ha4 ?_
      have hf := ilt ha4 hf
      refine aw_istore C [(7, .int a4), (0, .ref (gad G 56)), (1, .int v1), (2, .ref (gad G 11)), (3, .int v3), (4, .int v4), (5, .int v5), (6, .int v6)] (by rw [hnL]; decide) rfl (by decide +kernel) rfl ?_
      refine aw_aload_n C 2 3 (j := 2) rfl rfl (by decide +kernel) rfl ?_
      refine aw_getr C (k := 1) fc_10 (lc_11 E) rfl (by decide) tb_83 (by decide +kernel) rfl ?_
      refine aw_iload C 6 7 rfl (by decide +kernel) rfl ?_
      obtain ⟨g5, hf⟩ := igd hf
      refine aw_iald C (lc_12 E) g5 (by decide +kernel) rfl ?_
      obtain ⟨a6, ha6⟩ : ∃ z, z = (st.1 12 v6.toNatClampNeg) := ⟨_, rfl⟩
      refine aw_nmi ha6 ?_
      have hf := ilt ha6 hf
      refine aw_istore C [(8, .int a6), (7, .int a4), (0, .ref (gad G 56)), (1, .int v1), (2, .ref (gad G 11)), (3, .int v3), (4, .int v4), (5, .int v5), (6, .int v6)] (by rw [hnL]; decide) rfl (by decide +kernel) rfl ?_
      refine aw_iload C 7 1 rfl (by decide +kernel) rfl ?_
      refine aw_sipush C (i0 := 256) (v := 256) (by decide) (by decide +kernel) rfl ?_
      refine aw_irem C (by decide) (by decide +kernel) rfl ?_
      refine aw_iload C 8 0 rfl (by decide +kernel) rfl ?_
      refine aw_iadd C (by decide +kernel) rfl ?_
      obtain ⟨a7, ha7⟩ : ∃ z, z = ((a4 - a4 / (256 : Int32) * (256 : Int32)) + a6) := ⟨_, rfl⟩
      refine aw_nmi ha7 ?_
      have hf := ilt ha7 hf
      refine aw_istore C [(9, .int a7), (8, .int a6), (7, .int a4), (0, .ref (gad G 56)), (1, .int v1), (2, .ref (gad G 11)), (3, .int v3), (4, .int v4), (5, .int v5), (6, .int v6)] (by rw [hnL]; decide) rfl (by decide +kernel) rfl ?_
      refine aw_iload C 9 0 rfl (by decide +kernel) rfl ?_
      refine aw_iload C 4 7 rfl (by decide +kernel) rfl ?_
      refine aw_icmp_gt C (tgt := 71) (off := 11) (by decide +kernel) (by decide) rfl (fun c8 => ?_) (fun c8 => ?_)
      · have hf := ift c8 hf
        refine aw_iload C 7 2 rfl (by decide +kernel) rfl ?_
        refine aw_iload C 7 2 rfl (by decide +kernel) rfl ?_
        refine aw_sipush C (i0 := 256) (v := 256) (by decide) (by decide +kernel) rfl ?_
        refine aw_irem C (by decide) (by decide +kernel) rfl ?_
        refine aw_isub C (by decide +kernel) rfl ?_
        refine aw_sipush C (i0 := 256) (v := 256) (by decide) (by decide +kernel) rfl ?_
        refine aw_iadd C (by decide +kernel) rfl ?_
        refine aw_iload C 8 1 rfl (by decide +kernel) rfl ?_
        refine aw_iadd C (by decide +kernel) rfl ?_
        refine aw_sub [(0, .ref (gad G 56)), (1, .int v1), (2, .ref (gad G 11)), (3, .int v3), (4, .int v4), (5, .int v5), (6, .int v6)] [3, 4, 5, 6, 7, 8, 9] rfl ?_
        exact t_Pack_leastOf_87 C CR0 E hnL hgd hgr hgs k7 hk7 v1 v3 v4 v5 v6 (((a4 - (a4 - a4 / (256 : Int32) * (256 : Int32))) + (256 : Int32)) + a6) _ hf
      · have hf := iff_ c8 hf
        refine aw_iload C 7 2 rfl (by decide +kernel) rfl ?_
        refine aw_iload C 8 1 rfl (by decide +kernel) rfl ?_
        refine aw_iadd C (by decide +kernel) rfl ?_
        refine aw_goto C (tgt := 87) (off := 19) (by decide +kernel) (by decide) ?_
        refine aw_sub [(0, .ref (gad G 56)), (1, .int v1), (2, .ref (gad G 11)), (3, .int v3), (4, .int v4), (5, .int v5), (6, .int v6)] [3, 4, 5, 6, 7, 8, 9] rfl ?_
        exact t_Pack_leastOf_87 C CR0 E hnL hgd hgr hgs k7 hk7 v1 v3 v4 v5 v6 (a4 + a6) _ hf
    · have hf := iff_ c2 hf
      obtain ⟨a9, ha9⟩ : ∃ z, z = (v6 + (1 : Int32)) := ⟨_, rfl⟩
      have hf := ilt ha9 hf
      refine aw_iinc C [(6, .int a9), (0, .ref (gad G 56)), (1, .int v1), (2, .ref (gad G 11)), (3, .int v3), (4, .int v4), (5, .int v5)] 6 (n := 1) rfl (by rw [ha9]; rfl) (by rw [hnL]; decide) rfl (by decide +kernel) rfl ?_
      refine aw_goto C (tgt := 7) (off := -94) (by decide +kernel) (by decide) ?_
      refine aw_sub [(0, .ref (gad G 56)), (1, .int v1), (2, .ref (gad G 11)), (3, .int v3), (4, .int v4), (5, .int v5), (6, .int a9)] [1, 2, 3, 4, 5, 6, 0] rfl ?_
      exact hk7 v1 v3 v4 v5 a9 _ hf
theorem u_Pack_leastOf_7 {G : Cx} (C : CX G prog_7_method_3_code "PaperStars$Packing") (CR0 : CR G (Option.some FieldType.int)) (E : LCin (gly G)) (hnL : gnL G = 11) (hgd : 1 ≤ gd G) {q : Int32 × Mm} (hgr : gr G = some (.int q.1)) (hgs : gsf G = q.2) : ∀ (n : Nat) (v1 : Int32) (v3 : Int32) (v4 : Int32) (v5 : Int32) (v6 : Int32) (st : Mm), f_Pack_leastOf_7 n v1 v3 v4 v5 v6 st = some q → AW G st 7 [(0, .ref (gad G 56)), (1, .int v1), (2, .ref (gad G 11)), (3, .int v3), (4, .int v4), (5, .int v5), (6, .int v6)] [] := by
  intro n
  induction n with
  | zero => intro v1 v3 v4 v5 v6 st hf; cases hf
  | succ n ih => intro v1 v3 v4 v5 v6 st hf; exact t_Pack_leastOf_7 C CR0 E hnL hgd hgr hgs (f_Pack_leastOf_7 n) ih v1 v3 v4 v5 v6 st hf
theorem t_Pack_leastOf {G : Cx} (C : CX G prog_7_method_3_code "PaperStars$Packing") (CR0 : CR G (Option.some FieldType.int)) (E : LCin (gly G)) (hnL : gnL G = 11) (hgd : 1 ≤ gd G) {q : Int32 × Mm} (hgr : gr G = some (.int q.1)) (hgs : gsf G = q.2) (v1 : Int32) (v3 : Int32) (v4 : Int32) (st : Mm) (hf : f_Pack_leastOf v1 v3 v4 st = some q) : AW G st 0 [(0, .ref (gad G 56)), (1, .int v1), (2, .ref (gad G 11)), (3, .int v3), (4, .int v4)] [] := by
  unfold f_Pack_leastOf at hf
  refine aw_ldc C tb_874 (by decide +kernel) rfl ?_
  refine aw_istore C [(5, .int (2147483647 : Int32)), (0, .ref (gad G 56)), (1, .int v1), (2, .ref (gad G 11)), (3, .int v3), (4, .int v4)] (by rw [hnL]; decide) rfl (by decide +kernel) rfl ?_
  refine aw_iconst C (i0 := 0) (v := 0) (by decide) (by decide +kernel) rfl ?_
  refine aw_istore C [(6, .int (0 : Int32)), (5, .int (2147483647 : Int32)), (0, .ref (gad G 56)), (1, .int v1), (2, .ref (gad G 11)), (3, .int v3), (4, .int v4)] (by rw [hnL]; decide) rfl (by decide +kernel) rfl ?_
  refine aw_sub [(0, .ref (gad G 56)), (1, .int v1), (2, .ref (gad G 11)), (3, .int v3), (4, .int v4), (5, .int (2147483647 : Int32)), (6, .int (0 : Int32))] [2, 3, 4, 5, 6, 1, 0] rfl ?_
  exact u_Pack_leastOf_7 C CR0 E hnL hgd hgr hgs _ v1 v3 v4 (2147483647 : Int32) (0 : Int32) _ hf
theorem c_Pack_leastOf {lay : Ly} (E : LCin lay) (v1 : Int32) (v3 : Int32) (v4 : Int32) (st : Mm) (q : Int32 × Mm) (hf : f_Pack_leastOf v1 v3 v4 st = some q) : Con 1 Y124 prog_7_method_3_code 11 (Option.some FieldType.int) lay (fun ad => [.ref (ad 56), .int v1, .ref (ad 11), .int v3, .int v4]) st (some (.int q.1)) q.2 :=
  am_met yf_124.2.2.2.2.2 (fun ad => Nat.le_of_ble_eq_true rfl) (fun G C CR0 e1 e2 e3 e4 e5 => t_Pack_leastOf C CR0 (by rw [e1]; exact E) e2 (Nat.le_of_eq e5.symm) e3 e4 v1 v3 v4 st hf)
def b_Pack_pack_95 (v2 : Int32) (st : Mm) : Option (Int32 × Mm) :=
  if inb (((1 : Int32) <<< (v2 &&& 31)) - (1 : Int32)) 1024 then some ((((st.1 57 (((1 : Int32) <<< (v2 &&& 31)) - (1 : Int32)).toNatClampNeg) / (256 : Int32)) + (1 : Int32)), st) else none
def b_Pack_pack_65 (k65 : Int32 → Int32 → Int32 → Mm → Option (Int32 × Mm)) (v2 : Int32) (v3 : Int32) (v4 : Int32) (st : Mm) : Option (Int32 × Mm) :=
  if ((1 : Int32) <<< (v2 &&& 31)) ≤ v4 then (b_Pack_pack_95 v2 st) else ((f_Pack_leastOf v4 v2 v3 st).bind (fun q2 => if inb v4 1024 then lt_ (v4 + (1 : Int32)) (fun a4 => k65 v2 v3 a4 (sI q2.2 57 v4.toNatClampNeg q2.1)) else none))
def f_Pack_pack_65 : Nat → Int32 → Int32 → Int32 → Mm → Option (Int32 × Mm)
  | 0 => fun _ _ _ _ => none
  | n + 1 => b_Pack_pack_65 (f_Pack_pack_65 n)
def b_Pack_pack_55 (v2 : Int32) (v3 : Int32) (st : Mm) : Option (Int32 × Mm) :=
  f_Pack_pack_65 1000000 v2 v3 (1 : Int32) (sI st 57 (0 : Int32).toNatClampNeg (0 : Int32))
def b_Pack_pack_8 (k8 : Int32 → Int32 → Int32 → Mm → Option (Int32 × Mm)) (v2 : Int32) (v3 : Int32) (v4 : Int32) (st : Mm) : Option (Int32 × Mm) :=
  if v2 ≤ v4 then (b_Pack_pack_55 v2 v3 st) else (if inb v4 200 then lt_ (st.1 12 v4.toNatClampNeg) (fun a3 => if a3 < (1 : Int32) then (some ((-2 : Int32), st)) else (if a3 ≤ v3 then (lt_ ((st.1 56 0) + a3) (fun a6 => lt_ (v4 + (1 : Int32)) (fun a7 => k8 v2 v3 a7 (sI st 56 0 a6)))) else (some ((-2 : Int32), st)))) else none)
def f_Pack_pack_8 : Nat → Int32 → Int32 → Int32 → Mm → Option (Int32 × Mm)
  | 0 => fun _ _ _ _ => none
  | n + 1 => b_Pack_pack_8 (f_Pack_pack_8 n)
def f_Pack_pack (v2 : Int32) (v3 : Int32) (st : Mm) : Option (Int32 × Mm) :=
  f_Pack_pack_8 1000000 v2 v3 (0 : Int32) (sI st 56 0 (0 : Int32))
theorem t_Pack_pack_95 {G : Cx} (C : CX G prog_7_method_2_code "PaperStars$Packing") (CR0 : CR G (Option.some FieldType.int)) (E : LCin (gly G)) (hnL : gnL G = 6) (hgd : 2 ≤ gd G) {q : Int32 × Mm} (hgr : gr G = some (.int q.1)) (hgs : gsf G = q.2) (v2 : Int32) (st : Mm) (hf : b_Pack_pack_95 v2 st = some q) : AW G st 95 [(0, .ref (gad G 56)), (2, .int v2)] [] := by
  unfold b_Pack_pack_95 at hf
  refine aw_aload_n C 0 0 (j := 0) rfl rfl (by decide +kernel) rfl ?_
  refine aw_getr C (k := 1) fc_5 (lc_56 E) rfl (by decide) tb_353 (by decide +kernel) rfl ?_
  refine aw_iconst C (i0 := 1) (v := 1) (by decide) (by decide +kernel) rfl ?_
  refine aw_iload_n C 2 1 (j := 2) rfl rfl (by decide +kernel) rfl ?_
  refine aw_ishl C (by decide +kernel) rfl ?_
  refine aw_iconst C (i0 := 1) (v := 1) (by decide) (by decide +kernel) rfl ?_
  refine aw_isub C (by decide +kernel) rfl ?_
  obtain ⟨g1, hf⟩ := igd hf
  refine aw_iald C (lc_57 E) g1 (by decide +kernel) rfl ?_
  refine aw_sipush C (i0 := 256) (v := 256) (by decide) (by decide +kernel) rfl ?_
  refine aw_idiv C (by decide) (by decide +kernel) rfl ?_
  refine aw_iconst C (i0 := 1) (v := 1) (by decide) (by decide +kernel) rfl ?_
  refine aw_iadd C (by decide +kernel) rfl ?_
  exact aw_iretq C CR0 hgr hgs hf (by decide +kernel)
theorem t_Pack_pack_65 {G : Cx} (C : CX G prog_7_method_2_code "PaperStars$Packing") (CR0 : CR G (Option.some FieldType.int)) (E : LCin (gly G)) (hnL : gnL G = 6) (hgd : 2 ≤ gd G) {q : Int32 × Mm} (hgr : gr G = some (.int q.1)) (hgs : gsf G = q.2) (k65 : Int32 → Int32 → Int32 → Mm → Option (Int32 × Mm)) (hk65 : ∀ (v2 : Int32) (v3 : Int32) (v4 : Int32) (st : Mm), k65 v2 v3 v4 st = some q → AW G st 65 [(0, .ref (gad G 56)), (1, .ref (gad G 11)), (2, .int v2), (3, .int v3), (4, .int v4)] []) (v2 : Int32) (v3 : Int32) (v4 : Int32) (st : Mm) (hf : b_Pack_pack_65 k65 v2 v3 v4 st = some q) : AW G st 65 [(0, .ref (gad G 56)), (1, .ref (gad G 11)), (2, .int v2), (3, .int v3), (4, .int v4)] [] := by
  unfold b_Pack_pack_65 at hf
  refine aw_iload C 4 4 rfl (by decide +kernel) rfl ?_
  refine aw_iconst C (i0 := 1) (v := 1) (by decide) (by decide +kernel) rfl ?_
  refine aw_iload_n C 2 2 (j := 2) rfl rfl (by decide +kernel) rfl ?_
  refine aw_ishl C (by decide +kernel) rfl ?_
  refine aw_icmp_ge C (tgt := 95) (off := 25) (by decide +kernel) (by decide) rfl (fun c1 => ?_) (fun c1 => ?_)
  · have hf := ift c1 hf
    refine aw_sub [(0, .ref (gad G 56)), (2, .int v2)] [0, 2] rfl ?_
    exact t_Pack_pack_95 C CR0 E hnL hgd hgr hgs v2 _ hf
  · have hf := iff_ c1 hf
    refine aw_aload_n C 0 0 (j := 0) rfl rfl (by decide +kernel) rfl ?_
    refine aw_getr C (k := 1) fc_5 (lc_56 E) rfl (by decide) tb_353 (by decide +kernel) rfl ?_
    refine aw_iload C 4 4 rfl (by decide +kernel) rfl ?_
    refine aw_aload_n C 0 0 (j := 0) rfl rfl (by decide +kernel) rfl ?_
    refine aw_iload C 4 4 rfl (by decide +kernel) rfl ?_
    refine aw_aload_n C 1 1 (j := 1) rfl rfl (by decide +kernel) rfl ?_
    refine aw_iload_n C 2 2 (j := 2) rfl rfl (by decide +kernel) rfl ?_
    refine aw_iload_n C 3 3 (j := 3) rfl rfl (by decide +kernel) rfl ?_
    obtain ⟨q2, hq2, hf⟩ := ibd hf
    refine aw_callV C (rest := [.int v4, .ref (gad G 57)]) (c_Pack_leastOf E v4 v2 v3 _ q2 hq2) tb_870 yf_124 yi_124 (lc_56 E) [.int v4, .ref (gad G 11), .int v2, .int v3] rfl rfl _ rfl (Nat.le_trans (by decide) hgd) (Nat.le_of_ble_eq_true rfl) (by decide +kernel) rfl ?_
    show AW _ _ _ _ [.int q2.1, .int v4, .ref (gad G 57)]
    obtain ⟨g3, hf⟩ := igd hf
    refine aw_iast C (lc_57 E) g3 (by decide +kernel) rfl ?_
    obtain ⟨a4, ha4⟩ : ∃ z, z = (v4 + (1 : Int32)) := ⟨_, rfl⟩
    have hf := ilt ha4 hf
    refine aw_iinc C [(4, .int a4), (0, .ref (gad G 56)), (1, .ref (gad G 11)), (2, .int v2), (3, .int v3)] 4 (n := 1) rfl (by rw [ha4]; rfl) (by rw [hnL]; decide) rfl (by decide +kernel) rfl ?_
    refine aw_goto C (tgt := 65) (off := -27) (by decide +kernel) (by decide) ?_
    refine aw_sub [(0, .ref (gad G 56)), (1, .ref (gad G 11)), (2, .int v2), (3, .int v3), (4, .int a4)] [1, 2, 3, 4, 0] rfl ?_
    exact hk65 v2 v3 a4 _ hf
theorem u_Pack_pack_65 {G : Cx} (C : CX G prog_7_method_2_code "PaperStars$Packing") (CR0 : CR G (Option.some FieldType.int)) (E : LCin (gly G)) (hnL : gnL G = 6) (hgd : 2 ≤ gd G) {q : Int32 × Mm} (hgr : gr G = some (.int q.1)) (hgs : gsf G = q.2) : ∀ (n : Nat) (v2 : Int32) (v3 : Int32) (v4 : Int32) (st : Mm), f_Pack_pack_65 n v2 v3 v4 st = some q → AW G st 65 [(0, .ref (gad G 56)), (1, .ref (gad G 11)), (2, .int v2), (3, .int v3), (4, .int v4)] [] := by
  intro n
  induction n with
  | zero => intro v2 v3 v4 st hf; cases hf
  | succ n ih => intro v2 v3 v4 st hf; exact t_Pack_pack_65 C CR0 E hnL hgd hgr hgs (f_Pack_pack_65 n) ih v2 v3 v4 st hf
theorem t_Pack_pack_55 {G : Cx} (C : CX G prog_7_method_2_code "PaperStars$Packing") (CR0 : CR G (Option.some FieldType.int)) (E : LCin (gly G)) (hnL : gnL G = 6) (hgd : 2 ≤ gd G) {q : Int32 × Mm} (hgr : gr G = some (.int q.1)) (hgs : gsf G = q.2) (v2 : Int32) (v3 : Int32) (st : Mm) (hf : b_Pack_pack_55 v2 v3 st = some q) : AW G st 55 [(0, .ref (gad G 56)), (1, .ref (gad G 11)), (2, .int v2), (3, .int v3)] [] := by
  unfold b_Pack_pack_55 at hf
  refine aw_aload_n C 0 0 (j := 0) rfl rfl (by decide +kernel) rfl ?_
  refine aw_getr C (k := 1) fc_5 (lc_56 E) rfl (by decide) tb_353 (by decide +kernel) rfl ?_
  refine aw_iconst C (i0 := 0) (v := 0) (by decide) (by decide +kernel) rfl ?_
  refine aw_iconst C (i0 := 0) (v := 0) (by decide) (by decide +kernel) rfl ?_
  refine aw_iast C (lc_57 E) (by decide) (by decide +kernel) rfl ?_
  refine aw_iconst C (i0 := 1) (v := 1) (by decide) (by decide +kernel) rfl ?_
  refine aw_istore C [(4, .int (1 : Int32)), (0, .ref (gad G 56)), (1, .ref (gad G 11)), (2, .int v2), (3, .int v3)] (by rw [hnL]; decide) rfl (by decide +kernel) rfl ?_
  refine aw_sub [(0, .ref (gad G 56)), (1, .ref (gad G 11)), (2, .int v2), (3, .int v3), (4, .int (1 : Int32))] [1, 2, 3, 4, 0] rfl ?_
  exact u_Pack_pack_65 C CR0 E hnL hgd hgr hgs _ v2 v3 (1 : Int32) _ hf
theorem t_Pack_pack_8 {G : Cx} (C : CX G prog_7_method_2_code "PaperStars$Packing") (CR0 : CR G (Option.some FieldType.int)) (E : LCin (gly G)) (hnL : gnL G = 6) (hgd : 2 ≤ gd G) {q : Int32 × Mm} (hgr : gr G = some (.int q.1)) (hgs : gsf G = q.2) (k8 : Int32 → Int32 → Int32 → Mm → Option (Int32 × Mm)) (hk8 : ∀ (v2 : Int32) (v3 : Int32) (v4 : Int32) (st : Mm), k8 v2 v3 v4 st = some q → AW G st 8 [(0, .ref (gad G 56)), (1, .ref (gad G 11)), (2, .int v2), (3, .int v3), (4, .int v4)] []) (v2 : Int32) (v3 : Int32) (v4 : Int32) (st : Mm) (hf : b_Pack_pack_8 k8 v2 v3 v4 st = some q) : AW G st 8 [(0, .ref (gad G 56)), (1, .ref (gad G 11)), (2, .int v2), (3, .int v3), (4, .int v4)] [] := by
  unfold b_Pack_pack_8 at hf
  refine aw_iload C 4 4 rfl (by decide +kernel) rfl ?_
  refine aw_iload_n C 2 2 (j := 2) rfl rfl (by decide +kernel) rfl ?_
  refine aw_icmp_ge C (tgt := 55) (off := 44) (by decide +kernel) (by decide) rfl (fun c1 => ?_) (fun c1 => ?_)
  · have hf := ift c1 hf
    refine aw_sub [(0, .ref (gad G 56)), (1, .ref (gad G 11)), (2, .int v2), (3, .int v3)] [0, 1, 2, 3] rfl ?_
    exact t_Pack_pack_55 C CR0 E hnL hgd hgr hgs v2 v3 _ hf
  · have hf := iff_ c1 hf
    refine aw_aload_n C 1 1 (j := 1) rfl rfl (by decide +kernel) rfl ?_
    refine aw_getr C (k := 1) fc_10 (lc_11 E) rfl (by decide) tb_83 (by decide +kernel) rfl ?_
    refine aw_iload C 4 4 rfl (by decide +kernel) rfl ?_
    obtain ⟨g2, hf⟩ := igd hf
    refine aw_iald C (lc_12 E) g2 (by decide +kernel) rfl ?_
    obtain ⟨a3, ha3⟩ : ∃ z, z = (st.1 12 v4.toNatClampNeg) := ⟨_, rfl⟩
    refine aw_nmi ha3 ?_
    have hf := ilt ha3 hf
    refine aw_istore C [(5, .int a3), (0, .ref (gad G 56)), (1, .ref (gad G 11)), (2, .int v2), (3, .int v3), (4, .int v4)] (by rw [hnL]; decide) rfl (by decide +kernel) rfl ?_
    refine aw_iload C 5 0 rfl (by decide +kernel) rfl ?_
    refine aw_iconst C (i0 := 1) (v := 1) (by decide) (by decide +kernel) rfl ?_
    refine aw_icmp_lt C (tgt := 35) (off := 9) (by decide +kernel) (by decide) rfl (fun c4 => ?_) (fun c4 => ?_)
    · have hf := ift c4 hf
      refine aw_bipush C (i0 := -2) (v := -2) (by decide) (by decide +kernel) rfl ?_
      exact aw_iretq C CR0 hgr hgs hf (by decide +kernel)
    · have hf := iff_ c4 hf
      refine aw_iload C 5 0 rfl (by decide +kernel) rfl ?_
      refine aw_iload_n C 3 4 (j := 3) rfl rfl (by decide +kernel) rfl ?_
      refine aw_icmp_le C (tgt := 38) (off := 6) (by decide +kernel) (by decide) rfl (fun c5 => ?_) (fun c5 => ?_)
      · have hf := ift c5 hf
        refine aw_aload_n C 0 1 (j := 0) rfl rfl (by decide +kernel) rfl ?_
        refine aw_dup C rfl (by decide +kernel) rfl ?_
        refine aw_get C (k := 0) fc_5 (lc_56 E) rfl (by decide) tb_351 (by decide +kernel) rfl ?_
        refine aw_iload C 5 0 rfl (by decide +kernel) rfl ?_
        refine aw_iadd C (by decide +kernel) rfl ?_
        obtain ⟨a6, ha6⟩ : ∃ z, z = ((st.1 56 0) + a3) := ⟨_, rfl⟩
        refine aw_nmi ha6 ?_
        have hf := ilt ha6 hf
        refine aw_put C (k := 0) fc_5 (lc_56 E) rfl (by decide) rfl rfl tb_351 (by decide +kernel) rfl ?_
        obtain ⟨a7, ha7⟩ : ∃ z, z = (v4 + (1 : Int32)) := ⟨_, rfl⟩
        have hf := ilt ha7 hf
        refine aw_iinc C [(4, .int a7), (5, .int a3), (0, .ref (gad G 56)), (1, .ref (gad G 11)), (2, .int v2), (3, .int v3)] 5 (n := 1) rfl (by rw [ha7]; rfl) (by rw [hnL]; decide) rfl (by decide +kernel) rfl ?_
        refine aw_goto C (tgt := 8) (off := -44) (by decide +kernel) (by decide) ?_
        refine aw_sub [(0, .ref (gad G 56)), (1, .ref (gad G 11)), (2, .int v2), (3, .int v3), (4, .int a7)] [2, 3, 4, 5, 0] rfl ?_
        exact hk8 v2 v3 a7 _ hf
      · have hf := iff_ c5 hf
        refine aw_bipush C (i0 := -2) (v := -2) (by decide) (by decide +kernel) rfl ?_
        exact aw_iretq C CR0 hgr hgs hf (by decide +kernel)
theorem u_Pack_pack_8 {G : Cx} (C : CX G prog_7_method_2_code "PaperStars$Packing") (CR0 : CR G (Option.some FieldType.int)) (E : LCin (gly G)) (hnL : gnL G = 6) (hgd : 2 ≤ gd G) {q : Int32 × Mm} (hgr : gr G = some (.int q.1)) (hgs : gsf G = q.2) : ∀ (n : Nat) (v2 : Int32) (v3 : Int32) (v4 : Int32) (st : Mm), f_Pack_pack_8 n v2 v3 v4 st = some q → AW G st 8 [(0, .ref (gad G 56)), (1, .ref (gad G 11)), (2, .int v2), (3, .int v3), (4, .int v4)] [] := by
  intro n
  induction n with
  | zero => intro v2 v3 v4 st hf; cases hf
  | succ n ih => intro v2 v3 v4 st hf; exact t_Pack_pack_8 C CR0 E hnL hgd hgr hgs (f_Pack_pack_8 n) ih v2 v3 v4 st hf
theorem t_Pack_pack {G : Cx} (C : CX G prog_7_method_2_code "PaperStars$Packing") (CR0 : CR G (Option.some FieldType.int)) (E : LCin (gly G)) (hnL : gnL G = 6) (hgd : 2 ≤ gd G) {q : Int32 × Mm} (hgr : gr G = some (.int q.1)) (hgs : gsf G = q.2) (v2 : Int32) (v3 : Int32) (st : Mm) (hf : f_Pack_pack v2 v3 st = some q) : AW G st 0 [(0, .ref (gad G 56)), (1, .ref (gad G 11)), (2, .int v2), (3, .int v3)] [] := by
  unfold f_Pack_pack at hf
  refine aw_aload_n C 0 0 (j := 0) rfl rfl (by decide +kernel) rfl ?_
  refine aw_iconst C (i0 := 0) (v := 0) (by decide) (by decide +kernel) rfl ?_
  refine aw_put C (k := 0) fc_5 (lc_56 E) rfl (by decide) rfl rfl tb_351 (by decide +kernel) rfl ?_
  refine aw_iconst C (i0 := 0) (v := 0) (by decide) (by decide +kernel) rfl ?_
  refine aw_istore C [(4, .int (0 : Int32)), (0, .ref (gad G 56)), (1, .ref (gad G 11)), (2, .int v2), (3, .int v3)] (by rw [hnL]; decide) rfl (by decide +kernel) rfl ?_
  refine aw_sub [(0, .ref (gad G 56)), (1, .ref (gad G 11)), (2, .int v2), (3, .int v3), (4, .int (0 : Int32))] [1, 2, 3, 4, 0] rfl ?_
  exact u_Pack_pack_8 C CR0 E hnL hgd hgr hgs _ v2 v3 (0 : Int32) _ hf
theorem c_Pack_pack {lay : Ly} (E : LCin lay) (v2 : Int32) (v3 : Int32) (st : Mm) (q : Int32 × Mm) (hf : f_Pack_pack v2 v3 st = some q) : Con 2 Y123 prog_7_method_2_code 6 (Option.some FieldType.int) lay (fun ad => [.ref (ad 56), .ref (ad 11), .int v2, .int v3]) st (some (.int q.1)) q.2 :=
  am_met yf_123.2.2.2.2.2 (fun ad => Nat.le_of_ble_eq_true rfl) (fun G C CR0 e1 e2 e3 e4 e5 => t_Pack_pack C CR0 (by rw [e1]; exact E) e2 (Nat.le_of_eq e5.symm) e3 e4 v2 v3 st hf)
def f_x_strips (v1 : Int32) (v2 : Int32) (v3 : Int32) (st : Mm) : Option (Int32 × Mm) :=
  if v1 < (1 : Int32) then (some ((-1 : Int32), st)) else (if (255 : Int32) < v1 then (some ((-1 : Int32), st)) else (if v2 < (1 : Int32) then (some ((-1 : Int32), st)) else (if (10 : Int32) < v2 then (some ((-1 : Int32), st)) else (if v3 < 0 then (some ((-1 : Int32), st)) else (if (1 : Int32) < v3 then (some ((-1 : Int32), st)) else (if v2 ≤ (st.1 11 0) then ((f_Pack_pack v2 v1 st).bind (fun q8 => if 0 ≤ q8.1 then (if v3 = 0 then (some (q8.1, (sI q8.2 11 0 (0 : Int32)))) else (some (((q8.1 * v1) - ((sI q8.2 11 0 (0 : Int32)).1 56 0)), (sI q8.2 11 0 (0 : Int32))))) else (some ((-2 : Int32), (sI q8.2 11 0 (0 : Int32)))))) else (some ((-1 : Int32), st))))))))
theorem t_x_strips {G : Cx} (C : CX G prog_1_method_22_code "PaperStars") (CR0 : CR G (Option.some FieldType.int)) (E : LCin (gly G)) (hnL : gnL G = 5) (hgd : 3 ≤ gd G) {q : Int32 × Mm} (hgr : gr G = some (.int q.1)) (hgs : gsf G = q.2) (v1 : Int32) (v2 : Int32) (v3 : Int32) (st : Mm) (hf : f_x_strips v1 v2 v3 st = some q) : AW G st 0 [(0, .ref (gad G 0)), (1, .int v1), (2, .int v2), (3, .int v3)] [] := by
  unfold f_x_strips at hf
  refine aw_iload_n C 1 1 (j := 1) rfl rfl (by decide +kernel) rfl ?_
  refine aw_iconst C (i0 := 1) (v := 1) (by decide) (by decide +kernel) rfl ?_
  refine aw_icmp_lt C (tgt := 43) (off := 41) (by decide +kernel) (by decide) rfl (fun c1 => ?_) (fun c1 => ?_)
  · have hf := ift c1 hf
    refine aw_iconst C (i0 := -1) (v := -1) (by decide) (by decide +kernel) rfl ?_
    exact aw_iretq C CR0 hgr hgs hf (by decide +kernel)
  · have hf := iff_ c1 hf
    refine aw_iload_n C 1 1 (j := 1) rfl rfl (by decide +kernel) rfl ?_
    refine aw_sipush C (i0 := 255) (v := 255) (by decide) (by decide +kernel) rfl ?_
    refine aw_icmp_gt C (tgt := 43) (off := 34) (by decide +kernel) (by decide) rfl (fun c2 => ?_) (fun c2 => ?_)
    · have hf := ift c2 hf
      refine aw_iconst C (i0 := -1) (v := -1) (by decide) (by decide +kernel) rfl ?_
      exact aw_iretq C CR0 hgr hgs hf (by decide +kernel)
    · have hf := iff_ c2 hf
      refine aw_iload_n C 2 2 (j := 2) rfl rfl (by decide +kernel) rfl ?_
      refine aw_iconst C (i0 := 1) (v := 1) (by decide) (by decide +kernel) rfl ?_
      refine aw_icmp_lt C (tgt := 43) (off := 29) (by decide +kernel) (by decide) rfl (fun c3 => ?_) (fun c3 => ?_)
      · have hf := ift c3 hf
        refine aw_iconst C (i0 := -1) (v := -1) (by decide) (by decide +kernel) rfl ?_
        exact aw_iretq C CR0 hgr hgs hf (by decide +kernel)
      · have hf := iff_ c3 hf
        refine aw_iload_n C 2 2 (j := 2) rfl rfl (by decide +kernel) rfl ?_
        refine aw_bipush C (i0 := 10) (v := 10) (by decide) (by decide +kernel) rfl ?_
        refine aw_icmp_gt C (tgt := 43) (off := 23) (by decide +kernel) (by decide) rfl (fun c4 => ?_) (fun c4 => ?_)
        · have hf := ift c4 hf
          refine aw_iconst C (i0 := -1) (v := -1) (by decide) (by decide +kernel) rfl ?_
          exact aw_iretq C CR0 hgr hgs hf (by decide +kernel)
        · have hf := iff_ c4 hf
          refine aw_iload_n C 3 3 (j := 3) rfl rfl (by decide +kernel) rfl ?_
          refine aw_if_lt C (tgt := 43) (off := 19) (by decide +kernel) (by decide) rfl (fun c5 => ?_) (fun c5 => ?_)
          · have hf := ift c5 hf
            refine aw_iconst C (i0 := -1) (v := -1) (by decide) (by decide +kernel) rfl ?_
            exact aw_iretq C CR0 hgr hgs hf (by decide +kernel)
          · have hf := iff_ c5 hf
            refine aw_iload_n C 3 3 (j := 3) rfl rfl (by decide +kernel) rfl ?_
            refine aw_iconst C (i0 := 1) (v := 1) (by decide) (by decide +kernel) rfl ?_
            refine aw_icmp_gt C (tgt := 43) (off := 14) (by decide +kernel) (by decide) rfl (fun c6 => ?_) (fun c6 => ?_)
            · have hf := ift c6 hf
              refine aw_iconst C (i0 := -1) (v := -1) (by decide) (by decide +kernel) rfl ?_
              exact aw_iretq C CR0 hgr hgs hf (by decide +kernel)
            · have hf := iff_ c6 hf
              refine aw_iload_n C 2 2 (j := 2) rfl rfl (by decide +kernel) rfl ?_
              refine aw_aload_n C 0 0 (j := 0) rfl rfl (by decide +kernel) rfl ?_
              refine aw_getr C (k := 2) fc_11 (lc_0 E) rfl (by decide) tb_398 (by decide +kernel) rfl ?_
              refine aw_get C (k := 0) fc_10 (lc_11 E) rfl (by decide) tb_81 (by decide +kernel) rfl ?_
              refine aw_icmp_le C (tgt := 45) (off := 5) (by decide +kernel) (by decide) rfl (fun c7 => ?_) (fun c7 => ?_)
              · have hf := ift c7 hf
                refine aw_aload_n C 0 0 (j := 0) rfl rfl (by decide +kernel) rfl ?_
                refine aw_getr C (k := 11) fc_11 (lc_0 E) rfl (by decide) tb_407 (by decide +kernel) rfl ?_
                refine aw_aload_n C 0 0 (j := 0) rfl rfl (by decide +kernel) rfl ?_
                refine aw_getr C (k := 2) fc_11 (lc_0 E) rfl (by decide) tb_398 (by decide +kernel) rfl ?_
                refine aw_iload_n C 2 2 (j := 2) rfl rfl (by decide +kernel) rfl ?_
                refine aw_iload_n C 1 1 (j := 1) rfl rfl (by decide +kernel) rfl ?_
                obtain ⟨q8, hq8, hf⟩ := ibd hf
                refine aw_callV C (rest := []) (c_Pack_pack E v2 v1 _ q8 hq8) tb_866 yf_123 yi_123 (lc_56 E) [.ref (gad G 11), .int v2, .int v1] rfl rfl _ rfl (Nat.le_trans (by decide) hgd) (Nat.le_of_ble_eq_true rfl) (by decide +kernel) rfl ?_
                show AW _ _ _ _ [.int q8.1]
                refine aw_istore C [(4, .int q8.1), (0, .ref (gad G 0)), (1, .int v1), (2, .int v2), (3, .int v3)] (by rw [hnL]; decide) rfl (by decide +kernel) rfl ?_
                refine aw_aload_n C 0 1 (j := 0) rfl rfl (by decide +kernel) rfl ?_
                refine aw_getr C (k := 2) fc_11 (lc_0 E) rfl (by decide) tb_398 (by decide +kernel) rfl ?_
                refine aw_iconst C (i0 := 0) (v := 0) (by decide) (by decide +kernel) rfl ?_
                refine aw_put C (k := 0) fc_10 (lc_11 E) rfl (by decide) rfl rfl tb_81 (by decide +kernel) rfl ?_
                refine aw_iload C 4 0 rfl (by decide +kernel) rfl ?_
                refine aw_if_ge C (tgt := 76) (off := 6) (by decide +kernel) (by decide) rfl (fun c9 => ?_) (fun c9 => ?_)
                · have hf := ift c9 hf
                  refine aw_iload_n C 3 4 (j := 3) rfl rfl (by decide +kernel) rfl ?_
                  refine aw_if_ne C (tgt := 85) (off := 8) (by decide +kernel) (by decide) rfl (fun c10 => ?_) (fun c10 => ?_)
                  · have hf := ift c10 hf
                    refine aw_iload C 4 0 rfl (by decide +kernel) rfl ?_
                    refine aw_goto C (tgt := 97) (off := 15) (by decide +kernel) (by decide) ?_
                    exact aw_iretq C CR0 hgr hgs hf (by decide +kernel)
                  · have hf := iff_ c10 hf
                    refine aw_iload C 4 0 rfl (by decide +kernel) rfl ?_
                    refine aw_iload_n C 1 2 (j := 1) rfl rfl (by decide +kernel) rfl ?_
                    refine aw_imul C (by decide +kernel) rfl ?_
                    refine aw_aload_n C 0 1 (j := 0) rfl rfl (by decide +kernel) rfl ?_
                    refine aw_getr C (k := 11) fc_11 (lc_0 E) rfl (by decide) tb_407 (by decide +kernel) rfl ?_
                    refine aw_get C (k := 0) fc_5 (lc_56 E) rfl (by decide) tb_352 (by decide +kernel) rfl ?_
                    refine aw_isub C (by decide +kernel) rfl ?_
                    exact aw_iretq C CR0 hgr hgs hf (by decide +kernel)
                · have hf := iff_ c9 hf
                  refine aw_bipush C (i0 := -2) (v := -2) (by decide) (by decide +kernel) rfl ?_
                  exact aw_iretq C CR0 hgr hgs hf (by decide +kernel)
              · have hf := iff_ c7 hf
                refine aw_iconst C (i0 := -1) (v := -1) (by decide) (by decide +kernel) rfl ?_
                exact aw_iretq C CR0 hgr hgs hf (by decide +kernel)
theorem c_x_strips {lay : Ly} (E : LCin lay) (v1 : Int32) (v2 : Int32) (v3 : Int32) (st : Mm) (q : Int32 × Mm) (hf : f_x_strips v1 v2 v3 st = some q) : Con 3 Y122 prog_1_method_22_code 5 (Option.some FieldType.int) lay (fun ad => [.ref (ad 0), .int v1, .int v2, .int v3]) st (some (.int q.1)) q.2 :=
  am_met yf_122.2.2.2.2.2 (fun ad => Nat.le_of_ble_eq_true rfl) (fun G C CR0 e1 e2 e3 e4 e5 => t_x_strips C CR0 (by rw [e1]; exact E) e2 (Nat.le_of_eq e5.symm) e3 e4 v1 v2 v3 st hf)
def f_x_areSlips (v1 : Int32) (st : Mm) : Option (Int32 × Mm) :=
  if v1 < 0 then (some ((0 : Int32), st)) else (if ((1 : Int32) <<< ((st.1 1 3) &&& 31)) ≤ v1 then (some ((0 : Int32), st)) else (some ((1 : Int32), st)))
theorem t_x_areSlips {G : Cx} (C : CX G prog_1_method_38_code "PaperStars") (CR0 : CR G (Option.some FieldType.boolean)) (E : LCin (gly G)) (hnL : gnL G = 2) (hgd : 0 ≤ gd G) {q : Int32 × Mm} (hgr : gr G = some (.int q.1)) (hgs : gsf G = q.2) (v1 : Int32) (st : Mm) (hf : f_x_areSlips v1 st = some q) : AW G st 0 [(0, .ref (gad G 0)), (1, .int v1)] [] := by
  unfold f_x_areSlips at hf
  refine aw_iload_n C 1 1 (j := 1) rfl rfl (by decide +kernel) rfl ?_
  refine aw_if_lt C (tgt := 21) (off := 20) (by decide +kernel) (by decide) rfl (fun c1 => ?_) (fun c1 => ?_)
  · have hf := ift c1 hf
    refine aw_iconst C (i0 := 0) (v := 0) (by decide) (by decide +kernel) rfl ?_
    exact aw_zretq C CR0 hgr hgs (by decide) hf (by decide +kernel)
  · have hf := iff_ c1 hf
    refine aw_iload_n C 1 1 (j := 1) rfl rfl (by decide +kernel) rfl ?_
    refine aw_iconst C (i0 := 1) (v := 1) (by decide) (by decide +kernel) rfl ?_
    refine aw_aload_n C 0 0 (j := 0) rfl rfl (by decide +kernel) rfl ?_
    refine aw_getr C (k := 0) fc_11 (lc_0 E) rfl (by decide) tb_396 (by decide +kernel) rfl ?_
    refine aw_get C (k := 3) fc_9 (lc_1 E) rfl (by decide) tb_45 (by decide +kernel) rfl ?_
    refine aw_ishl C (by decide +kernel) rfl ?_
    refine aw_icmp_ge C (tgt := 21) (off := 7) (by decide +kernel) (by decide) rfl (fun c2 => ?_) (fun c2 => ?_)
    · have hf := ift c2 hf
      refine aw_iconst C (i0 := 0) (v := 0) (by decide) (by decide +kernel) rfl ?_
      exact aw_zretq C CR0 hgr hgs (by decide) hf (by decide +kernel)
    · have hf := iff_ c2 hf
      refine aw_iconst C (i0 := 1) (v := 1) (by decide) (by decide +kernel) rfl ?_
      refine aw_goto C (tgt := 22) (off := 4) (by decide +kernel) (by decide) ?_
      exact aw_zretq C CR0 hgr hgs (by decide) hf (by decide +kernel)
theorem c_x_areSlips {lay : Ly} (E : LCin lay) (v1 : Int32) (st : Mm) (q : Int32 × Mm) (hf : f_x_areSlips v1 st = some q) : Con 0 Y126 prog_1_method_38_code 2 (Option.some FieldType.boolean) lay (fun ad => [.ref (ad 0), .int v1]) st (some (.int q.1)) q.2 :=
  am_met yf_126.2.2.2.2.2 (fun ad => Nat.le_of_ble_eq_true rfl) (fun G C CR0 e1 e2 e3 e4 e5 => t_x_areSlips C CR0 (by rw [e1]; exact E) e2 (Nat.le_of_eq e5.symm) e3 e4 v1 st hf)
def f_x_slipped (v1 : Int32) (v2 : Int32) (v3 : Int32) (st : Mm) : Option (Int32 × Mm) :=
  (f_x_areSlips v1 st).bind (fun q1 => if q1.1 = 0 then (some ((-1 : Int32), q1.2)) else ((f_x_isCell v2 v3 q1.2).bind (fun q3 => if q3.1 = 0 then (some ((-1 : Int32), q3.2)) else ((f_x_refold 27 28 29 v1 q3.2).bind (fun q5 => (f_x_isCut 27 28 29 v2 v3 q5.2).bind (fun q6 => if q6.1 = 0 then (some ((1 : Int32), q6.2)) else (some ((0 : Int32), q6.2))))))))
theorem t_x_slipped {G : Cx} (C : CX G prog_1_method_23_code "PaperStars") (CR0 : CR G (Option.some FieldType.int)) (E : LCin (gly G)) (hnL : gnL G = 4) (hgd : 3 ≤ gd G) {q : Int32 × Mm} (hgr : gr G = some (.int q.1)) (hgs : gsf G = q.2) (v1 : Int32) (v2 : Int32) (v3 : Int32) (st : Mm) (hf : f_x_slipped v1 v2 v3 st = some q) : AW G st 0 [(0, .ref (gad G 0)), (1, .int v1), (2, .int v2), (3, .int v3)] [] := by
  unfold f_x_slipped at hf
  refine aw_aload_n C 0 0 (j := 0) rfl rfl (by decide +kernel) rfl ?_
  refine aw_iload_n C 1 1 (j := 1) rfl rfl (by decide +kernel) rfl ?_
  obtain ⟨q1, hq1, hf⟩ := ibd hf
  refine aw_callV C (rest := []) (c_x_areSlips E v1 _ q1 hq1) tb_880 yf_126 yi_126 (lc_0 E) [.int v1] rfl rfl _ rfl (Nat.le_trans (by decide) hgd) (Nat.le_of_ble_eq_true rfl) (by decide +kernel) rfl ?_
  show AW _ _ _ _ [.int q1.1]
  refine aw_if_eq C (tgt := 17) (off := 12) (by decide +kernel) (by decide) rfl (fun c2 => ?_) (fun c2 => ?_)
  · have hf := ift c2 hf
    refine aw_iconst C (i0 := -1) (v := -1) (by decide) (by decide +kernel) rfl ?_
    exact aw_iretq C CR0 hgr hgs hf (by decide +kernel)
  · have hf := iff_ c2 hf
    refine aw_aload_n C 0 0 (j := 0) rfl rfl (by decide +kernel) rfl ?_
    refine aw_iload_n C 2 2 (j := 2) rfl rfl (by decide +kernel) rfl ?_
    refine aw_iload_n C 3 3 (j := 3) rfl rfl (by decide +kernel) rfl ?_
    obtain ⟨q3, hq3, hf⟩ := ibd hf
    refine aw_callV C (rest := []) (c_x_isCell E v2 v3 _ q3 hq3) tb_623 yf_68 yi_68 (lc_0 E) [.int v2, .int v3] rfl rfl _ rfl (Nat.le_trans (by decide) hgd) (Nat.le_of_ble_eq_true rfl) (by decide +kernel) rfl ?_
    show AW _ _ _ _ [.int q3.1]
    refine aw_if_ne C (tgt := 19) (off := 5) (by decide +kernel) (by decide) rfl (fun c4 => ?_) (fun c4 => ?_)
    · have hf := ift c4 hf
      refine aw_iconst C (i0 := -1) (v := -1) (by decide) (by decide +kernel) rfl ?_
      exact aw_iretq C CR0 hgr hgs hf (by decide +kernel)
    · have hf := iff_ c4 hf
      refine aw_aload_n C 0 0 (j := 0) rfl rfl (by decide +kernel) rfl ?_
      refine aw_aload_n C 0 0 (j := 0) rfl rfl (by decide +kernel) rfl ?_
      refine aw_getr C (k := 5) fc_11 (lc_0 E) rfl (by decide) tb_401 (by decide +kernel) rfl ?_
      refine aw_iload_n C 1 1 (j := 1) rfl rfl (by decide +kernel) rfl ?_
      obtain ⟨q5, hq5, hf⟩ := ibd hf
      refine aw_callV C (rest := []) (c_x_refold 27 28 29 E ⟨(lc_27 E), (lc_28 E), (lc_29 E)⟩ v1 _ q5 hq5) tb_363 yf_15 yi_15 (lc_0 E) [.ref (gad G 27), .int v1] rfl rfl _ rfl (Nat.le_trans (by decide) hgd) (Nat.le_of_ble_eq_true rfl) (by decide +kernel) rfl ?_
      show AW _ _ _ _ []
      refine aw_aload_n C 0 0 (j := 0) rfl rfl (by decide +kernel) rfl ?_
      refine aw_aload_n C 0 0 (j := 0) rfl rfl (by decide +kernel) rfl ?_
      refine aw_getr C (k := 5) fc_11 (lc_0 E) rfl (by decide) tb_401 (by decide +kernel) rfl ?_
      refine aw_iload_n C 2 2 (j := 2) rfl rfl (by decide +kernel) rfl ?_
      refine aw_iload_n C 3 3 (j := 3) rfl rfl (by decide +kernel) rfl ?_
      obtain ⟨q6, hq6, hf⟩ := ibd hf
      refine aw_callV C (rest := []) (c_x_isCut 27 28 29 E ⟨(lc_27 E), (lc_28 E), (lc_29 E)⟩ v2 v3 _ q6 hq6) tb_378 yf_19 yi_19 (lc_0 E) [.ref (gad G 27), .int v2, .int v3] rfl rfl _ rfl (Nat.le_trans (by decide) hgd) (Nat.le_of_ble_eq_true rfl) (by decide +kernel) rfl ?_
      show AW _ _ _ _ [.int q6.1]
      refine aw_if_eq C (tgt := 45) (off := 7) (by decide +kernel) (by decide) rfl (fun c7 => ?_) (fun c7 => ?_)
      · have hf := ift c7 hf
        refine aw_iconst C (i0 := 1) (v := 1) (by decide) (by decide +kernel) rfl ?_
        exact aw_iretq C CR0 hgr hgs hf (by decide +kernel)
      · have hf := iff_ c7 hf
        refine aw_iconst C (i0 := 0) (v := 0) (by decide) (by decide +kernel) rfl ?_
        refine aw_goto C (tgt := 46) (off := 4) (by decide +kernel) (by decide) ?_
        exact aw_iretq C CR0 hgr hgs hf (by decide +kernel)
theorem c_x_slipped {lay : Ly} (E : LCin lay) (v1 : Int32) (v2 : Int32) (v3 : Int32) (st : Mm) (q : Int32 × Mm) (hf : f_x_slipped v1 v2 v3 st = some q) : Con 3 Y125 prog_1_method_23_code 4 (Option.some FieldType.int) lay (fun ad => [.ref (ad 0), .int v1, .int v2, .int v3]) st (some (.int q.1)) q.2 :=
  am_met yf_125.2.2.2.2.2 (fun ad => Nat.le_of_ble_eq_true rfl) (fun G C CR0 e1 e2 e3 e4 e5 => t_x_slipped C CR0 (by rw [e1]; exact E) e2 (Nat.le_of_eq e5.symm) e3 e4 v1 v2 v3 st hf)
def b_x_spoilt_88 (k23 : Int32 → Int32 → Mm → Option (Int32 × Mm)) (v2 : Int32) (v3 : Int32) (st : Mm) : Option (Int32 × Mm) :=
  lt_ (v3 + (1 : Int32)) (fun a1 => k23 v2 a1 st)
def b_x_spoilt_37 (k23 : Int32 → Int32 → Mm → Option (Int32 × Mm)) (k37 : Int32 → Int32 → Int32 → Mm → Option (Int32 × Mm)) (v2 : Int32) (v3 : Int32) (v4 : Int32) (st : Mm) : Option (Int32 × Mm) :=
  if (st.1 1 0) ≤ v4 then (b_x_spoilt_88 k23 v2 v3 st) else ((f_x_isCut 27 28 29 v4 v3 st).bind (fun q2 => (f_x_cellAt v4 v3 q2.2).bind (fun q3 => (f_x_hasBit 31 q3.1 q3.2).bind (fun q4 => if q2.1 = q4.1 then (lt_ (v2 + (1 : Int32)) (fun a6 => lt_ (v4 + (1 : Int32)) (fun a7 => k37 a6 v3 a7 q4.2))) else (lt_ (v4 + (1 : Int32)) (fun a8 => k37 v2 v3 a8 q4.2))))))
def f_x_spoilt_37 (k23 : Int32 → Int32 → Mm → Option (Int32 × Mm)) : Nat → Int32 → Int32 → Int32 → Mm → Option (Int32 × Mm)
  | 0 => fun _ _ _ _ => none
  | n + 1 => b_x_spoilt_37 k23 (f_x_spoilt_37 k23 n)
def b_x_spoilt_23 (k23 : Int32 → Int32 → Mm → Option (Int32 × Mm)) (v2 : Int32) (v3 : Int32) (st : Mm) : Option (Int32 × Mm) :=
  if (st.1 1 0) ≤ v3 then (some (v2, st)) else (f_x_spoilt_37 k23 1000000 v2 v3 (0 : Int32) st)
def f_x_spoilt_23 : Nat → Int32 → Int32 → Mm → Option (Int32 × Mm)
  | 0 => fun _ _ _ => none
  | n + 1 => b_x_spoilt_23 (f_x_spoilt_23 n)
def f_x_spoilt (v1 : Int32) (st : Mm) : Option (Int32 × Mm) :=
  (f_x_areSlips v1 st).bind (fun q1 => if q1.1 = 0 then (some ((-1 : Int32), q1.2)) else ((f_x_refold 27 28 29 v1 q1.2).bind (fun q3 => f_x_spoilt_23 1000000 (0 : Int32) (0 : Int32) q3.2)))
theorem t_x_spoilt_88 {G : Cx} (C : CX G prog_1_method_24_code "PaperStars") (CR0 : CR G (Option.some FieldType.int)) (E : LCin (gly G)) (hnL : gnL G = 5) (hgd : 3 ≤ gd G) {q : Int32 × Mm} (hgr : gr G = some (.int q.1)) (hgs : gsf G = q.2) (k23 : Int32 → Int32 → Mm → Option (Int32 × Mm)) (hk23 : ∀ (v2 : Int32) (v3 : Int32) (st : Mm), k23 v2 v3 st = some q → AW G st 23 [(0, .ref (gad G 0)), (2, .int v2), (3, .int v3)] []) (v2 : Int32) (v3 : Int32) (st : Mm) (hf : b_x_spoilt_88 k23 v2 v3 st = some q) : AW G st 88 [(0, .ref (gad G 0)), (2, .int v2), (3, .int v3)] [] := by
  unfold b_x_spoilt_88 at hf
  obtain ⟨a1, ha1⟩ : ∃ z, z = (v3 + (1 : Int32)) := ⟨_, rfl⟩
  have hf := ilt ha1 hf
  refine aw_iinc C [(3, .int a1), (0, .ref (gad G 0)), (2, .int v2)] 2 (n := 1) rfl (by rw [ha1]; rfl) (by rw [hnL]; decide) rfl (by decide +kernel) rfl ?_
  refine aw_goto C (tgt := 23) (off := -68) (by decide +kernel) (by decide) ?_
  refine aw_sub [(0, .ref (gad G 0)), (2, .int v2), (3, .int a1)] [1, 2, 0] rfl ?_
  exact hk23 v2 a1 _ hf
theorem t_x_spoilt_37 {G : Cx} (C : CX G prog_1_method_24_code "PaperStars") (CR0 : CR G (Option.some FieldType.int)) (E : LCin (gly G)) (hnL : gnL G = 5) (hgd : 3 ≤ gd G) {q : Int32 × Mm} (hgr : gr G = some (.int q.1)) (hgs : gsf G = q.2) (k23 : Int32 → Int32 → Mm → Option (Int32 × Mm)) (k37 : Int32 → Int32 → Int32 → Mm → Option (Int32 × Mm)) (hk23 : ∀ (v2 : Int32) (v3 : Int32) (st : Mm), k23 v2 v3 st = some q → AW G st 23 [(0, .ref (gad G 0)), (2, .int v2), (3, .int v3)] []) (hk37 : ∀ (v2 : Int32) (v3 : Int32) (v4 : Int32) (st : Mm), k37 v2 v3 v4 st = some q → AW G st 37 [(0, .ref (gad G 0)), (2, .int v2), (3, .int v3), (4, .int v4)] []) (v2 : Int32) (v3 : Int32) (v4 : Int32) (st : Mm) (hf : b_x_spoilt_37 k23 k37 v2 v3 v4 st = some q) : AW G st 37 [(0, .ref (gad G 0)), (2, .int v2), (3, .int v3), (4, .int v4)] [] := by
  unfold b_x_spoilt_37 at hf
  refine aw_iload C 4 3 rfl (by decide +kernel) rfl ?_
  refine aw_aload_n C 0 0 (j := 0) rfl rfl (by decide +kernel) rfl ?_
  refine aw_getr C (k := 0) fc_11 (lc_0 E) rfl (by decide) tb_396 (by decide +kernel) rfl ?_
  refine aw_get C (k := 0) fc_9 (lc_1 E) rfl (by decide) tb_37 (by decide +kernel) rfl ?_
  refine aw_icmp_ge C (tgt := 88) (off := 42) (by decide +kernel) (by decide) rfl (fun c1 => ?_) (fun c1 => ?_)
  · have hf := ift c1 hf
    refine aw_sub [(0, .ref (gad G 0)), (2, .int v2), (3, .int v3)] [0, 1, 2] rfl ?_
    exact t_x_spoilt_88 C CR0 E hnL hgd hgr hgs k23 hk23 v2 v3 _ hf
  · have hf := iff_ c1 hf
    refine aw_aload_n C 0 0 (j := 0) rfl rfl (by decide +kernel) rfl ?_
    refine aw_aload_n C 0 0 (j := 0) rfl rfl (by decide +kernel) rfl ?_
    refine aw_getr C (k := 5) fc_11 (lc_0 E) rfl (by decide) tb_401 (by decide +kernel) rfl ?_
    refine aw_iload C 4 3 rfl (by decide +kernel) rfl ?_
    refine aw_iload_n C 3 2 (j := 3) rfl rfl (by decide +kernel) rfl ?_
    obtain ⟨q2, hq2, hf⟩ := ibd hf
    refine aw_callV C (rest := []) (c_x_isCut 27 28 29 E ⟨(lc_27 E), (lc_28 E), (lc_29 E)⟩ v4 v3 _ q2 hq2) tb_378 yf_19 yi_19 (lc_0 E) [.ref (gad G 27), .int v4, .int v3] rfl rfl _ rfl (Nat.le_trans (by decide) hgd) (Nat.le_of_ble_eq_true rfl) (by decide +kernel) rfl ?_
    show AW _ _ _ _ [.int q2.1]
    refine aw_aload_n C 0 0 (j := 0) rfl rfl (by decide +kernel) rfl ?_
    refine aw_getr C (k := 6) fc_11 (lc_0 E) rfl (by decide) tb_402 (by decide +kernel) rfl ?_
    refine aw_getr C (k := 1) fc_6 (lc_30 E) rfl (by decide) tb_221 (by decide +kernel) rfl ?_
    refine aw_iload C 4 3 rfl (by decide +kernel) rfl ?_
    refine aw_iload_n C 3 2 (j := 3) rfl rfl (by decide +kernel) rfl ?_
    obtain ⟨q3, hq3, hf⟩ := ibd hf
    refine aw_callS C (rest := [.ref (gad G 31), .int q2.1]) (c_x_cellAt v4 v3 _ q3 hq3) tb_618 yf_22 tb_391 rfl _ rfl (Nat.le_trans (by decide) hgd) (Nat.le_of_ble_eq_true rfl) (by decide +kernel) rfl ?_
    show AW _ _ _ _ [.int q3.1, .ref (gad G 31), .int q2.1]
    obtain ⟨q4, hq4, hf⟩ := ibd hf
    refine aw_callS C (rest := [.int q2.1]) (c_x_hasBit 31 (lc_31 E) q3.1 _ q4 hq4) tb_393 yf_23 tb_394 rfl _ rfl (Nat.le_trans (by decide) hgd) (Nat.le_of_ble_eq_true rfl) (by decide +kernel) rfl ?_
    show AW _ _ _ _ [.int q4.1, .int q2.1]
    refine aw_icmp_ne C (tgt := 82) (off := 6) (by decide +kernel) (by decide) rfl (fun c5 => ?_) (fun c5 => ?_)
    · have hf := ift c5 hf
      obtain ⟨a6, ha6⟩ : ∃ z, z = (v2 + (1 : Int32)) := ⟨_, rfl⟩
      have hf := ilt ha6 hf
      refine aw_iinc C [(2, .int a6), (0, .ref (gad G 0)), (3, .int v3), (4, .int v4)] 1 (n := 1) rfl (by rw [ha6]; rfl) (by rw [hnL]; decide) rfl (by decide +kernel) rfl ?_
      obtain ⟨a7, ha7⟩ : ∃ z, z = (v4 + (1 : Int32)) := ⟨_, rfl⟩
      have hf := ilt ha7 hf
      refine aw_iinc C [(4, .int a7), (2, .int a6), (0, .ref (gad G 0)), (3, .int v3)] 3 (n := 1) rfl (by rw [ha7]; rfl) (by rw [hnL]; decide) rfl (by decide +kernel) rfl ?_
      refine aw_goto C (tgt := 37) (off := -48) (by decide +kernel) (by decide) ?_
      refine aw_sub [(0, .ref (gad G 0)), (2, .int a6), (3, .int v3), (4, .int a7)] [2, 1, 3, 0] rfl ?_
      exact hk37 a6 v3 a7 _ hf
    · have hf := iff_ c5 hf
      obtain ⟨a8, ha8⟩ : ∃ z, z = (v4 + (1 : Int32)) := ⟨_, rfl⟩
      have hf := ilt ha8 hf
      refine aw_iinc C [(4, .int a8), (0, .ref (gad G 0)), (2, .int v2), (3, .int v3)] 3 (n := 1) rfl (by rw [ha8]; rfl) (by rw [hnL]; decide) rfl (by decide +kernel) rfl ?_
      refine aw_goto C (tgt := 37) (off := -48) (by decide +kernel) (by decide) ?_
      refine aw_sub [(0, .ref (gad G 0)), (2, .int v2), (3, .int v3), (4, .int a8)] [1, 2, 3, 0] rfl ?_
      exact hk37 v2 v3 a8 _ hf
theorem u_x_spoilt_37 {G : Cx} (C : CX G prog_1_method_24_code "PaperStars") (CR0 : CR G (Option.some FieldType.int)) (E : LCin (gly G)) (hnL : gnL G = 5) (hgd : 3 ≤ gd G) {q : Int32 × Mm} (hgr : gr G = some (.int q.1)) (hgs : gsf G = q.2) (k23 : Int32 → Int32 → Mm → Option (Int32 × Mm)) (hk23 : ∀ (v2 : Int32) (v3 : Int32) (st : Mm), k23 v2 v3 st = some q → AW G st 23 [(0, .ref (gad G 0)), (2, .int v2), (3, .int v3)] []) : ∀ (n : Nat) (v2 : Int32) (v3 : Int32) (v4 : Int32) (st : Mm), f_x_spoilt_37 k23 n v2 v3 v4 st = some q → AW G st 37 [(0, .ref (gad G 0)), (2, .int v2), (3, .int v3), (4, .int v4)] [] := by
  intro n
  induction n with
  | zero => intro v2 v3 v4 st hf; cases hf
  | succ n ih => intro v2 v3 v4 st hf; exact t_x_spoilt_37 C CR0 E hnL hgd hgr hgs k23 (f_x_spoilt_37 k23 n) hk23 ih v2 v3 v4 st hf
theorem t_x_spoilt_23 {G : Cx} (C : CX G prog_1_method_24_code "PaperStars") (CR0 : CR G (Option.some FieldType.int)) (E : LCin (gly G)) (hnL : gnL G = 5) (hgd : 3 ≤ gd G) {q : Int32 × Mm} (hgr : gr G = some (.int q.1)) (hgs : gsf G = q.2) (k23 : Int32 → Int32 → Mm → Option (Int32 × Mm)) (hk23 : ∀ (v2 : Int32) (v3 : Int32) (st : Mm), k23 v2 v3 st = some q → AW G st 23 [(0, .ref (gad G 0)), (2, .int v2), (3, .int v3)] []) (v2 : Int32) (v3 : Int32) (st : Mm) (hf : b_x_spoilt_23 k23 v2 v3 st = some q) : AW G st 23 [(0, .ref (gad G 0)), (2, .int v2), (3, .int v3)] [] := by
  unfold b_x_spoilt_23 at hf
  refine aw_iload_n C 3 2 (j := 3) rfl rfl (by decide +kernel) rfl ?_
  refine aw_aload_n C 0 0 (j := 0) rfl rfl (by decide +kernel) rfl ?_
  refine aw_getr C (k := 0) fc_11 (lc_0 E) rfl (by decide) tb_396 (by decide +kernel) rfl ?_
  refine aw_get C (k := 0) fc_9 (lc_1 E) rfl (by decide) tb_37 (by decide +kernel) rfl ?_
  refine aw_icmp_ge C (tgt := 94) (off := 63) (by decide +kernel) (by decide) rfl (fun c1 => ?_) (fun c1 => ?_)
  · have hf := ift c1 hf
    refine aw_iload_n C 2 1 (j := 2) rfl rfl (by decide +kernel) rfl ?_
    exact aw_iretq C CR0 hgr hgs hf (by decide +kernel)
  · have hf := iff_ c1 hf
    refine aw_iconst C (i0 := 0) (v := 0) (by decide) (by decide +kernel) rfl ?_
    refine aw_istore C [(4, .int (0 : Int32)), (0, .ref (gad G 0)), (2, .int v2), (3, .int v3)] (by rw [hnL]; decide) rfl (by decide +kernel) rfl ?_
    refine aw_sub [(0, .ref (gad G 0)), (2, .int v2), (3, .int v3), (4, .int (0 : Int32))] [1, 2, 3, 0] rfl ?_
    exact u_x_spoilt_37 C CR0 E hnL hgd hgr hgs k23 hk23 _ v2 v3 (0 : Int32) _ hf
theorem u_x_spoilt_23 {G : Cx} (C : CX G prog_1_method_24_code "PaperStars") (CR0 : CR G (Option.some FieldType.int)) (E : LCin (gly G)) (hnL : gnL G = 5) (hgd : 3 ≤ gd G) {q : Int32 × Mm} (hgr : gr G = some (.int q.1)) (hgs : gsf G = q.2) : ∀ (n : Nat) (v2 : Int32) (v3 : Int32) (st : Mm), f_x_spoilt_23 n v2 v3 st = some q → AW G st 23 [(0, .ref (gad G 0)), (2, .int v2), (3, .int v3)] [] := by
  intro n
  induction n with
  | zero => intro v2 v3 st hf; cases hf
  | succ n ih => intro v2 v3 st hf; exact t_x_spoilt_23 C CR0 E hnL hgd hgr hgs (f_x_spoilt_23 n) ih v2 v3 st hf
theorem t_x_spoilt {G : Cx} (C : CX G prog_1_method_24_code "PaperStars") (CR0 : CR G (Option.some FieldType.int)) (E : LCin (gly G)) (hnL : gnL G = 5) (hgd : 3 ≤ gd G) {q : Int32 × Mm} (hgr : gr G = some (.int q.1)) (hgs : gsf G = q.2) (v1 : Int32) (st : Mm) (hf : f_x_spoilt v1 st = some q) : AW G st 0 [(0, .ref (gad G 0)), (1, .int v1)] [] := by
  unfold f_x_spoilt at hf
  refine aw_aload_n C 0 0 (j := 0) rfl rfl (by decide +kernel) rfl ?_
  refine aw_iload_n C 1 1 (j := 1) rfl rfl (by decide +kernel) rfl ?_
  obtain ⟨q1, hq1, hf⟩ := ibd hf
  refine aw_callV C (rest := []) (c_x_areSlips E v1 _ q1 hq1) tb_880 yf_126 yi_126 (lc_0 E) [.int v1] rfl rfl _ rfl (Nat.le_trans (by decide) hgd) (Nat.le_of_ble_eq_true rfl) (by decide +kernel) rfl ?_
  show AW _ _ _ _ [.int q1.1]
  refine aw_if_ne C (tgt := 10) (off := 5) (by decide +kernel) (by decide) rfl (fun c2 => ?_) (fun c2 => ?_)
  · have hf := ift c2 hf
    refine aw_iconst C (i0 := -1) (v := -1) (by decide) (by decide +kernel) rfl ?_
    exact aw_iretq C CR0 hgr hgs hf (by decide +kernel)
  · have hf := iff_ c2 hf
    refine aw_aload_n C 0 0 (j := 0) rfl rfl (by decide +kernel) rfl ?_
    refine aw_aload_n C 0 0 (j := 0) rfl rfl (by decide +kernel) rfl ?_
    refine aw_getr C (k := 5) fc_11 (lc_0 E) rfl (by decide) tb_401 (by decide +kernel) rfl ?_
    refine aw_iload_n C 1 1 (j := 1) rfl rfl (by decide +kernel) rfl ?_
    obtain ⟨q3, hq3, hf⟩ := ibd hf
    refine aw_callV C (rest := []) (c_x_refold 27 28 29 E ⟨(lc_27 E), (lc_28 E), (lc_29 E)⟩ v1 _ q3 hq3) tb_363 yf_15 yi_15 (lc_0 E) [.ref (gad G 27), .int v1] rfl rfl _ rfl (Nat.le_trans (by decide) hgd) (Nat.le_of_ble_eq_true rfl) (by decide +kernel) rfl ?_
    show AW _ _ _ _ []
    refine aw_iconst C (i0 := 0) (v := 0) (by decide) (by decide +kernel) rfl ?_
    refine aw_istore_n C [(2, .int (0 : Int32)), (0, .ref (gad G 0)), (1, .int v1)] (j := 2) rfl (by rw [hnL]; decide) rfl (by decide +kernel) rfl ?_
    refine aw_iconst C (i0 := 0) (v := 0) (by decide) (by decide +kernel) rfl ?_
    refine aw_istore_n C [(3, .int (0 : Int32)), (2, .int (0 : Int32)), (0, .ref (gad G 0)), (1, .int v1)] (j := 3) rfl (by rw [hnL]; decide) rfl (by decide +kernel) rfl ?_
    refine aw_sub [(0, .ref (gad G 0)), (2, .int (0 : Int32)), (3, .int (0 : Int32))] [2, 1, 0] rfl ?_
    exact u_x_spoilt_23 C CR0 E hnL hgd hgr hgs _ (0 : Int32) (0 : Int32) _ hf
theorem c_x_spoilt {lay : Ly} (E : LCin lay) (v1 : Int32) (st : Mm) (q : Int32 × Mm) (hf : f_x_spoilt v1 st = some q) : Con 3 Y127 prog_1_method_24_code 5 (Option.some FieldType.int) lay (fun ad => [.ref (ad 0), .int v1]) st (some (.int q.1)) q.2 :=
  am_met yf_127.2.2.2.2.2 (fun ad => Nat.le_of_ble_eq_true rfl) (fun G C CR0 e1 e2 e3 e4 e5 => t_x_spoilt C CR0 (by rw [e1]; exact E) e2 (Nat.le_of_eq e5.symm) e3 e4 v1 st hf)
def b_x_commonDivisor_9 (k9 : Int64 → Int64 → Int32 → Mm → Option (Int64 × Mm)) (v4 : Int64) (v6 : Int64) (v8 : Int32) (st : Mm) : Option (Int64 × Mm) :=
  if (100 : Int32) ≤ v8 then (some (v4, st)) else (if (lg_cmp v6 (0 : Int64)) = 0 then (some (v4, st)) else (if ¬ v6 = 0 then lt_ (v4 - v4 / v6 * v6) (fun a4 => lt_ (v8 + (1 : Int32)) (fun a5 => k9 v6 a4 a5 st)) else none))
def f_x_commonDivisor_9 : Nat → Int64 → Int64 → Int32 → Mm → Option (Int64 × Mm)
  | 0 => fun _ _ _ _ => none
  | n + 1 => b_x_commonDivisor_9 (f_x_commonDivisor_9 n)
def f_x_commonDivisor (v0 : Int64) (v2 : Int64) (st : Mm) : Option (Int64 × Mm) :=
  f_x_commonDivisor_9 1000000 v0 v2 (0 : Int32) st
theorem t_x_commonDivisor_9 {G : Cx} (C : CX G prog_1_method_46_code "PaperStars") (CR0 : CR G (Option.some FieldType.long))  (hnL : gnL G = 11) (hgd : 0 ≤ gd G) {q : Int64 × Mm} (hgr : gr G = some (.long q.1)) (hgs : gsf G = q.2) (k9 : Int64 → Int64 → Int32 → Mm → Option (Int64 × Mm)) (hk9 : ∀ (v4 : Int64) (v6 : Int64) (v8 : Int32) (st : Mm), k9 v4 v6 v8 st = some q → AW G st 9 [(4, .long v4), (6, .long v6), (8, .int v8)] []) (v4 : Int64) (v6 : Int64) (v8 : Int32) (st : Mm) (hf : b_x_commonDivisor_9 k9 v4 v6 v8 st = some q) : AW G st 9 [(4, .long v4), (6, .long v6), (8, .int v8)] [] := by
  unfold b_x_commonDivisor_9 at hf
  refine aw_iload C 8 2 rfl (by decide +kernel) rfl ?_
  refine aw_bipush C (i0 := 100) (v := 100) (by decide) (by decide +kernel) rfl ?_
  refine aw_icmp_ge C (tgt := 44) (off := 31) (by decide +kernel) (by decide) rfl (fun c1 => ?_) (fun c1 => ?_)
  · have hf := ift c1 hf
    refine aw_lload C 4 0 rfl (by decide +kernel) rfl ?_
    exact aw_lretq C CR0 hgr hgs hf (by decide +kernel)
  · have hf := iff_ c1 hf
    refine aw_lload C 6 1 rfl (by decide +kernel) rfl ?_
    refine aw_lconst C (i0 := 0) (v := 0) (by decide) (by decide +kernel) rfl ?_
    refine aw_lcmp C (by decide +kernel) rfl ?_
    refine aw_if_eq C (tgt := 44) (off := 24) (by decide +kernel) (by decide) rfl (fun c2 => ?_) (fun c2 => ?_)
    · have hf := ift c2 hf
      refine aw_lload C 4 0 rfl (by decide +kernel) rfl ?_
      exact aw_lretq C CR0 hgr hgs hf (by decide +kernel)
    · have hf := iff_ c2 hf
      refine aw_lload C 4 0 rfl (by decide +kernel) rfl ?_
      refine aw_lload C 6 1 rfl (by decide +kernel) rfl ?_
      obtain ⟨g3, hf⟩ := igd hf
      refine aw_lrem C g3 (by decide +kernel) rfl ?_
      obtain ⟨a4, ha4⟩ : ∃ z, z = (v4 - v4 / v6 * v6) := ⟨_, rfl⟩
      refine aw_nml ha4 ?_
      have hf := ilt ha4 hf
      refine aw_lstore C [(9, .long a4), (4, .long v4), (6, .long v6), (8, .int v8)] (by rw [hnL]; decide) rfl (by decide +kernel) rfl ?_
      refine aw_lload C 6 2 rfl (by decide +kernel) rfl ?_
      refine aw_lstore C [(4, .long v6), (9, .long a4), (6, .long v6), (8, .int v8)] (by rw [hnL]; decide) rfl (by decide +kernel) rfl ?_
      refine aw_lload C 9 1 rfl (by decide +kernel) rfl ?_
      refine aw_lstore C [(6, .long a4), (4, .long v6), (9, .long a4), (8, .int v8)] (by rw [hnL]; decide) rfl (by decide +kernel) rfl ?_
      obtain ⟨a5, ha5⟩ : ∃ z, z = (v8 + (1 : Int32)) := ⟨_, rfl⟩
      have hf := ilt ha5 hf
      refine aw_iinc C [(8, .int a5), (6, .long a4), (4, .long v6), (9, .long a4)] 3 (n := 1) rfl (by rw [ha5]; rfl) (by rw [hnL]; decide) rfl (by decide +kernel) rfl ?_
      refine aw_goto C (tgt := 9) (off := -32) (by decide +kernel) (by decide) ?_
      refine aw_sub [(4, .long v6), (6, .long a4), (8, .int a5)] [2, 1, 0] rfl ?_
      exact hk9 v6 a4 a5 _ hf
theorem u_x_commonDivisor_9 {G : Cx} (C : CX G prog_1_method_46_code "PaperStars") (CR0 : CR G (Option.some FieldType.long))  (hnL : gnL G = 11) (hgd : 0 ≤ gd G) {q : Int64 × Mm} (hgr : gr G = some (.long q.1)) (hgs : gsf G = q.2) : ∀ (n : Nat) (v4 : Int64) (v6 : Int64) (v8 : Int32) (st : Mm), f_x_commonDivisor_9 n v4 v6 v8 st = some q → AW G st 9 [(4, .long v4), (6, .long v6), (8, .int v8)] [] := by
  intro n
  induction n with
  | zero => intro v4 v6 v8 st hf; cases hf
  | succ n ih => intro v4 v6 v8 st hf; exact t_x_commonDivisor_9 C CR0  hnL hgd hgr hgs (f_x_commonDivisor_9 n) ih v4 v6 v8 st hf
theorem t_x_commonDivisor {G : Cx} (C : CX G prog_1_method_46_code "PaperStars") (CR0 : CR G (Option.some FieldType.long))  (hnL : gnL G = 11) (hgd : 0 ≤ gd G) {q : Int64 × Mm} (hgr : gr G = some (.long q.1)) (hgs : gsf G = q.2) (v0 : Int64) (v2 : Int64) (st : Mm) (hf : f_x_commonDivisor v0 v2 st = some q) : AW G st 0 [(0, .long v0), (2, .long v2)] [] := by
  unfold f_x_commonDivisor at hf
  refine aw_lload_n C 0 0 (j := 0) rfl rfl (by decide +kernel) rfl ?_
  refine aw_lstore C [(4, .long v0), (0, .long v0), (2, .long v2)] (by rw [hnL]; decide) rfl (by decide +kernel) rfl ?_
  refine aw_lload_n C 2 2 (j := 2) rfl rfl (by decide +kernel) rfl ?_
  refine aw_lstore C [(6, .long v2), (4, .long v0), (0, .long v0), (2, .long v2)] (by rw [hnL]; decide) rfl (by decide +kernel) rfl ?_
  refine aw_iconst C (i0 := 0) (v := 0) (by decide) (by decide +kernel) rfl ?_
  refine aw_istore C [(8, .int (0 : Int32)), (6, .long v2), (4, .long v0), (0, .long v0), (2, .long v2)] (by rw [hnL]; decide) rfl (by decide +kernel) rfl ?_
  refine aw_sub [(4, .long v0), (6, .long v2), (8, .int (0 : Int32))] [2, 1, 0] rfl ?_
  exact u_x_commonDivisor_9 C CR0  hnL hgd hgr hgs _ v0 v2 (0 : Int32) _ hf
theorem c_x_commonDivisor {lay : Ly}  (v0 : Int64) (v2 : Int64) (st : Mm) (q : Int64 × Mm) (hf : f_x_commonDivisor v0 v2 st = some q) : Con 0 Y130 prog_1_method_46_code 11 (Option.some FieldType.long) lay (fun ad => [.long v0, .long v2]) st (some (.long q.1)) q.2 :=
  am_met yf_130.2.2.2.2.2 (fun ad => Nat.le_of_ble_eq_true rfl) (fun G C CR0 e1 e2 e3 e4 e5 => t_x_commonDivisor C CR0  e2 (Nat.le_of_eq e5.symm) e3 e4 v0 v2 st hf)
def b_x_power_5 (k5 : Int32 → Int32 → Int64 → Int32 → Mm → Option (Int64 × Mm)) (v0 : Int32) (v1 : Int32) (v2 : Int64) (v4 : Int32) (st : Mm) : Option (Int64 × Mm) :=
  if v1 ≤ v4 then (some (v2, st)) else (lt_ (v2 * (v0.toInt64)) (fun a2 => lt_ (v4 + (1 : Int32)) (fun a3 => k5 v0 v1 a2 a3 st)))
def f_x_power_5 : Nat → Int32 → Int32 → Int64 → Int32 → Mm → Option (Int64 × Mm)
  | 0 => fun _ _ _ _ _ => none
  | n + 1 => b_x_power_5 (f_x_power_5 n)
def f_x_power (v0 : Int32) (v1 : Int32) (st : Mm) : Option (Int64 × Mm) :=
  f_x_power_5 1000000 v0 v1 (1 : Int64) (0 : Int32) st
theorem t_x_power_5 {G : Cx} (C : CX G prog_1_method_45_code "PaperStars") (CR0 : CR G (Option.some FieldType.long))  (hnL : gnL G = 5) (hgd : 0 ≤ gd G) {q : Int64 × Mm} (hgr : gr G = some (.long q.1)) (hgs : gsf G = q.2) (k5 : Int32 → Int32 → Int64 → Int32 → Mm → Option (Int64 × Mm)) (hk5 : ∀ (v0 : Int32) (v1 : Int32) (v2 : Int64) (v4 : Int32) (st : Mm), k5 v0 v1 v2 v4 st = some q → AW G st 5 [(0, .int v0), (1, .int v1), (2, .long v2), (4, .int v4)] []) (v0 : Int32) (v1 : Int32) (v2 : Int64) (v4 : Int32) (st : Mm) (hf : b_x_power_5 k5 v0 v1 v2 v4 st = some q) : AW G st 5 [(0, .int v0), (1, .int v1), (2, .long v2), (4, .int v4)] [] := by
  unfold b_x_power_5 at hf
  refine aw_iload C 4 3 rfl (by decide +kernel) rfl ?_
  refine aw_iload_n C 1 1 (j := 1) rfl rfl (by decide +kernel) rfl ?_
  refine aw_icmp_ge C (tgt := 22) (off := 14) (by decide +kernel) (by decide) rfl (fun c1 => ?_) (fun c1 => ?_)
  · have hf := ift c1 hf
    refine aw_lload_n C 2 2 (j := 2) rfl rfl (by decide +kernel) rfl ?_
    exact aw_lretq C CR0 hgr hgs hf (by decide +kernel)
  · have hf := iff_ c1 hf
    refine aw_lload_n C 2 2 (j := 2) rfl rfl (by decide +kernel) rfl ?_
    refine aw_iload_n C 0 0 (j := 0) rfl rfl (by decide +kernel) rfl ?_
    refine aw_i2l C (by decide +kernel) rfl ?_
    refine aw_lmul C (by decide +kernel) rfl ?_
    obtain ⟨a2, ha2⟩ : ∃ z, z = (v2 * (v0.toInt64)) := ⟨_, rfl⟩
    refine aw_nml ha2 ?_
    have hf := ilt ha2 hf
    refine aw_lstore_n C [(2, .long a2), (0, .int v0), (1, .int v1), (4, .int v4)] (j := 2) rfl (by rw [hnL]; decide) rfl (by decide +kernel) rfl ?_
    obtain ⟨a3, ha3⟩ : ∃ z, z = (v4 + (1 : Int32)) := ⟨_, rfl⟩
    have hf := ilt ha3 hf
    refine aw_iinc C [(4, .int a3), (2, .long a2), (0, .int v0), (1, .int v1)] 3 (n := 1) rfl (by rw [ha3]; rfl) (by rw [hnL]; decide) rfl (by decide +kernel) rfl ?_
    refine aw_goto C (tgt := 5) (off := -14) (by decide +kernel) (by decide) ?_
    refine aw_sub [(0, .int v0), (1, .int v1), (2, .long a2), (4, .int a3)] [2, 3, 1, 0] rfl ?_
    exact hk5 v0 v1 a2 a3 _ hf
theorem u_x_power_5 {G : Cx} (C : CX G prog_1_method_45_code "PaperStars") (CR0 : CR G (Option.some FieldType.long))  (hnL : gnL G = 5) (hgd : 0 ≤ gd G) {q : Int64 × Mm} (hgr : gr G = some (.long q.1)) (hgs : gsf G = q.2) : ∀ (n : Nat) (v0 : Int32) (v1 : Int32) (v2 : Int64) (v4 : Int32) (st : Mm), f_x_power_5 n v0 v1 v2 v4 st = some q → AW G st 5 [(0, .int v0), (1, .int v1), (2, .long v2), (4, .int v4)] [] := by
  intro n
  induction n with
  | zero => intro v0 v1 v2 v4 st hf; cases hf
  | succ n ih => intro v0 v1 v2 v4 st hf; exact t_x_power_5 C CR0  hnL hgd hgr hgs (f_x_power_5 n) ih v0 v1 v2 v4 st hf
theorem t_x_power {G : Cx} (C : CX G prog_1_method_45_code "PaperStars") (CR0 : CR G (Option.some FieldType.long))  (hnL : gnL G = 5) (hgd : 0 ≤ gd G) {q : Int64 × Mm} (hgr : gr G = some (.long q.1)) (hgs : gsf G = q.2) (v0 : Int32) (v1 : Int32) (st : Mm) (hf : f_x_power v0 v1 st = some q) : AW G st 0 [(0, .int v0), (1, .int v1)] [] := by
  unfold f_x_power at hf
  refine aw_lconst C (i0 := 1) (v := 1) (by decide) (by decide +kernel) rfl ?_
  refine aw_lstore_n C [(2, .long (1 : Int64)), (0, .int v0), (1, .int v1)] (j := 2) rfl (by rw [hnL]; decide) rfl (by decide +kernel) rfl ?_
  refine aw_iconst C (i0 := 0) (v := 0) (by decide) (by decide +kernel) rfl ?_
  refine aw_istore C [(4, .int (0 : Int32)), (2, .long (1 : Int64)), (0, .int v0), (1, .int v1)] (by rw [hnL]; decide) rfl (by decide +kernel) rfl ?_
  refine aw_sub [(0, .int v0), (1, .int v1), (2, .long (1 : Int64)), (4, .int (0 : Int32))] [2, 3, 1, 0] rfl ?_
  exact u_x_power_5 C CR0  hnL hgd hgr hgs _ v0 v1 (1 : Int64) (0 : Int32) _ hf
theorem c_x_power {lay : Ly}  (v0 : Int32) (v1 : Int32) (st : Mm) (q : Int64 × Mm) (hf : f_x_power v0 v1 st = some q) : Con 0 Y129 prog_1_method_45_code 5 (Option.some FieldType.long) lay (fun ad => [.int v0, .int v1]) st (some (.long q.1)) q.2 :=
  am_met yf_129.2.2.2.2.2 (fun ad => Nat.le_of_ble_eq_true rfl) (fun G C CR0 e1 e2 e3 e4 e5 => t_x_power C CR0  e2 (Nat.le_of_eq e5.symm) e3 e4 v0 v1 st hf)
def f_x_odds (v1 : Int32) (v2 : Int32) (v3 : Int32) (st : Mm) : Option (Int64 × Mm) :=
  if v1 < 0 then (some ((-1 : Int64), st)) else (if (10 : Int32) < v1 then (some ((-1 : Int64), st)) else (if v2 < 0 then (some ((-1 : Int64), st)) else (if (8 : Int32) < v2 then (some ((-1 : Int64), st)) else (if v3 < 0 then (some ((-1 : Int64), st)) else (if v3 ≤ (1 : Int32) then (lt_ ((st.1 1 3) - v2) (fun a7 => (f_x_choose (st.1 1 3) v2 st).bind (fun q8 => (f_x_power v1 v2 q8.2).bind (fun q9 => (f_x_power ((10 : Int32) - v1) a7 q9.2).bind (fun q10 => lt_ ((q8.1 * q9.1) * q10.1) (fun a11 => (f_x_power (10 : Int32) (q10.2.1 1 3) q10.2).bind (fun q12 => (f_x_commonDivisor q12.1 a11 q12.2).bind (fun q13 => if 0 ≤ (lg_cmp q13.1 (1 : Int64)) then (if v3 = 0 then (if ¬ q13.1 = 0 then some ((a11 / q13.1), q13.2) else none) else (if ¬ q13.1 = 0 then some ((q12.1 / q13.1), q13.2) else none)) else (some ((-1 : Int64), q13.2)))))))))) else (some ((-1 : Int64), st)))))))
theorem t_x_odds {G : Cx} (C : CX G prog_1_method_25_code "PaperStars") (CR0 : CR G (Option.some FieldType.long)) (E : LCin (gly G)) (hnL : gnL G = 11) (hgd : 1 ≤ gd G) {q : Int64 × Mm} (hgr : gr G = some (.long q.1)) (hgs : gsf G = q.2) (v1 : Int32) (v2 : Int32) (v3 : Int32) (st : Mm) (hf : f_x_odds v1 v2 v3 st = some q) : AW G st 0 [(0, .ref (gad G 0)), (1, .int v1), (2, .int v2), (3, .int v3)] [] := by
  unfold f_x_odds at hf
  refine aw_iload_n C 1 1 (j := 1) rfl rfl (by decide +kernel) rfl ?_
  refine aw_if_lt C (tgt := 29) (off := 28) (by decide +kernel) (by decide) rfl (fun c1 => ?_) (fun c1 => ?_)
  · have hf := ift c1 hf
    refine aw_ldc2 C tb_853 (by decide +kernel) rfl ?_
    exact aw_lretq C CR0 hgr hgs hf (by decide +kernel)
  · have hf := iff_ c1 hf
    refine aw_iload_n C 1 1 (j := 1) rfl rfl (by decide +kernel) rfl ?_
    refine aw_bipush C (i0 := 10) (v := 10) (by decide) (by decide +kernel) rfl ?_
    refine aw_icmp_gt C (tgt := 29) (off := 22) (by decide +kernel) (by decide) rfl (fun c2 => ?_) (fun c2 => ?_)
    · have hf := ift c2 hf
      refine aw_ldc2 C tb_853 (by decide +kernel) rfl ?_
      exact aw_lretq C CR0 hgr hgs hf (by decide +kernel)
    · have hf := iff_ c2 hf
      refine aw_iload_n C 2 2 (j := 2) rfl rfl (by decide +kernel) rfl ?_
      refine aw_if_lt C (tgt := 29) (off := 18) (by decide +kernel) (by decide) rfl (fun c3 => ?_) (fun c3 => ?_)
      · have hf := ift c3 hf
        refine aw_ldc2 C tb_853 (by decide +kernel) rfl ?_
        exact aw_lretq C CR0 hgr hgs hf (by decide +kernel)
      · have hf := iff_ c3 hf
        refine aw_iload_n C 2 2 (j := 2) rfl rfl (by decide +kernel) rfl ?_
        refine aw_bipush C (i0 := 8) (v := 8) (by decide) (by decide +kernel) rfl ?_
        refine aw_icmp_gt C (tgt := 29) (off := 12) (by decide +kernel) (by decide) rfl (fun c4 => ?_) (fun c4 => ?_)
        · have hf := ift c4 hf
          refine aw_ldc2 C tb_853 (by decide +kernel) rfl ?_
          exact aw_lretq C CR0 hgr hgs hf (by decide +kernel)
        · have hf := iff_ c4 hf
          refine aw_iload_n C 3 3 (j := 3) rfl rfl (by decide +kernel) rfl ?_
          refine aw_if_lt C (tgt := 29) (off := 8) (by decide +kernel) (by decide) rfl (fun c5 => ?_) (fun c5 => ?_)
          · have hf := ift c5 hf
            refine aw_ldc2 C tb_853 (by decide +kernel) rfl ?_
            exact aw_lretq C CR0 hgr hgs hf (by decide +kernel)
          · have hf := iff_ c5 hf
            refine aw_iload_n C 3 3 (j := 3) rfl rfl (by decide +kernel) rfl ?_
            refine aw_iconst C (i0 := 1) (v := 1) (by decide) (by decide +kernel) rfl ?_
            refine aw_icmp_le C (tgt := 33) (off := 7) (by decide +kernel) (by decide) rfl (fun c6 => ?_) (fun c6 => ?_)
            · have hf := ift c6 hf
              refine aw_aload_n C 0 0 (j := 0) rfl rfl (by decide +kernel) rfl ?_
              refine aw_getr C (k := 0) fc_11 (lc_0 E) rfl (by decide) tb_396 (by decide +kernel) rfl ?_
              refine aw_get C (k := 3) fc_9 (lc_1 E) rfl (by decide) tb_45 (by decide +kernel) rfl ?_
              refine aw_iload_n C 2 2 (j := 2) rfl rfl (by decide +kernel) rfl ?_
              refine aw_isub C (by decide +kernel) rfl ?_
              obtain ⟨a7, ha7⟩ : ∃ z, z = ((st.1 1 3) - v2) := ⟨_, rfl⟩
              refine aw_nmi ha7 ?_
              have hf := ilt ha7 hf
              refine aw_istore C [(4, .int a7), (0, .ref (gad G 0)), (1, .int v1), (2, .int v2), (3, .int v3)] (by rw [hnL]; decide) rfl (by decide +kernel) rfl ?_
              refine aw_aload_n C 0 1 (j := 0) rfl rfl (by decide +kernel) rfl ?_
              refine aw_getr C (k := 0) fc_11 (lc_0 E) rfl (by decide) tb_396 (by decide +kernel) rfl ?_
              refine aw_get C (k := 3) fc_9 (lc_1 E) rfl (by decide) tb_45 (by decide +kernel) rfl ?_
              refine aw_iload_n C 2 3 (j := 2) rfl rfl (by decide +kernel) rfl ?_
              obtain ⟨q8, hq8, hf⟩ := ibd hf
              refine aw_callS C (rest := []) (c_x_choose (st.1 1 3) v2 _ q8 hq8) tb_854 yf_120 tb_855 rfl _ rfl (Nat.le_trans (by decide) hgd) (Nat.le_of_ble_eq_true rfl) (by decide +kernel) rfl ?_
              show AW _ _ _ _ [.long q8.1]
              refine aw_iload_n C 1 2 (j := 1) rfl rfl (by decide +kernel) rfl ?_
              refine aw_iload_n C 2 3 (j := 2) rfl rfl (by decide +kernel) rfl ?_
              obtain ⟨q9, hq9, hf⟩ := ibd hf
              refine aw_callS C (rest := [.long q8.1]) (c_x_power v1 v2 _ q9 hq9) tb_892 yf_129 tb_893 rfl _ rfl (Nat.le_trans (by decide) hgd) (Nat.le_of_ble_eq_true rfl) (by decide +kernel) rfl ?_
              show AW _ _ _ _ [.long q9.1, .long q8.1]
              refine aw_lmul C (by decide +kernel) rfl ?_
              refine aw_bipush C (i0 := 10) (v := 10) (by decide) (by decide +kernel) rfl ?_
              refine aw_iload_n C 1 2 (j := 1) rfl rfl (by decide +kernel) rfl ?_
              refine aw_isub C (by decide +kernel) rfl ?_
              refine aw_iload C 4 0 rfl (by decide +kernel) rfl ?_
              obtain ⟨q10, hq10, hf⟩ := ibd hf
              refine aw_callS C (rest := [.long (q8.1 * q9.1)]) (c_x_power ((10 : Int32) - v1) a7 _ q10 hq10) tb_892 yf_129 tb_893 rfl _ rfl (Nat.le_trans (by decide) hgd) (Nat.le_of_ble_eq_true rfl) (by decide +kernel) rfl ?_
              show AW _ _ _ _ [.long q10.1, .long (q8.1 * q9.1)]
              refine aw_lmul C (by decide +kernel) rfl ?_
              obtain ⟨a11, ha11⟩ : ∃ z, z = ((q8.1 * q9.1) * q10.1) := ⟨_, rfl⟩
              refine aw_nml ha11 ?_
              have hf := ilt ha11 hf
              refine aw_lstore C [(5, .long a11), (4, .int a7), (0, .ref (gad G 0)), (1, .int v1), (2, .int v2), (3, .int v3)] (by rw [hnL]; decide) rfl (by decide +kernel) rfl ?_
              refine aw_bipush C (i0 := 10) (v := 10) (by decide) (by decide +kernel) rfl ?_
              refine aw_aload_n C 0 2 (j := 0) rfl rfl (by decide +kernel) rfl ?_
              refine aw_getr C (k := 0) fc_11 (lc_0 E) rfl (by decide) tb_396 (by decide +kernel) rfl ?_
              refine aw_get C (k := 3) fc_9 (lc_1 E) rfl (by decide) tb_45 (by decide +kernel) rfl ?_
              obtain ⟨q12, hq12, hf⟩ := ibd hf
              refine aw_callS C (rest := []) (c_x_power (10 : Int32) (q10.2.1 1 3) _ q12 hq12) tb_892 yf_129 tb_893 rfl _ rfl (Nat.le_trans (by decide) hgd) (Nat.le_of_ble_eq_true rfl) (by decide +kernel) rfl ?_
              show AW _ _ _ _ [.long q12.1]
              refine aw_lstore C [(7, .long q12.1), (5, .long a11), (4, .int a7), (0, .ref (gad G 0)), (1, .int v1), (2, .int v2), (3, .int v3)] (by rw [hnL]; decide) rfl (by decide +kernel) rfl ?_
              refine aw_lload C 7 0 rfl (by decide +kernel) rfl ?_
              refine aw_lload C 5 1 rfl (by decide +kernel) rfl ?_
              obtain ⟨q13, hq13, hf⟩ := ibd hf
              refine aw_callS C (rest := []) (c_x_commonDivisor q12.1 a11 _ q13 hq13) tb_895 yf_130 tb_896 rfl _ rfl (Nat.le_trans (by decide) hgd) (Nat.le_of_ble_eq_true rfl) (by decide +kernel) rfl ?_
              show AW _ _ _ _ [.long q13.1]
              refine aw_lstore C [(9, .long q13.1), (7, .long q12.1), (5, .long a11), (4, .int a7), (0, .ref (gad G 0)), (1, .int v1), (2, .int v2), (3, .int v3)] (by rw [hnL]; decide) rfl (by decide +kernel) rfl ?_
              refine aw_lload C 9 0 rfl (by decide +kernel) rfl ?_
              refine aw_lconst C (i0 := 1) (v := 1) (by decide) (by decide +kernel) rfl ?_
              refine aw_lcmp C (by decide +kernel) rfl ?_
              refine aw_if_ge C (tgt := 107) (off := 7) (by decide +kernel) (by decide) rfl (fun c14 => ?_) (fun c14 => ?_)
              · have hf := ift c14 hf
                refine aw_iload_n C 3 7 (j := 3) rfl rfl (by decide +kernel) rfl ?_
                refine aw_if_ne C (tgt := 116) (off := 8) (by decide +kernel) (by decide) rfl (fun c15 => ?_) (fun c15 => ?_)
                · have hf := ift c15 hf
                  refine aw_lload C 5 2 rfl (by decide +kernel) rfl ?_
                  refine aw_goto C (tgt := 118) (off := 5) (by decide +kernel) (by decide) ?_
                  refine aw_lload C 9 0 rfl (by decide +kernel) rfl ?_
                  obtain ⟨g16, hf⟩ := igd hf
                  refine aw_ldiv C g16 (by decide +kernel) rfl ?_
                  exact aw_lretq C CR0 hgr hgs hf (by decide +kernel)
                · have hf := iff_ c15 hf
                  refine aw_lload C 7 1 rfl (by decide +kernel) rfl ?_
                  refine aw_lload C 9 0 rfl (by decide +kernel) rfl ?_
                  obtain ⟨g17, hf⟩ := igd hf
                  refine aw_ldiv C g17 (by decide +kernel) rfl ?_
                  exact aw_lretq C CR0 hgr hgs hf (by decide +kernel)
              · have hf := iff_ c14 hf
                refine aw_ldc2 C tb_853 (by decide +kernel) rfl ?_
                exact aw_lretq C CR0 hgr hgs hf (by decide +kernel)
            · have hf := iff_ c6 hf
              refine aw_ldc2 C tb_853 (by decide +kernel) rfl ?_
              exact aw_lretq C CR0 hgr hgs hf (by decide +kernel)
theorem c_x_odds {lay : Ly} (E : LCin lay) (v1 : Int32) (v2 : Int32) (v3 : Int32) (st : Mm) (q : Int64 × Mm) (hf : f_x_odds v1 v2 v3 st = some q) : Con 1 Y128 prog_1_method_25_code 11 (Option.some FieldType.long) lay (fun ad => [.ref (ad 0), .int v1, .int v2, .int v3]) st (some (.long q.1)) q.2 :=
  am_met yf_128.2.2.2.2.2 (fun ad => Nat.le_of_ble_eq_true rfl) (fun G C CR0 e1 e2 e3 e4 e5 => t_x_odds C CR0 (by rw [e1]; exact E) e2 (Nat.le_of_eq e5.symm) e3 e4 v1 v2 v3 st hf)
def f_x_seed (v1 : Int32) (st : Mm) : Option (Int32 × Mm) :=
  if v1 < 0 then (some ((0 : Int32), st)) else (if v1 ≤ (65535 : Int32) then (some ((1 : Int32), (sI st 1 1 v1))) else (some ((0 : Int32), st)))
theorem t_x_seed {G : Cx} (C : CX G prog_1_method_26_code "PaperStars") (CR0 : CR G (Option.some FieldType.boolean)) (E : LCin (gly G)) (hnL : gnL G = 2) (hgd : 0 ≤ gd G) {q : Int32 × Mm} (hgr : gr G = some (.int q.1)) (hgs : gsf G = q.2) (v1 : Int32) (st : Mm) (hf : f_x_seed v1 st = some q) : AW G st 0 [(0, .ref (gad G 0)), (1, .int v1)] [] := by
  unfold f_x_seed at hf
  refine aw_iload_n C 1 1 (j := 1) rfl rfl (by decide +kernel) rfl ?_
  refine aw_if_lt C (tgt := 11) (off := 10) (by decide +kernel) (by decide) rfl (fun c1 => ?_) (fun c1 => ?_)
  · have hf := ift c1 hf
    refine aw_iconst C (i0 := 0) (v := 0) (by decide) (by decide +kernel) rfl ?_
    exact aw_zretq C CR0 hgr hgs (by decide) hf (by decide +kernel)
  · have hf := iff_ c1 hf
    refine aw_iload_n C 1 1 (j := 1) rfl rfl (by decide +kernel) rfl ?_
    refine aw_ldcw C tb_902 (by decide +kernel) rfl ?_
    refine aw_icmp_le C (tgt := 13) (off := 5) (by decide +kernel) (by decide) rfl (fun c2 => ?_) (fun c2 => ?_)
    · have hf := ift c2 hf
      refine aw_aload_n C 0 0 (j := 0) rfl rfl (by decide +kernel) rfl ?_
      refine aw_getr C (k := 0) fc_11 (lc_0 E) rfl (by decide) tb_396 (by decide +kernel) rfl ?_
      refine aw_iload_n C 1 1 (j := 1) rfl rfl (by decide +kernel) rfl ?_
      refine aw_put C (k := 1) fc_9 (lc_1 E) rfl (by decide) rfl rfl tb_39 (by decide +kernel) rfl ?_
      refine aw_iconst C (i0 := 1) (v := 1) (by decide) (by decide +kernel) rfl ?_
      exact aw_zretq C CR0 hgr hgs (by decide) hf (by decide +kernel)
    · have hf := iff_ c2 hf
      refine aw_iconst C (i0 := 0) (v := 0) (by decide) (by decide +kernel) rfl ?_
      exact aw_zretq C CR0 hgr hgs (by decide) hf (by decide +kernel)
theorem c_x_seed {lay : Ly} (E : LCin lay) (v1 : Int32) (st : Mm) (q : Int32 × Mm) (hf : f_x_seed v1 st = some q) : Con 0 Y131 prog_1_method_26_code 2 (Option.some FieldType.boolean) lay (fun ad => [.ref (ad 0), .int v1]) st (some (.int q.1)) q.2 :=
  am_met yf_131.2.2.2.2.2 (fun ad => Nat.le_of_ble_eq_true rfl) (fun G C CR0 e1 e2 e3 e4 e5 => t_x_seed C CR0 (by rw [e1]; exact E) e2 (Nat.le_of_eq e5.symm) e3 e4 v1 st hf)
def b_x_draw_16 (k16 : Int32 → Int32 → Int32 → Mm → Option (Int32 × Mm)) (v1 : Int32) (v2 : Int32) (v3 : Int32) (st : Mm) : Option (Int32 × Mm) :=
  if (st.1 1 3) ≤ v3 then (some (v2, st)) else (lt_ ((((25173 : Int32) * (st.1 1 1)) + (13849 : Int32)) &&& (65535 : Int32)) (fun a2 => if v1 ≤ (((sI st 1 1 a2).1 1 1) - ((sI st 1 1 a2).1 1 1) / (10 : Int32) * (10 : Int32)) then (lt_ (v3 + (1 : Int32)) (fun a4 => k16 v1 v2 a4 (sI st 1 1 a2))) else (lt_ (v2 ||| ((1 : Int32) <<< (v3 &&& 31))) (fun a5 => lt_ (v3 + (1 : Int32)) (fun a6 => k16 v1 a5 a6 (sI st 1 1 a2))))))
def f_x_draw_16 : Nat → Int32 → Int32 → Int32 → Mm → Option (Int32 × Mm)
  | 0 => fun _ _ _ _ => none
  | n + 1 => b_x_draw_16 (f_x_draw_16 n)
def f_x_draw (v1 : Int32) (st : Mm) : Option (Int32 × Mm) :=
  if v1 < 0 then (some ((-1 : Int32), st)) else (if v1 ≤ (10 : Int32) then (f_x_draw_16 1000000 v1 (0 : Int32) (0 : Int32) st) else (some ((-1 : Int32), st)))
theorem t_x_draw_16 {G : Cx} (C : CX G prog_1_method_27_code "PaperStars") (CR0 : CR G (Option.some FieldType.int)) (E : LCin (gly G)) (hnL : gnL G = 4) (hgd : 0 ≤ gd G) {q : Int32 × Mm} (hgr : gr G = some (.int q.1)) (hgs : gsf G = q.2) (k16 : Int32 → Int32 → Int32 → Mm → Option (Int32 × Mm)) (hk16 : ∀ (v1 : Int32) (v2 : Int32) (v3 : Int32) (st : Mm), k16 v1 v2 v3 st = some q → AW G st 16 [(0, .ref (gad G 0)), (1, .int v1), (2, .int v2), (3, .int v3)] []) (v1 : Int32) (v2 : Int32) (v3 : Int32) (st : Mm) (hf : b_x_draw_16 k16 v1 v2 v3 st = some q) : AW G st 16 [(0, .ref (gad G 0)), (1, .int v1), (2, .int v2), (3, .int v3)] [] := by
  unfold b_x_draw_16 at hf
  refine aw_iload_n C 3 3 (j := 3) rfl rfl (by decide +kernel) rfl ?_
  refine aw_aload_n C 0 0 (j := 0) rfl rfl (by decide +kernel) rfl ?_
  refine aw_getr C (k := 0) fc_11 (lc_0 E) rfl (by decide) tb_396 (by decide +kernel) rfl ?_
  refine aw_get C (k := 3) fc_9 (lc_1 E) rfl (by decide) tb_45 (by decide +kernel) rfl ?_
  refine aw_icmp_ge C (tgt := 79) (off := 55) (by decide +kernel) (by decide) rfl (fun c1 => ?_) (fun c1 => ?_)
  · have hf := ift c1 hf
    refine aw_iload_n C 2 2 (j := 2) rfl rfl (by decide +kernel) rfl ?_
    exact aw_iretq C CR0 hgr hgs hf (by decide +kernel)
  · have hf := iff_ c1 hf
    refine aw_aload_n C 0 0 (j := 0) rfl rfl (by decide +kernel) rfl ?_
    refine aw_getr C (k := 0) fc_11 (lc_0 E) rfl (by decide) tb_396 (by decide +kernel) rfl ?_
    refine aw_sipush C (i0 := 25173) (v := 25173) (by decide) (by decide +kernel) rfl ?_
    refine aw_aload_n C 0 0 (j := 0) rfl rfl (by decide +kernel) rfl ?_
    refine aw_getr C (k := 0) fc_11 (lc_0 E) rfl (by decide) tb_396 (by decide +kernel) rfl ?_
    refine aw_get C (k := 1) fc_9 (lc_1 E) rfl (by decide) tb_39 (by decide +kernel) rfl ?_
    refine aw_imul C (by decide +kernel) rfl ?_
    refine aw_sipush C (i0 := 13849) (v := 13849) (by decide) (by decide +kernel) rfl ?_
    refine aw_iadd C (by decide +kernel) rfl ?_
    refine aw_ldcw C tb_902 (by decide +kernel) rfl ?_
    refine aw_iand C (by decide +kernel) rfl ?_
    obtain ⟨a2, ha2⟩ : ∃ z, z = ((((25173 : Int32) * (st.1 1 1)) + (13849 : Int32)) &&& (65535 : Int32)) := ⟨_, rfl⟩
    refine aw_nmi ha2 ?_
    have hf := ilt ha2 hf
    refine aw_put C (k := 1) fc_9 (lc_1 E) rfl (by decide) rfl rfl tb_39 (by decide +kernel) rfl ?_
    refine aw_aload_n C 0 0 (j := 0) rfl rfl (by decide +kernel) rfl ?_
    refine aw_getr C (k := 0) fc_11 (lc_0 E) rfl (by decide) tb_396 (by decide +kernel) rfl ?_
    refine aw_get C (k := 1) fc_9 (lc_1 E) rfl (by decide) tb_39 (by decide +kernel) rfl ?_
    refine aw_bipush C (i0 := 10) (v := 10) (by decide) (by decide +kernel) rfl ?_
    refine aw_irem C (by decide) (by decide +kernel) rfl ?_
    refine aw_iload_n C 1 1 (j := 1) rfl rfl (by decide +kernel) rfl ?_
    refine aw_icmp_ge C (tgt := 73) (off := 9) (by decide +kernel) (by decide) rfl (fun c3 => ?_) (fun c3 => ?_)
    · have hf := ift c3 hf
      obtain ⟨a4, ha4⟩ : ∃ z, z = (v3 + (1 : Int32)) := ⟨_, rfl⟩
      have hf := ilt ha4 hf
      refine aw_iinc C [(3, .int a4), (0, .ref (gad G 0)), (1, .int v1), (2, .int v2)] 3 (n := 1) rfl (by rw [ha4]; rfl) (by rw [hnL]; decide) rfl (by decide +kernel) rfl ?_
      refine aw_goto C (tgt := 16) (off := -60) (by decide +kernel) (by decide) ?_
      refine aw_sub [(0, .ref (gad G 0)), (1, .int v1), (2, .int v2), (3, .int a4)] [1, 2, 3, 0] rfl ?_
      exact hk16 v1 v2 a4 _ hf
    · have hf := iff_ c3 hf
      refine aw_iload_n C 2 2 (j := 2) rfl rfl (by decide +kernel) rfl ?_
      refine aw_iconst C (i0 := 1) (v := 1) (by decide) (by decide +kernel) rfl ?_
      refine aw_iload_n C 3 3 (j := 3) rfl rfl (by decide +kernel) rfl ?_
      refine aw_ishl C (by decide +kernel) rfl ?_
      refine aw_ior C (by decide +kernel) rfl ?_
      obtain ⟨a5, ha5⟩ : ∃ z, z = (v2 ||| ((1 : Int32) <<< (v3 &&& 31))) := ⟨_, rfl⟩
      refine aw_nmi ha5 ?_
      have hf := ilt ha5 hf
      refine aw_istore_n C [(2, .int a5), (0, .ref (gad G 0)), (1, .int v1), (3, .int v3)] (j := 2) rfl (by rw [hnL]; decide) rfl (by decide +kernel) rfl ?_
      obtain ⟨a6, ha6⟩ : ∃ z, z = (v3 + (1 : Int32)) := ⟨_, rfl⟩
      have hf := ilt ha6 hf
      refine aw_iinc C [(3, .int a6), (2, .int a5), (0, .ref (gad G 0)), (1, .int v1)] 3 (n := 1) rfl (by rw [ha6]; rfl) (by rw [hnL]; decide) rfl (by decide +kernel) rfl ?_
      refine aw_goto C (tgt := 16) (off := -60) (by decide +kernel) (by decide) ?_
      refine aw_sub [(0, .ref (gad G 0)), (1, .int v1), (2, .int a5), (3, .int a6)] [2, 3, 1, 0] rfl ?_
      exact hk16 v1 a5 a6 _ hf
theorem u_x_draw_16 {G : Cx} (C : CX G prog_1_method_27_code "PaperStars") (CR0 : CR G (Option.some FieldType.int)) (E : LCin (gly G)) (hnL : gnL G = 4) (hgd : 0 ≤ gd G) {q : Int32 × Mm} (hgr : gr G = some (.int q.1)) (hgs : gsf G = q.2) : ∀ (n : Nat) (v1 : Int32) (v2 : Int32) (v3 : Int32) (st : Mm), f_x_draw_16 n v1 v2 v3 st = some q → AW G st 16 [(0, .ref (gad G 0)), (1, .int v1), (2, .int v2), (3, .int v3)] [] := by
  intro n
  induction n with
  | zero => intro v1 v2 v3 st hf; cases hf
  | succ n ih => intro v1 v2 v3 st hf; exact t_x_draw_16 C CR0 E hnL hgd hgr hgs (f_x_draw_16 n) ih v1 v2 v3 st hf
theorem t_x_draw {G : Cx} (C : CX G prog_1_method_27_code "PaperStars") (CR0 : CR G (Option.some FieldType.int)) (E : LCin (gly G)) (hnL : gnL G = 4) (hgd : 0 ≤ gd G) {q : Int32 × Mm} (hgr : gr G = some (.int q.1)) (hgs : gsf G = q.2) (v1 : Int32) (st : Mm) (hf : f_x_draw v1 st = some q) : AW G st 0 [(0, .ref (gad G 0)), (1, .int v1)] [] := by
  unfold f_x_draw at hf
  refine aw_iload_n C 1 1 (j := 1) rfl rfl (by decide +kernel) rfl ?_
  refine aw_if_lt C (tgt := 10) (off := 9) (by decide +kernel) (by decide) rfl (fun c1 => ?_) (fun c1 => ?_)
  · have hf := ift c1 hf
    refine aw_iconst C (i0 := -1) (v := -1) (by decide) (by decide +kernel) rfl ?_
    exact aw_iretq C CR0 hgr hgs hf (by decide +kernel)
  · have hf := iff_ c1 hf
    refine aw_iload_n C 1 1 (j := 1) rfl rfl (by decide +kernel) rfl ?_
    refine aw_bipush C (i0 := 10) (v := 10) (by decide) (by decide +kernel) rfl ?_
    refine aw_icmp_le C (tgt := 12) (off := 5) (by decide +kernel) (by decide) rfl (fun c2 => ?_) (fun c2 => ?_)
    · have hf := ift c2 hf
      refine aw_iconst C (i0 := 0) (v := 0) (by decide) (by decide +kernel) rfl ?_
      refine aw_istore_n C [(2, .int (0 : Int32)), (0, .ref (gad G 0)), (1, .int v1)] (j := 2) rfl (by rw [hnL]; decide) rfl (by decide +kernel) rfl ?_
      refine aw_iconst C (i0 := 0) (v := 0) (by decide) (by decide +kernel) rfl ?_
      refine aw_istore_n C [(3, .int (0 : Int32)), (2, .int (0 : Int32)), (0, .ref (gad G 0)), (1, .int v1)] (j := 3) rfl (by rw [hnL]; decide) rfl (by decide +kernel) rfl ?_
      refine aw_sub [(0, .ref (gad G 0)), (1, .int v1), (2, .int (0 : Int32)), (3, .int (0 : Int32))] [2, 3, 1, 0] rfl ?_
      exact u_x_draw_16 C CR0 E hnL hgd hgr hgs _ v1 (0 : Int32) (0 : Int32) _ hf
    · have hf := iff_ c2 hf
      refine aw_iconst C (i0 := -1) (v := -1) (by decide) (by decide +kernel) rfl ?_
      exact aw_iretq C CR0 hgr hgs hf (by decide +kernel)
theorem c_x_draw {lay : Ly} (E : LCin lay) (v1 : Int32) (st : Mm) (q : Int32 × Mm) (hf : f_x_draw v1 st = some q) : Con 0 Y132 prog_1_method_27_code 4 (Option.some FieldType.int) lay (fun ad => [.ref (ad 0), .int v1]) st (some (.int q.1)) q.2 :=
  am_met yf_132.2.2.2.2.2 (fun ad => Nat.le_of_ble_eq_true rfl) (fun G C CR0 e1 e2 e3 e4 e5 => t_x_draw C CR0 (by rw [e1]; exact E) e2 (Nat.le_of_eq e5.symm) e3 e4 v1 st hf)
def f_Tab_copyFrom (t0 t1 t2 t3 t4 o0 o1 o2 o3 o4 : Nat) (st : Mm) : Option (Unit × Mm) :=
  lt_ (st.1 o0 0) (fun a1 => lt_ ((sI st t0 0 a1).1 o0 1) (fun a2 => lt_ ((sI (sI st t0 0 a1) t0 1 a2).1 o0 2) (fun a3 => lt_ ((sI (sI (sI st t0 0 a1) t0 1 a2) t0 2 a3).1 o0 3) (fun a4 => some ((), (sR (sR (sR (sR (sI (sI (sI (sI st t0 0 a1) t0 1 a2) t0 2 a3) t0 3 a4) t1 (va_cpy ((sI (sI (sI (sI st t0 0 a1) t0 1 a2) t0 2 a3) t0 3 a4).1 o1) ((sI (sI (sI (sI st t0 0 a1) t0 1 a2) t0 2 a3) t0 3 a4).1 t1) (0 : Int32).toNatClampNeg (0 : Int32).toNatClampNeg (8 : Int32).toNatClampNeg)) t2 (va_cpy ((sR (sI (sI (sI (sI st t0 0 a1) t0 1 a2) t0 2 a3) t0 3 a4) t1 (va_cpy ((sI (sI (sI (sI st t0 0 a1) t0 1 a2) t0 2 a3) t0 3 a4).1 o1) ((sI (sI (sI (sI st t0 0 a1) t0 1 a2) t0 2 a3) t0 3 a4).1 t1) (0 : Int32).toNatClampNeg (0 : Int32).toNatClampNeg (8 : Int32).toNatClampNeg)).1 o2) ((sR (sI (sI (sI (sI st t0 0 a1) t0 1 a2) t0 2 a3) t0 3 a4) t1 (va_cpy ((sI (sI (sI (sI st t0 0 a1) t0 1 a2) t0 2 a3) t0 3 a4).1 o1) ((sI (sI (sI (sI st t0 0 a1) t0 1 a2) t0 2 a3) t0 3 a4).1 t1) (0 : Int32).toNatClampNeg (0 : Int32).toNatClampNeg (8 : Int32).toNatClampNeg)).1 t2) (0 : Int32).toNatClampNeg (0 : Int32).toNatClampNeg (16 : Int32).toNatClampNeg)) t3 (va_cpy ((sR (sR (sI (sI (sI (sI st t0 0 a1) t0 1 a2) t0 2 a3) t0 3 a4) t1 (va_cpy ((sI (sI (sI (sI st t0 0 a1) t0 1 a2) t0 2 a3) t0 3 a4).1 o1) ((sI (sI (sI (sI st t0 0 a1) t0 1 a2) t0 2 a3) t0 3 a4).1 t1) (0 : Int32).toNatClampNeg (0 : Int32).toNatClampNeg (8 : Int32).toNatClampNeg)) t2 (va_cpy ((sR (sI (sI (sI (sI st t0 0 a1) t0 1 a2) t0 2 a3) t0 3 a4) t1 (va_cpy ((sI (sI (sI (sI st t0 0 a1) t0 1 a2) t0 2 a3) t0 3 a4).1 o1) ((sI (sI (sI (sI st t0 0 a1) t0 1 a2) t0 2 a3) t0 3 a4).1 t1) (0 : Int32).toNatClampNeg (0 : Int32).toNatClampNeg (8 : Int32).toNatClampNeg)).1 o2) ((sR (sI (sI (sI (sI st t0 0 a1) t0 1 a2) t0 2 a3) t0 3 a4) t1 (va_cpy ((sI (sI (sI (sI st t0 0 a1) t0 1 a2) t0 2 a3) t0 3 a4).1 o1) ((sI (sI (sI (sI st t0 0 a1) t0 1 a2) t0 2 a3) t0 3 a4).1 t1) (0 : Int32).toNatClampNeg (0 : Int32).toNatClampNeg (8 : Int32).toNatClampNeg)).1 t2) (0 : Int32).toNatClampNeg (0 : Int32).toNatClampNeg (16 : Int32).toNatClampNeg)).1 o3) ((sR (sR (sI (sI (sI (sI st t0 0 a1) t0 1 a2) t0 2 a3) t0 3 a4) t1 (va_cpy ((sI (sI (sI (sI st t0 0 a1) t0 1 a2) t0 2 a3) t0 3 a4).1 o1) ((sI (sI (sI (sI st t0 0 a1) t0 1 a2) t0 2 a3) t0 3 a4).1 t1) (0 : Int32).toNatClampNeg (0 : Int32).toNatClampNeg (8 : Int32).toNatClampNeg)) t2 (va_cpy ((sR (sI (sI (sI (sI st t0 0 a1) t0 1 a2) t0 2 a3) t0 3 a4) t1 (va_cpy ((sI (sI (sI (sI st t0 0 a1) t0 1 a2) t0 2 a3) t0 3 a4).1 o1) ((sI (sI (sI (sI st t0 0 a1) t0 1 a2) t0 2 a3) t0 3 a4).1 t1) (0 : Int32).toNatClampNeg (0 : Int32).toNatClampNeg (8 : Int32).toNatClampNeg)).1 o2) ((sR (sI (sI (sI (sI st t0 0 a1) t0 1 a2) t0 2 a3) t0 3 a4) t1 (va_cpy ((sI (sI (sI (sI st t0 0 a1) t0 1 a2) t0 2 a3) t0 3 a4).1 o1) ((sI (sI (sI (sI st t0 0 a1) t0 1 a2) t0 2 a3) t0 3 a4).1 t1) (0 : Int32).toNatClampNeg (0 : Int32).toNatClampNeg (8 : Int32).toNatClampNeg)).1 t2) (0 : Int32).toNatClampNeg (0 : Int32).toNatClampNeg (16 : Int32).toNatClampNeg)).1 t3) (0 : Int32).toNatClampNeg (0 : Int32).toNatClampNeg (16 : Int32).toNatClampNeg)) t4 (va_cpy ((sR (sR (sR (sI (sI (sI (sI st t0 0 a1) t0 1 a2) t0 2 a3) t0 3 a4) t1 (va_cpy ((sI (sI (sI (sI st t0 0 a1) t0 1 a2) t0 2 a3) t0 3 a4).1 o1) ((sI (sI (sI (sI st t0 0 a1) t0 1 a2) t0 2 a3) t0 3 a4).1 t1) (0 : Int32).toNatClampNeg (0 : Int32).toNatClampNeg (8 : Int32).toNatClampNeg)) t2 (va_cpy ((sR (sI (sI (sI (sI st t0 0 a1) t0 1 a2) t0 2 a3) t0 3 a4) t1 (va_cpy ((sI (sI (sI (sI st t0 0 a1) t0 1 a2) t0 2 a3) t0 3 a4).1 o1) ((sI (sI (sI (sI st t0 0 a1) t0 1 a2) t0 2 a3) t0 3 a4).1 t1) (0 : Int32).toNatClampNeg (0 : Int32).toNatClampNeg (8 : Int32).toNatClampNeg)).1 o2) ((sR (sI (sI (sI (sI st t0 0 a1) t0 1 a2) t0 2 a3) t0 3 a4) t1 (va_cpy ((sI (sI (sI (sI st t0 0 a1) t0 1 a2) t0 2 a3) t0 3 a4).1 o1) ((sI (sI (sI (sI st t0 0 a1) t0 1 a2) t0 2 a3) t0 3 a4).1 t1) (0 : Int32).toNatClampNeg (0 : Int32).toNatClampNeg (8 : Int32).toNatClampNeg)).1 t2) (0 : Int32).toNatClampNeg (0 : Int32).toNatClampNeg (16 : Int32).toNatClampNeg)) t3 (va_cpy ((sR (sR (sI (sI (sI (sI st t0 0 a1) t0 1 a2) t0 2 a3) t0 3 a4) t1 (va_cpy ((sI (sI (sI (sI st t0 0 a1) t0 1 a2) t0 2 a3) t0 3 a4).1 o1) ((sI (sI (sI (sI st t0 0 a1) t0 1 a2) t0 2 a3) t0 3 a4).1 t1) (0 : Int32).toNatClampNeg (0 : Int32).toNatClampNeg (8 : Int32).toNatClampNeg)) t2 (va_cpy ((sR (sI (sI (sI (sI st t0 0 a1) t0 1 a2) t0 2 a3) t0 3 a4) t1 (va_cpy ((sI (sI (sI (sI st t0 0 a1) t0 1 a2) t0 2 a3) t0 3 a4).1 o1) ((sI (sI (sI (sI st t0 0 a1) t0 1 a2) t0 2 a3) t0 3 a4).1 t1) (0 : Int32).toNatClampNeg (0 : Int32).toNatClampNeg (8 : Int32).toNatClampNeg)).1 o2) ((sR (sI (sI (sI (sI st t0 0 a1) t0 1 a2) t0 2 a3) t0 3 a4) t1 (va_cpy ((sI (sI (sI (sI st t0 0 a1) t0 1 a2) t0 2 a3) t0 3 a4).1 o1) ((sI (sI (sI (sI st t0 0 a1) t0 1 a2) t0 2 a3) t0 3 a4).1 t1) (0 : Int32).toNatClampNeg (0 : Int32).toNatClampNeg (8 : Int32).toNatClampNeg)).1 t2) (0 : Int32).toNatClampNeg (0 : Int32).toNatClampNeg (16 : Int32).toNatClampNeg)).1 o3) ((sR (sR (sI (sI (sI (sI st t0 0 a1) t0 1 a2) t0 2 a3) t0 3 a4) t1 (va_cpy ((sI (sI (sI (sI st t0 0 a1) t0 1 a2) t0 2 a3) t0 3 a4).1 o1) ((sI (sI (sI (sI st t0 0 a1) t0 1 a2) t0 2 a3) t0 3 a4).1 t1) (0 : Int32).toNatClampNeg (0 : Int32).toNatClampNeg (8 : Int32).toNatClampNeg)) t2 (va_cpy ((sR (sI (sI (sI (sI st t0 0 a1) t0 1 a2) t0 2 a3) t0 3 a4) t1 (va_cpy ((sI (sI (sI (sI st t0 0 a1) t0 1 a2) t0 2 a3) t0 3 a4).1 o1) ((sI (sI (sI (sI st t0 0 a1) t0 1 a2) t0 2 a3) t0 3 a4).1 t1) (0 : Int32).toNatClampNeg (0 : Int32).toNatClampNeg (8 : Int32).toNatClampNeg)).1 o2) ((sR (sI (sI (sI (sI st t0 0 a1) t0 1 a2) t0 2 a3) t0 3 a4) t1 (va_cpy ((sI (sI (sI (sI st t0 0 a1) t0 1 a2) t0 2 a3) t0 3 a4).1 o1) ((sI (sI (sI (sI st t0 0 a1) t0 1 a2) t0 2 a3) t0 3 a4).1 t1) (0 : Int32).toNatClampNeg (0 : Int32).toNatClampNeg (8 : Int32).toNatClampNeg)).1 t2) (0 : Int32).toNatClampNeg (0 : Int32).toNatClampNeg (16 : Int32).toNatClampNeg)).1 t3) (0 : Int32).toNatClampNeg (0 : Int32).toNatClampNeg (16 : Int32).toNatClampNeg)).1 o4) ((sR (sR (sR (sI (sI (sI (sI st t0 0 a1) t0 1 a2) t0 2 a3) t0 3 a4) t1 (va_cpy ((sI (sI (sI (sI st t0 0 a1) t0 1 a2) t0 2 a3) t0 3 a4).1 o1) ((sI (sI (sI (sI st t0 0 a1) t0 1 a2) t0 2 a3) t0 3 a4).1 t1) (0 : Int32).toNatClampNeg (0 : Int32).toNatClampNeg (8 : Int32).toNatClampNeg)) t2 (va_cpy ((sR (sI (sI (sI (sI st t0 0 a1) t0 1 a2) t0 2 a3) t0 3 a4) t1 (va_cpy ((sI (sI (sI (sI st t0 0 a1) t0 1 a2) t0 2 a3) t0 3 a4).1 o1) ((sI (sI (sI (sI st t0 0 a1) t0 1 a2) t0 2 a3) t0 3 a4).1 t1) (0 : Int32).toNatClampNeg (0 : Int32).toNatClampNeg (8 : Int32).toNatClampNeg)).1 o2) ((sR (sI (sI (sI (sI st t0 0 a1) t0 1 a2) t0 2 a3) t0 3 a4) t1 (va_cpy ((sI (sI (sI (sI st t0 0 a1) t0 1 a2) t0 2 a3) t0 3 a4).1 o1) ((sI (sI (sI (sI st t0 0 a1) t0 1 a2) t0 2 a3) t0 3 a4).1 t1) (0 : Int32).toNatClampNeg (0 : Int32).toNatClampNeg (8 : Int32).toNatClampNeg)).1 t2) (0 : Int32).toNatClampNeg (0 : Int32).toNatClampNeg (16 : Int32).toNatClampNeg)) t3 (va_cpy ((sR (sR (sI (sI (sI (sI st t0 0 a1) t0 1 a2) t0 2 a3) t0 3 a4) t1 (va_cpy ((sI (sI (sI (sI st t0 0 a1) t0 1 a2) t0 2 a3) t0 3 a4).1 o1) ((sI (sI (sI (sI st t0 0 a1) t0 1 a2) t0 2 a3) t0 3 a4).1 t1) (0 : Int32).toNatClampNeg (0 : Int32).toNatClampNeg (8 : Int32).toNatClampNeg)) t2 (va_cpy ((sR (sI (sI (sI (sI st t0 0 a1) t0 1 a2) t0 2 a3) t0 3 a4) t1 (va_cpy ((sI (sI (sI (sI st t0 0 a1) t0 1 a2) t0 2 a3) t0 3 a4).1 o1) ((sI (sI (sI (sI st t0 0 a1) t0 1 a2) t0 2 a3) t0 3 a4).1 t1) (0 : Int32).toNatClampNeg (0 : Int32).toNatClampNeg (8 : Int32).toNatClampNeg)).1 o2) ((sR (sI (sI (sI (sI st t0 0 a1) t0 1 a2) t0 2 a3) t0 3 a4) t1 (va_cpy ((sI (sI (sI (sI st t0 0 a1) t0 1 a2) t0 2 a3) t0 3 a4).1 o1) ((sI (sI (sI (sI st t0 0 a1) t0 1 a2) t0 2 a3) t0 3 a4).1 t1) (0 : Int32).toNatClampNeg (0 : Int32).toNatClampNeg (8 : Int32).toNatClampNeg)).1 t2) (0 : Int32).toNatClampNeg (0 : Int32).toNatClampNeg (16 : Int32).toNatClampNeg)).1 o3) ((sR (sR (sI (sI (sI (sI st t0 0 a1) t0 1 a2) t0 2 a3) t0 3 a4) t1 (va_cpy ((sI (sI (sI (sI st t0 0 a1) t0 1 a2) t0 2 a3) t0 3 a4).1 o1) ((sI (sI (sI (sI st t0 0 a1) t0 1 a2) t0 2 a3) t0 3 a4).1 t1) (0 : Int32).toNatClampNeg (0 : Int32).toNatClampNeg (8 : Int32).toNatClampNeg)) t2 (va_cpy ((sR (sI (sI (sI (sI st t0 0 a1) t0 1 a2) t0 2 a3) t0 3 a4) t1 (va_cpy ((sI (sI (sI (sI st t0 0 a1) t0 1 a2) t0 2 a3) t0 3 a4).1 o1) ((sI (sI (sI (sI st t0 0 a1) t0 1 a2) t0 2 a3) t0 3 a4).1 t1) (0 : Int32).toNatClampNeg (0 : Int32).toNatClampNeg (8 : Int32).toNatClampNeg)).1 o2) ((sR (sI (sI (sI (sI st t0 0 a1) t0 1 a2) t0 2 a3) t0 3 a4) t1 (va_cpy ((sI (sI (sI (sI st t0 0 a1) t0 1 a2) t0 2 a3) t0 3 a4).1 o1) ((sI (sI (sI (sI st t0 0 a1) t0 1 a2) t0 2 a3) t0 3 a4).1 t1) (0 : Int32).toNatClampNeg (0 : Int32).toNatClampNeg (8 : Int32).toNatClampNeg)).1 t2) (0 : Int32).toNatClampNeg (0 : Int32).toNatClampNeg (16 : Int32).toNatClampNeg)).1 t3) (0 : Int32).toNatClampNeg (0 : Int32).toNatClampNeg (16 : Int32).toNatClampNeg)).1 t4) (0 : Int32).toNatClampNeg (0 : Int32).toNatClampNeg (16 : Int32).toNatClampNeg)))))))
theorem t_Tab_copyFrom {G : Cx} (C : CX G prog_11_method_3_code "PaperStars$Table") (CR0 : CR G (Option.none)) (t0 t1 t2 t3 t4 o0 o1 o2 o3 o4 : Nat) (Et : TabAt (gly G) t0 t1 t2 t3 t4) (Eo : TabAt (gly G) o0 o1 o2 o3 o4) (hnL : gnL G = 2) (hgd : 1 ≤ gd G) {q : Unit × Mm} (hgr : gr G = none) (hgs : gsf G = q.2) (st : Mm) (hf : f_Tab_copyFrom t0 t1 t2 t3 t4 o0 o1 o2 o3 o4 st = some q) : AW G st 0 [(0, .ref (gad G t0)), (1, .ref (gad G o0))] [] := by
  unfold f_Tab_copyFrom at hf
  refine aw_aload_n C 0 0 (j := 0) rfl rfl (by decide +kernel) rfl ?_
  refine aw_aload_n C 1 1 (j := 1) rfl rfl (by decide +kernel) rfl ?_
  refine aw_get C (k := 0) fc_9 Eo.1 rfl (by decide) tb_36 (by decide +kernel) rfl ?_
  obtain ⟨a1, ha1⟩ : ∃ z, z = (st.1 o0 0) := ⟨_, rfl⟩
  refine aw_nmi ha1 ?_
  have hf := ilt ha1 hf
  refine aw_put C (k := 0) fc_9 Et.1 rfl (by decide) rfl rfl tb_36 (by decide +kernel) rfl ?_
  refine aw_aload_n C 0 0 (j := 0) rfl rfl (by decide +kernel) rfl ?_
  refine aw_aload_n C 1 1 (j := 1) rfl rfl (by decide +kernel) rfl ?_
  refine aw_get C (k := 1) fc_9 Eo.1 rfl (by decide) tb_38 (by decide +kernel) rfl ?_
  obtain ⟨a2, ha2⟩ : ∃ z, z = ((sI st t0 0 a1).1 o0 1) := ⟨_, rfl⟩
  refine aw_nmi ha2 ?_
  have hf := ilt ha2 hf
  refine aw_put C (k := 1) fc_9 Et.1 rfl (by decide) rfl rfl tb_38 (by decide +kernel) rfl ?_
  refine aw_aload_n C 0 0 (j := 0) rfl rfl (by decide +kernel) rfl ?_
  refine aw_aload_n C 1 1 (j := 1) rfl rfl (by decide +kernel) rfl ?_
  refine aw_get C (k := 2) fc_9 Eo.1 rfl (by decide) tb_40 (by decide +kernel) rfl ?_
  obtain ⟨a3, ha3⟩ : ∃ z, z = ((sI (sI st t0 0 a1) t0 1 a2).1 o0 2) := ⟨_, rfl⟩
  refine aw_nmi ha3 ?_
  have hf := ilt ha3 hf
  refine aw_put C (k := 2) fc_9 Et.1 rfl (by decide) rfl rfl tb_40 (by decide +kernel) rfl ?_
  refine aw_aload_n C 0 0 (j := 0) rfl rfl (by decide +kernel) rfl ?_
  refine aw_aload_n C 1 1 (j := 1) rfl rfl (by decide +kernel) rfl ?_
  refine aw_get C (k := 3) fc_9 Eo.1 rfl (by decide) tb_43 (by decide +kernel) rfl ?_
  obtain ⟨a4, ha4⟩ : ∃ z, z = ((sI (sI (sI st t0 0 a1) t0 1 a2) t0 2 a3).1 o0 3) := ⟨_, rfl⟩
  refine aw_nmi ha4 ?_
  have hf := ilt ha4 hf
  refine aw_put C (k := 3) fc_9 Et.1 rfl (by decide) rfl rfl tb_43 (by decide +kernel) rfl ?_
  refine aw_aload_n C 1 1 (j := 1) rfl rfl (by decide +kernel) rfl ?_
  refine aw_getr C (k := 4) fc_9 Eo.1 rfl (by decide) tb_46 (by decide +kernel) rfl ?_
  refine aw_iconst C (i0 := 0) (v := 0) (by decide) (by decide +kernel) rfl ?_
  refine aw_aload_n C 0 0 (j := 0) rfl rfl (by decide +kernel) rfl ?_
  refine aw_getr C (k := 4) fc_9 Et.1 rfl (by decide) tb_46 (by decide +kernel) rfl ?_
  refine aw_iconst C (i0 := 0) (v := 0) (by decide) (by decide +kernel) rfl ?_
  refine aw_bipush C (i0 := 8) (v := 8) (by decide) (by decide +kernel) rfl ?_
  refine aw_copy C (Nat.le_trans (by decide) hgd) (Nat.le_of_ble_eq_true rfl) Eo.2.1 Et.2.1 tb_915 tb_475 tb_474 tb_15 (by decide) (by decide) (by decide) (by decide) (by decide) (by decide +kernel) rfl ?_
  refine aw_aload_n C 1 1 (j := 1) rfl rfl (by decide +kernel) rfl ?_
  refine aw_getr C (k := 5) fc_9 Eo.1 rfl (by decide) tb_49 (by decide +kernel) rfl ?_
  refine aw_iconst C (i0 := 0) (v := 0) (by decide) (by decide +kernel) rfl ?_
  refine aw_aload_n C 0 0 (j := 0) rfl rfl (by decide +kernel) rfl ?_
  refine aw_getr C (k := 5) fc_9 Et.1 rfl (by decide) tb_49 (by decide +kernel) rfl ?_
  refine aw_iconst C (i0 := 0) (v := 0) (by decide) (by decide +kernel) rfl ?_
  refine aw_bipush C (i0 := 16) (v := 16) (by decide) (by decide +kernel) rfl ?_
  refine aw_copy C (Nat.le_trans (by decide) hgd) (Nat.le_of_ble_eq_true rfl) Eo.2.2.1 Et.2.2.1 tb_915 tb_475 tb_474 tb_15 (by decide) (by decide) (by decide) (by decide) (by decide) (by decide +kernel) rfl ?_
  refine aw_aload_n C 1 1 (j := 1) rfl rfl (by decide +kernel) rfl ?_
  refine aw_getr C (k := 6) fc_9 Eo.1 rfl (by decide) tb_52 (by decide +kernel) rfl ?_
  refine aw_iconst C (i0 := 0) (v := 0) (by decide) (by decide +kernel) rfl ?_
  refine aw_aload_n C 0 0 (j := 0) rfl rfl (by decide +kernel) rfl ?_
  refine aw_getr C (k := 6) fc_9 Et.1 rfl (by decide) tb_52 (by decide +kernel) rfl ?_
  refine aw_iconst C (i0 := 0) (v := 0) (by decide) (by decide +kernel) rfl ?_
  refine aw_bipush C (i0 := 16) (v := 16) (by decide) (by decide +kernel) rfl ?_
  refine aw_copy C (Nat.le_trans (by decide) hgd) (Nat.le_of_ble_eq_true rfl) Eo.2.2.2.1 Et.2.2.2.1 tb_915 tb_475 tb_474 tb_15 (by decide) (by decide) (by decide) (by decide) (by decide) (by decide +kernel) rfl ?_
  refine aw_aload_n C 1 1 (j := 1) rfl rfl (by decide +kernel) rfl ?_
  refine aw_getr C (k := 7) fc_9 Eo.1 rfl (by decide) tb_54 (by decide +kernel) rfl ?_
  refine aw_iconst C (i0 := 0) (v := 0) (by decide) (by decide +kernel) rfl ?_
  refine aw_aload_n C 0 0 (j := 0) rfl rfl (by decide +kernel) rfl ?_
  refine aw_getr C (k := 7) fc_9 Et.1 rfl (by decide) tb_54 (by decide +kernel) rfl ?_
  refine aw_iconst C (i0 := 0) (v := 0) (by decide) (by decide +kernel) rfl ?_
  refine aw_bipush C (i0 := 16) (v := 16) (by decide) (by decide +kernel) rfl ?_
  refine aw_copy C (Nat.le_trans (by decide) hgd) (Nat.le_of_ble_eq_true rfl) Eo.2.2.2.2 Et.2.2.2.2 tb_915 tb_475 tb_474 tb_15 (by decide) (by decide) (by decide) (by decide) (by decide) (by decide +kernel) rfl ?_
  exact aw_vretq C CR0 hgr hgs hf (by decide +kernel)
theorem c_Tab_copyFrom {lay : Ly} (t0 t1 t2 t3 t4 o0 o1 o2 o3 o4 : Nat) (Et : TabAt lay t0 t1 t2 t3 t4) (Eo : TabAt lay o0 o1 o2 o3 o4) (st : Mm) (q : Unit × Mm) (hf : f_Tab_copyFrom t0 t1 t2 t3 t4 o0 o1 o2 o3 o4 st = some q) : Con 1 Y134 prog_11_method_3_code 2 (Option.none) lay (fun ad => [.ref (ad t0), .ref (ad o0)]) st (none) q.2 :=
  am_met yf_134.2.2.2.2.2 (fun ad => Nat.le_of_ble_eq_true rfl) (fun G C CR0 e1 e2 e3 e4 e5 => t_Tab_copyFrom C CR0 t0 t1 t2 t3 t4 o0 o1 o2 o3 o4 (by rw [e1]; exact Et) (by rw [e1]; exact Eo) e2 (Nat.le_of_eq e5.symm) e3 e4 st hf)
def f_x_keep (st : Mm) : Option (Int32 × Mm) :=
  (f_Tab_copyFrom 6 7 8 9 10 1 2 3 4 5 st).bind (fun q1 => (f_x_bitsOf 31 (sI q1.2 0 12 (1 : Int32))).bind (fun q2 => some (q2.1, q2.2)))
theorem t_x_keep {G : Cx} (C : CX G prog_1_method_28_code "PaperStars") (CR0 : CR G (Option.some FieldType.int)) (E : LCin (gly G)) (hnL : gnL G = 1) (hgd : 2 ≤ gd G) {q : Int32 × Mm} (hgr : gr G = some (.int q.1)) (hgs : gsf G = q.2) (st : Mm) (hf : f_x_keep st = some q) : AW G st 0 [(0, .ref (gad G 0))] [] := by
  unfold f_x_keep at hf
  refine aw_aload_n C 0 0 (j := 0) rfl rfl (by decide +kernel) rfl ?_
  refine aw_getr C (k := 1) fc_11 (lc_0 E) rfl (by decide) tb_397 (by decide +kernel) rfl ?_
  refine aw_aload_n C 0 0 (j := 0) rfl rfl (by decide +kernel) rfl ?_
  refine aw_getr C (k := 0) fc_11 (lc_0 E) rfl (by decide) tb_396 (by decide +kernel) rfl ?_
  obtain ⟨q1, hq1, hf⟩ := ibd hf
  refine aw_callV C (rest := []) (c_Tab_copyFrom 6 7 8 9 10 1 2 3 4 5 ⟨(lc_6 E), (lc_7 E), (lc_8 E), (lc_9 E), (lc_10 E)⟩ ⟨(lc_1 E), (lc_2 E), (lc_3 E), (lc_4 E), (lc_5 E)⟩ _ q1 hq1) tb_911 yf_134 yi_134 (lc_6 E) [.ref (gad G 1)] rfl rfl _ rfl (Nat.le_trans (by decide) hgd) (Nat.le_of_ble_eq_true rfl) (by decide +kernel) rfl ?_
  show AW _ _ _ _ []
  refine aw_aload_n C 0 0 (j := 0) rfl rfl (by decide +kernel) rfl ?_
  refine aw_iconst C (i0 := 1) (v := 1) (by decide) (by decide +kernel) rfl ?_
  refine aw_putZ C (k := 12) fc_11 (lc_0 E) rfl (by decide) rfl rfl (by decide) tb_408 (by decide +kernel) rfl ?_
  refine aw_aload_n C 0 0 (j := 0) rfl rfl (by decide +kernel) rfl ?_
  refine aw_getr C (k := 6) fc_11 (lc_0 E) rfl (by decide) tb_402 (by decide +kernel) rfl ?_
  refine aw_getr C (k := 1) fc_6 (lc_30 E) rfl (by decide) tb_221 (by decide +kernel) rfl ?_
  obtain ⟨q2, hq2, hf⟩ := ibd hf
  refine aw_callS C (rest := []) (c_x_bitsOf 31 (lc_31 E) _ q2 hq2) tb_599 yf_63 tb_600 rfl _ rfl (Nat.le_trans (by decide) hgd) (Nat.le_of_ble_eq_true rfl) (by decide +kernel) rfl ?_
  show AW _ _ _ _ [.int q2.1]
  exact aw_iretq C CR0 hgr hgs hf (by decide +kernel)
theorem c_x_keep {lay : Ly} (E : LCin lay) (st : Mm) (q : Int32 × Mm) (hf : f_x_keep st = some q) : Con 2 Y133 prog_1_method_28_code 1 (Option.some FieldType.int) lay (fun ad => [.ref (ad 0)]) st (some (.int q.1)) q.2 :=
  am_met yf_133.2.2.2.2.2 (fun ad => Nat.le_of_ble_eq_true rfl) (fun G C CR0 e1 e2 e3 e4 e5 => t_x_keep C CR0 (by rw [e1]; exact E) e2 (Nat.le_of_eq e5.symm) e3 e4 st hf)
def f_x_undo (st : Mm) : Option (Int32 × Mm) :=
  if (st.1 0 12) = 0 then (some ((0 : Int32), st)) else ((f_Tab_copyFrom 1 2 3 4 5 6 7 8 9 10 st).bind (fun q2 => (f_x_reopen q2.2).bind (fun q3 => some ((1 : Int32), q3.2))))
theorem t_x_undo {G : Cx} (C : CX G prog_1_method_29_code "PaperStars") (CR0 : CR G (Option.some FieldType.boolean)) (E : LCin (gly G)) (hnL : gnL G = 1) (hgd : 4 ≤ gd G) {q : Int32 × Mm} (hgr : gr G = some (.int q.1)) (hgs : gsf G = q.2) (st : Mm) (hf : f_x_undo st = some q) : AW G st 0 [(0, .ref (gad G 0))] [] := by
  unfold f_x_undo at hf
  refine aw_aload_n C 0 0 (j := 0) rfl rfl (by decide +kernel) rfl ?_
  refine aw_get C (k := 12) fc_11 (lc_0 E) rfl (by decide) tb_408 (by decide +kernel) rfl ?_
  refine aw_if_ne C (tgt := 9) (off := 5) (by decide +kernel) (by decide) rfl (fun c1 => ?_) (fun c1 => ?_)
  · have hf := ift c1 hf
    refine aw_iconst C (i0 := 0) (v := 0) (by decide) (by decide +kernel) rfl ?_
    exact aw_zretq C CR0 hgr hgs (by decide) hf (by decide +kernel)
  · have hf := iff_ c1 hf
    refine aw_aload_n C 0 0 (j := 0) rfl rfl (by decide +kernel) rfl ?_
    refine aw_getr C (k := 0) fc_11 (lc_0 E) rfl (by decide) tb_396 (by decide +kernel) rfl ?_
    refine aw_aload_n C 0 0 (j := 0) rfl rfl (by decide +kernel) rfl ?_
    refine aw_getr C (k := 1) fc_11 (lc_0 E) rfl (by decide) tb_397 (by decide +kernel) rfl ?_
    obtain ⟨q2, hq2, hf⟩ := ibd hf
    refine aw_callV C (rest := []) (c_Tab_copyFrom 1 2 3 4 5 6 7 8 9 10 ⟨(lc_1 E), (lc_2 E), (lc_3 E), (lc_4 E), (lc_5 E)⟩ ⟨(lc_6 E), (lc_7 E), (lc_8 E), (lc_9 E), (lc_10 E)⟩ _ q2 hq2) tb_911 yf_134 yi_134 (lc_1 E) [.ref (gad G 6)] rfl rfl _ rfl (Nat.le_trans (by decide) hgd) (Nat.le_of_ble_eq_true rfl) (by decide +kernel) rfl ?_
    show AW _ _ _ _ []
    refine aw_aload_n C 0 0 (j := 0) rfl rfl (by decide +kernel) rfl ?_
    obtain ⟨q3, hq3, hf⟩ := ibd hf
    refine aw_callV C (rest := []) (c_x_reopen E _ q3 hq3) tb_359 yf_14 yi_14 (lc_0 E) [] rfl rfl _ rfl (Nat.le_trans (by decide) hgd) (Nat.le_of_ble_eq_true rfl) (by decide +kernel) rfl ?_
    show AW _ _ _ _ []
    refine aw_iconst C (i0 := 1) (v := 1) (by decide) (by decide +kernel) rfl ?_
    exact aw_zretq C CR0 hgr hgs (by decide) hf (by decide +kernel)
theorem c_x_undo {lay : Ly} (E : LCin lay) (st : Mm) (q : Int32 × Mm) (hf : f_x_undo st = some q) : Con 4 Y135 prog_1_method_29_code 1 (Option.some FieldType.boolean) lay (fun ad => [.ref (ad 0)]) st (some (.int q.1)) q.2 :=
  am_met yf_135.2.2.2.2.2 (fun ad => Nat.le_of_ble_eq_true rfl) (fun G C CR0 e1 e2 e3 e4 e5 => t_x_undo C CR0 (by rw [e1]; exact E) e2 (Nat.le_of_eq e5.symm) e3 e4 st hf)
def b_Tape_intAt_4 (k4 : Int32 → Int32 → Int32 → Mm → Option (Int32 × Mm)) (v1 : Int32) (v2 : Int32) (v3 : Int32) (st : Mm) : Option (Int32 × Mm) :=
  if (v1 + (4 : Int32)) ≤ v3 then (some (v2, st)) else (if v3 < 0 then (lt_ ((v2 <<< ((8 : Int32) &&& 31)) ||| (0 : Int32)) (fun a3 => lt_ (v3 + (1 : Int32)) (fun a4 => k4 v1 a3 a4 st))) else (if (200 : Int32) ≤ v3 then (lt_ ((v2 <<< ((8 : Int32) &&& 31)) ||| (0 : Int32)) (fun a6 => lt_ (v3 + (1 : Int32)) (fun a7 => k4 v1 a6 a7 st))) else (if inb v3 200 then lt_ ((v2 <<< ((8 : Int32) &&& 31)) ||| (st.1 12 v3.toNatClampNeg)) (fun a9 => lt_ (v3 + (1 : Int32)) (fun a10 => k4 v1 a9 a10 st)) else none)))
def f_Tape_intAt_4 : Nat → Int32 → Int32 → Int32 → Mm → Option (Int32 × Mm)
  | 0 => fun _ _ _ _ => none
  | n + 1 => b_Tape_intAt_4 (f_Tape_intAt_4 n)
def f_Tape_intAt (v1 : Int32) (st : Mm) : Option (Int32 × Mm) :=
  f_Tape_intAt_4 1000000 v1 (0 : Int32) v1 st
theorem t_Tape_intAt_4 {G : Cx} (C : CX G prog_12_method_3_code "PaperStars$Tape") (CR0 : CR G (Option.some FieldType.int)) (E : LCin (gly G)) (hnL : gnL G = 4) (hgd : 0 ≤ gd G) {q : Int32 × Mm} (hgr : gr G = some (.int q.1)) (hgs : gsf G = q.2) (k4 : Int32 → Int32 → Int32 → Mm → Option (Int32 × Mm)) (hk4 : ∀ (v1 : Int32) (v2 : Int32) (v3 : Int32) (st : Mm), k4 v1 v2 v3 st = some q → AW G st 4 [(0, .ref (gad G 11)), (1, .int v1), (2, .int v2), (3, .int v3)] []) (v1 : Int32) (v2 : Int32) (v3 : Int32) (st : Mm) (hf : b_Tape_intAt_4 k4 v1 v2 v3 st = some q) : AW G st 4 [(0, .ref (gad G 11)), (1, .int v1), (2, .int v2), (3, .int v3)] [] := by
  unfold b_Tape_intAt_4 at hf
  refine aw_iload_n C 3 3 (j := 3) rfl rfl (by decide +kernel) rfl ?_
  refine aw_iload_n C 1 1 (j := 1) rfl rfl (by decide +kernel) rfl ?_
  refine aw_iconst C (i0 := 4) (v := 4) (by decide) (by decide +kernel) rfl ?_
  refine aw_iadd C (by decide +kernel) rfl ?_
  refine aw_icmp_ge C (tgt := 44) (off := 36) (by decide +kernel) (by decide) rfl (fun c1 => ?_) (fun c1 => ?_)
  · have hf := ift c1 hf
    refine aw_iload_n C 2 2 (j := 2) rfl rfl (by decide +kernel) rfl ?_
    exact aw_iretq C CR0 hgr hgs hf (by decide +kernel)
  · have hf := iff_ c1 hf
    refine aw_iload_n C 2 2 (j := 2) rfl rfl (by decide +kernel) rfl ?_
    refine aw_bipush C (i0 := 8) (v := 8) (by decide) (by decide +kernel) rfl ?_
    refine aw_ishl C (by decide +kernel) rfl ?_
    refine aw_iload_n C 3 3 (j := 3) rfl rfl (by decide +kernel) rfl ?_
    refine aw_if_lt C (tgt := 35) (off := 19) (by decide +kernel) (by decide) rfl (fun c2 => ?_) (fun c2 => ?_)
    · have hf := ift c2 hf
      refine aw_iconst C (i0 := 0) (v := 0) (by decide) (by decide +kernel) rfl ?_
      refine aw_ior C (by decide +kernel) rfl ?_
      obtain ⟨a3, ha3⟩ : ∃ z, z = ((v2 <<< ((8 : Int32) &&& 31)) ||| (0 : Int32)) := ⟨_, rfl⟩
      refine aw_nmi ha3 ?_
      have hf := ilt ha3 hf
      refine aw_istore_n C [(2, .int a3), (0, .ref (gad G 11)), (1, .int v1), (3, .int v3)] (j := 2) rfl (by rw [hnL]; decide) rfl (by decide +kernel) rfl ?_
      obtain ⟨a4, ha4⟩ : ∃ z, z = (v3 + (1 : Int32)) := ⟨_, rfl⟩
      have hf := ilt ha4 hf
      refine aw_iinc C [(3, .int a4), (2, .int a3), (0, .ref (gad G 11)), (1, .int v1)] 3 (n := 1) rfl (by rw [ha4]; rfl) (by rw [hnL]; decide) rfl (by decide +kernel) rfl ?_
      refine aw_goto C (tgt := 4) (off := -37) (by decide +kernel) (by decide) ?_
      refine aw_sub [(0, .ref (gad G 11)), (1, .int v1), (2, .int a3), (3, .int a4)] [2, 3, 1, 0] rfl ?_
      exact hk4 v1 a3 a4 _ hf
    · have hf := iff_ c2 hf
      refine aw_iload_n C 3 3 (j := 3) rfl rfl (by decide +kernel) rfl ?_
      refine aw_sipush C (i0 := 200) (v := 200) (by decide) (by decide +kernel) rfl ?_
      refine aw_icmp_ge C (tgt := 35) (off := 12) (by decide +kernel) (by decide) rfl (fun c5 => ?_) (fun c5 => ?_)
      · have hf := ift c5 hf
        refine aw_iconst C (i0 := 0) (v := 0) (by decide) (by decide +kernel) rfl ?_
        refine aw_ior C (by decide +kernel) rfl ?_
        obtain ⟨a6, ha6⟩ : ∃ z, z = ((v2 <<< ((8 : Int32) &&& 31)) ||| (0 : Int32)) := ⟨_, rfl⟩
        refine aw_nmi ha6 ?_
        have hf := ilt ha6 hf
        refine aw_istore_n C [(2, .int a6), (0, .ref (gad G 11)), (1, .int v1), (3, .int v3)] (j := 2) rfl (by rw [hnL]; decide) rfl (by decide +kernel) rfl ?_
        obtain ⟨a7, ha7⟩ : ∃ z, z = (v3 + (1 : Int32)) := ⟨_, rfl⟩
        have hf := ilt ha7 hf
        refine aw_iinc C [(3, .int a7), (2, .int a6), (0, .ref (gad G 11)), (1, .int v1)] 3 (n := 1) rfl (by rw [ha7]; rfl) (by rw [hnL]; decide) rfl (by decide +kernel) rfl ?_
        refine aw_goto C (tgt := 4) (off := -37) (by decide +kernel) (by decide) ?_
        refine aw_sub [(0, .ref (gad G 11)), (1, .int v1), (2, .int a6), (3, .int a7)] [2, 3, 1, 0] rfl ?_
        exact hk4 v1 a6 a7 _ hf
      · have hf := iff_ c5 hf
        refine aw_aload_n C 0 0 (j := 0) rfl rfl (by decide +kernel) rfl ?_
        refine aw_getr C (k := 1) fc_10 (lc_11 E) rfl (by decide) tb_82 (by decide +kernel) rfl ?_
        refine aw_iload_n C 3 3 (j := 3) rfl rfl (by decide +kernel) rfl ?_
        obtain ⟨g8, hf⟩ := igd hf
        refine aw_iald C (lc_12 E) g8 (by decide +kernel) rfl ?_
        refine aw_goto C (tgt := 36) (off := 4) (by decide +kernel) (by decide) ?_
        refine aw_ior C (by decide +kernel) rfl ?_
        obtain ⟨a9, ha9⟩ : ∃ z, z = ((v2 <<< ((8 : Int32) &&& 31)) ||| (st.1 12 v3.toNatClampNeg)) := ⟨_, rfl⟩
        refine aw_nmi ha9 ?_
        have hf := ilt ha9 hf
        refine aw_istore_n C [(2, .int a9), (0, .ref (gad G 11)), (1, .int v1), (3, .int v3)] (j := 2) rfl (by rw [hnL]; decide) rfl (by decide +kernel) rfl ?_
        obtain ⟨a10, ha10⟩ : ∃ z, z = (v3 + (1 : Int32)) := ⟨_, rfl⟩
        have hf := ilt ha10 hf
        refine aw_iinc C [(3, .int a10), (2, .int a9), (0, .ref (gad G 11)), (1, .int v1)] 3 (n := 1) rfl (by rw [ha10]; rfl) (by rw [hnL]; decide) rfl (by decide +kernel) rfl ?_
        refine aw_goto C (tgt := 4) (off := -37) (by decide +kernel) (by decide) ?_
        refine aw_sub [(0, .ref (gad G 11)), (1, .int v1), (2, .int a9), (3, .int a10)] [2, 3, 1, 0] rfl ?_
        exact hk4 v1 a9 a10 _ hf
theorem u_Tape_intAt_4 {G : Cx} (C : CX G prog_12_method_3_code "PaperStars$Tape") (CR0 : CR G (Option.some FieldType.int)) (E : LCin (gly G)) (hnL : gnL G = 4) (hgd : 0 ≤ gd G) {q : Int32 × Mm} (hgr : gr G = some (.int q.1)) (hgs : gsf G = q.2) : ∀ (n : Nat) (v1 : Int32) (v2 : Int32) (v3 : Int32) (st : Mm), f_Tape_intAt_4 n v1 v2 v3 st = some q → AW G st 4 [(0, .ref (gad G 11)), (1, .int v1), (2, .int v2), (3, .int v3)] [] := by
  intro n
  induction n with
  | zero => intro v1 v2 v3 st hf; cases hf
  | succ n ih => intro v1 v2 v3 st hf; exact t_Tape_intAt_4 C CR0 E hnL hgd hgr hgs (f_Tape_intAt_4 n) ih v1 v2 v3 st hf
theorem t_Tape_intAt {G : Cx} (C : CX G prog_12_method_3_code "PaperStars$Tape") (CR0 : CR G (Option.some FieldType.int)) (E : LCin (gly G)) (hnL : gnL G = 4) (hgd : 0 ≤ gd G) {q : Int32 × Mm} (hgr : gr G = some (.int q.1)) (hgs : gsf G = q.2) (v1 : Int32) (st : Mm) (hf : f_Tape_intAt v1 st = some q) : AW G st 0 [(0, .ref (gad G 11)), (1, .int v1)] [] := by
  unfold f_Tape_intAt at hf
  refine aw_iconst C (i0 := 0) (v := 0) (by decide) (by decide +kernel) rfl ?_
  refine aw_istore_n C [(2, .int (0 : Int32)), (0, .ref (gad G 11)), (1, .int v1)] (j := 2) rfl (by rw [hnL]; decide) rfl (by decide +kernel) rfl ?_
  refine aw_iload_n C 1 2 (j := 1) rfl rfl (by decide +kernel) rfl ?_
  refine aw_istore_n C [(3, .int v1), (2, .int (0 : Int32)), (0, .ref (gad G 11)), (1, .int v1)] (j := 3) rfl (by rw [hnL]; decide) rfl (by decide +kernel) rfl ?_
  refine aw_sub [(0, .ref (gad G 11)), (1, .int v1), (2, .int (0 : Int32)), (3, .int v1)] [2, 3, 1, 0] rfl ?_
  exact u_Tape_intAt_4 C CR0 E hnL hgd hgr hgs _ v1 (0 : Int32) v1 _ hf
theorem c_Tape_intAt {lay : Ly} (E : LCin lay) (v1 : Int32) (st : Mm) (q : Int32 × Mm) (hf : f_Tape_intAt v1 st = some q) : Con 0 Y137 prog_12_method_3_code 4 (Option.some FieldType.int) lay (fun ad => [.ref (ad 11), .int v1]) st (some (.int q.1)) q.2 :=
  am_met yf_137.2.2.2.2.2 (fun ad => Nat.le_of_ble_eq_true rfl) (fun G C CR0 e1 e2 e3 e4 e5 => t_Tape_intAt C CR0 (by rw [e1]; exact E) e2 (Nat.le_of_eq e5.symm) e3 e4 v1 st hf)
def b_x_check_81 (k46 : Int32 → Int32 → Int32 → Int32 → Mm → Option (Int32 × Mm)) (v1 : Int32) (v2 : Int32) (v3 : Int32) (v4 : Int32) (s0 : Int32) (st : Mm) : Option (Int32 × Mm) :=
  if (st.1 1 0) ≤ v4 then (lt_ (v4 + (1 : Int32)) (fun a2 => k46 v1 v2 v4 a2 st)) else ((f_Tape_intAt ((4 : Int32) * v4) st).bind (fun q3 => if q3.1 = s0 then (lt_ (v4 + (1 : Int32)) (fun a5 => k46 v1 v2 v3 a5 q3.2)) else (lt_ (v4 + (1 : Int32)) (fun a6 => k46 v1 v2 v4 a6 q3.2))))
def b_x_check_46 (k46 : Int32 → Int32 → Int32 → Int32 → Mm → Option (Int32 × Mm)) (v1 : Int32) (v2 : Int32) (v3 : Int32) (v4 : Int32) (st : Mm) : Option (Int32 × Mm) :=
  if v2 ≤ v4 then (some (v3, (sI st 11 0 (0 : Int32)))) else (if v3 = (-1 : Int32) then ((f_x_cellAt v4 v1 st).bind (fun q3 => (f_x_hasBit 31 q3.1 q3.2).bind (fun q4 => if q4.1 = 0 then (b_x_check_81 k46 v1 v2 v3 v4 (0 : Int32) q4.2) else (b_x_check_81 k46 v1 v2 v3 v4 (1 : Int32) q4.2)))) else (some (v3, (sI st 11 0 (0 : Int32)))))
def f_x_check_46 : Nat → Int32 → Int32 → Int32 → Int32 → Mm → Option (Int32 × Mm)
  | 0 => fun _ _ _ _ _ => none
  | n + 1 => b_x_check_46 (f_x_check_46 n)
def f_x_check (v1 : Int32) (v2 : Int32) (st : Mm) : Option (Int32 × Mm) :=
  if v1 < 0 then (some ((-2 : Int32), st)) else (if (st.1 1 0) ≤ v1 then (some ((-2 : Int32), st)) else (if v2 < 0 then (some ((-2 : Int32), st)) else (if (16 : Int32) < v2 then (some ((-2 : Int32), st)) else (if ((4 : Int32) * v2) ≤ (st.1 11 0) then (f_x_check_46 1000000 v1 v2 (-1 : Int32) (0 : Int32) st) else (some ((-2 : Int32), st))))))
theorem t_x_check_81 {G : Cx} (C : CX G prog_1_method_30_code "PaperStars") (CR0 : CR G (Option.some FieldType.int)) (E : LCin (gly G)) (hnL : gnL G = 6) (hgd : 1 ≤ gd G) {q : Int32 × Mm} (hgr : gr G = some (.int q.1)) (hgs : gsf G = q.2) (k46 : Int32 → Int32 → Int32 → Int32 → Mm → Option (Int32 × Mm)) (hk46 : ∀ (v1 : Int32) (v2 : Int32) (v3 : Int32) (v4 : Int32) (st : Mm), k46 v1 v2 v3 v4 st = some q → AW G st 46 [(0, .ref (gad G 0)), (1, .int v1), (2, .int v2), (3, .int v3), (4, .int v4)] []) (v1 : Int32) (v2 : Int32) (v3 : Int32) (v4 : Int32) (s0 : Int32) (st : Mm) (hf : b_x_check_81 k46 v1 v2 v3 v4 s0 st = some q) : AW G st 81 [(0, .ref (gad G 0)), (1, .int v1), (2, .int v2), (3, .int v3), (4, .int v4)] [.int s0] := by
  unfold b_x_check_81 at hf
  refine aw_istore C [(5, .int s0), (0, .ref (gad G 0)), (1, .int v1), (2, .int v2), (3, .int v3), (4, .int v4)] (by rw [hnL]; decide) rfl (by decide +kernel) rfl ?_
  refine aw_iload C 4 5 rfl (by decide +kernel) rfl ?_
  refine aw_aload_n C 0 1 (j := 0) rfl rfl (by decide +kernel) rfl ?_
  refine aw_getr C (k := 0) fc_11 (lc_0 E) rfl (by decide) tb_396 (by decide +kernel) rfl ?_
  refine aw_get C (k := 0) fc_9 (lc_1 E) rfl (by decide) tb_37 (by decide +kernel) rfl ?_
  refine aw_icmp_ge C (tgt := 111) (off := 19) (by decide +kernel) (by decide) rfl (fun c1 => ?_) (fun c1 => ?_)
  · have hf := ift c1 hf
    refine aw_iload C 4 5 rfl (by decide +kernel) rfl ?_
    refine aw_istore_n C [(3, .int v4), (5, .int s0), (0, .ref (gad G 0)), (1, .int v1), (2, .int v2), (4, .int v4)] (j := 3) rfl (by rw [hnL]; decide) rfl (by decide +kernel) rfl ?_
    obtain ⟨a2, ha2⟩ : ∃ z, z = (v4 + (1 : Int32)) := ⟨_, rfl⟩
    have hf := ilt ha2 hf
    refine aw_iinc C [(4, .int a2), (3, .int v4), (5, .int s0), (0, .ref (gad G 0)), (1, .int v1), (2, .int v2)] 5 (n := 1) rfl (by rw [ha2]; rfl) (by rw [hnL]; decide) rfl (by decide +kernel) rfl ?_
    refine aw_goto C (tgt := 46) (off := -71) (by decide +kernel) (by decide) ?_
    refine aw_sub [(0, .ref (gad G 0)), (1, .int v1), (2, .int v2), (3, .int v4), (4, .int a2)] [3, 4, 5, 1, 0] rfl ?_
    exact hk46 v1 v2 v4 a2 _ hf
  · have hf := iff_ c1 hf
    refine aw_aload_n C 0 1 (j := 0) rfl rfl (by decide +kernel) rfl ?_
    refine aw_getr C (k := 2) fc_11 (lc_0 E) rfl (by decide) tb_398 (by decide +kernel) rfl ?_
    refine aw_iconst C (i0 := 4) (v := 4) (by decide) (by decide +kernel) rfl ?_
    refine aw_iload C 4 5 rfl (by decide +kernel) rfl ?_
    refine aw_imul C (by decide +kernel) rfl ?_
    obtain ⟨q3, hq3, hf⟩ := ibd hf
    refine aw_callV C (rest := []) (c_Tape_intAt E ((4 : Int32) * v4) _ q3 hq3) tb_924 yf_137 yi_137 (lc_11 E) [.int ((4 : Int32) * v4)] rfl rfl _ rfl (Nat.le_trans (by decide) hgd) (Nat.le_of_ble_eq_true rfl) (by decide +kernel) rfl ?_
    show AW _ _ _ _ [.int q3.1]
    refine aw_iload C 5 0 rfl (by decide +kernel) rfl ?_
    refine aw_icmp_eq C (tgt := 114) (off := 6) (by decide +kernel) (by decide) rfl (fun c4 => ?_) (fun c4 => ?_)
    · have hf := ift c4 hf
      obtain ⟨a5, ha5⟩ : ∃ z, z = (v4 + (1 : Int32)) := ⟨_, rfl⟩
      have hf := ilt ha5 hf
      refine aw_iinc C [(4, .int a5), (5, .int s0), (0, .ref (gad G 0)), (1, .int v1), (2, .int v2), (3, .int v3)] 5 (n := 1) rfl (by rw [ha5]; rfl) (by rw [hnL]; decide) rfl (by decide +kernel) rfl ?_
      refine aw_goto C (tgt := 46) (off := -71) (by decide +kernel) (by decide) ?_
      refine aw_sub [(0, .ref (gad G 0)), (1, .int v1), (2, .int v2), (3, .int v3), (4, .int a5)] [2, 3, 4, 5, 0] rfl ?_
      exact hk46 v1 v2 v3 a5 _ hf
    · have hf := iff_ c4 hf
      refine aw_iload C 4 5 rfl (by decide +kernel) rfl ?_
      refine aw_istore_n C [(3, .int v4), (5, .int s0), (0, .ref (gad G 0)), (1, .int v1), (2, .int v2), (4, .int v4)] (j := 3) rfl (by rw [hnL]; decide) rfl (by decide +kernel) rfl ?_
      obtain ⟨a6, ha6⟩ : ∃ z, z = (v4 + (1 : Int32)) := ⟨_, rfl⟩
      have hf := ilt ha6 hf
      refine aw_iinc C [(4, .int a6), (3, .int v4), (5, .int s0), (0, .ref (gad G 0)), (1, .int v1), (2, .int v2)] 5 (n := 1) rfl (by rw [ha6]; rfl) (by rw [hnL]; decide) rfl (by decide +kernel) rfl ?_
      refine aw_goto C (tgt := 46) (off := -71) (by decide +kernel) (by decide) ?_
      refine aw_sub [(0, .ref (gad G 0)), (1, .int v1), (2, .int v2), (3, .int v4), (4, .int a6)] [3, 4, 5, 1, 0] rfl ?_
      exact hk46 v1 v2 v4 a6 _ hf
theorem t_x_check_46 {G : Cx} (C : CX G prog_1_method_30_code "PaperStars") (CR0 : CR G (Option.some FieldType.int)) (E : LCin (gly G)) (hnL : gnL G = 6) (hgd : 1 ≤ gd G) {q : Int32 × Mm} (hgr : gr G = some (.int q.1)) (hgs : gsf G = q.2) (k46 : Int32 → Int32 → Int32 → Int32 → Mm → Option (Int32 × Mm)) (hk46 : ∀ (v1 : Int32) (v2 : Int32) (v3 : Int32) (v4 : Int32) (st : Mm), k46 v1 v2 v3 v4 st = some q → AW G st 46 [(0, .ref (gad G 0)), (1, .int v1), (2, .int v2), (3, .int v3), (4, .int v4)] []) (v1 : Int32) (v2 : Int32) (v3 : Int32) (v4 : Int32) (st : Mm) (hf : b_x_check_46 k46 v1 v2 v3 v4 st = some q) : AW G st 46 [(0, .ref (gad G 0)), (1, .int v1), (2, .int v2), (3, .int v3), (4, .int v4)] [] := by
  unfold b_x_check_46 at hf
  refine aw_iload C 4 4 rfl (by decide +kernel) rfl ?_
  refine aw_iload_n C 2 2 (j := 2) rfl rfl (by decide +kernel) rfl ?_
  refine aw_icmp_ge C (tgt := 120) (off := 71) (by decide +kernel) (by decide) rfl (fun c1 => ?_) (fun c1 => ?_)
  · have hf := ift c1 hf
    refine aw_aload_n C 0 0 (j := 0) rfl rfl (by decide +kernel) rfl ?_
    refine aw_getr C (k := 2) fc_11 (lc_0 E) rfl (by decide) tb_398 (by decide +kernel) rfl ?_
    refine aw_iconst C (i0 := 0) (v := 0) (by decide) (by decide +kernel) rfl ?_
    refine aw_put C (k := 0) fc_10 (lc_11 E) rfl (by decide) rfl rfl tb_81 (by decide +kernel) rfl ?_
    refine aw_iload_n C 3 3 (j := 3) rfl rfl (by decide +kernel) rfl ?_
    exact aw_iretq C CR0 hgr hgs hf (by decide +kernel)
  · have hf := iff_ c1 hf
    refine aw_iload_n C 3 3 (j := 3) rfl rfl (by decide +kernel) rfl ?_
    refine aw_iconst C (i0 := -1) (v := -1) (by decide) (by decide +kernel) rfl ?_
    refine aw_icmp_ne C (tgt := 120) (off := 66) (by decide +kernel) (by decide) rfl (fun c2 => ?_) (fun c2 => ?_)
    · have hf := ift c2 hf
      refine aw_aload_n C 0 0 (j := 0) rfl rfl (by decide +kernel) rfl ?_
      refine aw_getr C (k := 6) fc_11 (lc_0 E) rfl (by decide) tb_402 (by decide +kernel) rfl ?_
      refine aw_getr C (k := 1) fc_6 (lc_30 E) rfl (by decide) tb_221 (by decide +kernel) rfl ?_
      refine aw_iload C 4 4 rfl (by decide +kernel) rfl ?_
      refine aw_iload_n C 1 1 (j := 1) rfl rfl (by decide +kernel) rfl ?_
      obtain ⟨q3, hq3, hf⟩ := ibd hf
      refine aw_callS C (rest := [.ref (gad G 31)]) (c_x_cellAt v4 v1 _ q3 hq3) tb_618 yf_22 tb_391 rfl _ rfl (Nat.le_trans (by decide) hgd) (Nat.le_of_ble_eq_true rfl) (by decide +kernel) rfl ?_
      show AW _ _ _ _ [.int q3.1, .ref (gad G 31)]
      obtain ⟨q4, hq4, hf⟩ := ibd hf
      refine aw_callS C (rest := []) (c_x_hasBit 31 (lc_31 E) q3.1 _ q4 hq4) tb_393 yf_23 tb_394 rfl _ rfl (Nat.le_trans (by decide) hgd) (Nat.le_of_ble_eq_true rfl) (by decide +kernel) rfl ?_
      show AW _ _ _ _ [.int q4.1]
      refine aw_if_eq C (tgt := 80) (off := 7) (by decide +kernel) (by decide) rfl (fun c5 => ?_) (fun c5 => ?_)
      · have hf := ift c5 hf
        refine aw_iconst C (i0 := 0) (v := 0) (by decide) (by decide +kernel) rfl ?_
        exact t_x_check_81 C CR0 E hnL hgd hgr hgs k46 hk46 v1 v2 v3 v4 (0 : Int32) _ hf
      · have hf := iff_ c5 hf
        refine aw_iconst C (i0 := 1) (v := 1) (by decide) (by decide +kernel) rfl ?_
        refine aw_goto C (tgt := 81) (off := 4) (by decide +kernel) (by decide) ?_
        exact t_x_check_81 C CR0 E hnL hgd hgr hgs k46 hk46 v1 v2 v3 v4 (1 : Int32) _ hf
    · have hf := iff_ c2 hf
      refine aw_aload_n C 0 0 (j := 0) rfl rfl (by decide +kernel) rfl ?_
      refine aw_getr C (k := 2) fc_11 (lc_0 E) rfl (by decide) tb_398 (by decide +kernel) rfl ?_
      refine aw_iconst C (i0 := 0) (v := 0) (by decide) (by decide +kernel) rfl ?_
      refine aw_put C (k := 0) fc_10 (lc_11 E) rfl (by decide) rfl rfl tb_81 (by decide +kernel) rfl ?_
      refine aw_iload_n C 3 3 (j := 3) rfl rfl (by decide +kernel) rfl ?_
      exact aw_iretq C CR0 hgr hgs hf (by decide +kernel)
theorem u_x_check_46 {G : Cx} (C : CX G prog_1_method_30_code "PaperStars") (CR0 : CR G (Option.some FieldType.int)) (E : LCin (gly G)) (hnL : gnL G = 6) (hgd : 1 ≤ gd G) {q : Int32 × Mm} (hgr : gr G = some (.int q.1)) (hgs : gsf G = q.2) : ∀ (n : Nat) (v1 : Int32) (v2 : Int32) (v3 : Int32) (v4 : Int32) (st : Mm), f_x_check_46 n v1 v2 v3 v4 st = some q → AW G st 46 [(0, .ref (gad G 0)), (1, .int v1), (2, .int v2), (3, .int v3), (4, .int v4)] [] := by
  intro n
  induction n with
  | zero => intro v1 v2 v3 v4 st hf; cases hf
  | succ n ih => intro v1 v2 v3 v4 st hf; exact t_x_check_46 C CR0 E hnL hgd hgr hgs (f_x_check_46 n) ih v1 v2 v3 v4 st hf
theorem t_x_check {G : Cx} (C : CX G prog_1_method_30_code "PaperStars") (CR0 : CR G (Option.some FieldType.int)) (E : LCin (gly G)) (hnL : gnL G = 6) (hgd : 1 ≤ gd G) {q : Int32 × Mm} (hgr : gr G = some (.int q.1)) (hgs : gsf G = q.2) (v1 : Int32) (v2 : Int32) (st : Mm) (hf : f_x_check v1 v2 st = some q) : AW G st 0 [(0, .ref (gad G 0)), (1, .int v1), (2, .int v2)] [] := by
  unfold f_x_check at hf
  refine aw_iload_n C 1 1 (j := 1) rfl rfl (by decide +kernel) rfl ?_
  refine aw_if_lt C (tgt := 38) (off := 37) (by decide +kernel) (by decide) rfl (fun c1 => ?_) (fun c1 => ?_)
  · have hf := ift c1 hf
    refine aw_bipush C (i0 := -2) (v := -2) (by decide) (by decide +kernel) rfl ?_
    exact aw_iretq C CR0 hgr hgs hf (by decide +kernel)
  · have hf := iff_ c1 hf
    refine aw_iload_n C 1 1 (j := 1) rfl rfl (by decide +kernel) rfl ?_
    refine aw_aload_n C 0 0 (j := 0) rfl rfl (by decide +kernel) rfl ?_
    refine aw_getr C (k := 0) fc_11 (lc_0 E) rfl (by decide) tb_396 (by decide +kernel) rfl ?_
    refine aw_get C (k := 0) fc_9 (lc_1 E) rfl (by decide) tb_37 (by decide +kernel) rfl ?_
    refine aw_icmp_ge C (tgt := 38) (off := 26) (by decide +kernel) (by decide) rfl (fun c2 => ?_) (fun c2 => ?_)
    · have hf := ift c2 hf
      refine aw_bipush C (i0 := -2) (v := -2) (by decide) (by decide +kernel) rfl ?_
      exact aw_iretq C CR0 hgr hgs hf (by decide +kernel)
    · have hf := iff_ c2 hf
      refine aw_iload_n C 2 2 (j := 2) rfl rfl (by decide +kernel) rfl ?_
      refine aw_if_lt C (tgt := 38) (off := 22) (by decide +kernel) (by decide) rfl (fun c3 => ?_) (fun c3 => ?_)
      · have hf := ift c3 hf
        refine aw_bipush C (i0 := -2) (v := -2) (by decide) (by decide +kernel) rfl ?_
        exact aw_iretq C CR0 hgr hgs hf (by decide +kernel)
      · have hf := iff_ c3 hf
        refine aw_iload_n C 2 2 (j := 2) rfl rfl (by decide +kernel) rfl ?_
        refine aw_bipush C (i0 := 16) (v := 16) (by decide) (by decide +kernel) rfl ?_
        refine aw_icmp_gt C (tgt := 38) (off := 16) (by decide +kernel) (by decide) rfl (fun c4 => ?_) (fun c4 => ?_)
        · have hf := ift c4 hf
          refine aw_bipush C (i0 := -2) (v := -2) (by decide) (by decide +kernel) rfl ?_
          exact aw_iretq C CR0 hgr hgs hf (by decide +kernel)
        · have hf := iff_ c4 hf
          refine aw_iconst C (i0 := 4) (v := 4) (by decide) (by decide +kernel) rfl ?_
          refine aw_iload_n C 2 2 (j := 2) rfl rfl (by decide +kernel) rfl ?_
          refine aw_imul C (by decide +kernel) rfl ?_
          refine aw_aload_n C 0 0 (j := 0) rfl rfl (by decide +kernel) rfl ?_
          refine aw_getr C (k := 2) fc_11 (lc_0 E) rfl (by decide) tb_398 (by decide +kernel) rfl ?_
          refine aw_get C (k := 0) fc_10 (lc_11 E) rfl (by decide) tb_81 (by decide +kernel) rfl ?_
          refine aw_icmp_le C (tgt := 41) (off := 6) (by decide +kernel) (by decide) rfl (fun c5 => ?_) (fun c5 => ?_)
          · have hf := ift c5 hf
            refine aw_iconst C (i0 := -1) (v := -1) (by decide) (by decide +kernel) rfl ?_
            refine aw_istore_n C [(3, .int (-1 : Int32)), (0, .ref (gad G 0)), (1, .int v1), (2, .int v2)] (j := 3) rfl (by rw [hnL]; decide) rfl (by decide +kernel) rfl ?_
            refine aw_iconst C (i0 := 0) (v := 0) (by decide) (by decide +kernel) rfl ?_
            refine aw_istore C [(4, .int (0 : Int32)), (3, .int (-1 : Int32)), (0, .ref (gad G 0)), (1, .int v1), (2, .int v2)] (by rw [hnL]; decide) rfl (by decide +kernel) rfl ?_
            refine aw_sub [(0, .ref (gad G 0)), (1, .int v1), (2, .int v2), (3, .int (-1 : Int32)), (4, .int (0 : Int32))] [2, 3, 4, 1, 0] rfl ?_
            exact u_x_check_46 C CR0 E hnL hgd hgr hgs _ v1 v2 (-1 : Int32) (0 : Int32) _ hf
          · have hf := iff_ c5 hf
            refine aw_bipush C (i0 := -2) (v := -2) (by decide) (by decide +kernel) rfl ?_
            exact aw_iretq C CR0 hgr hgs hf (by decide +kernel)
theorem c_x_check {lay : Ly} (E : LCin lay) (v1 : Int32) (v2 : Int32) (st : Mm) (q : Int32 × Mm) (hf : f_x_check v1 v2 st = some q) : Con 1 Y136 prog_1_method_30_code 6 (Option.some FieldType.int) lay (fun ad => [.ref (ad 0), .int v1, .int v2]) st (some (.int q.1)) q.2 :=
  am_met yf_136.2.2.2.2.2 (fun ad => Nat.le_of_ble_eq_true rfl) (fun G C CR0 e1 e2 e3 e4 e5 => t_x_check C CR0 (by rw [e1]; exact E) e2 (Nat.le_of_eq e5.symm) e3 e4 v1 v2 st hf)
def b_x_count_33 (v1 : Int32) (st : Mm) : Option (Int32 × Mm) :=
  if v1 = 0 then (some ((st.1 1 0), st)) else (if v1 = 1 then (some ((st.1 1 2), st)) else (if v1 = 2 then (some ((st.1 1 3), st)) else (if v1 = 3 then (some ((st.1 11 0), st)) else (if v1 = 4 then (some ((st.1 1 1), st)) else (if v1 = 5 then ((f_x_bitsOf 5 st).bind (fun q7 => some (q7.1, q7.2))) else (if v1 = 6 then ((f_x_bitsOf 4 st).bind (fun q9 => some (q9.1, q9.2))) else (some ((-1 : Int32), st))))))))
def f_x_count (v1 : Int32) (st : Mm) : Option (Int32 × Mm) :=
  if v1 < (20 : Int32) then (b_x_count_33 v1 st) else (if ((20 : Int32) + (st.1 1 0)) ≤ v1 then (b_x_count_33 v1 st) else (if inb (v1 - (20 : Int32)) 16 then some ((st.1 4 (v1 - (20 : Int32)).toNatClampNeg), st) else none))
theorem t_x_count_33 {G : Cx} (C : CX G prog_1_method_31_code "PaperStars") (CR0 : CR G (Option.some FieldType.int)) (E : LCin (gly G)) (hnL : gnL G = 2) (hgd : 2 ≤ gd G) {q : Int32 × Mm} (hgr : gr G = some (.int q.1)) (hgs : gsf G = q.2) (v1 : Int32) (st : Mm) (hf : b_x_count_33 v1 st = some q) : AW G st 33 [(0, .ref (gad G 0)), (1, .int v1)] [] := by
  unfold b_x_count_33 at hf
  refine aw_iload_n C 1 1 (j := 1) rfl rfl (by decide +kernel) rfl ?_
  by_cases w1 : v1 = 0
  · have hf := ift w1 hf
    refine aw_tin C (tgt := 76) (off := 42) (dflt := 104) (lo := 0) (hi := 6) (offs := #[42, 50, 58, 66, 74, 82, 93]) (len := 42) (by decide +kernel) (by rw [w1]; decide) (by rw [w1]; decide) (by rw [w1]; decide) (by decide) ?_
    refine aw_aload_n C 0 0 (j := 0) rfl rfl (by decide +kernel) rfl ?_
    refine aw_getr C (k := 0) fc_11 (lc_0 E) rfl (by decide) tb_396 (by decide +kernel) rfl ?_
    refine aw_get C (k := 0) fc_9 (lc_1 E) rfl (by decide) tb_37 (by decide +kernel) rfl ?_
    exact aw_iretq C CR0 hgr hgs hf (by decide +kernel)
  · have hf := iff_ w1 hf
    by_cases w2 : v1 = 1
    · have hf := ift w2 hf
      refine aw_tin C (tgt := 84) (off := 50) (dflt := 104) (lo := 0) (hi := 6) (offs := #[42, 50, 58, 66, 74, 82, 93]) (len := 42) (by decide +kernel) (by rw [w2]; decide) (by rw [w2]; decide) (by rw [w2]; decide) (by decide) ?_
      refine aw_aload_n C 0 0 (j := 0) rfl rfl (by decide +kernel) rfl ?_
      refine aw_getr C (k := 0) fc_11 (lc_0 E) rfl (by decide) tb_396 (by decide +kernel) rfl ?_
      refine aw_get C (k := 2) fc_9 (lc_1 E) rfl (by decide) tb_42 (by decide +kernel) rfl ?_
      exact aw_iretq C CR0 hgr hgs hf (by decide +kernel)
    · have hf := iff_ w2 hf
      by_cases w3 : v1 = 2
      · have hf := ift w3 hf
        refine aw_tin C (tgt := 92) (off := 58) (dflt := 104) (lo := 0) (hi := 6) (offs := #[42, 50, 58, 66, 74, 82, 93]) (len := 42) (by decide +kernel) (by rw [w3]; decide) (by rw [w3]; decide) (by rw [w3]; decide) (by decide) ?_
        refine aw_aload_n C 0 0 (j := 0) rfl rfl (by decide +kernel) rfl ?_
        refine aw_getr C (k := 0) fc_11 (lc_0 E) rfl (by decide) tb_396 (by decide +kernel) rfl ?_
        refine aw_get C (k := 3) fc_9 (lc_1 E) rfl (by decide) tb_45 (by decide +kernel) rfl ?_
        exact aw_iretq C CR0 hgr hgs hf (by decide +kernel)
      · have hf := iff_ w3 hf
        by_cases w4 : v1 = 3
        · have hf := ift w4 hf
          refine aw_tin C (tgt := 100) (off := 66) (dflt := 104) (lo := 0) (hi := 6) (offs := #[42, 50, 58, 66, 74, 82, 93]) (len := 42) (by decide +kernel) (by rw [w4]; decide) (by rw [w4]; decide) (by rw [w4]; decide) (by decide) ?_
          refine aw_aload_n C 0 0 (j := 0) rfl rfl (by decide +kernel) rfl ?_
          refine aw_getr C (k := 2) fc_11 (lc_0 E) rfl (by decide) tb_398 (by decide +kernel) rfl ?_
          refine aw_get C (k := 0) fc_10 (lc_11 E) rfl (by decide) tb_81 (by decide +kernel) rfl ?_
          exact aw_iretq C CR0 hgr hgs hf (by decide +kernel)
        · have hf := iff_ w4 hf
          by_cases w5 : v1 = 4
          · have hf := ift w5 hf
            refine aw_tin C (tgt := 108) (off := 74) (dflt := 104) (lo := 0) (hi := 6) (offs := #[42, 50, 58, 66, 74, 82, 93]) (len := 42) (by decide +kernel) (by rw [w5]; decide) (by rw [w5]; decide) (by rw [w5]; decide) (by decide) ?_
            refine aw_aload_n C 0 0 (j := 0) rfl rfl (by decide +kernel) rfl ?_
            refine aw_getr C (k := 0) fc_11 (lc_0 E) rfl (by decide) tb_396 (by decide +kernel) rfl ?_
            refine aw_get C (k := 1) fc_9 (lc_1 E) rfl (by decide) tb_39 (by decide +kernel) rfl ?_
            exact aw_iretq C CR0 hgr hgs hf (by decide +kernel)
          · have hf := iff_ w5 hf
            by_cases w6 : v1 = 5
            · have hf := ift w6 hf
              refine aw_tin C (tgt := 116) (off := 82) (dflt := 104) (lo := 0) (hi := 6) (offs := #[42, 50, 58, 66, 74, 82, 93]) (len := 42) (by decide +kernel) (by rw [w6]; decide) (by rw [w6]; decide) (by rw [w6]; decide) (by decide) ?_
              refine aw_aload_n C 0 0 (j := 0) rfl rfl (by decide +kernel) rfl ?_
              refine aw_getr C (k := 0) fc_11 (lc_0 E) rfl (by decide) tb_396 (by decide +kernel) rfl ?_
              refine aw_getr C (k := 7) fc_9 (lc_1 E) rfl (by decide) tb_55 (by decide +kernel) rfl ?_
              obtain ⟨q7, hq7, hf⟩ := ibd hf
              refine aw_callS C (rest := []) (c_x_bitsOf 5 (lc_5 E) _ q7 hq7) tb_599 yf_63 tb_600 rfl _ rfl (Nat.le_trans (by decide) hgd) (Nat.le_of_ble_eq_true rfl) (by decide +kernel) rfl ?_
              show AW _ _ _ _ [.int q7.1]
              exact aw_iretq C CR0 hgr hgs hf (by decide +kernel)
            · have hf := iff_ w6 hf
              by_cases w8 : v1 = 6
              · have hf := ift w8 hf
                refine aw_tin C (tgt := 127) (off := 93) (dflt := 104) (lo := 0) (hi := 6) (offs := #[42, 50, 58, 66, 74, 82, 93]) (len := 42) (by decide +kernel) (by rw [w8]; decide) (by rw [w8]; decide) (by rw [w8]; decide) (by decide) ?_
                refine aw_aload_n C 0 0 (j := 0) rfl rfl (by decide +kernel) rfl ?_
                refine aw_getr C (k := 0) fc_11 (lc_0 E) rfl (by decide) tb_396 (by decide +kernel) rfl ?_
                refine aw_getr C (k := 6) fc_9 (lc_1 E) rfl (by decide) tb_53 (by decide +kernel) rfl ?_
                obtain ⟨q9, hq9, hf⟩ := ibd hf
                refine aw_callS C (rest := []) (c_x_bitsOf 4 (lc_4 E) _ q9 hq9) tb_599 yf_63 tb_600 rfl _ rfl (Nat.le_trans (by decide) hgd) (Nat.le_of_ble_eq_true rfl) (by decide +kernel) rfl ?_
                show AW _ _ _ _ [.int q9.1]
                exact aw_iretq C CR0 hgr hgs hf (by decide +kernel)
              · have hf := iff_ w8 hf
                have zw1 := am_ne w1 (k := 0) (by decide)
                have zw2 := am_ne w2 (k := 1) (by decide)
                have zw3 := am_ne w3 (k := 2) (by decide)
                have zw4 := am_ne w4 (k := 3) (by decide)
                have zw5 := am_ne w5 (k := 4) (by decide)
                have zw6 := am_ne w6 (k := 5) (by decide)
                have zw8 := am_ne w8 (k := 6) (by decide)
                refine aw_tout C (tgt := 138) (dflt := 104) (lo := 0) (hi := 6) (offs := #[42, 50, 58, 66, 74, 82, 93]) (len := 42) (by decide +kernel) (by omega) (by decide) ?_
                refine aw_iconst C (i0 := -1) (v := -1) (by decide) (by decide +kernel) rfl ?_
                exact aw_iretq C CR0 hgr hgs hf (by decide +kernel)
theorem t_x_count {G : Cx} (C : CX G prog_1_method_31_code "PaperStars") (CR0 : CR G (Option.some FieldType.int)) (E : LCin (gly G)) (hnL : gnL G = 2) (hgd : 2 ≤ gd G) {q : Int32 × Mm} (hgr : gr G = some (.int q.1)) (hgs : gsf G = q.2) (v1 : Int32) (st : Mm) (hf : f_x_count v1 st = some q) : AW G st 0 [(0, .ref (gad G 0)), (1, .int v1)] [] := by
  unfold f_x_count at hf
  refine aw_iload_n C 1 1 (j := 1) rfl rfl (by decide +kernel) rfl ?_
  refine aw_bipush C (i0 := 20) (v := 20) (by decide) (by decide +kernel) rfl ?_
  refine aw_icmp_lt C (tgt := 33) (off := 30) (by decide +kernel) (by decide) rfl (fun c1 => ?_) (fun c1 => ?_)
  · have hf := ift c1 hf
    exact t_x_count_33 C CR0 E hnL hgd hgr hgs v1 _ hf
  · have hf := iff_ c1 hf
    refine aw_iload_n C 1 1 (j := 1) rfl rfl (by decide +kernel) rfl ?_
    refine aw_bipush C (i0 := 20) (v := 20) (by decide) (by decide +kernel) rfl ?_
    refine aw_aload_n C 0 0 (j := 0) rfl rfl (by decide +kernel) rfl ?_
    refine aw_getr C (k := 0) fc_11 (lc_0 E) rfl (by decide) tb_396 (by decide +kernel) rfl ?_
    refine aw_get C (k := 0) fc_9 (lc_1 E) rfl (by decide) tb_37 (by decide +kernel) rfl ?_
    refine aw_iadd C (by decide +kernel) rfl ?_
    refine aw_icmp_ge C (tgt := 33) (off := 16) (by decide +kernel) (by decide) rfl (fun c2 => ?_) (fun c2 => ?_)
    · have hf := ift c2 hf
      exact t_x_count_33 C CR0 E hnL hgd hgr hgs v1 _ hf
    · have hf := iff_ c2 hf
      refine aw_aload_n C 0 0 (j := 0) rfl rfl (by decide +kernel) rfl ?_
      refine aw_getr C (k := 0) fc_11 (lc_0 E) rfl (by decide) tb_396 (by decide +kernel) rfl ?_
      refine aw_getr C (k := 6) fc_9 (lc_1 E) rfl (by decide) tb_53 (by decide +kernel) rfl ?_
      refine aw_iload_n C 1 1 (j := 1) rfl rfl (by decide +kernel) rfl ?_
      refine aw_bipush C (i0 := 20) (v := 20) (by decide) (by decide +kernel) rfl ?_
      refine aw_isub C (by decide +kernel) rfl ?_
      obtain ⟨g3, hf⟩ := igd hf
      refine aw_iald C (lc_4 E) g3 (by decide +kernel) rfl ?_
      exact aw_iretq C CR0 hgr hgs hf (by decide +kernel)
theorem c_x_count {lay : Ly} (E : LCin lay) (v1 : Int32) (st : Mm) (q : Int32 × Mm) (hf : f_x_count v1 st = some q) : Con 2 Y138 prog_1_method_31_code 2 (Option.some FieldType.int) lay (fun ad => [.ref (ad 0), .int v1]) st (some (.int q.1)) q.2 :=
  am_met yf_138.2.2.2.2.2 (fun ad => Nat.le_of_ble_eq_true rfl) (fun G C CR0 e1 e2 e3 e4 e5 => t_x_count C CR0 (by rw [e1]; exact E) e2 (Nat.le_of_eq e5.symm) e3 e4 v1 st hf)
