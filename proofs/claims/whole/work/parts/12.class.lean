def b_Tab_begin_17 (t0 t1 t2 t3 t4 : Nat) (k17 : Int32 → Int32 → Mm → Option (Unit × Mm)) (v1 : Int32) (v2 : Int32) (st : Mm) : Option (Unit × Mm) :=
  if (16 : Int32) ≤ v2 then (some ((), st)) else (if inb v2 16 then if inb v2 16 then if v1 ≤ v2 then (if inb v2 16 then lt_ (v2 + (1 : Int32)) (fun a6 => k17 v1 a6 (sI (sI (sI st t2 v2.toNatClampNeg (0 : Int32)) t4 v2.toNatClampNeg (0 : Int32)) t3 v2.toNatClampNeg (0 : Int32))) else none) else (lt_ (((1 : Int32) <<< (v1 &&& 31)) - (1 : Int32)) (fun a7 => if inb v2 16 then lt_ (v2 + (1 : Int32)) (fun a9 => k17 v1 a9 (sI (sI (sI st t2 v2.toNatClampNeg (0 : Int32)) t4 v2.toNatClampNeg (0 : Int32)) t3 v2.toNatClampNeg a7)) else none)) else none else none)
def f_Tab_begin_17 (t0 t1 t2 t3 t4 : Nat) : Nat → Int32 → Int32 → Mm → Option (Unit × Mm)
  | 0 => fun _ _ _ => none
  | n + 1 => b_Tab_begin_17 t0 t1 t2 t3 t4 (f_Tab_begin_17 t0 t1 t2 t3 t4 n)
def f_Tab_begin (t0 t1 t2 t3 t4 : Nat) (v1 : Int32) (st : Mm) : Option (Unit × Mm) :=
  f_Tab_begin_17 t0 t1 t2 t3 t4 1000000 v1 (0 : Int32) (sI (sI (sI st t0 0 v1) t0 2 (0 : Int32)) t0 3 (0 : Int32))
theorem t_Tab_begin_17 {G : Cx} (C : CX G prog_11_method_2_code "PaperStars$Table") (CR0 : CR G (Option.none)) (t0 t1 t2 t3 t4 : Nat) (Et : TabAt (gly G) t0 t1 t2 t3 t4) (hnL : gnL G = 3) (hgd : 0 ≤ gd G) {q : Unit × Mm} (hgr : gr G = none) (hgs : gsf G = q.2) (k17 : Int32 → Int32 → Mm → Option (Unit × Mm)) (hk17 : ∀ (v1 : Int32) (v2 : Int32) (st : Mm), k17 v1 v2 st = some q → AW G st 17 [(0, .ref (gad G t0)), (1, .int v1), (2, .int v2)] []) (v1 : Int32) (v2 : Int32) (st : Mm) (hf : b_Tab_begin_17 t0 t1 t2 t3 t4 k17 v1 v2 st = some q) : AW G st 17 [(0, .ref (gad G t0)), (1, .int v1), (2, .int v2)] [] := by
  unfold b_Tab_begin_17 at hf
  refine aw_iload_n C 2 2 (j := 2) rfl rfl (by decide +kernel) rfl ?_
  refine aw_bipush C (i0 := 16) (v := 16) (by decide) (by decide +kernel) rfl ?_
  refine aw_icmp_ge C (tgt := 63) (off := 43) (by decide +kernel) (by decide) rfl (fun c1 => ?_) (fun c1 => ?_)
  · have hf := ift c1 hf
    exact aw_vretq C CR0 hgr hgs hf (by decide +kernel)
  · have hf := iff_ c1 hf
    refine aw_aload_n C 0 0 (j := 0) rfl rfl (by decide +kernel) rfl ?_
    refine aw_getr C (k := 5) fc_9 Et.1 rfl (by decide) tb_49 (by decide +kernel) rfl ?_
    refine aw_iload_n C 2 2 (j := 2) rfl rfl (by decide +kernel) rfl ?_
    refine aw_iconst C (i0 := 0) (v := 0) (by decide) (by decide +kernel) rfl ?_
    obtain ⟨g2, hf⟩ := igd hf
    refine aw_iast C Et.2.2.1 g2 (by decide +kernel) rfl ?_
    refine aw_aload_n C 0 0 (j := 0) rfl rfl (by decide +kernel) rfl ?_
    refine aw_getr C (k := 7) fc_9 Et.1 rfl (by decide) tb_54 (by decide +kernel) rfl ?_
    refine aw_iload_n C 2 2 (j := 2) rfl rfl (by decide +kernel) rfl ?_
    refine aw_iconst C (i0 := 0) (v := 0) (by decide) (by decide +kernel) rfl ?_
    obtain ⟨g3, hf⟩ := igd hf
    refine aw_iast C Et.2.2.2.2 g3 (by decide +kernel) rfl ?_
    refine aw_aload_n C 0 0 (j := 0) rfl rfl (by decide +kernel) rfl ?_
    refine aw_getr C (k := 6) fc_9 Et.1 rfl (by decide) tb_52 (by decide +kernel) rfl ?_
    refine aw_iload_n C 2 2 (j := 2) rfl rfl (by decide +kernel) rfl ?_
    refine aw_iload_n C 2 2 (j := 2) rfl rfl (by decide +kernel) rfl ?_
    refine aw_iload_n C 1 1 (j := 1) rfl rfl (by decide +kernel) rfl ?_
    refine aw_icmp_ge C (tgt := 55) (off := 11) (by decide +kernel) (by decide) rfl (fun c4 => ?_) (fun c4 => ?_)
    · have hf := ift c4 hf
      refine aw_iconst C (i0 := 0) (v := 0) (by decide) (by decide +kernel) rfl ?_
      obtain ⟨g5, hf⟩ := igd hf
      refine aw_iast C Et.2.2.2.1 g5 (by decide +kernel) rfl ?_
      obtain ⟨a6, ha6⟩ : ∃ z, z = (v2 + (1 : Int32)) := ⟨_, rfl⟩
      have hf := ilt ha6 hf
      refine aw_iinc C [(2, .int a6), (0, .ref (gad G t0)), (1, .int v1)] 2 (n := 1) rfl (by rw [ha6]; rfl) (by rw [hnL]; decide) rfl (by decide +kernel) rfl ?_
      refine aw_goto C (tgt := 17) (off := -43) (by decide +kernel) (by decide) ?_
      refine aw_sub [(0, .ref (gad G t0)), (1, .int v1), (2, .int a6)] [1, 2, 0] rfl ?_
      exact hk17 v1 a6 _ hf
    · have hf := iff_ c4 hf
      refine aw_iconst C (i0 := 1) (v := 1) (by decide) (by decide +kernel) rfl ?_
      refine aw_iload_n C 1 1 (j := 1) rfl rfl (by decide +kernel) rfl ?_
      refine aw_ishl C (by decide +kernel) rfl ?_
      refine aw_iconst C (i0 := 1) (v := 1) (by decide) (by decide +kernel) rfl ?_
      refine aw_isub C (by decide +kernel) rfl ?_
      refine aw_goto C (tgt := 56) (off := 4) (by decide +kernel) (by decide) ?_
      obtain ⟨a7, ha7⟩ : ∃ z, z = (((1 : Int32) <<< (v1 &&& 31)) - (1 : Int32)) := ⟨_, rfl⟩
      refine aw_nmi ha7 ?_
      have hf := ilt ha7 hf
      obtain ⟨g8, hf⟩ := igd hf
      refine aw_iast C Et.2.2.2.1 g8 (by decide +kernel) rfl ?_
      obtain ⟨a9, ha9⟩ : ∃ z, z = (v2 + (1 : Int32)) := ⟨_, rfl⟩
      have hf := ilt ha9 hf
      refine aw_iinc C [(2, .int a9), (0, .ref (gad G t0)), (1, .int v1)] 2 (n := 1) rfl (by rw [ha9]; rfl) (by rw [hnL]; decide) rfl (by decide +kernel) rfl ?_
      refine aw_goto C (tgt := 17) (off := -43) (by decide +kernel) (by decide) ?_
      refine aw_sub [(0, .ref (gad G t0)), (1, .int v1), (2, .int a9)] [1, 2, 0] rfl ?_
      exact hk17 v1 a9 _ hf
theorem u_Tab_begin_17 {G : Cx} (C : CX G prog_11_method_2_code "PaperStars$Table") (CR0 : CR G (Option.none)) (t0 t1 t2 t3 t4 : Nat) (Et : TabAt (gly G) t0 t1 t2 t3 t4) (hnL : gnL G = 3) (hgd : 0 ≤ gd G) {q : Unit × Mm} (hgr : gr G = none) (hgs : gsf G = q.2) : ∀ (n : Nat) (v1 : Int32) (v2 : Int32) (st : Mm), f_Tab_begin_17 t0 t1 t2 t3 t4 n v1 v2 st = some q → AW G st 17 [(0, .ref (gad G t0)), (1, .int v1), (2, .int v2)] [] := by
  intro n
  induction n with
  | zero => intro v1 v2 st hf; cases hf
  | succ n ih => intro v1 v2 st hf; exact t_Tab_begin_17 C CR0 t0 t1 t2 t3 t4 Et hnL hgd hgr hgs (f_Tab_begin_17 t0 t1 t2 t3 t4 n) ih v1 v2 st hf
theorem t_Tab_begin {G : Cx} (C : CX G prog_11_method_2_code "PaperStars$Table") (CR0 : CR G (Option.none)) (t0 t1 t2 t3 t4 : Nat) (Et : TabAt (gly G) t0 t1 t2 t3 t4) (hnL : gnL G = 3) (hgd : 0 ≤ gd G) {q : Unit × Mm} (hgr : gr G = none) (hgs : gsf G = q.2) (v1 : Int32) (st : Mm) (hf : f_Tab_begin t0 t1 t2 t3 t4 v1 st = some q) : AW G st 0 [(0, .ref (gad G t0)), (1, .int v1)] [] := by
  unfold f_Tab_begin at hf
  refine aw_aload_n C 0 0 (j := 0) rfl rfl (by decide +kernel) rfl ?_
  refine aw_iload_n C 1 1 (j := 1) rfl rfl (by decide +kernel) rfl ?_
  refine aw_put C (k := 0) fc_9 Et.1 rfl (by decide) rfl rfl tb_36 (by decide +kernel) rfl ?_
  refine aw_aload_n C 0 0 (j := 0) rfl rfl (by decide +kernel) rfl ?_
  refine aw_iconst C (i0 := 0) (v := 0) (by decide) (by decide +kernel) rfl ?_
  refine aw_put C (k := 2) fc_9 Et.1 rfl (by decide) rfl rfl tb_40 (by decide +kernel) rfl ?_
  refine aw_aload_n C 0 0 (j := 0) rfl rfl (by decide +kernel) rfl ?_
  refine aw_iconst C (i0 := 0) (v := 0) (by decide) (by decide +kernel) rfl ?_
  refine aw_put C (k := 3) fc_9 Et.1 rfl (by decide) rfl rfl tb_43 (by decide +kernel) rfl ?_
  refine aw_iconst C (i0 := 0) (v := 0) (by decide) (by decide +kernel) rfl ?_
  refine aw_istore_n C [(2, .int (0 : Int32)), (0, .ref (gad G t0)), (1, .int v1)] (j := 2) rfl (by rw [hnL]; decide) rfl (by decide +kernel) rfl ?_
  refine aw_sub [(0, .ref (gad G t0)), (1, .int v1), (2, .int (0 : Int32))] [1, 2, 0] rfl ?_
  exact u_Tab_begin_17 C CR0 t0 t1 t2 t3 t4 Et hnL hgd hgr hgs _ v1 (0 : Int32) _ hf
theorem c_Tab_begin {lay : Ly} (t0 t1 t2 t3 t4 : Nat) (Et : TabAt lay t0 t1 t2 t3 t4) (v1 : Int32) (st : Mm) (q : Unit × Mm) (hf : f_Tab_begin t0 t1 t2 t3 t4 v1 st = some q) : Con 0 Y3 prog_11_method_2_code 3 (Option.none) lay (fun ad => [.ref (ad t0), .int v1]) st (none) q.2 :=
  am_met yf_3.2.2.2.2.2 (fun ad => Nat.le_of_ble_eq_true rfl) (fun G C CR0 e1 e2 e3 e4 e5 => t_Tab_begin C CR0 t0 t1 t2 t3 t4 (by rw [e1]; exact Et) e2 (Nat.le_of_eq e5.symm) e3 e4 v1 st hf)
def f_Fold_holds (f0 f1 f2 : Nat) (v1 : Int32) (v2 : Int32) (st : Mm) : Option (Int32 × Mm) :=
  if v1 < 0 then (some ((0 : Int32), st)) else (if (st.1 f0 1) ≤ v1 then (some ((0 : Int32), st)) else (if v2 < 0 then (some ((0 : Int32), st)) else (if (st.1 f0 2) ≤ v2 then (some ((0 : Int32), st)) else (if (st.1 f0 3) = 0 then (some ((1 : Int32), st)) else (if v1 < v2 then (some ((0 : Int32), st)) else (some ((1 : Int32), st)))))))
theorem t_Fold_holds {G : Cx} (C : CX G prog_5_method_5_code "PaperStars$Folding") (CR0 : CR G (Option.some FieldType.boolean)) (f0 f1 f2 : Nat) (Ef : FoldAt (gly G) f0 f1 f2) (hnL : gnL G = 3) (hgd : 0 ≤ gd G) {q : Int32 × Mm} (hgr : gr G = some (.int q.1)) (hgs : gsf G = q.2) (v1 : Int32) (v2 : Int32) (st : Mm) (hf : f_Fold_holds f0 f1 f2 v1 v2 st = some q) : AW G st 0 [(0, .ref (gad G f0)), (1, .int v1), (2, .int v2)] [] := by
  unfold f_Fold_holds at hf
  refine aw_iload_n C 1 1 (j := 1) rfl rfl (by decide +kernel) rfl ?_
  refine aw_if_lt C (tgt := 40) (off := 39) (by decide +kernel) (by decide) rfl (fun c1 => ?_) (fun c1 => ?_)
  · have hf := ift c1 hf
    refine aw_iconst C (i0 := 0) (v := 0) (by decide) (by decide +kernel) rfl ?_
    exact aw_zretq C CR0 hgr hgs (by decide) hf (by decide +kernel)
  · have hf := iff_ c1 hf
    refine aw_iload_n C 1 1 (j := 1) rfl rfl (by decide +kernel) rfl ?_
    refine aw_aload_n C 0 0 (j := 0) rfl rfl (by decide +kernel) rfl ?_
    refine aw_get C (k := 1) fc_3 Ef.1 rfl (by decide) tb_105 (by decide +kernel) rfl ?_
    refine aw_icmp_ge C (tgt := 40) (off := 31) (by decide +kernel) (by decide) rfl (fun c2 => ?_) (fun c2 => ?_)
    · have hf := ift c2 hf
      refine aw_iconst C (i0 := 0) (v := 0) (by decide) (by decide +kernel) rfl ?_
      exact aw_zretq C CR0 hgr hgs (by decide) hf (by decide +kernel)
    · have hf := iff_ c2 hf
      refine aw_iload_n C 2 2 (j := 2) rfl rfl (by decide +kernel) rfl ?_
      refine aw_if_lt C (tgt := 40) (off := 27) (by decide +kernel) (by decide) rfl (fun c3 => ?_) (fun c3 => ?_)
      · have hf := ift c3 hf
        refine aw_iconst C (i0 := 0) (v := 0) (by decide) (by decide +kernel) rfl ?_
        exact aw_zretq C CR0 hgr hgs (by decide) hf (by decide +kernel)
      · have hf := iff_ c3 hf
        refine aw_iload_n C 2 2 (j := 2) rfl rfl (by decide +kernel) rfl ?_
        refine aw_aload_n C 0 0 (j := 0) rfl rfl (by decide +kernel) rfl ?_
        refine aw_get C (k := 2) fc_3 Ef.1 rfl (by decide) tb_109 (by decide +kernel) rfl ?_
        refine aw_icmp_ge C (tgt := 40) (off := 19) (by decide +kernel) (by decide) rfl (fun c4 => ?_) (fun c4 => ?_)
        · have hf := ift c4 hf
          refine aw_iconst C (i0 := 0) (v := 0) (by decide) (by decide +kernel) rfl ?_
          exact aw_zretq C CR0 hgr hgs (by decide) hf (by decide +kernel)
        · have hf := iff_ c4 hf
          refine aw_aload_n C 0 0 (j := 0) rfl rfl (by decide +kernel) rfl ?_
          refine aw_get C (k := 3) fc_3 Ef.1 rfl (by decide) tb_114 (by decide +kernel) rfl ?_
          refine aw_if_eq C (tgt := 36) (off := 8) (by decide +kernel) (by decide) rfl (fun c5 => ?_) (fun c5 => ?_)
          · have hf := ift c5 hf
            refine aw_iconst C (i0 := 1) (v := 1) (by decide) (by decide +kernel) rfl ?_
            refine aw_goto C (tgt := 41) (off := 4) (by decide +kernel) (by decide) ?_
            exact aw_zretq C CR0 hgr hgs (by decide) hf (by decide +kernel)
          · have hf := iff_ c5 hf
            refine aw_iload_n C 2 2 (j := 2) rfl rfl (by decide +kernel) rfl ?_
            refine aw_iload_n C 1 1 (j := 1) rfl rfl (by decide +kernel) rfl ?_
            refine aw_icmp_gt C (tgt := 40) (off := 7) (by decide +kernel) (by decide) rfl (fun c6 => ?_) (fun c6 => ?_)
            · have hf := ift c6 hf
              refine aw_iconst C (i0 := 0) (v := 0) (by decide) (by decide +kernel) rfl ?_
              exact aw_zretq C CR0 hgr hgs (by decide) hf (by decide +kernel)
            · have hf := iff_ c6 hf
              refine aw_iconst C (i0 := 1) (v := 1) (by decide) (by decide +kernel) rfl ?_
              refine aw_goto C (tgt := 41) (off := 4) (by decide +kernel) (by decide) ?_
              exact aw_zretq C CR0 hgr hgs (by decide) hf (by decide +kernel)
theorem c_Fold_holds {lay : Ly} (f0 f1 f2 : Nat) (Ef : FoldAt lay f0 f1 f2) (v1 : Int32) (v2 : Int32) (st : Mm) (q : Int32 × Mm) (hf : f_Fold_holds f0 f1 f2 v1 v2 st = some q) : Con 0 Y21 prog_5_method_5_code 3 (Option.some FieldType.boolean) lay (fun ad => [.ref (ad f0), .int v1, .int v2]) st (some (.int q.1)) q.2 :=
  am_met yf_21.2.2.2.2.2 (fun ad => Nat.le_of_ble_eq_true rfl) (fun G C CR0 e1 e2 e3 e4 e5 => t_Fold_holds C CR0 f0 f1 f2 (by rw [e1]; exact Ef) e2 (Nat.le_of_eq e5.symm) e3 e4 v1 v2 st hf)
def f_x_cellAt (v0 : Int32) (v1 : Int32) (st : Mm) : Option (Int32 × Mm) :=
  some ((((16 : Int32) * v1) + v0), st)
theorem t_x_cellAt {G : Cx} (C : CX G prog_1_method_39_code "PaperStars") (CR0 : CR G (Option.some FieldType.int))  (hnL : gnL G = 2) (hgd : 0 ≤ gd G) {q : Int32 × Mm} (hgr : gr G = some (.int q.1)) (hgs : gsf G = q.2) (v0 : Int32) (v1 : Int32) (st : Mm) (hf : f_x_cellAt v0 v1 st = some q) : AW G st 0 [(0, .int v0), (1, .int v1)] [] := by
  unfold f_x_cellAt at hf
  refine aw_bipush C (i0 := 16) (v := 16) (by decide) (by decide +kernel) rfl ?_
  refine aw_iload_n C 1 1 (j := 1) rfl rfl (by decide +kernel) rfl ?_
  refine aw_imul C (by decide +kernel) rfl ?_
  refine aw_iload_n C 0 0 (j := 0) rfl rfl (by decide +kernel) rfl ?_
  refine aw_iadd C (by decide +kernel) rfl ?_
  exact aw_iretq C CR0 hgr hgs hf (by decide +kernel)
theorem c_x_cellAt {lay : Ly}  (v0 : Int32) (v1 : Int32) (st : Mm) (q : Int32 × Mm) (hf : f_x_cellAt v0 v1 st = some q) : Con 0 Y22 prog_1_method_39_code 2 (Option.some FieldType.int) lay (fun ad => [.int v0, .int v1]) st (some (.int q.1)) q.2 :=
  am_met yf_22.2.2.2.2.2 (fun ad => Nat.le_of_ble_eq_true rfl) (fun G C CR0 e1 e2 e3 e4 e5 => t_x_cellAt C CR0  e2 (Nat.le_of_eq e5.symm) e3 e4 v0 v1 st hf)
def b_Fold_placeOf_80 (f0 f1 f2 : Nat) (v3 : Int32) (v4 : Int32) (st : Mm) : Option (Int32 × Mm) :=
  (f_Fold_holds f0 f1 f2 v3 v4 st).bind (fun q1 => if q1.1 = 0 then (some ((-1 : Int32), q1.2)) else ((f_x_cellAt v3 v4 q1.2).bind (fun q3 => some (q3.1, q3.2))))
def f_Fold_placeOf (f0 f1 f2 : Nat) (v1 : Int32) (v2 : Int32) (st : Mm) : Option (Int32 × Mm) :=
  if v1 < 0 then (some ((-1 : Int32), st)) else (if (st.1 f0 0) ≤ v1 then (some ((-1 : Int32), st)) else (if v2 < 0 then (some ((-1 : Int32), st)) else (if v2 < (st.1 f0 0) then (if inb v1 16 then lt_ (st.1 f1 v1.toNatClampNeg) (fun a6 => if inb v2 16 then lt_ (st.1 f2 v2.toNatClampNeg) (fun a8 => if a6 < 0 then (some ((-1 : Int32), st)) else (if 0 ≤ a8 then (if (st.1 f0 3) = 0 then (b_Fold_placeOf_80 f0 f1 f2 a6 a8 st) else (if a8 ≤ a6 then (b_Fold_placeOf_80 f0 f1 f2 a6 a8 st) else (lt_ (a6 + (st.1 f0 4)) (fun a13 => b_Fold_placeOf_80 f0 f1 f2 a8 a13 st)))) else (some ((-1 : Int32), st)))) else none) else none) else (some ((-1 : Int32), st)))))
theorem t_Fold_placeOf_80 {G : Cx} (C : CX G prog_5_method_6_code "PaperStars$Folding") (CR0 : CR G (Option.some FieldType.int)) (f0 f1 f2 : Nat) (Ef : FoldAt (gly G) f0 f1 f2) (hnL : gnL G = 6) (hgd : 1 ≤ gd G) {q : Int32 × Mm} (hgr : gr G = some (.int q.1)) (hgs : gsf G = q.2) (v3 : Int32) (v4 : Int32) (st : Mm) (hf : b_Fold_placeOf_80 f0 f1 f2 v3 v4 st = some q) : AW G st 80 [(0, .ref (gad G f0)), (3, .int v3), (4, .int v4)] [] := by
  unfold b_Fold_placeOf_80 at hf
  refine aw_aload_n C 0 0 (j := 0) rfl rfl (by decide +kernel) rfl ?_
  refine aw_iload_n C 3 1 (j := 3) rfl rfl (by decide +kernel) rfl ?_
  refine aw_iload C 4 2 rfl (by decide +kernel) rfl ?_
  obtain ⟨q1, hq1, hf⟩ := ibd hf
  refine aw_callV C (rest := []) (c_Fold_holds f0 f1 f2 ⟨Ef.1, Ef.2.1, Ef.2.2⟩ v3 v4 _ q1 hq1) tb_386 yf_21 yi_21 Ef.1 [.int v3, .int v4] rfl rfl _ rfl (Nat.le_trans (by decide) hgd) (Nat.le_of_ble_eq_true rfl) (by decide +kernel) rfl ?_
  show AW _ _ _ _ [.int q1.1]
  refine aw_if_eq C (tgt := 99) (off := 12) (by decide +kernel) (by decide) rfl (fun c2 => ?_) (fun c2 => ?_)
  · have hf := ift c2 hf
    refine aw_iconst C (i0 := -1) (v := -1) (by decide) (by decide +kernel) rfl ?_
    exact aw_iretq C CR0 hgr hgs hf (by decide +kernel)
  · have hf := iff_ c2 hf
    refine aw_iload_n C 3 1 (j := 3) rfl rfl (by decide +kernel) rfl ?_
    refine aw_iload C 4 2 rfl (by decide +kernel) rfl ?_
    obtain ⟨q3, hq3, hf⟩ := ibd hf
    refine aw_callSN C (rest := []) (c_x_cellAt v3 v4 _ q3 hq3) nw_12 yf_22 tb_391 rfl _ rfl (Nat.le_trans (by decide) hgd) (Nat.le_of_ble_eq_true rfl) (by decide +kernel) rfl ?_
    show AW _ _ _ _ [.int q3.1]
    refine aw_goto C (tgt := 100) (off := 4) (by decide +kernel) (by decide) ?_
    exact aw_iretq C CR0 hgr hgs hf (by decide +kernel)
theorem t_Fold_placeOf {G : Cx} (C : CX G prog_5_method_6_code "PaperStars$Folding") (CR0 : CR G (Option.some FieldType.int)) (f0 f1 f2 : Nat) (Ef : FoldAt (gly G) f0 f1 f2) (hnL : gnL G = 6) (hgd : 1 ≤ gd G) {q : Int32 × Mm} (hgr : gr G = some (.int q.1)) (hgs : gsf G = q.2) (v1 : Int32) (v2 : Int32) (st : Mm) (hf : f_Fold_placeOf f0 f1 f2 v1 v2 st = some q) : AW G st 0 [(0, .ref (gad G f0)), (1, .int v1), (2, .int v2)] [] := by
  unfold f_Fold_placeOf at hf
  refine aw_iload_n C 1 1 (j := 1) rfl rfl (by decide +kernel) rfl ?_
  refine aw_if_lt C (tgt := 24) (off := 23) (by decide +kernel) (by decide) rfl (fun c1 => ?_) (fun c1 => ?_)
  · have hf := ift c1 hf
    refine aw_iconst C (i0 := -1) (v := -1) (by decide) (by decide +kernel) rfl ?_
    exact aw_iretq C CR0 hgr hgs hf (by decide +kernel)
  · have hf := iff_ c1 hf
    refine aw_iload_n C 1 1 (j := 1) rfl rfl (by decide +kernel) rfl ?_
    refine aw_aload_n C 0 0 (j := 0) rfl rfl (by decide +kernel) rfl ?_
    refine aw_get C (k := 0) fc_3 Ef.1 rfl (by decide) tb_102 (by decide +kernel) rfl ?_
    refine aw_icmp_ge C (tgt := 24) (off := 15) (by decide +kernel) (by decide) rfl (fun c2 => ?_) (fun c2 => ?_)
    · have hf := ift c2 hf
      refine aw_iconst C (i0 := -1) (v := -1) (by decide) (by decide +kernel) rfl ?_
      exact aw_iretq C CR0 hgr hgs hf (by decide +kernel)
    · have hf := iff_ c2 hf
      refine aw_iload_n C 2 2 (j := 2) rfl rfl (by decide +kernel) rfl ?_
      refine aw_if_lt C (tgt := 24) (off := 11) (by decide +kernel) (by decide) rfl (fun c3 => ?_) (fun c3 => ?_)
      · have hf := ift c3 hf
        refine aw_iconst C (i0 := -1) (v := -1) (by decide) (by decide +kernel) rfl ?_
        exact aw_iretq C CR0 hgr hgs hf (by decide +kernel)
      · have hf := iff_ c3 hf
        refine aw_iload_n C 2 2 (j := 2) rfl rfl (by decide +kernel) rfl ?_
        refine aw_aload_n C 0 0 (j := 0) rfl rfl (by decide +kernel) rfl ?_
        refine aw_get C (k := 0) fc_3 Ef.1 rfl (by decide) tb_102 (by decide +kernel) rfl ?_
        refine aw_icmp_lt C (tgt := 26) (off := 5) (by decide +kernel) (by decide) rfl (fun c4 => ?_) (fun c4 => ?_)
        · have hf := ift c4 hf
          refine aw_aload_n C 0 0 (j := 0) rfl rfl (by decide +kernel) rfl ?_
          refine aw_getr C (k := 6) fc_3 Ef.1 rfl (by decide) tb_119 (by decide +kernel) rfl ?_
          refine aw_iload_n C 1 1 (j := 1) rfl rfl (by decide +kernel) rfl ?_
          obtain ⟨g5, hf⟩ := igd hf
          refine aw_iald C Ef.2.1 g5 (by decide +kernel) rfl ?_
          obtain ⟨a6, ha6⟩ : ∃ z, z = (st.1 f1 v1.toNatClampNeg) := ⟨_, rfl⟩
          refine aw_nmi ha6 ?_
          have hf := ilt ha6 hf
          refine aw_istore_n C [(3, .int a6), (0, .ref (gad G f0)), (1, .int v1), (2, .int v2)] (j := 3) rfl (by rw [hnL]; decide) rfl (by decide +kernel) rfl ?_
          refine aw_aload_n C 0 1 (j := 0) rfl rfl (by decide +kernel) rfl ?_
          refine aw_getr C (k := 7) fc_3 Ef.1 rfl (by decide) tb_120 (by decide +kernel) rfl ?_
          refine aw_iload_n C 2 3 (j := 2) rfl rfl (by decide +kernel) rfl ?_
          obtain ⟨g7, hf⟩ := igd hf
          refine aw_iald C Ef.2.2 g7 (by decide +kernel) rfl ?_
          obtain ⟨a8, ha8⟩ : ∃ z, z = (st.1 f2 v2.toNatClampNeg) := ⟨_, rfl⟩
          refine aw_nmi ha8 ?_
          have hf := ilt ha8 hf
          refine aw_istore C [(4, .int a8), (3, .int a6), (0, .ref (gad G f0)), (1, .int v1), (2, .int v2)] (by rw [hnL]; decide) rfl (by decide +kernel) rfl ?_
          refine aw_iload_n C 3 1 (j := 3) rfl rfl (by decide +kernel) rfl ?_
          refine aw_if_lt C (tgt := 50) (off := 8) (by decide +kernel) (by decide) rfl (fun c9 => ?_) (fun c9 => ?_)
          · have hf := ift c9 hf
            refine aw_iconst C (i0 := -1) (v := -1) (by decide) (by decide +kernel) rfl ?_
            exact aw_iretq C CR0 hgr hgs hf (by decide +kernel)
          · have hf := iff_ c9 hf
            refine aw_iload C 4 0 rfl (by decide +kernel) rfl ?_
            refine aw_if_ge C (tgt := 52) (off := 5) (by decide +kernel) (by decide) rfl (fun c10 => ?_) (fun c10 => ?_)
            · have hf := ift c10 hf
              refine aw_aload_n C 0 2 (j := 0) rfl rfl (by decide +kernel) rfl ?_
              refine aw_get C (k := 3) fc_3 Ef.1 rfl (by decide) tb_114 (by decide +kernel) rfl ?_
              refine aw_if_eq C (tgt := 80) (off := 24) (by decide +kernel) (by decide) rfl (fun c11 => ?_) (fun c11 => ?_)
              · have hf := ift c11 hf
                refine aw_sub [(0, .ref (gad G f0)), (3, .int a6), (4, .int a8)] [2, 1, 0] rfl ?_
                exact t_Fold_placeOf_80 C CR0 f0 f1 f2 Ef hnL hgd hgr hgs a6 a8 _ hf
              · have hf := iff_ c11 hf
                refine aw_iload C 4 0 rfl (by decide +kernel) rfl ?_
                refine aw_iload_n C 3 1 (j := 3) rfl rfl (by decide +kernel) rfl ?_
                refine aw_icmp_le C (tgt := 80) (off := 18) (by decide +kernel) (by decide) rfl (fun c12 => ?_) (fun c12 => ?_)
                · have hf := ift c12 hf
                  refine aw_sub [(0, .ref (gad G f0)), (3, .int a6), (4, .int a8)] [2, 1, 0] rfl ?_
                  exact t_Fold_placeOf_80 C CR0 f0 f1 f2 Ef hnL hgd hgr hgs a6 a8 _ hf
                · have hf := iff_ c12 hf
                  refine aw_iload_n C 3 1 (j := 3) rfl rfl (by decide +kernel) rfl ?_
                  refine aw_aload_n C 0 2 (j := 0) rfl rfl (by decide +kernel) rfl ?_
                  refine aw_get C (k := 4) fc_3 Ef.1 rfl (by decide) tb_117 (by decide +kernel) rfl ?_
                  refine aw_iadd C (by decide +kernel) rfl ?_
                  obtain ⟨a13, ha13⟩ : ∃ z, z = (a6 + (st.1 f0 4)) := ⟨_, rfl⟩
                  refine aw_nmi ha13 ?_
                  have hf := ilt ha13 hf
                  refine aw_istore C [(5, .int a13), (4, .int a8), (3, .int a6), (0, .ref (gad G f0)), (1, .int v1), (2, .int v2)] (by rw [hnL]; decide) rfl (by decide +kernel) rfl ?_
                  refine aw_iload C 4 1 rfl (by decide +kernel) rfl ?_
                  refine aw_istore_n C [(3, .int a8), (5, .int a13), (4, .int a8), (0, .ref (gad G f0)), (1, .int v1), (2, .int v2)] (j := 3) rfl (by rw [hnL]; decide) rfl (by decide +kernel) rfl ?_
                  refine aw_iload C 5 1 rfl (by decide +kernel) rfl ?_
                  refine aw_istore C [(4, .int a13), (3, .int a8), (5, .int a13), (0, .ref (gad G f0)), (1, .int v1), (2, .int v2)] (by rw [hnL]; decide) rfl (by decide +kernel) rfl ?_
                  refine aw_sub [(0, .ref (gad G f0)), (3, .int a8), (4, .int a13)] [3, 1, 0] rfl ?_
                  exact t_Fold_placeOf_80 C CR0 f0 f1 f2 Ef hnL hgd hgr hgs a8 a13 _ hf
            · have hf := iff_ c10 hf
              refine aw_iconst C (i0 := -1) (v := -1) (by decide) (by decide +kernel) rfl ?_
              exact aw_iretq C CR0 hgr hgs hf (by decide +kernel)
        · have hf := iff_ c4 hf
          refine aw_iconst C (i0 := -1) (v := -1) (by decide) (by decide +kernel) rfl ?_
          exact aw_iretq C CR0 hgr hgs hf (by decide +kernel)
theorem c_Fold_placeOf {lay : Ly} (f0 f1 f2 : Nat) (Ef : FoldAt lay f0 f1 f2) (v1 : Int32) (v2 : Int32) (st : Mm) (q : Int32 × Mm) (hf : f_Fold_placeOf f0 f1 f2 v1 v2 st = some q) : Con 1 Y20 prog_5_method_6_code 6 (Option.some FieldType.int) lay (fun ad => [.ref (ad f0), .int v1, .int v2]) st (some (.int q.1)) q.2 :=
  am_met yf_20.2.2.2.2.2 (fun ad => Nat.le_of_ble_eq_true rfl) (fun G C CR0 e1 e2 e3 e4 e5 => t_Fold_placeOf C CR0 f0 f1 f2 (by rw [e1]; exact Ef) e2 (Nat.le_of_eq e5.symm) e3 e4 v1 v2 st hf)
def f_x_hasBit (ar : Nat) (v1 : Int32) (st : Mm) : Option (Int32 × Mm) :=
  if v1 < 0 then (some ((0 : Int32), st)) else (if (256 : Int32) ≤ v1 then (some ((0 : Int32), st)) else (if inb (v1 >>> ((4 : Int32) &&& 31)) 16 then if (((st.1 ar (v1 >>> ((4 : Int32) &&& 31)).toNatClampNeg) >>> ((v1 &&& (15 : Int32)) &&& 31)) &&& (1 : Int32)) = (1 : Int32) then (some ((1 : Int32), st)) else (some ((0 : Int32), st)) else none))
theorem t_x_hasBit {G : Cx} (C : CX G prog_1_method_40_code "PaperStars") (CR0 : CR G (Option.some FieldType.boolean)) (ar : Nat) (Ear : (gly G)[ar]? = some (.inl (0, 16))) (hnL : gnL G = 2) (hgd : 0 ≤ gd G) {q : Int32 × Mm} (hgr : gr G = some (.int q.1)) (hgs : gsf G = q.2) (v1 : Int32) (st : Mm) (hf : f_x_hasBit ar v1 st = some q) : AW G st 0 [(0, .ref (gad G ar)), (1, .int v1)] [] := by
  unfold f_x_hasBit at hf
  refine aw_iload_n C 1 1 (j := 1) rfl rfl (by decide +kernel) rfl ?_
  refine aw_if_lt C (tgt := 31) (off := 30) (by decide +kernel) (by decide) rfl (fun c1 => ?_) (fun c1 => ?_)
  · have hf := ift c1 hf
    refine aw_iconst C (i0 := 0) (v := 0) (by decide) (by decide +kernel) rfl ?_
    exact aw_zretq C CR0 hgr hgs (by decide) hf (by decide +kernel)
  · have hf := iff_ c1 hf
    refine aw_iload_n C 1 1 (j := 1) rfl rfl (by decide +kernel) rfl ?_
    refine aw_sipush C (i0 := 256) (v := 256) (by decide) (by decide +kernel) rfl ?_
    refine aw_icmp_ge C (tgt := 31) (off := 23) (by decide +kernel) (by decide) rfl (fun c2 => ?_) (fun c2 => ?_)
    · have hf := ift c2 hf
      refine aw_iconst C (i0 := 0) (v := 0) (by decide) (by decide +kernel) rfl ?_
      exact aw_zretq C CR0 hgr hgs (by decide) hf (by decide +kernel)
    · have hf := iff_ c2 hf
      refine aw_aload_n C 0 0 (j := 0) rfl rfl (by decide +kernel) rfl ?_
      refine aw_iload_n C 1 1 (j := 1) rfl rfl (by decide +kernel) rfl ?_
      refine aw_iconst C (i0 := 4) (v := 4) (by decide) (by decide +kernel) rfl ?_
      refine aw_ishr C (by decide +kernel) rfl ?_
      obtain ⟨g3, hf⟩ := igd hf
      refine aw_iald C Ear g3 (by decide +kernel) rfl ?_
      refine aw_iload_n C 1 1 (j := 1) rfl rfl (by decide +kernel) rfl ?_
      refine aw_bipush C (i0 := 15) (v := 15) (by decide) (by decide +kernel) rfl ?_
      refine aw_iand C (by decide +kernel) rfl ?_
      refine aw_ishr C (by decide +kernel) rfl ?_
      refine aw_iconst C (i0 := 1) (v := 1) (by decide) (by decide +kernel) rfl ?_
      refine aw_iand C (by decide +kernel) rfl ?_
      refine aw_iconst C (i0 := 1) (v := 1) (by decide) (by decide +kernel) rfl ?_
      refine aw_icmp_ne C (tgt := 31) (off := 7) (by decide +kernel) (by decide) rfl (fun c4 => ?_) (fun c4 => ?_)
      · have hf := ift c4 hf
        refine aw_iconst C (i0 := 1) (v := 1) (by decide) (by decide +kernel) rfl ?_
        refine aw_goto C (tgt := 32) (off := 4) (by decide +kernel) (by decide) ?_
        exact aw_zretq C CR0 hgr hgs (by decide) hf (by decide +kernel)
      · have hf := iff_ c4 hf
        refine aw_iconst C (i0 := 0) (v := 0) (by decide) (by decide +kernel) rfl ?_
        exact aw_zretq C CR0 hgr hgs (by decide) hf (by decide +kernel)
theorem c_x_hasBit {lay : Ly} (ar : Nat) (Ear : lay[ar]? = some (.inl (0, 16))) (v1 : Int32) (st : Mm) (q : Int32 × Mm) (hf : f_x_hasBit ar v1 st = some q) : Con 0 Y23 prog_1_method_40_code 2 (Option.some FieldType.boolean) lay (fun ad => [.ref (ad ar), .int v1]) st (some (.int q.1)) q.2 :=
  am_met yf_23.2.2.2.2.2 (fun ad => Nat.le_of_ble_eq_true rfl) (fun G C CR0 e1 e2 e3 e4 e5 => t_x_hasBit C CR0 ar (by rw [e1]; exact Ear) e2 (Nat.le_of_eq e5.symm) e3 e4 v1 st hf)
def f_x_isCut (f0 f1 f2 : Nat) (v2 : Int32) (v3 : Int32) (st : Mm) : Option (Int32 × Mm) :=
  (f_Fold_placeOf f0 f1 f2 v2 v3 st).bind (fun q1 => if q1.1 < 0 then (some ((0 : Int32), q1.2)) else ((f_x_hasBit 3 q1.1 q1.2).bind (fun q3 => if q3.1 = 0 then (some ((0 : Int32), q3.2)) else (some ((1 : Int32), q3.2)))))
theorem t_x_isCut {G : Cx} (C : CX G prog_1_method_34_code "PaperStars") (CR0 : CR G (Option.some FieldType.boolean)) (f0 f1 f2 : Nat) (E : LCin (gly G)) (Ef : FoldAt (gly G) f0 f1 f2) (hnL : gnL G = 5) (hgd : 2 ≤ gd G) {q : Int32 × Mm} (hgr : gr G = some (.int q.1)) (hgs : gsf G = q.2) (v2 : Int32) (v3 : Int32) (st : Mm) (hf : f_x_isCut f0 f1 f2 v2 v3 st = some q) : AW G st 0 [(0, .ref (gad G 0)), (1, .ref (gad G f0)), (2, .int v2), (3, .int v3)] [] := by
  unfold f_x_isCut at hf
  refine aw_aload_n C 1 1 (j := 1) rfl rfl (by decide +kernel) rfl ?_
  refine aw_iload_n C 2 2 (j := 2) rfl rfl (by decide +kernel) rfl ?_
  refine aw_iload_n C 3 3 (j := 3) rfl rfl (by decide +kernel) rfl ?_
  obtain ⟨q1, hq1, hf⟩ := ibd hf
  refine aw_callV C (rest := []) (c_Fold_placeOf f0 f1 f2 ⟨Ef.1, Ef.2.1, Ef.2.2⟩ v2 v3 _ q1 hq1) tb_382 yf_20 yi_20 Ef.1 [.int v2, .int v3] rfl rfl _ rfl (Nat.le_trans (by decide) hgd) (Nat.le_of_ble_eq_true rfl) (by decide +kernel) rfl ?_
  show AW _ _ _ _ [.int q1.1]
  refine aw_istore C [(4, .int q1.1), (0, .ref (gad G 0)), (1, .ref (gad G f0)), (2, .int v2), (3, .int v3)] (by rw [hnL]; decide) rfl (by decide +kernel) rfl ?_
  refine aw_iload C 4 0 rfl (by decide +kernel) rfl ?_
  refine aw_if_lt C (tgt := 32) (off := 22) (by decide +kernel) (by decide) rfl (fun c2 => ?_) (fun c2 => ?_)
  · have hf := ift c2 hf
    refine aw_iconst C (i0 := 0) (v := 0) (by decide) (by decide +kernel) rfl ?_
    exact aw_zretq C CR0 hgr hgs (by decide) hf (by decide +kernel)
  · have hf := iff_ c2 hf
    refine aw_aload_n C 0 1 (j := 0) rfl rfl (by decide +kernel) rfl ?_
    refine aw_getr C (k := 0) fc_11 (lc_0 E) rfl (by decide) tb_396 (by decide +kernel) rfl ?_
    refine aw_getr C (k := 5) fc_9 (lc_1 E) rfl (by decide) tb_51 (by decide +kernel) rfl ?_
    refine aw_iload C 4 0 rfl (by decide +kernel) rfl ?_
    obtain ⟨q3, hq3, hf⟩ := ibd hf
    refine aw_callS C (rest := []) (c_x_hasBit 3 (lc_3 E) q1.1 _ q3 hq3) tb_393 yf_23 tb_394 rfl _ rfl (Nat.le_trans (by decide) hgd) (Nat.le_of_ble_eq_true rfl) (by decide +kernel) rfl ?_
    show AW _ _ _ _ [.int q3.1]
    refine aw_if_eq C (tgt := 32) (off := 7) (by decide +kernel) (by decide) rfl (fun c4 => ?_) (fun c4 => ?_)
    · have hf := ift c4 hf
      refine aw_iconst C (i0 := 0) (v := 0) (by decide) (by decide +kernel) rfl ?_
      exact aw_zretq C CR0 hgr hgs (by decide) hf (by decide +kernel)
    · have hf := iff_ c4 hf
      refine aw_iconst C (i0 := 1) (v := 1) (by decide) (by decide +kernel) rfl ?_
      refine aw_goto C (tgt := 33) (off := 4) (by decide +kernel) (by decide) ?_
      exact aw_zretq C CR0 hgr hgs (by decide) hf (by decide +kernel)
theorem c_x_isCut {lay : Ly} (f0 f1 f2 : Nat) (E : LCin lay) (Ef : FoldAt lay f0 f1 f2) (v2 : Int32) (v3 : Int32) (st : Mm) (q : Int32 × Mm) (hf : f_x_isCut f0 f1 f2 v2 v3 st = some q) : Con 2 Y19 prog_1_method_34_code 5 (Option.some FieldType.boolean) lay (fun ad => [.ref (ad 0), .ref (ad f0), .int v2, .int v3]) st (some (.int q.1)) q.2 :=
  am_met yf_19.2.2.2.2.2 (fun ad => Nat.le_of_ble_eq_true rfl) (fun G C CR0 e1 e2 e3 e4 e5 => t_x_isCut C CR0 f0 f1 f2 (by rw [e1]; exact E) (by rw [e1]; exact Ef) e2 (Nat.le_of_eq e5.symm) e3 e4 v2 v3 st hf)
def b_Fold_turnOver_7 (ar : Nat) (k7 : Int32 → Int32 → Int32 → Int32 → Mm → Option (Unit × Mm)) (v1 : Int32) (v2 : Int32) (v3 : Int32) (v4 : Int32) (st : Mm) : Option (Unit × Mm) :=
  if (16 : Int32) ≤ v4 then (some ((), st)) else (if inb v4 16 then if (st.1 ar v4.toNatClampNeg) < v3 then (lt_ (v4 + (1 : Int32)) (fun a4 => k7 v1 v2 v3 a4 st)) else (if inb v4 16 then lt_ (((v1 - (1 : Int32)) - (st.1 ar v4.toNatClampNeg)) + v2) (fun a6 => if a6 < 0 then (if inb v4 16 then lt_ (v4 + (1 : Int32)) (fun a9 => k7 v1 v2 v3 a9 (sI st ar v4.toNatClampNeg (-1 : Int32))) else none) else (if v3 ≤ a6 then (if inb v4 16 then lt_ (v4 + (1 : Int32)) (fun a12 => k7 v1 v2 v3 a12 (sI st ar v4.toNatClampNeg (-1 : Int32))) else none) else (if inb v4 16 then lt_ (v4 + (1 : Int32)) (fun a14 => k7 v1 v2 v3 a14 (sI st ar v4.toNatClampNeg a6)) else none))) else none) else none)
def f_Fold_turnOver_7 (ar : Nat) : Nat → Int32 → Int32 → Int32 → Int32 → Mm → Option (Unit × Mm)
  | 0 => fun _ _ _ _ _ => none
  | n + 1 => b_Fold_turnOver_7 ar (f_Fold_turnOver_7 ar n)
def f_Fold_turnOver (ar : Nat) (v1 : Int32) (v2 : Int32) (st : Mm) : Option (Unit × Mm) :=
  lt_ (v1 >>> ((1 : Int32) &&& 31)) (fun a1 => f_Fold_turnOver_7 ar 1000000 v1 v2 a1 (0 : Int32) st)
theorem t_Fold_turnOver_7 {G : Cx} (C : CX G prog_5_method_4_code "PaperStars$Folding") (CR0 : CR G (Option.none)) (ar : Nat) (Ear : (gly G)[ar]? = some (.inl (0, 16))) (hnL : gnL G = 6) (hgd : 0 ≤ gd G) {q : Unit × Mm} (hgr : gr G = none) (hgs : gsf G = q.2) (k7 : Int32 → Int32 → Int32 → Int32 → Mm → Option (Unit × Mm)) (hk7 : ∀ (v1 : Int32) (v2 : Int32) (v3 : Int32) (v4 : Int32) (st : Mm), k7 v1 v2 v3 v4 st = some q → AW G st 7 [(0, .ref (gad G ar)), (1, .int v1), (2, .int v2), (3, .int v3), (4, .int v4)] []) (v1 : Int32) (v2 : Int32) (v3 : Int32) (v4 : Int32) (st : Mm) (hf : b_Fold_turnOver_7 ar k7 v1 v2 v3 v4 st = some q) : AW G st 7 [(0, .ref (gad G ar)), (1, .int v1), (2, .int v2), (3, .int v3), (4, .int v4)] [] := by
  unfold b_Fold_turnOver_7 at hf
  refine aw_iload C 4 4 rfl (by decide +kernel) rfl ?_
  refine aw_bipush C (i0 := 16) (v := 16) (by decide) (by decide +kernel) rfl ?_
  refine aw_icmp_ge C (tgt := 61) (off := 50) (by decide +kernel) (by decide) rfl (fun c1 => ?_) (fun c1 => ?_)
  · have hf := ift c1 hf
    exact aw_vretq C CR0 hgr hgs hf (by decide +kernel)
  · have hf := iff_ c1 hf
    refine aw_aload_n C 0 0 (j := 0) rfl rfl (by decide +kernel) rfl ?_
    refine aw_iload C 4 4 rfl (by decide +kernel) rfl ?_
    obtain ⟨g2, hf⟩ := igd hf
    refine aw_iald C Ear g2 (by decide +kernel) rfl ?_
    refine aw_iload_n C 3 3 (j := 3) rfl rfl (by decide +kernel) rfl ?_
    refine aw_icmp_lt C (tgt := 55) (off := 36) (by decide +kernel) (by decide) rfl (fun c3 => ?_) (fun c3 => ?_)
    · have hf := ift c3 hf
      obtain ⟨a4, ha4⟩ : ∃ z, z = (v4 + (1 : Int32)) := ⟨_, rfl⟩
      have hf := ilt ha4 hf
      refine aw_iinc C [(4, .int a4), (0, .ref (gad G ar)), (1, .int v1), (2, .int v2), (3, .int v3)] 4 (n := 1) rfl (by rw [ha4]; rfl) (by rw [hnL]; decide) rfl (by decide +kernel) rfl ?_
      refine aw_goto C (tgt := 7) (off := -51) (by decide +kernel) (by decide) ?_
      refine aw_sub [(0, .ref (gad G ar)), (1, .int v1), (2, .int v2), (3, .int v3), (4, .int a4)] [1, 2, 3, 4, 0] rfl ?_
      exact hk7 v1 v2 v3 a4 _ hf
    · have hf := iff_ c3 hf
      refine aw_iload_n C 1 1 (j := 1) rfl rfl (by decide +kernel) rfl ?_
      refine aw_iconst C (i0 := 1) (v := 1) (by decide) (by decide +kernel) rfl ?_
      refine aw_isub C (by decide +kernel) rfl ?_
      refine aw_aload_n C 0 0 (j := 0) rfl rfl (by decide +kernel) rfl ?_
      refine aw_iload C 4 4 rfl (by decide +kernel) rfl ?_
      obtain ⟨g5, hf⟩ := igd hf
      refine aw_iald C Ear g5 (by decide +kernel) rfl ?_
      refine aw_isub C (by decide +kernel) rfl ?_
      refine aw_iload_n C 2 2 (j := 2) rfl rfl (by decide +kernel) rfl ?_
      refine aw_iadd C (by decide +kernel) rfl ?_
      obtain ⟨a6, ha6⟩ : ∃ z, z = (((v1 - (1 : Int32)) - (st.1 ar v4.toNatClampNeg)) + v2) := ⟨_, rfl⟩
      refine aw_nmi ha6 ?_
      have hf := ilt ha6 hf
      refine aw_istore C [(5, .int a6), (0, .ref (gad G ar)), (1, .int v1), (2, .int v2), (3, .int v3), (4, .int v4)] (by rw [hnL]; decide) rfl (by decide +kernel) rfl ?_
      refine aw_aload_n C 0 1 (j := 0) rfl rfl (by decide +kernel) rfl ?_
      refine aw_iload C 4 5 rfl (by decide +kernel) rfl ?_
      refine aw_iload C 5 0 rfl (by decide +kernel) rfl ?_
      refine aw_if_lt C (tgt := 53) (off := 14) (by decide +kernel) (by decide) rfl (fun c7 => ?_) (fun c7 => ?_)
      · have hf := ift c7 hf
        refine aw_iconst C (i0 := -1) (v := -1) (by decide) (by decide +kernel) rfl ?_
        obtain ⟨g8, hf⟩ := igd hf
        refine aw_iast C Ear g8 (by decide +kernel) rfl ?_
        obtain ⟨a9, ha9⟩ : ∃ z, z = (v4 + (1 : Int32)) := ⟨_, rfl⟩
        have hf := ilt ha9 hf
        refine aw_iinc C [(4, .int a9), (5, .int a6), (0, .ref (gad G ar)), (1, .int v1), (2, .int v2), (3, .int v3)] 5 (n := 1) rfl (by rw [ha9]; rfl) (by rw [hnL]; decide) rfl (by decide +kernel) rfl ?_
        refine aw_goto C (tgt := 7) (off := -51) (by decide +kernel) (by decide) ?_
        refine aw_sub [(0, .ref (gad G ar)), (1, .int v1), (2, .int v2), (3, .int v3), (4, .int a9)] [2, 3, 4, 5, 0] rfl ?_
        exact hk7 v1 v2 v3 a9 _ hf
      · have hf := iff_ c7 hf
        refine aw_iload C 5 0 rfl (by decide +kernel) rfl ?_
        refine aw_iload_n C 3 4 (j := 3) rfl rfl (by decide +kernel) rfl ?_
        refine aw_icmp_ge C (tgt := 53) (off := 8) (by decide +kernel) (by decide) rfl (fun c10 => ?_) (fun c10 => ?_)
        · have hf := ift c10 hf
          refine aw_iconst C (i0 := -1) (v := -1) (by decide) (by decide +kernel) rfl ?_
          obtain ⟨g11, hf⟩ := igd hf
          refine aw_iast C Ear g11 (by decide +kernel) rfl ?_
          obtain ⟨a12, ha12⟩ : ∃ z, z = (v4 + (1 : Int32)) := ⟨_, rfl⟩
          have hf := ilt ha12 hf
          refine aw_iinc C [(4, .int a12), (5, .int a6), (0, .ref (gad G ar)), (1, .int v1), (2, .int v2), (3, .int v3)] 5 (n := 1) rfl (by rw [ha12]; rfl) (by rw [hnL]; decide) rfl (by decide +kernel) rfl ?_
          refine aw_goto C (tgt := 7) (off := -51) (by decide +kernel) (by decide) ?_
          refine aw_sub [(0, .ref (gad G ar)), (1, .int v1), (2, .int v2), (3, .int v3), (4, .int a12)] [2, 3, 4, 5, 0] rfl ?_
          exact hk7 v1 v2 v3 a12 _ hf
        · have hf := iff_ c10 hf
          refine aw_iload C 5 0 rfl (by decide +kernel) rfl ?_
          refine aw_goto C (tgt := 54) (off := 4) (by decide +kernel) (by decide) ?_
          obtain ⟨g13, hf⟩ := igd hf
          refine aw_iast C Ear g13 (by decide +kernel) rfl ?_
          obtain ⟨a14, ha14⟩ : ∃ z, z = (v4 + (1 : Int32)) := ⟨_, rfl⟩
          have hf := ilt ha14 hf
          refine aw_iinc C [(4, .int a14), (5, .int a6), (0, .ref (gad G ar)), (1, .int v1), (2, .int v2), (3, .int v3)] 5 (n := 1) rfl (by rw [ha14]; rfl) (by rw [hnL]; decide) rfl (by decide +kernel) rfl ?_
          refine aw_goto C (tgt := 7) (off := -51) (by decide +kernel) (by decide) ?_
          refine aw_sub [(0, .ref (gad G ar)), (1, .int v1), (2, .int v2), (3, .int v3), (4, .int a14)] [2, 3, 4, 5, 0] rfl ?_
          exact hk7 v1 v2 v3 a14 _ hf
theorem u_Fold_turnOver_7 {G : Cx} (C : CX G prog_5_method_4_code "PaperStars$Folding") (CR0 : CR G (Option.none)) (ar : Nat) (Ear : (gly G)[ar]? = some (.inl (0, 16))) (hnL : gnL G = 6) (hgd : 0 ≤ gd G) {q : Unit × Mm} (hgr : gr G = none) (hgs : gsf G = q.2) : ∀ (n : Nat) (v1 : Int32) (v2 : Int32) (v3 : Int32) (v4 : Int32) (st : Mm), f_Fold_turnOver_7 ar n v1 v2 v3 v4 st = some q → AW G st 7 [(0, .ref (gad G ar)), (1, .int v1), (2, .int v2), (3, .int v3), (4, .int v4)] [] := by
  intro n
  induction n with
  | zero => intro v1 v2 v3 v4 st hf; cases hf
  | succ n ih => intro v1 v2 v3 v4 st hf; exact t_Fold_turnOver_7 C CR0 ar Ear hnL hgd hgr hgs (f_Fold_turnOver_7 ar n) ih v1 v2 v3 v4 st hf
theorem t_Fold_turnOver {G : Cx} (C : CX G prog_5_method_4_code "PaperStars$Folding") (CR0 : CR G (Option.none)) (ar : Nat) (Ear : (gly G)[ar]? = some (.inl (0, 16))) (hnL : gnL G = 6) (hgd : 0 ≤ gd G) {q : Unit × Mm} (hgr : gr G = none) (hgs : gsf G = q.2) (v1 : Int32) (v2 : Int32) (st : Mm) (hf : f_Fold_turnOver ar v1 v2 st = some q) : AW G st 0 [(0, .ref (gad G ar)), (1, .int v1), (2, .int v2)] [] := by
  unfold f_Fold_turnOver at hf
  refine aw_iload_n C 1 1 (j := 1) rfl rfl (by decide +kernel) rfl ?_
  refine aw_iconst C (i0 := 1) (v := 1) (by decide) (by decide +kernel) rfl ?_
  refine aw_ishr C (by decide +kernel) rfl ?_
  obtain ⟨a1, ha1⟩ : ∃ z, z = (v1 >>> ((1 : Int32) &&& 31)) := ⟨_, rfl⟩
  refine aw_nmi ha1 ?_
  have hf := ilt ha1 hf
  refine aw_istore_n C [(3, .int a1), (0, .ref (gad G ar)), (1, .int v1), (2, .int v2)] (j := 3) rfl (by rw [hnL]; decide) rfl (by decide +kernel) rfl ?_
  refine aw_iconst C (i0 := 0) (v := 0) (by decide) (by decide +kernel) rfl ?_
  refine aw_istore C [(4, .int (0 : Int32)), (3, .int a1), (0, .ref (gad G ar)), (1, .int v1), (2, .int v2)] (by rw [hnL]; decide) rfl (by decide +kernel) rfl ?_
  refine aw_sub [(0, .ref (gad G ar)), (1, .int v1), (2, .int v2), (3, .int a1), (4, .int (0 : Int32))] [2, 3, 4, 1, 0] rfl ?_
  exact u_Fold_turnOver_7 C CR0 ar Ear hnL hgd hgr hgs _ v1 v2 a1 (0 : Int32) _ hf
theorem c_Fold_turnOver {lay : Ly} (ar : Nat) (Ear : lay[ar]? = some (.inl (0, 16))) (v1 : Int32) (v2 : Int32) (st : Mm) (q : Unit × Mm) (hf : f_Fold_turnOver ar v1 v2 st = some q) : Con 0 Y18 prog_5_method_4_code 6 (Option.none) lay (fun ad => [.ref (ad ar), .int v1, .int v2]) st (none) q.2 :=
  am_met yf_18.2.2.2.2.2 (fun ad => Nat.le_of_ble_eq_true rfl) (fun G C CR0 e1 e2 e3 e4 e5 => t_Fold_turnOver C CR0 ar (by rw [e1]; exact Ear) e2 (Nat.le_of_eq e5.symm) e3 e4 v1 v2 st hf)
def b_Fold_fold_107 (f0 f1 f2 : Nat) (v1 : Int32) (v2 : Int32) (st : Mm) : Option (Int32 × Mm) :=
  if v1 = (100 : Int32) then (if (st.1 f0 1) = (st.1 f0 2) then (if (st.1 f0 1) < (2 : Int32) then (some ((0 : Int32), st)) else (some ((1 : Int32), (sI (sI st f0 3 (1 : Int32)) f0 4 v2)))) else (some ((0 : Int32), st))) else (some ((0 : Int32), st))
def b_Fold_fold_58 (f0 f1 f2 : Nat) (v1 : Int32) (v2 : Int32) (st : Mm) : Option (Int32 × Mm) :=
  if v1 = (118 : Int32) then (if ((st.1 f0 2) &&& (1 : Int32)) = 0 then ((f_Fold_turnOver f2 (st.1 f0 2) v2 st).bind (fun q3 => lt_ ((q3.2.1 f0 2) >>> ((1 : Int32) &&& 31)) (fun a4 => lt_ (((sI q3.2 f0 2 a4).1 f0 5) * (2 : Int32)) (fun a5 => some ((1 : Int32), (sI (sI q3.2 f0 2 a4) f0 5 a5)))))) else (b_Fold_fold_107 f0 f1 f2 v1 v2 st)) else (b_Fold_fold_107 f0 f1 f2 v1 v2 st)
def f_Fold_fold (f0 f1 f2 : Nat) (v1 : Int32) (v2 : Int32) (st : Mm) : Option (Int32 × Mm) :=
  if (st.1 f0 3) = 0 then (if v1 = (104 : Int32) then (if ((st.1 f0 1) &&& (1 : Int32)) = 0 then ((f_Fold_turnOver f1 (st.1 f0 1) v2 st).bind (fun q4 => lt_ ((q4.2.1 f0 1) >>> ((1 : Int32) &&& 31)) (fun a5 => lt_ (((sI q4.2 f0 1 a5).1 f0 5) * (2 : Int32)) (fun a6 => some ((1 : Int32), (sI (sI q4.2 f0 1 a5) f0 5 a6)))))) else (b_Fold_fold_58 f0 f1 f2 v1 v2 st)) else (b_Fold_fold_58 f0 f1 f2 v1 v2 st)) else (some ((0 : Int32), st))
theorem t_Fold_fold_107 {G : Cx} (C : CX G prog_5_method_3_code "PaperStars$Folding") (CR0 : CR G (Option.some FieldType.boolean)) (f0 f1 f2 : Nat) (Ef : FoldAt (gly G) f0 f1 f2) (hnL : gnL G = 3) (hgd : 1 ≤ gd G) {q : Int32 × Mm} (hgr : gr G = some (.int q.1)) (hgs : gsf G = q.2) (v1 : Int32) (v2 : Int32) (st : Mm) (hf : b_Fold_fold_107 f0 f1 f2 v1 v2 st = some q) : AW G st 107 [(0, .ref (gad G f0)), (1, .int v1), (2, .int v2)] [] := by
  unfold b_Fold_fold_107 at hf
  refine aw_iload_n C 1 1 (j := 1) rfl rfl (by decide +kernel) rfl ?_
  refine aw_bipush C (i0 := 100) (v := 100) (by decide) (by decide +kernel) rfl ?_
  refine aw_icmp_ne C (tgt := 144) (off := 34) (by decide +kernel) (by decide) rfl (fun c1 => ?_) (fun c1 => ?_)
  · have hf := ift c1 hf
    refine aw_aload_n C 0 0 (j := 0) rfl rfl (by decide +kernel) rfl ?_
    refine aw_get C (k := 1) fc_3 Ef.1 rfl (by decide) tb_105 (by decide +kernel) rfl ?_
    refine aw_aload_n C 0 0 (j := 0) rfl rfl (by decide +kernel) rfl ?_
    refine aw_get C (k := 2) fc_3 Ef.1 rfl (by decide) tb_109 (by decide +kernel) rfl ?_
    refine aw_icmp_ne C (tgt := 144) (off := 23) (by decide +kernel) (by decide) rfl (fun c2 => ?_) (fun c2 => ?_)
    · have hf := ift c2 hf
      refine aw_aload_n C 0 0 (j := 0) rfl rfl (by decide +kernel) rfl ?_
      refine aw_get C (k := 1) fc_3 Ef.1 rfl (by decide) tb_105 (by decide +kernel) rfl ?_
      refine aw_iconst C (i0 := 2) (v := 2) (by decide) (by decide +kernel) rfl ?_
      refine aw_icmp_lt C (tgt := 144) (off := 15) (by decide +kernel) (by decide) rfl (fun c3 => ?_) (fun c3 => ?_)
      · have hf := ift c3 hf
        refine aw_iconst C (i0 := 0) (v := 0) (by decide) (by decide +kernel) rfl ?_
        exact aw_zretq C CR0 hgr hgs (by decide) hf (by decide +kernel)
      · have hf := iff_ c3 hf
        refine aw_aload_n C 0 0 (j := 0) rfl rfl (by decide +kernel) rfl ?_
        refine aw_iconst C (i0 := 1) (v := 1) (by decide) (by decide +kernel) rfl ?_
        refine aw_putZ C (k := 3) fc_3 Ef.1 rfl (by decide) rfl rfl (by decide) tb_114 (by decide +kernel) rfl ?_
        refine aw_aload_n C 0 0 (j := 0) rfl rfl (by decide +kernel) rfl ?_
        refine aw_iload_n C 2 2 (j := 2) rfl rfl (by decide +kernel) rfl ?_
        refine aw_put C (k := 4) fc_3 Ef.1 rfl (by decide) rfl rfl tb_117 (by decide +kernel) rfl ?_
        refine aw_iconst C (i0 := 1) (v := 1) (by decide) (by decide +kernel) rfl ?_
        exact aw_zretq C CR0 hgr hgs (by decide) hf (by decide +kernel)
    · have hf := iff_ c2 hf
      refine aw_iconst C (i0 := 0) (v := 0) (by decide) (by decide +kernel) rfl ?_
      exact aw_zretq C CR0 hgr hgs (by decide) hf (by decide +kernel)
  · have hf := iff_ c1 hf
    refine aw_iconst C (i0 := 0) (v := 0) (by decide) (by decide +kernel) rfl ?_
    exact aw_zretq C CR0 hgr hgs (by decide) hf (by decide +kernel)
theorem t_Fold_fold_58 {G : Cx} (C : CX G prog_5_method_3_code "PaperStars$Folding") (CR0 : CR G (Option.some FieldType.boolean)) (f0 f1 f2 : Nat) (Ef : FoldAt (gly G) f0 f1 f2) (hnL : gnL G = 3) (hgd : 1 ≤ gd G) {q : Int32 × Mm} (hgr : gr G = some (.int q.1)) (hgs : gsf G = q.2) (v1 : Int32) (v2 : Int32) (st : Mm) (hf : b_Fold_fold_58 f0 f1 f2 v1 v2 st = some q) : AW G st 58 [(0, .ref (gad G f0)), (1, .int v1), (2, .int v2)] [] := by
  unfold b_Fold_fold_58 at hf
  refine aw_iload_n C 1 1 (j := 1) rfl rfl (by decide +kernel) rfl ?_
  refine aw_bipush C (i0 := 118) (v := 118) (by decide) (by decide +kernel) rfl ?_
  refine aw_icmp_ne C (tgt := 107) (off := 46) (by decide +kernel) (by decide) rfl (fun c1 => ?_) (fun c1 => ?_)
  · have hf := ift c1 hf
    refine aw_aload_n C 0 0 (j := 0) rfl rfl (by decide +kernel) rfl ?_
    refine aw_get C (k := 2) fc_3 Ef.1 rfl (by decide) tb_109 (by decide +kernel) rfl ?_
    refine aw_iconst C (i0 := 1) (v := 1) (by decide) (by decide +kernel) rfl ?_
    refine aw_iand C (by decide +kernel) rfl ?_
    refine aw_if_ne C (tgt := 107) (off := 37) (by decide +kernel) (by decide) rfl (fun c2 => ?_) (fun c2 => ?_)
    · have hf := ift c2 hf
      refine aw_aload_n C 0 0 (j := 0) rfl rfl (by decide +kernel) rfl ?_
      refine aw_getr C (k := 7) fc_3 Ef.1 rfl (by decide) tb_120 (by decide +kernel) rfl ?_
      refine aw_aload_n C 0 0 (j := 0) rfl rfl (by decide +kernel) rfl ?_
      refine aw_get C (k := 2) fc_3 Ef.1 rfl (by decide) tb_109 (by decide +kernel) rfl ?_
      refine aw_iload_n C 2 2 (j := 2) rfl rfl (by decide +kernel) rfl ?_
      obtain ⟨q3, hq3, hf⟩ := ibd hf
      refine aw_callS C (rest := []) (c_Fold_turnOver f2 Ef.2.2 (st.1 f0 2) v2 _ q3 hq3) tb_375 yf_18 tb_376 rfl _ rfl (Nat.le_trans (by decide) hgd) (Nat.le_of_ble_eq_true rfl) (by decide +kernel) rfl ?_
      show AW _ _ _ _ []
      refine aw_aload_n C 0 0 (j := 0) rfl rfl (by decide +kernel) rfl ?_
      refine aw_dup C rfl (by decide +kernel) rfl ?_
      refine aw_get C (k := 2) fc_3 Ef.1 rfl (by decide) tb_109 (by decide +kernel) rfl ?_
      refine aw_iconst C (i0 := 1) (v := 1) (by decide) (by decide +kernel) rfl ?_
      refine aw_ishr C (by decide +kernel) rfl ?_
      obtain ⟨a4, ha4⟩ : ∃ z, z = ((q3.2.1 f0 2) >>> ((1 : Int32) &&& 31)) := ⟨_, rfl⟩
      refine aw_nmi ha4 ?_
      have hf := ilt ha4 hf
      refine aw_put C (k := 2) fc_3 Ef.1 rfl (by decide) rfl rfl tb_109 (by decide +kernel) rfl ?_
      refine aw_aload_n C 0 0 (j := 0) rfl rfl (by decide +kernel) rfl ?_
      refine aw_dup C rfl (by decide +kernel) rfl ?_
      refine aw_get C (k := 5) fc_3 Ef.1 rfl (by decide) tb_118 (by decide +kernel) rfl ?_
      refine aw_iconst C (i0 := 2) (v := 2) (by decide) (by decide +kernel) rfl ?_
      refine aw_imul C (by decide +kernel) rfl ?_
      obtain ⟨a5, ha5⟩ : ∃ z, z = (((sI q3.2 f0 2 a4).1 f0 5) * (2 : Int32)) := ⟨_, rfl⟩
      refine aw_nmi ha5 ?_
      have hf := ilt ha5 hf
      refine aw_put C (k := 5) fc_3 Ef.1 rfl (by decide) rfl rfl tb_118 (by decide +kernel) rfl ?_
      refine aw_iconst C (i0 := 1) (v := 1) (by decide) (by decide +kernel) rfl ?_
      exact aw_zretq C CR0 hgr hgs (by decide) hf (by decide +kernel)
    · have hf := iff_ c2 hf
      exact t_Fold_fold_107 C CR0 f0 f1 f2 Ef hnL hgd hgr hgs v1 v2 _ hf
  · have hf := iff_ c1 hf
    exact t_Fold_fold_107 C CR0 f0 f1 f2 Ef hnL hgd hgr hgs v1 v2 _ hf
theorem t_Fold_fold {G : Cx} (C : CX G prog_5_method_3_code "PaperStars$Folding") (CR0 : CR G (Option.some FieldType.boolean)) (f0 f1 f2 : Nat) (Ef : FoldAt (gly G) f0 f1 f2) (hnL : gnL G = 3) (hgd : 1 ≤ gd G) {q : Int32 × Mm} (hgr : gr G = some (.int q.1)) (hgs : gsf G = q.2) (v1 : Int32) (v2 : Int32) (st : Mm) (hf : f_Fold_fold f0 f1 f2 v1 v2 st = some q) : AW G st 0 [(0, .ref (gad G f0)), (1, .int v1), (2, .int v2)] [] := by
  unfold f_Fold_fold at hf
  refine aw_aload_n C 0 0 (j := 0) rfl rfl (by decide +kernel) rfl ?_
  refine aw_get C (k := 3) fc_3 Ef.1 rfl (by decide) tb_114 (by decide +kernel) rfl ?_
  refine aw_if_eq C (tgt := 9) (off := 5) (by decide +kernel) (by decide) rfl (fun c1 => ?_) (fun c1 => ?_)
  · have hf := ift c1 hf
    refine aw_iload_n C 1 1 (j := 1) rfl rfl (by decide +kernel) rfl ?_
    refine aw_bipush C (i0 := 104) (v := 104) (by decide) (by decide +kernel) rfl ?_
    refine aw_icmp_ne C (tgt := 58) (off := 46) (by decide +kernel) (by decide) rfl (fun c2 => ?_) (fun c2 => ?_)
    · have hf := ift c2 hf
      refine aw_aload_n C 0 0 (j := 0) rfl rfl (by decide +kernel) rfl ?_
      refine aw_get C (k := 1) fc_3 Ef.1 rfl (by decide) tb_105 (by decide +kernel) rfl ?_
      refine aw_iconst C (i0 := 1) (v := 1) (by decide) (by decide +kernel) rfl ?_
      refine aw_iand C (by decide +kernel) rfl ?_
      refine aw_if_ne C (tgt := 58) (off := 37) (by decide +kernel) (by decide) rfl (fun c3 => ?_) (fun c3 => ?_)
      · have hf := ift c3 hf
        refine aw_aload_n C 0 0 (j := 0) rfl rfl (by decide +kernel) rfl ?_
        refine aw_getr C (k := 6) fc_3 Ef.1 rfl (by decide) tb_119 (by decide +kernel) rfl ?_
        refine aw_aload_n C 0 0 (j := 0) rfl rfl (by decide +kernel) rfl ?_
        refine aw_get C (k := 1) fc_3 Ef.1 rfl (by decide) tb_105 (by decide +kernel) rfl ?_
        refine aw_iload_n C 2 2 (j := 2) rfl rfl (by decide +kernel) rfl ?_
        obtain ⟨q4, hq4, hf⟩ := ibd hf
        refine aw_callS C (rest := []) (c_Fold_turnOver f1 Ef.2.1 (st.1 f0 1) v2 _ q4 hq4) tb_375 yf_18 tb_376 rfl _ rfl (Nat.le_trans (by decide) hgd) (Nat.le_of_ble_eq_true rfl) (by decide +kernel) rfl ?_
        show AW _ _ _ _ []
        refine aw_aload_n C 0 0 (j := 0) rfl rfl (by decide +kernel) rfl ?_
        refine aw_dup C rfl (by decide +kernel) rfl ?_
        refine aw_get C (k := 1) fc_3 Ef.1 rfl (by decide) tb_105 (by decide +kernel) rfl ?_
        refine aw_iconst C (i0 := 1) (v := 1) (by decide) (by decide +kernel) rfl ?_
        refine aw_ishr C (by decide +kernel) rfl ?_
        obtain ⟨a5, ha5⟩ : ∃ z, z = ((q4.2.1 f0 1) >>> ((1 : Int32) &&& 31)) := ⟨_, rfl⟩
        refine aw_nmi ha5 ?_
        have hf := ilt ha5 hf
        refine aw_put C (k := 1) fc_3 Ef.1 rfl (by decide) rfl rfl tb_105 (by decide +kernel) rfl ?_
        refine aw_aload_n C 0 0 (j := 0) rfl rfl (by decide +kernel) rfl ?_
        refine aw_dup C rfl (by decide +kernel) rfl ?_
        refine aw_get C (k := 5) fc_3 Ef.1 rfl (by decide) tb_118 (by decide +kernel) rfl ?_
        refine aw_iconst C (i0 := 2) (v := 2) (by decide) (by decide +kernel) rfl ?_
        refine aw_imul C (by decide +kernel) rfl ?_
        obtain ⟨a6, ha6⟩ : ∃ z, z = (((sI q4.2 f0 1 a5).1 f0 5) * (2 : Int32)) := ⟨_, rfl⟩
        refine aw_nmi ha6 ?_
        have hf := ilt ha6 hf
        refine aw_put C (k := 5) fc_3 Ef.1 rfl (by decide) rfl rfl tb_118 (by decide +kernel) rfl ?_
        refine aw_iconst C (i0 := 1) (v := 1) (by decide) (by decide +kernel) rfl ?_
        exact aw_zretq C CR0 hgr hgs (by decide) hf (by decide +kernel)
      · have hf := iff_ c3 hf
        exact t_Fold_fold_58 C CR0 f0 f1 f2 Ef hnL hgd hgr hgs v1 v2 _ hf
    · have hf := iff_ c2 hf
      exact t_Fold_fold_58 C CR0 f0 f1 f2 Ef hnL hgd hgr hgs v1 v2 _ hf
  · have hf := iff_ c1 hf
    refine aw_iconst C (i0 := 0) (v := 0) (by decide) (by decide +kernel) rfl ?_
    exact aw_zretq C CR0 hgr hgs (by decide) hf (by decide +kernel)
theorem c_Fold_fold {lay : Ly} (f0 f1 f2 : Nat) (Ef : FoldAt lay f0 f1 f2) (v1 : Int32) (v2 : Int32) (st : Mm) (q : Int32 × Mm) (hf : f_Fold_fold f0 f1 f2 v1 v2 st = some q) : Con 1 Y17 prog_5_method_3_code 3 (Option.some FieldType.boolean) lay (fun ad => [.ref (ad f0), .int v1, .int v2]) st (some (.int q.1)) q.2 :=
  am_met yf_17.2.2.2.2.2 (fun ad => Nat.le_of_ble_eq_true rfl) (fun G C CR0 e1 e2 e3 e4 e5 => t_Fold_fold C CR0 f0 f1 f2 (by rw [e1]; exact Ef) e2 (Nat.le_of_eq e5.symm) e3 e4 v1 v2 st hf)
def b_Fold_start_32 (f0 f1 f2 : Nat) (k32 : Int32 → Mm → Option (Unit × Mm)) (v2 : Int32) (st : Mm) : Option (Unit × Mm) :=
  if (16 : Int32) ≤ v2 then (some ((), st)) else (if inb v2 16 then if inb v2 16 then lt_ (v2 + (1 : Int32)) (fun a4 => k32 a4 (sI (sI st f1 v2.toNatClampNeg v2) f2 v2.toNatClampNeg v2)) else none else none)
def f_Fold_start_32 (f0 f1 f2 : Nat) : Nat → Int32 → Mm → Option (Unit × Mm)
  | 0 => fun _ _ => none
  | n + 1 => b_Fold_start_32 f0 f1 f2 (f_Fold_start_32 f0 f1 f2 n)
def f_Fold_start (f0 f1 f2 : Nat) (v1 : Int32) (st : Mm) : Option (Unit × Mm) :=
  f_Fold_start_32 f0 f1 f2 1000000 (0 : Int32) (sI (sI (sI (sI (sI (sI st f0 0 v1) f0 1 v1) f0 2 v1) f0 3 (0 : Int32)) f0 4 (0 : Int32)) f0 5 (1 : Int32))
theorem t_Fold_start_32 {G : Cx} (C : CX G prog_5_method_2_code "PaperStars$Folding") (CR0 : CR G (Option.none)) (f0 f1 f2 : Nat) (Ef : FoldAt (gly G) f0 f1 f2) (hnL : gnL G = 3) (hgd : 0 ≤ gd G) {q : Unit × Mm} (hgr : gr G = none) (hgs : gsf G = q.2) (k32 : Int32 → Mm → Option (Unit × Mm)) (hk32 : ∀ (v2 : Int32) (st : Mm), k32 v2 st = some q → AW G st 32 [(0, .ref (gad G f0)), (2, .int v2)] []) (v2 : Int32) (st : Mm) (hf : b_Fold_start_32 f0 f1 f2 k32 v2 st = some q) : AW G st 32 [(0, .ref (gad G f0)), (2, .int v2)] [] := by
  unfold b_Fold_start_32 at hf
  refine aw_iload_n C 2 1 (j := 2) rfl rfl (by decide +kernel) rfl ?_
  refine aw_bipush C (i0 := 16) (v := 16) (by decide) (by decide +kernel) rfl ?_
  refine aw_icmp_ge C (tgt := 58) (off := 23) (by decide +kernel) (by decide) rfl (fun c1 => ?_) (fun c1 => ?_)
  · have hf := ift c1 hf
    exact aw_vretq C CR0 hgr hgs hf (by decide +kernel)
  · have hf := iff_ c1 hf
    refine aw_aload_n C 0 0 (j := 0) rfl rfl (by decide +kernel) rfl ?_
    refine aw_getr C (k := 6) fc_3 Ef.1 rfl (by decide) tb_119 (by decide +kernel) rfl ?_
    refine aw_iload_n C 2 1 (j := 2) rfl rfl (by decide +kernel) rfl ?_
    refine aw_iload_n C 2 1 (j := 2) rfl rfl (by decide +kernel) rfl ?_
    obtain ⟨g2, hf⟩ := igd hf
    refine aw_iast C Ef.2.1 g2 (by decide +kernel) rfl ?_
    refine aw_aload_n C 0 0 (j := 0) rfl rfl (by decide +kernel) rfl ?_
    refine aw_getr C (k := 7) fc_3 Ef.1 rfl (by decide) tb_120 (by decide +kernel) rfl ?_
    refine aw_iload_n C 2 1 (j := 2) rfl rfl (by decide +kernel) rfl ?_
    refine aw_iload_n C 2 1 (j := 2) rfl rfl (by decide +kernel) rfl ?_
    obtain ⟨g3, hf⟩ := igd hf
    refine aw_iast C Ef.2.2 g3 (by decide +kernel) rfl ?_
    obtain ⟨a4, ha4⟩ : ∃ z, z = (v2 + (1 : Int32)) := ⟨_, rfl⟩
    have hf := ilt ha4 hf
    refine aw_iinc C [(2, .int a4), (0, .ref (gad G f0))] 1 (n := 1) rfl (by rw [ha4]; rfl) (by rw [hnL]; decide) rfl (by decide +kernel) rfl ?_
    refine aw_goto C (tgt := 32) (off := -23) (by decide +kernel) (by decide) ?_
    refine aw_sub [(0, .ref (gad G f0)), (2, .int a4)] [1, 0] rfl ?_
    exact hk32 a4 _ hf
theorem u_Fold_start_32 {G : Cx} (C : CX G prog_5_method_2_code "PaperStars$Folding") (CR0 : CR G (Option.none)) (f0 f1 f2 : Nat) (Ef : FoldAt (gly G) f0 f1 f2) (hnL : gnL G = 3) (hgd : 0 ≤ gd G) {q : Unit × Mm} (hgr : gr G = none) (hgs : gsf G = q.2) : ∀ (n : Nat) (v2 : Int32) (st : Mm), f_Fold_start_32 f0 f1 f2 n v2 st = some q → AW G st 32 [(0, .ref (gad G f0)), (2, .int v2)] [] := by
  intro n
  induction n with
  | zero => intro v2 st hf; cases hf
  | succ n ih => intro v2 st hf; exact t_Fold_start_32 C CR0 f0 f1 f2 Ef hnL hgd hgr hgs (f_Fold_start_32 f0 f1 f2 n) ih v2 st hf
theorem t_Fold_start {G : Cx} (C : CX G prog_5_method_2_code "PaperStars$Folding") (CR0 : CR G (Option.none)) (f0 f1 f2 : Nat) (Ef : FoldAt (gly G) f0 f1 f2) (hnL : gnL G = 3) (hgd : 0 ≤ gd G) {q : Unit × Mm} (hgr : gr G = none) (hgs : gsf G = q.2) (v1 : Int32) (st : Mm) (hf : f_Fold_start f0 f1 f2 v1 st = some q) : AW G st 0 [(0, .ref (gad G f0)), (1, .int v1)] [] := by
  unfold f_Fold_start at hf
  refine aw_aload_n C 0 0 (j := 0) rfl rfl (by decide +kernel) rfl ?_
  refine aw_iload_n C 1 1 (j := 1) rfl rfl (by decide +kernel) rfl ?_
  refine aw_put C (k := 0) fc_3 Ef.1 rfl (by decide) rfl rfl tb_102 (by decide +kernel) rfl ?_
  refine aw_aload_n C 0 0 (j := 0) rfl rfl (by decide +kernel) rfl ?_
  refine aw_iload_n C 1 1 (j := 1) rfl rfl (by decide +kernel) rfl ?_
  refine aw_put C (k := 1) fc_3 Ef.1 rfl (by decide) rfl rfl tb_105 (by decide +kernel) rfl ?_
  refine aw_aload_n C 0 0 (j := 0) rfl rfl (by decide +kernel) rfl ?_
  refine aw_iload_n C 1 1 (j := 1) rfl rfl (by decide +kernel) rfl ?_
  refine aw_put C (k := 2) fc_3 Ef.1 rfl (by decide) rfl rfl tb_109 (by decide +kernel) rfl ?_
  refine aw_aload_n C 0 0 (j := 0) rfl rfl (by decide +kernel) rfl ?_
  refine aw_iconst C (i0 := 0) (v := 0) (by decide) (by decide +kernel) rfl ?_
  refine aw_putZ C (k := 3) fc_3 Ef.1 rfl (by decide) rfl rfl (by decide) tb_114 (by decide +kernel) rfl ?_
  refine aw_aload_n C 0 0 (j := 0) rfl rfl (by decide +kernel) rfl ?_
  refine aw_iconst C (i0 := 0) (v := 0) (by decide) (by decide +kernel) rfl ?_
  refine aw_put C (k := 4) fc_3 Ef.1 rfl (by decide) rfl rfl tb_117 (by decide +kernel) rfl ?_
  refine aw_aload_n C 0 0 (j := 0) rfl rfl (by decide +kernel) rfl ?_
  refine aw_iconst C (i0 := 1) (v := 1) (by decide) (by decide +kernel) rfl ?_
  refine aw_put C (k := 5) fc_3 Ef.1 rfl (by decide) rfl rfl tb_118 (by decide +kernel) rfl ?_
  refine aw_iconst C (i0 := 0) (v := 0) (by decide) (by decide +kernel) rfl ?_
  refine aw_istore_n C [(2, .int (0 : Int32)), (0, .ref (gad G f0)), (1, .int v1)] (j := 2) rfl (by rw [hnL]; decide) rfl (by decide +kernel) rfl ?_
  refine aw_sub [(0, .ref (gad G f0)), (2, .int (0 : Int32))] [1, 0] rfl ?_
  exact u_Fold_start_32 C CR0 f0 f1 f2 Ef hnL hgd hgr hgs _ (0 : Int32) _ hf
theorem c_Fold_start {lay : Ly} (f0 f1 f2 : Nat) (Ef : FoldAt lay f0 f1 f2) (v1 : Int32) (st : Mm) (q : Unit × Mm) (hf : f_Fold_start f0 f1 f2 v1 st = some q) : Con 0 Y16 prog_5_method_2_code 3 (Option.none) lay (fun ad => [.ref (ad f0), .int v1]) st (none) q.2 :=
  am_met yf_16.2.2.2.2.2 (fun ad => Nat.le_of_ble_eq_true rfl) (fun G C CR0 e1 e2 e3 e4 e5 => t_Fold_start C CR0 f0 f1 f2 (by rw [e1]; exact Ef) e2 (Nat.le_of_eq e5.symm) e3 e4 v1 st hf)
def b_x_refold_13 (f0 f1 f2 : Nat) (k13 : Int32 → Int32 → Mm → Option (Unit × Mm)) (v2 : Int32) (v3 : Int32) (st : Mm) : Option (Unit × Mm) :=
  if (st.1 1 3) ≤ v3 then (some ((), st)) else (if (8 : Int32) ≤ v3 then (some ((), st)) else (if inb v3 8 then (f_Fold_fold f0 f1 f2 (st.1 2 v3.toNatClampNeg) ((v2 >>> (v3 &&& 31)) &&& (1 : Int32)) st).bind (fun q4 => lt_ (v3 + (1 : Int32)) (fun a5 => k13 v2 a5 q4.2)) else none))
def f_x_refold_13 (f0 f1 f2 : Nat) : Nat → Int32 → Int32 → Mm → Option (Unit × Mm)
  | 0 => fun _ _ _ => none
  | n + 1 => b_x_refold_13 f0 f1 f2 (f_x_refold_13 f0 f1 f2 n)
def f_x_refold (f0 f1 f2 : Nat) (v2 : Int32) (st : Mm) : Option (Unit × Mm) :=
  (f_Fold_start f0 f1 f2 (st.1 1 0) st).bind (fun q1 => f_x_refold_13 f0 f1 f2 1000000 v2 (0 : Int32) q1.2)
theorem t_x_refold_13 {G : Cx} (C : CX G prog_1_method_33_code "PaperStars") (CR0 : CR G (Option.none)) (f0 f1 f2 : Nat) (E : LCin (gly G)) (Ef : FoldAt (gly G) f0 f1 f2) (hnL : gnL G = 4) (hgd : 2 ≤ gd G) {q : Unit × Mm} (hgr : gr G = none) (hgs : gsf G = q.2) (k13 : Int32 → Int32 → Mm → Option (Unit × Mm)) (hk13 : ∀ (v2 : Int32) (v3 : Int32) (st : Mm), k13 v2 v3 st = some q → AW G st 13 [(0, .ref (gad G 0)), (1, .ref (gad G f0)), (2, .int v2), (3, .int v3)] []) (v2 : Int32) (v3 : Int32) (st : Mm) (hf : b_x_refold_13 f0 f1 f2 k13 v2 v3 st = some q) : AW G st 13 [(0, .ref (gad G 0)), (1, .ref (gad G f0)), (2, .int v2), (3, .int v3)] [] := by
  unfold b_x_refold_13 at hf
  refine aw_iload_n C 3 3 (j := 3) rfl rfl (by decide +kernel) rfl ?_
  refine aw_aload_n C 0 0 (j := 0) rfl rfl (by decide +kernel) rfl ?_
  refine aw_getr C (k := 0) fc_11 (lc_0 E) rfl (by decide) tb_396 (by decide +kernel) rfl ?_
  refine aw_get C (k := 3) fc_9 (lc_1 E) rfl (by decide) tb_45 (by decide +kernel) rfl ?_
  refine aw_icmp_ge C (tgt := 55) (off := 34) (by decide +kernel) (by decide) rfl (fun c1 => ?_) (fun c1 => ?_)
  · have hf := ift c1 hf
    exact aw_vretq C CR0 hgr hgs hf (by decide +kernel)
  · have hf := iff_ c1 hf
    refine aw_iload_n C 3 3 (j := 3) rfl rfl (by decide +kernel) rfl ?_
    refine aw_bipush C (i0 := 8) (v := 8) (by decide) (by decide +kernel) rfl ?_
    refine aw_icmp_ge C (tgt := 55) (off := 28) (by decide +kernel) (by decide) rfl (fun c2 => ?_) (fun c2 => ?_)
    · have hf := ift c2 hf
      exact aw_vretq C CR0 hgr hgs hf (by decide +kernel)
    · have hf := iff_ c2 hf
      refine aw_aload_n C 1 1 (j := 1) rfl rfl (by decide +kernel) rfl ?_
      refine aw_aload_n C 0 0 (j := 0) rfl rfl (by decide +kernel) rfl ?_
      refine aw_getr C (k := 0) fc_11 (lc_0 E) rfl (by decide) tb_396 (by decide +kernel) rfl ?_
      refine aw_getr C (k := 4) fc_9 (lc_1 E) rfl (by decide) tb_48 (by decide +kernel) rfl ?_
      refine aw_iload_n C 3 3 (j := 3) rfl rfl (by decide +kernel) rfl ?_
      obtain ⟨g3, hf⟩ := igd hf
      refine aw_iald C (lc_2 E) g3 (by decide +kernel) rfl ?_
      refine aw_iload_n C 2 2 (j := 2) rfl rfl (by decide +kernel) rfl ?_
      refine aw_iload_n C 3 3 (j := 3) rfl rfl (by decide +kernel) rfl ?_
      refine aw_ishr C (by decide +kernel) rfl ?_
      refine aw_iconst C (i0 := 1) (v := 1) (by decide) (by decide +kernel) rfl ?_
      refine aw_iand C (by decide +kernel) rfl ?_
      obtain ⟨q4, hq4, hf⟩ := ibd hf
      refine aw_callV C (rest := []) (c_Fold_fold f0 f1 f2 ⟨Ef.1, Ef.2.1, Ef.2.2⟩ (st.1 2 v3.toNatClampNeg) ((v2 >>> (v3 &&& 31)) &&& (1 : Int32)) _ q4 hq4) tb_371 yf_17 yi_17 Ef.1 [.int (st.1 2 v3.toNatClampNeg), .int ((v2 >>> (v3 &&& 31)) &&& (1 : Int32))] rfl rfl _ rfl (Nat.le_trans (by decide) hgd) (Nat.le_of_ble_eq_true rfl) (by decide +kernel) rfl ?_
      show AW _ _ _ _ [.int q4.1]
      refine aw_pop C rfl (by decide +kernel) rfl ?_
      obtain ⟨a5, ha5⟩ : ∃ z, z = (v3 + (1 : Int32)) := ⟨_, rfl⟩
      have hf := ilt ha5 hf
      refine aw_iinc C [(3, .int a5), (0, .ref (gad G 0)), (1, .ref (gad G f0)), (2, .int v2)] 3 (n := 1) rfl (by rw [ha5]; rfl) (by rw [hnL]; decide) rfl (by decide +kernel) rfl ?_
      refine aw_goto C (tgt := 13) (off := -39) (by decide +kernel) (by decide) ?_
      refine aw_sub [(0, .ref (gad G 0)), (1, .ref (gad G f0)), (2, .int v2), (3, .int a5)] [1, 2, 3, 0] rfl ?_
      exact hk13 v2 a5 _ hf
theorem u_x_refold_13 {G : Cx} (C : CX G prog_1_method_33_code "PaperStars") (CR0 : CR G (Option.none)) (f0 f1 f2 : Nat) (E : LCin (gly G)) (Ef : FoldAt (gly G) f0 f1 f2) (hnL : gnL G = 4) (hgd : 2 ≤ gd G) {q : Unit × Mm} (hgr : gr G = none) (hgs : gsf G = q.2) : ∀ (n : Nat) (v2 : Int32) (v3 : Int32) (st : Mm), f_x_refold_13 f0 f1 f2 n v2 v3 st = some q → AW G st 13 [(0, .ref (gad G 0)), (1, .ref (gad G f0)), (2, .int v2), (3, .int v3)] [] := by
  intro n
  induction n with
  | zero => intro v2 v3 st hf; cases hf
  | succ n ih => intro v2 v3 st hf; exact t_x_refold_13 C CR0 f0 f1 f2 E Ef hnL hgd hgr hgs (f_x_refold_13 f0 f1 f2 n) ih v2 v3 st hf
theorem t_x_refold {G : Cx} (C : CX G prog_1_method_33_code "PaperStars") (CR0 : CR G (Option.none)) (f0 f1 f2 : Nat) (E : LCin (gly G)) (Ef : FoldAt (gly G) f0 f1 f2) (hnL : gnL G = 4) (hgd : 2 ≤ gd G) {q : Unit × Mm} (hgr : gr G = none) (hgs : gsf G = q.2) (v2 : Int32) (st : Mm) (hf : f_x_refold f0 f1 f2 v2 st = some q) : AW G st 0 [(0, .ref (gad G 0)), (1, .ref (gad G f0)), (2, .int v2)] [] := by
  unfold f_x_refold at hf
  refine aw_aload_n C 1 1 (j := 1) rfl rfl (by decide +kernel) rfl ?_
  refine aw_aload_n C 0 0 (j := 0) rfl rfl (by decide +kernel) rfl ?_
  refine aw_getr C (k := 0) fc_11 (lc_0 E) rfl (by decide) tb_396 (by decide +kernel) rfl ?_
  refine aw_get C (k := 0) fc_9 (lc_1 E) rfl (by decide) tb_37 (by decide +kernel) rfl ?_
  obtain ⟨q1, hq1, hf⟩ := ibd hf
  refine aw_callV C (rest := []) (c_Fold_start f0 f1 f2 ⟨Ef.1, Ef.2.1, Ef.2.2⟩ (st.1 1 0) _ q1 hq1) tb_367 yf_16 yi_16 Ef.1 [.int (st.1 1 0)] rfl rfl _ rfl (Nat.le_trans (by decide) hgd) (Nat.le_of_ble_eq_true rfl) (by decide +kernel) rfl ?_
  show AW _ _ _ _ []
  refine aw_iconst C (i0 := 0) (v := 0) (by decide) (by decide +kernel) rfl ?_
  refine aw_istore_n C [(3, .int (0 : Int32)), (0, .ref (gad G 0)), (1, .ref (gad G f0)), (2, .int v2)] (j := 3) rfl (by rw [hnL]; decide) rfl (by decide +kernel) rfl ?_
  refine aw_sub [(0, .ref (gad G 0)), (1, .ref (gad G f0)), (2, .int v2), (3, .int (0 : Int32))] [1, 2, 3, 0] rfl ?_
  exact u_x_refold_13 C CR0 f0 f1 f2 E Ef hnL hgd hgr hgs _ v2 (0 : Int32) _ hf
theorem c_x_refold {lay : Ly} (f0 f1 f2 : Nat) (E : LCin lay) (Ef : FoldAt lay f0 f1 f2) (v2 : Int32) (st : Mm) (q : Unit × Mm) (hf : f_x_refold f0 f1 f2 v2 st = some q) : Con 2 Y15 prog_1_method_33_code 4 (Option.none) lay (fun ad => [.ref (ad 0), .ref (ad f0), .int v2]) st (none) q.2 :=
  am_met yf_15.2.2.2.2.2 (fun ad => Nat.le_of_ble_eq_true rfl) (fun G C CR0 e1 e2 e3 e4 e5 => t_x_refold C CR0 f0 f1 f2 (by rw [e1]; exact E) (by rw [e1]; exact Ef) e2 (Nat.le_of_eq e5.symm) e3 e4 v2 st hf)
def b_x_reopen_82 (k25 : Int32 → Mm → Option (Unit × Mm)) (v1 : Int32) (v2 : Int32) (st : Mm) : Option (Unit × Mm) :=
  if inb v1 16 then lt_ (v1 + (1 : Int32)) (fun a2 => k25 a2 (sI st 31 v1.toNatClampNeg v2)) else none
def b_x_reopen_35 (k25 : Int32 → Mm → Option (Unit × Mm)) (k35 : Int32 → Int32 → Int32 → Mm → Option (Unit × Mm)) (v1 : Int32) (v2 : Int32) (v3 : Int32) (st : Mm) : Option (Unit × Mm) :=
  if (st.1 1 0) ≤ v3 then (b_x_reopen_82 k25 v1 v2 st) else (if (st.1 1 0) ≤ v1 then (b_x_reopen_82 k25 v1 v2 st) else ((f_x_isCut 24 25 26 v3 v1 st).bind (fun q3 => if q3.1 = 0 then (lt_ (v2 ||| ((1 : Int32) <<< (v3 &&& 31))) (fun a5 => lt_ (v3 + (1 : Int32)) (fun a6 => k35 v1 a5 a6 q3.2))) else (lt_ (v3 + (1 : Int32)) (fun a7 => k35 v1 v2 a7 q3.2)))))
def f_x_reopen_35 (k25 : Int32 → Mm → Option (Unit × Mm)) : Nat → Int32 → Int32 → Int32 → Mm → Option (Unit × Mm)
  | 0 => fun _ _ _ _ => none
  | n + 1 => b_x_reopen_35 k25 (f_x_reopen_35 k25 n)
def b_x_reopen_25 (k25 : Int32 → Mm → Option (Unit × Mm)) (v1 : Int32) (st : Mm) : Option (Unit × Mm) :=
  if (16 : Int32) ≤ v1 then (some ((), (sI (sI st 34 0 (0 : Int32)) 0 13 (0 : Int32)))) else (f_x_reopen_35 k25 1000000 v1 (0 : Int32) (0 : Int32) st)
def f_x_reopen_25 : Nat → Int32 → Mm → Option (Unit × Mm)
  | 0 => fun _ _ => none
  | n + 1 => b_x_reopen_25 (f_x_reopen_25 n)
def f_x_reopen (st : Mm) : Option (Unit × Mm) :=
  (f_x_refold 24 25 26 (0 : Int32) st).bind (fun q1 => lt_ (q1.2.1 1 0) (fun a2 => f_x_reopen_25 1000000 (0 : Int32) (sI q1.2 30 0 a2)))
theorem t_x_reopen_82 {G : Cx} (C : CX G prog_1_method_32_code "PaperStars") (CR0 : CR G (Option.none)) (E : LCin (gly G)) (hnL : gnL G = 4) (hgd : 3 ≤ gd G) {q : Unit × Mm} (hgr : gr G = none) (hgs : gsf G = q.2) (k25 : Int32 → Mm → Option (Unit × Mm)) (hk25 : ∀ (v1 : Int32) (st : Mm), k25 v1 st = some q → AW G st 25 [(0, .ref (gad G 0)), (1, .int v1)] []) (v1 : Int32) (v2 : Int32) (st : Mm) (hf : b_x_reopen_82 k25 v1 v2 st = some q) : AW G st 82 [(0, .ref (gad G 0)), (1, .int v1), (2, .int v2)] [] := by
  unfold b_x_reopen_82 at hf
  refine aw_aload_n C 0 0 (j := 0) rfl rfl (by decide +kernel) rfl ?_
  refine aw_getr C (k := 6) fc_11 (lc_0 E) rfl (by decide) tb_402 (by decide +kernel) rfl ?_
  refine aw_getr C (k := 1) fc_6 (lc_30 E) rfl (by decide) tb_221 (by decide +kernel) rfl ?_
  refine aw_iload_n C 1 1 (j := 1) rfl rfl (by decide +kernel) rfl ?_
  refine aw_iload_n C 2 2 (j := 2) rfl rfl (by decide +kernel) rfl ?_
  obtain ⟨g1, hf⟩ := igd hf
  refine aw_iast C (lc_31 E) g1 (by decide +kernel) rfl ?_
  obtain ⟨a2, ha2⟩ : ∃ z, z = (v1 + (1 : Int32)) := ⟨_, rfl⟩
  have hf := ilt ha2 hf
  refine aw_iinc C [(1, .int a2), (0, .ref (gad G 0)), (2, .int v2)] 1 (n := 1) rfl (by rw [ha2]; rfl) (by rw [hnL]; decide) rfl (by decide +kernel) rfl ?_
  refine aw_goto C (tgt := 25) (off := -70) (by decide +kernel) (by decide) ?_
  refine aw_sub [(0, .ref (gad G 0)), (1, .int a2)] [1, 0] rfl ?_
  exact hk25 a2 _ hf
theorem t_x_reopen_35 {G : Cx} (C : CX G prog_1_method_32_code "PaperStars") (CR0 : CR G (Option.none)) (E : LCin (gly G)) (hnL : gnL G = 4) (hgd : 3 ≤ gd G) {q : Unit × Mm} (hgr : gr G = none) (hgs : gsf G = q.2) (k25 : Int32 → Mm → Option (Unit × Mm)) (k35 : Int32 → Int32 → Int32 → Mm → Option (Unit × Mm)) (hk25 : ∀ (v1 : Int32) (st : Mm), k25 v1 st = some q → AW G st 25 [(0, .ref (gad G 0)), (1, .int v1)] []) (hk35 : ∀ (v1 : Int32) (v2 : Int32) (v3 : Int32) (st : Mm), k35 v1 v2 v3 st = some q → AW G st 35 [(0, .ref (gad G 0)), (1, .int v1), (2, .int v2), (3, .int v3)] []) (v1 : Int32) (v2 : Int32) (v3 : Int32) (st : Mm) (hf : b_x_reopen_35 k25 k35 v1 v2 v3 st = some q) : AW G st 35 [(0, .ref (gad G 0)), (1, .int v1), (2, .int v2), (3, .int v3)] [] := by
  unfold b_x_reopen_35 at hf
  refine aw_iload_n C 3 3 (j := 3) rfl rfl (by decide +kernel) rfl ?_
  refine aw_aload_n C 0 0 (j := 0) rfl rfl (by decide +kernel) rfl ?_
  refine aw_getr C (k := 0) fc_11 (lc_0 E) rfl (by decide) tb_396 (by decide +kernel) rfl ?_
  refine aw_get C (k := 0) fc_9 (lc_1 E) rfl (by decide) tb_37 (by decide +kernel) rfl ?_
  refine aw_icmp_ge C (tgt := 82) (off := 39) (by decide +kernel) (by decide) rfl (fun c1 => ?_) (fun c1 => ?_)
  · have hf := ift c1 hf
    refine aw_sub [(0, .ref (gad G 0)), (1, .int v1), (2, .int v2)] [0, 1, 2] rfl ?_
    exact t_x_reopen_82 C CR0 E hnL hgd hgr hgs k25 hk25 v1 v2 _ hf
  · have hf := iff_ c1 hf
    refine aw_iload_n C 1 1 (j := 1) rfl rfl (by decide +kernel) rfl ?_
    refine aw_aload_n C 0 0 (j := 0) rfl rfl (by decide +kernel) rfl ?_
    refine aw_getr C (k := 0) fc_11 (lc_0 E) rfl (by decide) tb_396 (by decide +kernel) rfl ?_
    refine aw_get C (k := 0) fc_9 (lc_1 E) rfl (by decide) tb_37 (by decide +kernel) rfl ?_
    refine aw_icmp_ge C (tgt := 82) (off := 28) (by decide +kernel) (by decide) rfl (fun c2 => ?_) (fun c2 => ?_)
    · have hf := ift c2 hf
      refine aw_sub [(0, .ref (gad G 0)), (1, .int v1), (2, .int v2)] [0, 1, 2] rfl ?_
      exact t_x_reopen_82 C CR0 E hnL hgd hgr hgs k25 hk25 v1 v2 _ hf
    · have hf := iff_ c2 hf
      refine aw_aload_n C 0 0 (j := 0) rfl rfl (by decide +kernel) rfl ?_
      refine aw_aload_n C 0 0 (j := 0) rfl rfl (by decide +kernel) rfl ?_
      refine aw_getr C (k := 4) fc_11 (lc_0 E) rfl (by decide) tb_400 (by decide +kernel) rfl ?_
      refine aw_iload_n C 3 3 (j := 3) rfl rfl (by decide +kernel) rfl ?_
      refine aw_iload_n C 1 1 (j := 1) rfl rfl (by decide +kernel) rfl ?_
      obtain ⟨q3, hq3, hf⟩ := ibd hf
      refine aw_callV C (rest := []) (c_x_isCut 24 25 26 E ⟨(lc_24 E), (lc_25 E), (lc_26 E)⟩ v3 v1 _ q3 hq3) tb_378 yf_19 yi_19 (lc_0 E) [.ref (gad G 24), .int v3, .int v1] rfl rfl _ rfl (Nat.le_trans (by decide) hgd) (Nat.le_of_ble_eq_true rfl) (by decide +kernel) rfl ?_
      show AW _ _ _ _ [.int q3.1]
      refine aw_if_ne C (tgt := 76) (off := 9) (by decide +kernel) (by decide) rfl (fun c4 => ?_) (fun c4 => ?_)
      · have hf := ift c4 hf
        refine aw_iload_n C 2 2 (j := 2) rfl rfl (by decide +kernel) rfl ?_
        refine aw_iconst C (i0 := 1) (v := 1) (by decide) (by decide +kernel) rfl ?_
        refine aw_iload_n C 3 3 (j := 3) rfl rfl (by decide +kernel) rfl ?_
        refine aw_ishl C (by decide +kernel) rfl ?_
        refine aw_ior C (by decide +kernel) rfl ?_
        obtain ⟨a5, ha5⟩ : ∃ z, z = (v2 ||| ((1 : Int32) <<< (v3 &&& 31))) := ⟨_, rfl⟩
        refine aw_nmi ha5 ?_
        have hf := ilt ha5 hf
        refine aw_istore_n C [(2, .int a5), (0, .ref (gad G 0)), (1, .int v1), (3, .int v3)] (j := 2) rfl (by rw [hnL]; decide) rfl (by decide +kernel) rfl ?_
        obtain ⟨a6, ha6⟩ : ∃ z, z = (v3 + (1 : Int32)) := ⟨_, rfl⟩
        have hf := ilt ha6 hf
        refine aw_iinc C [(3, .int a6), (2, .int a5), (0, .ref (gad G 0)), (1, .int v1)] 3 (n := 1) rfl (by rw [ha6]; rfl) (by rw [hnL]; decide) rfl (by decide +kernel) rfl ?_
        refine aw_goto C (tgt := 35) (off := -44) (by decide +kernel) (by decide) ?_
        refine aw_sub [(0, .ref (gad G 0)), (1, .int v1), (2, .int a5), (3, .int a6)] [2, 3, 1, 0] rfl ?_
        exact hk35 v1 a5 a6 _ hf
      · have hf := iff_ c4 hf
        obtain ⟨a7, ha7⟩ : ∃ z, z = (v3 + (1 : Int32)) := ⟨_, rfl⟩
        have hf := ilt ha7 hf
        refine aw_iinc C [(3, .int a7), (0, .ref (gad G 0)), (1, .int v1), (2, .int v2)] 3 (n := 1) rfl (by rw [ha7]; rfl) (by rw [hnL]; decide) rfl (by decide +kernel) rfl ?_
        refine aw_goto C (tgt := 35) (off := -44) (by decide +kernel) (by decide) ?_
        refine aw_sub [(0, .ref (gad G 0)), (1, .int v1), (2, .int v2), (3, .int a7)] [1, 2, 3, 0] rfl ?_
        exact hk35 v1 v2 a7 _ hf
theorem u_x_reopen_35 {G : Cx} (C : CX G prog_1_method_32_code "PaperStars") (CR0 : CR G (Option.none)) (E : LCin (gly G)) (hnL : gnL G = 4) (hgd : 3 ≤ gd G) {q : Unit × Mm} (hgr : gr G = none) (hgs : gsf G = q.2) (k25 : Int32 → Mm → Option (Unit × Mm)) (hk25 : ∀ (v1 : Int32) (st : Mm), k25 v1 st = some q → AW G st 25 [(0, .ref (gad G 0)), (1, .int v1)] []) : ∀ (n : Nat) (v1 : Int32) (v2 : Int32) (v3 : Int32) (st : Mm), f_x_reopen_35 k25 n v1 v2 v3 st = some q → AW G st 35 [(0, .ref (gad G 0)), (1, .int v1), (2, .int v2), (3, .int v3)] [] := by
  intro n
  induction n with
  | zero => intro v1 v2 v3 st hf; cases hf
  | succ n ih => intro v1 v2 v3 st hf; exact t_x_reopen_35 C CR0 E hnL hgd hgr hgs k25 (f_x_reopen_35 k25 n) hk25 ih v1 v2 v3 st hf
theorem t_x_reopen_25 {G : Cx} (C : CX G prog_1_method_32_code "PaperStars") (CR0 : CR G (Option.none)) (E : LCin (gly G)) (hnL : gnL G = 4) (hgd : 3 ≤ gd G) {q : Unit × Mm} (hgr : gr G = none) (hgs : gsf G = q.2) (k25 : Int32 → Mm → Option (Unit × Mm)) (hk25 : ∀ (v1 : Int32) (st : Mm), k25 v1 st = some q → AW G st 25 [(0, .ref (gad G 0)), (1, .int v1)] []) (v1 : Int32) (st : Mm) (hf : b_x_reopen_25 k25 v1 st = some q) : AW G st 25 [(0, .ref (gad G 0)), (1, .int v1)] [] := by
  unfold b_x_reopen_25 at hf
  refine aw_iload_n C 1 1 (j := 1) rfl rfl (by decide +kernel) rfl ?_
  refine aw_bipush C (i0 := 16) (v := 16) (by decide) (by decide +kernel) rfl ?_
  refine aw_icmp_ge C (tgt := 98) (off := 70) (by decide +kernel) (by decide) rfl (fun c1 => ?_) (fun c1 => ?_)
  · have hf := ift c1 hf
    refine aw_aload_n C 0 0 (j := 0) rfl rfl (by decide +kernel) rfl ?_
    refine aw_getr C (k := 7) fc_11 (lc_0 E) rfl (by decide) tb_403 (by decide +kernel) rfl ?_
    refine aw_iconst C (i0 := 0) (v := 0) (by decide) (by decide +kernel) rfl ?_
    refine aw_putZ C (k := 0) fc_7 (lc_34 E) rfl (by decide) rfl rfl (by decide) tb_240 (by decide +kernel) rfl ?_
    refine aw_aload_n C 0 0 (j := 0) rfl rfl (by decide +kernel) rfl ?_
    refine aw_iconst C (i0 := 0) (v := 0) (by decide) (by decide +kernel) rfl ?_
    refine aw_putZ C (k := 13) fc_11 (lc_0 E) rfl (by decide) rfl rfl (by decide) tb_409 (by decide +kernel) rfl ?_
    exact aw_vretq C CR0 hgr hgs hf (by decide +kernel)
  · have hf := iff_ c1 hf
    refine aw_iconst C (i0 := 0) (v := 0) (by decide) (by decide +kernel) rfl ?_
    refine aw_istore_n C [(2, .int (0 : Int32)), (0, .ref (gad G 0)), (1, .int v1)] (j := 2) rfl (by rw [hnL]; decide) rfl (by decide +kernel) rfl ?_
    refine aw_iconst C (i0 := 0) (v := 0) (by decide) (by decide +kernel) rfl ?_
    refine aw_istore_n C [(3, .int (0 : Int32)), (2, .int (0 : Int32)), (0, .ref (gad G 0)), (1, .int v1)] (j := 3) rfl (by rw [hnL]; decide) rfl (by decide +kernel) rfl ?_
    refine aw_sub [(0, .ref (gad G 0)), (1, .int v1), (2, .int (0 : Int32)), (3, .int (0 : Int32))] [2, 3, 1, 0] rfl ?_
    exact u_x_reopen_35 C CR0 E hnL hgd hgr hgs k25 hk25 _ v1 (0 : Int32) (0 : Int32) _ hf
theorem u_x_reopen_25 {G : Cx} (C : CX G prog_1_method_32_code "PaperStars") (CR0 : CR G (Option.none)) (E : LCin (gly G)) (hnL : gnL G = 4) (hgd : 3 ≤ gd G) {q : Unit × Mm} (hgr : gr G = none) (hgs : gsf G = q.2) : ∀ (n : Nat) (v1 : Int32) (st : Mm), f_x_reopen_25 n v1 st = some q → AW G st 25 [(0, .ref (gad G 0)), (1, .int v1)] [] := by
  intro n
  induction n with
  | zero => intro v1 st hf; cases hf
  | succ n ih => intro v1 st hf; exact t_x_reopen_25 C CR0 E hnL hgd hgr hgs (f_x_reopen_25 n) ih v1 st hf
theorem t_x_reopen {G : Cx} (C : CX G prog_1_method_32_code "PaperStars") (CR0 : CR G (Option.none)) (E : LCin (gly G)) (hnL : gnL G = 4) (hgd : 3 ≤ gd G) {q : Unit × Mm} (hgr : gr G = none) (hgs : gsf G = q.2) (st : Mm) (hf : f_x_reopen st = some q) : AW G st 0 [(0, .ref (gad G 0))] [] := by
  unfold f_x_reopen at hf
  refine aw_aload_n C 0 0 (j := 0) rfl rfl (by decide +kernel) rfl ?_
  refine aw_aload_n C 0 0 (j := 0) rfl rfl (by decide +kernel) rfl ?_
  refine aw_getr C (k := 4) fc_11 (lc_0 E) rfl (by decide) tb_400 (by decide +kernel) rfl ?_
  refine aw_iconst C (i0 := 0) (v := 0) (by decide) (by decide +kernel) rfl ?_
  obtain ⟨q1, hq1, hf⟩ := ibd hf
  refine aw_callV C (rest := []) (c_x_refold 24 25 26 E ⟨(lc_24 E), (lc_25 E), (lc_26 E)⟩ (0 : Int32) _ q1 hq1) tb_363 yf_15 yi_15 (lc_0 E) [.ref (gad G 24), .int (0 : Int32)] rfl rfl _ rfl (Nat.le_trans (by decide) hgd) (Nat.le_of_ble_eq_true rfl) (by decide +kernel) rfl ?_
  show AW _ _ _ _ []
  refine aw_aload_n C 0 0 (j := 0) rfl rfl (by decide +kernel) rfl ?_
  refine aw_getr C (k := 6) fc_11 (lc_0 E) rfl (by decide) tb_402 (by decide +kernel) rfl ?_
  refine aw_aload_n C 0 0 (j := 0) rfl rfl (by decide +kernel) rfl ?_
  refine aw_getr C (k := 0) fc_11 (lc_0 E) rfl (by decide) tb_396 (by decide +kernel) rfl ?_
  refine aw_get C (k := 0) fc_9 (lc_1 E) rfl (by decide) tb_37 (by decide +kernel) rfl ?_
  obtain ⟨a2, ha2⟩ : ∃ z, z = (q1.2.1 1 0) := ⟨_, rfl⟩
  refine aw_nmi ha2 ?_
  have hf := ilt ha2 hf
  refine aw_put C (k := 0) fc_6 (lc_30 E) rfl (by decide) rfl rfl tb_217 (by decide +kernel) rfl ?_
  refine aw_iconst C (i0 := 0) (v := 0) (by decide) (by decide +kernel) rfl ?_
  refine aw_istore_n C [(1, .int (0 : Int32)), (0, .ref (gad G 0))] (j := 1) rfl (by rw [hnL]; decide) rfl (by decide +kernel) rfl ?_
  refine aw_sub [(0, .ref (gad G 0)), (1, .int (0 : Int32))] [1, 0] rfl ?_
  exact u_x_reopen_25 C CR0 E hnL hgd hgr hgs _ (0 : Int32) _ hf
theorem c_x_reopen {lay : Ly} (E : LCin lay) (st : Mm) (q : Unit × Mm) (hf : f_x_reopen st = some q) : Con 3 Y14 prog_1_method_32_code 4 (Option.none) lay (fun ad => [.ref (ad 0)]) st (none) q.2 :=
  am_met yf_14.2.2.2.2.2 (fun ad => Nat.le_of_ble_eq_true rfl) (fun G C CR0 e1 e2 e3 e4 e5 => t_x_reopen C CR0 (by rw [e1]; exact E) e2 (Nat.le_of_eq e5.symm) e3 e4 st hf)
def f_x_sheet (v1 : Int32) (st : Mm) : Option (Int32 × Mm) :=
  if v1 < (2 : Int32) then (some ((0 : Int32), st)) else (if (16 : Int32) < v1 then (some ((0 : Int32), st)) else (if (v1 &&& (1 : Int32)) = 0 then ((f_Tab_begin 1 2 3 4 5 v1 st).bind (fun q4 => (f_x_reopen q4.2).bind (fun q5 => some ((1 : Int32), q5.2)))) else (some ((0 : Int32), st))))
theorem t_x_sheet {G : Cx} (C : CX G prog_1_method_2_code "PaperStars") (CR0 : CR G (Option.some FieldType.boolean)) (E : LCin (gly G)) (hnL : gnL G = 2) (hgd : 4 ≤ gd G) {q : Int32 × Mm} (hgr : gr G = some (.int q.1)) (hgs : gsf G = q.2) (v1 : Int32) (st : Mm) (hf : f_x_sheet v1 st = some q) : AW G st 0 [(0, .ref (gad G 0)), (1, .int v1)] [] := by
  unfold f_x_sheet at hf
  refine aw_iload_n C 1 1 (j := 1) rfl rfl (by decide +kernel) rfl ?_
  refine aw_iconst C (i0 := 2) (v := 2) (by decide) (by decide +kernel) rfl ?_
  refine aw_icmp_lt C (tgt := 17) (off := 15) (by decide +kernel) (by decide) rfl (fun c1 => ?_) (fun c1 => ?_)
  · have hf := ift c1 hf
    refine aw_iconst C (i0 := 0) (v := 0) (by decide) (by decide +kernel) rfl ?_
    exact aw_zretq C CR0 hgr hgs (by decide) hf (by decide +kernel)
  · have hf := iff_ c1 hf
    refine aw_iload_n C 1 1 (j := 1) rfl rfl (by decide +kernel) rfl ?_
    refine aw_bipush C (i0 := 16) (v := 16) (by decide) (by decide +kernel) rfl ?_
    refine aw_icmp_gt C (tgt := 17) (off := 9) (by decide +kernel) (by decide) rfl (fun c2 => ?_) (fun c2 => ?_)
    · have hf := ift c2 hf
      refine aw_iconst C (i0 := 0) (v := 0) (by decide) (by decide +kernel) rfl ?_
      exact aw_zretq C CR0 hgr hgs (by decide) hf (by decide +kernel)
    · have hf := iff_ c2 hf
      refine aw_iload_n C 1 1 (j := 1) rfl rfl (by decide +kernel) rfl ?_
      refine aw_iconst C (i0 := 1) (v := 1) (by decide) (by decide +kernel) rfl ?_
      refine aw_iand C (by decide +kernel) rfl ?_
      refine aw_if_eq C (tgt := 19) (off := 5) (by decide +kernel) (by decide) rfl (fun c3 => ?_) (fun c3 => ?_)
      · have hf := ift c3 hf
        refine aw_aload_n C 0 0 (j := 0) rfl rfl (by decide +kernel) rfl ?_
        refine aw_getr C (k := 0) fc_11 (lc_0 E) rfl (by decide) tb_396 (by decide +kernel) rfl ?_
        refine aw_iload_n C 1 1 (j := 1) rfl rfl (by decide +kernel) rfl ?_
        obtain ⟨q4, hq4, hf⟩ := ibd hf
        refine aw_callV C (rest := []) (c_Tab_begin 1 2 3 4 5 ⟨(lc_1 E), (lc_2 E), (lc_3 E), (lc_4 E), (lc_5 E)⟩ v1 _ q4 hq4) tb_446 yf_3 yi_3 (lc_1 E) [.int v1] rfl rfl _ rfl (Nat.le_trans (by decide) hgd) (Nat.le_of_ble_eq_true rfl) (by decide +kernel) rfl ?_
        show AW _ _ _ _ []
        refine aw_aload_n C 0 0 (j := 0) rfl rfl (by decide +kernel) rfl ?_
        obtain ⟨q5, hq5, hf⟩ := ibd hf
        refine aw_callV C (rest := []) (c_x_reopen E _ q5 hq5) tb_359 yf_14 yi_14 (lc_0 E) [] rfl rfl _ rfl (Nat.le_trans (by decide) hgd) (Nat.le_of_ble_eq_true rfl) (by decide +kernel) rfl ?_
        show AW _ _ _ _ []
        refine aw_iconst C (i0 := 1) (v := 1) (by decide) (by decide +kernel) rfl ?_
        exact aw_zretq C CR0 hgr hgs (by decide) hf (by decide +kernel)
      · have hf := iff_ c3 hf
        refine aw_iconst C (i0 := 0) (v := 0) (by decide) (by decide +kernel) rfl ?_
        exact aw_zretq C CR0 hgr hgs (by decide) hf (by decide +kernel)
theorem c_x_sheet {lay : Ly} (E : LCin lay) (v1 : Int32) (st : Mm) (q : Int32 × Mm) (hf : f_x_sheet v1 st = some q) : Con 4 Y24 prog_1_method_2_code 2 (Option.some FieldType.boolean) lay (fun ad => [.ref (ad 0), .int v1]) st (some (.int q.1)) q.2 :=
  am_met yf_24.2.2.2.2.2 (fun ad => Nat.le_of_ble_eq_true rfl) (fun G C CR0 e1 e2 e3 e4 e5 => t_x_sheet C CR0 (by rw [e1]; exact E) e2 (Nat.le_of_eq e5.symm) e3 e4 v1 st hf)
def b_Tape_putInt_3 (k3 : Int32 → Int32 → Mm → Option (Unit × Mm)) (v1 : Int32) (v2 : Int32) (st : Mm) : Option (Unit × Mm) :=
  if v2 < 0 then (some ((), st)) else (if (200 : Int32) ≤ (st.1 11 0) then (some ((), st)) else (lt_ ((v1 >>> (v2 &&& 31)) &&& (255 : Int32)) (fun a3 => if inb (st.1 11 0) 200 then lt_ (((sI st 12 (st.1 11 0).toNatClampNeg a3).1 11 0) + (1 : Int32)) (fun a5 => lt_ (v2 + (-8 : Int32)) (fun a6 => k3 v1 a6 (sI (sI st 12 (st.1 11 0).toNatClampNeg a3) 11 0 a5))) else none)))
def f_Tape_putInt_3 : Nat → Int32 → Int32 → Mm → Option (Unit × Mm)
  | 0 => fun _ _ _ => none
  | n + 1 => b_Tape_putInt_3 (f_Tape_putInt_3 n)
def f_Tape_putInt (v1 : Int32) (st : Mm) : Option (Unit × Mm) :=
  f_Tape_putInt_3 1000000 v1 (24 : Int32) st
theorem t_Tape_putInt_3 {G : Cx} (C : CX G prog_12_method_2_code "PaperStars$Tape") (CR0 : CR G (Option.none)) (E : LCin (gly G)) (hnL : gnL G = 3) (hgd : 0 ≤ gd G) {q : Unit × Mm} (hgr : gr G = none) (hgs : gsf G = q.2) (k3 : Int32 → Int32 → Mm → Option (Unit × Mm)) (hk3 : ∀ (v1 : Int32) (v2 : Int32) (st : Mm), k3 v1 v2 st = some q → AW G st 3 [(0, .ref (gad G 11)), (1, .int v1), (2, .int v2)] []) (v1 : Int32) (v2 : Int32) (st : Mm) (hf : b_Tape_putInt_3 k3 v1 v2 st = some q) : AW G st 3 [(0, .ref (gad G 11)), (1, .int v1), (2, .int v2)] [] := by
  unfold b_Tape_putInt_3 at hf
  refine aw_iload_n C 2 2 (j := 2) rfl rfl (by decide +kernel) rfl ?_
  refine aw_if_lt C (tgt := 49) (off := 45) (by decide +kernel) (by decide) rfl (fun c1 => ?_) (fun c1 => ?_)
  · have hf := ift c1 hf
    exact aw_vretq C CR0 hgr hgs hf (by decide +kernel)
  · have hf := iff_ c1 hf
    refine aw_aload_n C 0 0 (j := 0) rfl rfl (by decide +kernel) rfl ?_
    refine aw_get C (k := 0) fc_10 (lc_11 E) rfl (by decide) tb_80 (by decide +kernel) rfl ?_
    refine aw_sipush C (i0 := 200) (v := 200) (by decide) (by decide +kernel) rfl ?_
    refine aw_icmp_ge C (tgt := 49) (off := 35) (by decide +kernel) (by decide) rfl (fun c2 => ?_) (fun c2 => ?_)
    · have hf := ift c2 hf
      exact aw_vretq C CR0 hgr hgs hf (by decide +kernel)
    · have hf := iff_ c2 hf
      refine aw_aload_n C 0 0 (j := 0) rfl rfl (by decide +kernel) rfl ?_
      refine aw_getr C (k := 1) fc_10 (lc_11 E) rfl (by decide) tb_82 (by decide +kernel) rfl ?_
      refine aw_aload_n C 0 0 (j := 0) rfl rfl (by decide +kernel) rfl ?_
      refine aw_get C (k := 0) fc_10 (lc_11 E) rfl (by decide) tb_80 (by decide +kernel) rfl ?_
      refine aw_iload_n C 1 1 (j := 1) rfl rfl (by decide +kernel) rfl ?_
      refine aw_iload_n C 2 2 (j := 2) rfl rfl (by decide +kernel) rfl ?_
      refine aw_ishr C (by decide +kernel) rfl ?_
      refine aw_sipush C (i0 := 255) (v := 255) (by decide) (by decide +kernel) rfl ?_
      refine aw_iand C (by decide +kernel) rfl ?_
      obtain ⟨a3, ha3⟩ : ∃ z, z = ((v1 >>> (v2 &&& 31)) &&& (255 : Int32)) := ⟨_, rfl⟩
      refine aw_nmi ha3 ?_
      have hf := ilt ha3 hf
      obtain ⟨g4, hf⟩ := igd hf
      refine aw_iast C (lc_12 E) g4 (by decide +kernel) rfl ?_
      refine aw_aload_n C 0 0 (j := 0) rfl rfl (by decide +kernel) rfl ?_
      refine aw_dup C rfl (by decide +kernel) rfl ?_
      refine aw_get C (k := 0) fc_10 (lc_11 E) rfl (by decide) tb_80 (by decide +kernel) rfl ?_
      refine aw_iconst C (i0 := 1) (v := 1) (by decide) (by decide +kernel) rfl ?_
      refine aw_iadd C (by decide +kernel) rfl ?_
      obtain ⟨a5, ha5⟩ : ∃ z, z = (((sI st 12 (st.1 11 0).toNatClampNeg a3).1 11 0) + (1 : Int32)) := ⟨_, rfl⟩
      refine aw_nmi ha5 ?_
      have hf := ilt ha5 hf
      refine aw_put C (k := 0) fc_10 (lc_11 E) rfl (by decide) rfl rfl tb_80 (by decide +kernel) rfl ?_
      obtain ⟨a6, ha6⟩ : ∃ z, z = (v2 + (-8 : Int32)) := ⟨_, rfl⟩
      have hf := ilt ha6 hf
      refine aw_iinc C [(2, .int a6), (0, .ref (gad G 11)), (1, .int v1)] 2 (n := -8) rfl (by rw [ha6]; rfl) (by rw [hnL]; decide) rfl (by decide +kernel) rfl ?_
      refine aw_goto C (tgt := 3) (off := -43) (by decide +kernel) (by decide) ?_
      refine aw_sub [(0, .ref (gad G 11)), (1, .int v1), (2, .int a6)] [1, 2, 0] rfl ?_
      exact hk3 v1 a6 _ hf
theorem u_Tape_putInt_3 {G : Cx} (C : CX G prog_12_method_2_code "PaperStars$Tape") (CR0 : CR G (Option.none)) (E : LCin (gly G)) (hnL : gnL G = 3) (hgd : 0 ≤ gd G) {q : Unit × Mm} (hgr : gr G = none) (hgs : gsf G = q.2) : ∀ (n : Nat) (v1 : Int32) (v2 : Int32) (st : Mm), f_Tape_putInt_3 n v1 v2 st = some q → AW G st 3 [(0, .ref (gad G 11)), (1, .int v1), (2, .int v2)] [] := by
  intro n
  induction n with
  | zero => intro v1 v2 st hf; cases hf
  | succ n ih => intro v1 v2 st hf; exact t_Tape_putInt_3 C CR0 E hnL hgd hgr hgs (f_Tape_putInt_3 n) ih v1 v2 st hf
theorem t_Tape_putInt {G : Cx} (C : CX G prog_12_method_2_code "PaperStars$Tape") (CR0 : CR G (Option.none)) (E : LCin (gly G)) (hnL : gnL G = 3) (hgd : 0 ≤ gd G) {q : Unit × Mm} (hgr : gr G = none) (hgs : gsf G = q.2) (v1 : Int32) (st : Mm) (hf : f_Tape_putInt v1 st = some q) : AW G st 0 [(0, .ref (gad G 11)), (1, .int v1)] [] := by
  unfold f_Tape_putInt at hf
  refine aw_bipush C (i0 := 24) (v := 24) (by decide) (by decide +kernel) rfl ?_
  refine aw_istore_n C [(2, .int (24 : Int32)), (0, .ref (gad G 11)), (1, .int v1)] (j := 2) rfl (by rw [hnL]; decide) rfl (by decide +kernel) rfl ?_
  refine aw_sub [(0, .ref (gad G 11)), (1, .int v1), (2, .int (24 : Int32))] [1, 2, 0] rfl ?_
  exact u_Tape_putInt_3 C CR0 E hnL hgd hgr hgs _ v1 (24 : Int32) _ hf
theorem c_Tape_putInt {lay : Ly} (E : LCin lay) (v1 : Int32) (st : Mm) (q : Unit × Mm) (hf : f_Tape_putInt v1 st = some q) : Con 0 Y26 prog_12_method_2_code 3 (Option.none) lay (fun ad => [.ref (ad 11), .int v1]) st (none) q.2 :=
  am_met yf_26.2.2.2.2.2 (fun ad => Nat.le_of_ble_eq_true rfl) (fun G C CR0 e1 e2 e3 e4 e5 => t_Tape_putInt C CR0 (by rw [e1]; exact E) e2 (Nat.le_of_eq e5.symm) e3 e4 v1 st hf)
def f_x_feed (v1 : Int32) (v2 : Int32) (v3 : Int32) (v4 : Int32) (v5 : Int32) (st : Mm) : Option (Int32 × Mm) :=
  if ((st.1 11 0) + (20 : Int32)) ≤ (200 : Int32) then ((f_Tape_putInt v1 st).bind (fun q2 => (f_Tape_putInt v2 q2.2).bind (fun q3 => (f_Tape_putInt v3 q3.2).bind (fun q4 => (f_Tape_putInt v4 q4.2).bind (fun q5 => (f_Tape_putInt v5 q5.2).bind (fun q6 => some ((q6.2.1 11 0), q6.2))))))) else (some ((-1 : Int32), st))
theorem t_x_feed {G : Cx} (C : CX G prog_1_method_3_code "PaperStars") (CR0 : CR G (Option.some FieldType.int)) (E : LCin (gly G)) (hnL : gnL G = 6) (hgd : 1 ≤ gd G) {q : Int32 × Mm} (hgr : gr G = some (.int q.1)) (hgs : gsf G = q.2) (v1 : Int32) (v2 : Int32) (v3 : Int32) (v4 : Int32) (v5 : Int32) (st : Mm) (hf : f_x_feed v1 v2 v3 v4 v5 st = some q) : AW G st 0 [(0, .ref (gad G 0)), (1, .int v1), (2, .int v2), (3, .int v3), (4, .int v4), (5, .int v5)] [] := by
  unfold f_x_feed at hf
  refine aw_aload_n C 0 0 (j := 0) rfl rfl (by decide +kernel) rfl ?_
  refine aw_getr C (k := 2) fc_11 (lc_0 E) rfl (by decide) tb_398 (by decide +kernel) rfl ?_
  refine aw_get C (k := 0) fc_10 (lc_11 E) rfl (by decide) tb_81 (by decide +kernel) rfl ?_
  refine aw_bipush C (i0 := 20) (v := 20) (by decide) (by decide +kernel) rfl ?_
  refine aw_iadd C (by decide +kernel) rfl ?_
  refine aw_sipush C (i0 := 200) (v := 200) (by decide) (by decide +kernel) rfl ?_
  refine aw_icmp_le C (tgt := 18) (off := 5) (by decide +kernel) (by decide) rfl (fun c1 => ?_) (fun c1 => ?_)
  · have hf := ift c1 hf
    refine aw_aload_n C 0 0 (j := 0) rfl rfl (by decide +kernel) rfl ?_
    refine aw_getr C (k := 2) fc_11 (lc_0 E) rfl (by decide) tb_398 (by decide +kernel) rfl ?_
    refine aw_iload_n C 1 1 (j := 1) rfl rfl (by decide +kernel) rfl ?_
    obtain ⟨q2, hq2, hf⟩ := ibd hf
    refine aw_callV C (rest := []) (c_Tape_putInt E v1 _ q2 hq2) tb_451 yf_26 yi_26 (lc_11 E) [.int v1] rfl rfl _ rfl (Nat.le_trans (by decide) hgd) (Nat.le_of_ble_eq_true rfl) (by decide +kernel) rfl ?_
    show AW _ _ _ _ []
    refine aw_aload_n C 0 0 (j := 0) rfl rfl (by decide +kernel) rfl ?_
    refine aw_getr C (k := 2) fc_11 (lc_0 E) rfl (by decide) tb_398 (by decide +kernel) rfl ?_
    refine aw_iload_n C 2 2 (j := 2) rfl rfl (by decide +kernel) rfl ?_
    obtain ⟨q3, hq3, hf⟩ := ibd hf
    refine aw_callV C (rest := []) (c_Tape_putInt E v2 _ q3 hq3) tb_451 yf_26 yi_26 (lc_11 E) [.int v2] rfl rfl _ rfl (Nat.le_trans (by decide) hgd) (Nat.le_of_ble_eq_true rfl) (by decide +kernel) rfl ?_
    show AW _ _ _ _ []
    refine aw_aload_n C 0 0 (j := 0) rfl rfl (by decide +kernel) rfl ?_
    refine aw_getr C (k := 2) fc_11 (lc_0 E) rfl (by decide) tb_398 (by decide +kernel) rfl ?_
    refine aw_iload_n C 3 3 (j := 3) rfl rfl (by decide +kernel) rfl ?_
    obtain ⟨q4, hq4, hf⟩ := ibd hf
    refine aw_callV C (rest := []) (c_Tape_putInt E v3 _ q4 hq4) tb_451 yf_26 yi_26 (lc_11 E) [.int v3] rfl rfl _ rfl (Nat.le_trans (by decide) hgd) (Nat.le_of_ble_eq_true rfl) (by decide +kernel) rfl ?_
    show AW _ _ _ _ []
    refine aw_aload_n C 0 0 (j := 0) rfl rfl (by decide +kernel) rfl ?_
    refine aw_getr C (k := 2) fc_11 (lc_0 E) rfl (by decide) tb_398 (by decide +kernel) rfl ?_
    refine aw_iload C 4 4 rfl (by decide +kernel) rfl ?_
    obtain ⟨q5, hq5, hf⟩ := ibd hf
    refine aw_callV C (rest := []) (c_Tape_putInt E v4 _ q5 hq5) tb_451 yf_26 yi_26 (lc_11 E) [.int v4] rfl rfl _ rfl (Nat.le_trans (by decide) hgd) (Nat.le_of_ble_eq_true rfl) (by decide +kernel) rfl ?_
    show AW _ _ _ _ []
    refine aw_aload_n C 0 0 (j := 0) rfl rfl (by decide +kernel) rfl ?_
    refine aw_getr C (k := 2) fc_11 (lc_0 E) rfl (by decide) tb_398 (by decide +kernel) rfl ?_
    refine aw_iload C 5 5 rfl (by decide +kernel) rfl ?_
    obtain ⟨q6, hq6, hf⟩ := ibd hf
    refine aw_callV C (rest := []) (c_Tape_putInt E v5 _ q6 hq6) tb_451 yf_26 yi_26 (lc_11 E) [.int v5] rfl rfl _ rfl (Nat.le_trans (by decide) hgd) (Nat.le_of_ble_eq_true rfl) (by decide +kernel) rfl ?_
    show AW _ _ _ _ []
    refine aw_aload_n C 0 0 (j := 0) rfl rfl (by decide +kernel) rfl ?_
    refine aw_getr C (k := 2) fc_11 (lc_0 E) rfl (by decide) tb_398 (by decide +kernel) rfl ?_
    refine aw_get C (k := 0) fc_10 (lc_11 E) rfl (by decide) tb_81 (by decide +kernel) rfl ?_
    exact aw_iretq C CR0 hgr hgs hf (by decide +kernel)
  · have hf := iff_ c1 hf
    refine aw_iconst C (i0 := -1) (v := -1) (by decide) (by decide +kernel) rfl ?_
    exact aw_iretq C CR0 hgr hgs hf (by decide +kernel)
theorem c_x_feed {lay : Ly} (E : LCin lay) (v1 : Int32) (v2 : Int32) (v3 : Int32) (v4 : Int32) (v5 : Int32) (st : Mm) (q : Int32 × Mm) (hf : f_x_feed v1 v2 v3 v4 v5 st = some q) : Con 1 Y25 prog_1_method_3_code 6 (Option.some FieldType.int) lay (fun ad => [.ref (ad 0), .int v1, .int v2, .int v3, .int v4, .int v5]) st (some (.int q.1)) q.2 :=
  am_met yf_25.2.2.2.2.2 (fun ad => Nat.le_of_ble_eq_true rfl) (fun G C CR0 e1 e2 e3 e4 e5 => t_x_feed C CR0 (by rw [e1]; exact E) e2 (Nat.le_of_eq e5.symm) e3 e4 v1 v2 v3 v4 v5 st hf)
def f_Rdr_handTo (st : Mm) : Option (Unit × Mm) :=
  lt_ (st.1 13 10) (fun a1 => lt_ ((sI st 1 2 a1).1 13 9) (fun a2 => some ((), (sR (sR (sI (sI st 1 2 a1) 1 3 a2) 2 (va_cpy ((sI (sI st 1 2 a1) 1 3 a2).1 22) ((sI (sI st 1 2 a1) 1 3 a2).1 2) (0 : Int32).toNatClampNeg (0 : Int32).toNatClampNeg (8 : Int32).toNatClampNeg)) 3 (va_cpy ((sR (sI (sI st 1 2 a1) 1 3 a2) 2 (va_cpy ((sI (sI st 1 2 a1) 1 3 a2).1 22) ((sI (sI st 1 2 a1) 1 3 a2).1 2) (0 : Int32).toNatClampNeg (0 : Int32).toNatClampNeg (8 : Int32).toNatClampNeg)).1 23) ((sR (sI (sI st 1 2 a1) 1 3 a2) 2 (va_cpy ((sI (sI st 1 2 a1) 1 3 a2).1 22) ((sI (sI st 1 2 a1) 1 3 a2).1 2) (0 : Int32).toNatClampNeg (0 : Int32).toNatClampNeg (8 : Int32).toNatClampNeg)).1 3) (0 : Int32).toNatClampNeg (0 : Int32).toNatClampNeg (16 : Int32).toNatClampNeg)))))
theorem t_Rdr_handTo {G : Cx} (C : CX G prog_10_method_4_code "PaperStars$Reader") (CR0 : CR G (Option.none)) (E : LCin (gly G)) (hnL : gnL G = 2) (hgd : 1 ≤ gd G) {q : Unit × Mm} (hgr : gr G = none) (hgs : gsf G = q.2) (st : Mm) (hf : f_Rdr_handTo st = some q) : AW G st 0 [(0, .ref (gad G 13)), (1, .ref (gad G 1))] [] := by
  unfold f_Rdr_handTo at hf
  refine aw_aload_n C 1 1 (j := 1) rfl rfl (by decide +kernel) rfl ?_
  refine aw_aload_n C 0 0 (j := 0) rfl rfl (by decide +kernel) rfl ?_
  refine aw_get C (k := 10) fc_8 (lc_13 E) rfl (by decide) tb_176 (by decide +kernel) rfl ?_
  obtain ⟨a1, ha1⟩ : ∃ z, z = (st.1 13 10) := ⟨_, rfl⟩
  refine aw_nmi ha1 ?_
  have hf := ilt ha1 hf
  refine aw_put C (k := 2) fc_9 (lc_1 E) rfl (by decide) rfl rfl tb_41 (by decide +kernel) rfl ?_
  refine aw_aload_n C 1 1 (j := 1) rfl rfl (by decide +kernel) rfl ?_
  refine aw_aload_n C 0 0 (j := 0) rfl rfl (by decide +kernel) rfl ?_
  refine aw_get C (k := 9) fc_8 (lc_13 E) rfl (by decide) tb_175 (by decide +kernel) rfl ?_
  obtain ⟨a2, ha2⟩ : ∃ z, z = ((sI st 1 2 a1).1 13 9) := ⟨_, rfl⟩
  refine aw_nmi ha2 ?_
  have hf := ilt ha2 hf
  refine aw_put C (k := 3) fc_9 (lc_1 E) rfl (by decide) rfl rfl tb_44 (by decide +kernel) rfl ?_
  refine aw_aload_n C 0 0 (j := 0) rfl rfl (by decide +kernel) rfl ?_
  refine aw_getr C (k := 3) fc_8 (lc_13 E) rfl (by decide) tb_169 (by decide +kernel) rfl ?_
  refine aw_iconst C (i0 := 0) (v := 0) (by decide) (by decide +kernel) rfl ?_
  refine aw_aload_n C 1 1 (j := 1) rfl rfl (by decide +kernel) rfl ?_
  refine aw_getr C (k := 4) fc_9 (lc_1 E) rfl (by decide) tb_47 (by decide +kernel) rfl ?_
  refine aw_iconst C (i0 := 0) (v := 0) (by decide) (by decide +kernel) rfl ?_
  refine aw_bipush C (i0 := 8) (v := 8) (by decide) (by decide +kernel) rfl ?_
  refine aw_copy C (Nat.le_trans (by decide) hgd) (Nat.le_of_ble_eq_true rfl) (lc_22 E) (lc_2 E) tb_473 tb_475 tb_474 tb_15 (by decide) (by decide) (by decide) (by decide) (by decide) (by decide +kernel) rfl ?_
  refine aw_aload_n C 0 0 (j := 0) rfl rfl (by decide +kernel) rfl ?_
  refine aw_getr C (k := 4) fc_8 (lc_13 E) rfl (by decide) tb_170 (by decide +kernel) rfl ?_
  refine aw_iconst C (i0 := 0) (v := 0) (by decide) (by decide +kernel) rfl ?_
  refine aw_aload_n C 1 1 (j := 1) rfl rfl (by decide +kernel) rfl ?_
  refine aw_getr C (k := 5) fc_9 (lc_1 E) rfl (by decide) tb_50 (by decide +kernel) rfl ?_
  refine aw_iconst C (i0 := 0) (v := 0) (by decide) (by decide +kernel) rfl ?_
  refine aw_bipush C (i0 := 16) (v := 16) (by decide) (by decide +kernel) rfl ?_
  refine aw_copy C (Nat.le_trans (by decide) hgd) (Nat.le_of_ble_eq_true rfl) (lc_23 E) (lc_3 E) tb_473 tb_475 tb_474 tb_15 (by decide) (by decide) (by decide) (by decide) (by decide) (by decide +kernel) rfl ?_
  exact aw_vretq C CR0 hgr hgs hf (by decide +kernel)
theorem c_Rdr_handTo {lay : Ly} (E : LCin lay) (st : Mm) (q : Unit × Mm) (hf : f_Rdr_handTo st = some q) : Con 1 Y60 prog_10_method_4_code 2 (Option.none) lay (fun ad => [.ref (ad 13), .ref (ad 1)]) st (none) q.2 :=
  am_met yf_60.2.2.2.2.2 (fun ad => Nat.le_of_ble_eq_true rfl) (fun G C CR0 e1 e2 e3 e4 e5 => t_Rdr_handTo C CR0 (by rw [e1]; exact E) e2 (Nat.le_of_eq e5.symm) e3 e4 st hf)
def f_Rdr_begin (v2 : Int32) (v3 : Int32) (st : Mm) : Option (Unit × Mm) :=
  lt_ (if (0 : Int32) < (if (160 : Int32) < v2 then (160 : Int32) else v2) then (if (160 : Int32) < v2 then (160 : Int32) else v2) else (0 : Int32)) (fun a1 => if ¬ ((sI st 13 5 a1).1 13 5) < 0 then if (0 : Int32).toNatClampNeg + ((sI st 13 5 a1).1 13 5).toNatClampNeg ≤ 200 then if (0 : Int32).toNatClampNeg + ((sI st 13 5 a1).1 13 5).toNatClampNeg ≤ 160 then (f_Arr_fill 23 16 (0 : Int32) (sR (sI st 13 5 a1) 21 (va_cpy ((sI st 13 5 a1).1 12) ((sI st 13 5 a1).1 21) (0 : Int32).toNatClampNeg (0 : Int32).toNatClampNeg ((sI st 13 5 a1).1 13 5).toNatClampNeg))).bind (fun q5 => (f_Fold_start 14 15 16 v3 q5.2).bind (fun q6 => some ((), (sI (sI (sI (sI (sI q6.2 13 6 (0 : Int32)) 13 7 (0 : Int32)) 13 8 (0 : Int32)) 13 9 (0 : Int32)) 13 10 (0 : Int32))))) else none else none else none)
theorem t_Rdr_begin {G : Cx} (C : CX G prog_10_method_3_code "PaperStars$Reader") (CR0 : CR G (Option.none)) (E : LCin (gly G)) (hnL : gnL G = 4) (hgd : 1 ≤ gd G) {q : Unit × Mm} (hgr : gr G = none) (hgs : gsf G = q.2) (v2 : Int32) (v3 : Int32) (st : Mm) (hf : f_Rdr_begin v2 v3 st = some q) : AW G st 0 [(0, .ref (gad G 13)), (1, .ref (gad G 11)), (2, .int v2), (3, .int v3)] [] := by
  unfold f_Rdr_begin at hf
  refine aw_aload_n C 0 0 (j := 0) rfl rfl (by decide +kernel) rfl ?_
  refine aw_iconst C (i0 := 0) (v := 0) (by decide) (by decide +kernel) rfl ?_
  refine aw_iload_n C 2 2 (j := 2) rfl rfl (by decide +kernel) rfl ?_
  refine aw_sipush C (i0 := 160) (v := 160) (by decide) (by decide +kernel) rfl ?_
  refine aw_mmin C (Nat.le_trans (by decide) hgd) (Nat.le_of_ble_eq_true rfl) tb_467 tb_468 tb_14 tb_469 (by decide +kernel) rfl ?_
  refine aw_mmax C (Nat.le_trans (by decide) hgd) (Nat.le_of_ble_eq_true rfl) tb_470 tb_471 tb_14 tb_472 (by decide +kernel) rfl ?_
  obtain ⟨a1, ha1⟩ : ∃ z, z = (if (0 : Int32) < (if (160 : Int32) < v2 then (160 : Int32) else v2) then (if (160 : Int32) < v2 then (160 : Int32) else v2) else (0 : Int32)) := ⟨_, rfl⟩
  refine aw_nmi ha1 ?_
  have hf := ilt ha1 hf
  refine aw_put C (k := 5) fc_8 (lc_13 E) rfl (by decide) rfl rfl tb_171 (by decide +kernel) rfl ?_
  refine aw_aload_n C 1 1 (j := 1) rfl rfl (by decide +kernel) rfl ?_
  refine aw_getr C (k := 1) fc_10 (lc_11 E) rfl (by decide) tb_84 (by decide +kernel) rfl ?_
  refine aw_iconst C (i0 := 0) (v := 0) (by decide) (by decide +kernel) rfl ?_
  refine aw_aload_n C 0 0 (j := 0) rfl rfl (by decide +kernel) rfl ?_
  refine aw_getr C (k := 2) fc_8 (lc_13 E) rfl (by decide) tb_168 (by decide +kernel) rfl ?_
  refine aw_iconst C (i0 := 0) (v := 0) (by decide) (by decide +kernel) rfl ?_
  refine aw_aload_n C 0 0 (j := 0) rfl rfl (by decide +kernel) rfl ?_
  refine aw_get C (k := 5) fc_8 (lc_13 E) rfl (by decide) tb_171 (by decide +kernel) rfl ?_
  obtain ⟨g2, hf⟩ := igd hf
  obtain ⟨g3, hf⟩ := igd hf
  obtain ⟨g4, hf⟩ := igd hf
  refine aw_copy C (Nat.le_trans (by decide) hgd) (Nat.le_of_ble_eq_true rfl) (lc_12 E) (lc_21 E) tb_473 tb_475 tb_474 tb_15 (by decide) (by decide) g2 g3 g4 (by decide +kernel) rfl ?_
  refine aw_aload_n C 0 0 (j := 0) rfl rfl (by decide +kernel) rfl ?_
  refine aw_getr C (k := 4) fc_8 (lc_13 E) rfl (by decide) tb_170 (by decide +kernel) rfl ?_
  refine aw_iconst C (i0 := 0) (v := 0) (by decide) (by decide +kernel) rfl ?_
  obtain ⟨q5, hq5, hf⟩ := ibd hf
  refine aw_callS C (rest := []) (c_Arr_fill 23 16 (lc_23 E) (0 : Int32) _ q5 hq5) tb_476 yf_33 tb_477 rfl _ rfl (Nat.le_trans (by decide) hgd) (Nat.le_of_ble_eq_true rfl) (by decide +kernel) rfl ?_
  show AW _ _ _ _ []
  refine aw_aload_n C 0 0 (j := 0) rfl rfl (by decide +kernel) rfl ?_
  refine aw_getr C (k := 0) fc_8 (lc_13 E) rfl (by decide) tb_166 (by decide +kernel) rfl ?_
  refine aw_iload_n C 3 3 (j := 3) rfl rfl (by decide +kernel) rfl ?_
  obtain ⟨q6, hq6, hf⟩ := ibd hf
  refine aw_callV C (rest := []) (c_Fold_start 14 15 16 ⟨(lc_14 E), (lc_15 E), (lc_16 E)⟩ v3 _ q6 hq6) tb_479 yf_16 yi_16 (lc_14 E) [.int v3] rfl rfl _ rfl (Nat.le_trans (by decide) hgd) (Nat.le_of_ble_eq_true rfl) (by decide +kernel) rfl ?_
  show AW _ _ _ _ []
  refine aw_aload_n C 0 0 (j := 0) rfl rfl (by decide +kernel) rfl ?_
  refine aw_iconst C (i0 := 0) (v := 0) (by decide) (by decide +kernel) rfl ?_
  refine aw_put C (k := 6) fc_8 (lc_13 E) rfl (by decide) rfl rfl tb_172 (by decide +kernel) rfl ?_
  refine aw_aload_n C 0 0 (j := 0) rfl rfl (by decide +kernel) rfl ?_
  refine aw_iconst C (i0 := 0) (v := 0) (by decide) (by decide +kernel) rfl ?_
  refine aw_put C (k := 7) fc_8 (lc_13 E) rfl (by decide) rfl rfl tb_173 (by decide +kernel) rfl ?_
  refine aw_aload_n C 0 0 (j := 0) rfl rfl (by decide +kernel) rfl ?_
  refine aw_iconst C (i0 := 0) (v := 0) (by decide) (by decide +kernel) rfl ?_
  refine aw_put C (k := 8) fc_8 (lc_13 E) rfl (by decide) rfl rfl tb_174 (by decide +kernel) rfl ?_
  refine aw_aload_n C 0 0 (j := 0) rfl rfl (by decide +kernel) rfl ?_
  refine aw_iconst C (i0 := 0) (v := 0) (by decide) (by decide +kernel) rfl ?_
  refine aw_put C (k := 9) fc_8 (lc_13 E) rfl (by decide) rfl rfl tb_175 (by decide +kernel) rfl ?_
  refine aw_aload_n C 0 0 (j := 0) rfl rfl (by decide +kernel) rfl ?_
  refine aw_iconst C (i0 := 0) (v := 0) (by decide) (by decide +kernel) rfl ?_
  refine aw_put C (k := 10) fc_8 (lc_13 E) rfl (by decide) rfl rfl tb_176 (by decide +kernel) rfl ?_
  exact aw_vretq C CR0 hgr hgs hf (by decide +kernel)
theorem c_Rdr_begin {lay : Ly} (E : LCin lay) (v2 : Int32) (v3 : Int32) (st : Mm) (q : Unit × Mm) (hf : f_Rdr_begin v2 v3 st = some q) : Con 1 Y29 prog_10_method_3_code 4 (Option.none) lay (fun ad => [.ref (ad 13), .ref (ad 11), .int v2, .int v3]) st (none) q.2 :=
  am_met yf_29.2.2.2.2.2 (fun ad => Nat.le_of_ble_eq_true rfl) (fun G C CR0 e1 e2 e3 e4 e5 => t_Rdr_begin C CR0 (by rw [e1]; exact E) e2 (Nat.le_of_eq e5.symm) e3 e4 v2 v3 st hf)
def f_Rdr_fail (v1 : Int32) (v2 : Int32) (st : Mm) : Option (Unit × Mm) :=
  if (st.1 13 7) = 0 then (some ((), (sI (sI st 13 7 v1) 13 8 v2))) else (some ((), st))
theorem t_Rdr_fail {G : Cx} (C : CX G prog_10_method_7_code "PaperStars$Reader") (CR0 : CR G (Option.none)) (E : LCin (gly G)) (hnL : gnL G = 3) (hgd : 0 ≤ gd G) {q : Unit × Mm} (hgr : gr G = none) (hgs : gsf G = q.2) (v1 : Int32) (v2 : Int32) (st : Mm) (hf : f_Rdr_fail v1 v2 st = some q) : AW G st 0 [(0, .ref (gad G 13)), (1, .int v1), (2, .int v2)] [] := by
  unfold f_Rdr_fail at hf
  refine aw_aload_n C 0 0 (j := 0) rfl rfl (by decide +kernel) rfl ?_
  refine aw_get C (k := 7) fc_8 (lc_13 E) rfl (by decide) tb_173 (by decide +kernel) rfl ?_
  refine aw_if_ne C (tgt := 17) (off := 13) (by decide +kernel) (by decide) rfl (fun c1 => ?_) (fun c1 => ?_)
  · have hf := ift c1 hf
    refine aw_aload_n C 0 0 (j := 0) rfl rfl (by decide +kernel) rfl ?_
    refine aw_iload_n C 1 1 (j := 1) rfl rfl (by decide +kernel) rfl ?_
    refine aw_put C (k := 7) fc_8 (lc_13 E) rfl (by decide) rfl rfl tb_173 (by decide +kernel) rfl ?_
    refine aw_aload_n C 0 0 (j := 0) rfl rfl (by decide +kernel) rfl ?_
    refine aw_iload_n C 2 2 (j := 2) rfl rfl (by decide +kernel) rfl ?_
    refine aw_put C (k := 8) fc_8 (lc_13 E) rfl (by decide) rfl rfl tb_174 (by decide +kernel) rfl ?_
    exact aw_vretq C CR0 hgr hgs hf (by decide +kernel)
  · have hf := iff_ c1 hf
    exact aw_vretq C CR0 hgr hgs hf (by decide +kernel)
theorem c_Rdr_fail {lay : Ly} (E : LCin lay) (v1 : Int32) (v2 : Int32) (st : Mm) (q : Unit × Mm) (hf : f_Rdr_fail v1 v2 st = some q) : Con 0 Y36 prog_10_method_7_code 3 (Option.none) lay (fun ad => [.ref (ad 13), .int v1, .int v2]) st (none) q.2 :=
  am_met yf_36.2.2.2.2.2 (fun ad => Nat.le_of_ble_eq_true rfl) (fun G C CR0 e1 e2 e3 e4 e5 => t_Rdr_fail C CR0 (by rw [e1]; exact E) e2 (Nat.le_of_eq e5.symm) e3 e4 v1 v2 st hf)
def f_Rdr_look (st : Mm) : Option (Int32 × Mm) :=
  if (st.1 13 6) < 0 then (some ((-1 : Int32), st)) else (if (st.1 13 5) ≤ (st.1 13 6) then (some ((-1 : Int32), st)) else (if inb (st.1 13 6) 160 then some ((st.1 21 (st.1 13 6).toNatClampNeg), st) else none))
theorem t_Rdr_look {G : Cx} (C : CX G prog_10_method_5_code "PaperStars$Reader") (CR0 : CR G (Option.some FieldType.int)) (E : LCin (gly G)) (hnL : gnL G = 1) (hgd : 0 ≤ gd G) {q : Int32 × Mm} (hgr : gr G = some (.int q.1)) (hgs : gsf G = q.2) (st : Mm) (hf : f_Rdr_look st = some q) : AW G st 0 [(0, .ref (gad G 13))] [] := by
  unfold f_Rdr_look at hf
  refine aw_aload_n C 0 0 (j := 0) rfl rfl (by decide +kernel) rfl ?_
  refine aw_get C (k := 6) fc_8 (lc_13 E) rfl (by decide) tb_172 (by decide +kernel) rfl ?_
  refine aw_if_lt C (tgt := 30) (off := 26) (by decide +kernel) (by decide) rfl (fun c1 => ?_) (fun c1 => ?_)
  · have hf := ift c1 hf
    refine aw_iconst C (i0 := -1) (v := -1) (by decide) (by decide +kernel) rfl ?_
    exact aw_iretq C CR0 hgr hgs hf (by decide +kernel)
  · have hf := iff_ c1 hf
    refine aw_aload_n C 0 0 (j := 0) rfl rfl (by decide +kernel) rfl ?_
    refine aw_get C (k := 6) fc_8 (lc_13 E) rfl (by decide) tb_172 (by decide +kernel) rfl ?_
    refine aw_aload_n C 0 0 (j := 0) rfl rfl (by decide +kernel) rfl ?_
    refine aw_get C (k := 5) fc_8 (lc_13 E) rfl (by decide) tb_171 (by decide +kernel) rfl ?_
    refine aw_icmp_ge C (tgt := 30) (off := 15) (by decide +kernel) (by decide) rfl (fun c2 => ?_) (fun c2 => ?_)
    · have hf := ift c2 hf
      refine aw_iconst C (i0 := -1) (v := -1) (by decide) (by decide +kernel) rfl ?_
      exact aw_iretq C CR0 hgr hgs hf (by decide +kernel)
    · have hf := iff_ c2 hf
      refine aw_aload_n C 0 0 (j := 0) rfl rfl (by decide +kernel) rfl ?_
      refine aw_getr C (k := 2) fc_8 (lc_13 E) rfl (by decide) tb_168 (by decide +kernel) rfl ?_
      refine aw_aload_n C 0 0 (j := 0) rfl rfl (by decide +kernel) rfl ?_
      refine aw_get C (k := 6) fc_8 (lc_13 E) rfl (by decide) tb_172 (by decide +kernel) rfl ?_
      obtain ⟨g3, hf⟩ := igd hf
      refine aw_iald C (lc_21 E) g3 (by decide +kernel) rfl ?_
      refine aw_goto C (tgt := 31) (off := 4) (by decide +kernel) (by decide) ?_
      exact aw_iretq C CR0 hgr hgs hf (by decide +kernel)
theorem c_Rdr_look {lay : Ly} (E : LCin lay) (st : Mm) (q : Int32 × Mm) (hf : f_Rdr_look st = some q) : Con 0 Y35 prog_10_method_5_code 1 (Option.some FieldType.int) lay (fun ad => [.ref (ad 13)]) st (some (.int q.1)) q.2 :=
  am_met yf_35.2.2.2.2.2 (fun ad => Nat.le_of_ble_eq_true rfl) (fun G C CR0 e1 e2 e3 e4 e5 => t_Rdr_look C CR0 (by rw [e1]; exact E) e2 (Nat.le_of_eq e5.symm) e3 e4 st hf)
def b_Rdr_readFolds_89 (k2 : Int32 → Mm → Option (Unit × Mm)) (v1 : Int32) (st : Mm) : Option (Unit × Mm) :=
  (f_Rdr_fail (3 : Int32) (st.1 13 6) st).bind (fun q1 => lt_ (v1 + (1 : Int32)) (fun a2 => k2 a2 q1.2))
def b_Rdr_readFolds_68 (k2 : Int32 → Mm → Option (Unit × Mm)) (v1 : Int32) (v2 : Int32) (st : Mm) : Option (Unit × Mm) :=
  if (8 : Int32) ≤ (st.1 13 9) then (b_Rdr_readFolds_89 k2 v1 st) else ((f_Fold_fold 14 15 16 v2 (0 : Int32) st).bind (fun q2 => if q2.1 = 0 then (b_Rdr_readFolds_89 k2 v1 q2.2) else (if inb (q2.2.1 13 9) 8 then lt_ (((sI q2.2 22 (q2.2.1 13 9).toNatClampNeg v2).1 13 9) + (1 : Int32)) (fun a5 => lt_ (((sI (sI q2.2 22 (q2.2.1 13 9).toNatClampNeg v2) 13 9 a5).1 13 6) + (1 : Int32)) (fun a6 => lt_ (v1 + (1 : Int32)) (fun a7 => k2 a7 (sI (sI (sI q2.2 22 (q2.2.1 13 9).toNatClampNeg v2) 13 9 a5) 13 6 a6)))) else none)))
def b_Rdr_readFolds_2 (k2 : Int32 → Mm → Option (Unit × Mm)) (v1 : Int32) (st : Mm) : Option (Unit × Mm) :=
  if (160 : Int32) < v1 then (some ((), st)) else (if (st.1 13 7) = 0 then ((f_Rdr_look st).bind (fun q3 => if q3.1 = (58 : Int32) then (lt_ ((q3.2.1 13 6) + (1 : Int32)) (fun a5 => some ((), (sI q3.2 13 6 a5)))) else (if q3.1 = (104 : Int32) then (b_Rdr_readFolds_68 k2 v1 q3.1 q3.2) else (if q3.1 = (118 : Int32) then (b_Rdr_readFolds_68 k2 v1 q3.1 q3.2) else (if q3.1 = (100 : Int32) then (b_Rdr_readFolds_68 k2 v1 q3.1 q3.2) else ((f_Rdr_fail (1 : Int32) (q3.2.1 13 6) q3.2).bind (fun q9 => lt_ (v1 + (1 : Int32)) (fun a10 => k2 a10 q9.2)))))))) else (some ((), st)))
def f_Rdr_readFolds_2 : Nat → Int32 → Mm → Option (Unit × Mm)
  | 0 => fun _ _ => none
  | n + 1 => b_Rdr_readFolds_2 (f_Rdr_readFolds_2 n)
def f_Rdr_readFolds (st : Mm) : Option (Unit × Mm) :=
  f_Rdr_readFolds_2 1000000 (0 : Int32) st
theorem t_Rdr_readFolds_89 {G : Cx} (C : CX G prog_10_method_9_code "PaperStars$Reader") (CR0 : CR G (Option.none)) (E : LCin (gly G)) (hnL : gnL G = 3) (hgd : 2 ≤ gd G) {q : Unit × Mm} (hgr : gr G = none) (hgs : gsf G = q.2) (k2 : Int32 → Mm → Option (Unit × Mm)) (hk2 : ∀ (v1 : Int32) (st : Mm), k2 v1 st = some q → AW G st 2 [(0, .ref (gad G 13)), (1, .int v1)] []) (v1 : Int32) (st : Mm) (hf : b_Rdr_readFolds_89 k2 v1 st = some q) : AW G st 89 [(0, .ref (gad G 13)), (1, .int v1)] [] := by
  unfold b_Rdr_readFolds_89 at hf
  refine aw_aload_n C 0 0 (j := 0) rfl rfl (by decide +kernel) rfl ?_
  refine aw_iconst C (i0 := 3) (v := 3) (by decide) (by decide +kernel) rfl ?_
  refine aw_aload_n C 0 0 (j := 0) rfl rfl (by decide +kernel) rfl ?_
  refine aw_get C (k := 6) fc_8 (lc_13 E) rfl (by decide) tb_172 (by decide +kernel) rfl ?_
  obtain ⟨q1, hq1, hf⟩ := ibd hf
  refine aw_callV C (rest := []) (c_Rdr_fail E (3 : Int32) (st.1 13 6) _ q1 hq1) tb_488 yf_36 yi_36 (lc_13 E) [.int (3 : Int32), .int (st.1 13 6)] rfl rfl _ rfl (Nat.le_trans (by decide) hgd) (Nat.le_of_ble_eq_true rfl) (by decide +kernel) rfl ?_
  show AW _ _ _ _ []
  refine aw_goto C (tgt := 131) (off := 33) (by decide +kernel) (by decide) ?_
  obtain ⟨a2, ha2⟩ : ∃ z, z = (v1 + (1 : Int32)) := ⟨_, rfl⟩
  have hf := ilt ha2 hf
  refine aw_iinc C [(1, .int a2), (0, .ref (gad G 13))] 1 (n := 1) rfl (by rw [ha2]; rfl) (by rw [hnL]; decide) rfl (by decide +kernel) rfl ?_
  refine aw_goto C (tgt := 2) (off := -132) (by decide +kernel) (by decide) ?_
  refine aw_sub [(0, .ref (gad G 13)), (1, .int a2)] [1, 0] rfl ?_
  exact hk2 a2 _ hf
theorem t_Rdr_readFolds_68 {G : Cx} (C : CX G prog_10_method_9_code "PaperStars$Reader") (CR0 : CR G (Option.none)) (E : LCin (gly G)) (hnL : gnL G = 3) (hgd : 2 ≤ gd G) {q : Unit × Mm} (hgr : gr G = none) (hgs : gsf G = q.2) (k2 : Int32 → Mm → Option (Unit × Mm)) (hk2 : ∀ (v1 : Int32) (st : Mm), k2 v1 st = some q → AW G st 2 [(0, .ref (gad G 13)), (1, .int v1)] []) (v1 : Int32) (v2 : Int32) (st : Mm) (hf : b_Rdr_readFolds_68 k2 v1 v2 st = some q) : AW G st 68 [(0, .ref (gad G 13)), (1, .int v1), (2, .int v2)] [] := by
  unfold b_Rdr_readFolds_68 at hf
  refine aw_aload_n C 0 0 (j := 0) rfl rfl (by decide +kernel) rfl ?_
  refine aw_get C (k := 9) fc_8 (lc_13 E) rfl (by decide) tb_175 (by decide +kernel) rfl ?_
  refine aw_bipush C (i0 := 8) (v := 8) (by decide) (by decide +kernel) rfl ?_
  refine aw_icmp_ge C (tgt := 89) (off := 15) (by decide +kernel) (by decide) rfl (fun c1 => ?_) (fun c1 => ?_)
  · have hf := ift c1 hf
    refine aw_sub [(0, .ref (gad G 13)), (1, .int v1)] [0, 1] rfl ?_
    exact t_Rdr_readFolds_89 C CR0 E hnL hgd hgr hgs k2 hk2 v1 _ hf
  · have hf := iff_ c1 hf
    refine aw_aload_n C 0 0 (j := 0) rfl rfl (by decide +kernel) rfl ?_
    refine aw_getr C (k := 0) fc_8 (lc_13 E) rfl (by decide) tb_166 (by decide +kernel) rfl ?_
    refine aw_iload_n C 2 2 (j := 2) rfl rfl (by decide +kernel) rfl ?_
    refine aw_iconst C (i0 := 0) (v := 0) (by decide) (by decide +kernel) rfl ?_
    obtain ⟨q2, hq2, hf⟩ := ibd hf
    refine aw_callV C (rest := []) (c_Fold_fold 14 15 16 ⟨(lc_14 E), (lc_15 E), (lc_16 E)⟩ v2 (0 : Int32) _ q2 hq2) tb_492 yf_17 yi_17 (lc_14 E) [.int v2, .int (0 : Int32)] rfl rfl _ rfl (Nat.le_trans (by decide) hgd) (Nat.le_of_ble_eq_true rfl) (by decide +kernel) rfl ?_
    show AW _ _ _ _ [.int q2.1]
    refine aw_if_ne C (tgt := 101) (off := 15) (by decide +kernel) (by decide) rfl (fun c3 => ?_) (fun c3 => ?_)
    · have hf := ift c3 hf
      refine aw_sub [(0, .ref (gad G 13)), (1, .int v1)] [0, 1] rfl ?_
      exact t_Rdr_readFolds_89 C CR0 E hnL hgd hgr hgs k2 hk2 v1 _ hf
    · have hf := iff_ c3 hf
      refine aw_aload_n C 0 0 (j := 0) rfl rfl (by decide +kernel) rfl ?_
      refine aw_getr C (k := 3) fc_8 (lc_13 E) rfl (by decide) tb_169 (by decide +kernel) rfl ?_
      refine aw_aload_n C 0 0 (j := 0) rfl rfl (by decide +kernel) rfl ?_
      refine aw_get C (k := 9) fc_8 (lc_13 E) rfl (by decide) tb_175 (by decide +kernel) rfl ?_
      refine aw_iload_n C 2 2 (j := 2) rfl rfl (by decide +kernel) rfl ?_
      obtain ⟨g4, hf⟩ := igd hf
      refine aw_iast C (lc_22 E) g4 (by decide +kernel) rfl ?_
      refine aw_aload_n C 0 0 (j := 0) rfl rfl (by decide +kernel) rfl ?_
      refine aw_dup C rfl (by decide +kernel) rfl ?_
      refine aw_get C (k := 9) fc_8 (lc_13 E) rfl (by decide) tb_175 (by decide +kernel) rfl ?_
      refine aw_iconst C (i0 := 1) (v := 1) (by decide) (by decide +kernel) rfl ?_
      refine aw_iadd C (by decide +kernel) rfl ?_
      obtain ⟨a5, ha5⟩ : ∃ z, z = (((sI q2.2 22 (q2.2.1 13 9).toNatClampNeg v2).1 13 9) + (1 : Int32)) := ⟨_, rfl⟩
      refine aw_nmi ha5 ?_
      have hf := ilt ha5 hf
      refine aw_put C (k := 9) fc_8 (lc_13 E) rfl (by decide) rfl rfl tb_175 (by decide +kernel) rfl ?_
      refine aw_aload_n C 0 0 (j := 0) rfl rfl (by decide +kernel) rfl ?_
      refine aw_dup C rfl (by decide +kernel) rfl ?_
      refine aw_get C (k := 6) fc_8 (lc_13 E) rfl (by decide) tb_172 (by decide +kernel) rfl ?_
      refine aw_iconst C (i0 := 1) (v := 1) (by decide) (by decide +kernel) rfl ?_
      refine aw_iadd C (by decide +kernel) rfl ?_
      obtain ⟨a6, ha6⟩ : ∃ z, z = (((sI (sI q2.2 22 (q2.2.1 13 9).toNatClampNeg v2) 13 9 a5).1 13 6) + (1 : Int32)) := ⟨_, rfl⟩
      refine aw_nmi ha6 ?_
      have hf := ilt ha6 hf
      refine aw_put C (k := 6) fc_8 (lc_13 E) rfl (by decide) rfl rfl tb_172 (by decide +kernel) rfl ?_
      obtain ⟨a7, ha7⟩ : ∃ z, z = (v1 + (1 : Int32)) := ⟨_, rfl⟩
      have hf := ilt ha7 hf
      refine aw_iinc C [(1, .int a7), (0, .ref (gad G 13)), (2, .int v2)] 1 (n := 1) rfl (by rw [ha7]; rfl) (by rw [hnL]; decide) rfl (by decide +kernel) rfl ?_
      refine aw_goto C (tgt := 2) (off := -132) (by decide +kernel) (by decide) ?_
      refine aw_sub [(0, .ref (gad G 13)), (1, .int a7)] [1, 0] rfl ?_
      exact hk2 a7 _ hf
theorem t_Rdr_readFolds_2 {G : Cx} (C : CX G prog_10_method_9_code "PaperStars$Reader") (CR0 : CR G (Option.none)) (E : LCin (gly G)) (hnL : gnL G = 3) (hgd : 2 ≤ gd G) {q : Unit × Mm} (hgr : gr G = none) (hgs : gsf G = q.2) (k2 : Int32 → Mm → Option (Unit × Mm)) (hk2 : ∀ (v1 : Int32) (st : Mm), k2 v1 st = some q → AW G st 2 [(0, .ref (gad G 13)), (1, .int v1)] []) (v1 : Int32) (st : Mm) (hf : b_Rdr_readFolds_2 k2 v1 st = some q) : AW G st 2 [(0, .ref (gad G 13)), (1, .int v1)] [] := by
  unfold b_Rdr_readFolds_2 at hf
  refine aw_iload_n C 1 1 (j := 1) rfl rfl (by decide +kernel) rfl ?_
  refine aw_sipush C (i0 := 160) (v := 160) (by decide) (by decide +kernel) rfl ?_
  refine aw_icmp_gt C (tgt := 137) (off := 131) (by decide +kernel) (by decide) rfl (fun c1 => ?_) (fun c1 => ?_)
  · have hf := ift c1 hf
    exact aw_vretq C CR0 hgr hgs hf (by decide +kernel)
  · have hf := iff_ c1 hf
    refine aw_aload_n C 0 0 (j := 0) rfl rfl (by decide +kernel) rfl ?_
    refine aw_get C (k := 7) fc_8 (lc_13 E) rfl (by decide) tb_173 (by decide +kernel) rfl ?_
    refine aw_if_ne C (tgt := 137) (off := 124) (by decide +kernel) (by decide) rfl (fun c2 => ?_) (fun c2 => ?_)
    · have hf := ift c2 hf
      refine aw_aload_n C 0 0 (j := 0) rfl rfl (by decide +kernel) rfl ?_
      obtain ⟨q3, hq3, hf⟩ := ibd hf
      refine aw_callV C (rest := []) (c_Rdr_look E _ q3 hq3) tb_484 yf_35 yi_35 (lc_13 E) [] rfl rfl _ rfl (Nat.le_trans (by decide) hgd) (Nat.le_of_ble_eq_true rfl) (by decide +kernel) rfl ?_
      show AW _ _ _ _ [.int q3.1]
      refine aw_istore_n C [(2, .int q3.1), (0, .ref (gad G 13)), (1, .int v1)] (j := 2) rfl (by rw [hnL]; decide) rfl (by decide +kernel) rfl ?_
      refine aw_iload_n C 2 0 (j := 2) rfl rfl (by decide +kernel) rfl ?_
      refine aw_bipush C (i0 := 58) (v := 58) (by decide) (by decide +kernel) rfl ?_
      refine aw_icmp_ne C (tgt := 38) (off := 14) (by decide +kernel) (by decide) rfl (fun c4 => ?_) (fun c4 => ?_)
      · have hf := ift c4 hf
        refine aw_aload_n C 0 1 (j := 0) rfl rfl (by decide +kernel) rfl ?_
        refine aw_dup C rfl (by decide +kernel) rfl ?_
        refine aw_get C (k := 6) fc_8 (lc_13 E) rfl (by decide) tb_172 (by decide +kernel) rfl ?_
        refine aw_iconst C (i0 := 1) (v := 1) (by decide) (by decide +kernel) rfl ?_
        refine aw_iadd C (by decide +kernel) rfl ?_
        obtain ⟨a5, ha5⟩ : ∃ z, z = ((q3.2.1 13 6) + (1 : Int32)) := ⟨_, rfl⟩
        refine aw_nmi ha5 ?_
        have hf := ilt ha5 hf
        refine aw_put C (k := 6) fc_8 (lc_13 E) rfl (by decide) rfl rfl tb_172 (by decide +kernel) rfl ?_
        exact aw_vretq C CR0 hgr hgs hf (by decide +kernel)
      · have hf := iff_ c4 hf
        refine aw_iload_n C 2 0 (j := 2) rfl rfl (by decide +kernel) rfl ?_
        refine aw_bipush C (i0 := 104) (v := 104) (by decide) (by decide +kernel) rfl ?_
        refine aw_icmp_eq C (tgt := 68) (off := 27) (by decide +kernel) (by decide) rfl (fun c6 => ?_) (fun c6 => ?_)
        · have hf := ift c6 hf
          refine aw_sub [(0, .ref (gad G 13)), (1, .int v1), (2, .int q3.1)] [1, 2, 0] rfl ?_
          exact t_Rdr_readFolds_68 C CR0 E hnL hgd hgr hgs k2 hk2 v1 q3.1 _ hf
        · have hf := iff_ c6 hf
          refine aw_iload_n C 2 0 (j := 2) rfl rfl (by decide +kernel) rfl ?_
          refine aw_bipush C (i0 := 118) (v := 118) (by decide) (by decide +kernel) rfl ?_
          refine aw_icmp_eq C (tgt := 68) (off := 21) (by decide +kernel) (by decide) rfl (fun c7 => ?_) (fun c7 => ?_)
          · have hf := ift c7 hf
            refine aw_sub [(0, .ref (gad G 13)), (1, .int v1), (2, .int q3.1)] [1, 2, 0] rfl ?_
            exact t_Rdr_readFolds_68 C CR0 E hnL hgd hgr hgs k2 hk2 v1 q3.1 _ hf
          · have hf := iff_ c7 hf
            refine aw_iload_n C 2 0 (j := 2) rfl rfl (by decide +kernel) rfl ?_
            refine aw_bipush C (i0 := 100) (v := 100) (by decide) (by decide +kernel) rfl ?_
            refine aw_icmp_eq C (tgt := 68) (off := 15) (by decide +kernel) (by decide) rfl (fun c8 => ?_) (fun c8 => ?_)
            · have hf := ift c8 hf
              refine aw_sub [(0, .ref (gad G 13)), (1, .int v1), (2, .int q3.1)] [1, 2, 0] rfl ?_
              exact t_Rdr_readFolds_68 C CR0 E hnL hgd hgr hgs k2 hk2 v1 q3.1 _ hf
            · have hf := iff_ c8 hf
              refine aw_aload_n C 0 1 (j := 0) rfl rfl (by decide +kernel) rfl ?_
              refine aw_iconst C (i0 := 1) (v := 1) (by decide) (by decide +kernel) rfl ?_
              refine aw_aload_n C 0 1 (j := 0) rfl rfl (by decide +kernel) rfl ?_
              refine aw_get C (k := 6) fc_8 (lc_13 E) rfl (by decide) tb_172 (by decide +kernel) rfl ?_
              obtain ⟨q9, hq9, hf⟩ := ibd hf
              refine aw_callV C (rest := []) (c_Rdr_fail E (1 : Int32) (q3.2.1 13 6) _ q9 hq9) tb_488 yf_36 yi_36 (lc_13 E) [.int (1 : Int32), .int (q3.2.1 13 6)] rfl rfl _ rfl (Nat.le_trans (by decide) hgd) (Nat.le_of_ble_eq_true rfl) (by decide +kernel) rfl ?_
              show AW _ _ _ _ []
              refine aw_goto C (tgt := 131) (off := 66) (by decide +kernel) (by decide) ?_
              obtain ⟨a10, ha10⟩ : ∃ z, z = (v1 + (1 : Int32)) := ⟨_, rfl⟩
              have hf := ilt ha10 hf
              refine aw_iinc C [(1, .int a10), (2, .int q3.1), (0, .ref (gad G 13))] 2 (n := 1) rfl (by rw [ha10]; rfl) (by rw [hnL]; decide) rfl (by decide +kernel) rfl ?_
              refine aw_goto C (tgt := 2) (off := -132) (by decide +kernel) (by decide) ?_
              refine aw_sub [(0, .ref (gad G 13)), (1, .int a10)] [2, 0] rfl ?_
              exact hk2 a10 _ hf
    · have hf := iff_ c2 hf
      exact aw_vretq C CR0 hgr hgs hf (by decide +kernel)
theorem u_Rdr_readFolds_2 {G : Cx} (C : CX G prog_10_method_9_code "PaperStars$Reader") (CR0 : CR G (Option.none)) (E : LCin (gly G)) (hnL : gnL G = 3) (hgd : 2 ≤ gd G) {q : Unit × Mm} (hgr : gr G = none) (hgs : gsf G = q.2) : ∀ (n : Nat) (v1 : Int32) (st : Mm), f_Rdr_readFolds_2 n v1 st = some q → AW G st 2 [(0, .ref (gad G 13)), (1, .int v1)] [] := by
  intro n
  induction n with
  | zero => intro v1 st hf; cases hf
  | succ n ih => intro v1 st hf; exact t_Rdr_readFolds_2 C CR0 E hnL hgd hgr hgs (f_Rdr_readFolds_2 n) ih v1 st hf
theorem t_Rdr_readFolds {G : Cx} (C : CX G prog_10_method_9_code "PaperStars$Reader") (CR0 : CR G (Option.none)) (E : LCin (gly G)) (hnL : gnL G = 3) (hgd : 2 ≤ gd G) {q : Unit × Mm} (hgr : gr G = none) (hgs : gsf G = q.2) (st : Mm) (hf : f_Rdr_readFolds st = some q) : AW G st 0 [(0, .ref (gad G 13))] [] := by
  unfold f_Rdr_readFolds at hf
  refine aw_iconst C (i0 := 0) (v := 0) (by decide) (by decide +kernel) rfl ?_
  refine aw_istore_n C [(1, .int (0 : Int32)), (0, .ref (gad G 13))] (j := 1) rfl (by rw [hnL]; decide) rfl (by decide +kernel) rfl ?_
  refine aw_sub [(0, .ref (gad G 13)), (1, .int (0 : Int32))] [1, 0] rfl ?_
  exact u_Rdr_readFolds_2 C CR0 E hnL hgd hgr hgs _ (0 : Int32) _ hf
theorem c_Rdr_readFolds {lay : Ly} (E : LCin lay) (st : Mm) (q : Unit × Mm) (hf : f_Rdr_readFolds st = some q) : Con 2 Y34 prog_10_method_9_code 3 (Option.none) lay (fun ad => [.ref (ad 13)]) st (none) q.2 :=
  am_met yf_34.2.2.2.2.2 (fun ad => Nat.le_of_ble_eq_true rfl) (fun G C CR0 e1 e2 e3 e4 e5 => t_Rdr_readFolds C CR0 (by rw [e1]; exact E) e2 (Nat.le_of_eq e5.symm) e3 e4 st hf)
def f_Rdr_seesDigit (st : Mm) : Option (Int32 × Mm) :=
  if (st.1 13 6) < 0 then (some ((0 : Int32), st)) else (if (st.1 13 5) ≤ (st.1 13 6) then (some ((0 : Int32), st)) else (if inb (st.1 13 6) 160 then if (st.1 21 (st.1 13 6).toNatClampNeg) < (48 : Int32) then (some ((0 : Int32), st)) else (if inb (st.1 13 6) 160 then if (57 : Int32) < (st.1 21 (st.1 13 6).toNatClampNeg) then (some ((0 : Int32), st)) else (some ((1 : Int32), st)) else none) else none))
theorem t_Rdr_seesDigit {G : Cx} (C : CX G prog_10_method_6_code "PaperStars$Reader") (CR0 : CR G (Option.some FieldType.boolean)) (E : LCin (gly G)) (hnL : gnL G = 1) (hgd : 0 ≤ gd G) {q : Int32 × Mm} (hgr : gr G = some (.int q.1)) (hgs : gsf G = q.2) (st : Mm) (hf : f_Rdr_seesDigit st = some q) : AW G st 0 [(0, .ref (gad G 13))] [] := by
  unfold f_Rdr_seesDigit at hf
  refine aw_aload_n C 0 0 (j := 0) rfl rfl (by decide +kernel) rfl ?_
  refine aw_get C (k := 6) fc_8 (lc_13 E) rfl (by decide) tb_172 (by decide +kernel) rfl ?_
  refine aw_if_lt C (tgt := 50) (off := 46) (by decide +kernel) (by decide) rfl (fun c1 => ?_) (fun c1 => ?_)
  · have hf := ift c1 hf
    refine aw_iconst C (i0 := 0) (v := 0) (by decide) (by decide +kernel) rfl ?_
    exact aw_zretq C CR0 hgr hgs (by decide) hf (by decide +kernel)
  · have hf := iff_ c1 hf
    refine aw_aload_n C 0 0 (j := 0) rfl rfl (by decide +kernel) rfl ?_
    refine aw_get C (k := 6) fc_8 (lc_13 E) rfl (by decide) tb_172 (by decide +kernel) rfl ?_
    refine aw_aload_n C 0 0 (j := 0) rfl rfl (by decide +kernel) rfl ?_
    refine aw_get C (k := 5) fc_8 (lc_13 E) rfl (by decide) tb_171 (by decide +kernel) rfl ?_
    refine aw_icmp_ge C (tgt := 50) (off := 35) (by decide +kernel) (by decide) rfl (fun c2 => ?_) (fun c2 => ?_)
    · have hf := ift c2 hf
      refine aw_iconst C (i0 := 0) (v := 0) (by decide) (by decide +kernel) rfl ?_
      exact aw_zretq C CR0 hgr hgs (by decide) hf (by decide +kernel)
    · have hf := iff_ c2 hf
      refine aw_aload_n C 0 0 (j := 0) rfl rfl (by decide +kernel) rfl ?_
      refine aw_getr C (k := 2) fc_8 (lc_13 E) rfl (by decide) tb_168 (by decide +kernel) rfl ?_
      refine aw_aload_n C 0 0 (j := 0) rfl rfl (by decide +kernel) rfl ?_
      refine aw_get C (k := 6) fc_8 (lc_13 E) rfl (by decide) tb_172 (by decide +kernel) rfl ?_
      obtain ⟨g3, hf⟩ := igd hf
      refine aw_iald C (lc_21 E) g3 (by decide +kernel) rfl ?_
      refine aw_bipush C (i0 := 48) (v := 48) (by decide) (by decide +kernel) rfl ?_
      refine aw_icmp_lt C (tgt := 50) (off := 21) (by decide +kernel) (by decide) rfl (fun c4 => ?_) (fun c4 => ?_)
      · have hf := ift c4 hf
        refine aw_iconst C (i0 := 0) (v := 0) (by decide) (by decide +kernel) rfl ?_
        exact aw_zretq C CR0 hgr hgs (by decide) hf (by decide +kernel)
      · have hf := iff_ c4 hf
        refine aw_aload_n C 0 0 (j := 0) rfl rfl (by decide +kernel) rfl ?_
        refine aw_getr C (k := 2) fc_8 (lc_13 E) rfl (by decide) tb_168 (by decide +kernel) rfl ?_
        refine aw_aload_n C 0 0 (j := 0) rfl rfl (by decide +kernel) rfl ?_
        refine aw_get C (k := 6) fc_8 (lc_13 E) rfl (by decide) tb_172 (by decide +kernel) rfl ?_
        obtain ⟨g5, hf⟩ := igd hf
        refine aw_iald C (lc_21 E) g5 (by decide +kernel) rfl ?_
        refine aw_bipush C (i0 := 57) (v := 57) (by decide) (by decide +kernel) rfl ?_
        refine aw_icmp_gt C (tgt := 50) (off := 7) (by decide +kernel) (by decide) rfl (fun c6 => ?_) (fun c6 => ?_)
        · have hf := ift c6 hf
          refine aw_iconst C (i0 := 0) (v := 0) (by decide) (by decide +kernel) rfl ?_
          exact aw_zretq C CR0 hgr hgs (by decide) hf (by decide +kernel)
        · have hf := iff_ c6 hf
          refine aw_iconst C (i0 := 1) (v := 1) (by decide) (by decide +kernel) rfl ?_
          refine aw_goto C (tgt := 51) (off := 4) (by decide +kernel) (by decide) ?_
          exact aw_zretq C CR0 hgr hgs (by decide) hf (by decide +kernel)
theorem c_Rdr_seesDigit {lay : Ly} (E : LCin lay) (st : Mm) (q : Int32 × Mm) (hf : f_Rdr_seesDigit st = some q) : Con 0 Y49 prog_10_method_6_code 1 (Option.some FieldType.boolean) lay (fun ad => [.ref (ad 13)]) st (some (.int q.1)) q.2 :=
  am_met yf_49.2.2.2.2.2 (fun ad => Nat.le_of_ble_eq_true rfl) (fun G C CR0 e1 e2 e3 e4 e5 => t_Rdr_seesDigit C CR0 (by rw [e1]; exact E) e2 (Nat.le_of_eq e5.symm) e3 e4 st hf)
def b_Rdr_readOneOrTwoDigits_20 (k20 : Int32 → Int32 → Mm → Option (Int32 × Mm)) (v1 : Int32) (v2 : Int32) (st : Mm) : Option (Int32 × Mm) :=
  if (2 : Int32) ≤ v2 then (some (v1, st)) else (if (st.1 13 7) = 0 then ((f_Rdr_seesDigit st).bind (fun q3 => if q3.1 = 0 then (some (v1, q3.2)) else ((f_Rdr_look q3.2).bind (fun q5 => lt_ ((((10 : Int32) * v1) + q5.1) - (48 : Int32)) (fun a6 => lt_ ((q5.2.1 13 6) + (1 : Int32)) (fun a7 => lt_ (v2 + (1 : Int32)) (fun a8 => k20 a6 a8 (sI q5.2 13 6 a7)))))))) else (some (v1, st)))
def f_Rdr_readOneOrTwoDigits_20 : Nat → Int32 → Int32 → Mm → Option (Int32 × Mm)
  | 0 => fun _ _ _ => none
  | n + 1 => b_Rdr_readOneOrTwoDigits_20 (f_Rdr_readOneOrTwoDigits_20 n)
def f_Rdr_readOneOrTwoDigits (st : Mm) : Option (Int32 × Mm) :=
  (f_Rdr_seesDigit st).bind (fun q1 => if q1.1 = 0 then ((f_Rdr_fail (1 : Int32) (q1.2.1 13 6) q1.2).bind (fun q3 => f_Rdr_readOneOrTwoDigits_20 1000000 (0 : Int32) (0 : Int32) q3.2)) else (f_Rdr_readOneOrTwoDigits_20 1000000 (0 : Int32) (0 : Int32) q1.2))
theorem t_Rdr_readOneOrTwoDigits_20 {G : Cx} (C : CX G prog_10_method_14_code "PaperStars$Reader") (CR0 : CR G (Option.some FieldType.int)) (E : LCin (gly G)) (hnL : gnL G = 3) (hgd : 1 ≤ gd G) {q : Int32 × Mm} (hgr : gr G = some (.int q.1)) (hgs : gsf G = q.2) (k20 : Int32 → Int32 → Mm → Option (Int32 × Mm)) (hk20 : ∀ (v1 : Int32) (v2 : Int32) (st : Mm), k20 v1 v2 st = some q → AW G st 20 [(0, .ref (gad G 13)), (1, .int v1), (2, .int v2)] []) (v1 : Int32) (v2 : Int32) (st : Mm) (hf : b_Rdr_readOneOrTwoDigits_20 k20 v1 v2 st = some q) : AW G st 20 [(0, .ref (gad G 13)), (1, .int v1), (2, .int v2)] [] := by
  unfold b_Rdr_readOneOrTwoDigits_20 at hf
  refine aw_iload_n C 2 2 (j := 2) rfl rfl (by decide +kernel) rfl ?_
  refine aw_iconst C (i0 := 2) (v := 2) (by decide) (by decide +kernel) rfl ?_
  refine aw_icmp_ge C (tgt := 68) (off := 46) (by decide +kernel) (by decide) rfl (fun c1 => ?_) (fun c1 => ?_)
  · have hf := ift c1 hf
    refine aw_iload_n C 1 1 (j := 1) rfl rfl (by decide +kernel) rfl ?_
    exact aw_iretq C CR0 hgr hgs hf (by decide +kernel)
  · have hf := iff_ c1 hf
    refine aw_aload_n C 0 0 (j := 0) rfl rfl (by decide +kernel) rfl ?_
    refine aw_get C (k := 7) fc_8 (lc_13 E) rfl (by decide) tb_173 (by decide +kernel) rfl ?_
    refine aw_if_ne C (tgt := 68) (off := 39) (by decide +kernel) (by decide) rfl (fun c2 => ?_) (fun c2 => ?_)
    · have hf := ift c2 hf
      refine aw_aload_n C 0 0 (j := 0) rfl rfl (by decide +kernel) rfl ?_
      obtain ⟨q3, hq3, hf⟩ := ibd hf
      refine aw_callV C (rest := []) (c_Rdr_seesDigit E _ q3 hq3) tb_541 yf_49 yi_49 (lc_13 E) [] rfl rfl _ rfl (Nat.le_trans (by decide) hgd) (Nat.le_of_ble_eq_true rfl) (by decide +kernel) rfl ?_
      show AW _ _ _ _ [.int q3.1]
      refine aw_if_eq C (tgt := 68) (off := 32) (by decide +kernel) (by decide) rfl (fun c4 => ?_) (fun c4 => ?_)
      · have hf := ift c4 hf
        refine aw_iload_n C 1 1 (j := 1) rfl rfl (by decide +kernel) rfl ?_
        exact aw_iretq C CR0 hgr hgs hf (by decide +kernel)
      · have hf := iff_ c4 hf
        refine aw_bipush C (i0 := 10) (v := 10) (by decide) (by decide +kernel) rfl ?_
        refine aw_iload_n C 1 1 (j := 1) rfl rfl (by decide +kernel) rfl ?_
        refine aw_imul C (by decide +kernel) rfl ?_
        refine aw_aload_n C 0 0 (j := 0) rfl rfl (by decide +kernel) rfl ?_
        obtain ⟨q5, hq5, hf⟩ := ibd hf
        refine aw_callV C (rest := [.int ((10 : Int32) * v1)]) (c_Rdr_look E _ q5 hq5) tb_484 yf_35 yi_35 (lc_13 E) [] rfl rfl _ rfl (Nat.le_trans (by decide) hgd) (Nat.le_of_ble_eq_true rfl) (by decide +kernel) rfl ?_
        show AW _ _ _ _ [.int q5.1, .int ((10 : Int32) * v1)]
        refine aw_iadd C (by decide +kernel) rfl ?_
        refine aw_bipush C (i0 := 48) (v := 48) (by decide) (by decide +kernel) rfl ?_
        refine aw_isub C (by decide +kernel) rfl ?_
        obtain ⟨a6, ha6⟩ : ∃ z, z = ((((10 : Int32) * v1) + q5.1) - (48 : Int32)) := ⟨_, rfl⟩
        refine aw_nmi ha6 ?_
        have hf := ilt ha6 hf
        refine aw_istore_n C [(1, .int a6), (0, .ref (gad G 13)), (2, .int v2)] (j := 1) rfl (by rw [hnL]; decide) rfl (by decide +kernel) rfl ?_
        refine aw_aload_n C 0 1 (j := 0) rfl rfl (by decide +kernel) rfl ?_
        refine aw_dup C rfl (by decide +kernel) rfl ?_
        refine aw_get C (k := 6) fc_8 (lc_13 E) rfl (by decide) tb_172 (by decide +kernel) rfl ?_
        refine aw_iconst C (i0 := 1) (v := 1) (by decide) (by decide +kernel) rfl ?_
        refine aw_iadd C (by decide +kernel) rfl ?_
        obtain ⟨a7, ha7⟩ : ∃ z, z = ((q5.2.1 13 6) + (1 : Int32)) := ⟨_, rfl⟩
        refine aw_nmi ha7 ?_
        have hf := ilt ha7 hf
        refine aw_put C (k := 6) fc_8 (lc_13 E) rfl (by decide) rfl rfl tb_172 (by decide +kernel) rfl ?_
        obtain ⟨a8, ha8⟩ : ∃ z, z = (v2 + (1 : Int32)) := ⟨_, rfl⟩
        have hf := ilt ha8 hf
        refine aw_iinc C [(2, .int a8), (1, .int a6), (0, .ref (gad G 13))] 2 (n := 1) rfl (by rw [ha8]; rfl) (by rw [hnL]; decide) rfl (by decide +kernel) rfl ?_
        refine aw_goto C (tgt := 20) (off := -45) (by decide +kernel) (by decide) ?_
        refine aw_sub [(0, .ref (gad G 13)), (1, .int a6), (2, .int a8)] [2, 1, 0] rfl ?_
        exact hk20 a6 a8 _ hf
    · have hf := iff_ c2 hf
      refine aw_iload_n C 1 1 (j := 1) rfl rfl (by decide +kernel) rfl ?_
      exact aw_iretq C CR0 hgr hgs hf (by decide +kernel)
theorem u_Rdr_readOneOrTwoDigits_20 {G : Cx} (C : CX G prog_10_method_14_code "PaperStars$Reader") (CR0 : CR G (Option.some FieldType.int)) (E : LCin (gly G)) (hnL : gnL G = 3) (hgd : 1 ≤ gd G) {q : Int32 × Mm} (hgr : gr G = some (.int q.1)) (hgs : gsf G = q.2) : ∀ (n : Nat) (v1 : Int32) (v2 : Int32) (st : Mm), f_Rdr_readOneOrTwoDigits_20 n v1 v2 st = some q → AW G st 20 [(0, .ref (gad G 13)), (1, .int v1), (2, .int v2)] [] := by
  intro n
  induction n with
  | zero => intro v1 v2 st hf; cases hf
  | succ n ih => intro v1 v2 st hf; exact t_Rdr_readOneOrTwoDigits_20 C CR0 E hnL hgd hgr hgs (f_Rdr_readOneOrTwoDigits_20 n) ih v1 v2 st hf
theorem t_Rdr_readOneOrTwoDigits {G : Cx} (C : CX G prog_10_method_14_code "PaperStars$Reader") (CR0 : CR G (Option.some FieldType.int)) (E : LCin (gly G)) (hnL : gnL G = 3) (hgd : 1 ≤ gd G) {q : Int32 × Mm} (hgr : gr G = some (.int q.1)) (hgs : gsf G = q.2) (st : Mm) (hf : f_Rdr_readOneOrTwoDigits st = some q) : AW G st 0 [(0, .ref (gad G 13))] [] := by
  unfold f_Rdr_readOneOrTwoDigits at hf
  refine aw_aload_n C 0 0 (j := 0) rfl rfl (by decide +kernel) rfl ?_
  obtain ⟨q1, hq1, hf⟩ := ibd hf
  refine aw_callV C (rest := []) (c_Rdr_seesDigit E _ q1 hq1) tb_541 yf_49 yi_49 (lc_13 E) [] rfl rfl _ rfl (Nat.le_trans (by decide) hgd) (Nat.le_of_ble_eq_true rfl) (by decide +kernel) rfl ?_
  show AW _ _ _ _ [.int q1.1]
  refine aw_if_ne C (tgt := 16) (off := 12) (by decide +kernel) (by decide) rfl (fun c2 => ?_) (fun c2 => ?_)
  · have hf := ift c2 hf
    refine aw_aload_n C 0 0 (j := 0) rfl rfl (by decide +kernel) rfl ?_
    refine aw_iconst C (i0 := 1) (v := 1) (by decide) (by decide +kernel) rfl ?_
    refine aw_aload_n C 0 0 (j := 0) rfl rfl (by decide +kernel) rfl ?_
    refine aw_get C (k := 6) fc_8 (lc_13 E) rfl (by decide) tb_172 (by decide +kernel) rfl ?_
    obtain ⟨q3, hq3, hf⟩ := ibd hf
    refine aw_callV C (rest := []) (c_Rdr_fail E (1 : Int32) (q1.2.1 13 6) _ q3 hq3) tb_488 yf_36 yi_36 (lc_13 E) [.int (1 : Int32), .int (q1.2.1 13 6)] rfl rfl _ rfl (Nat.le_trans (by decide) hgd) (Nat.le_of_ble_eq_true rfl) (by decide +kernel) rfl ?_
    show AW _ _ _ _ []
    refine aw_iconst C (i0 := 0) (v := 0) (by decide) (by decide +kernel) rfl ?_
    refine aw_istore_n C [(1, .int (0 : Int32)), (0, .ref (gad G 13))] (j := 1) rfl (by rw [hnL]; decide) rfl (by decide +kernel) rfl ?_
    refine aw_iconst C (i0 := 0) (v := 0) (by decide) (by decide +kernel) rfl ?_
    refine aw_istore_n C [(2, .int (0 : Int32)), (1, .int (0 : Int32)), (0, .ref (gad G 13))] (j := 2) rfl (by rw [hnL]; decide) rfl (by decide +kernel) rfl ?_
    refine aw_sub [(0, .ref (gad G 13)), (1, .int (0 : Int32)), (2, .int (0 : Int32))] [2, 1, 0] rfl ?_
    exact u_Rdr_readOneOrTwoDigits_20 C CR0 E hnL hgd hgr hgs _ (0 : Int32) (0 : Int32) _ hf
  · have hf := iff_ c2 hf
    refine aw_iconst C (i0 := 0) (v := 0) (by decide) (by decide +kernel) rfl ?_
    refine aw_istore_n C [(1, .int (0 : Int32)), (0, .ref (gad G 13))] (j := 1) rfl (by rw [hnL]; decide) rfl (by decide +kernel) rfl ?_
    refine aw_iconst C (i0 := 0) (v := 0) (by decide) (by decide +kernel) rfl ?_
    refine aw_istore_n C [(2, .int (0 : Int32)), (1, .int (0 : Int32)), (0, .ref (gad G 13))] (j := 2) rfl (by rw [hnL]; decide) rfl (by decide +kernel) rfl ?_
    refine aw_sub [(0, .ref (gad G 13)), (1, .int (0 : Int32)), (2, .int (0 : Int32))] [2, 1, 0] rfl ?_
    exact u_Rdr_readOneOrTwoDigits_20 C CR0 E hnL hgd hgr hgs _ (0 : Int32) (0 : Int32) _ hf
theorem c_Rdr_readOneOrTwoDigits {lay : Ly} (E : LCin lay) (st : Mm) (q : Int32 × Mm) (hf : f_Rdr_readOneOrTwoDigits st = some q) : Con 1 Y59 prog_10_method_14_code 3 (Option.some FieldType.int) lay (fun ad => [.ref (ad 13)]) st (some (.int q.1)) q.2 :=
  am_met yf_59.2.2.2.2.2 (fun ad => Nat.le_of_ble_eq_true rfl) (fun G C CR0 e1 e2 e3 e4 e5 => t_Rdr_readOneOrTwoDigits C CR0 (by rw [e1]; exact E) e2 (Nat.le_of_eq e5.symm) e3 e4 st hf)
def f_Rdr_take (v1 : Int32) (st : Mm) : Option (Unit × Mm) :=
  if (st.1 13 7) = 0 then ((f_Rdr_look st).bind (fun q2 => if q2.1 = v1 then (lt_ ((q2.2.1 13 6) + (1 : Int32)) (fun a4 => some ((), (sI q2.2 13 6 a4)))) else ((f_Rdr_fail (1 : Int32) (q2.2.1 13 6) q2.2).bind (fun q5 => some ((), q5.2))))) else (some ((), st))
theorem t_Rdr_take {G : Cx} (C : CX G prog_10_method_8_code "PaperStars$Reader") (CR0 : CR G (Option.none)) (E : LCin (gly G)) (hnL : gnL G = 2) (hgd : 1 ≤ gd G) {q : Unit × Mm} (hgr : gr G = none) (hgs : gsf G = q.2) (v1 : Int32) (st : Mm) (hf : f_Rdr_take v1 st = some q) : AW G st 0 [(0, .ref (gad G 13)), (1, .int v1)] [] := by
  unfold f_Rdr_take at hf
  refine aw_aload_n C 0 0 (j := 0) rfl rfl (by decide +kernel) rfl ?_
  refine aw_get C (k := 7) fc_8 (lc_13 E) rfl (by decide) tb_173 (by decide +kernel) rfl ?_
  refine aw_if_eq C (tgt := 8) (off := 4) (by decide +kernel) (by decide) rfl (fun c1 => ?_) (fun c1 => ?_)
  · have hf := ift c1 hf
    refine aw_aload_n C 0 0 (j := 0) rfl rfl (by decide +kernel) rfl ?_
    obtain ⟨q2, hq2, hf⟩ := ibd hf
    refine aw_callV C (rest := []) (c_Rdr_look E _ q2 hq2) tb_484 yf_35 yi_35 (lc_13 E) [] rfl rfl _ rfl (Nat.le_trans (by decide) hgd) (Nat.le_of_ble_eq_true rfl) (by decide +kernel) rfl ?_
    show AW _ _ _ _ [.int q2.1]
    refine aw_iload_n C 1 1 (j := 1) rfl rfl (by decide +kernel) rfl ?_
    refine aw_icmp_ne C (tgt := 29) (off := 16) (by decide +kernel) (by decide) rfl (fun c3 => ?_) (fun c3 => ?_)
    · have hf := ift c3 hf
      refine aw_aload_n C 0 0 (j := 0) rfl rfl (by decide +kernel) rfl ?_
      refine aw_dup C rfl (by decide +kernel) rfl ?_
      refine aw_get C (k := 6) fc_8 (lc_13 E) rfl (by decide) tb_172 (by decide +kernel) rfl ?_
      refine aw_iconst C (i0 := 1) (v := 1) (by decide) (by decide +kernel) rfl ?_
      refine aw_iadd C (by decide +kernel) rfl ?_
      obtain ⟨a4, ha4⟩ : ∃ z, z = ((q2.2.1 13 6) + (1 : Int32)) := ⟨_, rfl⟩
      refine aw_nmi ha4 ?_
      have hf := ilt ha4 hf
      refine aw_put C (k := 6) fc_8 (lc_13 E) rfl (by decide) rfl rfl tb_172 (by decide +kernel) rfl ?_
      refine aw_goto C (tgt := 38) (off := 12) (by decide +kernel) (by decide) ?_
      exact aw_vretq C CR0 hgr hgs hf (by decide +kernel)
    · have hf := iff_ c3 hf
      refine aw_aload_n C 0 0 (j := 0) rfl rfl (by decide +kernel) rfl ?_
      refine aw_iconst C (i0 := 1) (v := 1) (by decide) (by decide +kernel) rfl ?_
      refine aw_aload_n C 0 0 (j := 0) rfl rfl (by decide +kernel) rfl ?_
      refine aw_get C (k := 6) fc_8 (lc_13 E) rfl (by decide) tb_172 (by decide +kernel) rfl ?_
      obtain ⟨q5, hq5, hf⟩ := ibd hf
      refine aw_callV C (rest := []) (c_Rdr_fail E (1 : Int32) (q2.2.1 13 6) _ q5 hq5) tb_488 yf_36 yi_36 (lc_13 E) [.int (1 : Int32), .int (q2.2.1 13 6)] rfl rfl _ rfl (Nat.le_trans (by decide) hgd) (Nat.le_of_ble_eq_true rfl) (by decide +kernel) rfl ?_
      show AW _ _ _ _ []
      exact aw_vretq C CR0 hgr hgs hf (by decide +kernel)
  · have hf := iff_ c1 hf
    exact aw_vretq C CR0 hgr hgs hf (by decide +kernel)
theorem c_Rdr_take {lay : Ly} (E : LCin lay) (v1 : Int32) (st : Mm) (q : Unit × Mm) (hf : f_Rdr_take v1 st = some q) : Con 1 Y39 prog_10_method_8_code 2 (Option.none) lay (fun ad => [.ref (ad 13), .int v1]) st (none) q.2 :=
  am_met yf_39.2.2.2.2.2 (fun ad => Nat.le_of_ble_eq_true rfl) (fun G C CR0 e1 e2 e3 e4 e5 => t_Rdr_take C CR0 (by rw [e1]; exact E) e2 (Nat.le_of_eq e5.symm) e3 e4 v1 st hf)
def b_Rdr_readPlace_61 (v3 : Int32) (st : Mm) : Option (Unit × Mm) :=
  (f_Rdr_fail (6 : Int32) v3 st).bind (fun q1 => some ((), q1.2))
def f_Rdr_readPlace (v1 : Int32) (v2 : Int32) (st : Mm) : Option (Unit × Mm) :=
  lt_ (st.1 13 6) (fun a1 => (f_Rdr_readOneOrTwoDigits st).bind (fun q2 => (f_Rdr_take (44 : Int32) (sI q2.2 13 11 q2.1)).bind (fun q3 => (f_Rdr_readOneOrTwoDigits q3.2).bind (fun q4 => if ((sI q4.2 13 12 q4.1).1 13 11) < v1 then (b_Rdr_readPlace_61 a1 (sI q4.2 13 12 q4.1)) else (if ((sI q4.2 13 12 q4.1).1 13 12) < v2 then (b_Rdr_readPlace_61 a1 (sI q4.2 13 12 q4.1)) else ((f_Fold_holds 14 15 16 ((sI q4.2 13 12 q4.1).1 13 11) ((sI q4.2 13 12 q4.1).1 13 12) (sI q4.2 13 12 q4.1)).bind (fun q7 => if q7.1 = 0 then (b_Rdr_readPlace_61 a1 q7.2) else (some ((), q7.2)))))))))
theorem t_Rdr_readPlace_61 {G : Cx} (C : CX G prog_10_method_13_code "PaperStars$Reader") (CR0 : CR G (Option.none)) (E : LCin (gly G)) (hnL : gnL G = 4) (hgd : 2 ≤ gd G) {q : Unit × Mm} (hgr : gr G = none) (hgs : gsf G = q.2) (v3 : Int32) (st : Mm) (hf : b_Rdr_readPlace_61 v3 st = some q) : AW G st 61 [(0, .ref (gad G 13)), (3, .int v3)] [] := by
  unfold b_Rdr_readPlace_61 at hf
  refine aw_aload_n C 0 0 (j := 0) rfl rfl (by decide +kernel) rfl ?_
  refine aw_bipush C (i0 := 6) (v := 6) (by decide) (by decide +kernel) rfl ?_
  refine aw_iload_n C 3 1 (j := 3) rfl rfl (by decide +kernel) rfl ?_
  obtain ⟨q1, hq1, hf⟩ := ibd hf
  refine aw_callV C (rest := []) (c_Rdr_fail E (6 : Int32) v3 _ q1 hq1) tb_488 yf_36 yi_36 (lc_13 E) [.int (6 : Int32), .int v3] rfl rfl _ rfl (Nat.le_trans (by decide) hgd) (Nat.le_of_ble_eq_true rfl) (by decide +kernel) rfl ?_
  show AW _ _ _ _ []
  exact aw_vretq C CR0 hgr hgs hf (by decide +kernel)
theorem t_Rdr_readPlace {G : Cx} (C : CX G prog_10_method_13_code "PaperStars$Reader") (CR0 : CR G (Option.none)) (E : LCin (gly G)) (hnL : gnL G = 4) (hgd : 2 ≤ gd G) {q : Unit × Mm} (hgr : gr G = none) (hgs : gsf G = q.2) (v1 : Int32) (v2 : Int32) (st : Mm) (hf : f_Rdr_readPlace v1 v2 st = some q) : AW G st 0 [(0, .ref (gad G 13)), (1, .int v1), (2, .int v2)] [] := by
  unfold f_Rdr_readPlace at hf
  refine aw_aload_n C 0 0 (j := 0) rfl rfl (by decide +kernel) rfl ?_
  refine aw_get C (k := 6) fc_8 (lc_13 E) rfl (by decide) tb_172 (by decide +kernel) rfl ?_
  obtain ⟨a1, ha1⟩ : ∃ z, z = (st.1 13 6) := ⟨_, rfl⟩
  refine aw_nmi ha1 ?_
  have hf := ilt ha1 hf
  refine aw_istore_n C [(3, .int a1), (0, .ref (gad G 13)), (1, .int v1), (2, .int v2)] (j := 3) rfl (by rw [hnL]; decide) rfl (by decide +kernel) rfl ?_
  refine aw_aload_n C 0 1 (j := 0) rfl rfl (by decide +kernel) rfl ?_
  refine aw_aload_n C 0 1 (j := 0) rfl rfl (by decide +kernel) rfl ?_
  obtain ⟨q2, hq2, hf⟩ := ibd hf
  refine aw_callV C (rest := [.ref (gad G 13)]) (c_Rdr_readOneOrTwoDigits E _ q2 hq2) tb_583 yf_59 yi_59 (lc_13 E) [] rfl rfl _ rfl (Nat.le_trans (by decide) hgd) (Nat.le_of_ble_eq_true rfl) (by decide +kernel) rfl ?_
  show AW _ _ _ _ [.int q2.1, .ref (gad G 13)]
  refine aw_put C (k := 11) fc_8 (lc_13 E) rfl (by decide) rfl rfl tb_177 (by decide +kernel) rfl ?_
  refine aw_aload_n C 0 1 (j := 0) rfl rfl (by decide +kernel) rfl ?_
  refine aw_bipush C (i0 := 44) (v := 44) (by decide) (by decide +kernel) rfl ?_
  obtain ⟨q3, hq3, hf⟩ := ibd hf
  refine aw_callV C (rest := []) (c_Rdr_take E (44 : Int32) _ q3 hq3) tb_501 yf_39 yi_39 (lc_13 E) [.int (44 : Int32)] rfl rfl _ rfl (Nat.le_trans (by decide) hgd) (Nat.le_of_ble_eq_true rfl) (by decide +kernel) rfl ?_
  show AW _ _ _ _ []
  refine aw_aload_n C 0 1 (j := 0) rfl rfl (by decide +kernel) rfl ?_
  refine aw_aload_n C 0 1 (j := 0) rfl rfl (by decide +kernel) rfl ?_
  obtain ⟨q4, hq4, hf⟩ := ibd hf
  refine aw_callV C (rest := [.ref (gad G 13)]) (c_Rdr_readOneOrTwoDigits E _ q4 hq4) tb_583 yf_59 yi_59 (lc_13 E) [] rfl rfl _ rfl (Nat.le_trans (by decide) hgd) (Nat.le_of_ble_eq_true rfl) (by decide +kernel) rfl ?_
  show AW _ _ _ _ [.int q4.1, .ref (gad G 13)]
  refine aw_put C (k := 12) fc_8 (lc_13 E) rfl (by decide) rfl rfl tb_178 (by decide +kernel) rfl ?_
  refine aw_aload_n C 0 1 (j := 0) rfl rfl (by decide +kernel) rfl ?_
  refine aw_get C (k := 11) fc_8 (lc_13 E) rfl (by decide) tb_177 (by decide +kernel) rfl ?_
  refine aw_iload_n C 1 2 (j := 1) rfl rfl (by decide +kernel) rfl ?_
  refine aw_icmp_lt C (tgt := 61) (off := 29) (by decide +kernel) (by decide) rfl (fun c5 => ?_) (fun c5 => ?_)
  · have hf := ift c5 hf
    refine aw_sub [(0, .ref (gad G 13)), (3, .int a1)] [1, 0] rfl ?_
    exact t_Rdr_readPlace_61 C CR0 E hnL hgd hgr hgs a1 _ hf
  · have hf := iff_ c5 hf
    refine aw_aload_n C 0 1 (j := 0) rfl rfl (by decide +kernel) rfl ?_
    refine aw_get C (k := 12) fc_8 (lc_13 E) rfl (by decide) tb_178 (by decide +kernel) rfl ?_
    refine aw_iload_n C 2 3 (j := 2) rfl rfl (by decide +kernel) rfl ?_
    refine aw_icmp_lt C (tgt := 61) (off := 21) (by decide +kernel) (by decide) rfl (fun c6 => ?_) (fun c6 => ?_)
    · have hf := ift c6 hf
      refine aw_sub [(0, .ref (gad G 13)), (3, .int a1)] [1, 0] rfl ?_
      exact t_Rdr_readPlace_61 C CR0 E hnL hgd hgr hgs a1 _ hf
    · have hf := iff_ c6 hf
      refine aw_aload_n C 0 1 (j := 0) rfl rfl (by decide +kernel) rfl ?_
      refine aw_getr C (k := 0) fc_8 (lc_13 E) rfl (by decide) tb_166 (by decide +kernel) rfl ?_
      refine aw_aload_n C 0 1 (j := 0) rfl rfl (by decide +kernel) rfl ?_
      refine aw_get C (k := 11) fc_8 (lc_13 E) rfl (by decide) tb_177 (by decide +kernel) rfl ?_
      refine aw_aload_n C 0 1 (j := 0) rfl rfl (by decide +kernel) rfl ?_
      refine aw_get C (k := 12) fc_8 (lc_13 E) rfl (by decide) tb_178 (by decide +kernel) rfl ?_
      obtain ⟨q7, hq7, hf⟩ := ibd hf
      refine aw_callV C (rest := []) (c_Fold_holds 14 15 16 ⟨(lc_14 E), (lc_15 E), (lc_16 E)⟩ ((sI q4.2 13 12 q4.1).1 13 11) ((sI q4.2 13 12 q4.1).1 13 12) _ q7 hq7) tb_557 yf_21 yi_21 (lc_14 E) [.int ((sI q4.2 13 12 q4.1).1 13 11), .int ((sI q4.2 13 12 q4.1).1 13 12)] rfl rfl _ rfl (Nat.le_trans (by decide) hgd) (Nat.le_of_ble_eq_true rfl) (by decide +kernel) rfl ?_
      show AW _ _ _ _ [.int q7.1]
      refine aw_if_ne C (tgt := 68) (off := 10) (by decide +kernel) (by decide) rfl (fun c8 => ?_) (fun c8 => ?_)
      · have hf := ift c8 hf
        refine aw_sub [(0, .ref (gad G 13)), (3, .int a1)] [1, 0] rfl ?_
        exact t_Rdr_readPlace_61 C CR0 E hnL hgd hgr hgs a1 _ hf
      · have hf := iff_ c8 hf
        exact aw_vretq C CR0 hgr hgs hf (by decide +kernel)
theorem c_Rdr_readPlace {lay : Ly} (E : LCin lay) (v1 : Int32) (v2 : Int32) (st : Mm) (q : Unit × Mm) (hf : f_Rdr_readPlace v1 v2 st = some q) : Con 2 Y58 prog_10_method_13_code 4 (Option.none) lay (fun ad => [.ref (ad 13), .int v1, .int v2]) st (none) q.2 :=
  am_met yf_58.2.2.2.2.2 (fun ad => Nat.le_of_ble_eq_true rfl) (fun G C CR0 e1 e2 e3 e4 e5 => t_Rdr_readPlace C CR0 (by rw [e1]; exact E) e2 (Nat.le_of_eq e5.symm) e3 e4 v1 v2 st hf)
def b_Rdr_readBox_98 (k43 : Int32 → Int32 → Mm → Option (Unit × Mm)) (v2 : Int32) (v4 : Int32) (st : Mm) : Option (Unit × Mm) :=
  lt_ (v4 + (1 : Int32)) (fun a1 => k43 v2 a1 st)
def b_Rdr_readBox_55 (k43 : Int32 → Int32 → Mm → Option (Unit × Mm)) (k55 : Int32 → Int32 → Int32 → Mm → Option (Unit × Mm)) (v2 : Int32) (v4 : Int32) (v5 : Int32) (st : Mm) : Option (Unit × Mm) :=
  if (st.1 13 11) < v5 then (b_Rdr_readBox_98 k43 v2 v4 st) else ((f_Fold_holds 14 15 16 v5 v4 st).bind (fun q2 => if q2.1 = 0 then (lt_ (v5 + (1 : Int32)) (fun a4 => k55 v2 v4 a4 q2.2)) else (if inb v4 16 then lt_ ((q2.2.1 23 v4.toNatClampNeg) ||| ((1 : Int32) <<< (v5 &&& 31))) (fun a6 => if inb v4 16 then lt_ (v5 + (1 : Int32)) (fun a8 => k55 v2 v4 a8 (sI q2.2 23 v4.toNatClampNeg a6)) else none) else none)))
def f_Rdr_readBox_55 (k43 : Int32 → Int32 → Mm → Option (Unit × Mm)) : Nat → Int32 → Int32 → Int32 → Mm → Option (Unit × Mm)
  | 0 => fun _ _ _ _ => none
  | n + 1 => b_Rdr_readBox_55 k43 (f_Rdr_readBox_55 k43 n)
def b_Rdr_readBox_43 (k43 : Int32 → Int32 → Mm → Option (Unit × Mm)) (v2 : Int32) (v4 : Int32) (st : Mm) : Option (Unit × Mm) :=
  if (st.1 13 12) < v4 then (some ((), st)) else (f_Rdr_readBox_55 k43 1000000 v2 v4 v2 st)
def f_Rdr_readBox_43 : Nat → Int32 → Int32 → Mm → Option (Unit × Mm)
  | 0 => fun _ _ _ => none
  | n + 1 => b_Rdr_readBox_43 (f_Rdr_readBox_43 n)
def b_Rdr_readBox_32 (v2 : Int32) (v3 : Int32) (st : Mm) : Option (Unit × Mm) :=
  if (st.1 13 7) = 0 then (f_Rdr_readBox_43 1000000 v2 v3 st) else (some ((), st))
def f_Rdr_readBox (v1 : Int32) (st : Mm) : Option (Unit × Mm) :=
  (f_Rdr_readPlace (0 : Int32) (0 : Int32) st).bind (fun q1 => lt_ (q1.2.1 13 11) (fun a2 => lt_ (q1.2.1 13 12) (fun a3 => if v1 = 0 then (b_Rdr_readBox_32 a2 a3 q1.2) else ((f_Rdr_take (45 : Int32) q1.2).bind (fun q5 => (f_Rdr_readPlace a2 a3 q5.2).bind (fun q6 => b_Rdr_readBox_32 a2 a3 q6.2))))))
theorem t_Rdr_readBox_98 {G : Cx} (C : CX G prog_10_method_12_code "PaperStars$Reader") (CR0 : CR G (Option.none)) (E : LCin (gly G)) (hnL : gnL G = 6) (hgd : 3 ≤ gd G) {q : Unit × Mm} (hgr : gr G = none) (hgs : gsf G = q.2) (k43 : Int32 → Int32 → Mm → Option (Unit × Mm)) (hk43 : ∀ (v2 : Int32) (v4 : Int32) (st : Mm), k43 v2 v4 st = some q → AW G st 43 [(0, .ref (gad G 13)), (2, .int v2), (4, .int v4)] []) (v2 : Int32) (v4 : Int32) (st : Mm) (hf : b_Rdr_readBox_98 k43 v2 v4 st = some q) : AW G st 98 [(0, .ref (gad G 13)), (2, .int v2), (4, .int v4)] [] := by
  unfold b_Rdr_readBox_98 at hf
  obtain ⟨a1, ha1⟩ : ∃ z, z = (v4 + (1 : Int32)) := ⟨_, rfl⟩
  have hf := ilt ha1 hf
  refine aw_iinc C [(4, .int a1), (0, .ref (gad G 13)), (2, .int v2)] 2 (n := 1) rfl (by rw [ha1]; rfl) (by rw [hnL]; decide) rfl (by decide +kernel) rfl ?_
  refine aw_goto C (tgt := 43) (off := -58) (by decide +kernel) (by decide) ?_
  refine aw_sub [(0, .ref (gad G 13)), (2, .int v2), (4, .int a1)] [1, 2, 0] rfl ?_
  exact hk43 v2 a1 _ hf
theorem t_Rdr_readBox_55 {G : Cx} (C : CX G prog_10_method_12_code "PaperStars$Reader") (CR0 : CR G (Option.none)) (E : LCin (gly G)) (hnL : gnL G = 6) (hgd : 3 ≤ gd G) {q : Unit × Mm} (hgr : gr G = none) (hgs : gsf G = q.2) (k43 : Int32 → Int32 → Mm → Option (Unit × Mm)) (k55 : Int32 → Int32 → Int32 → Mm → Option (Unit × Mm)) (hk43 : ∀ (v2 : Int32) (v4 : Int32) (st : Mm), k43 v2 v4 st = some q → AW G st 43 [(0, .ref (gad G 13)), (2, .int v2), (4, .int v4)] []) (hk55 : ∀ (v2 : Int32) (v4 : Int32) (v5 : Int32) (st : Mm), k55 v2 v4 v5 st = some q → AW G st 55 [(0, .ref (gad G 13)), (2, .int v2), (4, .int v4), (5, .int v5)] []) (v2 : Int32) (v4 : Int32) (v5 : Int32) (st : Mm) (hf : b_Rdr_readBox_55 k43 k55 v2 v4 v5 st = some q) : AW G st 55 [(0, .ref (gad G 13)), (2, .int v2), (4, .int v4), (5, .int v5)] [] := by
  unfold b_Rdr_readBox_55 at hf
  refine aw_iload C 5 3 rfl (by decide +kernel) rfl ?_
  refine aw_aload_n C 0 0 (j := 0) rfl rfl (by decide +kernel) rfl ?_
  refine aw_get C (k := 11) fc_8 (lc_13 E) rfl (by decide) tb_177 (by decide +kernel) rfl ?_
  refine aw_icmp_gt C (tgt := 98) (off := 37) (by decide +kernel) (by decide) rfl (fun c1 => ?_) (fun c1 => ?_)
  · have hf := ift c1 hf
    refine aw_sub [(0, .ref (gad G 13)), (2, .int v2), (4, .int v4)] [0, 1, 2] rfl ?_
    exact t_Rdr_readBox_98 C CR0 E hnL hgd hgr hgs k43 hk43 v2 v4 _ hf
  · have hf := iff_ c1 hf
    refine aw_aload_n C 0 0 (j := 0) rfl rfl (by decide +kernel) rfl ?_
    refine aw_getr C (k := 0) fc_8 (lc_13 E) rfl (by decide) tb_166 (by decide +kernel) rfl ?_
    refine aw_iload C 5 3 rfl (by decide +kernel) rfl ?_
    refine aw_iload C 4 2 rfl (by decide +kernel) rfl ?_
    obtain ⟨q2, hq2, hf⟩ := ibd hf
    refine aw_callV C (rest := []) (c_Fold_holds 14 15 16 ⟨(lc_14 E), (lc_15 E), (lc_16 E)⟩ v5 v4 _ q2 hq2) tb_557 yf_21 yi_21 (lc_14 E) [.int v5, .int v4] rfl rfl _ rfl (Nat.le_trans (by decide) hgd) (Nat.le_of_ble_eq_true rfl) (by decide +kernel) rfl ?_
    show AW _ _ _ _ [.int q2.1]
    refine aw_if_eq C (tgt := 92) (off := 17) (by decide +kernel) (by decide) rfl (fun c3 => ?_) (fun c3 => ?_)
    · have hf := ift c3 hf
      obtain ⟨a4, ha4⟩ : ∃ z, z = (v5 + (1 : Int32)) := ⟨_, rfl⟩
      have hf := ilt ha4 hf
      refine aw_iinc C [(5, .int a4), (0, .ref (gad G 13)), (2, .int v2), (4, .int v4)] 3 (n := 1) rfl (by rw [ha4]; rfl) (by rw [hnL]; decide) rfl (by decide +kernel) rfl ?_
      refine aw_goto C (tgt := 55) (off := -40) (by decide +kernel) (by decide) ?_
      refine aw_sub [(0, .ref (gad G 13)), (2, .int v2), (4, .int v4), (5, .int a4)] [1, 2, 3, 0] rfl ?_
      exact hk55 v2 v4 a4 _ hf
    · have hf := iff_ c3 hf
      refine aw_aload_n C 0 0 (j := 0) rfl rfl (by decide +kernel) rfl ?_
      refine aw_getr C (k := 4) fc_8 (lc_13 E) rfl (by decide) tb_170 (by decide +kernel) rfl ?_
      refine aw_iload C 4 2 rfl (by decide +kernel) rfl ?_
      refine aw_dup2_11 C rfl rfl (by decide +kernel) rfl ?_
      obtain ⟨g5, hf⟩ := igd hf
      refine aw_iald C (lc_23 E) g5 (by decide +kernel) rfl ?_
      refine aw_iconst C (i0 := 1) (v := 1) (by decide) (by decide +kernel) rfl ?_
      refine aw_iload C 5 3 rfl (by decide +kernel) rfl ?_
      refine aw_ishl C (by decide +kernel) rfl ?_
      refine aw_ior C (by decide +kernel) rfl ?_
      obtain ⟨a6, ha6⟩ : ∃ z, z = ((q2.2.1 23 v4.toNatClampNeg) ||| ((1 : Int32) <<< (v5 &&& 31))) := ⟨_, rfl⟩
      refine aw_nmi ha6 ?_
      have hf := ilt ha6 hf
      obtain ⟨g7, hf⟩ := igd hf
      refine aw_iast C (lc_23 E) g7 (by decide +kernel) rfl ?_
      obtain ⟨a8, ha8⟩ : ∃ z, z = (v5 + (1 : Int32)) := ⟨_, rfl⟩
      have hf := ilt ha8 hf
      refine aw_iinc C [(5, .int a8), (0, .ref (gad G 13)), (2, .int v2), (4, .int v4)] 3 (n := 1) rfl (by rw [ha8]; rfl) (by rw [hnL]; decide) rfl (by decide +kernel) rfl ?_
      refine aw_goto C (tgt := 55) (off := -40) (by decide +kernel) (by decide) ?_
      refine aw_sub [(0, .ref (gad G 13)), (2, .int v2), (4, .int v4), (5, .int a8)] [1, 2, 3, 0] rfl ?_
      exact hk55 v2 v4 a8 _ hf
theorem u_Rdr_readBox_55 {G : Cx} (C : CX G prog_10_method_12_code "PaperStars$Reader") (CR0 : CR G (Option.none)) (E : LCin (gly G)) (hnL : gnL G = 6) (hgd : 3 ≤ gd G) {q : Unit × Mm} (hgr : gr G = none) (hgs : gsf G = q.2) (k43 : Int32 → Int32 → Mm → Option (Unit × Mm)) (hk43 : ∀ (v2 : Int32) (v4 : Int32) (st : Mm), k43 v2 v4 st = some q → AW G st 43 [(0, .ref (gad G 13)), (2, .int v2), (4, .int v4)] []) : ∀ (n : Nat) (v2 : Int32) (v4 : Int32) (v5 : Int32) (st : Mm), f_Rdr_readBox_55 k43 n v2 v4 v5 st = some q → AW G st 55 [(0, .ref (gad G 13)), (2, .int v2), (4, .int v4), (5, .int v5)] [] := by
  intro n
  induction n with
  | zero => intro v2 v4 v5 st hf; cases hf
  | succ n ih => intro v2 v4 v5 st hf; exact t_Rdr_readBox_55 C CR0 E hnL hgd hgr hgs k43 (f_Rdr_readBox_55 k43 n) hk43 ih v2 v4 v5 st hf
theorem t_Rdr_readBox_43 {G : Cx} (C : CX G prog_10_method_12_code "PaperStars$Reader") (CR0 : CR G (Option.none)) (E : LCin (gly G)) (hnL : gnL G = 6) (hgd : 3 ≤ gd G) {q : Unit × Mm} (hgr : gr G = none) (hgs : gsf G = q.2) (k43 : Int32 → Int32 → Mm → Option (Unit × Mm)) (hk43 : ∀ (v2 : Int32) (v4 : Int32) (st : Mm), k43 v2 v4 st = some q → AW G st 43 [(0, .ref (gad G 13)), (2, .int v2), (4, .int v4)] []) (v2 : Int32) (v4 : Int32) (st : Mm) (hf : b_Rdr_readBox_43 k43 v2 v4 st = some q) : AW G st 43 [(0, .ref (gad G 13)), (2, .int v2), (4, .int v4)] [] := by
  unfold b_Rdr_readBox_43 at hf
  refine aw_iload C 4 2 rfl (by decide +kernel) rfl ?_
  refine aw_aload_n C 0 0 (j := 0) rfl rfl (by decide +kernel) rfl ?_
  refine aw_get C (k := 12) fc_8 (lc_13 E) rfl (by decide) tb_178 (by decide +kernel) rfl ?_
  refine aw_icmp_gt C (tgt := 104) (off := 55) (by decide +kernel) (by decide) rfl (fun c1 => ?_) (fun c1 => ?_)
  · have hf := ift c1 hf
    exact aw_vretq C CR0 hgr hgs hf (by decide +kernel)
  · have hf := iff_ c1 hf
    refine aw_iload_n C 2 1 (j := 2) rfl rfl (by decide +kernel) rfl ?_
    refine aw_istore C [(5, .int v2), (0, .ref (gad G 13)), (2, .int v2), (4, .int v4)] (by rw [hnL]; decide) rfl (by decide +kernel) rfl ?_
    refine aw_sub [(0, .ref (gad G 13)), (2, .int v2), (4, .int v4), (5, .int v2)] [1, 2, 3, 0] rfl ?_
    exact u_Rdr_readBox_55 C CR0 E hnL hgd hgr hgs k43 hk43 _ v2 v4 v2 _ hf
theorem u_Rdr_readBox_43 {G : Cx} (C : CX G prog_10_method_12_code "PaperStars$Reader") (CR0 : CR G (Option.none)) (E : LCin (gly G)) (hnL : gnL G = 6) (hgd : 3 ≤ gd G) {q : Unit × Mm} (hgr : gr G = none) (hgs : gsf G = q.2) : ∀ (n : Nat) (v2 : Int32) (v4 : Int32) (st : Mm), f_Rdr_readBox_43 n v2 v4 st = some q → AW G st 43 [(0, .ref (gad G 13)), (2, .int v2), (4, .int v4)] [] := by
  intro n
  induction n with
  | zero => intro v2 v4 st hf; cases hf
  | succ n ih => intro v2 v4 st hf; exact t_Rdr_readBox_43 C CR0 E hnL hgd hgr hgs (f_Rdr_readBox_43 n) ih v2 v4 st hf
theorem t_Rdr_readBox_32 {G : Cx} (C : CX G prog_10_method_12_code "PaperStars$Reader") (CR0 : CR G (Option.none)) (E : LCin (gly G)) (hnL : gnL G = 6) (hgd : 3 ≤ gd G) {q : Unit × Mm} (hgr : gr G = none) (hgs : gsf G = q.2) (v2 : Int32) (v3 : Int32) (st : Mm) (hf : b_Rdr_readBox_32 v2 v3 st = some q) : AW G st 32 [(0, .ref (gad G 13)), (2, .int v2), (3, .int v3)] [] := by
  unfold b_Rdr_readBox_32 at hf
  refine aw_aload_n C 0 0 (j := 0) rfl rfl (by decide +kernel) rfl ?_
  refine aw_get C (k := 7) fc_8 (lc_13 E) rfl (by decide) tb_173 (by decide +kernel) rfl ?_
  refine aw_if_eq C (tgt := 40) (off := 4) (by decide +kernel) (by decide) rfl (fun c1 => ?_) (fun c1 => ?_)
  · have hf := ift c1 hf
    refine aw_iload_n C 3 2 (j := 3) rfl rfl (by decide +kernel) rfl ?_
    refine aw_istore C [(4, .int v3), (0, .ref (gad G 13)), (2, .int v2), (3, .int v3)] (by rw [hnL]; decide) rfl (by decide +kernel) rfl ?_
    refine aw_sub [(0, .ref (gad G 13)), (2, .int v2), (4, .int v3)] [1, 2, 0] rfl ?_
    exact u_Rdr_readBox_43 C CR0 E hnL hgd hgr hgs _ v2 v3 _ hf
  · have hf := iff_ c1 hf
    exact aw_vretq C CR0 hgr hgs hf (by decide +kernel)
theorem t_Rdr_readBox {G : Cx} (C : CX G prog_10_method_12_code "PaperStars$Reader") (CR0 : CR G (Option.none)) (E : LCin (gly G)) (hnL : gnL G = 6) (hgd : 3 ≤ gd G) {q : Unit × Mm} (hgr : gr G = none) (hgs : gsf G = q.2) (v1 : Int32) (st : Mm) (hf : f_Rdr_readBox v1 st = some q) : AW G st 0 [(0, .ref (gad G 13)), (1, .int v1)] [] := by
  unfold f_Rdr_readBox at hf
  refine aw_aload_n C 0 0 (j := 0) rfl rfl (by decide +kernel) rfl ?_
  refine aw_iconst C (i0 := 0) (v := 0) (by decide) (by decide +kernel) rfl ?_
  refine aw_iconst C (i0 := 0) (v := 0) (by decide) (by decide +kernel) rfl ?_
  obtain ⟨q1, hq1, hf⟩ := ibd hf
  refine aw_callV C (rest := []) (c_Rdr_readPlace E (0 : Int32) (0 : Int32) _ q1 hq1) tb_579 yf_58 yi_58 (lc_13 E) [.int (0 : Int32), .int (0 : Int32)] rfl rfl _ rfl (Nat.le_trans (by decide) hgd) (Nat.le_of_ble_eq_true rfl) (by decide +kernel) rfl ?_
  show AW _ _ _ _ []
  refine aw_aload_n C 0 0 (j := 0) rfl rfl (by decide +kernel) rfl ?_
  refine aw_get C (k := 11) fc_8 (lc_13 E) rfl (by decide) tb_177 (by decide +kernel) rfl ?_
  obtain ⟨a2, ha2⟩ : ∃ z, z = (q1.2.1 13 11) := ⟨_, rfl⟩
  refine aw_nmi ha2 ?_
  have hf := ilt ha2 hf
  refine aw_istore_n C [(2, .int a2), (0, .ref (gad G 13)), (1, .int v1)] (j := 2) rfl (by rw [hnL]; decide) rfl (by decide +kernel) rfl ?_
  refine aw_aload_n C 0 1 (j := 0) rfl rfl (by decide +kernel) rfl ?_
  refine aw_get C (k := 12) fc_8 (lc_13 E) rfl (by decide) tb_178 (by decide +kernel) rfl ?_
  obtain ⟨a3, ha3⟩ : ∃ z, z = (q1.2.1 13 12) := ⟨_, rfl⟩
  refine aw_nmi ha3 ?_
  have hf := ilt ha3 hf
  refine aw_istore_n C [(3, .int a3), (2, .int a2), (0, .ref (gad G 13)), (1, .int v1)] (j := 3) rfl (by rw [hnL]; decide) rfl (by decide +kernel) rfl ?_
  refine aw_iload_n C 1 3 (j := 1) rfl rfl (by decide +kernel) rfl ?_
  refine aw_if_eq C (tgt := 32) (off := 15) (by decide +kernel) (by decide) rfl (fun c4 => ?_) (fun c4 => ?_)
  · have hf := ift c4 hf
    refine aw_sub [(0, .ref (gad G 13)), (2, .int a2), (3, .int a3)] [2, 1, 0] rfl ?_
    exact t_Rdr_readBox_32 C CR0 E hnL hgd hgr hgs a2 a3 _ hf
  · have hf := iff_ c4 hf
    refine aw_aload_n C 0 2 (j := 0) rfl rfl (by decide +kernel) rfl ?_
    refine aw_bipush C (i0 := 45) (v := 45) (by decide) (by decide +kernel) rfl ?_
    obtain ⟨q5, hq5, hf⟩ := ibd hf
    refine aw_callV C (rest := []) (c_Rdr_take E (45 : Int32) _ q5 hq5) tb_501 yf_39 yi_39 (lc_13 E) [.int (45 : Int32)] rfl rfl _ rfl (Nat.le_trans (by decide) hgd) (Nat.le_of_ble_eq_true rfl) (by decide +kernel) rfl ?_
    show AW _ _ _ _ []
    refine aw_aload_n C 0 2 (j := 0) rfl rfl (by decide +kernel) rfl ?_
    refine aw_iload_n C 2 1 (j := 2) rfl rfl (by decide +kernel) rfl ?_
    refine aw_iload_n C 3 0 (j := 3) rfl rfl (by decide +kernel) rfl ?_
    obtain ⟨q6, hq6, hf⟩ := ibd hf
    refine aw_callV C (rest := []) (c_Rdr_readPlace E a2 a3 _ q6 hq6) tb_579 yf_58 yi_58 (lc_13 E) [.int a2, .int a3] rfl rfl _ rfl (Nat.le_trans (by decide) hgd) (Nat.le_of_ble_eq_true rfl) (by decide +kernel) rfl ?_
    show AW _ _ _ _ []
    refine aw_sub [(0, .ref (gad G 13)), (2, .int a2), (3, .int a3)] [2, 1, 0] rfl ?_
    exact t_Rdr_readBox_32 C CR0 E hnL hgd hgr hgs a2 a3 _ hf
theorem c_Rdr_readBox {lay : Ly} (E : LCin lay) (v1 : Int32) (st : Mm) (q : Unit × Mm) (hf : f_Rdr_readBox v1 st = some q) : Con 3 Y57 prog_10_method_12_code 6 (Option.none) lay (fun ad => [.ref (ad 13), .int v1]) st (none) q.2 :=
  am_met yf_57.2.2.2.2.2 (fun ad => Nat.le_of_ble_eq_true rfl) (fun G C CR0 e1 e2 e3 e4 e5 => t_Rdr_readBox C CR0 (by rw [e1]; exact E) e2 (Nat.le_of_eq e5.symm) e3 e4 v1 st hf)
def f_Cond_clear (st : Mm) : Option (Unit × Mm) :=
  some ((), (sI st 17 3 (0 : Int32)))
theorem t_Cond_clear {G : Cx} (C : CX G prog_2_method_2_code "PaperStars$Condition") (CR0 : CR G (Option.none)) (E : LCin (gly G)) (hnL : gnL G = 1) (hgd : 0 ≤ gd G) {q : Unit × Mm} (hgr : gr G = none) (hgs : gsf G = q.2) (st : Mm) (hf : f_Cond_clear st = some q) : AW G st 0 [(0, .ref (gad G 17))] [] := by
  unfold f_Cond_clear at hf
  refine aw_aload_n C 0 0 (j := 0) rfl rfl (by decide +kernel) rfl ?_
  refine aw_iconst C (i0 := 0) (v := 0) (by decide) (by decide +kernel) rfl ?_
  refine aw_put C (k := 3) fc_0 (lc_17 E) rfl (by decide) rfl rfl tb_147 (by decide +kernel) rfl ?_
  exact aw_vretq C CR0 hgr hgs hf (by decide +kernel)
theorem c_Cond_clear {lay : Ly} (E : LCin lay) (st : Mm) (q : Unit × Mm) (hf : f_Cond_clear st = some q) : Con 0 Y40 prog_2_method_2_code 1 (Option.none) lay (fun ad => [.ref (ad 17)]) st (none) q.2 :=
  am_met yf_40.2.2.2.2.2 (fun ad => Nat.le_of_ble_eq_true rfl) (fun G C CR0 e1 e2 e3 e4 e5 => t_Cond_clear C CR0 (by rw [e1]; exact E) e2 (Nat.le_of_eq e5.symm) e3 e4 st hf)
def f_Cond_push (v1 : Int32) (st : Mm) : Option (Unit × Mm) :=
  if (40 : Int32) ≤ (st.1 17 4) then (some ((), st)) else (if inb (st.1 17 4) 40 then lt_ (((sI st 20 (st.1 17 4).toNatClampNeg v1).1 17 4) + (1 : Int32)) (fun a3 => some ((), (sI (sI st 20 (st.1 17 4).toNatClampNeg v1) 17 4 a3))) else none)
theorem t_Cond_push {G : Cx} (C : CX G prog_2_method_6_code "PaperStars$Condition") (CR0 : CR G (Option.none)) (E : LCin (gly G)) (hnL : gnL G = 2) (hgd : 0 ≤ gd G) {q : Unit × Mm} (hgr : gr G = none) (hgs : gsf G = q.2) (v1 : Int32) (st : Mm) (hf : f_Cond_push v1 st = some q) : AW G st 0 [(0, .ref (gad G 17)), (1, .int v1)] [] := by
  unfold f_Cond_push at hf
  refine aw_aload_n C 0 0 (j := 0) rfl rfl (by decide +kernel) rfl ?_
  refine aw_get C (k := 4) fc_0 (lc_17 E) rfl (by decide) tb_148 (by decide +kernel) rfl ?_
  refine aw_bipush C (i0 := 40) (v := 40) (by decide) (by decide +kernel) rfl ?_
  refine aw_icmp_ge C (tgt := 29) (off := 23) (by decide +kernel) (by decide) rfl (fun c1 => ?_) (fun c1 => ?_)
  · have hf := ift c1 hf
    exact aw_vretq C CR0 hgr hgs hf (by decide +kernel)
  · have hf := iff_ c1 hf
    refine aw_aload_n C 0 0 (j := 0) rfl rfl (by decide +kernel) rfl ?_
    refine aw_getr C (k := 2) fc_0 (lc_17 E) rfl (by decide) tb_146 (by decide +kernel) rfl ?_
    refine aw_aload_n C 0 0 (j := 0) rfl rfl (by decide +kernel) rfl ?_
    refine aw_get C (k := 4) fc_0 (lc_17 E) rfl (by decide) tb_148 (by decide +kernel) rfl ?_
    refine aw_iload_n C 1 1 (j := 1) rfl rfl (by decide +kernel) rfl ?_
    obtain ⟨g2, hf⟩ := igd hf
    refine aw_iast C (lc_20 E) g2 (by decide +kernel) rfl ?_
    refine aw_aload_n C 0 0 (j := 0) rfl rfl (by decide +kernel) rfl ?_
    refine aw_dup C rfl (by decide +kernel) rfl ?_
    refine aw_get C (k := 4) fc_0 (lc_17 E) rfl (by decide) tb_148 (by decide +kernel) rfl ?_
    refine aw_iconst C (i0 := 1) (v := 1) (by decide) (by decide +kernel) rfl ?_
    refine aw_iadd C (by decide +kernel) rfl ?_
    obtain ⟨a3, ha3⟩ : ∃ z, z = (((sI st 20 (st.1 17 4).toNatClampNeg v1).1 17 4) + (1 : Int32)) := ⟨_, rfl⟩
    refine aw_nmi ha3 ?_
    have hf := ilt ha3 hf
    refine aw_put C (k := 4) fc_0 (lc_17 E) rfl (by decide) rfl rfl tb_148 (by decide +kernel) rfl ?_
    exact aw_vretq C CR0 hgr hgs hf (by decide +kernel)
theorem c_Cond_push {lay : Ly} (E : LCin lay) (v1 : Int32) (st : Mm) (q : Unit × Mm) (hf : f_Cond_push v1 st = some q) : Con 0 Y55 prog_2_method_6_code 2 (Option.none) lay (fun ad => [.ref (ad 17), .int v1]) st (none) q.2 :=
  am_met yf_55.2.2.2.2.2 (fun ad => Nat.le_of_ble_eq_true rfl) (fun G C CR0 e1 e2 e3 e4 e5 => t_Cond_push C CR0 (by rw [e1]; exact E) e2 (Nat.le_of_eq e5.symm) e3 e4 v1 st hf)
def f_Cond_reckon (v1 : Int32) (st : Mm) : Option (Unit × Mm) :=
  if (2 : Int32) ≤ (st.1 17 4) then (lt_ ((st.1 17 4) - (2 : Int32)) (fun a2 => if inb ((sI st 17 4 a2).1 17 4) 40 then lt_ ((sI st 17 4 a2).1 20 ((sI st 17 4 a2).1 17 4).toNatClampNeg) (fun a4 => if inb (((sI st 17 4 a2).1 17 4) + (1 : Int32)) 40 then lt_ ((sI st 17 4 a2).1 20 (((sI st 17 4 a2).1 17 4) + (1 : Int32)).toNatClampNeg) (fun a6 => if v1 = 42 then ((f_Cond_push (a4 * a6) (sI st 17 4 a2)).bind (fun q8 => some ((), q8.2))) else (if v1 = 43 then ((f_Cond_push (a4 + a6) (sI st 17 4 a2)).bind (fun q10 => some ((), q10.2))) else (if v1 = 45 then ((f_Cond_push (a4 - a6) (sI st 17 4 a2)).bind (fun q12 => some ((), q12.2))) else (if v1 = 60 then (if a6 ≤ a4 then (some ((), (sI (sI st 17 4 a2) 17 5 (0 : Int32)))) else (some ((), (sI (sI st 17 4 a2) 17 5 (1 : Int32))))) else (if v1 = 61 then (if a4 = a6 then (some ((), (sI (sI st 17 4 a2) 17 5 (1 : Int32)))) else (some ((), (sI (sI st 17 4 a2) 17 5 (0 : Int32))))) else (if v1 = 62 then (if a4 ≤ a6 then (some ((), (sI (sI st 17 4 a2) 17 5 (0 : Int32)))) else (some ((), (sI (sI st 17 4 a2) 17 5 (1 : Int32))))) else (if a6 = 0 then (some ((), (sI (sI st 17 4 a2) 17 6 (1 : Int32)))) else (if v1 = (47 : Int32) then (if ¬ a6 = 0 then (f_Cond_push (a4 / a6) (sI st 17 4 a2)).bind (fun q22 => some ((), q22.2)) else none) else (if ¬ a6 = 0 then (f_Cond_push (a4 - a4 / a6 * a6) (sI st 17 4 a2)).bind (fun q24 => some ((), q24.2)) else none))))))))) else none) else none)) else (some ((), (sI st 17 6 (1 : Int32))))
theorem t_Cond_reckon {G : Cx} (C : CX G prog_2_method_7_code "PaperStars$Condition") (CR0 : CR G (Option.none)) (E : LCin (gly G)) (hnL : gnL G = 4) (hgd : 1 ≤ gd G) {q : Unit × Mm} (hgr : gr G = none) (hgs : gsf G = q.2) (v1 : Int32) (st : Mm) (hf : f_Cond_reckon v1 st = some q) : AW G st 0 [(0, .ref (gad G 17)), (1, .int v1)] [] := by
  unfold f_Cond_reckon at hf
  refine aw_aload_n C 0 0 (j := 0) rfl rfl (by decide +kernel) rfl ?_
  refine aw_get C (k := 4) fc_0 (lc_17 E) rfl (by decide) tb_148 (by decide +kernel) rfl ?_
  refine aw_iconst C (i0 := 2) (v := 2) (by decide) (by decide +kernel) rfl ?_
  refine aw_icmp_ge C (tgt := 14) (off := 9) (by decide +kernel) (by decide) rfl (fun c1 => ?_) (fun c1 => ?_)
  · have hf := ift c1 hf
    refine aw_aload_n C 0 0 (j := 0) rfl rfl (by decide +kernel) rfl ?_
    refine aw_dup C rfl (by decide +kernel) rfl ?_
    refine aw_get C (k := 4) fc_0 (lc_17 E) rfl (by decide) tb_148 (by decide +kernel) rfl ?_
    refine aw_iconst C (i0 := 2) (v := 2) (by decide) (by decide +kernel) rfl ?_
    refine aw_isub C (by decide +kernel) rfl ?_
    obtain ⟨a2, ha2⟩ : ∃ z, z = ((st.1 17 4) - (2 : Int32)) := ⟨_, rfl⟩
    refine aw_nmi ha2 ?_
    have hf := ilt ha2 hf
    refine aw_put C (k := 4) fc_0 (lc_17 E) rfl (by decide) rfl rfl tb_148 (by decide +kernel) rfl ?_
    refine aw_aload_n C 0 0 (j := 0) rfl rfl (by decide +kernel) rfl ?_
    refine aw_getr C (k := 2) fc_0 (lc_17 E) rfl (by decide) tb_146 (by decide +kernel) rfl ?_
    refine aw_aload_n C 0 0 (j := 0) rfl rfl (by decide +kernel) rfl ?_
    refine aw_get C (k := 4) fc_0 (lc_17 E) rfl (by decide) tb_148 (by decide +kernel) rfl ?_
    obtain ⟨g3, hf⟩ := igd hf
    refine aw_iald C (lc_20 E) g3 (by decide +kernel) rfl ?_
    obtain ⟨a4, ha4⟩ : ∃ z, z = ((sI st 17 4 a2).1 20 ((sI st 17 4 a2).1 17 4).toNatClampNeg) := ⟨_, rfl⟩
    refine aw_nmi ha4 ?_
    have hf := ilt ha4 hf
    refine aw_istore_n C [(2, .int a4), (0, .ref (gad G 17)), (1, .int v1)] (j := 2) rfl (by rw [hnL]; decide) rfl (by decide +kernel) rfl ?_
    refine aw_aload_n C 0 1 (j := 0) rfl rfl (by decide +kernel) rfl ?_
    refine aw_getr C (k := 2) fc_0 (lc_17 E) rfl (by decide) tb_146 (by decide +kernel) rfl ?_
    refine aw_aload_n C 0 1 (j := 0) rfl rfl (by decide +kernel) rfl ?_
    refine aw_get C (k := 4) fc_0 (lc_17 E) rfl (by decide) tb_148 (by decide +kernel) rfl ?_
    refine aw_iconst C (i0 := 1) (v := 1) (by decide) (by decide +kernel) rfl ?_
    refine aw_iadd C (by decide +kernel) rfl ?_
    obtain ⟨g5, hf⟩ := igd hf
    refine aw_iald C (lc_20 E) g5 (by decide +kernel) rfl ?_
    obtain ⟨a6, ha6⟩ : ∃ z, z = ((sI st 17 4 a2).1 20 (((sI st 17 4 a2).1 17 4) + (1 : Int32)).toNatClampNeg) := ⟨_, rfl⟩
    refine aw_nmi ha6 ?_
    have hf := ilt ha6 hf
    refine aw_istore_n C [(3, .int a6), (2, .int a4), (0, .ref (gad G 17)), (1, .int v1)] (j := 3) rfl (by rw [hnL]; decide) rfl (by decide +kernel) rfl ?_
    refine aw_iload_n C 1 3 (j := 1) rfl rfl (by decide +kernel) rfl ?_
    by_cases w7 : v1 = 42
    · have hf := ift w7 hf
      refine aw_look C (tgt := 124) (off := 77) (dflt := 138) (ps := #[(42, 77), (43, 57), (45, 67), (60, 87), (61, 121), (62, 104)]) (len := 57) (by decide +kernel) (by decide +kernel) (by rw [w7]; decide +kernel) (by decide) ?_
      refine aw_aload_n C 0 2 (j := 0) rfl rfl (by decide +kernel) rfl ?_
      refine aw_iload_n C 2 1 (j := 2) rfl rfl (by decide +kernel) rfl ?_
      refine aw_iload_n C 3 0 (j := 3) rfl rfl (by decide +kernel) rfl ?_
      refine aw_imul C (by decide +kernel) rfl ?_
      obtain ⟨q8, hq8, hf⟩ := ibd hf
      refine aw_callV C (rest := []) (c_Cond_push E (a4 * a6) _ q8 hq8) tb_566 yf_55 yi_55 (lc_17 E) [.int (a4 * a6)] rfl rfl _ rfl (Nat.le_trans (by decide) hgd) (Nat.le_of_ble_eq_true rfl) (by decide +kernel) rfl ?_
      show AW _ _ _ _ []
      refine aw_goto C (tgt := 216) (off := 85) (by decide +kernel) (by decide) ?_
      exact aw_vretq C CR0 hgr hgs hf (by decide +kernel)
    · have hf := iff_ w7 hf
      by_cases w9 : v1 = 43
      · have hf := ift w9 hf
        refine aw_look C (tgt := 104) (off := 57) (dflt := 138) (ps := #[(42, 77), (43, 57), (45, 67), (60, 87), (61, 121), (62, 104)]) (len := 57) (by decide +kernel) (by decide +kernel) (by rw [w9]; decide +kernel) (by decide) ?_
        refine aw_aload_n C 0 2 (j := 0) rfl rfl (by decide +kernel) rfl ?_
        refine aw_iload_n C 2 1 (j := 2) rfl rfl (by decide +kernel) rfl ?_
        refine aw_iload_n C 3 0 (j := 3) rfl rfl (by decide +kernel) rfl ?_
        refine aw_iadd C (by decide +kernel) rfl ?_
        obtain ⟨q10, hq10, hf⟩ := ibd hf
        refine aw_callV C (rest := []) (c_Cond_push E (a4 + a6) _ q10 hq10) tb_566 yf_55 yi_55 (lc_17 E) [.int (a4 + a6)] rfl rfl _ rfl (Nat.le_trans (by decide) hgd) (Nat.le_of_ble_eq_true rfl) (by decide +kernel) rfl ?_
        show AW _ _ _ _ []
        refine aw_goto C (tgt := 216) (off := 105) (by decide +kernel) (by decide) ?_
        exact aw_vretq C CR0 hgr hgs hf (by decide +kernel)
      · have hf := iff_ w9 hf
        by_cases w11 : v1 = 45
        · have hf := ift w11 hf
          refine aw_look C (tgt := 114) (off := 67) (dflt := 138) (ps := #[(42, 77), (43, 57), (45, 67), (60, 87), (61, 121), (62, 104)]) (len := 57) (by decide +kernel) (by decide +kernel) (by rw [w11]; decide +kernel) (by decide) ?_
          refine aw_aload_n C 0 2 (j := 0) rfl rfl (by decide +kernel) rfl ?_
          refine aw_iload_n C 2 1 (j := 2) rfl rfl (by decide +kernel) rfl ?_
          refine aw_iload_n C 3 0 (j := 3) rfl rfl (by decide +kernel) rfl ?_
          refine aw_isub C (by decide +kernel) rfl ?_
          obtain ⟨q12, hq12, hf⟩ := ibd hf
          refine aw_callV C (rest := []) (c_Cond_push E (a4 - a6) _ q12 hq12) tb_566 yf_55 yi_55 (lc_17 E) [.int (a4 - a6)] rfl rfl _ rfl (Nat.le_trans (by decide) hgd) (Nat.le_of_ble_eq_true rfl) (by decide +kernel) rfl ?_
          show AW _ _ _ _ []
          refine aw_goto C (tgt := 216) (off := 95) (by decide +kernel) (by decide) ?_
          exact aw_vretq C CR0 hgr hgs hf (by decide +kernel)
        · have hf := iff_ w11 hf
          by_cases w13 : v1 = 60
          · have hf := ift w13 hf
            refine aw_look C (tgt := 134) (off := 87) (dflt := 138) (ps := #[(42, 77), (43, 57), (45, 67), (60, 87), (61, 121), (62, 104)]) (len := 57) (by decide +kernel) (by decide +kernel) (by rw [w13]; decide +kernel) (by decide) ?_
            refine aw_aload_n C 0 2 (j := 0) rfl rfl (by decide +kernel) rfl ?_
            refine aw_iload_n C 2 1 (j := 2) rfl rfl (by decide +kernel) rfl ?_
            refine aw_iload_n C 3 0 (j := 3) rfl rfl (by decide +kernel) rfl ?_
            refine aw_icmp_ge C (tgt := 144) (off := 7) (by decide +kernel) (by decide) rfl (fun c14 => ?_) (fun c14 => ?_)
            · have hf := ift c14 hf
              refine aw_iconst C (i0 := 0) (v := 0) (by decide) (by decide +kernel) rfl ?_
              refine aw_putZ C (k := 5) fc_0 (lc_17 E) rfl (by decide) rfl rfl (by decide) tb_149 (by decide +kernel) rfl ?_
              refine aw_goto C (tgt := 216) (off := 68) (by decide +kernel) (by decide) ?_
              exact aw_vretq C CR0 hgr hgs hf (by decide +kernel)
            · have hf := iff_ c14 hf
              refine aw_iconst C (i0 := 1) (v := 1) (by decide) (by decide +kernel) rfl ?_
              refine aw_goto C (tgt := 145) (off := 4) (by decide +kernel) (by decide) ?_
              refine aw_putZ C (k := 5) fc_0 (lc_17 E) rfl (by decide) rfl rfl (by decide) tb_149 (by decide +kernel) rfl ?_
              refine aw_goto C (tgt := 216) (off := 68) (by decide +kernel) (by decide) ?_
              exact aw_vretq C CR0 hgr hgs hf (by decide +kernel)
          · have hf := iff_ w13 hf
            by_cases w15 : v1 = 61
            · have hf := ift w15 hf
              refine aw_look C (tgt := 168) (off := 121) (dflt := 138) (ps := #[(42, 77), (43, 57), (45, 67), (60, 87), (61, 121), (62, 104)]) (len := 57) (by decide +kernel) (by decide +kernel) (by rw [w15]; decide +kernel) (by decide) ?_
              refine aw_aload_n C 0 2 (j := 0) rfl rfl (by decide +kernel) rfl ?_
              refine aw_iload_n C 2 1 (j := 2) rfl rfl (by decide +kernel) rfl ?_
              refine aw_iload_n C 3 0 (j := 3) rfl rfl (by decide +kernel) rfl ?_
              refine aw_icmp_ne C (tgt := 178) (off := 7) (by decide +kernel) (by decide) rfl (fun c16 => ?_) (fun c16 => ?_)
              · have hf := ift c16 hf
                refine aw_iconst C (i0 := 1) (v := 1) (by decide) (by decide +kernel) rfl ?_
                refine aw_goto C (tgt := 179) (off := 4) (by decide +kernel) (by decide) ?_
                refine aw_putZ C (k := 5) fc_0 (lc_17 E) rfl (by decide) rfl rfl (by decide) tb_149 (by decide +kernel) rfl ?_
                refine aw_goto C (tgt := 216) (off := 34) (by decide +kernel) (by decide) ?_
                exact aw_vretq C CR0 hgr hgs hf (by decide +kernel)
              · have hf := iff_ c16 hf
                refine aw_iconst C (i0 := 0) (v := 0) (by decide) (by decide +kernel) rfl ?_
                refine aw_putZ C (k := 5) fc_0 (lc_17 E) rfl (by decide) rfl rfl (by decide) tb_149 (by decide +kernel) rfl ?_
                refine aw_goto C (tgt := 216) (off := 34) (by decide +kernel) (by decide) ?_
                exact aw_vretq C CR0 hgr hgs hf (by decide +kernel)
            · have hf := iff_ w15 hf
              by_cases w17 : v1 = 62
              · have hf := ift w17 hf
                refine aw_look C (tgt := 151) (off := 104) (dflt := 138) (ps := #[(42, 77), (43, 57), (45, 67), (60, 87), (61, 121), (62, 104)]) (len := 57) (by decide +kernel) (by decide +kernel) (by rw [w17]; decide +kernel) (by decide) ?_
                refine aw_aload_n C 0 2 (j := 0) rfl rfl (by decide +kernel) rfl ?_
                refine aw_iload_n C 2 1 (j := 2) rfl rfl (by decide +kernel) rfl ?_
                refine aw_iload_n C 3 0 (j := 3) rfl rfl (by decide +kernel) rfl ?_
                refine aw_icmp_le C (tgt := 161) (off := 7) (by decide +kernel) (by decide) rfl (fun c18 => ?_) (fun c18 => ?_)
                · have hf := ift c18 hf
                  refine aw_iconst C (i0 := 0) (v := 0) (by decide) (by decide +kernel) rfl ?_
                  refine aw_putZ C (k := 5) fc_0 (lc_17 E) rfl (by decide) rfl rfl (by decide) tb_149 (by decide +kernel) rfl ?_
                  refine aw_goto C (tgt := 216) (off := 51) (by decide +kernel) (by decide) ?_
                  exact aw_vretq C CR0 hgr hgs hf (by decide +kernel)
                · have hf := iff_ c18 hf
                  refine aw_iconst C (i0 := 1) (v := 1) (by decide) (by decide +kernel) rfl ?_
                  refine aw_goto C (tgt := 162) (off := 4) (by decide +kernel) (by decide) ?_
                  refine aw_putZ C (k := 5) fc_0 (lc_17 E) rfl (by decide) rfl rfl (by decide) tb_149 (by decide +kernel) rfl ?_
                  refine aw_goto C (tgt := 216) (off := 51) (by decide +kernel) (by decide) ?_
                  exact aw_vretq C CR0 hgr hgs hf (by decide +kernel)
              · have hf := iff_ w17 hf
                refine aw_look C (tgt := 185) (off := 138) (dflt := 138) (ps := #[(42, 77), (43, 57), (45, 67), (60, 87), (61, 121), (62, 104)]) (len := 57) (by decide +kernel) (by decide +kernel) (by show Op.lookupswitch.offset [(42, 77), (43, 57), (45, 67), (60, 87), (61, 121), (62, 104)] _ _ = _; rw [lv_osw w7 (by decide), lv_osw w9 (by decide), lv_osw w11 (by decide), lv_osw w13 (by decide), lv_osw w15 (by decide), lv_osw w17 (by decide)]; rfl) (by decide) ?_
                refine aw_iload_n C 3 0 (j := 3) rfl rfl (by decide +kernel) rfl ?_
                refine aw_if_ne C (tgt := 197) (off := 11) (by decide +kernel) (by decide) rfl (fun c19 => ?_) (fun c19 => ?_)
                · have hf := ift c19 hf
                  refine aw_aload_n C 0 2 (j := 0) rfl rfl (by decide +kernel) rfl ?_
                  refine aw_iconst C (i0 := 1) (v := 1) (by decide) (by decide +kernel) rfl ?_
                  refine aw_putZ C (k := 6) fc_0 (lc_17 E) rfl (by decide) rfl rfl (by decide) tb_150 (by decide +kernel) rfl ?_
                  refine aw_goto C (tgt := 216) (off := 22) (by decide +kernel) (by decide) ?_
                  exact aw_vretq C CR0 hgr hgs hf (by decide +kernel)
                · have hf := iff_ c19 hf
                  refine aw_aload_n C 0 2 (j := 0) rfl rfl (by decide +kernel) rfl ?_
                  refine aw_iload_n C 1 3 (j := 1) rfl rfl (by decide +kernel) rfl ?_
                  refine aw_bipush C (i0 := 47) (v := 47) (by decide) (by decide +kernel) rfl ?_
                  refine aw_icmp_ne C (tgt := 210) (off := 9) (by decide +kernel) (by decide) rfl (fun c20 => ?_) (fun c20 => ?_)
                  · have hf := ift c20 hf
                    refine aw_iload_n C 2 1 (j := 2) rfl rfl (by decide +kernel) rfl ?_
                    refine aw_iload_n C 3 0 (j := 3) rfl rfl (by decide +kernel) rfl ?_
                    obtain ⟨g21, hf⟩ := igd hf
                    refine aw_idiv C g21 (by decide +kernel) rfl ?_
                    refine aw_goto C (tgt := 213) (off := 6) (by decide +kernel) (by decide) ?_
                    obtain ⟨q22, hq22, hf⟩ := ibd hf
                    refine aw_callV C (rest := []) (c_Cond_push E (a4 / a6) _ q22 hq22) tb_566 yf_55 yi_55 (lc_17 E) [.int (a4 / a6)] rfl rfl _ rfl (Nat.le_trans (by decide) hgd) (Nat.le_of_ble_eq_true rfl) (by decide +kernel) rfl ?_
                    show AW _ _ _ _ []
                    exact aw_vretq C CR0 hgr hgs hf (by decide +kernel)
                  · have hf := iff_ c20 hf
                    refine aw_iload_n C 2 1 (j := 2) rfl rfl (by decide +kernel) rfl ?_
                    refine aw_iload_n C 3 0 (j := 3) rfl rfl (by decide +kernel) rfl ?_
                    obtain ⟨g23, hf⟩ := igd hf
                    refine aw_irem C g23 (by decide +kernel) rfl ?_
                    obtain ⟨q24, hq24, hf⟩ := ibd hf
                    refine aw_callV C (rest := []) (c_Cond_push E (a4 - a4 / a6 * a6) _ q24 hq24) tb_566 yf_55 yi_55 (lc_17 E) [.int (a4 - a4 / a6 * a6)] rfl rfl _ rfl (Nat.le_trans (by decide) hgd) (Nat.le_of_ble_eq_true rfl) (by decide +kernel) rfl ?_
                    show AW _ _ _ _ []
                    exact aw_vretq C CR0 hgr hgs hf (by decide +kernel)
  · have hf := iff_ c1 hf
    refine aw_aload_n C 0 0 (j := 0) rfl rfl (by decide +kernel) rfl ?_
    refine aw_iconst C (i0 := 1) (v := 1) (by decide) (by decide +kernel) rfl ?_
    refine aw_putZ C (k := 6) fc_0 (lc_17 E) rfl (by decide) rfl rfl (by decide) tb_150 (by decide +kernel) rfl ?_
    exact aw_vretq C CR0 hgr hgs hf (by decide +kernel)
theorem c_Cond_reckon {lay : Ly} (E : LCin lay) (v1 : Int32) (st : Mm) (q : Unit × Mm) (hf : f_Cond_reckon v1 st = some q) : Con 1 Y56 prog_2_method_7_code 4 (Option.none) lay (fun ad => [.ref (ad 17), .int v1]) st (none) q.2 :=
  am_met yf_56.2.2.2.2.2 (fun ad => Nat.le_of_ble_eq_true rfl) (fun G C CR0 e1 e2 e3 e4 e5 => t_Cond_reckon C CR0 (by rw [e1]; exact E) e2 (Nat.le_of_eq e5.symm) e3 e4 v1 st hf)
