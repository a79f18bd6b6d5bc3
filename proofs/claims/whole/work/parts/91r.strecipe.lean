/-! recipe: the class's whole -/
def LBr : List (Nat × Option Nat) := [(13, some 5), (13, some 6), (13, some 7), (13, some 8), (13, some 9), (13, some 10), (14, none), (15, none), (16, none), (21, none), (23, none)]
theorem x_rbegin_ok {A : Ab} {st : Mm} {m : Nat} {P : Unit × Mm → Prop} (hA : VA A) (hI : InvX A st) (hm0 : 1 ≤ m) (hm : m ≤ 160) (hm2 : m ≤ A.2.1.length) (hk : ∀ s, Fr LBr st s → s.1 13 5 = nI m → (∀ j, j < m → s.1 21 j = nI (A.2.1.getD j 0)) → Rw (s.1 23) (fun _ => false) → FXst A.1.1 s s 0 [] (A.1.1, A.1.1, 0) → s.1 13 10 = nI 0 → P ((), s)) : Ok (f_Rdr_begin (nI m) (nI A.1.1) st) P := by
  have hn := hA.1.2.1
  unfold f_Rdr_begin
  rw [show (if (160 : Int32) < nI m then (160 : Int32) else nI m) = nI m from if_neg (show ¬ nI 160 < nI m by rw [nI_ltI (by omega) (by omega)]; omega), if_pos (show (0 : Int32) < nI m from show nI 0 < nI m from nI_lt (by omega) (by omega))]
  refine ok_lt ?_
  rw [sI_self]
  have e0 : (0 : Int32).toNatClampNeg = 0 := rfl
  refine ok_t (nI_pos (by omega)) (ok_t (by rw [e0, cl_nI (by omega)]; omega) (ok_t (by rw [e0, cl_nI (by omega)]; omega) ?_))
  rw [cl_nI (by omega), e0]
  obtain ⟨s1, es1⟩ : ∃ z, z = sR (sI st 13 5 (nI m)) 21 (va_cpy ((sI st 13 5 (nI m)).1 12) ((sI st 13 5 (nI m)).1 21) 0 0 m) := ⟨_, rfl⟩
  rw [← es1]
  have f1 : ∀ c j, c ≠ 21 → ¬ (c = 13 ∧ j = 5) → s1.1 c j = st.1 c j := fun c j n1 n2 => by rw [es1, sR_row _ _ _ n1, sI_at, if_neg n2]
  have hF1 : Fr LBr st s1 := fun c j hc => f1 c j (fun e => by rw [e, inL_row (c := 21) rfl j] at hc; cases hc) (fun e => by rw [e.1, e.2] at hc; cases hc)
  have e5 : s1.1 13 5 = nI m := by rw [es1, sR_row _ _ _ (by decide), sI_self]
  have t1 : ∀ j, j < m → s1.1 21 j = nI (A.2.1.getD j 0) := fun j hj => by
    rw [es1, sR_own, pk_cpy_in (by omega) (by omega), sI_row _ _ _ _ (by decide), show 0 + (j - 0) = j by omega]
    exact hI.2.1.2 j (by omega)
  refine ok_bind (x_fill_ok (by omega) (fun s2 hF2 h23 => ?_))
  refine ok_bind (x_start_ok (sl := slb 0) (by decide) (by decide) (by decide) hn (fun s3 hF3 hS3 => ok_some ?_))
  have g3 : ∀ c j, c ≠ 14 → c ≠ 15 → c ≠ 16 → s3.1 c j = s2.1 c j := fun c j n1 n2 n3 => hF3 c j (by
    unfold inL
    simp only [List.any_cons, List.any_nil, Bool.or_false, Bool.and_true]
    rw [beq_false_of_ne (Ne.symm n1), beq_false_of_ne (Ne.symm n2), beq_false_of_ne (Ne.symm n3)]; rfl)
  have g2 : ∀ c j, c ≠ 23 → s2.1 c j = s1.1 c j := fun c j n1 => hF2 c j (by
    unfold inL
    simp only [List.any_cons, List.any_nil, Bool.or_false, Bool.and_true]
    exact beq_false_of_ne (Ne.symm n1))
  obtain ⟨s4, es4⟩ : ∃ z, z = sI (sI (sI (sI (sI s3 13 6 (0 : Int32)) 13 7 (0 : Int32)) 13 8 (0 : Int32)) 13 9 (0 : Int32)) 13 10 (0 : Int32) := ⟨_, rfl⟩
  show P ((), sI (sI (sI (sI (sI s3 13 6 (0 : Int32)) 13 7 (0 : Int32)) 13 8 (0 : Int32)) 13 9 (0 : Int32)) 13 10 (0 : Int32))
  rw [← es4]
  have f4 : ∀ c j, c ≠ 13 → s4.1 c j = s3.1 c j := fun c j n1 => by rw [es4]; simp only [sI_row _ 13 _ _ n1]
  have k5 : s4.1 13 5 = nI m := by
    rw [es4, sI_col _ _ _ _ (by decide), sI_col _ _ _ _ (by decide), sI_col _ _ _ _ (by decide), sI_col _ _ _ _ (by decide), sI_col _ _ _ _ (by decide), g3 13 5 (by decide) (by decide) (by decide), g2 13 5 (by decide)]; exact e5
  have k6 : s4.1 13 6 = 0 := by rw [es4, sI_col _ _ _ _ (by decide), sI_col _ _ _ _ (by decide), sI_col _ _ _ _ (by decide), sI_col _ _ _ _ (by decide), sI_self]
  have k7 : s4.1 13 7 = 0 := by rw [es4, sI_col _ _ _ _ (by decide), sI_col _ _ _ _ (by decide), sI_col _ _ _ _ (by decide), sI_self]
  have k9 : s4.1 13 9 = 0 := by rw [es4, sI_col _ _ _ _ (by decide), sI_self]
  have k10 : s4.1 13 10 = 0 := by rw [es4, sI_self]
  refine hk s4 ?_ k5 (fun j hj => ?_) ?_ ⟨Fr.rf, k6, k7, k9, fun j hj => by simp at hj, hS3.same (fun j => f4 _ j (by decide)) (fun j => f4 _ j (by decide)) (fun j => f4 _ j (by decide))⟩ k10
  · rw [es4]
    exact (((((hF1.tr (hF2.wk (by decide))).tr (hF3.wk (by decide))).sI rfl).sI rfl).sI rfl).sI rfl |>.sI rfl
  · rw [f4 21 j (by decide), g3 21 j (by decide) (by decide) (by decide), g2 21 j (by decide)]; exact t1 j hj
  · have : Rw (s4.1 23) (fun _ => false) := Rw.zero (fun y hy => by rw [f4 23 y (by decide), g3 23 y (by decide) (by decide) (by decide)]; exact h23 y hy)
    exact this
def LRx : List (Nat × Option Nat) := [(13, none), (14, none), (15, none), (16, none), (17, none), (18, none), (19, none), (20, none), (21, none), (22, none), (23, none)]
theorem neg_le {k a : Nat} (hk : 1 ≤ k ∧ k ≤ 6) (ha : a ≤ 160) : (-1000 : Int32) * nI k - nI a ≤ 0 := by
  have e : ∀ k, k < 7 → 1 ≤ k → ∀ a, a < 161 → (-1000 : Int32) * nI k - nI a ≤ 0 := by decide +kernel
  exact e k (by omega) hk.1 a (by omega)
theorem x_recipe_bad {A : Ab} {st s2 : Mm} (hI : InvX A st) (hF : Fr LRx st s2) : InvX (A.1, [], A.2.2) (sI s2 11 0 0) ∧ ∀ c j, 58 ≤ c → (sI s2 11 0 0).1 c j = st.1 c j := by
  refine ⟨(hI.same (hF.okX rfl)).tape TpX.no (Fr.rf.sI rfl), fun c j hc => ?_⟩
  rw [sI_row _ _ _ _ (by omega)]
  exact hF.lo rfl c j hc
theorem VA.emp {A : Ab} (hA : VA A) : VA (A.1, [], A.2.2) := ⟨hA.1, by simp, by simp, hA.2.2.2⟩
theorem st_recipe (a0 : Int32) : Step1 Inv (f_x_recipe a0) (f_m_recipe a0) := step_j (fun A hA st hI => by
  have hl := hA.2.1
  have hn := hA.1.2.1
  have hn2 := hA.1.1
  by_cases hg : 1 ≤ a0.toInt ∧ a0.toInt ≤ 160 ∧ a0.toInt ≤ A.2.1.length
  · obtain ⟨m, hm, rfl⟩ := i_natLt (N := 161) (x := a0) (by omega) (by omega)
    rw [nI_T (by omega)] at hg
    have hm0 : 1 ≤ m := by omega
    have hm2 : m ≤ A.2.1.length := by omega
    have hT := txT_ok (m := m) (tp := A.2.1) (by omega) hA.2.2.1
    unfold f_x_recipe
    refine ok_f (show ¬ nI m < (1 : Int32) from show ¬ nI m < nI 1 by rw [nI_ltI (by omega) (by omega)]; omega) (ok_f (show ¬ (160 : Int32) < nI m from show ¬ nI 160 < nI m by rw [nI_ltI (by omega) (by omega)]; omega) ?_)
    rw [hI.2.1.1, hI.1.1]
    refine ok_t (nI_le hm2 (by omega)) ?_
    unfold f_Rdr_read
    refine ok_bind (ok_bind (x_rbegin_ok hA hI hm0 (by omega) hm2 (fun s hF h5 h21 h23 hFX h10 => ?_)))
    have hFs : Fr LRx st s := hF.wk (by decide)
    unfold f_Rdr_readFolds
    refine ok_bind (ok_mono (x_folds_ok (T := txT m A.2.1) hn hn2 hT h5 h21 9 [] (A.1.1, A.1.1, 0) 1000000 s rfl (by omega) ⟨by simp, by simp, rfl⟩ hFX) ?_)
    rintro q (⟨l, v, g1, g2, g3, g4⟩ | ⟨k, a, g1, g2⟩)
    · have hFq : Fr LRx st q.2 := hFs.tr (g1.1.wk (by decide))
      have hB : BX (txT m A.2.1) A.1.1 l v q.2 := ⟨by rw [g1.1 13 5 rfl]; exact h5, fun j hj => by rw [g1.1 21 j rfl]; exact h21 j hj, hT, g1.2.2.2.2.2⟩
      have g3' : l.length < m := g3
      have hS : SXq (txT m A.2.1) q.2 q.2 (l.length + 1) 0 (fun _ => false) := ⟨Fr.rf, g1.2.1, g1.2.2.1, by rw [g1.1 13 10 rfl]; exact h10, h23.cg (fun y _ => g1.1 23 y rfl), g3⟩
      refine ok_mono (x_read_ok hB 160 1000000 q.2 (l.length + 1) 0 (fun _ => false) (by show m ≤ l.length + 1 + 160; omega) (by omega) (by omega) hS) ?_
      rintro q2 (⟨cF, cutF, u1, u2, u3, u4⟩ | ⟨k, a, u1, u2, u3⟩)
      · have hF2 : Fr LRx st q2.2 := hFq.tr (u3.1.wk (by decide))
        rw [u1]
        refine ok_f (show ¬ nI cF ≤ 0 from show ¬ nI cF ≤ nI 0 by rw [nI_leI (by omega) (by omega)]; omega) ?_
        have hV : VT (A.1.1, A.1.2.1, cF, l, cutF, A.1.2.2.2.2.2.1, A.1.2.2.2.2.2.2) := by
          obtain ⟨v1, v2, v3, v4, v5, v6, v7, v8, v9, v10⟩ := hA.1
          exact ⟨v1, v2, v3, v4, u2.2, g2.1, g2.2.1, ⟨v, g2.2.2⟩, v9, v10⟩
        unfold f_Rdr_handTo
        refine ok_bind (ok_lt (ok_lt (ok_some ?_)))
        show Ok ((f_x_reopen (sR (sR (sI (sI (sI q2.2 11 0 0) 1 2 ((sI q2.2 11 0 0).1 13 10)) 1 3 ((sI (sI q2.2 11 0 0) 1 2 ((sI q2.2 11 0 0).1 13 10)).1 13 9)) 2 (va_cpy ((sI (sI (sI q2.2 11 0 0) 1 2 ((sI q2.2 11 0 0).1 13 10)) 1 3 ((sI (sI q2.2 11 0 0) 1 2 ((sI q2.2 11 0 0).1 13 10)).1 13 9)).1 22) ((sI (sI (sI q2.2 11 0 0) 1 2 ((sI q2.2 11 0 0).1 13 10)) 1 3 ((sI (sI q2.2 11 0 0) 1 2 ((sI q2.2 11 0 0).1 13 10)).1 13 9)).1 2) (0 : Int32).toNatClampNeg (0 : Int32).toNatClampNeg (8 : Int32).toNatClampNeg)) 3 _)).bind _) _
        rw [sI_row _ _ _ _ (show 13 ≠ 1 by decide), sI_row _ _ _ _ (show 13 ≠ 11 by decide), u3.2.2.2.1, u3.1 13 9 rfl, g1.2.2.2.1]
        obtain ⟨sa, esa⟩ : ∃ z, z = sI (sI (sI q2.2 11 0 0) 1 2 (nI cF)) 1 3 (nI l.length) := ⟨_, rfl⟩
        rw [← esa]
        have fa : ∀ c j, ¬ (c = 11 ∧ j = 0) → ¬ (c = 1 ∧ j = 2) → ¬ (c = 1 ∧ j = 3) → sa.1 c j = q2.2.1 c j := fun c j n1 n2 n3 => by rw [esa, sI_at, if_neg n3, sI_at, if_neg n2, sI_at, if_neg n1]
        obtain ⟨sb, esb⟩ : ∃ z, z = sR sa 2 (va_cpy (sa.1 22) (sa.1 2) (0 : Int32).toNatClampNeg (0 : Int32).toNatClampNeg (8 : Int32).toNatClampNeg) := ⟨_, rfl⟩
        rw [← esb]
        have fb : ∀ c, c ≠ 2 → sb.1 c = sa.1 c := fun c hc => by rw [esb, sR_row _ _ _ hc]
        obtain ⟨sc, esc⟩ : ∃ z, z = sR sb 3 (va_cpy (sb.1 23) (sb.1 3) (0 : Int32).toNatClampNeg (0 : Int32).toNatClampNeg (16 : Int32).toNatClampNeg) := ⟨_, rfl⟩
        show Ok ((f_x_reopen (sR sb 3 (va_cpy (sb.1 23) (sb.1 3) (0 : Int32).toNatClampNeg (0 : Int32).toNatClampNeg (16 : Int32).toNatClampNeg))).bind _) _
        rw [← esc]
        have fc : ∀ c, c ≠ 3 → sc.1 c = sb.1 c := fun c hc => by rw [esc, sR_row _ _ _ hc]
        have all : ∀ c j, c ≠ 2 → c ≠ 3 → ¬ (c = 11 ∧ j = 0) → ¬ (c = 1 ∧ (j = 2 ∨ j = 3)) → sc.1 c j = q2.2.1 c j := fun c j n1 n2 n3 n4 => by rw [fc c n2, fb c n1, fa c j n3 (by omega) (by omega)]
        have lo : ∀ c j, c ≤ 12 → q2.2.1 c j = st.1 c j := fun c j hc => hF2 c j (by
          cases hL : inL LRx c j with
          | false => rfl
          | true =>
            obtain ⟨e, he, h3, _⟩ := inL_ex hL
            simp only [LRx, List.mem_cons, List.not_mem_nil, or_false] at he
            rcases he with rfl | rfl | rfl | rfl | rfl | rfl | rfl | rfl | rfl | rfl | rfl <;> (simp only at h3; omega))
        obtain ⟨⟨t0, t1, t2, t3, t4, t5, t6, t7⟩, hP, _, _, _, _, _, hK⟩ := hI
        have hl8 := g2.1
        have hTb : TbX sc 1 2 3 4 5 (A.1.1, A.1.2.1, cF, l, cutF, A.1.2.2.2.2.2.1, A.1.2.2.2.2.2.2) := by
          refine ⟨?_, ?_, ?_, ?_, fun j hj => ?_, ?_, t6.cg (fun y _ => ?_), t7.cg (fun y _ => ?_)⟩
          · rw [all 1 0 (by decide) (by decide) (by omega) (by omega), lo 1 0 (by omega)]; exact t0
          · rw [all 1 1 (by decide) (by decide) (by omega) (by omega), lo 1 1 (by omega)]; exact t1
          · rw [fc 1 (by decide), fb 1 (by decide), esa, sI_col _ _ _ _ (by decide), sI_self]
          · rw [fc 1 (by decide), fb 1 (by decide), esa, sI_self]
          · have hj2 : j < l.length := hj
            rw [fc 2 (by decide), esb, sR_own]
            show va_cpy (sa.1 22) (sa.1 2) 0 0 8 j = nI (l.getD j 0)
            rw [pk_cpy_in (by omega) (by omega), show 0 + (j - 0) = j by omega, fa 22 j (by omega) (by omega) (by omega), u3.1 22 j rfl]
            exact g1.2.2.2.2.1 j hj2
          · have : Rw (sc.1 3) cutF := by
              intro y hy b hb
              rw [esc, sR_own]
              show bt (va_cpy (sb.1 23) (sb.1 3) 0 0 16 y) b = _
              rw [pk_cpy_in (by omega) (by omega), show 0 + (y - 0) = y by omega, fb 23 (by decide), fa 23 y (by omega) (by omega) (by omega)]
              exact u3.2.2.2.2.1 y hy b hb
            exact this
          · rw [all 4 y (by decide) (by decide) (by omega) (by omega), lo 4 y (by omega)]
          · rw [all 5 y (by decide) (by decide) (by omega) (by omega), lo 5 y (by omega)]
        have hTp : TpX sc [] := ⟨by rw [fc 11 (by decide), fb 11 (by decide), esa, sI_row _ _ _ _ (by decide), sI_row _ _ _ _ (by decide), sI_self]; rfl, fun j hj => by simp at hj⟩
        have hKp : KpX sc A.2.2 := TbX.kp hK (by rw [all 0 12 (by decide) (by decide) (by omega) (by omega), lo 0 12 (by omega)]) (fun c j h1 h2 => by rw [all c j (by omega) (by omega) (by omega) (by omega), lo c j (by omega)])
        refine ok_bind (x_reopen_inv hV hTb hTp hKp (fun s5 hX5 hF5 => ok_some ⟨((A.1.1, A.1.2.1, cF, l, cutF, A.1.2.2.2.2.2.1, A.1.2.2.2.2.2.2), [], A.2.2), ⟨hV, by simp, by simp, hA.2.2.2⟩, hX5, fun c j hc => ?_, m_recipe_good hA hm0 (by omega) hm2 g2 g3' g4 u4⟩))
        rw [hF5 c j hc, all c j (by omega) (by omega) (by omega) (by omega)]
        exact hF2.lo rfl c j hc
      · have hF2 : Fr LRx st q2.2 := hFq.tr (u2.1.wk (by decide))
        have hb := x_recipe_bad hI hF2
        rw [u1]
        refine ok_t (neg_le ⟨u2.2.1.1, u2.2.1.2.1⟩ u2.2.1.2.2) (ok_some ⟨(A.1, [], A.2.2), hA.emp, hb.1, hb.2, m_recipe_bad hA hm0 (by omega) hm2 (fun st2 hI2 P hk => ?_)⟩)
        exact m_rec_go hA hI2 (by omega) hm2 g2 g3' g4 (fun sB hFB _ _ hB2 hs => u3 sB sB P 1000000 hB2 hs (by omega) (fun s2 h2 => hk s2 (hFB.tr (h2.1.wk (by decide))) h2.2))
    · have hFq : Fr LRx st q.2 := hFs.tr (g1.1.wk (by decide))
      have e17 : f_Rdr_read_17 1000000 (1 : Int32) (0 : Int32) q.2 = some ((-1000 : Int32) * nI k - nI a, q.2) := by
        obtain ⟨mm, em⟩ : ∃ mm, mm = 999999 := ⟨_, rfl⟩
        show f_Rdr_read_17 (999999 + 1) (1 : Int32) (0 : Int32) q.2 = _
        rw [← em]
        show b_Rdr_read_17 (f_Rdr_read_17 mm) 1 0 q.2 = _
        unfold b_Rdr_read_17 b_Rdr_read_75
        rw [if_neg (by decide), if_neg g1.ne, if_neg g1.ne, g1.2.2.1, g1.2.2.2]
      have hb := x_recipe_bad hI hFq
      refine ok_eq e17 (ok_t (neg_le ⟨g1.2.1.1, g1.2.1.2.1⟩ g1.2.1.2.2) (ok_some ⟨(A.1, [], A.2.2), hA.emp, hb.1, hb.2, m_recipe_bad hA hm0 (by omega) hm2 (fun st2 hI2 P hk => m_rec_foldF hA hI2 (by omega) hm2 g2 hk)⟩))
  · have hx : f_x_recipe a0 st = some (-1, st) := by
      unfold f_x_recipe
      by_cases c1 : a0 < 1
      · rw [if_pos c1]
      · rw [if_neg c1]
        by_cases c2 : 160 < a0
        · rw [if_pos c2]
        · rw [if_neg c2, hI.2.1.1, if_neg]
          intro c3
          rw [i_lt, show (1 : Int32).toInt = 1 from rfl] at c1
          rw [i_lt, show (160 : Int32).toInt = 160 from rfl] at c2
          rw [i_le, nI_T (by omega)] at c3
          omega
    refine ok_eq hx ⟨A, hA, hI, fun _ _ _ => rfl, mok_same (fun st2 hI2 => ?_)⟩
    unfold f_m_recipe
    rw [show f_m_in a0 (1 : Int32) (160 : Int32) st2 = _ from m_in_eq a0 1 160 (by omega) (by omega) st2]
    simp only [Option.bind_some]
    by_cases h1 : ((1 : Nat) : Int) ≤ a0.toInt ∧ a0.toInt ≤ ((160 : Nat) : Int)
    · rw [decide_eq_true h1, if_neg nbt, hI2.2.1.1, if_neg]
      intro c3
      rw [i_le, nI_T (by omega)] at c3
      omega
    · rw [decide_eq_false h1]; rfl)
