/-! recipe: whole -/
theorem step_j {R : Type} {fx fm : Mm → Option (R × Mm)} (h : ∀ A, VA A → ∀ st, InvX A st → Ok (fx st) (fun q => ∃ A2, VA A2 ∧ InvX A2 q.2 ∧ (∀ c j, 58 ≤ c → q.2.1 c j = st.1 c j) ∧ MOk fm A A2 q.1)) : Step1 Inv fx fm := by
  rintro st ⟨A, hA, hX, hM⟩
  obtain ⟨q1, e1, A2, hA2, x1, f1, m1⟩ := h A hA st hX
  have hM1 : InvM A q1.2 := hM.same (fun c j hc => f1 c j (mx_hi hc))
  obtain ⟨q2, e2, r2, m2, f2⟩ := m1 q1.2 hM1
  exact ⟨q1, q2, e1, e2, r2.symm, A2, hA2, x1.same (fun c j hc => f2 c j (kx_lo hc)), m2⟩
def txT (m : Nat) (tp : List Nat) : Txt := (m, fun j => tp.getD j 0)
theorem txT_ok {m : Nat} {tp : List Nat} (hm : m ≤ 160) (hb : ∀ b ∈ tp, b < 256) : TxO (txT m tp) := by
  refine ⟨hm, fun j => ?_⟩
  show tp.getD j 0 < 256
  rw [List.getD_eq_getElem?_getD]
  by_cases h : j < tp.length
  · rw [List.getElem?_eq_getElem h]; exact hb _ (List.getElem_mem h)
  · rw [List.getElem?_eq_none (by omega)]; show 0 < 256; omega
/-! the reference's reading of a whole recipe -/
def LRq : List (Nat × Option Nat) := [(58, some 8), (58, some 9), (58, some 10), (58, some 12), (58, some 13), (58, some 14), (58, some 15), (58, some 16), (58, some 20), (58, some 21), (58, some 22), (58, some 23), (58, some 24), (58, some 25), (58, some 26), (58, some 27), (58, some 28), (58, some 29), (63, none), (64, none), (66, none), (67, none), (68, none), (69, none), (70, none), (71, none)]
theorem m_fold_st {A : Ab} {st : Mm} {m : Nat} (hI : InvM A st) {P : Int32 × Mm → Prop} (hk : ∀ s0 s, Fr LRq st s0 → s0.1 58 21 = nI m → FMst s0 s 0 [] (A.1.1, A.1.1, 0) → Ok (f_m_readsFolds_9 1000000 s) P) : Ok (f_m_readsFolds (sI (sI st 58 20 0) 58 21 (nI m))) P := by
  unfold f_m_readsFolds
  refine ok_bind (ok_eq (m_startsWedge_eq _) ?_)
  have e0 : (sI (sI st 58 20 0) 58 21 (nI m)).1 58 0 = nI A.1.1 := by rw [sI_col _ _ _ _ (by decide), sI_col _ _ _ _ (by decide)]; exact hI.1.1
  rw [e0]
  refine hk (sI (sI st 58 20 0) 58 21 (nI m)) _ ((Fr.rf.sI rfl).sI rfl) (sI_self _ _ _ _) ⟨(((Fr.rf.sI rfl).sI rfl).sI rfl).sI rfl, ?_, by rw [sI_self]; rfl, fun j hj => by simp at hj, ?_, ?_, ?_⟩
  · rw [sI_col _ _ _ _ (by decide), sI_col _ _ _ _ (by decide), sI_col _ _ _ _ (by decide), sI_col _ _ _ _ (by decide), sI_col _ _ _ _ (by decide), sI_self]; rfl
  · rw [sI_col _ _ _ _ (by decide), sI_col _ _ _ _ (by decide), sI_col _ _ _ _ (by decide), sI_self]
  · rw [sI_col _ _ _ _ (by decide), sI_col _ _ _ _ (by decide), sI_self]
  · rw [sI_col _ _ _ _ (by decide), sI_self]; rfl
theorem em_rec {A : Ab} {st s0 : Mm} {m : Nat} (hA : VA A) (hI : InvM A st) (hm : m ≤ 160) (hm2 : m ≤ A.2.1.length) (hF : Fr LRq st s0) (h21 : s0.1 58 21 = nI m) : EM (txT m A.2.1) s0 := ⟨h21, fun j hj => by
  have hj2 : j < m := hj
  rw [hF 65 j rfl]; exact hI.2.1.2 j (by omega), txT_ok hm hA.2.2.1⟩
theorem m_rec_foldF {A : Ab} {st : Mm} {m k a : Nat} {P : Int32 × Mm → Prop} (hA : VA A) (hI : InvM A st) (hm : m ≤ 160) (hm2 : m ≤ A.2.1.length) (hR : RFoF (txT m A.2.1) [] (A.1.1, A.1.1, 0) k a) (hk : ∀ s2, Fr LRq st s2 → s2.1 58 22 = (-1000 : Int32) * nI k - nI a → P (0, s2)) : Ok (f_m_readsRecipe (sI (sI st 58 20 0) 58 21 (nI m))) P := by
  unfold f_m_readsRecipe
  refine ok_bind (m_fold_st hI (fun s0 s hF h21 h => ?_))
  exact hR s0 s _ 1000000 (em_rec hA hI hm hm2 hF h21) h (by omega) (fun s2 h2 => ok_t rfl (ok_some (hk s2 (hF.tr (h2.1.wk (by decide))) h2.2)))
theorem m_rec_go {A : Ab} {st : Mm} {m : Nat} {l : List Nat} {v : Wd} {P : Int32 × Mm → Prop} (hA : VA A) (hI : InvM A st) (hm : m ≤ 160) (hm2 : m ≤ A.2.1.length) (ho : okF A.1.1 l v) (hlm : l.length < m) (hR : RFo (txT m A.2.1) [] (A.1.1, A.1.1, 0) l v) (hk : ∀ sB, Fr LRq st sB → sB.1 58 12 = nI l.length → (∀ j, j < l.length → sB.1 63 j = nI (l.getD j 0)) → BM (txT m A.2.1) A.1.1 l v sB → SMq (txT m A.2.1) sB sB (l.length + 1) 0 (fun _ => false) → Ok (mGo 1000000 sB) P) : Ok (f_m_readsRecipe (sI (sI st 58 20 0) 58 21 (nI m))) P := by
  have hn := hA.1.2.1
  have hb := okF_b hn ho
  unfold f_m_readsRecipe
  refine ok_bind (m_fold_st hI (fun s0 s hF h21 h => ?_))
  have hE := em_rec hA hI hm hm2 hF h21
  refine hR s0 s _ 1000000 hE h (by omega) (fun s2 h2 => ok_f ne10 ?_)
  have hF2 : Fr LRq st s2 := hF.tr (h2.1.wk (by decide))
  have hr : mRec s2 A.1.1 l v := ⟨by rw [hF2 58 0 rfl]; exact hI.1.1, hn, by have := ho.1; omega, fun f hf => by have := ho.2.1 f hf; omega, ho.2.2, h2.2.2.1, h2.2.2.2.1, h2.2.2.2.2⟩
  refine ok_bind (m_laysLayers_ok hr (fun s3 hF3 hr3 h64 => ?_))
  have hF3' : Fr LRq st s3 := hF2.tr (hF3.wk (by decide))
  refine ok_upF (fun m i a => f_m_readsRecipe_15 m i a) (fun i a => Fr [(69, none)] s3 a ∧ ∀ k, k < i → a.1 69 k = 0) P 256 (by omega) ⟨Fr.rf, fun k hk => by omega⟩ ?_ ?_
  · rintro q i a hi ⟨g1, g2⟩ ih
    show Ok (b_m_readsRecipe_15 (f_m_readsRecipe_15 q) (nI i) a) P
    unfold b_m_readsRecipe_15
    refine ok_f (n256 hi) (ok_t (inb_nI hi (by omega)) (ok_lt ?_))
    rw [nI_1, cl_nI (by omega)]
    refine ih _ ⟨g1.sI (by simp [inL]), fun k hk => ?_⟩
    rw [sI_at]
    by_cases e : k = i
    · rw [if_pos ⟨rfl, e⟩]
    · rw [if_neg (fun g => e g.2)]; exact g2 k (by omega)
  · rintro q a ⟨g1, g2⟩
    show Ok (b_m_readsRecipe_15 (f_m_readsRecipe_15 q) (nI 256) a) P
    unfold b_m_readsRecipe_15 b_m_readsRecipe_35
    refine ok_t (by decide) ?_
    have hFa : Fr LRq st (sI a 58 27 0) := (hF3'.tr (g1.wk (by decide))).sI rfl
    have ea : ∀ c j, c ≠ 69 → ¬ (c = 58 ∧ j = 27) → (sI a 58 27 0).1 c j = s3.1 c j := fun c j h1 h2 => by
      rw [sI_at, if_neg h2]
      exact g1 c j (by
        unfold inL
        simp only [List.any_cons, List.any_nil, Bool.or_false, Bool.and_true]
        exact beq_false_of_ne (Ne.symm h1))
    refine hk (sI a 58 27 0) hFa ?_ (fun j hj => ?_) ⟨⟨?_, fun j hj => ?_, hE.2.2⟩, ⟨?_, ?_, ?_⟩, hb, ?_, fun k hk2 hp => ?_⟩ ⟨Fr.rf, ?_, sI_self _ _ _ _, fun k hk2 => ?_, ?_⟩
    · rw [ea 58 12 (by decide) (by omega)]; exact hr3.2.2.2.2.2.1
    · rw [ea 63 j (by decide) (by omega)]; exact hr3.2.2.2.2.2.2.1 j hj
    · rw [ea 58 21 (by decide) (by omega), hF3 58 21 rfl, h2.1 58 21 rfl]; exact hE.1
    · rw [ea 65 j (by decide) (by omega), hF3 65 j rfl, h2.1 65 j rfl]; exact hE.2.1 j hj
    · rw [ea 58 8 (by decide) (by omega)]; exact hr3.2.2.2.2.2.2.2.1
    · rw [ea 58 9 (by decide) (by omega)]; exact hr3.2.2.2.2.2.2.2.2.1
    · rw [ea 58 10 (by decide) (by omega)]; exact hr3.2.2.2.2.2.2.2.2.2
    · rw [ea 58 0 (by decide) (by omega)]; exact hr3.1
    · rw [ea 64 k (by decide) (by omega), h64 k hk2]
      have := onP_ct hn ho.2.1 ho.2.2 (a := k % 16) (b := k / 16) hp
      rw [show 16 * (k / 16) + k % 16 = k by omega] at this
      rw [this]
    · rw [ea 58 20 (by decide) (by omega), hF3 58 20 rfl]; exact h2.2.1
    · rw [sI_row _ _ _ _ (by decide), g2 k hk2]; rfl
    · show l.length + 1 ≤ m
      omega
/-! what both sides keep of it -/
theorem m_recipe_bad {A : Ab} {m k a : Nat} (hA : VA A) (hm0 : 1 ≤ m) (hm : m ≤ 160) (hm2 : m ≤ A.2.1.length) (hR : ∀ st, InvM A st → ∀ P : Int32 × Mm → Prop, (∀ s2, Fr LRq st s2 → s2.1 58 22 = (-1000 : Int32) * nI k - nI a → P (0, s2)) → Ok (f_m_readsRecipe (sI (sI st 58 20 0) 58 21 (nI m))) P) : MOk (f_m_recipe (nI m)) A (A.1, [], A.2.2) ((-1000 : Int32) * nI k - nI a) := fun st hI => by
  have hl := hA.2.1
  unfold f_m_recipe
  refine ok_bind (ok_eq (show f_m_in (nI m) (1 : Int32) (160 : Int32) st = _ from m_in_eq (nI m) 1 160 (by omega) (by omega) st) ?_)
  rw [nI_T (by omega), decide_eq_true (show ((1 : Nat) : Int) ≤ (m : Int) ∧ (m : Int) ≤ ((160 : Nat) : Int) by omega)]
  refine ok_f nbt ?_
  show Ok (if nI m ≤ st.1 58 19 then _ else _) _
  rw [hI.2.1.1]
  refine ok_t (nI_le hm2 (by omega)) (ok_bind (hR st hI _ (fun s2 hF h22 => ok_t rfl (ok_some ⟨?_, ?_, fun c j hc => ?_⟩))))
  · rw [sI_col _ _ _ _ (by decide)]; exact h22
  · exact InvM.tape (A := A) (hI.same (hF.okM rfl)) ⟨by rw [sI_self]; rfl, fun j hj => by simp at hj⟩ (Fr.rf.sI rfl)
  · rw [sI_row _ _ _ _ (by omega)]; exact hF.hi rfl c j hc
theorem m_rec60_s (L n i : Nat) (a : Mm) (hi : i < L) (hL : L ≤ 9) (h : a.1 58 1 = nI L) : f_m_recipe_60 (n + 1) (nI i) a = f_m_recipe_60 n (nI (i + 1)) (sI a 59 i (a.1 63 i)) := by
  show b_m_recipe_60 (f_m_recipe_60 n) (nI i) a = _
  unfold b_m_recipe_60
  rw [h, if_neg (by rw [nI_leI (by omega) (by omega)]; omega), if_pos (inb_nI (by omega) (by omega)), lt_eq, if_pos (inb_nI (by omega) (by omega)), lt_eq, nI_1, cl_nI (by omega)]
theorem m_recipe_good {A : Ab} {m cF : Nat} {l : List Nat} {v : Wd} {cutF : Nat → Bool} (hA : VA A) (hm0 : 1 ≤ m) (hm : m ≤ 160) (hm2 : m ≤ A.2.1.length) (ho : okF A.1.1 l v) (hlm : l.length < m) (hR : RFo (txT m A.2.1) [] (A.1.1, A.1.1, 0) l v) (hG : RGo (txT m A.2.1) A.1.1 l v (l.length + 1) 0 (fun _ => false) cF cutF) : MOk (f_m_recipe (nI m)) A ((A.1.1, A.1.2.1, cF, l, cutF, A.1.2.2.2.2.2.1, A.1.2.2.2.2.2.2), [], A.2.2) (nI cF) := fun st hI => by
  have hl := hA.2.1
  have hl8 := ho.1
  unfold f_m_recipe
  refine ok_bind (ok_eq (show f_m_in (nI m) (1 : Int32) (160 : Int32) st = _ from m_in_eq (nI m) 1 160 (by omega) (by omega) st) ?_)
  rw [nI_T (by omega), decide_eq_true (show ((1 : Nat) : Int) ≤ (m : Int) ∧ (m : Int) ≤ ((160 : Nat) : Int) by omega)]
  refine ok_f nbt ?_
  show Ok (if nI m ≤ st.1 58 19 then _ else _) _
  rw [hI.2.1.1]
  refine ok_t (nI_le hm2 (by omega)) (ok_bind (m_rec_go hA hI hm hm2 ho hlm hR (fun sB hFB h12 h63 hB hs => ?_)))
  refine hG sB sB _ 1000000 hB hs (by omega) (fun s2 h2 => ok_f ne10 (ok_lt ?_))
  have hF2 : Fr LRq st s2 := hFB.tr (h2.1.wk (by decide))
  show Ok (f_m_recipe_60 1000000 0 (sI (sI s2 58 19 0) 58 1 ((sI s2 58 19 0).1 58 12))) _
  rw [sI_col _ _ _ _ (show 12 ≠ 19 by decide), h2.1 58 12 rfl, h12]
  obtain ⟨s3, es3⟩ : ∃ z, z = sI (sI s2 58 19 0) 58 1 (nI l.length) := ⟨_, rfl⟩
  rw [← es3]
  have f3 : ∀ c j, ¬ (c = 58 ∧ j = 19) → ¬ (c = 58 ∧ j = 1) → s3.1 c j = s2.1 c j := fun c j n1 n2 => by rw [es3, sI_at, if_neg n2, sI_at, if_neg n1]
  have e31 : s3.1 58 1 = nI l.length := by rw [es3, sI_self]
  have e319 : s3.1 58 19 = 0 := by rw [es3, sI_col _ _ _ _ (by decide), sI_self]
  refine ok_upF (fun n i a => f_m_recipe_60 n i a) (fun i a => (∀ k, k < i → a.1 59 k = s3.1 63 k) ∧ (∀ c j, c ≠ 59 → a.1 c j = s3.1 c j)) _ l.length (by omega) ⟨fun k hk => by omega, fun _ _ _ => rfl⟩ ?_ ?_
  · rintro n i a hi ⟨h1, h2⟩ ih
    rw [m_rec60_s l.length n i a hi (by omega) (by rw [h2 58 1 (by decide)]; exact e31)]
    refine ih _ ⟨fun k hk => ?_, fun c j hc => by rw [sI_row _ _ _ _ hc]; exact h2 c j hc⟩
    rw [sI_at]
    by_cases e : k = i
    · rw [if_pos ⟨rfl, e⟩, e]; exact h2 63 i (by decide)
    · rw [if_neg (fun g => e g.2)]; exact h1 k (by omega)
  · rintro n a ⟨g1, g2⟩
    show Ok (b_m_recipe_60 (f_m_recipe_60 n) (nI l.length) a) _
    unfold b_m_recipe_60 b_m_recipe_86
    rw [g2 58 1 (by decide), e31]
    refine ok_t (Int32.le_refl _) (ok_lt ?_)
    rw [g2 58 27 (by decide), f3 58 27 (by omega) (by omega), h2.2.2.1]
    obtain ⟨s5, es5⟩ : ∃ z, z = sI a 58 2 (nI cF) := ⟨_, rfl⟩
    rw [← es5]
    have f5 : ∀ c j, ¬ (c = 58 ∧ j = 2) → c ≠ 59 → s5.1 c j = s3.1 c j := fun c j n1 n2 => by rw [es5, sI_at, if_neg n1]; exact g2 c j n2
    have e69 : ∀ k, k < 256 → s5.1 69 k = bI (cutF k) := fun k hk => by rw [f5 69 k (by omega) (by decide), f3 69 k (by omega) (by omega)]; exact h2.2.2.2.1 k hk
    refine ok_upF (fun n i a => f_m_recipe_96 n i a) (fun i a => (∀ k, k < i → a.1 61 k = bI (cutF k)) ∧ (∀ c j, c ≠ 61 → a.1 c j = s5.1 c j)) _ 256 (by omega) ⟨fun k hk => by omega, fun _ _ _ => rfl⟩ ?_ ?_
    · rintro n i b hi ⟨k1, k2⟩ ih
      show Ok (b_m_recipe_96 (f_m_recipe_96 n) (nI i) b) _
      unfold b_m_recipe_96
      have hb := inb_nI hi (show 256 < 2147483648 by omega)
      refine ok_f (n256 hi) (ok_t hb (ok_lt (ok_t hb ?_)))
      rw [cl_nI (by omega), k2 69 i (by decide), e69 i hi]
      refine ok_t (by cases cutF i <;> simp [bI]) (ok_lt ?_)
      rw [nI_1]
      refine ih _ ⟨fun k hk => ?_, fun c j hc => by rw [sI_row _ _ _ _ hc]; exact k2 c j hc⟩
      rw [sI_at]
      by_cases e : k = i
      · rw [if_pos ⟨rfl, e⟩, e]
      · rw [if_neg (fun g => e g.2)]; exact k1 k (by omega)
    · rintro n b ⟨k1, k2⟩
      show Ok (b_m_recipe_96 (f_m_recipe_96 n) (nI 256) b) _
      unfold b_m_recipe_96
      have all : ∀ c j, c ≠ 61 → c ≠ 59 → ¬ (c = 58 ∧ (j = 1 ∨ j = 2 ∨ j = 19)) → b.1 c j = s2.1 c j := fun c j n1 n2 n3 => by rw [k2 c j n1, f5 c j (by omega) n2, f3 c j (by omega) (by omega)]
      have e2 : b.1 58 2 = nI cF := by rw [k2 58 2 (by decide), es5, sI_self]
      refine ok_t (by decide) (ok_some ⟨e2, ?_, fun c j hc => by rw [all c j (by omega) (by omega) (by omega)]; exact hF2.hi rfl c j hc⟩)
      have hI' : InvM (A.1, [], A.2.2) (sI st 58 19 0) := hI.tape ⟨by rw [sI_self]; rfl, fun j hj => by simp at hj⟩ (Fr.rf.sI rfl)
      obtain ⟨⟨t0, t1, t2, t3, t4, t5, t6, t7⟩, _⟩ := hI
      refine hI'.setT ⟨?_, ?_, e2, ?_, fun j hj => ?_, fun k hk => k1 k hk, t6.cg (fun y _ => ?_), fun k hk => ?_⟩ (fun c j hc => ?_)
      · rw [all 58 0 (by decide) (by decide) (by omega), hF2 58 0 rfl]; exact t0
      · rw [all 58 3 (by decide) (by decide) (by omega), hF2 58 3 rfl]; exact t1
      · rw [k2 58 1 (by decide), f5 58 1 (by omega) (by decide)]; exact e31
      · rw [k2 59 j (by decide), es5, sI_row _ _ _ _ (by decide), g1 j hj, f3 63 j (by omega) (by omega), h2.1 63 j rfl]; exact h63 j hj
      · rw [all 60 y (by decide) (by decide) (by omega), hF2 60 y rfl]
      · rw [all 62 k (by decide) (by decide) (by omega), hF2 62 k rfl]; exact t7 k hk
      · by_cases e19 : c = 58 ∧ j = 19
        · rw [e19.1, e19.2, sI_self, k2 58 19 (by decide), f5 58 19 (by omega) (by decide)]; exact e319
        · rw [sI_at, if_neg e19, all c j (by omega) (by omega) (by omega)]
          refine hF2 c j ?_
          cases hL : inL LRq c j with
          | false => rfl
          | true =>
            obtain ⟨e, he, h3, h4⟩ := inL_ex hL
            simp only [LRq, List.mem_cons, List.not_mem_nil, or_false] at he
            rcases he with rfl | rfl | rfl | rfl | rfl | rfl | rfl | rfl | rfl | rfl | rfl | rfl | rfl | rfl | rfl | rfl | rfl | rfl | rfl | rfl | rfl | rfl | rfl | rfl | rfl | rfl <;> (simp only [Option.some.injEq, reduceCtorEq, false_or, or_false] at h3 h4; omega)
