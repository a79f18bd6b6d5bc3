theorem nat_suc {n k : Nat} (h : k + 1 ≤ n) : ∃ m, n = m + 1 := ⟨n - 1, by omega⟩
theorem m_placeOf_loop (x : Int32) {P : Int32 × Mm → Prop} (s0 : Mm) : ∀ (l : List Nat) (i n : Nat) (q : Fq) (w v : Wd) (s1 : Mm), l.length + 1 ≤ n → i + l.length ≤ 9 → s1.1 58 12 = nI (i + l.length) → (∀ j, j < l.length → s1.1 63 (i + j) = nI (l.getD j 0)) → (∀ f ∈ l, f < 256) → mB s1 q → cW q w → w.1 < 64 → w.2.1 < 64 → fds l w = some v → Fr LB s0 s1 →
    (cbs (slb x) l i q = none → ∀ s2, Fr LB s0 s2 → P (-1, s2)) → (∀ z, cbs (slb x) l i q = some z → cW z v → ∀ s2, Fr LB s0 s2 → P (nI (16 * z.2.1 + z.1), s2)) → Ok (f_m_placeOf_29 n x (nI i) s1) P := by
  intro l
  induction l with
  | nil =>
    intro i n q w v s1 hn hi hm hb hl hq hw h1 h2 hf hF _ hs
    obtain ⟨m, rfl⟩ := nat_suc hn
    show Ok (b_m_placeOf_29 (f_m_placeOf_29 m) x (nI i) s1) P
    unfold b_m_placeOf_29
    obtain ⟨e1, e2, e3, e4⟩ := hq
    cases hf
    rw [hm, e1, e2]
    refine ok_t (by simp only [List.length_nil, Nat.add_zero]; exact Int32.le_refl _) (ok_some ?_)
    have := hs q rfl hw s1 hF
    simpa only [i_lit, pk_mul, nI_add] using this
  | cons f l ih =>
    intro i n q w v s1 hn hi hm hb hl hq hw h1 h2 hf hF h0 hs
    simp only [List.length_cons] at hn hi hm hb
    obtain ⟨m, rfl⟩ := nat_suc hn
    show Ok (b_m_placeOf_29 (f_m_placeOf_29 m) x (nI i) s1) P
    unfold b_m_placeOf_29
    rw [hm]
    refine ok_f (by rw [nI_leI (by omega) (by omega)]; omega) ?_
    refine ok_t (inb_nI (by omega) (by omega)) ?_
    rw [m_has_eq (by omega)]
    refine ok_bind (ok_some ?_)
    rw [cl_nI (by omega)]
    have hb0 := hb 0 (by omega)
    simp only [Nat.add_zero, List.getD_cons_zero] at hb0
    simp only [hb0, slb_I]
    have hfd : ∃ u, fold1 f w = some u ∧ fds l u = some v := by
      simp only [fds] at hf
      exact Option.bind_eq_some_iff.mp hf
    obtain ⟨u, hu1, hu2⟩ := hfd
    obtain ⟨g1, g2, g3, g4⟩ := hw
    have hle := fold1_le hu1
    refine ok_bind (m_comesBy_ok hq (by omega) (by omega) (by omega) (by omega) (hl f (by simp)) (slb_lt x i) (fun hc s2 hF2 => ?_) (fun z hc s2 hF2 hz => ?_))
    · refine ok_t rfl (ok_some (h0 (by simp [cbs, hc]) s2 (hF.tr hF2)))
    · refine ok_f (show ¬ (1 : Int32) = 0 by decide) (ok_lt ?_)
      have e : (nI i + (1 : Int32)) = nI (i + 1) := nI_1 i
      rw [e]
      have hrow : ∀ j, s2.1 63 j = s1.1 63 j := fun j => hF2 63 j rfl
      refine ih (i + 1) m z u v s2 (by omega) (by omega) ?_ ?_ (fun g hg => hl g (by simp [hg])) hz (cb_cW ⟨g1, g2, g3, g4⟩ hu1 hc (slb_lt x i)) (by omega) (by omega) hu2 (hF.tr hF2) (fun hc2 => h0 (by simp [cbs, hc, hc2])) (fun y hc2 => hs y (by simp [cbs, hc, hc2]))
      · rw [hF2 58 12 rfl, hm]; congr 1; omega
      · intro j hj
        rw [hrow, show i + 1 + j = i + (j + 1) by omega, hb (j + 1) (by omega)]
        simp
/-- where the reference brings a cell -/
theorem m_placeOf_ok {st : Mm} {n x y : Nat} {l : List Nat} {v : Wd} {s : Int32} {P : Int32 × Mm → Prop} (hn : st.1 58 0 = nI n) (hn2 : n < 64) (hx : x < n) (hy : y < n) (hl : l.length ≤ 9) (hm : st.1 58 12 = nI l.length) (hb : ∀ j, j < l.length → st.1 63 j = nI (l.getD j 0)) (hl2 : ∀ f ∈ l, f < 256) (hf : fds l (n, n, 0) = some v)
    (h0 : cbs (slb s) l 0 (x, y, n, n) = none → ∀ s2, Fr LB st s2 → P (-1, s2)) (hs : ∀ z, cbs (slb s) l 0 (x, y, n, n) = some z → cW z v → ∀ s2, Fr LB st s2 → P (nI (16 * z.2.1 + z.1), s2)) : Ok (f_m_placeOf (nI x) (nI y) s st) P := by
  unfold f_m_placeOf
  refine ok_lt (ok_lt ?_)
  simp only [sI_at, Nat.reduceEqDiff, reduceIte, and_true, true_and, and_false, false_and, hn]
  refine m_placeOf_loop s st l 0 1000000 (x, y, n, n) (n, n, 0) v _ (by omega) (by omega) ?_ ?_ hl2 ?_ ⟨rfl, rfl, hx, hy⟩ hn2 hn2 hf ?_ h0 hs
  · simp [sI_at, hm]
  · intro j hj
    simp [sI_at, hb j hj]
  · refine ⟨?_, ?_, ?_, ?_⟩ <;> simp [sI_at]
  · exact (((Fr.rf.sI rfl).sI rfl).sI rfl).sI rfl
def LR : List (Nat × Option Nat) := [(58, some 8), (58, some 9), (58, some 10), (58, some 12), (63, none)]
theorem m_laysRecipe_loop {P : Unit × Mm → Prop} (s0 : Mm) (l : List Nat) (k9 : l.length ≤ 9) (hl2 : ∀ f ∈ l, f < 256) (h0 : s0.1 58 1 = nI l.length) (hF0 : ∀ j, j < l.length → s0.1 59 j = nI (l.getD j 0)) (v : Wd) : ∀ (r i n : Nat) (w : Wd) (s1 : Mm), l.length = i + r → r + 1 ≤ n → mW s1 w → w.1 < 64 → w.2.1 < 64 → fds (l.drop i) w = some v → Fr LR s0 s1 → (∀ j, j < i → s1.1 63 j = nI (l.getD j 0)) → s1.1 58 12 = nI l.length →
    (∀ s2, Fr LR s0 s2 → mW s2 v → (∀ j, j < l.length → s2.1 63 j = nI (l.getD j 0)) → s2.1 58 12 = nI l.length → P ((), s2)) → Ok (f_m_laysRecipe_14 n (nI i) s1) P := by
  intro r
  induction r with
  | zero =>
    intro i n w s1 hr hn hw h1 h2 hf hF hb hm hs
    obtain ⟨m, rfl⟩ := nat_suc hn
    show Ok (b_m_laysRecipe_14 (f_m_laysRecipe_14 m) (nI i) s1) P
    unfold b_m_laysRecipe_14
    rw [hF 58 1 rfl, h0]
    refine ok_t (by rw [nI_leI (by omega) (by omega)]; omega) (ok_some ?_)
    have hd : l.drop i = [] := List.drop_eq_nil_of_le (by omega)
    rw [hd] at hf
    cases hf
    exact hs s1 hF hw (fun j hj => hb j (by omega)) hm
  | succ r ih =>
    intro i n w s1 hr hn hw h1 h2 hf hF hb hm hs
    obtain ⟨m, rfl⟩ := nat_suc hn
    show Ok (b_m_laysRecipe_14 (f_m_laysRecipe_14 m) (nI i) s1) P
    unfold b_m_laysRecipe_14
    rw [hF 58 1 rfl, h0]
    refine ok_f (by rw [nI_leI (by omega) (by omega)]; omega) ?_
    have hi9 : inb (nI i) 9 := inb_nI (by omega) (by omega)
    refine ok_t hi9 (ok_lt (ok_t hi9 (ok_t hi9 ?_)))
    rw [cl_nI (by omega)]
    have hc : l.drop i = l.getD i 0 :: l.drop (i + 1) := by
      rw [List.drop_eq_getElem_cons (by omega)]
      simp [List.getD_eq_getElem?_getD, List.getElem?_eq_getElem (show i < l.length by omega)]
    rw [hc] at hf
    simp only [fds] at hf
    obtain ⟨u, hu1, hu2⟩ := Option.bind_eq_some_iff.mp hf
    have hle := fold1_le hu1
    have e59 : s1.1 59 i = nI (l.getD i 0) := by rw [hF 59 i rfl, hF0 i (by omega)]
    simp only [sI_at, Nat.reduceEqDiff, reduceIte, and_true, true_and, and_false, false_and, e59]
    obtain ⟨w1, w2, w3⟩ := hw
    have hg : l.getD i 0 < 256 := hl2 _ (by rw [List.getD_eq_getElem?_getD, List.getElem?_eq_getElem (show i < l.length by omega)]; exact List.getElem_mem _)
    refine ok_bind (m_foldsOnce_ok (w := w) (f := l.getD i 0) ⟨by simp [sI_at, w1], by simp [sI_at, w2], by simp [sI_at, w3]⟩ h1 h2 (by omega) hg (fun hn0 => by rw [hu1] at hn0; cases hn0) (fun z hz s2 hF2 hz2 => ?_))
    rw [hu1] at hz
    cases hz
    refine ok_lt ?_
    rw [nI_1]
    have hFx : Fr LR s0 (sI s1 63 i (nI (l.getD i 0))) := hF.sI (by simp [inL, LR])
    have hF3 : Fr LR s0 s2 := hFx.tr (hF2.wk (by decide))
    refine ih (i + 1) m u s2 (by omega) (by omega) hz2 (by omega) (by omega) hu2 hF3 ?_ ?_ hs
    · intro j hj
      rw [hF2 63 j (by simp [inL, LW]), sI_at]
      by_cases hji : j = i
      · subst hji; simp
      · simp only [hji, and_false, reduceIte]
        exact hb j (by omega)
    · rw [hF2 58 12 rfl]; simp [sI_at, hm]
theorem m_laysRecipe_ok {st : Mm} {n : Nat} {l : List Nat} {v : Wd} {P : Unit × Mm → Prop} (hn : st.1 58 0 = nI n) (hn2 : n < 64) (k9 : l.length ≤ 9) (hl2 : ∀ f ∈ l, f < 256) (h0 : st.1 58 1 = nI l.length) (hF0 : ∀ j, j < l.length → st.1 59 j = nI (l.getD j 0)) (hf : fds l (n, n, 0) = some v)
    (hs : ∀ s2, Fr LR st s2 → mW s2 v → (∀ j, j < l.length → s2.1 63 j = nI (l.getD j 0)) → s2.1 58 12 = nI l.length → P ((), s2)) : Ok (f_m_laysRecipe st) P := by
  unfold f_m_laysRecipe
  rw [m_startsWedge_eq]
  refine ok_bind (ok_some (ok_lt ?_))
  simp only [sI_at, Nat.reduceEqDiff, reduceIte, and_true, true_and, and_false, false_and, hn, h0]
  refine m_laysRecipe_loop st l k9 hl2 h0 hF0 v l.length 0 1000000 (n, n, 0) _ (by omega) (by omega) ?_ hn2 hn2 (by simpa using hf) ?_ (fun j hj => by omega) ?_ hs
  · refine ⟨?_, ?_, ?_⟩ <;> simp [sI_at] <;> rfl
  · exact (((Fr.rf.sI rfl).sI rfl).sI rfl).sI rfl
  · simp [sI_at]
