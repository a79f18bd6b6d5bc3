theorem lsub_iff {x y : Int64} : lg_cmp (x &&& (y ^^^ (-1 : Int64))) (0 : Int64) = 0 ↔ ∀ i, lb x i = true → lb y i = true := by
  rw [lg_cmp_eq]
  constructor
  · intro h i hi
    have h2 := lb_andn x y i
    rw [h, lb_0, hi] at h2
    cases hy : lb y i with
    | true => rfl
    | false => rw [hy] at h2; cases h2
  · intro h
    refine lb_fun0 (fun i => ?_)
    rw [lb_andn]
    cases hx : lb x i with
    | false => rfl
    | true => rw [h i hx]; rfl
theorem m_keeps_ok {cnt : Nat} {v : Int64} {st : Mm} {P : Unit × Mm → Prop} (hc : cnt < 2200) (hcn : st.1 58 49 = nI cnt)
    (hP : ∀ c2 s, c2 ≤ cnt + 1 → (∀ a j, ¬ (a = 58 ∧ j = 49) → s.1 a j = st.1 a j) → (∀ a j, a ≠ 80 → s.2 a j = st.2 a j) → s.1 58 49 = nI c2 → (∀ i, i < c2 → (∃ j, j < cnt ∧ s.2 80 i = st.2 80 j) ∨ s.2 80 i = v) → (∀ j, j < cnt → ∃ i, i < c2 ∧ ∀ x, lb (st.2 80 j) x = true → lb (s.2 80 i) x = true) → (∃ i, i < c2 ∧ ∀ x, lb v x = true → lb (s.2 80 i) x = true) → P ((), s)) : Ok (f_m_keepsOblong v st) P := by
  have l2 : ∀ q r w N s, r + q = cnt → q + 1 ≤ N → w ≤ r → s.1 = st.1 → (∀ a j, a ≠ 80 → s.2 a j = st.2 a j) → (∀ i, r ≤ i → s.2 80 i = st.2 80 i) → (∀ i, i < w → ∃ j, j < r ∧ s.2 80 i = st.2 80 j) → (∀ j, j < r → (∀ x, lb (st.2 80 j) x = true → lb v x = true) ∨ ∃ i, i < w ∧ s.2 80 i = st.2 80 j) → Ok (f_m_keepsOblong_39 N v (nI w) (nI r) s) P := by
    intro q
    induction q with
    | zero =>
      intro r w N s hr hN hw h1 h2 h3 h4 h5
      obtain ⟨N, rfl⟩ := nat_suc hN
      show Ok (b_m_keepsOblong_39 (f_m_keepsOblong_39 N) v (nI w) (nI r) s) P
      unfold b_m_keepsOblong_39
      rw [h1, hcn]
      refine okc_le cnt r (fun _ => ?_) (fun hh => by omega)
      unfold b_m_keepsOblong_92
      refine ok_t (inb_nI (by omega) (by omega)) (ok_lt (ok_some ?_))
      rw [nI_1, cl_nI (by omega)]
      have bx : ∀ i, (sI (sL s 80 w v) 58 49 (nI (w + 1))).2 80 i = if i = w then v else s.2 80 i := fun i => by rw [sI_l, sL_at]
      refine hP (w + 1) _ (by omega) (fun a j hj => ?_) (fun a j ha => by rw [sI_l, sL_2 _ _ _ _ _ _ ha]; exact h2 a j ha) (sI_self _ _ _ _) (fun i hi => ?_) (fun j hj => ?_) ⟨w, by omega, fun x hx => by rw [bx, if_pos rfl]; exact hx⟩
      · rw [sI_at, if_neg hj, sL_1, h1]
      · rw [bx]
        by_cases e : i = w
        · rw [if_pos e]; exact Or.inr rfl
        · rw [if_neg e]
          obtain ⟨j, j1, j2⟩ := h4 i (by omega)
          exact Or.inl ⟨j, by omega, j2⟩
      · rcases h5 j (by omega) with h | ⟨i, i1, i2⟩
        · exact ⟨w, by omega, fun x hx => by rw [bx, if_pos rfl]; exact h x hx⟩
        · exact ⟨i, by omega, fun x hx => by rw [bx, if_neg (by omega), i2]; exact hx⟩
    | succ q ih =>
      intro r w N s hr hN hw h1 h2 h3 h4 h5
      obtain ⟨N, rfl⟩ := nat_suc hN
      show Ok (b_m_keepsOblong_39 (f_m_keepsOblong_39 N) v (nI w) (nI r) s) P
      unfold b_m_keepsOblong_39
      have hrb : inb (nI r) 2200 := inb_nI (by omega) (by omega)
      rw [h1, hcn]
      refine okc_le cnt r (fun hh => by omega) (fun _ => ok_t hrb ?_)
      rw [cl_nI (show r < 2147483648 by omega), h3 r (Nat.le_refl _)]
      refine ok_if (fun hs => ok_lt ?_) (fun hs => ok_t hrb (ok_lt (ok_t (inb_nI (by omega) (by omega)) (ok_lt (ok_lt ?_)))))
      · rw [nI_1]
        refine ih (r + 1) w N s (by omega) (by omega) (by omega) h1 h2 (fun i hi => h3 i (by omega)) (fun i hi => ?_) (fun j hj => ?_)
        · obtain ⟨j, j1, j2⟩ := h4 i hi
          exact ⟨j, by omega, j2⟩
        · rcases Nat.lt_or_ge j r with h | h
          · exact h5 j h
          · rw [show j = r by omega]; exact Or.inl (lsub_iff.mp hs)
      · rw [nI_1, nI_1, cl_nI (show w < 2147483648 by omega)]
        have bx : ∀ i, (sL s 80 w (st.2 80 r)).2 80 i = if i = w then st.2 80 r else s.2 80 i := fun i => by rw [sL_at]
        refine ih (r + 1) (w + 1) N _ (by omega) (by omega) (by omega) h1 (fun a j ha => by rw [sL_2 _ _ _ _ _ _ ha]; exact h2 a j ha) (fun i hi => by rw [bx, if_neg (by omega)]; exact h3 i (by omega)) (fun i hi => ?_) (fun j hj => ?_)
        · rw [bx]
          by_cases e : i = w
          · rw [if_pos e]; exact ⟨r, by omega, rfl⟩
          · rw [if_neg e]
            obtain ⟨j, j1, j2⟩ := h4 i (by omega)
            exact ⟨j, by omega, j2⟩
        · rcases Nat.lt_or_ge j r with h | h
          · rcases h5 j h with h6 | ⟨i, i1, i2⟩
            · exact Or.inl h6
            · exact Or.inr ⟨i, by omega, by rw [bx, if_neg (by omega)]; exact i2⟩
          · exact Or.inr ⟨w, by omega, by rw [bx, if_pos rfl, show j = r by omega]⟩
  have l1 : ∀ q i N, i + q = cnt → q + 1 ≤ N → Ok (f_m_keepsOblong_2 N v (nI i) st) P := by
    intro q
    induction q with
    | zero =>
      intro i N hi hN
      obtain ⟨N, rfl⟩ := nat_suc hN
      show Ok (b_m_keepsOblong_2 (f_m_keepsOblong_2 N) v (nI i) st) P
      unfold b_m_keepsOblong_2 b_m_keepsOblong_34
      rw [hcn]
      refine okc_le cnt i (fun _ => ?_) (fun hh => by omega)
      exact l2 cnt 0 0 1000000 st (by omega) (by omega) (by omega) rfl (fun _ _ _ => rfl) (fun _ _ => rfl) (fun i hi => by omega) (fun j hj => by omega)
    | succ q ih =>
      intro i N hi hN
      obtain ⟨N, rfl⟩ := nat_suc hN
      show Ok (b_m_keepsOblong_2 (f_m_keepsOblong_2 N) v (nI i) st) P
      unfold b_m_keepsOblong_2
      rw [hcn]
      refine okc_le cnt i (fun hh => by omega) (fun _ => ok_t (inb_nI (by omega) (by omega)) ?_)
      rw [cl_nI (show i < 2147483648 by omega)]
      refine ok_if (fun hs => ok_some (hP cnt st (by omega) (fun _ _ _ => rfl) (fun _ _ _ => rfl) hcn (fun j hj => Or.inl ⟨j, hj, rfl⟩) (fun j hj => ⟨j, hj, fun x hx => hx⟩) ⟨i, by omega, lsub_iff.mp hs⟩)) (fun hs => ok_lt ?_)
      rw [nI_1]
      exact ih (i + 1) N (by omega) (by omega)
  unfold f_m_keepsOblong
  exact l1 cnt 0 1000000 (by omega) (by omega)
