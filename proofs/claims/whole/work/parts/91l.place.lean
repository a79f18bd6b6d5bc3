/-! recipe: places told by digits -/
def dkN (T : Txt) (p : Nat) : Nat := if isD T p then (if isD T (p + 1) then 2 else 1) else 0
theorem dk_run {T : Txt} {p : Nat} : dRun T p (dkN T p) ∧ dkN T p ≤ 2 := by
  unfold dkN
  by_cases h : isD T p = true
  · rw [if_pos h]
    by_cases h2 : isD T (p + 1) = true
    · rw [if_pos h2]
      refine ⟨fun i hi => ?_, by omega⟩
      rcases Nat.eq_zero_or_pos i with z | z
      · rw [z]; exact h
      · rw [show i = 1 by omega]; exact h2
    · rw [if_neg h2]
      refine ⟨fun i hi => ?_, by omega⟩
      rw [show i = 0 by omega]; exact h
  · rw [if_neg h]
    exact ⟨fun i hi => by omega, by omega⟩
theorem dk_end {T : Txt} {p : Nat} (h : dkN T p < 2) : isD T (p + dkN T p) = false := by
  unfold dkN at h ⊢
  cases h1 : isD T p with
  | false => exact h1
  | true =>
    rw [h1] at h
    cases h2 : isD T (p + 1) with
    | false => exact h2
    | true => rw [h2] at h; simp at h
theorem dk_pos {T : Txt} {p : Nat} : isD T p = true ↔ 0 < dkN T p := by
  unfold dkN
  cases h1 : isD T p with
  | false => simp
  | true =>
    cases h2 : isD T (p + 1) <;> simp
theorem dk_in {T : Txt} {p i : Nat} (h : i < dkN T p) : p + i < T.1 := ch_in (by have := isD_t (dk_run.1 i h); omega)
theorem GX.look {T : Txt} {n : Nat} {l : List Nat} {v : Wd} {sB s : Mm} {k a : Nat} (hB : BX T n l v sB) (h : GX sB s k a) : ∃ r, f_Rdr_look s = some (r, s) := by
  have h160 := hB.2.2.1.1
  unfold f_Rdr_look
  by_cases h1 : s.1 13 6 < 0
  · exact ⟨-1, by rw [if_pos h1]⟩
  · rw [if_neg h1, h.1 13 5 rfl, hB.1]
    by_cases h2 : nI T.1 ≤ s.1 13 6
    · exact ⟨-1, by rw [if_pos h2]⟩
    · rw [if_neg h2]
      refine ⟨s.1 21 (s.1 13 6).toNatClampNeg, if_pos ?_⟩
      obtain ⟨k, k1, k2⟩ := nI_of h1
      rw [k2] at h2 ⊢
      rw [nI_leI (by omega) (by omega)] at h2
      exact inb_nI (by omega) (by omega)
theorem GX.two20 {sB s : Mm} {k a : Nat} (h : GX sB s k a) (m : Nat) (v w : Int32) : f_Rdr_readOneOrTwoDigits_20 (m + 1) v w s = some (v, s) := by
  show b_Rdr_readOneOrTwoDigits_20 (f_Rdr_readOneOrTwoDigits_20 m) v w s = _
  unfold b_Rdr_readOneOrTwoDigits_20
  rw [if_neg h.ne]
  split <;> rfl
theorem GX.two {T : Txt} {n : Nat} {l : List Nat} {v : Wd} {sB s : Mm} {k a : Nat} (hB : BX T n l v sB) (h : GX sB s k a) : f_Rdr_readOneOrTwoDigits s = some (0, s) := by
  obtain ⟨r, er⟩ := h.look hB
  unfold f_Rdr_readOneOrTwoDigits
  rw [x_sees, er]
  simp only [Option.bind_some]
  have e0 : f_Rdr_readOneOrTwoDigits_20 1000000 (0 : Int32) (0 : Int32) s = some (0, s) := h.two20 999999 0 0
  by_cases h1 : r < 48
  · rw [if_pos h1]
    simp only [Option.bind_some]
    rw [if_pos trivial, h.fail]
    exact e0
  · rw [if_neg h1]
    by_cases h2 : 57 < r
    · rw [if_pos h2]
      simp only [Option.bind_some]
      rw [if_pos trivial, h.fail]
      exact e0
    · rw [if_neg h2]
      simp only [Option.bind_some]
      rw [if_neg ne10]
      exact e0
theorem SXq.twoT {T : Txt} {n : Nat} {l : List Nat} {v : Wd} {sB s : Mm} {p cn : Nat} {cut : Nat → Bool} (hB : BX T n l v sB) (h : SXq T sB s p cn cut) (hd : 0 < dkN T p) : ∃ s2, f_Rdr_readOneOrTwoDigits s = some (nI (numV T p (dkN T p)), s2) ∧ SXq T sB s2 (p + dkN T p) cn cut ∧ s2.1 13 11 = s.1 13 11 := by
  have h160 := hB.2.2.1.1
  have hr := dk_run (T := T) (p := p)
  have lp : ∀ r i m s1, i + r = dkN T p → r + 2 ≤ m → SXq T sB s1 (p + i) cn cut → s1.1 13 11 = s.1 13 11 → ∃ s2, f_Rdr_readOneOrTwoDigits_20 m (nI (numV T p i)) (nI i) s1 = some (nI (numV T p (dkN T p)), s2) ∧ SXq T sB s2 (p + dkN T p) cn cut ∧ s2.1 13 11 = s.1 13 11 := by
    intro r
    induction r with
    | zero =>
      intro i m s1 hi hm h1 h11
      obtain ⟨m, rfl⟩ := nat_suc (show 0 + 1 ≤ m by omega)
      have e : i = dkN T p := by omega
      subst e
      refine ⟨s1, ?_, h1, h11⟩
      show b_Rdr_readOneOrTwoDigits_20 (f_Rdr_readOneOrTwoDigits_20 m) _ _ s1 = _
      unfold b_Rdr_readOneOrTwoDigits_20
      by_cases h2 : 2 ≤ dkN T p
      · rw [if_pos (show (2 : Int32) ≤ nI (dkN T p) from show nI 2 ≤ nI (dkN T p) from nI_le h2 (by omega))]
      · rw [if_neg (show ¬ (2 : Int32) ≤ nI (dkN T p) from show ¬ nI 2 ≤ nI (dkN T p) by rw [nI_leI (by omega) (by omega)]; omega), h1.2.2.1, if_pos rfl, x_digT hB.2.2.1 (h1.look hB), dk_end (by omega)]
        rfl
    | succ r ih =>
      intro i m s1 hi hm h1 h11
      obtain ⟨m, rfl⟩ := nat_suc (show 0 + 1 ≤ m by omega)
      have hd1 := hr.1 i (by omega)
      have hd2 := isD_t hd1
      have hin := dk_in (T := T) (p := p) (i := i) (by omega)
      have h2 := h1.pos (p2 := p + (i + 1)) (by omega)
      obtain ⟨s2, e2, h3, h4⟩ := ih (i + 1) m _ (by omega) (by omega) h2 (by rw [sI_col _ _ _ _ (by decide)]; exact h11)
      refine ⟨s2, ?_, h3, h4⟩
      rw [← e2]
      show b_Rdr_readOneOrTwoDigits_20 (f_Rdr_readOneOrTwoDigits_20 m) _ _ s1 = _
      unfold b_Rdr_readOneOrTwoDigits_20
      rw [if_neg (show ¬ (2 : Int32) ≤ nI i from show ¬ nI 2 ≤ nI i by rw [nI_leI (by omega) (by omega)]; omega), h1.2.2.1, if_pos rfl, x_digT hB.2.2.1 (h1.look hB), hd1]
      simp only [Option.bind_some]
      rw [if_neg nbt, h1.look hB]
      simp only [Option.bind_some]
      rw [ch_I (by omega), dig_step hd1, h1.2.1, nI_1, nI_1, lt_eq, lt_eq, lt_eq]
      rfl
  obtain ⟨s2, e2, h2, h3⟩ := lp (dkN T p) 0 1000000 s (by omega) (by omega) h rfl
  refine ⟨s2, ?_, h2, h3⟩
  unfold f_Rdr_readOneOrTwoDigits
  rw [x_digT hB.2.2.1 (h.look hB), dk_pos.mpr hd]
  simp only [Option.bind_some]
  rw [if_neg nbt]
  exact e2
theorem SXq.twoF {T : Txt} {n : Nat} {l : List Nat} {v : Wd} {sB s : Mm} {p cn : Nat} {cut : Nat → Bool} (hB : BX T n l v sB) (h : SXq T sB s p cn cut) (hd : dkN T p = 0) : ∃ s2, f_Rdr_readOneOrTwoDigits s = some (0, s2) ∧ GX sB s2 1 p ∧ s2.1 13 10 = nI cn := by
  have h160 := hB.2.2.1.1
  obtain ⟨e2, h2⟩ := h.bad (q := 1) (by omega) p
  have hn : isD T p = false := by
    cases hh : isD T p with
    | false => rfl
    | true => have := dk_pos.mp hh; omega
  refine ⟨_, ?_, h2, by rw [sI_col _ _ _ _ (by decide), sI_col _ _ _ _ (by decide)]; exact h.2.2.2.1⟩
  unfold f_Rdr_readOneOrTwoDigits
  rw [x_digT hB.2.2.1 (h.look hB), hn]
  simp only [Option.bind_some]
  rw [if_pos (show bI false = 0 from rfl), h.2.1, show f_Rdr_fail (1 : Int32) (nI p) s = _ from e2]
  simp only [Option.bind_some]
  exact h2.two20 999999 0 0
/-! the reference's -/
theorem SMq.dig {T : Txt} {n : Nat} {l : List Nat} {v : Wd} {sB s : Mm} {p cn : Nat} {cut : Nat → Bool} (hB : BM T n l v sB) (h : SMq T sB s p cn cut) : f_m_isDigit s = some (bI (isD T p), s) := m_digT hB.1.2.2 (h.here hB)
theorem SMq.twoT {T : Txt} {n : Nat} {l : List Nat} {v : Wd} {sB s : Mm} {p cn : Nat} {cut : Nat → Bool} (hB : BM T n l v sB) (h : SMq T sB s p cn cut) (hd : 0 < dkN T p) : ∃ s2, f_m_readsTwo s = some (1, s2) ∧ SMq T sB s2 (p + dkN T p) cn cut ∧ s2.1 58 26 = nI (numV T p (dkN T p)) ∧ s2.1 58 28 = s.1 58 28 := by
  have h160 := hB.1.2.2.1
  have hp := h.2.2.2.2
  have hr := dk_run (T := T) (p := p)
  have lp : ∀ r i m s1, i + r = dkN T p → r + 2 ≤ m → SMq T sB s1 (p + i) cn cut → s1.1 58 26 = nI (numV T p i) → s1.1 58 28 = s.1 58 28 → ∃ s2, f_m_readsTwo_10 m (nI p) s1 = some (1, s2) ∧ SMq T sB s2 (p + dkN T p) cn cut ∧ s2.1 58 26 = nI (numV T p (dkN T p)) ∧ s2.1 58 28 = s.1 58 28 := by
    intro r
    induction r with
    | zero =>
      intro i m s1 hi hm h1 h26 h28
      obtain ⟨m, rfl⟩ := nat_suc (show 0 + 1 ≤ m by omega)
      have e : i = dkN T p := by omega
      subst e
      refine ⟨s1, ?_, h1, h26, h28⟩
      have b59 : b_m_readsTwo_59 (nI p) s1 = some (1, s1) := by
        unfold b_m_readsTwo_59
        rw [h1.2.1, if_pos (nI_lt (by omega) (by omega))]
      show b_m_readsTwo_10 (f_m_readsTwo_10 m) _ s1 = _
      unfold b_m_readsTwo_10
      rw [h1.dig hB]
      simp only [Option.bind_some]
      by_cases h2 : 2 ≤ dkN T p
      · cases hdg : isD T (p + dkN T p) with
        | false => rw [if_pos (show bI false = 0 from rfl)]; exact b59
        | true =>
          rw [if_neg nbt, h1.2.1, i_lit 2, nI_add, if_pos (nI_le (by omega) (by omega))]
          exact b59
      · rw [dk_end (by omega), if_pos (show bI false = 0 from rfl)]
        exact b59
    | succ r ih =>
      intro i m s1 hi hm h1 h26 h28
      obtain ⟨m, rfl⟩ := nat_suc (show 0 + 1 ≤ m by omega)
      have hd1 := hr.1 i (by omega)
      have hd2 := isD_t hd1
      have hin := dk_in (T := T) (p := p) (i := i) (by omega)
      have h2 : SMq T sB (sI s1 58 26 (nI (numV T p (i + 1)))) (p + i) cn cut := ⟨h1.1.sI rfl, by rw [sI_col _ _ _ _ (by decide)]; exact h1.2.1, by rw [sI_col _ _ _ _ (by decide)]; exact h1.2.2.1, fun k hk => by rw [sI_row _ _ _ _ (by decide)]; exact h1.2.2.2.1 k hk, h1.2.2.2.2⟩
      obtain ⟨s2, e2, h3, h4, h5⟩ := ih (i + 1) m _ (by omega) (by omega) (h2.pos (p2 := p + (i + 1)) (by omega)) (by rw [sI_col _ _ _ _ (by decide), sI_self]) (by rw [sI_col _ _ _ _ (by decide), sI_col _ _ _ _ (by decide)]; exact h28)
      refine ⟨s2, ?_, h3, h4, h5⟩
      rw [← e2]
      show b_m_readsTwo_10 (f_m_readsTwo_10 m) _ s1 = _
      unfold b_m_readsTwo_10
      rw [h1.dig hB, hd1]
      simp only [Option.bind_some]
      rw [if_neg nbt, h1.2.1, i_lit 2, nI_add, if_neg (by rw [nI_leI (by omega) (by omega)]; omega), h1.here hB]
      simp only [Option.bind_some]
      rw [ch_I (by omega), h26, dig_step hd1, lt_eq, sI_col _ _ _ _ (show 20 ≠ 26 by decide), h1.2.1, nI_1, lt_eq]
      rfl
  have h0 : SMq T sB (sI s 58 26 0) (p + 0) cn cut := ⟨h.1.sI rfl, by rw [sI_col _ _ _ _ (by decide)]; exact h.2.1, by rw [sI_col _ _ _ _ (by decide)]; exact h.2.2.1, fun k hk => by rw [sI_row _ _ _ _ (by decide)]; exact h.2.2.2.1 k hk, h.2.2.2.2⟩
  obtain ⟨s2, e2, h2⟩ := lp (dkN T p) 0 1000000 _ (by omega) (by omega) h0 (by rw [sI_self]; rfl) (by rw [sI_col _ _ _ _ (by decide)])
  refine ⟨s2, ?_, h2⟩
  unfold f_m_readsTwo
  rw [lt_eq, h.2.1]
  exact e2
theorem SMq.twoF {T : Txt} {n : Nat} {l : List Nat} {v : Wd} {sB s : Mm} {p cn : Nat} {cut : Nat → Bool} (hB : BM T n l v sB) (h : SMq T sB s p cn cut) (hd : dkN T p = 0) : ∃ s2, f_m_readsTwo s = some (0, s2) ∧ GM sB s2 1 p := by
  have h160 := hB.1.2.2.1
  have hp := h.2.2.2.2
  have hn : isD T p = false := by
    cases hh : isD T p with
    | false => rfl
    | true => have := dk_pos.mp hh; omega
  have h0 : SMq T sB (sI s 58 26 0) p cn cut := ⟨h.1.sI rfl, by rw [sI_col _ _ _ _ (by decide)]; exact h.2.1, by rw [sI_col _ _ _ _ (by decide)]; exact h.2.2.1, fun k hk => by rw [sI_row _ _ _ _ (by decide)]; exact h.2.2.2.1 k hk, h.2.2.2.2⟩
  refine ⟨_, ?_, h0.bad 1 p⟩
  unfold f_m_readsTwo
  rw [lt_eq, h.2.1]
  show f_m_readsTwo_10 (999999 + 1) (nI p) (sI s 58 26 0) = _
  obtain ⟨m, em⟩ : ∃ m, m = 999999 := ⟨_, rfl⟩
  rw [← em]
  show b_m_readsTwo_10 (f_m_readsTwo_10 m) (nI p) (sI s 58 26 0) = _
  unfold b_m_readsTwo_10 b_m_readsTwo_59
  rw [h0.dig hB, hn]
  simp only [Option.bind_some]
  rw [if_pos (show bI false = 0 from rfl), h0.2.1, if_neg (by rw [nI_ltI (by omega) (by omega)]; omega), m_wrong_eq]
  rfl
/-! a place: what its text tells -/
def plX (T : Txt) (p : Nat) : Nat := numV T p (dkN T p)
def plM (T : Txt) (p : Nat) : Nat := p + dkN T p
def plY (T : Txt) (p : Nat) : Nat := numV T (plM T p + 1) (dkN T (plM T p + 1))
def plE (T : Txt) (p : Nat) : Nat := plM T p + 1 + dkN T (plM T p + 1)
def plG (v : Wd) (T : Txt) (lx ly p : Nat) : Prop := isP v (plX T p) (plY T p) = true ∧ lx ≤ plX T p ∧ ly ≤ plY T p
theorem plX_lt {T : Txt} {p : Nat} : plX T p < 100 ∧ plY T p < 100 := by
  have h1 := numV_lt (dkN T p) (dk_run (T := T) (p := p)).1
  have h2 := numV_lt (dkN T (plM T p + 1)) (dk_run (T := T) (p := plM T p + 1)).1
  have a1 : 10 ^ dkN T p ≤ 10 ^ 2 := Nat.pow_le_pow_right (by decide) dk_run.2
  have a2 : 10 ^ dkN T (plM T p + 1) ≤ 10 ^ 2 := Nat.pow_le_pow_right (by decide) dk_run.2
  unfold plX plY
  omega
/-- how a place goes wrong, and where -/
def plF (v : Wd) (T : Txt) (lx ly p k a : Nat) : Prop := (dkN T p = 0 ∧ k = 1 ∧ a = p) ∨ (0 < dkN T p ∧ chn T (plM T p) ≠ 44 ∧ k = 1 ∧ a = plM T p) ∨ (0 < dkN T p ∧ chn T (plM T p) = 44 ∧ dkN T (plM T p + 1) = 0 ∧ k = 1 ∧ a = plM T p + 1) ∨ (0 < dkN T p ∧ chn T (plM T p) = 44 ∧ 0 < dkN T (plM T p + 1) ∧ ¬ plG v T lx ly p ∧ k = 6 ∧ a = p)
def plT (v : Wd) (T : Txt) (lx ly p : Nat) : Prop := 0 < dkN T p ∧ chn T (plM T p) = 44 ∧ 0 < dkN T (plM T p + 1) ∧ plG v T lx ly p
theorem plE_in {v : Wd} {T : Txt} {lx ly p : Nat} (h : plT v T lx ly p) : p < plE T p ∧ plE T p ≤ T.1 := by
  have := dk_in (T := T) (p := plM T p + 1) (i := dkN T (plM T p + 1) - 1) (by have := h.2.2.1; omega)
  have := h.2.2.1
  unfold plE plM at *
  omega
theorem x_place_dead {T : Txt} {n : Nat} {l : List Nat} {v : Wd} {sB s : Mm} {k a : Nat} (hB : BX T n l v sB) (h : GX sB s k a) (w1 w2 v3 : Int32) : ∃ s2, (f_Rdr_readOneOrTwoDigits s).bind (fun q4 => if ((sI q4.2 13 12 q4.1).1 13 11) < w1 then (b_Rdr_readPlace_61 v3 (sI q4.2 13 12 q4.1)) else (if ((sI q4.2 13 12 q4.1).1 13 12) < w2 then (b_Rdr_readPlace_61 v3 (sI q4.2 13 12 q4.1)) else ((f_Fold_holds 14 15 16 ((sI q4.2 13 12 q4.1).1 13 11) ((sI q4.2 13 12 q4.1).1 13 12) (sI q4.2 13 12 q4.1)).bind (fun q7 => if q7.1 = 0 then (b_Rdr_readPlace_61 v3 q7.2) else (some ((), q7.2)))))) = some ((), s2) ∧ GX sB s2 k a ∧ s2.1 13 10 = s.1 13 10 := by
  rw [h.two hB]
  simp only [Option.bind_some]
  have h2 : GX sB (sI s 13 12 0) k a := ⟨h.1.sI rfl, h.2.1, by rw [sI_col _ _ _ _ (by decide)]; exact h.2.2.1, by rw [sI_col _ _ _ _ (by decide)]; exact h.2.2.2⟩
  refine ⟨sI s 13 12 0, ?_, h2, by rw [sI_col _ _ _ _ (by decide)]⟩
  have b61 : b_Rdr_readPlace_61 v3 (sI s 13 12 0) = some ((), sI s 13 12 0) := by
    unfold b_Rdr_readPlace_61
    rw [h2.fail]; rfl
  rw [b61, x_holds_eq (SXq.fo hB h2.1)]
  simp only [Option.bind_some]
  rw [b61]
  repeat' split
  all_goals rfl
theorem x_place_f {T : Txt} {n : Nat} {l : List Nat} {v : Wd} {sB s : Mm} {p cn lx ly k a : Nat} {cut : Nat → Bool} (hB : BX T n l v sB) (h : SXq T sB s p cn cut) (hlx : lx < 100) (hly : ly < 100) (hF : plF v T lx ly p k a) : ∃ s2, f_Rdr_readPlace (nI lx) (nI ly) s = some ((), s2) ∧ GX sB s2 k a ∧ s2.1 13 10 = nI cn := by
  have h160 := hB.2.2.1.1
  have hp := h.2.2.2.2.2
  unfold f_Rdr_readPlace
  rw [lt_eq, h.2.1]
  rcases hF with ⟨d1, rfl, rfl⟩ | ⟨d1, c1, rfl, rfl⟩ | ⟨d1, c1, d2, rfl, rfl⟩ | ⟨d1, c1, d2, g, rfl, rfl⟩
  · obtain ⟨s1, e1, h1, h10⟩ := h.twoF hB d1
    have h2 : GX sB (sI s1 13 11 0) 1 a := ⟨h1.1.sI rfl, h1.2.1, by rw [sI_col _ _ _ _ (by decide)]; exact h1.2.2.1, by rw [sI_col _ _ _ _ (by decide)]; exact h1.2.2.2⟩
    obtain ⟨s3, e3, h3, h310⟩ := x_place_dead hB h2 (nI lx) (nI ly) (nI a)
    refine ⟨s3, ?_, h3, by rw [h310, sI_col _ _ _ _ (by decide)]; exact h10⟩
    rw [e1]
    simp only [Option.bind_some]
    rw [h2.take]
    exact e3
  · obtain ⟨s1, e1, h1, _⟩ := h.twoT hB d1
    have h2 : SXq T sB (sI s1 13 11 (nI (plX T p))) (plM T p) cn cut := ⟨h1.1.sI rfl, by rw [sI_col _ _ _ _ (by decide)]; exact h1.2.1, by rw [sI_col _ _ _ _ (by decide)]; exact h1.2.2.1, by rw [sI_col _ _ _ _ (by decide)]; exact h1.2.2.2.1, by rw [sI_row _ _ _ _ (by decide)]; exact h1.2.2.2.2.1, h1.2.2.2.2.2⟩
    have hb := h2.bad (q := 1) (by omega) (plM T p)
    have e2 : f_Rdr_take (44 : Int32) (sI s1 13 11 (nI (plX T p))) = some ((), sI (sI (sI s1 13 11 (nI (plX T p))) 13 7 (nI 1)) 13 8 (nI (plM T p))) := by
      unfold f_Rdr_take
      rw [h2.2.2.1, if_pos rfl, h2.look hB]
      simp only [Option.bind_some]
      rw [if_neg (show ¬ chI T (plM T p) = (44 : Int32) from fun e => c1 ((chI_eq hB.2.2.1 (by omega)).mp (show chI T (plM T p) = nI 44 from e))), h2.2.1, show f_Rdr_fail (1 : Int32) (nI (plM T p)) _ = _ from hb.1]
      rfl
    obtain ⟨s3, e3, h3, h310⟩ := x_place_dead hB hb.2 (nI lx) (nI ly) (nI p)
    refine ⟨s3, ?_, h3, by rw [h310, sI_col _ _ _ _ (by decide), sI_col _ _ _ _ (by decide)]; exact h2.2.2.2.1⟩
    rw [e1]
    simp only [Option.bind_some]
    rw [show f_Rdr_take (44 : Int32) (sI s1 13 11 (nI (numV T p (dkN T p)))) = _ from e2]
    exact e3
  · obtain ⟨s1, e1, h1, _⟩ := h.twoT hB d1
    have h2 : SXq T sB (sI s1 13 11 (nI (plX T p))) (plM T p) cn cut := ⟨h1.1.sI rfl, by rw [sI_col _ _ _ _ (by decide)]; exact h1.2.1, by rw [sI_col _ _ _ _ (by decide)]; exact h1.2.2.1, by rw [sI_col _ _ _ _ (by decide)]; exact h1.2.2.2.1, by rw [sI_row _ _ _ _ (by decide)]; exact h1.2.2.2.2.1, h1.2.2.2.2.2⟩
    obtain ⟨e2, hin⟩ := (h2.take hB (c := 44) (by omega)).1 c1
    have h3 := h2.pos (p2 := plM T p + 1) (by omega)
    obtain ⟨s4, e4, h4, h410⟩ := h3.twoF hB d2
    have h5 : GX sB (sI s4 13 12 0) 1 (plM T p + 1) := ⟨h4.1.sI rfl, h4.2.1, by rw [sI_col _ _ _ _ (by decide)]; exact h4.2.2.1, by rw [sI_col _ _ _ _ (by decide)]; exact h4.2.2.2⟩
    have b61 : b_Rdr_readPlace_61 (nI p) (sI s4 13 12 0) = some ((), sI s4 13 12 0) := by
      unfold b_Rdr_readPlace_61
      rw [h5.fail]; rfl
    refine ⟨sI s4 13 12 0, ?_, h5, by rw [sI_col _ _ _ _ (by decide)]; exact h410⟩
    rw [e1]
    simp only [Option.bind_some]
    rw [show f_Rdr_take (44 : Int32) (sI s1 13 11 (nI (numV T p (dkN T p)))) = _ from e2]
    simp only [Option.bind_some]
    rw [e4]
    simp only [Option.bind_some]
    rw [b61, x_holds_eq (SXq.fo hB h5.1)]
    simp only [Option.bind_some]
    rw [b61]
    repeat' split
    all_goals rfl
  · obtain ⟨s1, e1, h1, _⟩ := h.twoT hB d1
    have h2 : SXq T sB (sI s1 13 11 (nI (plX T a))) (plM T a) cn cut := ⟨h1.1.sI rfl, by rw [sI_col _ _ _ _ (by decide)]; exact h1.2.1, by rw [sI_col _ _ _ _ (by decide)]; exact h1.2.2.1, by rw [sI_col _ _ _ _ (by decide)]; exact h1.2.2.2.1, by rw [sI_row _ _ _ _ (by decide)]; exact h1.2.2.2.2.1, h1.2.2.2.2.2⟩
    obtain ⟨e2, hin⟩ := (h2.take hB (c := 44) (by omega)).1 c1
    have h3 := h2.pos (p2 := plM T a + 1) (by omega)
    obtain ⟨s4, e4, h4, h411⟩ := h3.twoT hB d2
    have h5 : SXq T sB (sI s4 13 12 (nI (plY T a))) (plE T a) cn cut := ⟨h4.1.sI rfl, by rw [sI_col _ _ _ _ (by decide)]; exact h4.2.1, by rw [sI_col _ _ _ _ (by decide)]; exact h4.2.2.1, by rw [sI_col _ _ _ _ (by decide)]; exact h4.2.2.2.1, by rw [sI_row _ _ _ _ (by decide)]; exact h4.2.2.2.2.1, h4.2.2.2.2.2⟩
    have e11 : s4.1 13 11 = nI (plX T a) := by rw [h411, sI_col _ _ _ _ (by decide), sI_self]
    have hb := h5.bad (q := 6) (by omega) a (by unfold plE plM; omega)
    have b61 : b_Rdr_readPlace_61 (nI a) (sI s4 13 12 (nI (plY T a))) = some ((), sI (sI (sI s4 13 12 (nI (plY T a))) 13 7 (nI 6)) 13 8 (nI a)) := by
      unfold b_Rdr_readPlace_61
      rw [show f_Rdr_fail (6 : Int32) (nI a) _ = _ from hb.1]; rfl
    refine ⟨_, ?_, hb.2, by rw [sI_col _ _ _ _ (by decide), sI_col _ _ _ _ (by decide)]; exact h5.2.2.2.1⟩
    have hlt := plX_lt (T := T) (p := a)
    rw [e1]
    simp only [Option.bind_some]
    rw [show f_Rdr_take (44 : Int32) (sI s1 13 11 (nI (numV T a (dkN T a)))) = _ from e2]
    simp only [Option.bind_some]
    rw [e4]
    simp only [Option.bind_some]
    rw [show numV T (plM T a + 1) (dkN T (plM T a + 1)) = plY T a from rfl, sI_col _ _ _ _ (show 11 ≠ 12 by decide), e11, sI_self]
    by_cases g1 : plX T a < lx
    · rw [if_pos (nI_lt g1 (by omega))]; exact b61
    · rw [if_neg (by rw [nI_ltI (by omega) (by omega)]; omega)]
      by_cases g2 : plY T a < ly
      · rw [if_pos (nI_lt g2 (by omega))]; exact b61
      · rw [if_neg (by rw [nI_ltI (by omega) (by omega)]; omega), x_holds_nat (SXq.fo hB h5.1) (by omega) (by omega)]
        simp only [Option.bind_some]
        have g3 : isP v (plX T a) (plY T a) = false := by
          cases hh : isP v (plX T a) (plY T a) with
          | false => rfl
          | true => exact absurd ⟨hh, by omega, by omega⟩ g
        rw [g3, if_pos (show bI false = 0 from rfl)]
        exact b61
theorem x_place_t {T : Txt} {n : Nat} {l : List Nat} {v : Wd} {sB s : Mm} {p cn lx ly : Nat} {cut : Nat → Bool} (hB : BX T n l v sB) (h : SXq T sB s p cn cut) (hlx : lx < 100) (hly : ly < 100) (hT : plT v T lx ly p) : ∃ s2, f_Rdr_readPlace (nI lx) (nI ly) s = some ((), s2) ∧ SXq T sB s2 (plE T p) cn cut ∧ s2.1 13 11 = nI (plX T p) ∧ s2.1 13 12 = nI (plY T p) := by
  have h160 := hB.2.2.1.1
  have hp := h.2.2.2.2.2
  obtain ⟨d1, c1, d2, g⟩ := hT
  obtain ⟨s1, e1, h1, _⟩ := h.twoT hB d1
  have h2 : SXq T sB (sI s1 13 11 (nI (plX T p))) (plM T p) cn cut := ⟨h1.1.sI rfl, by rw [sI_col _ _ _ _ (by decide)]; exact h1.2.1, by rw [sI_col _ _ _ _ (by decide)]; exact h1.2.2.1, by rw [sI_col _ _ _ _ (by decide)]; exact h1.2.2.2.1, by rw [sI_row _ _ _ _ (by decide)]; exact h1.2.2.2.2.1, h1.2.2.2.2.2⟩
  obtain ⟨e2, hin⟩ := (h2.take hB (c := 44) (by omega)).1 c1
  have h3 := h2.pos (p2 := plM T p + 1) (by omega)
  obtain ⟨s4, e4, h4, h411⟩ := h3.twoT hB d2
  have h5 : SXq T sB (sI s4 13 12 (nI (plY T p))) (plE T p) cn cut := ⟨h4.1.sI rfl, by rw [sI_col _ _ _ _ (by decide)]; exact h4.2.1, by rw [sI_col _ _ _ _ (by decide)]; exact h4.2.2.1, by rw [sI_col _ _ _ _ (by decide)]; exact h4.2.2.2.1, by rw [sI_row _ _ _ _ (by decide)]; exact h4.2.2.2.2.1, h4.2.2.2.2.2⟩
  have e11 : s4.1 13 11 = nI (plX T p) := by rw [h411, sI_col _ _ _ _ (by decide), sI_self]
  refine ⟨_, ?_, h5, by rw [sI_col _ _ _ _ (by decide)]; exact e11, sI_self _ _ _ _⟩
  have hlt := plX_lt (T := T) (p := p)
  unfold f_Rdr_readPlace
  rw [lt_eq, h.2.1, e1]
  simp only [Option.bind_some]
  rw [show f_Rdr_take (44 : Int32) (sI s1 13 11 (nI (numV T p (dkN T p)))) = _ from e2]
  simp only [Option.bind_some]
  rw [e4]
  simp only [Option.bind_some]
  rw [show numV T (plM T p + 1) (dkN T (plM T p + 1)) = plY T p from rfl, sI_col _ _ _ _ (show 11 ≠ 12 by decide), e11, sI_self, if_neg (by rw [nI_ltI (by omega) (by omega)]; have := g.2.1; omega), if_neg (by rw [nI_ltI (by omega) (by omega)]; have := g.2.2; omega), x_holds_nat (SXq.fo hB h5.1) (by omega) (by omega), g.1]
  rfl
