/-! pieces: what hangs together over paper -/
theorem nbr_sym {n a j d : Nat} (hn : n ≤ 16) (ha : isC n a) (hj : j < 4) (h : nbr n a j = some d) : ∃ i, i < 4 ∧ nbr n d i = some a := by
  obtain ⟨h1, h2, h3⟩ := ha
  unfold nbr at h
  rcases (show j = 0 ∨ j = 1 ∨ j = 2 ∨ j = 3 by omega) with rfl | rfl | rfl | rfl
  · simp only [reduceIte] at h
    split at h
    · cases h
      refine ⟨1, by omega, ?_⟩
      unfold nbr
      rw [if_neg (by omega), if_pos rfl, if_pos (by omega)]
      congr 1
    · cases h
  · rw [if_neg (by omega), if_pos rfl] at h
    split at h
    · cases h
      refine ⟨0, by omega, ?_⟩
      unfold nbr
      rw [if_pos rfl, if_pos (by omega)]
      congr 1
      omega
    · cases h
  · rw [if_neg (by omega), if_neg (by omega), if_pos rfl] at h
    split at h
    · cases h
      refine ⟨3, by omega, ?_⟩
      unfold nbr
      rw [if_neg (by omega), if_neg (by omega), if_neg (by omega), if_pos (by omega)]
      congr 1
    · cases h
  · rw [if_neg (by omega), if_neg (by omega), if_neg (by omega)] at h
    split at h
    · cases h
      refine ⟨2, by omega, ?_⟩
      unfold nbr
      rw [if_neg (by omega), if_neg (by omega), if_pos rfl, if_pos (by omega)]
      congr 1
      omega
    · cases h
/-- hangs together over the cells of p -/
def Co (n : Nat) (p : Nat → Bool) (a b : Nat) : Prop := Rc n (fun c => p c = true) a b
/-- paper lies in the sheet -/
def pIn (n : Nat) (p : Nat → Bool) : Prop := n ≤ 16 ∧ ∀ c, p c = true → isC n c
theorem Co.p {n : Nat} {p : Nat → Bool} {a b : Nat} (h : Co n p a b) (ha : p a = true) : p b = true := h (fun c => p c = true) ha (fun _ _ _ _ _ _ hU => hU)
theorem Co.tr {n : Nat} {p : Nat → Bool} {a b c : Nat} (h1 : Co n p a b) (h2 : Co n p b c) : Co n p a c := h2 (fun d => Co n p a d) h1 (fun _ _ _ hs hj hd hU => Rc.st hs hj hd hU)
theorem Co.sy {n : Nat} {p : Nat → Bool} {a b : Nat} (hp : pIn n p) (h : Co n p a b) (ha : p a = true) : Co n p b a := by
  have : p b = true ∧ Co n p b a := by
    refine h (fun d => p d = true ∧ Co n p d a) ⟨ha, Rc.rf⟩ ?_
    rintro x j d ⟨hx, hxa⟩ hj hd hU
    obtain ⟨i, hi, hdx⟩ := nbr_sym hp.1 (hp.2 x hx) hj hd
    exact ⟨hU, Co.tr (Rc.st Rc.rf hi hdx hx) hxa⟩
  exact this.2
noncomputable def cn (n : Nat) (p : Nat → Bool) (a b : Nat) : Bool := @decide (Co n p a b) (Classical.propDecidable _)
theorem cn_iff {n : Nat} {p : Nat → Bool} {a b : Nat} : cn n p a b = true ↔ Co n p a b := by
  unfold cn
  exact @decide_eq_true_iff _ (Classical.propDecidable _)
/-- the lowest cell of its piece -/
noncomputable def isRt (n : Nat) (p : Nat → Bool) (c : Nat) : Bool := p c && @decide (∀ d, d < c → p d = true → ¬ Co n p d c) (Classical.propDecidable _)
theorem isRt_iff {n : Nat} {p : Nat → Bool} {c : Nat} : isRt n p c = true ↔ p c = true ∧ ∀ d, d < c → p d = true → ¬ Co n p d c := by
  unfold isRt
  rw [Bool.and_eq_true, @decide_eq_true_iff _ (Classical.propDecidable _)]
noncomputable def szc (n : Nat) (p : Nat → Bool) (r : Nat) : Nat := fb_ct (cn n p r) 256
/-- an enumeration without doubles counts -/
theorem enum_ct : ∀ (m : Nat) (R : Nat → Nat) (q : Nat → Bool) (N : Nat), (∀ i, i < m → R i < N) → (∀ i j, i < j → j < m → R i ≠ R j) → (∀ c, c < N → (q c = true ↔ ∃ i, i < m ∧ R i = c)) → fb_ct q N = m := by
  intro m
  induction m with
  | zero =>
    intro R q N h1 h2 h3
    refine fb_ct_zero.mpr (fun k hk => ?_)
    cases hq : q k with
    | false => rfl
    | true =>
      obtain ⟨i, hi, -⟩ := (h3 k hk).mp hq
      omega
  | succ m ih =>
    intro R q N h1 h2 h3
    have hm : R m < N := h1 m (by omega)
    have e := ih R (fun k => if k = R m then false else q k) N (fun i hi => h1 i (by omega)) (fun i j hij hj => h2 i j hij (by omega)) (fun c hc => by
      by_cases hcm : c = R m
      · simp only [hcm, reduceIte]
        constructor
        · intro h; cases h
        · rintro ⟨i, hi, e⟩
          exact absurd e (h2 i m hi (by omega))
      · simp only [hcm, reduceIte]
        rw [h3 c hc]
        constructor
        · rintro ⟨i, hi, e⟩
          refine ⟨i, ?_, e⟩
          rcases Nat.lt_or_ge i m with h | h
          · exact h
          · have e2 : i = m := by omega
            subst e2
            exact absurd e.symm hcm
        · rintro ⟨i, hi, e⟩
          exact ⟨i, by omega, e⟩)
    have e2 := fb_ct_upd q false hm
    have e3 : q (R m) = true := (h3 _ hm).mpr ⟨m, by omega, rfl⟩
    rw [e3] at e2
    simp only [reduceIte, Bool.false_eq_true] at e2
    omega
theorem m_forgets_ok {st : Mm} {P : Unit × Mm → Prop} (h : ∀ s2, Fr [(73, none)] st s2 → (∀ c, c < 256 → s2.1 73 c = -1) → P ((), s2)) : Ok (f_m_forgets st) P := by
  unfold f_m_forgets
  refine ok_up0 f_m_forgets_2 (fun i a => Fr [(73, none)] st a ∧ ∀ c, c < i → a.1 73 c = -1) P 256 (by omega) ⟨Fr.rf, fun c hc => by omega⟩ ?_ ?_
  · intro m i a hi hI ih
    show Ok (b_m_forgets_2 (f_m_forgets_2 m) (nI i) a) P
    unfold b_m_forgets_2
    refine ok_f (n256 hi) (ok_t (inb_nI hi (by omega)) (ok_lt ?_))
    rw [nI_1, cl_nI (by omega)]
    refine ih _ ⟨hI.1.sI (by simp [inL]), fun c hc => ?_⟩
    rw [sI_at]
    by_cases hci : c = i
    · simp [hci]
    · simp only [hci, and_false, reduceIte]
      exact hI.2 c (by omega)
  · intro m a hI
    show Ok (b_m_forgets_2 (f_m_forgets_2 m) (nI 256) a) P
    unfold b_m_forgets_2
    exact ok_t (by decide) (ok_some (h a hI.1 hI.2))
/-- scanning the roots below k: how many, the most cells, the first root that has them -/
noncomputable def mnM (n : Nat) (p : Nat → Bool) : Nat → Nat
  | 0 => 0
  | k + 1 => if isRt n p k && decide (mnM n p k < szc n p k) then szc n p k else mnM n p k
noncomputable def mnL (n : Nat) (p : Nat → Bool) : Nat → Option Nat
  | 0 => none
  | k + 1 => if isRt n p k && decide (mnM n p k < szc n p k) then some k else mnL n p k
/-- what the reference's laying of pieces leaves -/
def pcs (n : Nat) (p : Nat → Bool) (k : Nat) (st : Mm) : Prop := (∀ c, c < 256 → p c = false → st.1 73 c = -1) ∧ (∀ c, p c = true → (∀ d, d < k → p d = true → ¬ Co n p d c) → st.1 73 c = -1) ∧ (∀ c r, p c = true → r < k → isRt n p r = true → Co n p r c → st.1 73 c = nI r) ∧ st.1 58 39 = nI (fb_ct (isRt n p) k) ∧ st.1 58 40 = nI (mnM n p k) ∧ st.1 58 41 = oI (mnL n p k)
theorem least_d (q : Nat → Prop) : ∀ m, q m → ∃ k, k ≤ m ∧ q k ∧ ∀ j, j < k → ¬ q j := by
  intro m hm
  obtain ⟨k, h1, h2⟩ := pk_least q ⟨m, hm⟩
  refine ⟨k, ?_, h1, h2⟩
  rcases Nat.lt_or_ge m k with h | h
  · exact absurd hm (h2 m h)
  · exact h
/-- every cell of paper has a root -/
theorem rt_of {n : Nat} {p : Nat → Bool} (hp : pIn n p) {c : Nat} (hc : p c = true) : ∃ r, r ≤ c ∧ isRt n p r = true ∧ Co n p r c := by
  obtain ⟨k, h1, ⟨h2, h3⟩, h4⟩ := least_d (fun d => p d = true ∧ Co n p d c) c ⟨hc, Rc.rf⟩
  refine ⟨k, h1, isRt_iff.mpr ⟨h2, fun d hd hpd hco => h4 d hd ⟨hpd, hco.tr h3⟩⟩, h3⟩
theorem rt_one {n : Nat} {p : Nat → Bool} (hp : pIn n p) {c r r2 : Nat} (h1 : isRt n p r = true) (h2 : isRt n p r2 = true) (e1 : Co n p r c) (e2 : Co n p r2 c) : r = r2 := by
  obtain ⟨a1, a2⟩ := isRt_iff.mp h1
  obtain ⟨b1, b2⟩ := isRt_iff.mp h2
  rcases Nat.lt_trichotomy r r2 with h | h | h
  · exact absurd (e1.tr (e2.sy hp b1)) (b2 r h a1)
  · exact h
  · exact absurd (e2.tr (e1.sy hp a1)) (a2 r2 h b1)
