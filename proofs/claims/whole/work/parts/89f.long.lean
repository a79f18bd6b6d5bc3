/-! longs, bit by bit -/
def lb (x : Int64) (i : Nat) : Bool := x.toBitVec.getLsbD i
theorem lb_hi (x : Int64) {i : Nat} (h : 64 ≤ i) : lb x i = false := BitVec.getLsbD_of_ge _ _ h
theorem lb_and (x y : Int64) (i : Nat) : lb (x &&& y) i = (lb x i && lb y i) := by unfold lb; rw [Int64.toBitVec_and, BitVec.getLsbD_and]
theorem lb_or (x y : Int64) (i : Nat) : lb (x ||| y) i = (lb x i || lb y i) := by unfold lb; rw [Int64.toBitVec_or, BitVec.getLsbD_or]
theorem lb_xor (x y : Int64) (i : Nat) : lb (x ^^^ y) i = (lb x i ^^ lb y i) := by unfold lb; rw [Int64.toBitVec_xor, BitVec.getLsbD_xor]
theorem lb_0 (i : Nat) : lb 0 i = false := by
  unfold lb
  show (0#64).getLsbD i = false
  simp
theorem lb_m1_a : ∀ i, i < 64 → lb (-1) i = true := by decide +kernel
theorem lb_m1 {i : Nat} (h : i < 64) : lb (-1) i = true := lb_m1_a i h
theorem lb_ext {x y : Int64} (h : ∀ i, i < 64 → lb x i = lb y i) : x = y := by
  have e : x.toBitVec = y.toBitVec := BitVec.eq_of_getLsbD_eq (fun i hi => h i hi)
  exact Int64.toBitVec_inj.mp e
theorem lb_andn (x y : Int64) (i : Nat) : lb (x &&& (y ^^^ (-1 : Int64))) i = (lb x i && !lb y i) := by
  rw [lb_and, lb_xor]
  rcases Nat.lt_or_ge i 64 with h | h
  · rw [lb_m1 h]; cases lb x i <;> cases lb y i <;> rfl
  · rw [lb_hi x h]; rfl
theorem lb_nz {x : Int64} (h : x ≠ 0) : ∃ t, t < 64 ∧ lb x t = true ∧ ∀ j, j < t → lb x j = false := by
  have ex : ∃ t, t < 64 ∧ lb x t = true := Classical.byContradiction (fun hh => h (lb_ext (fun i hi => by
    rw [lb_0]
    cases hb : lb x i with
    | false => rfl
    | true => exact absurd ⟨i, hi, hb⟩ hh)))
  obtain ⟨t, ⟨t1, t2⟩, t3⟩ := pk_least (fun t => t < 64 ∧ lb x t = true) ex
  refine ⟨t, t1, t2, fun j hj => ?_⟩
  cases hb : lb x j with
  | false => rfl
  | true => exact absurd ⟨by omega, hb⟩ (t3 j hj)
theorem lb_neg (x : Int64) (i : Nat) (h : i < 64) : lb (-x) i = (lb x i ^^ decide (∃ j, j < i ∧ lb x j = true)) := by
  unfold lb
  rw [Int64.toBitVec_neg, BitVec.getLsbD_neg]
  simp [h]
theorem lb_low {x : Int64} {t : Nat} (h1 : t < 64) (h2 : lb x t = true) (h3 : ∀ j, j < t → lb x j = false) (i : Nat) (hi : i < 64) : lb (x &&& (-x)) i = decide (i = t) := by
  rw [lb_and, lb_neg x i hi]
  rcases Nat.lt_trichotomy i t with h | h | h
  · rw [h3 i h, decide_eq_false (show ¬ i = t by omega)]; rfl
  · subst h
    rw [h2, decide_eq_true (rfl : i = i), decide_eq_false (fun ⟨j, j1, j2⟩ => by rw [h3 j j1] at j2; cases j2)]; rfl
  · rw [decide_eq_true (⟨t, h, h2⟩ : ∃ j, j < i ∧ lb x j = true), decide_eq_false (show ¬ i = t by omega)]
    cases lb x i <;> rfl
theorem lb_one : ∀ k, k < 64 → ((1 : Int64) <<< ((nI k).toInt64 &&& 63)).toBitVec = 1#64 <<< k := by decide +kernel
theorem lb_bit {k : Nat} (hk : k < 64) (i : Nat) (hi : i < 64) : lb ((1 : Int64) <<< ((nI k).toInt64 &&& 63)) i = decide (i = k) := by
  unfold lb
  rw [lb_one k hk, BitVec.getLsbD_shiftLeft]
  rcases Nat.lt_trichotomy i k with h | h | h
  · simp [h, show ¬ i = k by omega]
  · subst h; simp [hi]
  · simp [show ¬ i < k by omega, show ¬ i = k by omega, hi]
    omega
/-! covers: so few boxes that have all of a set -/
def Cvs (Bx : (Nat → Bool) → Prop) : Nat → (Nat → Bool) → Prop
  | 0, L => ∀ i, L i = false
  | k + 1, L => (∀ i, L i = false) ∨ ∃ b, Bx b ∧ Cvs Bx k (fun i => L i && !b i)
theorem cvs_mono {B : (Nat → Bool) → Prop} : ∀ k (L M : Nat → Bool), (∀ i, M i = true → L i = true) → Cvs B k L → Cvs B k M
  | 0, L, M, h, hc => fun i => by
    cases hm : M i with
    | false => rfl
    | true => have := h i hm; rw [hc i] at this; cases this
  | k + 1, L, M, h, hc => by
    rcases hc with hc | ⟨b, b1, b2⟩
    · exact Or.inl (fun i => by
        cases hm : M i with
        | false => rfl
        | true => have := h i hm; rw [hc i] at this; cases this)
    · exact Or.inr ⟨b, b1, cvs_mono k _ _ (fun i hi => by
        have hi2 : (M i && !b i) = true := hi
        show (L i && !b i) = true
        rw [Bool.and_eq_true] at hi2 ⊢
        exact ⟨h i hi2.1, hi2.2⟩) b2⟩
/-- bigger boxes do as well -/
theorem cvs_dom {B C : (Nat → Bool) → Prop} (h : ∀ b, B b → ∃ c, C c ∧ ∀ i, b i = true → c i = true) : ∀ k L, Cvs B k L → Cvs C k L
  | 0, _, hc => hc
  | k + 1, L, hc => by
    rcases hc with hc | ⟨b, b1, b2⟩
    · exact Or.inl hc
    · obtain ⟨c, c1, c2⟩ := h b b1
      refine Or.inr ⟨c, c1, cvs_mono k _ _ (fun i hi => ?_) (cvs_dom h k _ b2)⟩
      have hi2 : (L i && !c i) = true := hi
      show (L i && !b i) = true
      have := c2 i
      cases h1 : L i <;> cases h2 : b i <;> cases h3 : c i <;> simp_all
/-- the box of any one that is left may be taken first -/
theorem cvs_first {B : (Nat → Bool) → Prop} : ∀ k (L : Nat → Bool) t, L t = true → (Cvs B k L ↔ ∃ j, k = j + 1 ∧ ∃ b, B b ∧ b t = true ∧ Cvs B j (fun i => L i && !b i))
  | 0, L, t, ht => ⟨fun h => absurd (h t) (by rw [ht]; decide), fun ⟨j, hj, _⟩ => by omega⟩
  | k + 1, L, t, ht => by
    constructor
    · intro h
      rcases h with h | ⟨b, b1, b2⟩
      · rw [h t] at ht; cases ht
      · cases hb : b t with
        | true => exact ⟨k, rfl, b, b1, hb, b2⟩
        | false =>
          obtain ⟨j, j1, c, c1, c2, c3⟩ := (cvs_first k (fun i => L i && !b i) t (by show (L t && !b t) = true; rw [ht, hb]; rfl)).mp b2
          subst j1
          refine ⟨j + 1, rfl, c, c1, c2, Or.inr ⟨b, b1, cvs_mono j _ _ (fun i hi => ?_) c3⟩⟩
          have hi2 : ((L i && !c i) && !b i) = true := hi
          show ((L i && !b i) && !c i) = true
          cases h1 : L i <;> cases h2 : b i <;> cases h3 : c i <;> simp_all
    · rintro ⟨j, j1, b, b1, _, b3⟩
      have e : j = k := by omega
      subst e
      exact Or.inr ⟨b, b1, b3⟩
