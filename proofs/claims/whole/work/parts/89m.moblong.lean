def inR (a b k : Nat) : Prop := a % 16 ≤ k % 16 ∧ k % 16 ≤ b % 16 ∧ a / 16 ≤ k / 16 ∧ k / 16 ≤ b / 16
def OblO (v : Wd) (wc : Nat → Bool) (R : Nat → Prop) (z : Int64) : Prop := (∀ k, k < 256 → R k → pcv v k = true → wc k = true) ∧ ∀ i, i < 64 → (lb z i = true ↔ ∃ k, k < 256 ∧ R k ∧ pcv v k = true ∧ fb_ct (pcv v) k = i)
theorem obl_add {v : Wd} {wc : Nat → Bool} {R R2 : Nat → Prop} {z : Int64} {k : Nat} (h : OblO v wc R z) (hk : k < 256) (hp : pcv v k = true) (hw : wc k = true) (hn : fb_ct (pcv v) k < 64) (hR : ∀ j, R2 j ↔ R j ∨ j = k) : OblO v wc R2 (z ||| ((1 : Int64) <<< ((nI (fb_ct (pcv v) k)).toInt64 &&& 63))) := by
  refine ⟨fun j hj hr hpj => ?_, fun i hi => ?_⟩
  · rcases (hR j).mp hr with h1 | h1
    · exact h.1 j hj h1 hpj
    · rw [h1]; exact hw
  · rw [lb_or, lb_bit hn i hi, Bool.or_eq_true, h.2 i hi, decide_eq_true_eq]
    constructor
    · rintro (⟨j, j1, j2, j3, j4⟩ | h1)
      · exact ⟨j, j1, (hR j).mpr (Or.inl j2), j3, j4⟩
      · exact ⟨k, hk, (hR k).mpr (Or.inr rfl), hp, h1.symm⟩
    · rintro ⟨j, j1, j2, j3, j4⟩
      rcases (hR j).mp j2 with h1 | h1
      · exact Or.inl ⟨j, j1, h1, j3, j4⟩
      · exact Or.inr (by rw [← j4, h1])
theorem obl_skip {v : Wd} {wc : Nat → Bool} {R R2 : Nat → Prop} {z : Int64} (h : OblO v wc R z) (hR : ∀ j, j < 256 → pcv v j = true → (R2 j ↔ R j)) : OblO v wc R2 z := by
  refine ⟨fun j hj hr hpj => h.1 j hj ((hR j hj hpj).mp hr) hpj, fun i hi => ?_⟩
  rw [h.2 i hi]
  constructor
  · rintro ⟨j, j1, j2, j3, j4⟩; exact ⟨j, j1, (hR j j1 j3).mpr j2, j3, j4⟩
  · rintro ⟨j, j1, j2, j3, j4⟩; exact ⟨j, j1, (hR j j1 j3).mp j2, j3, j4⟩
