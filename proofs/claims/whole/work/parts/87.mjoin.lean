/-! hang: joins of two parts -/
theorem sum_xor : ∀ S, S < 64 → ∀ A, A < 64 → A &&& S = A → A + (S ^^^ A) = S := by decide +kernel
theorem join_sub {A B S : Nat} (h1 : A &&& B = 0) (h2 : A ||| B = S) : A &&& S = A ∧ S ^^^ A = B := by
  have bits : ∀ t, ¬ (A.testBit t = true ∧ B.testBit t = true) := fun t => by
    have e1 : (A &&& B).testBit t = false := by rw [h1]; simp
    rw [Nat.testBit_and] at e1
    cases h1 : A.testBit t <;> cases h2 : B.testBit t <;> simp_all
  refine ⟨sub_of (fun i hi => by rw [← h2, Nat.testBit_or, hi]; rfl), Nat.eq_of_testBit_eq (fun t => ?_)⟩
  rw [← h2, Nat.testBit_xor, Nat.testBit_or]
  have := bits t
  cases h3 : A.testBit t <;> cases h4 : B.testBit t <;> simp_all
theorem xor_join {A S : Nat} (h : A &&& S = A) : A &&& (S ^^^ A) = 0 ∧ A ||| (S ^^^ A) = S ∧ (S ^^^ A) &&& S = S ^^^ A ∧ S ^^^ (S ^^^ A) = A := by
  have sb : ∀ t, A.testBit t = true → S.testBit t = true := fun t => sub_bit h
  refine ⟨Nat.eq_of_testBit_eq (fun t => ?_), Nat.eq_of_testBit_eq (fun t => ?_), sub_of (fun t => ?_), Nat.eq_of_testBit_eq (fun t => ?_)⟩
  · rw [Nat.testBit_and, Nat.testBit_xor, Nat.zero_testBit]
    have := sb t
    cases h3 : A.testBit t <;> cases h4 : S.testBit t <;> simp_all
  · rw [Nat.testBit_or, Nat.testBit_xor]
    have := sb t
    cases h3 : A.testBit t <;> cases h4 : S.testBit t <;> simp_all
  · rw [Nat.testBit_xor]
    have := sb t
    cases h3 : A.testBit t <;> cases h4 : S.testBit t <;> simp_all
  · rw [Nat.testBit_xor, Nat.testBit_xor]
    cases h3 : A.testBit t <;> cases h4 : S.testBit t <;> rfl
theorem xor_pos {A S : Nat} (h : A &&& S = A) (hlt : A < S) : 0 < S ^^^ A := by
  rcases Nat.eq_zero_or_pos (S ^^^ A) with e | e
  · have := (xor_join h).2.1
    rw [e, Nat.or_zero] at this; omega
  · exact e
def Jn (n I S : Nat) (p : Nat → Bool) (V : Nat → Nat → Nat) (h0 : Nat → Nat) (D : Nat → Nat → Prop) (h : Nat → Nat) : Prop := (∀ c, isC n c → h c ≤ h0 c) ∧ (∀ A c, D A c → 0 < A → A < S → A &&& S = A → isC n c → V A c < I → V (S ^^^ A) c < I → h c ≤ V A c + V (S ^^^ A) c - prc p c) ∧ (∀ c, isC n c → h c = h0 c ∨ ∃ A, 0 < A ∧ A < S ∧ A &&& S = A ∧ V A c < I ∧ V (S ^^^ A) c < I ∧ h c = V A c + V (S ^^^ A) c - prc p c)
section
variable {n I S : Nat} {p : Nat → Bool} {V : Nat → Nat → Nat} {h0 h h' : Nat → Nat} {D D2 : Nat → Nat → Prop}
theorem jn_0 : Jn n I S p V h0 (fun _ _ => False) h0 := ⟨fun _ _ => Nat.le_refl _, fun _ _ h => h.elim, fun _ _ => Or.inl rfl⟩
theorem jn_wk (J : Jn n I S p V h0 D h) (hD : ∀ A c, 0 < A → A < S → A &&& S = A → isC n c → D2 A c → D A c) : Jn n I S p V h0 D2 h := ⟨J.1, fun A c h1 h2 h3 h4 h5 => J.2.1 A c (hD A c h2 h3 h4 h5 h1) h2 h3 h4 h5, J.2.2⟩
theorem jn_st {A c : Nat} (J : Jn n I S p V h0 D h) (hA : 0 < A) (hAS : A < S) (hs : A &&& S = A) (e : ∀ x, isC n x → h' x = if x = c then (if V A c < I ∧ V (S ^^^ A) c < I then min (h c) (V A c + V (S ^^^ A) c - prc p c) else h c) else h x) (hD : ∀ B x, isC n x → D2 B x → D B x ∨ (B = A ∧ x = c)) : Jn n I S p V h0 D2 h' := by
  have hle : ∀ x, isC n x → h' x ≤ h x := fun x hx => by
    rw [e x hx]
    by_cases hxc : x = c
    · rw [if_pos hxc, hxc]
      split
      · exact Nat.min_le_left _ _
      · exact Nat.le_refl _
    · rw [if_neg hxc]; exact Nat.le_refl _
  refine ⟨fun x hx => Nat.le_trans (hle x hx) (J.1 x hx), fun B x h1 h2 h3 h4 h5 h6 h7 => ?_, fun x hx => ?_⟩
  · rcases hD B x h5 h1 with h8 | ⟨h8, h9⟩
    · exact Nat.le_trans (hle x h5) (J.2.1 B x h8 h2 h3 h4 h5 h6 h7)
    · subst h8; subst h9
      rw [e x h5, if_pos rfl, if_pos ⟨h6, h7⟩]
      exact Nat.min_le_right _ _
  · by_cases hxc : x = c
    · subst hxc
      have ex := e x hx
      rw [if_pos rfl] at ex
      by_cases hf : V A x < I ∧ V (S ^^^ A) x < I
      · rw [if_pos hf] at ex
        rcases Nat.le_total (h x) (V A x + V (S ^^^ A) x - prc p x) with g | g
        · rw [Nat.min_eq_left g] at ex
          rw [ex]; exact J.2.2 x hx
        · rw [Nat.min_eq_right g] at ex
          exact Or.inr ⟨A, hA, hAS, hs, hf.1, hf.2, ex⟩
      · rw [if_neg hf] at ex
        rw [ex]; exact J.2.2 x hx
    · rw [e x hx, if_neg hxc]; exact J.2.2 x hx
theorem jn_ls {d : Nat → Bool} {tm : Nat → Nat} {m : Nat} (hI : 70000 < I) (hn : n ≤ 16) (hS : 0 < S) (hS2 : S < 64) (ht : ∀ i, i < m → isC n (tm i) ∧ p (tm i) = true) (hV : ∀ A, 0 < A → A < S → ∀ c, isC n c → LsH n p d tm m I A c (V A c) ∧ (V A c < I → V A c + 256 ≤ 512 * A))
    (J : Jn n I S p V h0 D h) (hD : ∀ A c, 0 < A → A < S → A &&& S = A → isC n c → D A c ∨ D (S ^^^ A) c) (z1 : ∀ c, isC n c → h0 c = I ∨ (h0 c = 0 ∧ ∃ i, i < m ∧ S = 2 ^ i ∧ tm i = c)) (z2 : ∀ i, i < m → S = 2 ^ i → h0 (tm i) = 0) :
    ∀ c, isC n c → LsH n p d tm m I S c (jac n (wH p d I) h 255 c) ∧ (jac n (wH p d I) h 255 c < I → jac n (wH p d I) h 255 c + 256 ≤ 512 * S) := by
  have hlt : ∀ A, A &&& S = A → A ≠ S → A < S := fun A h1 h2 => by
    have : A ≤ S := by rw [← h1]; exact Nat.and_le_right
    omega
  have hK : ∀ c, isC n c → h c < I → h c ≤ 512 * S - 512 := fun c hc hh => by
    rcases J.2.2 c hc with e | ⟨A, a1, a2, a3, a4, a5, a6⟩
    · rcases z1 c hc with z | ⟨z, _⟩
      · omega
      · omega
    · have b1 := (hV A a1 a2 c hc).2 a4
      have b2 := (hV (S ^^^ A) (xor_pos a3 a2) (xor_lt a3 a1) c hc).2 a5
      have b3 := sum_xor S hS2 A (by omega) a3
      omega
  have ls := ls_step (n := n) (p := p) (d := d) (tm := tm) (m := m) (I := I) (S := S) (V := V) (h0 := h) (by omega) hn ht (fun A a1 a2 a3 c hc => (hV A a1 (hlt A a2 a3) c hc).1)
    (fun c hc => by
      have := J.1 c hc
      rcases z1 c hc with z | ⟨z, _⟩ <;> omega)
    (fun c hc hh => by
      rcases J.2.2 c hc with e | ⟨A, a1, a2, a3, a4, a5, a6⟩
      · rcases z1 c hc with z | ⟨z, i, i1, i2, i3⟩
        · omega
        · rw [e, z, i2, ← i3]; exact hd_base i1
      · have b1 := (hV A a1 a2 c hc).1.2.1 a4
        have b2 := (hV (S ^^^ A) (xor_pos a3 a2) (xor_lt a3 a1) c hc).1.2.1 a5
        have b3 := xor_join a3
        have b4 := hd_join b1 b2 b3.1
        rw [b3.2.1, ← a6] at b4
        exact b4)
    (fun i hi e => by
      have := J.1 (tm i) (ht i hi).1
      have := z2 i hi e
      omega)
    (fun A B c a1 b1 hd ho hc _ hA hB => by
      obtain ⟨s1, s2⟩ := join_sub hd ho
      have ne : A ≠ S := fun e => by rw [e, Nat.xor_self] at s2; omega
      have hAS := hlt A s1 ne
      subst s2
      rcases hD A c a1 hAS s1 hc with h1 | h1
      · exact J.2.1 A c h1 a1 hAS s1 hc hA hB
      · have x1 := xor_join s1
        have := J.2.1 (S ^^^ A) c h1 b1 (xor_lt s1 a1) x1.2.2.1 hc hB (by rw [x1.2.2.2]; exact hA)
        rw [x1.2.2.2] at this
        omega)
  intro c hc
  refine ⟨ls c hc, fun hh => ?_⟩
  have := jac_fin (n := n) (w := wH p d I) (h0 := h) (I := I) (K := 512 * S - 512) hn (fun v => by rcases wH_c p d I v with z | z <;> omega) hK 255 c hc hh
  have := fb_ct_le (fun x => decide (jac n (wH p d I) h 255 x < I)) 256
  omega
theorem ls_fin {d : Nat → Bool} {tm : Nat → Nat} {m K L : Nat} (hK : 2 * K + 1 < I) (hn : n ≤ 16) (ht : ∀ i, i < m → isC n (tm i) ∧ p (tm i) = true) (hV : ∀ S, 0 < S → S < L → ∀ c, isC n c → LsH n p d tm m I S c (V S c) ∧ (V S c < I → V S c ≤ K)) {S v a : Nat} (h : HDer n p d tm m S v a) (hS : S < L) : V S v < I := by
  have key : HDer n p d tm m S v a ∧ (S < L → V S v < I) := by
    refine h (fun S v a => HDer n p d tm m S v a ∧ (S < L → V S v < I)) (fun i hi => ⟨hd_base hi, fun hL => ?_⟩) (fun A B v a b ⟨a1, a2⟩ ⟨b1, b2⟩ hd => ⟨hd_join a1 b1 hd, fun hL => ?_⟩) (fun A u v j a ⟨a1, a2⟩ hj hnb ho => ⟨hd_step a1 hj hnb ho, fun hL => ?_⟩)
    · have := (hV (2 ^ i) (Nat.two_pow_pos i) hL (tm i) (ht i hi).1).1.2.2 0 (hd_base hi)
      omega
    · obtain ⟨q1, q2, q3, q4, q5⟩ := hd_inv hn ht a1
      obtain ⟨r1, r2, r3, r4, r5⟩ := hd_inv hn ht b1
      have l1 : A ≤ A ||| B := Nat.left_le_or
      have l2 : B ≤ A ||| B := Nat.right_le_or
      have g1 := a2 (by omega)
      have g2 := b2 (by omega)
      have k1 := hV A q1 (by omega) v q3
      have k2 := hV B r1 (by omega) v q3
      have k3 := (hV (A ||| B) (or_pos q1) hL v q3).1.2.2 _ (hd_join (k1.1.2.1 g1) (k2.1.2.1 g2) hd)
      have := k1.2 g1
      have := k2.2 g2
      omega
    · obtain ⟨q1, q2, q3, q4, q5⟩ := hd_inv hn ht a1
      have g1 := a2 hL
      have k1 := hV A q1 hL u q3
      have k3 := (hV A q1 hL v (nbr_C hn q3 hnb)).1.2.2 _ (hd_step (k1.1.2.1 g1) hj hnb ho)
      have := k1.2 g1
      have : prc p v ≤ 1 := by unfold prc; split <;> omega
      omega
  exact key.2 hS
end
