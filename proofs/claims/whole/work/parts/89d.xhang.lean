/-! hang: the class, whole -/
theorem one_bit : ∀ S, S < 32 → 0 < S → (swar S = 1 ∧ ∃ i, i < 5 ∧ S = 2 ^ i) ∨ (swar S ≠ 1 ∧ ∀ i, i < 5 → S ≠ 2 ^ i) := by decide +kernel
theorem one_sub : ∀ i, i < 5 → ∀ A, A < 32 → A &&& 2 ^ i = A → A = 0 ∨ A = 2 ^ i := by decide +kernel
theorem swar_le : ∀ S, S < 32 → swar S ≤ 5 := by decide +kernel
theorem one_low : ∀ i, i < 5 → (2 ^ i).testBit i = true ∧ ∀ j, j < i → (2 ^ i).testBit j = false := by decide +kernel
theorem x_few_one {n m S : Nat} {p d : Nat → Bool} {tm : Nat → Nat} {s0 : Mm} {v5 v6 : Int32} {k38 : Int32 → Int32 → Int32 → Mm → Option (Int32 × Mm)} {P : Int32 × Mm → Prop} (hn : n ≤ 16) (hm : m ≤ 6) (hS : 0 < S) (hS2 : S < 32) (hSm : S < 2 ^ (m - 1)) (hE0 : EXs (wH p d 1000000) s0) (hN0 : s0.1 30 0 = nI n) (ht : ∀ i, i < m → isC n (tm i) ∧ p (tm i) = true) (hT0 : ∀ i, i < m → s0.1 45 i = nI (tm i)) (hV0 : DoX n p d tm m S s0)
    (hk : ∀ s, FBx S s0 s → DoX n p d tm m (S + 1) s → Ok (k38 v5 v6 (nI (S + 1)) s) P) : Ok (f_Hng_fewest_56 k38 1000000 v5 v6 (nI S) (nI (256 * S)) 0 s0) P := by
  have tail : ∀ g h z (D : Nat → Nat → Prop), FBx S s0 z → HBx S h z → Jn n 1000000 S p (rdX s0) g D h → (∀ A c, 0 < A → A < S → A &&& S = A → isC n c → D A c ∨ D (S ^^^ A) c) → (∀ c, isC n c → g c = 1000000 ∨ (g c = 0 ∧ ∃ i, i < m ∧ S = 2 ^ i ∧ tm i = c)) → (∀ i, i < m → S = 2 ^ i → g (tm i) = 0) → Ok (b_Hng_fewest_123 k38 v5 v6 (nI S) (nI (256 * S)) z) P := by
    intro g h z D gF gB gJ hD z1 z2
    have ls := jn_ls (I := 1000000) (d := d) (tm := tm) (m := m) (by omega) hn hS (by omega) ht (fun A a1 a2 c hc => (hV0 A a1 a2).2 c hc) gJ hD z1 z2
    unfold b_Hng_fewest_123
    rw [show z.1 30 0 = nI n by rw [gF _ _ (fun e => absurd e.1 (by decide))]; exact hN0]
    refine ok_bind (x_spread_ok hn hS2 (hE0.fb gF) gB (fun h2 s2 f2 b2 e2 no2 => ok_lt ?_))
    rw [nI_1]
    refine hk s2 (gF.tr f2) (fun A a1 a2 => ?_)
    rcases Nat.lt_or_ge A S with hl | hl
    · exact (hV0.fb (gF.tr f2)) A a1 hl
    · have e : A = S := by omega
      subst e
      refine ⟨fun c hc => ?_, fun c hc => ?_⟩
      · rw [hx_rd b2 hc]; exact b2 c hc
      · rw [hx_rd b2 hc.1, e2 c hc]; exact ls c hc
  have fill : ∀ q c M z, c + q = 256 → q + 1 ≤ M → FBx S s0 z → (∀ x, x < c → z.1 43 (256 * S + x) = nI 1000000) → Ok (f_Hng_fewest_56 k38 M v5 v6 (nI S) (nI (256 * S)) (nI c) z) P := by
    intro q
    induction q with
    | zero =>
      intro c M z hc hM gF g1
      obtain ⟨M, rfl⟩ := nat_suc hM
      show Ok (b_Hng_fewest_56 k38 (f_Hng_fewest_56 k38 M) v5 v6 (nI S) (nI (256 * S)) (nI c) z) P
      unfold b_Hng_fewest_56 b_Hng_fewest_82
      refine okc_le 256 c (fun _ => ?_) (fun hh => by omega)
      have gB : HBx S (fun _ => 1000000) z := fun x hx => ⟨g1 x (by omega), Nat.le_refl _⟩
      refine ok_bind (ok_eq (x_bitCount_nI (by omega) z) ?_)
      have sle := swar_le S hS2
      refine okc_eq (swar S) 1 (fun e1 => ?_) (fun e1 => ?_)
      · rcases one_bit S hS2 hS with ⟨_, i, i1, i2⟩ | ⟨h, _⟩
        · have im : i < m - 1 := by
            rcases Nat.lt_or_ge i (m - 1) with h | h
            · exact h
            · have := Nat.pow_le_pow_right (show 0 < 2 by decide) h
              omega
          have htC := (ht i (by omega)).1
          have ht256 := htC.1
          refine ok_bind (ok_eq (x_ntz_nI (t := i) (by rw [i2]; exact one_low i i1) (by omega) z) ?_)
          refine ok_t (inb_nI (by omega) (by omega)) ?_
          rw [cl_nI (show i < 2147483648 by omega), show z.1 45 i = nI (tm i) by rw [gF _ _ (fun e => absurd e.1 (by decide))]; exact hT0 i (by omega), nI_add]
          refine ok_t (inb_nI (by omega) (by omega)) ?_
          rw [cl_nI (show 256 * S + tm i < 2147483648 by omega)]
          refine tail (fun y => if y = tm i then 0 else 1000000) (fun y => if y = tm i then 0 else 1000000) _ (fun _ _ => False) (gF.set ht256) (gB.set (x := 0) (by omega)) jn_0 (fun A c a1 a2 a3 _ => ?_) (fun x _ => ?_) (fun j hj hSj => ?_)
          · rcases one_sub i i1 A (by omega) (by rw [← i2]; exact a3) with h | h <;> omega
          · by_cases ex : x = tm i
            · exact Or.inr ⟨by simp only [if_pos ex], i, by omega, i2, ex.symm⟩
            · exact Or.inl (by simp only [if_neg ex])
          · have e : j = i := by
              rcases Nat.lt_trichotomy j i with h | h | h
              · have := Nat.pow_lt_pow_right (show 1 < 2 by decide) h; omega
              · exact h
              · have := Nat.pow_lt_pow_right (show 1 < 2 by decide) h; omega
            simp only [e, if_true]
        · exact absurd e1 h
      · rcases one_bit S hS2 hS with ⟨h, _⟩ | ⟨_, h⟩
        · exact absurd h e1
        · rw [show z.1 30 0 = nI n by rw [gF _ _ (fun e => absurd e.1 (by decide))]; exact hN0]
          refine ok_bind (x_joinParts_ok hn hS hS2 (hE0.fb gF) ht (hV0.fb gF) gB (fun t h2 s2 t1 f2 b2 j2 => ?_))
          refine tail (fun _ => 1000000) h2 s2 (fun B _ => B.testBit t = true) (gF.tr f2) b2 ?_ (fun A c _ _ a3 _ => ?_) (fun _ _ => Or.inl rfl) (fun i hi e => ?_)
          · have er : ∀ A c, A < S → isC n c → rdX z A c = rdX s0 A c := fun A c hA hc => by unfold rdX; rw [rx_fb gF (by omega) hc.1]
            refine ⟨j2.1, fun A c h1 h3 h4 h5 h6 h7 h8 => ?_, fun c hc => ?_⟩
            · have hx := xor_lt h5 h3
              rw [← er A c h4 h6] at h7 ⊢
              rw [← er _ c hx h6] at h8 ⊢
              exact j2.2.1 A c h1 h3 h4 h5 h6 h7 h8
            · rcases j2.2.2 c hc with h3 | ⟨A, a1, a2, a3, a4, a5, a6⟩
              · exact Or.inl h3
              · have hx := xor_lt a3 a1
                rw [er A c a2 hc] at a4 a6
                rw [er _ c hx hc] at a5 a6
                exact Or.inr ⟨A, a1, a2, a3, a4, a5, a6⟩
          · by_cases hb : A.testBit t = true
            · exact Or.inl hb
            · exact Or.inr (by show (S ^^^ A).testBit t = true; rw [Nat.testBit_xor, t1, Bool.eq_false_iff.mpr hb]; rfl)
          · rcases Nat.lt_or_ge i 5 with h5 | h5
            · exact absurd e (h i h5)
            · have := Nat.pow_le_pow_right (show 0 < 2 by decide) h5
              omega
    | succ q ih =>
      intro c M z hc hM gF g1
      obtain ⟨M, rfl⟩ := nat_suc hM
      show Ok (b_Hng_fewest_56 k38 (f_Hng_fewest_56 k38 M) v5 v6 (nI S) (nI (256 * S)) (nI c) z) P
      unfold b_Hng_fewest_56
      refine okc_le 256 c (fun hh => by omega) (fun _ => ?_)
      rw [nI_add]
      refine ok_t (inb_nI (by omega) (by omega)) (ok_lt ?_)
      rw [nI_1, cl_nI (by omega)]
      refine ih (c + 1) M _ (by omega) (by omega) (gF.set (by omega)) (fun x hx => ?_)
      rw [sI_at]
      by_cases e : x = c
      · rw [if_pos ⟨rfl, by omega⟩]; rfl
      · rw [if_neg (fun e2 => by omega)]; exact g1 x (by omega)
  exact fill 256 0 1000000 s0 (by omega) (by omega) FBx.rf (fun x hx => by omega)
def FAx (s0 s : Mm) : Prop := ∀ a j, a ≠ 43 → s.1 a j = s0.1 a j
theorem x_few_sets {n m : Nat} {p d : Nat → Bool} {tm : Nat → Nat} {s0 : Mm} {P : Int32 × Mm → Prop} (hn : n ≤ 16) (h2m : 2 ≤ m) (hm : m ≤ 6) (hE0 : EXs (wH p d 1000000) s0) (hN0 : s0.1 30 0 = nI n) (ht : ∀ i, i < m → isC n (tm i) ∧ p (tm i) = true) (hT0 : ∀ i, i < m → s0.1 45 i = nI (tm i))
    (hP : ∀ s, FAx s0 s → P (lstI (fun a => ∃ v, HDer n p d tm m (2 ^ m - 1) v a), s)) : Ok (f_Hng_fewest_38 1000000 (nI (m - 1)) (nI (2 ^ (m - 1) - 1)) 1 s0) P := by
  have hp : 2 ^ (m - 1) ≤ 2 ^ 5 := Nat.pow_le_pow_right (by decide) (by omega)
  have h2 : 2 ^ 1 ≤ 2 ^ (m - 1) := Nat.pow_le_pow_right (by decide) (by omega)
  have lp : ∀ r S N s, S + r = 2 ^ (m - 1) → 0 < S → r + 1 ≤ N → FAx s0 s → DoX n p d tm m S s → Ok (f_Hng_fewest_38 N (nI (m - 1)) (nI (2 ^ (m - 1) - 1)) (nI S) s) P := by
    intro r
    induction r with
    | zero =>
      intro S N s hS h0 hN hF hD
      obtain ⟨N, rfl⟩ := nat_suc hN
      show Ok (b_Hng_fewest_38 (f_Hng_fewest_38 N) (nI (m - 1)) (nI (2 ^ (m - 1) - 1)) (nI S) s) P
      unfold b_Hng_fewest_38
      refine okc_lt (2 ^ (m - 1) - 1) S (fun _ => ?_) (fun hh => by omega) rfl rfl (by omega) (by omega)
      rw [show S = 2 ^ (m - 1) by omega] at hD
      have htC := (ht (m - 1) (by omega)).1
      have ht256 := htC.1
      have hfull := hD (2 ^ (m - 1) - 1) (by omega) (by omega)
      have hv := hfull.1 (tm (m - 1)) ht256
      have hl := hfull.2 (tm (m - 1)) htC
      unfold b_Hng_fewest_139
      refine ok_t (inb_nI (by omega) (by omega)) ?_
      rw [cl_nI (show m - 1 < 2147483648 by omega), show s.1 45 (m - 1) = nI (tm (m - 1)) by rw [hF _ _ (by decide)]; exact hT0 (m - 1) (by omega), i_lit 256, pk_mul, Nat.mul_comm _ 256, nI_add]
      refine ok_t (inb_nI (by omega) (by omega)) (ok_lt ?_)
      rw [cl_nI (by omega), hv.1]
      have last := hd_last (n := n) (p := p) (d := d) (tm := tm) (m := m) hn ht h2m
      refine okc_le 1000000 (rdX s (2 ^ (m - 1) - 1) (tm (m - 1))) (fun hge => ok_some ?_) (fun hlt => ok_some ?_) rfl rfl (by omega) (by omega)
      · have hPs := hP s hF
        rw [lstI_no (fun a => ?_)] at hPs
        · exact hPs
        · rintro ⟨v, hv2⟩
          obtain ⟨b, b1, b2⟩ := (last a).mp ⟨a, Nat.le_refl _, v, hv2⟩
          have := ls_fin (I := 1000000) (K := 16384) (L := 2 ^ (m - 1)) (V := rdX s) (by omega) hn ht (fun S h1 h2 c hc => ⟨((hD S h1 h2).2 c hc).1, fun h3 => by have := ((hD S h1 h2).2 c hc).2 h3; omega⟩) b2 (by omega)
          omega
      · have hPs := hP s hF
        obtain ⟨b, b1, v, hv2⟩ := (last (rdX s (2 ^ (m - 1) - 1) (tm (m - 1)))).mpr ⟨_, Nat.le_refl _, hl.1.2.1 hlt⟩
        have mn : ∀ a, (∃ v, HDer n p d tm m (2 ^ m - 1) v a) → rdX s (2 ^ (m - 1) - 1) (tm (m - 1)) ≤ a := fun a ⟨v, hv3⟩ => by
          obtain ⟨b, b1, b2⟩ := (last a).mp ⟨a, Nat.le_refl _, v, hv3⟩
          have := hl.1.2.2 b b2
          omega
        have eb : b = rdX s (2 ^ (m - 1) - 1) (tm (m - 1)) := by
          have := mn b ⟨v, hv2⟩
          omega
        rw [lstI_eq (a := rdX s (2 ^ (m - 1) - 1) (tm (m - 1))) ⟨v, by rw [← eb]; exact hv2⟩ (fun a ha h => by have := mn a h; omega)] at hPs
        exact hPs
    | succ r ih =>
      intro S N s hS h0 hN hF hD
      obtain ⟨N, rfl⟩ := nat_suc hN
      show Ok (b_Hng_fewest_38 (f_Hng_fewest_38 N) (nI (m - 1)) (nI (2 ^ (m - 1) - 1)) (nI S) s) P
      unfold b_Hng_fewest_38
      refine okc_lt (2 ^ (m - 1) - 1) S (fun hh => by omega) (fun _ => ok_lt ?_) rfl rfl (by omega) (by omega)
      rw [i_lit 256, pk_mul, Nat.mul_comm S 256]
      have hE : EXs (wH p d 1000000) s := fun c hc => by rw [hF _ _ (by decide)]; exact hE0 c hc
      exact x_few_one hn hm h0 (by omega) (by omega) hE (by rw [hF _ _ (by decide)]; exact hN0) ht (fun i hi => by rw [hF _ _ (by decide)]; exact hT0 i hi) hD (fun s2 f2 d2 => ih (S + 1) N s2 (by omega) (by omega) (by omega) (fun a j ha => by rw [f2 a j (fun e => ha e.1)]; exact hF a j ha) d2)
  exact lp (2 ^ (m - 1) - 1) 1 1000000 s0 (by omega) (by omega) (by omega) (fun _ _ _ => rfl) (fun A h1 h2 => by omega)
