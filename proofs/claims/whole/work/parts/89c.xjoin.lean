/-! hang: the class's joins -/
def rdX (s : Mm) (A c : Nat) : Nat := (s.1 43 (256 * A + c)).toNatClampNeg
theorem hx_rd {A c : Nat} {g : Nat → Nat} {s : Mm} (h : HBx A g s) (hc : c < 256) : rdX s A c = g c := by
  unfold rdX
  have := (h c hc).2
  rw [(h c hc).1, cl_nI (by omega)]
theorem rx_fb {A S c : Nat} {s0 s : Mm} (h : FBx S s0 s) (hA : A ≠ S) (hc : c < 256) : s.1 43 (256 * A + c) = s0.1 43 (256 * A + c) := h _ _ (fun e => by omega)
def DoX (n : Nat) (p d : Nat → Bool) (tm : Nat → Nat) (m S : Nat) (s : Mm) : Prop := ∀ A, 0 < A → A < S → HBx A (rdX s A) s ∧ ∀ c, isC n c → LsH n p d tm m 1000000 A c (rdX s A c) ∧ (rdX s A c < 1000000 → rdX s A c + 256 ≤ 512 * A)
theorem DoX.fb {n m S : Nat} {p d : Nat → Bool} {tm : Nat → Nat} {s0 s : Mm} (h : DoX n p d tm m S s0) (hF : FBx S s0 s) : DoX n p d tm m S s := fun A hA hS => by
  have e : ∀ c, c < 256 → rdX s A c = rdX s0 A c := fun c hc => by unfold rdX; rw [rx_fb hF (by omega) hc]
  obtain ⟨h1, h2⟩ := h A hA hS
  refine ⟨fun c hc => ?_, fun c hc => ?_⟩
  · rw [rx_fb hF (by omega) hc, e c hc]; exact h1 c hc
  · rw [e c hc.1]; exact h2 c hc
theorem x_joinTwo_ok {n m S A : Nat} {p d : Nat → Bool} {tm h0 h : Nat → Nat} {D : Nat → Nat → Prop} {s0 s : Mm} {P : Unit × Mm → Prop} (hn : n ≤ 16) (hS2 : S < 32) (hE0 : EXs (wH p d 1000000) s0) (ht : ∀ i, i < m → isC n (tm i) ∧ p (tm i) = true) (hV : DoX n p d tm m S s0) (hA : 0 < A) (hAS : A < S) (hs : A &&& S = A)
    (hF : FBx S s0 s) (hB : HBx S h s) (hJ : Jn n 1000000 S p (rdX s0) h0 D h) (hP : ∀ h2 s2, FBx S s0 s2 → HBx S h2 s2 → Jn n 1000000 S p (rdX s0) h0 (fun B v => D B v ∨ B = A) h2 → P ((), s2)) : Ok (f_Hng_joinTwo (nI (256 * S)) (nI (256 * A)) (nI (256 * (S ^^^ A))) (nI n) s) P := by
  have hxl := xor_lt hs hA
  have hxp := xor_pos hs hAS
  obtain ⟨vA1, vA2⟩ := hV A hA hAS
  obtain ⟨vB1, vB2⟩ := hV (S ^^^ A) hxp hxl
  have rows : ∀ r y N h s, y + r = n → r + 1 ≤ N → FBx S s0 s → HBx S h s → Jn n 1000000 S p (rdX s0) h0 (fun B v => D B v ∨ (B = A ∧ v / 16 < y)) h → Ok (f_Hng_joinTwo_3 N (nI (256 * S)) (nI (256 * A)) (nI (256 * (S ^^^ A))) (nI n) (nI y) s) P := by
    intro r
    induction r with
    | zero =>
      intro y N h s hy hN hF hB hJ
      obtain ⟨N, rfl⟩ := nat_suc hN
      show Ok (b_Hng_joinTwo_3 (f_Hng_joinTwo_3 N) (nI (256 * S)) (nI (256 * A)) (nI (256 * (S ^^^ A))) (nI n) (nI y) s) P
      unfold b_Hng_joinTwo_3
      refine okc_le n y (fun _ => ok_some (hP h s hF hB (jn_wk hJ (fun B v _ _ _ hv h2 => ?_)))) (fun hh => by omega)
      have := hv.2.2
      rcases h2 with h2 | h2
      · exact Or.inl h2
      · exact Or.inr ⟨h2, by omega⟩
    | succ r ih =>
      intro y N h s hy hN hF hB hJ
      obtain ⟨N, rfl⟩ := nat_suc hN
      show Ok (b_Hng_joinTwo_3 (f_Hng_joinTwo_3 N) (nI (256 * S)) (nI (256 * A)) (nI (256 * (S ^^^ A))) (nI n) (nI y) s) P
      unfold b_Hng_joinTwo_3
      refine okc_le n y (fun hh => by omega) (fun _ => ?_)
      have cols : ∀ q x M g z, x + q = n → q + 1 ≤ M → FBx S s0 z → HBx S g z → Jn n 1000000 S p (rdX s0) h0 (fun B v => D B v ∨ (B = A ∧ (v / 16 < y ∨ (v / 16 = y ∧ v % 16 < x)))) g → Ok (f_Hng_joinTwo_13 (f_Hng_joinTwo_3 N) M (nI (256 * S)) (nI (256 * A)) (nI (256 * (S ^^^ A))) (nI n) (nI y) (nI x) z) P := by
        intro q
        induction q with
        | zero =>
          intro x M g z hx hM gF gB gJ
          obtain ⟨M, rfl⟩ := nat_suc hM
          show Ok (b_Hng_joinTwo_13 (f_Hng_joinTwo_3 N) (f_Hng_joinTwo_13 (f_Hng_joinTwo_3 N) M) (nI (256 * S)) (nI (256 * A)) (nI (256 * (S ^^^ A))) (nI n) (nI y) (nI x) z) P
          unfold b_Hng_joinTwo_13 b_Hng_joinTwo_89
          refine okc_le n x (fun _ => ok_lt ?_) (fun hh => by omega)
          rw [nI_1]
          refine ih (y + 1) N g z (by omega) (by omega) gF gB (jn_wk gJ (fun B v _ _ _ hv h2 => ?_))
          have := hv.2.1
          rcases h2 with h2 | h2
          · exact Or.inl h2
          · exact Or.inr ⟨h2.1, by omega⟩
        | succ q ihq =>
          intro x M g z hx hM gF gB gJ
          obtain ⟨M, rfl⟩ := nat_suc hM
          have hcc : isC n (16 * y + x) := ⟨by omega, by rw [show (16 * y + x) % 16 = x by omega]; omega, by rw [show (16 * y + x) / 16 = y by omega]; omega⟩
          have hc256 := hcc.1
          show Ok (b_Hng_joinTwo_13 (f_Hng_joinTwo_3 N) (f_Hng_joinTwo_13 (f_Hng_joinTwo_3 N) M) (nI (256 * S)) (nI (256 * A)) (nI (256 * (S ^^^ A))) (nI n) (nI y) (nI x) z) P
          unfold b_Hng_joinTwo_13
          refine okc_le n x (fun hh => by omega) (fun _ => ?_)
          unfold f_x_cellAt
          refine ok_bind (ok_some ?_)
          simp only [cellI, nI_add]
          have nxt : ∀ B v, isC n v → (fun B v => D B v ∨ (B = A ∧ (v / 16 < y ∨ (v / 16 = y ∧ v % 16 < x + 1)))) B v → (fun B v => D B v ∨ (B = A ∧ (v / 16 < y ∨ (v / 16 = y ∧ v % 16 < x)))) B v ∨ (B = A ∧ v = 16 * y + x) := fun B v _ h2 => by
            rcases h2 with h2 | ⟨h2, h3⟩
            · exact Or.inl (Or.inl h2)
            · by_cases e : v = 16 * y + x
              · exact Or.inr ⟨h2, e⟩
              · exact Or.inl (Or.inr ⟨h2, by omega⟩)
          refine ok_t (inb_nI (by omega) (by omega)) (ok_t (inb_nI (by omega) (by omega)) (ok_t (inb_nI (by omega) (by omega)) (ok_lt ?_)))
          have gE := hE0.fb gF (16 * y + x) hc256
          have gBc := gB (16 * y + x) hc256
          rw [cl_nI (show 256 * A + (16 * y + x) < 2147483648 by omega), cl_nI (show 256 * (S ^^^ A) + (16 * y + x) < 2147483648 by omega), cl_nI (show 256 * S + (16 * y + x) < 2147483648 by omega), cl_nI (show 16 * y + x < 2147483648 by omega), rx_fb (A := A) gF (by omega) hc256, rx_fb (A := S ^^^ A) gF (by omega) hc256, (vA1 _ hc256).1, (vB1 _ hc256).1, gE.1, gBc.1, nI_add]
          have cA := vA2 _ hcc
          have cB := vB2 _ hcc
          have bA := (vA1 _ hc256).2
          have bB := (vB1 _ hc256).2
          have wle := gE.2
          have pa : rdX s0 A (16 * y + x) < 1000000 → okH p d (16 * y + x) ∧ prc p (16 * y + x) ≤ rdX s0 A (16 * y + x) := fun hf => (hd_inv hn ht (cA.1.2.1 hf)).2.2.2
          have pb : rdX s0 (S ^^^ A) (16 * y + x) < 1000000 → okH p d (16 * y + x) ∧ prc p (16 * y + x) ≤ rdX s0 (S ^^^ A) (16 * y + x) := fun hf => (hd_inv hn ht (cB.1.2.1 hf)).2.2.2
          have hwle : wH p d 1000000 (16 * y + x) ≤ rdX s0 A (16 * y + x) + rdX s0 (S ^^^ A) (16 * y + x) := by
            rcases Nat.lt_or_ge (rdX s0 A (16 * y + x)) 1000000 with h1 | h1
            · rw [wH_ok (pa h1).1]; have := (pa h1).2; omega
            · omega
          rw [pk_sub hwle]
          refine ok_t (inb_nI (by omega) (by omega)) ?_
          have stay : g (16 * y + x) ≤ rdX s0 A (16 * y + x) + rdX s0 (S ^^^ A) (16 * y + x) - wH p d 1000000 (16 * y + x) → Ok (f_Hng_joinTwo_13 (f_Hng_joinTwo_3 N) M (nI (256 * S)) (nI (256 * A)) (nI (256 * (S ^^^ A))) (nI n) (nI y) (nI (x + 1)) z) P := fun hge => by
            refine ihq (x + 1) M g z (by omega) (by omega) gF gB (jn_st gJ hA hAS hs (fun v _ => ?_) nxt)
            by_cases e : v = 16 * y + x
            · rw [if_pos e, e]
              by_cases hf : rdX s0 A (16 * y + x) < 1000000 ∧ rdX s0 (S ^^^ A) (16 * y + x) < 1000000
              · rw [if_pos hf, ← wH_ok (I := 1000000) (pa hf.1).1]; omega
              · rw [if_neg hf]
            · rw [if_neg e]
          refine okc_le (g (16 * y + x)) (rdX s0 A (16 * y + x) + rdX s0 (S ^^^ A) (16 * y + x) - wH p d 1000000 (16 * y + x)) (fun hge => ok_lt ?_) (fun hlt => ok_t (inb_nI (by omega) (by omega)) (ok_lt ?_)) rfl rfl (by omega) (by omega)
          · rw [nI_1]; exact stay hge
          · rw [nI_1]
            have hf : rdX s0 A (16 * y + x) < 1000000 ∧ rdX s0 (S ^^^ A) (16 * y + x) < 1000000 := by
              rcases Nat.lt_or_ge (rdX s0 A (16 * y + x)) 1000000 with h1 | h1
              · rcases Nat.lt_or_ge (rdX s0 (S ^^^ A) (16 * y + x)) 1000000 with h2 | h2
                · exact ⟨h1, h2⟩
                · rw [wH_ok (pa h1).1] at hlt; have := (pa h1).2; omega
              · rcases Nat.lt_or_ge (rdX s0 (S ^^^ A) (16 * y + x)) 1000000 with h2 | h2
                · rw [wH_ok (pb h2).1] at hlt; have := (pb h2).2; omega
                · omega
            refine ihq (x + 1) M (fun v => if v = 16 * y + x then rdX s0 A (16 * y + x) + rdX s0 (S ^^^ A) (16 * y + x) - wH p d 1000000 (16 * y + x) else g v) _ (by omega) (by omega) (gF.set hc256) (gB.set (by omega)) (jn_st gJ hA hAS hs (fun v _ => ?_) nxt)
            by_cases e : v = 16 * y + x
            · rw [if_pos e, if_pos e, if_pos hf, ← wH_ok (I := 1000000) (pa hf.1).1]; omega
            · rw [if_neg e, if_neg e]
      exact cols n 0 1000000 h s (by omega) (by omega) hF hB (jn_wk hJ (fun B v _ _ _ hv h2 => by
        rcases h2 with h2 | ⟨h2, h3⟩
        · exact Or.inl h2
        · exact Or.inr ⟨h2, by omega⟩))
  unfold f_Hng_joinTwo
  exact rows n 0 1000000 h s (by omega) (by omega) hF hB (jn_wk hJ (fun B v _ _ _ _ h2 => by
    rcases h2 with h2 | ⟨_, h3⟩
    · exact h2
    · omega))
theorem low_ex : ∀ S, S < 32 → 0 < S → ∃ t, t < 5 ∧ S.testBit t = true ∧ nI S &&& (-(nI S)) = nI (2 ^ t) := by decide +kernel
theorem low_and : ∀ A, A < 32 → ∀ t, t < 5 → (nI A &&& nI (2 ^ t) = 0 ↔ A.testBit t = false) := by decide +kernel
theorem x_joinParts_ok {n m S : Nat} {p d : Nat → Bool} {tm h0 : Nat → Nat} {s0 : Mm} {P : Unit × Mm → Prop} (hn : n ≤ 16) (hS : 0 < S) (hS2 : S < 32) (hE0 : EXs (wH p d 1000000) s0) (ht : ∀ i, i < m → isC n (tm i) ∧ p (tm i) = true) (hV : DoX n p d tm m S s0) (hB0 : HBx S h0 s0)
    (hP : ∀ t h s, S.testBit t = true → FBx S s0 s → HBx S h s → Jn n 1000000 S p (rdX s0) h0 (fun B _ => B.testBit t = true) h → P ((), s)) : Ok (f_Hng_joinParts (nI S) (nI n) s0) P := by
  obtain ⟨t, t1, t2, t3⟩ := low_ex S hS2 hS
  unfold f_Hng_joinParts
  refine ok_lt ?_
  rw [t3]
  have lp : ∀ r A N h s, A + r = S → 0 < A → r + 1 ≤ N → FBx S s0 s → HBx S h s → Jn n 1000000 S p (rdX s0) h0 (fun B _ => B.testBit t = true ∧ B < A) h → Ok (f_Hng_joinParts_8 N (nI S) (nI n) (nI (2 ^ t)) (nI A) s) P := by
    intro r
    induction r with
    | zero =>
      intro A N h s hA h0A hN hF hB hJ
      obtain ⟨N, rfl⟩ := nat_suc hN
      show Ok (b_Hng_joinParts_8 (f_Hng_joinParts_8 N) (nI S) (nI n) (nI (2 ^ t)) (nI A) s) P
      unfold b_Hng_joinParts_8
      exact okc_le S A (fun _ => ok_some (hP t h s t2 hF hB (jn_wk hJ (fun B x _ h2 _ _ h3 => ⟨h3, by omega⟩)))) (fun hh => by omega)
    | succ r ih =>
      intro A N h s hA h0A hN hF hB hJ
      obtain ⟨N, rfl⟩ := nat_suc hN
      show Ok (b_Hng_joinParts_8 (f_Hng_joinParts_8 N) (nI S) (nI n) (nI (2 ^ t)) (nI A) s) P
      unfold b_Hng_joinParts_8
      have skip : ¬ (A &&& S = A ∧ A.testBit t = true) → Ok (f_Hng_joinParts_8 N (nI S) (nI n) (nI (2 ^ t)) (nI (A + 1)) s) P := fun hh => ih (A + 1) N h s (by omega) (by omega) (by omega) hF hB (jn_wk hJ (fun B x _ _ hs _ h2 => ⟨h2.1, by
        have h3 : B < A + 1 := h2.2
        have : B ≠ A := fun e => hh (by rw [← e]; exact ⟨hs, h2.1⟩)
        omega⟩))
      refine okc_le S A (fun hh => by omega) (fun _ => ?_)
      rw [nI_and (by omega) (by omega)]
      have hle : A &&& S ≤ A := Nat.and_le_left
      refine okc_eq (A &&& S) A (fun hs => ?_) (fun hs => ok_lt ?_) rfl rfl (by omega) (by omega)
      · refine ok_if (fun hb => ok_lt ?_) (fun hb => ?_)
        · rw [nI_1]
          refine skip (fun z => ?_)
          rw [(low_and A (by omega) t t1).mp hb] at z
          cases z.2
        · have hbit : A.testBit t = true := by
            cases h3 : A.testBit t with
            | true => rfl
            | false => exact absurd ((low_and A (by omega) t t1).mpr h3) hb
          have hxl := xor_lt hs h0A
          rw [show nI S ^^^ nI A = nI (S ^^^ A) from ?_, i_lit 256, pk_mul, pk_mul, pk_mul, Nat.mul_comm S, Nat.mul_comm A, Nat.mul_comm (S ^^^ A)]
          · refine ok_bind (x_joinTwo_ok hn hS2 hE0 ht hV h0A (by omega) hs hF hB hJ (fun h2 s2 f2 b2 j2 => ok_lt ?_))
            rw [nI_1]
            refine ih (A + 1) N h2 s2 (by omega) (by omega) (by omega) f2 b2 (jn_wk j2 (fun B x _ _ _ _ h3 => ?_))
            have h4 : B < A + 1 := h3.2
            rcases Nat.lt_or_ge B A with h5 | h5
            · exact Or.inl ⟨h3.1, h5⟩
            · exact Or.inr (by omega)
          · refine b_ext (fun i hi => ?_)
            rw [b_xor, bt_nI (by omega), bt_nI (by omega), bt_nI (by omega), Nat.testBit_xor]
      · rw [nI_1]
        exact skip (fun z => hs z.1)
  exact lp (S - 1) 1 1000000 h0 s0 (by omega) (by omega) (by omega) FBx.rf hB0 (jn_wk jn_0 (fun B x h1 _ _ _ h2 => by have h3 : B < 1 := h2.2; omega))
