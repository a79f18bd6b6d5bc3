/-! hang: the reference -/
theorem andn_xa {A S : Nat} (hA : A < 1024) (hS : S < 1024) : nI A &&& (nI S ^^^ (-1 : Int32)) = nI (A ^^^ (A &&& S)) := by
  have hx : A ^^^ (A &&& S) < 2 ^ 32 := Nat.lt_trans (Nat.xor_lt_two_pow (n := 10) (by omega) (Nat.lt_of_le_of_lt Nat.and_le_left (by omega))) (by decide)
  refine b_ext (fun i hi => ?_)
  rw [b_and, b_xor, b_m1 i hi, bt_nI (by omega), bt_nI (by omega), bt_nI hx, Nat.testBit_xor, Nat.testBit_and]
  cases A.testBit i <;> cases S.testBit i <;> rfl
theorem andn_0 {A S : Nat} (hA : A < 1024) (hS : S < 1024) : nI A &&& (nI S ^^^ (-1 : Int32)) = 0 ↔ A &&& S = A := by
  rw [andn_xa hA hS]
  have hx : A ^^^ (A &&& S) < 2 ^ 10 := Nat.xor_lt_two_pow (n := 10) (by omega) (Nat.lt_of_le_of_lt Nat.and_le_left (by omega))
  constructor
  · intro h
    have h0 : A ^^^ (A &&& S) = 0 := nI_inj (by omega) (by omega) h
    refine Nat.eq_of_testBit_eq (fun t => ?_)
    have h1 : (A ^^^ (A &&& S)).testBit t = false := by rw [h0]; simp
    rw [Nat.testBit_xor] at h1
    cases h2 : A.testBit t <;> cases h3 : (A &&& S).testBit t <;> simp_all
  · intro h
    rw [h, Nat.xor_self]; rfl
def rdM (s : Mm) (A c : Nat) : Nat := (s.1 75 (256 * A + c)).toNatClampNeg
theorem hb_rd {A c : Nat} {g : Nat → Nat} {s : Mm} (h : HBs A g s) (hc : c < 256) : rdM s A c = g c := by
  unfold rdM
  have := (h c hc).2
  rw [(h c hc).1, cl_nI (by omega)]
theorem rd_fb {A S c : Nat} {s0 s : Mm} (h : FBs S s0 s) (hA : A ≠ S) (hc : c < 256) : s.1 75 (256 * A + c) = s0.1 75 (256 * A + c) := h _ _ (fun e => by omega)
def DoM (n : Nat) (p d : Nat → Bool) (tm : Nat → Nat) (m S : Nat) (s : Mm) : Prop := ∀ A, 0 < A → A < S → HBs A (rdM s A) s ∧ (∀ c, isC n c → LsH n p d tm m 1000000000 A c (rdM s A c) ∧ (rdM s A c < 1000000000 → rdM s A c + 256 ≤ 512 * A)) ∧ ∀ c, c < 256 → ¬ isC n c → rdM s A c = 1000000000
theorem DoM.fb {n m S : Nat} {p d : Nat → Bool} {tm : Nat → Nat} {s0 s : Mm} (h : DoM n p d tm m S s0) (hF : FBs S s0 s) : DoM n p d tm m S s := fun A hA hS => by
  have e : ∀ c, c < 256 → rdM s A c = rdM s0 A c := fun c hc => by unfold rdM; rw [rd_fb hF (by omega) hc]
  obtain ⟨h1, h2, h3⟩ := h A hA hS
  refine ⟨fun c hc => ?_, fun c hc => ?_, fun c hc hnc => ?_⟩
  · rw [rd_fb hF (by omega) hc, e c hc]; exact h1 c hc
  · rw [e c hc.1]; exact h2 c hc
  · rw [e c hc]; exact h3 c hc hnc
theorem m_joins_ok {n m S : Nat} {p d : Nat → Bool} {tm h0 : Nat → Nat} {s0 : Mm} {P : Unit × Mm → Prop} (hn2 : n ≤ 16) (hS : 0 < S) (hS2 : S < 64) (hE0 : EMs n p d s0) (ht : ∀ i, i < m → isC n (tm i) ∧ p (tm i) = true) (hV : DoM n p d tm m S s0) (hB0 : HBs S h0 s0)
    (hP : ∀ h s, FBs S s0 s → HBs S h s → Jn n 1000000000 S p (rdM s0) h0 (fun _ _ => True) h → (∀ x, ¬ isC n x → h x = h0 x) → P ((), s)) : Ok (f_m_joins (nI S) s0) P := by
  have key : ∀ r A N h s, A + r = S → 0 < A → r + 1 ≤ N → FBs S s0 s → HBs S h s → Jn n 1000000000 S p (rdM s0) h0 (fun B _ => B < A) h → (∀ x, ¬ isC n x → h x = h0 x) → Ok (f_m_joins_2 N (nI S) (nI A) s) P := by
    intro r
    induction r with
    | zero =>
      intro A N h s hA h0A hN hF hB hJ hno
      obtain ⟨N, rfl⟩ := nat_suc hN
      show Ok (b_m_joins_2 (f_m_joins_2 N) (nI S) (nI A) s) P
      unfold b_m_joins_2
      refine okc_le S A (fun _ => ok_some (hP h s hF hB (jn_wk hJ (fun B x _ h2 _ _ _ => by show B < A; omega)) hno)) (fun hh => by omega)
    | succ r ih =>
      intro A N h s hA h0A hN hF hB hJ hno
      obtain ⟨N, rfl⟩ := nat_suc hN
      show Ok (b_m_joins_2 (f_m_joins_2 N) (nI S) (nI A) s) P
      unfold b_m_joins_2
      refine okc_le S A (fun hh => by omega) (fun _ => ?_)
      refine ok_if (fun hc => ?_) (fun hc => ?_)
      · have hs : A &&& S = A := (andn_0 (by omega) (by omega)).mp hc
        have hxl := xor_lt hs h0A
        have hxp := xor_pos hs (by omega)
        obtain ⟨vA1, vA2, _⟩ := hV A h0A (by omega)
        obtain ⟨vB1, vB2, _⟩ := hV (S ^^^ A) hxp hxl
        have hsx := sum_xor S hS2 A (by omega) hs
        have lp : ∀ q c M g z, c + q = 256 → q + 1 ≤ M → FBs S s0 z → HBs S g z → Jn n 1000000000 S p (rdM s0) h0 (fun B x => B < A ∨ (B = A ∧ x < c)) g → (∀ x, ¬ isC n x → g x = h0 x) → Ok (f_m_joins_20 (f_m_joins_2 N) M (nI S) (nI A) (nI c) z) P := by
          intro q
          induction q with
          | zero =>
            intro c M g z hc hM gF gB gJ gno
            obtain ⟨M, rfl⟩ := nat_suc hM
            show Ok (b_m_joins_20 (f_m_joins_2 N) (f_m_joins_20 (f_m_joins_2 N) M) (nI S) (nI A) (nI c) z) P
            unfold b_m_joins_20 b_m_joins_127
            refine okc_le 256 c (fun _ => ok_lt ?_) (fun hh => by omega)
            rw [nI_1]
            exact ih (A + 1) N g z (by omega) (by omega) (by omega) gF gB (jn_wk gJ (fun B x _ _ _ hx h2 => by have h3 : B < A + 1 := h2; have := hx.1; show B < A ∨ (B = A ∧ x < c); omega)) gno
          | succ q ihq =>
            intro c M g z hc hM gF gB gJ gno
            obtain ⟨M, rfl⟩ := nat_suc hM
            show Ok (b_m_joins_20 (f_m_joins_2 N) (f_m_joins_20 (f_m_joins_2 N) M) (nI S) (nI A) (nI c) z) P
            unfold b_m_joins_20
            refine okc_le 256 c (fun hh => by omega) (fun _ => ?_)
            have gE := hE0.fb gF
            rw [r16 (by omega), d16 (by omega)]
            refine ok_bind (ok_eq (m_isCell_eq gE.1 hn2 (by omega) (by omega)) ?_)
            refine okc_b (decide (c % 16 < n ∧ c / 16 < n)) (fun hh => ?_) (fun hh => ?_) rfl
            · have nc : ¬ isC n c := fun h => of_decide_eq_false hh h.2
              refine ok_lt ?_
              rw [nI_1]
              exact ihq (c + 1) M g z (by omega) (by omega) gF gB (jn_wk gJ (fun B x _ _ _ hx h2 => by
                have h3 : B < A ∨ (B = A ∧ x < c + 1) := h2
                have : x ≠ c := fun e => nc (by rw [← e]; exact hx)
                show B < A ∨ (B = A ∧ x < c)
                omega)) gno
            · have hcc : isC n c := ⟨by omega, of_decide_eq_true hh⟩
              have hc256 := hcc.1
              have nxt : ∀ B x, isC n x → (fun B x => B < A ∨ (B = A ∧ x < c + 1)) B x → (fun B x => B < A ∨ (B = A ∧ x < c)) B x ∨ (B = A ∧ x = c) := fun B x _ h2 => by have h3 : B < A ∨ (B = A ∧ x < c + 1) := h2; show (B < A ∨ (B = A ∧ x < c)) ∨ (B = A ∧ x = c); omega
              rw [andn_eq (by omega) hs, ixM, ixM, ixM]
              refine ok_t (inb_nI (by omega) (by omega)) (ok_t (inb_nI (by omega) (by omega)) ?_)
              rw [cl_nI (show 256 * A + c < 2147483648 by omega), cl_nI (show 256 * (S ^^^ A) + c < 2147483648 by omega), cl_nI (show 256 * S + c < 2147483648 by omega)]
              show Ok ((f_m_sum (z.1 75 (256 * A + c)) (z.1 75 (256 * (S ^^^ A) + c)) z).bind _) P
              rw [rd_fb gF (by omega) hc256, rd_fb gF (by omega) hc256, (vA1 c hc256).1, (vB1 c hc256).1]
              refine ok_bind (ok_eq (m_sum_eq (vA1 c hc256).2 (vB1 c hc256).2) ?_)
              have cA := vA2 c hcc
              have cB := vB2 c hcc
              have gBc := gB c hc256
              by_cases hf : rdM s0 A c < 1000000000 ∧ rdM s0 (S ^^^ A) c < 1000000000
              · have bA := cA.2 hf.1
                have bB := cB.2 hf.2
                obtain ⟨_, _, _, ok, pr⟩ := hd_inv hn2 ht (cA.1.2.1 hf.1)
                rw [if_pos hf]
                refine okc_le 1000000000 (rdM s0 A c + rdM s0 (S ^^^ A) c) (fun hh => by omega) (fun _ => ?_) rfl rfl (by omega) (by omega)
                refine ok_t (inb_nI (by omega) (by omega)) ?_
                refine ok_bind (ok_eq (m_costOf_eq gE hc256) ?_)
                show Ok ((f_m_min (z.1 75 (256 * S + c)) (nI (rdM s0 A c + rdM s0 (S ^^^ A) c) - nI (wH p d 1000000000 c)) z).bind _) P
                rw [wH_ok ok, pk_sub (by omega), gBc.1]
                refine ok_bind (ok_eq (m_min_eq (by omega) (by omega)) ?_)
                refine ok_t (inb_nI (by omega) (by omega)) (ok_lt ?_)
                rw [nI_1]
                refine ihq (c + 1) M (fun y => if y = c then min (g c) (rdM s0 A c + rdM s0 (S ^^^ A) c - prc p c) else g y) _ (by omega) (by omega) (gF.set hc256) (gB.set (by omega)) (jn_st gJ h0A (by omega) hs (fun x _ => ?_) nxt) (fun x hx => ?_)
                · rw [if_pos hf]
                · have : x ≠ c := fun e => hx (by rw [e]; exact hcc)
                  simp only [if_neg this]; exact gno x hx
              · rw [if_neg hf]
                refine okc_le 1000000000 1000000000 (fun _ => ok_lt ?_) (fun hh => by omega) rfl rfl
                rw [nI_1]
                refine ihq (c + 1) M g z (by omega) (by omega) gF gB (jn_st gJ h0A (by omega) hs (fun x _ => ?_) nxt) gno
                rw [if_neg hf]
                by_cases e : x = c
                · rw [if_pos e, e]
                · rw [if_neg e]
        exact lp 256 0 1000000 h s (by omega) (by omega) hF hB (jn_wk hJ (fun B x _ _ _ _ h2 => by have h3 : B < A ∨ (B = A ∧ x < 0) := h2; show B < A; omega)) hno
      · unfold b_m_joins_127
        refine ok_lt ?_
        rw [nI_1]
        exact ih (A + 1) N h s (by omega) (by omega) (by omega) hF hB (jn_wk hJ (fun B x _ _ hs _ h2 => by
          have h3 : B < A + 1 := h2
          have : B ≠ A := fun e => hc ((andn_0 (by omega) (by omega)).mpr (by rw [← e]; exact hs))
          show B < A
          omega)) hno
  unfold f_m_joins
  exact key (S - 1) 1 1000000 h0 s0 (by omega) (by omega) (by omega) FBs.rf hB0 (jn_wk jn_0 (fun B x h1 _ _ _ h2 => by have h3 : B < 1 := h2; omega)) (fun _ _ => rfl)
