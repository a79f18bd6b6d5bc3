theorem shl1 {i : Nat} (hi : i < 7) : (1 : Int32) <<< (nI i &&& 31) = nI (2 ^ i) := by
  rcases (show i = 0 ∨ i = 1 ∨ i = 2 ∨ i = 3 ∨ i = 4 ∨ i = 5 ∨ i = 6 by omega) with rfl | rfl | rfl | rfl | rfl | rfl | rfl <;> decide
theorem pw6 {i : Nat} (hi : i < 7) : 2 ^ i ≤ 64 := by
  rcases (show i = 0 ∨ i = 1 ∨ i = 2 ∨ i = 3 ∨ i = 4 ∨ i = 5 ∨ i = 6 by omega) with rfl | rfl | rfl | rfl | rfl | rfl | rfl <;> decide
theorem m_hang_one {n m S fu : Nat} {p d : Nat → Bool} {tm : Nat → Nat} {s0 : Mm} {k89 : Int32 → Int32 → Int32 → Mm → Option (Int32 × Mm)} {P : Int32 × Mm → Prop} (hn2 : n ≤ 16) (hm : m ≤ 6) (hS : 0 < S) (hS2 : S < 64) (hE0 : EMs n p d s0) (ht : ∀ i, i < m → isC n (tm i) ∧ p (tm i) = true) (hT0 : ∀ i, i < m → s0.1 76 i = nI (tm i)) (hV0 : DoM n p d tm m S s0)
    (hk : ∀ s, FBs S s0 s → DoM n p d tm m (S + 1) s → Ok (k89 (nI m) (nI fu) (nI (S + 1)) s) P) : Ok (f_m_hang_97 k89 1000000 (nI m) (nI fu) (nI S) 0 s0) P := by
  have seeds : ∀ r i N g z, i + r = m → r + 1 ≤ N → FBs S s0 z → HBs S g z → (∀ x, g x = 1000000000 ∨ (g x = 0 ∧ ∃ i, i < m ∧ S = 2 ^ i ∧ tm i = x)) → (∀ j, j < i → S = 2 ^ j → g (tm j) = 0) → Ok (f_m_hang_130 k89 N (nI m) (nI fu) (nI S) (nI i) z) P := by
    intro r
    induction r with
    | zero =>
      intro i N g z hi hN gF gB g1 g2
      obtain ⟨N, rfl⟩ := nat_suc hN
      show Ok (b_m_hang_130 k89 (f_m_hang_130 k89 N) (nI m) (nI fu) (nI S) (nI i) z) P
      unfold b_m_hang_130
      refine okc_le m i (fun _ => ?_) (fun hh => by omega)
      unfold b_m_hang_169
      have gE := hE0.fb gF
      have gV := hV0.fb gF
      refine ok_bind (m_joins_ok hn2 hS hS2 gE ht gV gB (fun h1 s1 f1 b1 j1 no1 => ?_))
      refine ok_bind (m_wan_ok hn2 hS2 (gE.fb f1) b1 (fun h2 s2 f2 b2 e2 no2 => ok_lt ?_))
      rw [nI_1]
      have ls := jn_ls (I := 1000000000) (d := d) (tm := tm) (m := m) (by omega) hn2 hS hS2 ht (fun A a1 a2 c hc => (gV A a1 a2).2.1 c hc) j1 (fun _ _ _ _ _ _ => Or.inl trivial) (fun c _ => g1 c) (fun j hj e => g2 j (by omega) e)
      refine hk s2 ((gF.tr f1).tr f2) (fun A a1 a2 => ?_)
      rcases Nat.lt_or_ge A S with hl | hl
      · exact ((gV.fb f1).fb f2) A a1 hl
      · have e : A = S := by omega
        subst e
        refine ⟨fun c hc => ?_, fun c hc => ?_, fun c hc hnc => ?_⟩
        · rw [hb_rd b2 hc]; exact b2 c hc
        · rw [hb_rd b2 hc.1, e2 c hc]; exact ls c hc
        · rw [hb_rd b2 hc, no2 c hnc, no1 c hnc]
          rcases g1 c with h | ⟨_, i, i1, _, i3⟩
          · exact h
          · exact absurd (by rw [← i3]; exact (ht i i1).1) hnc
    | succ r ih =>
      intro i N g z hi hN gF gB g1 g2
      obtain ⟨N, rfl⟩ := nat_suc hN
      show Ok (b_m_hang_130 k89 (f_m_hang_130 k89 N) (nI m) (nI fu) (nI S) (nI i) z) P
      unfold b_m_hang_130
      refine okc_le m i (fun hh => by omega) (fun _ => ?_)
      rw [shl1 (by omega)]
      have h2i := pw6 (show i < 7 by omega)
      refine okc_eq S (2 ^ i) (fun e => ?_) (fun e => ok_lt ?_) rfl rfl (by omega) (by omega)
      · refine ok_t (inb_nI (by omega) (by omega)) ?_
        have htC := (ht i (by omega)).1
        have ht256 := htC.1
        rw [cl_nI (by omega), show z.1 76 i = nI (tm i) by rw [gF _ _ (fun e => absurd e.1 (by decide))]; exact hT0 i (by omega), ixM]
        refine ok_t (inb_nI (by omega) (by omega)) (ok_lt ?_)
        rw [nI_1, cl_nI (by omega)]
        refine ih (i + 1) N (fun y => if y = tm i then 0 else g y) _ (by omega) (by omega) (gF.set ht256) (gB.set (x := 0) (by omega)) (fun x => ?_) (fun j hj hSj => ?_)
        · by_cases ex : x = tm i
          · exact Or.inr ⟨by simp only [if_pos ex], i, by omega, e, ex.symm⟩
          · simp only [if_neg ex]; exact g1 x
        · by_cases ex : tm j = tm i
          · simp only [if_pos ex]
          · simp only [if_neg ex]
            refine g2 j ?_ hSj
            rcases Nat.lt_or_ge j i with h | h
            · exact h
            · exact absurd (by rw [show j = i by omega]) ex
      · rw [nI_1]
        exact ih (i + 1) N g z (by omega) (by omega) gF gB g1 (fun j hj hSj => g2 j (by
          rcases Nat.lt_or_ge j i with h | h
          · exact h
          · exact absurd (by rw [hSj, show j = i by omega]) e) hSj)
  have fill : ∀ q c M z, c + q = 256 → q + 1 ≤ M → FBs S s0 z → (∀ x, x < c → z.1 75 (256 * S + x) = nI 1000000000) → Ok (f_m_hang_97 k89 M (nI m) (nI fu) (nI S) (nI c) z) P := by
    intro q
    induction q with
    | zero =>
      intro c M z hc hM gF g1
      obtain ⟨M, rfl⟩ := nat_suc hM
      show Ok (b_m_hang_97 k89 (f_m_hang_97 k89 M) (nI m) (nI fu) (nI S) (nI c) z) P
      unfold b_m_hang_97 b_m_hang_127
      refine okc_le 256 c (fun _ => ?_) (fun hh => by omega)
      exact seeds m 0 1000000 (fun _ => 1000000000) z (by omega) (by omega) gF (fun x hx => ⟨g1 x (by omega), Nat.le_refl _⟩) (fun _ => Or.inl rfl) (fun j hj => by omega)
    | succ q ih =>
      intro c M z hc hM gF g1
      obtain ⟨M, rfl⟩ := nat_suc hM
      show Ok (b_m_hang_97 k89 (f_m_hang_97 k89 M) (nI m) (nI fu) (nI S) (nI c) z) P
      unfold b_m_hang_97
      refine okc_le 256 c (fun hh => by omega) (fun _ => ?_)
      rw [ixM]
      refine ok_t (inb_nI (by omega) (by omega)) (ok_lt ?_)
      rw [nI_1, cl_nI (by omega)]
      refine ih (c + 1) M _ (by omega) (by omega) (gF.set (by omega)) (fun x hx => ?_)
      rw [sI_at]
      by_cases e : x = c
      · rw [if_pos ⟨rfl, by omega⟩]; rfl
      · rw [if_neg (fun e2 => by omega)]; exact g1 x (by omega)
  exact fill 256 0 1000000 s0 (by omega) (by omega) FBs.rf (fun x hx => by omega)
def FAs (s0 s : Mm) : Prop := ∀ a j, a ≠ 75 → s.1 a j = s0.1 a j
theorem m_hang_best {m : Nat} {s : Mm} (hm : m ≤ 6) (h1m : 1 ≤ m) {n : Nat} {p d : Nat → Bool} {tm : Nat → Nat} (hn2 : n ≤ 16) (ht : ∀ i, i < m → isC n (tm i) ∧ p (tm i) = true) (hD : DoM n p d tm m (2 ^ m) s) {P : Int32 × Mm → Prop} (hP : P (lstI (fun a => ∃ v, HDer n p d tm m (2 ^ m - 1) v a), s)) : Ok (b_m_hang_185 (nI (2 ^ m - 1)) s) P := by
  have hp := pw6 (show m < 7 by omega)
  have h2 : 2 ^ 1 ≤ 2 ^ m := Nat.pow_le_pow_right (by decide) h1m
  have hfull := hD (2 ^ m - 1) (by omega) (by omega)
  have lp : ∀ q c M b, c + q = 256 → q + 1 ≤ M → b ≤ 1000000000 → (b = 1000000000 ∨ ∃ x, x < c ∧ rdM s (2 ^ m - 1) x = b) → (∀ x, x < c → b ≤ rdM s (2 ^ m - 1) x) → Ok (f_m_hang_192 M (nI (2 ^ m - 1)) (nI b) (nI c) s) P := by
    intro q
    induction q with
    | zero =>
      intro c M b hc hM hb b1 b2
      obtain ⟨M, rfl⟩ := nat_suc hM
      show Ok (b_m_hang_192 (f_m_hang_192 M) (nI (2 ^ m - 1)) (nI b) (nI c) s) P
      unfold b_m_hang_192 b_m_hang_224
      refine okc_le 256 c (fun _ => ?_) (fun hh => by omega)
      refine okc_lt b 1000000000 (fun hlt => ok_some ?_) (fun hge => ok_some ?_) rfl rfl (by omega) (by omega)
      · rw [lstI_eq (a := b) ?_ (fun a ha => ?_)] at hP
        · exact hP
        · rcases b1 with b1 | ⟨x, x1, x2⟩
          · omega
          · have xC : isC n x := Classical.byContradiction (fun h => by
              have := hfull.2.2 x (by omega) h
              omega)
            have := (hfull.2.1 x xC).1.2.1 (by omega)
            rw [x2] at this
            exact ⟨x, this⟩
        · rintro ⟨v, hv⟩
          obtain ⟨_, _, vC, _, _⟩ := hd_inv hn2 ht hv
          have v256 := vC.1
          have := (hfull.2.1 v vC).1.2.2 a hv
          have := b2 v (by omega)
          omega
      · rw [lstI_no (fun a => ?_)] at hP
        · exact hP
        · rintro ⟨v, hv⟩
          obtain ⟨_, _, vC, _, _⟩ := hd_inv hn2 ht hv
          have v256 := vC.1
          have := ls_fin (I := 1000000000) (K := 32768) (L := 2 ^ m) (V := rdM s) (by omega) hn2 ht (fun S h1 h2 c hc => ⟨((hD S h1 h2).2.1 c hc).1, fun h3 => by have := ((hD S h1 h2).2.1 c hc).2 h3; omega⟩) hv (by omega)
          have := b2 v (by omega)
          omega
    | succ q ih =>
      intro c M b hc hM hb b1 b2
      obtain ⟨M, rfl⟩ := nat_suc hM
      show Ok (b_m_hang_192 (f_m_hang_192 M) (nI (2 ^ m - 1)) (nI b) (nI c) s) P
      unfold b_m_hang_192
      refine okc_le 256 c (fun hh => by omega) (fun _ => ?_)
      rw [ixM]
      have hv := hfull.1 c (by omega)
      refine ok_t (inb_nI (by omega) (by omega)) ?_
      rw [cl_nI (by omega), hv.1]
      refine ok_bind (ok_eq (m_min_eq (by omega) (by omega)) (ok_lt ?_))
      rw [nI_1]
      refine ih (c + 1) M (min b (rdM s (2 ^ m - 1) c)) (by omega) (by omega) (by omega) ?_ (fun x hx => ?_)
      · rcases Nat.le_total b (rdM s (2 ^ m - 1) c) with h | h
        · rw [Nat.min_eq_left h]
          rcases b1 with b1 | ⟨x, x1, x2⟩
          · exact Or.inl b1
          · exact Or.inr ⟨x, by omega, x2⟩
        · rw [Nat.min_eq_right h]; exact Or.inr ⟨c, by omega, rfl⟩
      · rcases Nat.lt_or_ge x c with h | h
        · have := b2 x h; omega
        · rw [show x = c by omega]; omega
  unfold b_m_hang_185
  exact lp 256 0 1000000 1000000000 (by omega) (by omega) (Nat.le_refl _) (Or.inl rfl) (fun x hx => by omega)
theorem m_hang_sets {n m : Nat} {p d : Nat → Bool} {tm : Nat → Nat} {s0 : Mm} {P : Int32 × Mm → Prop} (hn2 : n ≤ 16) (h1m : 1 ≤ m) (hm : m ≤ 6) (hE0 : EMs n p d s0) (ht : ∀ i, i < m → isC n (tm i) ∧ p (tm i) = true) (hT0 : ∀ i, i < m → s0.1 76 i = nI (tm i))
    (hP : ∀ s, FAs s0 s → P (lstI (fun a => ∃ v, HDer n p d tm m (2 ^ m - 1) v a), s)) : Ok (b_m_hang_81 (nI m) s0) P := by
  have hp := pw6 (show m < 7 by omega)
  have h2 : 2 ^ 1 ≤ 2 ^ m := Nat.pow_le_pow_right (by decide) h1m
  unfold b_m_hang_81
  refine ok_lt ?_
  rw [shl1 (by omega), show nI (2 ^ m) - (1 : Int32) = nI (2 ^ m - 1) from pk_sub (b := 1) (by omega)]
  have lp : ∀ r S N s, S + r = 2 ^ m → 0 < S → r + 1 ≤ N → FAs s0 s → DoM n p d tm m S s → Ok (f_m_hang_89 N (nI m) (nI (2 ^ m - 1)) (nI S) s) P := by
    intro r
    induction r with
    | zero =>
      intro S N s hS h0 hN hF hD
      obtain ⟨N, rfl⟩ := nat_suc hN
      show Ok (b_m_hang_89 (f_m_hang_89 N) (nI m) (nI (2 ^ m - 1)) (nI S) s) P
      unfold b_m_hang_89
      refine okc_lt (2 ^ m - 1) S (fun _ => ?_) (fun hh => by omega) rfl rfl (by omega) (by omega)
      exact m_hang_best hm h1m hn2 ht (by rw [show S = 2 ^ m by omega] at hD; exact hD) (hP s hF)
    | succ r ih =>
      intro S N s hS h0 hN hF hD
      obtain ⟨N, rfl⟩ := nat_suc hN
      show Ok (b_m_hang_89 (f_m_hang_89 N) (nI m) (nI (2 ^ m - 1)) (nI S) s) P
      unfold b_m_hang_89
      refine okc_lt (2 ^ m - 1) S (fun hh => by omega) (fun _ => ?_) rfl rfl (by omega) (by omega)
      have hE : EMs n p d s := ⟨by rw [hF _ _ (by decide)]; exact hE0.1, fun c hc => by rw [hF _ _ (by decide)]; exact hE0.2.1 c hc, fun c hc => by rw [hF _ _ (by decide)]; exact hE0.2.2 c hc⟩
      exact m_hang_one hn2 hm h0 (by omega) hE ht (fun i hi => by rw [hF _ _ (by decide)]; exact hT0 i hi) hD (fun s2 f2 d2 => ih (S + 1) N s2 (by omega) (by omega) (by omega) (fun a j ha => by rw [f2 a j (fun e => ha e.1)]; exact hF a j ha) d2)
  exact lp (2 ^ m - 1) 1 1000000 s0 (by omega) (by omega) (by omega) (fun _ _ _ => rfl) (fun A h1 h2 => by omega)
