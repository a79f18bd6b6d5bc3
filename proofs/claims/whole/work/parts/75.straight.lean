/-! straight -/
theorem ltL {k c : Nat} (h : k < c) (hc : c < 2 ^ 31) : nI k < (OfNat.ofNat c : Int32) := by rw [i_lit]; exact nI_lt h hc
theorem nltL {k c : Nat} (h : c ≤ k) (hk : k < 2 ^ 31) : ¬ nI k < (OfNat.ofNat c : Int32) := by rw [i_lit, nI_ltI hk (by omega)]; omega
theorem nl_61 (st : Mm) {k : Nat} (h1 : 1 ≤ k) (h2 : k < 16) : ∃ t, t ≤ 3 ∧ 2 ^ t ≤ k ∧ k < 2 ^ (t + 1) ∧ ∀ v, 3 ≤ v → v < 100 → b_Int_numberOfLeadingZeros_61 (nI k) (nI v) st = some (nI (v - t), st) := by
  have e1 : ∀ j, j < 65536 → ((nI j).toUInt32 >>> ((1 : Int32).toUInt32 &&& Int32.toUInt32 31)).toInt32 = nI (j / 2) := fun j hj => pk_ushrN (by omega) _ 1 (by decide)
  have e2 : ∀ j, j < 65536 → ((nI j).toUInt32 >>> ((2 : Int32).toUInt32 &&& Int32.toUInt32 31)).toInt32 = nI (j / 4) := fun j hj => pk_ushrN (by omega) _ 2 (by decide)
  have e3 : ∀ v, 2 ≤ v → nI v + (-2 : Int32) = nI (v - 2) := fun v hv => by
    show nI v + -nI 2 = _
    rw [← Int32.sub_eq_add_neg, pk_sub hv]
  by_cases h4 : k < 4
  · by_cases h5 : k < 2
    · refine ⟨0, by omega, by omega, by omega, fun v h6 h7 => ?_⟩
      unfold b_Int_numberOfLeadingZeros_61
      rw [if_pos (ltL (c := 4) h4 (by omega)), e1 _ (by omega), pk_sub (by omega), show k / 2 = 0 by omega]
    · refine ⟨1, by omega, by omega, by omega, fun v h6 h7 => ?_⟩
      unfold b_Int_numberOfLeadingZeros_61
      rw [if_pos (ltL (c := 4) h4 (by omega)), e1 _ (by omega), pk_sub (by omega), show k / 2 = 1 by omega]
  · by_cases h5 : k < 8
    · refine ⟨2, by omega, by omega, by omega, fun v h6 h7 => ?_⟩
      unfold b_Int_numberOfLeadingZeros_61
      rw [if_neg (nltL (c := 4) (by omega) (by omega)), lt_eq, lt_eq, e2 _ (by omega), e1 _ (by omega), e3 _ (by omega), pk_sub (by omega), show k / 4 / 2 = 0 by omega, Nat.sub_zero]
    · refine ⟨3, by omega, by omega, by omega, fun v h6 h7 => ?_⟩
      unfold b_Int_numberOfLeadingZeros_61
      rw [if_neg (nltL (c := 4) (by omega) (by omega)), lt_eq, lt_eq, e2 _ (by omega), e1 _ (by omega), e3 _ (by omega), pk_sub (by omega), show k / 4 / 2 = 1 by omega]
      rfl
theorem pw_up {t k c e : Nat} (hc : c = 2 ^ e) (h1 : 2 ^ t ≤ k / c) (h2 : k / c < 2 ^ (t + 1)) : 2 ^ (t + e) ≤ k ∧ k < 2 ^ (t + e + 1) := by
  have hp : 0 < c := by rw [hc]; exact Nat.two_pow_pos e
  refine ⟨?_, ?_⟩
  · have := (Nat.le_div_iff_mul_le hp).mp h1
    rw [Nat.pow_add, ← hc]; exact this
  · have := (Nat.div_lt_iff_lt_mul hp).mp h2
    rw [show t + e + 1 = (t + 1) + e by omega, Nat.pow_add, ← hc]; exact this
theorem nl_48 (st : Mm) {k : Nat} (h1 : 1 ≤ k) (h2 : k < 256) : ∃ t, t ≤ 7 ∧ 2 ^ t ≤ k ∧ k < 2 ^ (t + 1) ∧ ∀ v, 7 ≤ v → v < 100 → b_Int_numberOfLeadingZeros_48 (nI k) (nI v) st = some (nI (v - t), st) := by
  by_cases h : k < 16
  · obtain ⟨t, a, b, c, d⟩ := nl_61 st h1 h
    refine ⟨t, by omega, b, c, fun v h3 h4 => ?_⟩
    unfold b_Int_numberOfLeadingZeros_48
    rw [if_pos (ltL (c := 16) h (by omega))]
    exact d v (by omega) h4
  · obtain ⟨t, a, b, c, d⟩ := nl_61 st (k := k / 16) (by omega) (by omega)
    have := pw_up (e := 4) (by decide) b c
    refine ⟨t + 4, by omega, this.1, this.2, fun v h3 h4 => ?_⟩
    unfold b_Int_numberOfLeadingZeros_48
    rw [if_neg (nltL (c := 16) (by omega) (by omega)), lt_eq, lt_eq, pk_ushrN (by omega) _ 4 (by decide), show nI v + (-4 : Int32) = nI (v - 4) by (show nI v + -nI 4 = _; rw [← Int32.sub_eq_add_neg, pk_sub (by omega)]), show k / 2 ^ 4 = k / 16 from rfl, d (v - 4) (by omega) (by omega), show v - 4 - t = v - (t + 4) by omega]
theorem x_nlz {k : Nat} (st : Mm) (h1 : 1 ≤ k) (h2 : k < 65536) : ∃ t, t ≤ 15 ∧ higB k t ∧ f_Int_numberOfLeadingZeros (nI k) st = some (nI (31 - t), st) := by
  have go : ∃ t, t ≤ 15 ∧ 2 ^ t ≤ k ∧ k < 2 ^ (t + 1) ∧ b_Int_numberOfLeadingZeros_33 (nI k) (31 : Int32) st = some (nI (31 - t), st) := by
    by_cases h : k < 256
    · obtain ⟨t, a, b, c, d⟩ := nl_48 st h1 h
      refine ⟨t, by omega, b, c, ?_⟩
      unfold b_Int_numberOfLeadingZeros_33
      rw [if_pos (ltL (c := 256) h (by omega))]
      exact d 31 (by omega) (by omega)
    · obtain ⟨t, a, b, c, d⟩ := nl_48 st (k := k / 256) (by omega) (by omega)
      have := pw_up (e := 8) (by decide) b c
      refine ⟨t + 8, by omega, this.1, this.2, ?_⟩
      unfold b_Int_numberOfLeadingZeros_33
      rw [if_neg (nltL (c := 256) (by omega) (by omega)), lt_eq, lt_eq, pk_ushrN (by omega) _ 8 (by decide), show (31 : Int32) + (-8 : Int32) = nI 23 from by decide, show k / 2 ^ 8 = k / 256 from rfl, d 23 (by omega) (by omega), show 23 - t = 31 - (t + 8) by omega]
  obtain ⟨t, a, b, c, d⟩ := go
  refine ⟨t, a, higB_of b c, ?_⟩
  unfold f_Int_numberOfLeadingZeros
  rw [if_pos (show (0 : Int32) < nI k from show nI 0 < nI k from nI_lt (by omega) (by omega)), if_pos (ltL (c := 65536) h2 (by omega))]
  exact d
/-- the two ends of a row -/
theorem row_ends {f : Nat → Int32} {c : Nat → Bool} (h : Rw f c) {y : Nat} (hy : y < 16) (st : Mm) : (f y = 0 ∧ ∀ b, b < 16 → c (16 * y + b) = false) ∨ (¬ f y = 0 ∧ ∃ lo hi, lo < 16 ∧ hi < 16 ∧ f_Fit_lowX (f y) st = some (nI lo, st) ∧ f_Fit_highX (f y) st = some (nI hi, st) ∧ c (16 * y + lo) = true ∧ c (16 * y + hi) = true ∧ ∀ b, b < 16 → c (16 * y + b) = true → lo ≤ b ∧ b ≤ hi) := by
  obtain ⟨k, h1, h2, h3, h4⟩ := row_nat (f y) 16 (fun b h1 h2 => h.hi hy h1 h2)
  have hb : ∀ b, b < 16 → c (16 * y + b) = k.testBit b := fun b hb => by rw [← h.lo hy hb, h4 b]
  rcases Nat.eq_zero_or_pos k with e | e
  · left
    exact ⟨by rw [h2, e]; rfl, fun b hb2 => by rw [hb b hb2, e]; simp⟩
  · right
    obtain ⟨t, ht, h5⟩ := lowB_ex 16 k e h1
    obtain ⟨u, hu, h6, h7⟩ := x_nlz st e h1
    refine ⟨fun h8 => ?_, t, u, ht, by omega, ?_, ?_, by rw [hb t ht]; exact h5.1, by rw [hb u (by omega)]; exact h6.1, fun b hb2 hb3 => ⟨?_, ?_⟩⟩
    · rw [h2] at h8
      have := nI_inj (a := k) (b := 0) (by omega) (by omega) h8; omega
    · unfold f_Fit_lowX
      rw [h2, x_ntz_nI h5 h1]; rfl
    · unfold f_Fit_highX
      rw [h2, h7]
      show some ((31 : Int32) - nI (31 - u), st) = _
      rw [show (31 : Int32) = nI 31 from rfl, pk_sub (by omega), show 31 - (31 - u) = u by omega]
    · rw [hb b hb2] at hb3
      rcases Nat.lt_or_ge b t with h8 | h8
      · rw [h5.2 b h8] at hb3; cases hb3
      · exact h8
    · rw [hb b hb2] at hb3
      rcases Nat.lt_or_ge u b with h8 | h8
      · rw [h6.2 b h8] at hb3; cases hb3
      · exact h8
def pvl (p q : Int) (k : Nat) : Int := p * ((k % 16 : Nat) : Int) + q * ((k / 16 : Nat) : Int)
def strt (v : Wd) (B : Nat → Bool) (p q c : Int) : Prop := ∀ k, k < 256 → isP v (k % 16) (k / 16) = true → (B k = true ↔ c < pvl p q k)
theorem i_mulN {z : Int32} {p : Int} {x : Nat} (hz : z.toInt = p) (h1 : -3 ≤ p) (h2 : p ≤ 3) (hx : x < 16) : (z * nI x).toInt = p * (x : Int) := by
  have e : (nI x).toInt = (x : Int) := nI_T (by omega)
  have a : -45 ≤ p * (x : Int) := by
    have := Int.mul_le_mul_of_nonneg_right h1 (show (0 : Int) ≤ (x : Int) by omega)
    omega
  have b : p * (x : Int) ≤ 45 := by
    have := Int.mul_le_mul_of_nonneg_right h2 (show (0 : Int) ≤ (x : Int) by omega)
    omega
  rw [fb_mulI, hz, e]
  · rw [hz, e]; omega
  · rw [hz, e]; omega
theorem mul_bd {p : Int} {x : Nat} (h1 : -3 ≤ p) (h2 : p ≤ 3) (hx : x < 16) : -45 ≤ p * (x : Int) ∧ p * (x : Int) ≤ 45 := by
  have a := Int.mul_le_mul_of_nonneg_right h1 (show (0 : Int) ≤ (x : Int) by omega)
  have b := Int.mul_le_mul_of_nonneg_right h2 (show (0 : Int) ≤ (x : Int) by omega)
  omega
theorem mul_mid {p : Int} {lo b hi : Nat} (h1 : lo ≤ b) (h2 : b ≤ hi) : min (p * (lo : Int)) (p * (hi : Int)) ≤ p * (b : Int) ∧ p * (b : Int) ≤ max (p * (lo : Int)) (p * (hi : Int)) := by
  rcases Int.le_total 0 p with hp | hp
  · have a := Int.mul_le_mul_of_nonneg_left (show (lo : Int) ≤ (b : Int) by omega) hp
    have c := Int.mul_le_mul_of_nonneg_left (show (b : Int) ≤ (hi : Int) by omega) hp
    omega
  · have a := Int.mul_le_mul_of_nonpos_left hp (show (lo : Int) ≤ (b : Int) by omega)
    have c := Int.mul_le_mul_of_nonpos_left hp (show (b : Int) ≤ (hi : Int) by omega)
    omega
/-- what the two numbers are behind y rows -/
def lnC (W : Nat → Bool) (p q : Int) (y : Nat) (C : Int) : Prop := -60 ≤ C ∧ C ≤ 90 ∧ (∀ k, k < 16 * y → W k = true → pvl p q k ≤ C) ∧ (C = -60 ∨ ∃ k, k < 256 ∧ W k = true ∧ pvl p q k = C)
def lnD (B : Nat → Bool) (p q : Int) (y : Nat) (D : Int) : Prop := D ≤ 61 ∧ -90 ≤ D ∧ (∀ k, k < 16 * y → B k = true → D ≤ pvl p q k) ∧ (D = 61 ∨ ∃ k, k < 256 ∧ B k = true ∧ pvl p q k = D)
theorem pvl_rc (p q : Int) {y b : Nat} (hb : b < 16) : pvl p q (16 * y + b) = p * (b : Int) + q * (y : Int) := by
  unfold pvl
  rw [show (16 * y + b) % 16 = b by omega, show (16 * y + b) / 16 = y by omega]
theorem x_line_loop {s : Mm} {n : Nat} {l : List Nat} {v : Wd} {B W : Nat → Bool} {zp zq : Int32} {p q : Int} {P : Int32 × Mm → Prop} (hS : FoS s 47 48 49 n l (slb 0) v) (hB : Rw (s.1 50) B) (hK : Rw (s.1 51) (fun k => W k || B k)) (hWB : ∀ k, ¬ (W k = true ∧ B k = true)) (hp : zp.toInt = p) (hq : zq.toInt = q) (p1 : -3 ≤ p) (p2 : p ≤ 3) (q1 : -3 ≤ q) (q2 : q ≤ 3)
    (hno : ∀ C D y, y ≤ v.2.1 → lnC W p q y C → lnD B p q y D → D ≤ C → P (-1000, s)) (hyes : ∀ C D (zc : Int32), lnC W p q v.2.1 C → lnD B p q v.2.1 D → C < D → zc.toInt = C → P (zc, s)) :
    ∀ r y m C D (zc zd : Int32), y + r = v.2.1 → r + 1 ≤ m → lnC W p q y C → lnD B p q y D → zc.toInt = C → zd.toInt = D → C < D → Ok (f_Fit_lineAbove_22 m zp zq zc zd (nI y) s) P := by
  have hb := hS.b
  intro r
  induction r with
  | zero =>
    intro y m C D zc zd hy hm hC hD hzc hzd hlt
    obtain ⟨m, rfl⟩ := nat_suc (show 0 + 1 ≤ m by omega)
    show Ok (b_Fit_lineAbove_22 (f_Fit_lineAbove_22 m) zp zq zc zd (nI y) s) P
    unfold b_Fit_lineAbove_22
    have e : y = v.2.1 := by omega
    rw [hS.2.2.1, e]
    rw [e] at hC hD
    exact ok_t (Int32.le_refl _) (ok_some (hyes C D zc hC hD hlt hzc))
  | succ r ih =>
    intro y m C D zc zd hy hm hC hD hzc hzd hlt
    obtain ⟨m, rfl⟩ := nat_suc (show 0 + 1 ≤ m by omega)
    show Ok (b_Fit_lineAbove_22 (f_Fit_lineAbove_22 m) zp zq zc zd (nI y) s) P
    unfold b_Fit_lineAbove_22
    have hy16 : y < 16 := by omega
    have hib := inb_nI hy16 (show 16 < 2147483648 by omega)
    rw [hS.2.2.1]
    refine ok_f (nI_ge (by omega) (by omega)) (ok_t hib (ok_lt (ok_t hib (ok_lt ?_))))
    rw [cl_nI (by omega)]
    have hW : Rw (fun y => s.1 51 y &&& (s.1 50 y ^^^ (-1 : Int32))) W := fun y hy b hb2 => by
      show bt (s.1 51 y &&& (s.1 50 y ^^^ (-1 : Int32))) b = _
      have hk : bt (s.1 51 y) b = (decide (b < 16) && (W (16 * y + b) || B (16 * y + b))) := hK y hy b hb2
      rw [b_and, b_xor, b_m1 b hb2, hk, hB y hy b hb2]
      have := hWB (16 * y + b)
      cases decide (b < 16) <;> cases h1 : W (16 * y + b) <;> cases h2 : B (16 * y + b) <;> first | rfl | exact absurd ⟨h1, h2⟩ this
    have eq1 : (zq * nI y).toInt = q * (y : Int) := i_mulN hq q1 q2 hy16
    have bq := mul_bd q1 q2 hy16
    have fin : ∀ C2 D2 (zc2 zd2 : Int32), lnC W p q (y + 1) C2 → lnD B p q (y + 1) D2 → zc2.toInt = C2 → zd2.toInt = D2 → Ok (b_Fit_lineAbove_123 (f_Fit_lineAbove_22 m) zp zq zc2 zd2 (nI y) s) P := by
      intro C2 D2 zc2 zd2 h1 h2 h3 h4
      unfold b_Fit_lineAbove_123
      by_cases h5 : C2 < D2
      · refine ok_t (by rw [i_lt, h3, h4]; exact h5) (ok_lt ?_)
        rw [nI_1]
        exact ih (y + 1) m C2 D2 zc2 zd2 (by omega) (by omega) h1 h2 h3 h4 h5
      · exact ok_f (by rw [i_lt, h3, h4]; exact h5) (ok_some (hno C2 D2 (y + 1) (by omega) h1 h2 (by omega)))
    have mid : ∀ D2 (zd2 : Int32), lnD B p q (y + 1) D2 → zd2.toInt = D2 → Ok (b_Fit_lineAbove_91 (f_Fit_lineAbove_22 m) zp zq zc zd2 (nI y) (s.1 51 y &&& (s.1 50 y ^^^ (-1 : Int32))) s) P := by
      intro D2 zd2 hD2 hzd2
      unfold b_Fit_lineAbove_91
      rcases row_ends hW hy16 s with ⟨h1, h2⟩ | ⟨h1, lo, hi, h2, h3, h4, h5, h6, h7, h8⟩
      · refine ok_t h1 (fin C D2 zc zd2 ⟨hC.1, hC.2.1, fun k hk hk2 => ?_, hC.2.2.2⟩ hD2 hzc hzd2)
        rcases Nat.lt_or_ge k (16 * y) with h9 | h9
        · exact hC.2.2.1 k h9 hk2
        · have := h2 (k - 16 * y) (by omega)
          rw [show 16 * y + (k - 16 * y) = k by omega, hk2] at this; cases this
      · refine ok_f h1 (ok_bind (ok_eq h4 (ok_bind (ok_eq h5 (ok_lt ?_)))))
        have el : (zp * nI lo).toInt = p * (lo : Int) := i_mulN hp p1 p2 h2
        have eh : (zp * nI hi).toInt = p * (hi : Int) := i_mulN hp p1 p2 h3
        have bl := mul_bd p1 p2 h2
        have bh := mul_bd p1 p2 h3
        have em : (if zp * nI lo < zp * nI hi then zp * nI hi else zp * nI lo).toInt = max (p * (lo : Int)) (p * (hi : Int)) := by
          by_cases h9 : zp * nI lo < zp * nI hi
          · rw [if_pos h9, eh]; rw [i_lt, el, eh] at h9; omega
          · rw [if_neg h9, el]; rw [i_lt, el, eh] at h9; omega
        have es : (zq * nI y + (if zp * nI lo < zp * nI hi then zp * nI hi else zp * nI lo)).toInt = q * (y : Int) + max (p * (lo : Int)) (p * (hi : Int)) := by
          rw [fb_addI (by rw [eq1, em]; omega) (by rw [eq1, em]; omega), eq1, em]
        have ec : (if zc < zq * nI y + (if zp * nI lo < zp * nI hi then zp * nI hi else zp * nI lo) then zq * nI y + (if zp * nI lo < zp * nI hi then zp * nI hi else zp * nI lo) else zc).toInt = max C (q * (y : Int) + max (p * (lo : Int)) (p * (hi : Int))) := by
          by_cases h9 : zc < zq * nI y + (if zp * nI lo < zp * nI hi then zp * nI hi else zp * nI lo)
          · rw [if_pos h9, es]; rw [i_lt, hzc, es] at h9; omega
          · rw [if_neg h9, hzc]; rw [i_lt, hzc, es] at h9; omega
        refine fin _ D2 _ zd2 ⟨?_, ?_, fun k hk hk2 => ?_, ?_⟩ hD2 ec hzd2
        · have := hC.1; omega
        · have := hC.2.1; omega
        · rcases Nat.lt_or_ge k (16 * y) with h9 | h9
          · have := hC.2.2.1 k h9 hk2; omega
          · have e9 : k = 16 * y + (k - 16 * y) := by omega
            have h10 := h8 (k - 16 * y) (by omega) (by rw [← e9]; exact hk2)
            have h11 := (mul_mid (p := p) h10.1 h10.2).2
            rw [e9, pvl_rc p q (by omega)]; omega
        · rcases Int.le_total (q * (y : Int) + max (p * (lo : Int)) (p * (hi : Int))) C with h9 | h9
          · rw [show max C (q * (y : Int) + max (p * (lo : Int)) (p * (hi : Int))) = C by omega]; exact hC.2.2.2
          · rw [show max C (q * (y : Int) + max (p * (lo : Int)) (p * (hi : Int))) = q * (y : Int) + max (p * (lo : Int)) (p * (hi : Int)) by omega]
            right
            rcases Int.le_total (p * (lo : Int)) (p * (hi : Int)) with h10 | h10
            · exact ⟨16 * y + hi, by omega, h7, by rw [pvl_rc p q h3]; omega⟩
            · exact ⟨16 * y + lo, by omega, h6, by rw [pvl_rc p q h2]; omega⟩
    rcases row_ends hB hy16 s with ⟨h1, h2⟩ | ⟨h1, lo, hi, h2, h3, h4, h5, h6, h7, h8⟩
    · refine ok_t h1 (mid D zd ⟨hD.1, hD.2.1, fun k hk hk2 => ?_, hD.2.2.2⟩ hzd)
      rcases Nat.lt_or_ge k (16 * y) with h9 | h9
      · exact hD.2.2.1 k h9 hk2
      · have := h2 (k - 16 * y) (by omega)
        rw [show 16 * y + (k - 16 * y) = k by omega, hk2] at this; cases this
    · refine ok_f h1 (ok_bind (ok_eq h4 (ok_bind (ok_eq h5 (ok_lt ?_)))))
      have el : (zp * nI lo).toInt = p * (lo : Int) := i_mulN hp p1 p2 h2
      have eh : (zp * nI hi).toInt = p * (hi : Int) := i_mulN hp p1 p2 h3
      have bl := mul_bd p1 p2 h2
      have bh := mul_bd p1 p2 h3
      have em : (if zp * nI hi < zp * nI lo then zp * nI hi else zp * nI lo).toInt = min (p * (lo : Int)) (p * (hi : Int)) := by
        by_cases h9 : zp * nI hi < zp * nI lo
        · rw [if_pos h9, eh]; rw [i_lt, el, eh] at h9; omega
        · rw [if_neg h9, el]; rw [i_lt, el, eh] at h9; omega
      have es : (zq * nI y + (if zp * nI hi < zp * nI lo then zp * nI hi else zp * nI lo)).toInt = q * (y : Int) + min (p * (lo : Int)) (p * (hi : Int)) := by
        rw [fb_addI (by rw [eq1, em]; omega) (by rw [eq1, em]; omega), eq1, em]
      have ec : (if zq * nI y + (if zp * nI hi < zp * nI lo then zp * nI hi else zp * nI lo) < zd then zq * nI y + (if zp * nI hi < zp * nI lo then zp * nI hi else zp * nI lo) else zd).toInt = min D (q * (y : Int) + min (p * (lo : Int)) (p * (hi : Int))) := by
        by_cases h9 : zq * nI y + (if zp * nI hi < zp * nI lo then zp * nI hi else zp * nI lo) < zd
        · rw [if_pos h9, es]; rw [i_lt, hzd, es] at h9; omega
        · rw [if_neg h9, hzd]; rw [i_lt, hzd, es] at h9; omega
      refine mid _ _ ⟨?_, ?_, fun k hk hk2 => ?_, ?_⟩ ec
      · have := hD.1; omega
      · have := hD.2.1; omega
      · rcases Nat.lt_or_ge k (16 * y) with h9 | h9
        · have := hD.2.2.1 k h9 hk2; omega
        · have e9 : k = 16 * y + (k - 16 * y) := by omega
          have h10 := h8 (k - 16 * y) (by omega) (by rw [← e9]; exact hk2)
          have h11 := (mul_mid (p := p) h10.1 h10.2).1
          rw [e9, pvl_rc p q (by omega)]; omega
      · rcases Int.le_total D (q * (y : Int) + min (p * (lo : Int)) (p * (hi : Int))) with h9 | h9
        · rw [show min D (q * (y : Int) + min (p * (lo : Int)) (p * (hi : Int))) = D by omega]; exact hD.2.2.2
        · rw [show min D (q * (y : Int) + min (p * (lo : Int)) (p * (hi : Int))) = q * (y : Int) + min (p * (lo : Int)) (p * (hi : Int)) by omega]
          right
          rcases Int.le_total (p * (lo : Int)) (p * (hi : Int)) with h10 | h10
          · exact ⟨16 * y + lo, by omega, h6, by rw [pvl_rc p q h2]; omega⟩
          · exact ⟨16 * y + hi, by omega, h7, by rw [pvl_rc p q h3]; omega⟩
theorem fos_ex {n a b d : Nat} {v : Wd} (hn : n ≤ 16) (ha : a ≤ 4) (hb : b ≤ 4) (hd : d ≤ 1) (hv : fds (fl a b d) (n, n, 0) = some v) : ∃ s, FoS s 47 48 49 n (fl a b d) (slb 0) v := by
  have : Ok (f_Fit_fold (nI n) (nI a) (nI b) (nI d) st00) (fun q => FoS q.2 47 48 49 n (fl a b d) (slb 0) v) := x_ffold_ok hn ha hb hd (fun h => by rw [hv] at h; cases h) (fun v2 hv2 s2 _ hS => by rw [hv] at hv2; cases hv2; exact hS)
  obtain ⟨q, _, h⟩ := this
  exact ⟨q.2, h⟩
theorem tot2_pos {q : Nat → Nat → Bool} {n : Nat} (h : 0 < tot2 q n) : ∃ x y, x < n ∧ y < n ∧ q x y = true := by
  refine Classical.byContradiction (fun hn => ?_)
  have e : tot2 q n = fb_sm (fun _ => 0) n := fb_sm_cong (fun y hy => fb_ct_zero.mpr (fun x hx => by
    cases hq : q x y with
    | false => rfl
    | true => exact absurd ⟨x, y, hx, hy, hq⟩ hn))
  rw [e, fb_sm_const] at h
  omega
/-- the places are just those that cells come to -/
theorem kn_isP {n a b d : Nat} {v : Wd} (hn : n ≤ 16) (ha : a ≤ 4) (hb : b ≤ 4) (hd : d ≤ 1) (hvv : fds (fl a b d) (n, n, 0) = some v) {k : Nat} (hk : k < 256) : kn (fl a b d) n 256 k ↔ isP v (k % 16) (k / 16) = true := by
  constructor
  · rintro ⟨e, h1, h2, h3⟩
    obtain ⟨s, hS⟩ := fos_ex hn ha hb hd hvv
    exact (plO_lt hS h2.2.1 h2.2.2 h3).2
  · intro h
    have hp : 0 < tot2 (onP (fl a b d) n (16 * (k / 16) + k % 16)) n := by
      rw [onP_ct hn fl_mem hvv h]
      unfold layN
      have := Nat.two_pow_pos (hv (fl a b d))
      split
      · exact this
      · split
        · exact this
        · exact Nat.mul_pos (by decide) this
    obtain ⟨x, y, hx, hy, hq⟩ := tot2_pos hp
    unfold onP at hq
    rw [decide_eq_true_eq, show 16 * (k / 16) + k % 16 = k by omega] at hq
    exact ⟨16 * y + x, by omega, ⟨by omega, by omega, by omega⟩, by unfold plc; rw [show (16 * y + x) % 16 = x by omega, show (16 * y + x) / 16 = y by omega]; exact hq⟩
theorem ba_kn {l : List Nat} {n : Nat} {w : Nat → Bool} {c k : Nat} (h : ba l n w c k) : kn l n c k := by
  obtain ⟨e, h1, h2, h3, _⟩ := h
  exact ⟨e, h1, h2, h3⟩
theorem plc_lt {n a b d : Nat} {v : Wd} (hn : n ≤ 16) (ha : a ≤ 4) (hb : b ≤ 4) (hd : d ≤ 1) (hv : fds (fl a b d) (n, n, 0) = some v) {k : Nat} (h : kn (fl a b d) n 256 k) : k < 256 := by
  obtain ⟨e, h1, h2, h3⟩ := h
  obtain ⟨s, hS⟩ := fos_ex hn ha hb hd hv
  exact (plO_lt hS h2.2.1 h2.2.2 h3).1
theorem x_lineAbove_ok {s : Mm} {n a b d : Nat} {v : Wd} {w : Nat → Bool} {zp zq : Int32} {p q : Int} {P : Int32 × Mm → Prop} (hn : n ≤ 16) (ha : a ≤ 4) (hb : b ≤ 4) (hd : d ≤ 1) (hS : FoS s 47 48 49 n (fl a b d) (slb 0) v) (hB : Rw (s.1 50) (baB (fl a b d) n w 256)) (hK : Rw (s.1 51) (knB (fl a b d) n 256)) (hp : zp.toInt = p) (hq : zq.toInt = q) (p1 : -3 ≤ p) (p2 : p ≤ 3) (q1 : -3 ≤ q) (q2 : q ≤ 3) (h00 : ¬ (p = 0 ∧ q = 0))
    (hno : (∀ c, -60 ≤ c → c ≤ 60 → ¬ strt v (baB (fl a b d) n w 256) p q c) → P (-1000, s)) (hyes : ∀ (zc : Int32), -60 ≤ zc.toInt → zc.toInt ≤ 60 → strt v (baB (fl a b d) n w 256) p q zc.toInt → (∀ c, -60 ≤ c → c < zc.toInt → ¬ strt v (baB (fl a b d) n w 256) p q c) → P (zc, s)) : Ok (f_Fit_lineAbove zp zq s) P := by
  have hv := hS.2.2.2.2.2.1
  obtain ⟨B, hBe⟩ : ∃ B, B = baB (fl a b d) n w 256 := ⟨_, rfl⟩
  rw [← hBe] at hB hno hyes
  obtain ⟨W, hWe⟩ : ∃ W : Nat → Bool, W = fun k => knB (fl a b d) n 256 k && !B k := ⟨_, rfl⟩
  have hbk : ∀ k, B k = true → knB (fl a b d) n 256 k = true := fun k h => by rw [hBe] at h; exact knB_iff.mpr (ba_kn (baB_iff.mp h))
  have hK2 : Rw (s.1 51) (fun k => W k || B k) := hK.cg2 (fun k _ => by
    rw [hWe]
    simp only
    have := hbk k
    cases h1 : B k <;> cases h2 : knB (fl a b d) n 256 k <;> simp_all)
  have hWB : ∀ k, ¬ (W k = true ∧ B k = true) := fun k h => by
    rw [hWe] at h
    simp only at h
    rw [h.2] at h
    simp at h
  have hPW : ∀ k, k < 256 → isP v (k % 16) (k / 16) = true → (W k = true ∨ B k = true) := fun k hk h => by
    have h1 := knB_iff.mpr ((kn_isP hn ha hb hd hv hk).mpr h)
    rw [hWe]
    simp only
    cases h2 : B k
    · left; rw [h1]; rfl
    · right; rfl
  have hWP : ∀ k, W k = true → k < 256 ∧ isP v (k % 16) (k / 16) = true := fun k h => by
    rw [hWe] at h
    simp only [Bool.and_eq_true] at h
    have h1 := knB_iff.mp h.1
    have h2 := plc_lt hn ha hb hd hv h1
    exact ⟨h2, (kn_isP hn ha hb hd hv h2).mp h1⟩
  have hBP : ∀ k, B k = true → k < 256 ∧ isP v (k % 16) (k / 16) = true := fun k h => by
    have h1 := knB_iff.mp (hbk k h)
    have h2 := plc_lt hn ha hb hd hv h1
    exact ⟨h2, (kn_isP hn ha hb hd hv h2).mp h1⟩
  have rowlt : ∀ k, isP v (k % 16) (k / 16) = true → k < 16 * v.2.1 := fun k h => by
    unfold isP at h
    simp only [Bool.and_eq_true, decide_eq_true_eq] at h
    omega
  have main : Ok (f_Fit_lineAbove_22 1000000 zp zq (-60 : Int32) (61 : Int32) (0 : Int32) s) P := by
    refine x_line_loop (p := p) (q := q) (W := W) (B := B) hS hB hK2 hWB hp hq p1 p2 q1 q2 (fun C D y hy hC hD hDC => hno (fun c c1 c2 hs => ?_)) (fun C D zc hC hD hlt hzc => ?_) v.2.1 0 1000000 (-60) 61 (-60) 61 (by omega) (by have := hS.b; omega) ⟨by omega, by omega, fun k hk => by omega, Or.inl rfl⟩ ⟨by omega, by omega, fun k hk => by omega, Or.inl rfl⟩ (by decide) (by decide) (by omega)
    · have e1 : C ≤ c := by
        rcases hC.2.2.2 with h | ⟨k, h1, h2, h3⟩
        · omega
        · have h4 := hs k h1 (hWP k h2).2
          have h5 : ¬ B k = true := fun h => hWB k ⟨h2, h⟩
          rw [← h3]
          refine Int.not_lt.mp (fun h6 => h5 (h4.mpr h6))
      have e2 : c < D := by
        rcases hD.2.2.2 with h | ⟨k, h1, h2, h3⟩
        · omega
        · rw [← h3]; exact (hs k h1 (hBP k h2).2).mp h2
      omega
    · have hC1 := hC.1
      have hD1 := hD.1
      refine hyes zc (by omega) (by omega) (fun k hk hkP => ?_) (fun c c1 c2 hs => ?_)
      · rw [hzc]
        constructor
        · intro h
          have := hD.2.2.1 k (rowlt k hkP) h
          omega
        · intro h
          rcases hPW k hk hkP with h1 | h1
          · have := hC.2.2.1 k (rowlt k hkP) h1
            omega
          · exact h1
      · rcases hC.2.2.2 with h | ⟨k, h1, h2, h3⟩
        · omega
        · have h4 := hs k h1 (hWP k h2).2
          have h5 : ¬ B k = true := fun h => hWB k ⟨h2, h⟩
          exact h5 (h4.mpr (by omega))
  unfold f_Fit_lineAbove
  refine ok_if (fun c1 => ok_if (fun c2 => ?_) (fun _ => main)) (fun _ => main)
  exact absurd ⟨by rw [← hp, c1]; rfl, by rw [← hq, c2]; rfl⟩ h00
/-! the reference's -/
theorem m_isStraight_eq {s : Mm} {v : Wd} {B : Nat → Bool} {zp zq zc : Int32} {p q c : Int} (hW : mW s v) (h1 : v.1 ≤ 16) (h2 : v.2.1 ≤ 16) (h3 : v.2.2 ≤ 1) (hB : ∀ k, k < 256 → s.1 78 k = bI (B k)) (hp : zp.toInt = p) (hq : zq.toInt = q) (hc : zc.toInt = c) (p1 : -3 ≤ p) (p2 : p ≤ 3) (q1 : -3 ≤ q) (q2 : q ≤ 3) :
    (strt v B p q c ∧ f_m_isStraight zp zq zc s = some (1, s)) ∨ (¬ strt v B p q c ∧ f_m_isStraight zp zq zc s = some (0, s)) := by
  have key : ∀ r i m, i + r = 256 → r + 1 ≤ m → (∀ k, k < i → isP v (k % 16) (k / 16) = true → (B k = true ↔ c < pvl p q k)) → (strt v B p q c ∧ f_m_isStraight_3 m zp zq zc (nI i) s = some (1, s)) ∨ (¬ strt v B p q c ∧ f_m_isStraight_3 m zp zq zc (nI i) s = some (0, s)) := by
    intro r
    induction r with
    | zero =>
      intro i m hi hm hk
      obtain ⟨m, rfl⟩ := nat_suc (show 0 + 1 ≤ m by omega)
      have e : i = 256 := by omega
      subst e
      refine Or.inl ⟨hk, ?_⟩
      show b_m_isStraight_3 (f_m_isStraight_3 m) zp zq zc (nI 256) s = _
      unfold b_m_isStraight_3
      rw [if_pos (by decide)]
    | succ r ih =>
      intro i m hi hm hk
      obtain ⟨m, rfl⟩ := nat_suc (show 0 + 1 ≤ m by omega)
      have e0 : f_m_isStraight_3 (m + 1) zp zq zc (nI i) s = b_m_isStraight_3 (f_m_isStraight_3 m) zp zq zc (nI i) s := rfl
      rw [e0]
      unfold b_m_isStraight_3
      rw [if_neg (n256 (show i < 256 by omega)), r16 (by omega), d16 (by omega), m_isPlace_eq hW h1 h2 h3 (by omega) (by omega)]
      simp only [Option.bind_some, lt_eq]
      cases hP : isP v (i % 16) (i / 16) with
      | false =>
        rw [if_pos (show bI false = 0 from rfl), nI_1]
        refine ih (i + 1) m (by omega) (by omega) (fun k hk2 hk3 => ?_)
        rcases Nat.lt_or_ge k i with h | h
        · exact hk k h hk3
        · rw [show k = i by omega, hP] at hk3; cases hk3
      | true =>
        rw [if_neg nbt, if_pos (inb_nI (show i < 256 by omega) (by omega)), cl_nI (by omega), hB i (by omega)]
        have em : (zp * nI (i % 16) + zq * nI (i / 16)).toInt = pvl p q i := by
          have a1 := mul_bd p1 p2 (show i % 16 < 16 by omega)
          have a2 := mul_bd q1 q2 (show i / 16 < 16 by omega)
          rw [fb_addI (by rw [i_mulN hp p1 p2 (by omega), i_mulN hq q1 q2 (by omega)]; omega) (by rw [i_mulN hp p1 p2 (by omega), i_mulN hq q1 q2 (by omega)]; omega), i_mulN hp p1 p2 (by omega), i_mulN hq q1 q2 (by omega)]
          rfl
        have step : (B i = true ↔ c < pvl p q i) → ((strt v B p q c ∧ f_m_isStraight_3 m zp zq zc (nI (i + 1)) s = some (1, s)) ∨ (¬ strt v B p q c ∧ f_m_isStraight_3 m zp zq zc (nI (i + 1)) s = some (0, s))) := fun hB2 => ih (i + 1) m (by omega) (by omega) (fun k hk2 hk3 => by
          rcases Nat.lt_or_ge k i with h | h
          · exact hk k h hk3
          · rw [show k = i by omega]; exact hB2)
        have stop : ¬ (B i = true ↔ c < pvl p q i) → ¬ strt v B p q c := fun h hs => h (hs i (by omega) hP)
        by_cases hle : zp * nI (i % 16) + zq * nI (i / 16) ≤ zc
        · rw [if_pos hle]
          rw [i_le, em, hc] at hle
          unfold b_m_isStraight_59
          cases hBi : B i with
          | false =>
            rw [if_pos (show bI false = 0 from rfl), lt_eq, nI_1]
            exact step (by rw [hBi]; exact ⟨fun h => (by cases h), fun h => by omega⟩)
          | true =>
            rw [if_neg (by decide)]
            refine Or.inr ⟨stop (fun h => ?_), rfl⟩
            have := h.mp hBi; omega
        · rw [if_neg hle]
          rw [i_le, em, hc] at hle
          unfold b_m_isStraight_59
          cases hBi : B i with
          | false =>
            rw [if_neg (by decide)]
            refine Or.inr ⟨stop (fun h => ?_), rfl⟩
            have := h.mpr (by omega); rw [hBi] at this; cases this
          | true =>
            rw [if_pos (show bI true = 1 from rfl), lt_eq, nI_1]
            exact step (by rw [hBi]; exact ⟨fun _ => by omega, fun _ => rfl⟩)
  exact key 256 0 1000000 (by omega) (by omega) (fun k hk => by omega)
/-! the search -/
def pI (i : Nat) : Int32 := nI i - 3
theorem pI_T {i : Nat} (h : i < 1000) : (pI i).toInt = (i : Int) - 3 := pk_sub_toInt (b := 3) (by omega) (by omega)
theorem pI_1 (i : Nat) (h : i < 900) : pI i + 1 = pI (i + 1) := by
  have e1 : (1 : Int32).toInt = 1 := rfl
  have e2 : (pI i).toInt = (i : Int) - 3 := pI_T (by omega)
  have e3 : (pI (i + 1)).toInt = ((i + 1 : Nat) : Int) - 3 := pI_T (by omega)
  rw [i_eq, fb_addI (by rw [e2, e1]; omega) (by rw [e2, e1]; omega), e1, e2, e3]
  omega
def stG (v : Wd) (B : Nat → Bool) (t : Nat) : Prop := ¬ (((t / 847 : Nat) : Int) - 3 = 0 ∧ ((t / 121 % 7 : Nat) : Int) - 3 = 0) ∧ strt v B (((t / 847 : Nat) : Int) - 3) (((t / 121 % 7 : Nat) : Int) - 3) (((t % 121 : Nat) : Int) - 60)
def stAns (k t : Nat) : Int32 := if k = 0 then pI (t / 847) else if k = 1 then pI (t / 121 % 7) else nI (t % 121) - 60
theorem x_straight_loop {s : Mm} {n a b d k : Nat} {v : Wd} {w : Nat → Bool} {P : Int32 × Mm → Prop} (hn : n ≤ 16) (ha : a ≤ 4) (hb : b ≤ 4) (hd : d ≤ 1) (hk : k ≤ 2) (hS : FoS s 47 48 49 n (fl a b d) (slb 0) v) (hB : Rw (s.1 50) (baB (fl a b d) n w 256)) (hK : Rw (s.1 51) (knB (fl a b d) n 256))
    (hno : (∀ t, t < 5929 → ¬ stG v (baB (fl a b d) n w 256) t) → P (-1000, s)) (hyes : ∀ t, t < 5929 → stG v (baB (fl a b d) n w 256) t → (∀ u, u < t → ¬ stG v (baB (fl a b d) n w 256) u) → P (stAns k t, s)) :
    ∀ r i m, i + r = 7 → r + 1 ≤ m → (∀ u, u < 847 * i → ¬ stG v (baB (fl a b d) n w 256) u) → Ok (f_x_straight_86 m (nI k) (pI i) s) P := by
  have e3 : (3 : Int32).toInt = 3 := rfl
  have inner : ∀ (kk : Int32 → Int32 → Mm → Option (Int32 × Mm)) (i : Nat), i < 7 → (∀ u, u < 847 * i → ¬ stG v (baB (fl a b d) n w 256) u) → ((∀ u, u < 847 * (i + 1) → ¬ stG v (baB (fl a b d) n w 256) u) → Ok (kk (nI k) (pI (i + 1)) s) P) → ∀ r j m, j + r = 7 → r + 1 ≤ m → (∀ u, u < 121 * (7 * i + j) → ¬ stG v (baB (fl a b d) n w 256) u) → Ok (f_x_straight_96 kk m (nI k) (pI i) (pI j) s) P := by
    intro kk i hi hi0 hkk r
    induction r with
    | zero =>
      intro j m hj hm hu
      obtain ⟨m, rfl⟩ := nat_suc (show 0 + 1 ≤ m by omega)
      have e : j = 7 := by omega
      subst e
      show Ok (b_x_straight_96 kk (f_x_straight_96 kk m) (nI k) (pI i) (pI 7) s) P
      unfold b_x_straight_96 b_x_straight_153
      refine ok_t (by decide) (ok_lt ?_)
      rw [pI_1 i (by omega)]
      exact hkk (fun u hu2 => hu u (by omega))
    | succ r ih =>
      intro j m hj hm hu
      obtain ⟨m, rfl⟩ := nat_suc (show 0 + 1 ≤ m by omega)
      show Ok (b_x_straight_96 kk (f_x_straight_96 kk m) (nI k) (pI i) (pI j) s) P
      unfold b_x_straight_96
      refine ok_f (by rw [i_lt, e3, pI_T (by omega)]; omega) ?_
      have next : (∀ u, 121 * (7 * i + j) ≤ u → u < 121 * (7 * i + j) + 121 → ¬ stG v (baB (fl a b d) n w 256) u) → Ok (f_x_straight_96 kk m (nI k) (pI i) (pI j + 1) s) P := fun hnew => by
        rw [pI_1 j (by omega)]
        refine ih (j + 1) m (by omega) (by omega) (fun u hu2 => ?_)
        rcases Nat.lt_or_ge u (121 * (7 * i + j)) with h | h
        · exact hu u h
        · exact hnew u h (by omega)
      by_cases h00 : (i : Int) - 3 = 0 ∧ (j : Int) - 3 = 0
      · have hz : f_Fit_lineAbove (pI i) (pI j) s = some (-1000, s) := by
          rw [show i = 3 by omega, show j = 3 by omega]
          unfold f_Fit_lineAbove
          rw [if_pos (by decide), if_pos (by decide)]
        refine ok_bind (ok_eq hz (ok_t rfl (ok_lt (next (fun u h1 h2 hG => ?_)))))
        refine hG.1 ⟨?_, ?_⟩
        · rw [show u / 847 = i by omega]; exact h00.1
        · rw [show u / 121 % 7 = j by omega]; exact h00.2
      · refine ok_bind (x_lineAbove_ok hn ha hb hd hS hB hK (pI_T (i := i) (by omega)) (pI_T (i := j) (by omega)) (by omega) (by omega) (by omega) (by omega) h00 (fun h => ok_t rfl (ok_lt (next (fun u h1 h2 hG => ?_)))) (fun zc c1 c2 c3 c4 => ok_f ?_ ?_))
        · have hG := hG.2
          rw [show u / 847 = i by omega, show u / 121 % 7 = j by omega] at hG
          exact h _ (by omega) (by omega) hG
        · intro e
          have e : zc = -1000 := e
          rw [e] at c1
          exact absurd c1 (by decide)
        · obtain ⟨c, hc⟩ : ∃ c : Nat, (c : Int) = zc.toInt + 60 := ⟨(zc.toInt + 60).toNat, by omega⟩
          have hcl : c ≤ 120 := by omega
          have t1 : (121 * (7 * i + j) + c) / 847 = i := by omega
          have t2 : (121 * (7 * i + j) + c) / 121 % 7 = j := by omega
          have t3 : (121 * (7 * i + j) + c) % 121 = c := by omega
          have hyes2 := hyes (121 * (7 * i + j) + c) (by omega) ⟨by rw [t1, t2]; exact h00, by rw [t1, t2, t3, show (c : Int) - 60 = zc.toInt by omega]; exact c3⟩ (fun u hu2 hG => by
            rcases Nat.lt_or_ge u (121 * (7 * i + j)) with h | h
            · exact hu u h hG
            · have hG := hG.2
              rw [show u / 847 = i by omega, show u / 121 % 7 = j by omega] at hG
              exact c4 _ (by omega) (by omega) hG)
          have ez : zc = nI ((121 * (7 * i + j) + c) % 121) - 60 := by
            rw [t3, i_eq, show (60 : Int32) = nI 60 from rfl, pk_sub_toInt (by omega) (by omega)]
            omega
          unfold stAns at hyes2
          rw [t1, t2, ← ez] at hyes2
          unfold b_x_straight_123
          refine okc_eq k 0 (fun h => ok_some ?_) (fun h0 => okc_eq k 1 (fun h => ok_some ?_) (fun h1 => ok_some ?_))
          · rw [if_pos h] at hyes2; exact hyes2
          · rw [if_neg h0, if_pos h] at hyes2; exact hyes2
          · rw [if_neg h0, if_neg h1] at hyes2; exact hyes2
  intro r
  induction r with
  | zero =>
    intro i m hi hm hu
    obtain ⟨m, rfl⟩ := nat_suc (show 0 + 1 ≤ m by omega)
    have e : i = 7 := by omega
    subst e
    show Ok (b_x_straight_86 (f_x_straight_86 m) (nI k) (pI 7) s) P
    unfold b_x_straight_86
    exact ok_t (by decide) (ok_some (hno (fun t ht => hu t (by omega))))
  | succ r ih =>
    intro i m hi hm hu
    obtain ⟨m, rfl⟩ := nat_suc (show 0 + 1 ≤ m by omega)
    show Ok (b_x_straight_86 (f_x_straight_86 m) (nI k) (pI i) s) P
    unfold b_x_straight_86
    refine ok_f (by rw [i_lt, e3, pI_T (by omega)]; omega) ?_
    exact inner (f_x_straight_86 m) i (by omega) hu (fun h => ih (i + 1) m (by omega) (by omega) h) 7 0 1000000 (by omega) (by omega) (fun u hu2 => hu u (by omega))
theorem m_straight_loop {s : Mm} {k : Nat} {v : Wd} {B : Nat → Bool} {P : Int32 × Mm → Prop} (hk : k ≤ 2) (hW : mW s v) (h1 : v.1 ≤ 16) (h2 : v.2.1 ≤ 16) (h3 : v.2.2 ≤ 1) (hB : ∀ k, k < 256 → s.1 78 k = bI (B k))
    (hno : (∀ t, t < 5929 → ¬ stG v B t) → P (-1000, s)) (hyes : ∀ t, t < 5929 → stG v B t → (∀ u, u < t → ¬ stG v B u) → P (stAns k t, s)) :
    ∀ r t m, t + r = 5929 → r + 1 ≤ m → (∀ u, u < t → ¬ stG v B u) → Ok (f_m_straight_59 m (nI k) (nI t) s) P := by
  intro r
  induction r with
  | zero =>
    intro t m ht hm hu
    obtain ⟨m, rfl⟩ := nat_suc (show 0 + 1 ≤ m by omega)
    have e : t = 5929 := by omega
    subst e
    show Ok (b_m_straight_59 (f_m_straight_59 m) (nI k) (nI 5929) s) P
    unfold b_m_straight_59
    exact ok_t (by decide) (ok_some (hno hu))
  | succ r ih =>
    intro t m ht hm hu
    obtain ⟨m, rfl⟩ := nat_suc (show 0 + 1 ≤ m by omega)
    show Ok (b_m_straight_59 (f_m_straight_59 m) (nI k) (nI t) s) P
    unfold b_m_straight_59
    refine ok_f (show ¬ nI 5929 ≤ nI t from nI_ge (by omega) (by omega)) ?_
    rw [show nI t / (847 : Int32) = nI (t / 847) from pk_div (d := 847) (by omega) (by omega) (by omega), show nI t - nI t / (121 : Int32) * (121 : Int32) = nI (t % 121) from pk_rem (d := 121) (by omega) (by omega) (by omega), show nI t / (121 : Int32) = nI (t / 121) from pk_div (d := 121) (by omega) (by omega) (by omega), show nI (t / 121) - nI (t / 121) / (7 : Int32) * (7 : Int32) = nI (t / 121 % 7) from pk_rem (d := 7) (by omega) (by omega) (by omega)]
    refine ok_lt (ok_lt (ok_lt ?_))
    have ep : (nI (t / 847) - (3 : Int32)).toInt = ((t / 847 : Nat) : Int) - 3 := pI_T (i := t / 847) (by omega)
    have eq : (nI (t / 121 % 7) - (3 : Int32)).toInt = ((t / 121 % 7 : Nat) : Int) - 3 := pI_T (i := t / 121 % 7) (by omega)
    have ec : (nI (t % 121) - (60 : Int32)).toInt = ((t % 121 : Nat) : Int) - 60 := pk_sub_toInt (b := 60) (by omega) (by omega)
    have next : ¬ stG v B t → Ok (lt_ (nI t + (1 : Int32)) (fun a3 => f_m_straight_59 m (nI k) a3 s)) P := fun hG => by
      refine ok_lt ?_
      rw [nI_1]
      refine ih (t + 1) m (by omega) (by omega) (fun u hu2 => ?_)
      rcases Nat.lt_or_ge u t with h | h
      · exact hu u h
      · rw [show u = t by omega]; exact hG
    have go : ¬ (((t / 847 : Nat) : Int) - 3 = 0 ∧ ((t / 121 % 7 : Nat) : Int) - 3 = 0) → Ok (b_m_straight_109 (f_m_straight_59 m) (nI k) (nI t) (nI (t / 847) - (3 : Int32)) (nI (t / 121 % 7) - (3 : Int32)) (nI (t % 121) - (60 : Int32)) s) P := fun h00 => by
      unfold b_m_straight_109
      rcases m_isStraight_eq hW h1 h2 h3 hB ep eq ec (by omega) (by omega) (by omega) (by omega) with ⟨hs, he⟩ | ⟨hs, he⟩
      · refine ok_bind (ok_eq he (ok_f ne10 ?_))
        have hyes2 := hyes t (by omega) ⟨h00, hs⟩ hu
        unfold stAns at hyes2
        unfold b_m_straight_125
        refine okc_eq k 0 (fun h => ok_some ?_) (fun h0 => okc_eq k 1 (fun h => ok_some ?_) (fun h1 => ok_some ?_))
        · rw [if_pos h] at hyes2; exact hyes2
        · rw [if_neg h0, if_pos h] at hyes2; exact hyes2
        · rw [if_neg h0, if_neg h1] at hyes2; exact hyes2
      · exact ok_bind (ok_eq he (ok_t rfl (next (fun hG => hs hG.2))))
    have z0 : ∀ x : Int32, (x = 0 ↔ x.toInt = 0) := fun x => by rw [i_eq, i_z]
    refine ok_if (fun c1 => ok_if (fun c2 => next (fun hG => hG.1 ⟨?_, ?_⟩)) (fun c2 => go (fun h => c2 ?_))) (fun c1 => go (fun h => c1 ?_))
    · rw [← ep]; exact (z0 _).mp c1
    · rw [← eq]; exact (z0 _).mp c2
    · rw [z0, eq]; exact h.2
    · rw [z0, ep]; exact h.1
theorem st_straight (a0 a1 a2 a3 : Int32) : Step1 Inv (f_x_straight a0 a1 a2 a3) (f_m_straight a0 a1 a2 a3) := step_q (fun A hA => by
  have hn := hA.1.2.1
  obtain ⟨w, hw⟩ : ∃ w, w = A.1.2.2.2.2.2.1 := ⟨_, rfl⟩
  obtain ⟨n, hn0⟩ : ∃ n, n = A.1.1 := ⟨_, rfl⟩
  rw [← hn0] at hn
  have wX : ∀ st s2 : Mm, InvX A st → (∀ y, s2.1 4 y = st.1 4 y) → Rw (s2.1 4) w := fun st s2 hI h => by rw [hw]; exact hI.w h
  have wM : ∀ st s2 : Mm, InvM A st → (∀ y, s2.1 60 y = st.1 60 y) → Rw (s2.1 60) w := fun st s2 hI h => by rw [hw]; exact hI.w h
  rcases in_cases a3 0 2 with hc | ⟨k, _, hk, _, rfl, hc⟩
  · refine ⟨-1000, xok_fr [] rfl (fun st hI => ?_), mok_fr [] rfl (fun st hI => ?_)⟩
    · have h2 := of_decide_eq_false hc
      unfold f_x_straight
      refine ok_if (fun _ => ok_some ⟨rfl, Fr.rf⟩) (fun c1 => ok_if (fun _ => ok_some ⟨rfl, Fr.rf⟩) (fun c2 => ?_))
      rw [i_lt, i_z] at c1
      rw [i_lt, show (2 : Int32).toInt = 2 from rfl] at c2
      omega
    · unfold f_m_straight
      refine ok_bind (ok_eq (m_in_eq a3 0 2 (by omega) (by omega) st) ?_)
      rw [hc]
      exact ok_t rfl (ok_some ⟨rfl, Fr.rf⟩)
  · have c2 : ¬ (2 : Int32) < nI k := show ¬ nI 2 < nI k by rw [nI_ltI (by omega) (by omega)]; omega
    rcases foA_cases a0 a1 a2 with hf | ⟨a, b, d, ha, hb, hd, rfl, rfl, rfl⟩
    · refine ⟨-1000, xok_fr [] rfl (fun st hI => ?_), mok_fr [] rfl (fun st hI => ?_)⟩
      · unfold f_x_straight
        exact ok_f (nI_pos (by omega)) (ok_f c2 (ok_bind (ok_eq (x_ffold_no hf st) (ok_t rfl (ok_some ⟨rfl, Fr.rf⟩)))))
      · unfold f_m_straight
        refine ok_bind (ok_eq (m_in_eq _ 0 2 (by omega) (by omega) st) ?_)
        rw [hc]
        exact ok_f nbt (ok_bind (ok_eq (m_foldsSo_no hf st) (ok_t rfl (ok_some ⟨rfl, Fr.rf⟩))))
    · cases hv : fds (fl a b d) (n, n, 0) with
      | none =>
        refine ⟨-1000, xok_fr LFt rfl (fun st hI => ?_), mok_fr LFm rfl (fun st hI => ?_)⟩
        · unfold f_x_straight
          rw [hI.1.1, ← hn0]
          exact ok_f (nI_pos (by omega)) (ok_f c2 (ok_bind (x_ffold_ok hn ha hb hd (fun _ s2 hF => ok_t rfl (ok_some ⟨rfl, LF3_ft hF⟩)) (fun v hv2 => by rw [hv] at hv2; cases hv2))))
        · unfold f_m_straight
          refine ok_bind (ok_eq (m_in_eq _ 0 2 (by omega) (by omega) st) ?_)
          rw [hc]
          exact ok_f nbt (ok_bind (m_foldsSo_ok (n := n) (by rw [hn0]; exact hI.1.1) hn ha hb hd (fun _ s2 hF => ok_t rfl (ok_some ⟨rfl, LFo_fm hF⟩)) (fun v hv2 => by rw [hv] at hv2; cases hv2)))
      | some v =>
        have hle := fds_le _ _ _ hv
        have hwh := fds_wh _ _ _ hv (Or.inl rfl)
        simp only at hle
        have hnp := nPl_lt (v := v) (by omega) (by omega)
        rcases unl_cases (fl a b d) n w with hu | ⟨c, hu1, hu2⟩
        · have hct := fb_ct_le (baB (fl a b d) n w 256) 256
          by_cases hz : fb_ct (baB (fl a b d) n w 256) 256 = 0 ∨ fb_ct (baB (fl a b d) n w 256) 256 = nPl v
          · refine ⟨-1000, xok_fr LFt rfl (fun st hI => ?_), mok_fr LFm rfl (fun st hI => ?_)⟩
            · unfold f_x_straight
              rw [hI.1.1, ← hn0]
              refine ok_f (nI_pos (by omega)) (ok_f c2 (ok_bind (x_ffold_ok hn ha hb hd (fun e => by rw [hv] at e; cases e) (fun v2 hv2 s2 hF hS => ok_f ne10 ?_))))
              rw [hv] at hv2; cases hv2
              refine ok_bind (x_match_ok hn hS (wX st s2 hI (fun y => hF _ y rfl)) (fun _ s3 hF3 hkk hbb hmm => ok_f ne10 ?_) (fun c2 h1 _ => absurd h1 (hu c2)))
              have hFF := (LF3_ft hF).tr (LMt_ft hF3)
              simp only
              rw [hmm]
              refine okc_eq _ 0 (fun _ => ok_some ⟨rfl, hFF⟩) (fun e0 => ok_bind (ok_eq (x_places_eq (hS.same (fun j => hF3 _ j rfl) (fun j => hF3 _ j rfl) (fun j => hF3 _ j rfl))) ?_)) rfl rfl (by omega)
              refine okc_eq _ (nPl v) (fun _ => ok_some ⟨rfl, hFF⟩) (fun e1 => ?_) rfl rfl (by omega) (by omega)
              rcases hz with h | h
              · exact absurd h e0
              · exact absurd h e1
            · unfold f_m_straight
              refine ok_bind (ok_eq (m_in_eq _ 0 2 (by omega) (by omega) st) ?_)
              rw [hc]
              refine ok_f nbt (ok_bind (m_foldsSo_ok (n := n) (by rw [hn0]; exact hI.1.1) hn ha hb hd (fun e => by rw [hv] at e; cases e) (fun v2 hv2 s2 hF hS => ok_f ne10 ?_)))
              rw [hv] at hv2; cases hv2
              refine ok_bind (m_firstUnlike_ok hS (wM st s2 hI (fun y => hF _ y (by simp [inL, LFo]))) (fun _ s3 hF3 hbb => ok_t rfl ?_) (fun c2 h1 _ => absurd h1 (hu c2)))
              have hFF := (LFo_fm hF).tr (LMu_fm hF3)
              have hS3 := hS.keep (b := s3) (hF3 _ _ rfl) (hF3 _ _ rfl) (hF3 _ _ rfl) (hF3 _ _ rfl) (hF3 _ _ rfl) (fun j => hF3 _ _ (by simp [inL, LMu]))
              have hpm := m_placeMany_eq hS3.w (by omega) (by omega) (by omega)
              rw [plc_ct (by omega) (by omega) (by omega) hwh] at hpm
              refine ok_bind (ok_eq (m_wantsCutMany_eq hbb) ?_)
              refine okc_eq _ 0 (fun _ => ok_some ⟨rfl, hFF⟩) (fun e0 => ok_bind (ok_eq hpm ?_)) rfl rfl (by omega)
              refine okc_eq _ (nPl v) (fun _ => ok_some ⟨rfl, hFF⟩) (fun e1 => ?_) rfl rfl (by omega) (by omega)
              rcases hz with h | h
              · exact absurd h e0
              · exact absurd h e1
          · have ans : ∃ r : Int32, (∀ (P : Int32 → Prop), ((∀ t, t < 5929 → ¬ stG v (baB (fl a b d) n w 256) t) → P (-1000)) → (∀ t, t < 5929 → stG v (baB (fl a b d) n w 256) t → (∀ u, u < t → ¬ stG v (baB (fl a b d) n w 256) u) → P (stAns k t)) → P r) ∧ ((∀ t, t < 5929 → ¬ stG v (baB (fl a b d) n w 256) t) → r = -1000) ∧ (∀ t, t < 5929 → stG v (baB (fl a b d) n w 256) t → (∀ u, u < t → ¬ stG v (baB (fl a b d) n w 256) u) → r = stAns k t) := by
              rcases Classical.em (∃ t, t < 5929 ∧ stG v (baB (fl a b d) n w 256) t) with ⟨t0, h0, h1⟩ | h
              · obtain ⟨t, ht, h2, h3⟩ := least_d (stG v (baB (fl a b d) n w 256)) t0 h1
                refine ⟨stAns k t, fun P _ h5 => h5 t (by omega) h2 h3, fun h => absurd h2 (h t (by omega)), fun t2 h4 h5 h6 => ?_⟩
                rw [show t2 = t from by
                  rcases Nat.lt_trichotomy t t2 with h | h | h
                  · exact absurd h2 (h6 t h)
                  · exact h.symm
                  · exact absurd h5 (h3 t2 h)]
              · exact ⟨-1000, fun P h4 _ => h4 (fun t ht hG => h ⟨t, ht, hG⟩), fun _ => rfl, fun t ht hG _ => absurd ⟨t, ht, hG⟩ h⟩
            obtain ⟨r, _, hr1, hr2⟩ := ans
            refine ⟨r, xok_fr LFt rfl (fun st hI => ?_), mok_fr LFm rfl (fun st hI => ?_)⟩
            · unfold f_x_straight
              rw [hI.1.1, ← hn0]
              refine ok_f (nI_pos (by omega)) (ok_f c2 (ok_bind (x_ffold_ok hn ha hb hd (fun e => by rw [hv] at e; cases e) (fun v2 hv2 s2 hF hS => ok_f ne10 ?_))))
              rw [hv] at hv2; cases hv2
              refine ok_bind (x_match_ok hn hS (wX st s2 hI (fun y => hF _ y rfl)) (fun _ s3 hF3 hkk hbb hmm => ok_f ne10 ?_) (fun c2 h1 _ => absurd h1 (hu c2)))
              have hFF := (LF3_ft hF).tr (LMt_ft hF3)
              have hS3 := hS.same (s2 := s3) (fun j => hF3 _ j rfl) (fun j => hF3 _ j rfl) (fun j => hF3 _ j rfl)
              simp only
              rw [hmm]
              refine okc_eq _ 0 (fun e0 => absurd (Or.inl e0) hz) (fun e0 => ok_bind (ok_eq (x_places_eq hS3) ?_)) rfl rfl (by omega)
              refine okc_eq _ (nPl v) (fun e1 => absurd (Or.inr e1) hz) (fun e1 => ?_) rfl rfl (by omega) (by omega)
              exact x_straight_loop hn ha hb hd hk hS3 hbb hkk (fun h => ⟨(hr1 h).symm, hFF⟩) (fun t h1 h2 h3 => ⟨(hr2 t h1 h2 h3).symm, hFF⟩) 7 0 1000000 (by omega) (by omega) (fun u hu => by omega)
            · unfold f_m_straight
              refine ok_bind (ok_eq (m_in_eq _ 0 2 (by omega) (by omega) st) ?_)
              rw [hc]
              refine ok_f nbt (ok_bind (m_foldsSo_ok (n := n) (by rw [hn0]; exact hI.1.1) hn ha hb hd (fun e => by rw [hv] at e; cases e) (fun v2 hv2 s2 hF hS => ok_f ne10 ?_)))
              rw [hv] at hv2; cases hv2
              refine ok_bind (m_firstUnlike_ok hS (wM st s2 hI (fun y => hF _ y (by simp [inL, LFo]))) (fun _ s3 hF3 hbb => ok_t rfl ?_) (fun c2 h1 _ => absurd h1 (hu c2)))
              have hFF := (LFo_fm hF).tr (LMu_fm hF3)
              have hS3 := hS.keep (b := s3) (hF3 _ _ rfl) (hF3 _ _ rfl) (hF3 _ _ rfl) (hF3 _ _ rfl) (hF3 _ _ rfl) (fun j => hF3 _ _ (by simp [inL, LMu]))
              have hpm := m_placeMany_eq hS3.w (by omega) (by omega) (by omega)
              rw [plc_ct (by omega) (by omega) (by omega) hwh] at hpm
              refine ok_bind (ok_eq (m_wantsCutMany_eq hbb) ?_)
              refine okc_eq _ 0 (fun e0 => absurd (Or.inl e0) hz) (fun e0 => ok_bind (ok_eq hpm ?_)) rfl rfl (by omega)
              refine okc_eq _ (nPl v) (fun e1 => absurd (Or.inr e1) hz) (fun e1 => ?_) rfl rfl (by omega) (by omega)
              exact m_straight_loop hk hS3.w (by omega) (by omega) (by omega) hbb (fun h => ⟨(hr1 h).symm, hFF⟩) (fun t h1 h2 h3 => ⟨(hr2 t h1 h2 h3).symm, hFF⟩) 5929 0 1000000 (by omega) (by omega) (fun u hu => by omega)
        · refine ⟨-1000, xok_fr LFt rfl (fun st hI => ?_), mok_fr LFm rfl (fun st hI => ?_)⟩
          · unfold f_x_straight
            rw [hI.1.1, ← hn0]
            refine ok_f (nI_pos (by omega)) (ok_f c2 (ok_bind (x_ffold_ok hn ha hb hd (fun e => by rw [hv] at e; cases e) (fun v2 hv2 s2 hF hS => ok_f ne10 ?_))))
            exact ok_bind (x_match_ok hn hS (wX st s2 hI (fun y => hF _ y rfl)) (fun h => absurd hu1 (h c)) (fun c2 h1 h2 s3 hF3 hc3 => ok_t rfl (ok_some ⟨rfl, (LF3_ft hF).tr (LMt_ft hF3)⟩)))
          · unfold f_m_straight
            refine ok_bind (ok_eq (m_in_eq _ 0 2 (by omega) (by omega) st) ?_)
            rw [hc]
            refine ok_f nbt (ok_bind (m_foldsSo_ok (n := n) (by rw [hn0]; exact hI.1.1) hn ha hb hd (fun e => by rw [hv] at e; cases e) (fun v2 hv2 s2 hF hS => ok_f ne10 ?_)))
            exact ok_bind (m_firstUnlike_ok hS (wM st s2 hI (fun y => hF _ y (by simp [inL, LFo]))) (fun h => absurd hu1 (h c)) (fun c2 h1 h2 s3 hF3 => ok_f (nI_nm1 (by have := h1.1.1; omega)) (ok_some ⟨rfl, (LFo_fm hF).tr (LMu_fm hF3)⟩))))
