/-! the lowest and the highest bit of a row -/
def lowB (k t : Nat) : Prop := k.testBit t = true ∧ ∀ j, j < t → k.testBit j = false
def higB (k t : Nat) : Prop := k.testBit t = true ∧ ∀ j, t < j → k.testBit j = false
theorem lowB_ex : ∀ m k, 0 < k → k < 2 ^ m → ∃ t, t < m ∧ lowB k t
  | 0, k, h, h2 => by simp at h2; omega
  | m + 1, k, h, h2 => by
    rcases Nat.mod_two_eq_zero_or_one k with e | e
    · obtain ⟨t, h3, h4, h5⟩ := lowB_ex m (k / 2) (by omega) (by rw [Nat.pow_succ] at h2; omega)
      refine ⟨t + 1, by omega, by rw [Nat.testBit_succ]; exact h4, fun j hj => ?_⟩
      cases j with
      | zero => rw [Nat.testBit_zero, e]; rfl
      | succ j => rw [Nat.testBit_succ]; exact h5 j (by omega)
    · exact ⟨0, by omega, by rw [Nat.testBit_zero, e]; rfl, fun j hj => by omega⟩
theorem higB_of {k t : Nat} (h1 : 2 ^ t ≤ k) (h2 : k < 2 ^ (t + 1)) : higB k t := by
  refine ⟨?_, fun j hj => ?_⟩
  · rw [Nat.testBit_eq_decide_div_mod_eq]
    have h3 : k / 2 ^ t = 1 := by
      have a : 1 ≤ k / 2 ^ t := (Nat.le_div_iff_mul_le (Nat.two_pow_pos t)).mpr (by omega)
      have b : k / 2 ^ t < 2 := (Nat.div_lt_iff_lt_mul (Nat.two_pow_pos t)).mpr (by rw [Nat.pow_succ] at h2; omega)
      omega
    rw [h3]; rfl
  · exact Nat.testBit_lt_two_pow (Nat.lt_of_lt_of_le h2 (Nat.pow_le_pow_right (by decide) (by omega)))
theorem low_pred {k t : Nat} (h : lowB k t) (i : Nat) : (k - 1).testBit i = if i < t then true else if i = t then false else k.testBit i := by
  have hk : 2 ^ t ≤ k := by
    rcases Nat.lt_or_ge k (2 ^ t) with h2 | h2
    · have := Nat.testBit_lt_two_pow h2; rw [h.1] at this; cases this
    · exact h2
  have h0 : k % 2 ^ t = 0 := by
    refine Nat.eq_of_testBit_eq (fun j => ?_)
    rw [Nat.testBit_mod_two_pow, Nat.zero_testBit]
    by_cases e : j < t
    · rw [h.2 j e]; simp
    · simp [e]
  have h1 : k / 2 ^ t % 2 = 1 := by
    have := h.1
    rw [Nat.testBit_eq_decide_div_mod_eq, decide_eq_true_eq] at this
    exact this
  have hp := Nat.two_pow_pos t
  have e1 : k = 2 ^ t * (k / 2 ^ t) := by have := Nat.div_add_mod k (2 ^ t); omega
  have e2 : k - 1 = 2 ^ t * (k / 2 ^ t - 1) + (2 ^ t - 1) := by
    have : 2 ^ t * (k / 2 ^ t) = 2 ^ t * (k / 2 ^ t - 1) + 2 ^ t := by
      have h3 : k / 2 ^ t = (k / 2 ^ t - 1) + 1 := (Nat.sub_add_cancel ((Nat.le_div_iff_mul_le hp).mpr (by omega))).symm
      calc 2 ^ t * (k / 2 ^ t) = 2 ^ t * ((k / 2 ^ t - 1) + 1) := by rw [← h3]
        _ = 2 ^ t * (k / 2 ^ t - 1) + 2 ^ t := by rw [Nat.mul_add, Nat.mul_one]
    omega
  rw [e2]
  by_cases hi : i < t
  · rw [if_pos hi, Nat.testBit_two_pow_mul_add _ (by omega), if_pos hi, Nat.testBit_two_pow_sub_one, decide_eq_true hi]
  · rw [if_neg hi, Nat.testBit_two_pow_mul_add _ (by omega), if_neg hi]
    by_cases hj : i = t
    · subst hj
      rw [if_pos rfl, Nat.sub_self, Nat.testBit_zero]
      have : (k / 2 ^ i - 1) % 2 = 0 := by omega
      rw [this]; rfl
    · rw [if_neg hj]
      obtain ⟨s, hs⟩ : ∃ s, i - t = s + 1 := ⟨i - t - 1, by omega⟩
      have h5 : k.testBit i = (k / 2 ^ t).testBit (i - t) := by
        rw [Nat.testBit_div_two_pow]; congr 1; omega
      rw [h5, hs, Nat.testBit_succ, Nat.testBit_succ]
      congr 1
      obtain ⟨D, hD⟩ : ∃ D, D = k / 2 ^ t := ⟨_, rfl⟩
      rw [← hD] at h1 ⊢
      clear e1 e2 h5 hD
      omega
theorem x_ntz_nI {k t : Nat} (h : lowB k t) (hk : k < 65536) (st : Mm) : f_Int_numberOfTrailingZeros (nI k) st = some (nI t, st) := by
  have ht : t < 16 := by
    rcases Nat.lt_or_ge t 16 with h2 | h2
    · exact h2
    · have := Nat.testBit_lt_two_pow (Nat.lt_of_lt_of_le hk (show 2 ^ 16 ≤ 2 ^ t from Nat.pow_le_pow_right (by decide) h2))
      rw [h.1] at this; cases this
  have hpos : 1 ≤ k := by
    rcases Nat.eq_zero_or_pos k with e | e
    · subst e; have := h.1; simp at this
    · exact e
  have hp : 2 ^ t ≤ 2 ^ 15 := Nat.pow_le_pow_right (by decide) (by omega)
  have e1 : (nI k ^^^ (-1 : Int32)) &&& (nI k - (1 : Int32)) = nI (2 ^ t - 1) := by
    refine b_ext (fun i hi => ?_)
    rw [b_and, b_xor, b_m1 i hi, show nI k - (1 : Int32) = nI (k - 1) from pk_sub (b := 1) hpos, bt_nI (by omega), bt_nI (by omega), bt_nI (by omega), low_pred h, Nat.testBit_two_pow_sub_one]
    by_cases h1 : i < t
    · rw [if_pos h1, h.2 i h1, decide_eq_true h1]; rfl
    · rw [if_neg h1, decide_eq_false h1]
      by_cases h2 : i = t
      · rw [if_pos h2]; cases k.testBit i <;> rfl
      · rw [if_neg h2]; cases k.testBit i <;> rfl
  unfold f_Int_numberOfTrailingZeros
  rw [e1]
  have : t = 0 ∨ t = 1 ∨ t = 2 ∨ t = 3 ∨ t = 4 ∨ t = 5 ∨ t = 6 ∨ t = 7 ∨ t = 8 ∨ t = 9 ∨ t = 10 ∨ t = 11 ∨ t = 12 ∨ t = 13 ∨ t = 14 ∨ t = 15 := by omega
  rcases this with rfl | rfl | rfl | rfl | rfl | rfl | rfl | rfl | rfl | rfl | rfl | rfl | rfl | rfl | rfl | rfl <;> rfl
theorem am1 (x : Int32) : x + (-1 : Int32) = x - 1 := by
  rw [Int32.sub_eq_add_neg]
theorem bI_inj {a b : Bool} (h : bI a = bI b) : a = b := by
  cases a <;> cases b <;> first | rfl | (exact absurd h (by decide))
/-! differs -/
theorem fstI_s (q : Nat → Bool) (r i : Nat) : fstI q (r + 1) i = if q i then nI i else fstI q r (i + 1) := rfl
theorem fstI_skip (q : Nat → Bool) : ∀ (m r i : Nat), (∀ b, b < m → q (i + b) = false) → fstI q (m + r) i = fstI q r (i + m)
  | 0, r, i, h => by rw [Nat.zero_add]; rfl
  | m + 1, r, i, h => by
    rw [show m + 1 + r = (m + r) + 1 by omega, fstI_s, if_neg (by rw [show q i = false from h 0 (by omega)]; decide), fstI_skip q m r (i + 1) (fun b hb => by rw [show i + 1 + b = i + (b + 1) by omega]; exact h (b + 1) (by omega)), show i + 1 + m = i + (m + 1) by omega]
theorem fstI_hit (q : Nat → Bool) {t m i : Nat} (ht : t < m) (h1 : q (i + t) = true) (h2 : ∀ b, b < t → q (i + b) = false) : fstI q m i = nI (i + t) := by
  rw [show m = t + (m - t) by omega, fstI_skip q t (m - t) i h2]
  obtain ⟨r, hr⟩ := nat_suc (show 0 + 1 ≤ m - t by omega)
  rw [hr, fstI_s, if_pos h1]
theorem fstI_snoc (q : Nat → Bool) : ∀ (m i : Nat), i + m < 2147483648 → fstI q (m + 1) i = if fstI q m i = -1 then (if q (i + m) then nI (i + m) else -1) else fstI q m i
  | 0, i, h => by
    show (if q i then nI i else -1) = if (-1 : Int32) = -1 then _ else _
    rw [if_pos rfl, Nat.add_zero]
  | m + 1, i, h => by
    have e : fstI q (m + 1 + 1) i = if q i then nI i else fstI q (m + 1) (i + 1) := rfl
    have e2 : fstI q (m + 1) i = if q i then nI i else fstI q m (i + 1) := rfl
    rw [e]
    by_cases hq : q i = true
    · rw [if_pos hq, e2, if_pos hq, if_neg (nI_nm1 (show i < 2147483648 by omega))]
    · rw [if_neg hq, fstI_snoc q m (i + 1) (by omega), e2, if_neg hq, show i + 1 + m = i + (m + 1) by omega]
theorem Rw.xor {f g : Nat → Int32} {c d : Nat → Bool} (hf : Rw f c) (hg : Rw g d) : Rw (fun y => f y ^^^ g y) (fun k => c k ^^ d k) := fun y hy b hb => by
  show bt (f y ^^^ g y) b = _
  rw [b_xor, hf y hy b hb, hg y hy b hb]
  cases decide (b < 16) <;> simp
/-- a row: its count, its lowest bit -/
theorem Rw.cases {f : Nat → Int32} {c : Nat → Bool} (h : Rw f c) {y : Nat} (hy : y < 16) : ((f y = 0 ∧ ∀ b, b < 16 → c (16 * y + b) = false) ∨ ∃ k t, f y = nI k ∧ 0 < k ∧ k < 65536 ∧ lowB k t ∧ t < 16 ∧ c (16 * y + t) = true ∧ ∀ b, b < t → c (16 * y + b) = false) := by
  obtain ⟨k, h1, h2, h3, h4⟩ := row_nat (f y) 16 (fun b h1 h2 => h.hi hy h1 h2)
  rcases Nat.eq_zero_or_pos k with e | e
  · left
    refine ⟨by rw [h2, e]; rfl, fun b hb => ?_⟩
    rw [← h.lo hy hb, ← h4 b, e]; simp
  · right
    obtain ⟨t, ht, h5⟩ := lowB_ex 16 k e h1
    exact ⟨k, t, h2, e, h1, h5, ht, by rw [← h.lo hy ht, ← h4 t]; exact h5.1, fun b hb => by rw [← h.lo hy (by omega), ← h4 b]; exact h5.2 b hb⟩
theorem x_rowCount {f : Nat → Int32} {c : Nat → Bool} (h : Rw f c) {y : Nat} (hy : y < 16) (st : Mm) : f_Int_bitCount (f y) st = some (nI (fb_ct (fun b => c (16 * y + b)) 16), st) := by
  rw [x_bitCount_eq (fun b h3 h4 => h.hi hy (by omega) h4)]
  have e : fb_ct (bt (f y)) 17 = fb_ct (fun k => c (16 * y + k)) 16 := by
    rw [fb_ct_succ, h.hi hy (by omega) (by omega)]
    exact fb_ct_cong (fun b hb => h.lo hy hb)
  rw [e]
theorem m_isWanted_eq {st : Mm} {w : Nat → Bool} (hw : Rw (st.1 60) w) {x y : Nat} (hx : x < 16) (hy : y < 16) : f_m_isWanted (nI x) (nI y) st = some (bI (w (16 * y + x)), st) := by
  unfold f_m_isWanted
  rw [if_pos (inb_nI hy (by omega)), cl_nI (by omega), m_has_eq (by omega), Option.bind_some, hw.lo hy hx]
  cases w (16 * y + x) <;> rfl
theorem st_differs (a0 : Int32) : Step1 Inv (f_x_differs a0) (f_m_differs a0) := step_q (fun A hA => by
  have hn := hA.1.2.1
  obtain ⟨v, hv, _⟩ := hA.v
  have hpin := papT_in hA.1
  have hwC := hA.1.2.2.2.2.2.2.2.2.1
  rcases in_cases a0 0 1 with hc | ⟨k, _, hk, _, rfl, hc⟩
  · refine ⟨-1, xok_fr [] rfl (fun st hI => ?_), mok_fr [] rfl (fun st hI => ?_)⟩
    · have h2 := of_decide_eq_false hc
      unfold f_x_differs
      refine ok_if (fun _ => ok_some ⟨rfl, Fr.rf⟩) (fun c1 => ok_if (fun c2 => ?_) (fun _ => ok_some ⟨rfl, Fr.rf⟩))
      rw [i_lt, i_z] at c1
      rw [i_le, show (1 : Int32).toInt = 1 from rfl] at c2
      omega
    · unfold f_m_differs
      refine ok_bind (ok_eq (m_in_eq a0 0 1 (by omega) (by omega) st) ?_)
      rw [hc]
      exact ok_t rfl (ok_some ⟨rfl, Fr.rf⟩)
  · obtain ⟨q, hq⟩ : ∃ q : Nat → Bool, q = fun k => papT A.1 k ^^ A.1.2.2.2.2.2.1 k := ⟨_, rfl⟩
    refine ⟨if k = 0 then nI (fb_ct q 256) else fstI q 256 0, xok_fr [] rfl (fun st hI => ?_), mok_fr LO rfl (fun st hI => ?_)⟩
    · unfold f_x_differs
      refine ok_f (nI_pos (by omega)) (ok_t (show nI k ≤ nI 1 from nI_le (by omega) (by omega)) ?_)
      have hR : Rw (fun y => st.1 31 y ^^^ st.1 4 y) q := by rw [hq]; exact hI.2.2.2.2.1.xor hI.1.2.2.2.2.2.2.1
      refine ok_dn (fun m y (a : Int32 × Int32) => f_x_differs_19 m (nI k) a.1 a.2 y st) (fun j a => j ≤ 16 ∧ a = (nI (fb_ct (fun k => q (16 * j + k)) (256 - 16 * j)), fstI q (256 - 16 * j) (16 * j))) _ ?_ ?_ 15 1000000 (0, -1) (by omega) ⟨by omega, rfl⟩
      · rintro m y a ⟨hy, rfl⟩ ih
        show Ok (b_x_differs_19 (f_x_differs_19 m) (nI k) _ _ (nI y) st) _
        unfold b_x_differs_19
        have hb := inb_nI (show y < 16 by omega) (show 16 < 2147483648 by omega)
        refine ok_f (nI_pos (by omega)) (ok_t hb (ok_t hb (ok_lt ?_)))
        rw [cl_nI (by omega)]
        refine ok_bind (ok_eq (x_rowCount (y := y) hR (by omega) st) (ok_lt ?_))
        have e1 : fb_ct (fun k => q (16 * y + k)) (256 - 16 * y) = fb_ct (fun k => q (16 * (y + 1) + k)) (256 - 16 * (y + 1)) + fb_ct (fun b => q (16 * y + b)) 16 := by
          rw [show 256 - 16 * y = 16 + (256 - 16 * (y + 1)) by omega, fb_ct_split, Nat.add_comm]
          congr 1
          exact fb_ct_cong (fun j _ => by rw [show 16 * y + (16 + j) = 16 * (y + 1) + j by omega])
        rw [nI_add, ← e1]
        rcases hR.cases (show y < 16 by omega) with ⟨h1, h2⟩ | ⟨r, t, h1, h2, h3, h4, h5, h6, h7⟩
        · refine ok_t h1 (ok_lt ?_)
          rw [am1]
          refine ih (nI (fb_ct (fun k => q (16 * y + k)) (256 - 16 * y)), fstI q (256 - 16 * (y + 1)) (16 * (y + 1))) ⟨by omega, Prod.ext rfl ?_⟩
          show fstI q (256 - 16 * (y + 1)) (16 * (y + 1)) = fstI q (256 - 16 * y) (16 * y)
          rw [show 256 - 16 * y = 16 + (256 - 16 * (y + 1)) by omega, fstI_skip q 16 _ _ h2]
          rfl
        · have hne : ¬ (st.1 31 y ^^^ st.1 4 y) = 0 := by
            have : (st.1 31 y ^^^ st.1 4 y) = nI r := h1
            rw [this]
            exact fun e => by have := nI_inj (a := r) (b := 0) (by omega) (by omega) e; omega
          refine ok_f hne ?_
          have h1' : (st.1 31 y ^^^ st.1 4 y) = nI r := h1
          rw [h1']
          refine ok_bind (ok_eq (x_ntz_nI h4 h3 st) ?_)
          unfold f_x_cellAt
          refine ok_bind (ok_some (ok_lt ?_))
          simp only [cellI]
          rw [am1]
          refine ih (nI (fb_ct (fun k => q (16 * y + k)) (256 - 16 * y)), nI (16 * y + t)) ⟨by omega, Prod.ext rfl ?_⟩
          show nI (16 * y + t) = fstI q (256 - 16 * y) (16 * y)
          rw [fstI_hit q (by omega) h6 h7]
      · rintro m a ⟨_, rfl⟩
        show Ok (b_x_differs_19 (f_x_differs_19 m) (nI k) _ _ (-1) st) _
        unfold b_x_differs_19 b_x_differs_77
        refine ok_t (by decide) ?_
        have e0 : fb_ct (fun k => q (16 * 0 + k)) (256 - 16 * 0) = fb_ct q 256 := fb_ct_cong (fun j _ => by rw [show 16 * 0 + j = j by omega])
        rw [e0]
        refine okc_eq k 0 (fun h => ok_some ⟨?_, Fr.rf⟩) (fun h => ok_some ⟨?_, Fr.rf⟩)
        · rw [if_pos h]
        · rw [if_neg h]
    · unfold f_m_differs
      refine ok_bind (ok_eq (m_in_eq _ 0 1 (by omega) (by omega) st) ?_)
      rw [hc]
      refine ok_f (show ¬ bI true = 0 by decide) (ok_bind (mI_opens hA hI hv (fun s2 hF hr hp => ?_)))
      have hw : Rw (s2.1 60) A.1.2.2.2.2.2.1 := by rw [show s2.1 60 = st.1 60 from funext (fun j => hF _ j (by simp [inL, LO]))]; exact hI.1.2.2.2.2.2.2.1
      refine ok_upF (fun m i (a : Int32 × Int32) => f_m_differs_23 m (nI k) a.1 a.2 i s2) (fun i a => a = (nI (fb_ct q i), fstI q i 0)) _ 256 (by omega) (a := (0, -1)) rfl ?_ ?_
      · rintro m i a hi rfl ih
        show Ok (b_m_differs_23 (f_m_differs_23 m) (nI k) _ _ (nI i) s2) _
        unfold b_m_differs_23
        refine ok_f (n256 hi) ?_
        rw [r16 (by omega), d16 (by omega)]
        refine ok_bind (ok_eq (m_isCell_eq hr.1 hn (by omega) (by omega)) ?_)
        have nx := fstI_snoc q i 0 (by omega)
        rw [Nat.zero_add] at nx
        have go : ∀ z : Int32 × Int32, z = (nI (fb_ct q i), fstI q i 0) → q i = false → Ok (f_m_differs_23 m (nI k) z.1 z.2 (nI (i + 1)) s2) (fun q_1 => (q_1.1 = if k = 0 then nI (fb_ct q 256) else fstI q 256 0) ∧ Fr LO st q_1.2) := by
          rintro z rfl hqi
          refine ih _ (Prod.ext ?_ ?_)
          · show nI (fb_ct q i) = nI (fb_ct q (i + 1))
            rw [fb_ct_succ, hqi]; rfl
          · show fstI q i 0 = fstI q (i + 1) 0
            rw [nx, hqi]
            by_cases e : fstI q i 0 = -1
            · rw [if_pos e, e]; rfl
            · rw [if_neg e]
        by_cases hcell : i % 16 < A.1.1 ∧ i / 16 < A.1.1
        · refine ok_f (by simp [hcell, bI]) (ok_t (inb_nI hi (by omega)) (ok_bind (ok_eq (m_isWanted_eq hw (by omega) (by omega)) ?_)))
          rw [cl_nI (by omega), hp _ hi, show 16 * (i / 16) + i % 16 = i by omega, nI_1, nI_1]
          have hqi : q i = (papT A.1 i ^^ A.1.2.2.2.2.2.1 i) := by rw [hq]
          by_cases e : papT A.1 i = A.1.2.2.2.2.2.1 i
          · refine ok_t (by show bI (papT A.1 i) = _; rw [e]) (ok_lt (go _ rfl (by rw [hqi, e]; simp)))
          · have hqt : q i = true := by
              rw [hqi]
              cases h1 : papT A.1 i <;> cases h2 : A.1.2.2.2.2.2.1 i <;> first | rfl | (rw [h1, h2] at e; exact absurd rfl e)
            refine ok_f (fun h => e (bI_inj h)) ?_
            by_cases e2 : fstI q i 0 = -1
            · refine ok_t e2 (ok_lt (ok_lt (ih (nI (fb_ct q i + 1), nI i) (Prod.ext ?_ ?_))))
              · show nI (fb_ct q i + 1) = _
                rw [fb_ct_succ, hqt]; rfl
              · show nI i = _
                rw [nx, if_pos e2, hqt]; rfl
            · refine ok_f e2 (ok_lt (ok_lt (ih (nI (fb_ct q i + 1), fstI q i 0) (Prod.ext ?_ ?_))))
              · show nI (fb_ct q i + 1) = _
                rw [fb_ct_succ, hqt]; rfl
              · show fstI q i 0 = _
                rw [nx, if_neg e2]
        · refine ok_t (by simp [hcell, bI]) (ok_lt ?_)
          rw [nI_1]
          refine go _ rfl ?_
          rw [hq]
          have e1 : papT A.1 i = false := by
            cases h : papT A.1 i with
            | false => rfl
            | true => exact absurd (hpin.2 i h).2 hcell
          have e2 : A.1.2.2.2.2.2.1 i = false := by
            cases h : A.1.2.2.2.2.2.1 i with
            | false => rfl
            | true => exact absurd (hwC i h).2 hcell
          simp only [e1, e2]; rfl
      · rintro m a rfl
        show Ok (b_m_differs_23 (f_m_differs_23 m) (nI k) _ _ (nI 256) s2) _
        unfold b_m_differs_23 b_m_differs_97
        refine ok_t (by decide) ?_
        refine okc_eq k 0 (fun h => ok_some ⟨?_, hF⟩) (fun h => ok_some ⟨?_, hF⟩)
        · rw [if_pos h]
        · rw [if_neg h])
