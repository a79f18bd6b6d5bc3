/-! snips: the class's places numbered, a box as a set -/
def rwC (v : Wd) (B : Nat → Bool) (k : Nat) : Bool := B k || (decide (v.2.2 = 1) && decide (k % 16 < k / 16))
def RhX (s : Mm) (v : Wd) (B : Nat → Bool) (h : Nat) : Prop := ∀ y, y < h → ∀ b, b < 32 → bt (s.1 53 y) b = (decide (b < 16) && rwC v B (16 * y + b))
def BtX (s : Mm) (v : Wd) (c : Nat) : Prop := ∀ k, k < c → pcv v k = true → s.1 54 k = nI (fb_ct (pcv v) k)
def LNp : List (Nat × Option Nat) := [(53, none), (54, none)]
theorem pcv_lt {v : Wd} {k : Nat} (h : pcv v k = true) : k % 16 < v.1 ∧ k / 16 < v.2.1 ∧ (v.2.2 = 0 ∨ k / 16 ≤ k % 16) := by
  unfold pcv isP at h
  simp only [Bool.and_eq_true, Bool.or_eq_true, decide_eq_true_eq] at h
  exact h
theorem pcv_of {v : Wd} {k : Nat} (h1 : k % 16 < v.1) (h2 : k / 16 < v.2.1) (h3 : v.2.2 = 0 ∨ k / 16 ≤ k % 16) : pcv v k = true := by
  unfold pcv isP
  simp only [Bool.and_eq_true, Bool.or_eq_true, decide_eq_true_eq]
  exact ⟨h1, h2, h3⟩
theorem ct_gapl (q : Nat → Bool) {a : Nat} : ∀ d, (∀ k, a ≤ k → k < a + d → q k = false) → fb_ct q (a + d) = fb_ct q a
  | 0, _ => rfl
  | d + 1, h => by
    rw [show a + (d + 1) = a + d + 1 by omega, fb_ct_succ, h (a + d) (by omega) (by omega), ct_gapl q d (fun k h1 h2 => h k h1 (by omega))]
    rfl
theorem bare_gap {v : Wd} {B : Nat → Bool} {z : Int64} {a b : Nat} (h : BareL v B a z) (hab : a ≤ b) (hg : ∀ k, a ≤ k → k < b → pcv v k = false) : BareL v B b z := fun i hi => by
  rw [h i hi]
  constructor
  · rintro ⟨k, k1, k2⟩; exact ⟨k, by omega, k2⟩
  · rintro ⟨k, k1, k2, k3⟩
    refine ⟨k, ?_, k2, k3⟩
    rcases Nat.lt_or_ge k a with g | g
    · exact g
    · rw [hg k g k1] at k2; cases k2
theorem btx_gap {s : Mm} {v : Wd} {a b : Nat} (h : BtX s v a) (hg : ∀ k, a ≤ k → k < b → pcv v k = false) : BtX s v b := fun k k1 k2 => by
  rcases Nat.lt_or_ge k a with g | g
  · exact h k g k2
  · rw [hg k g k1] at k2; cases k2
theorem lb_shl0_a : ∀ k, k < 64 → (0 : Int64) <<< ((nI k).toInt64 &&& 63) = 0 := by decide +kernel
theorem lb_shl0 {k : Nat} (h : k < 64) : (0 : Int64) <<< ((nI k).toInt64 &&& 63) = 0 := lb_shl0_a k h
theorem x_numP_ok {s0 : Mm} {n : Nat} {l : List Nat} {sl : Nat → Nat} {v : Wd} {B : Nat → Bool} {P : Int64 × Mm → Prop} (hS : FoS s0 47 48 49 n l sl v) (hB : Rw (s0.1 50) B) (hle : fb_ct (pcv v) 256 ≤ 64)
    (hP : ∀ z s, Fr LNp s0 s → BareL v B 256 z → RhX s v B v.2.1 → BtX s v 256 → P (z, s)) : Ok (f_Cov_numberPlaces s0) P := by
  obtain ⟨b1, b2, b3, _⟩ := hS.b
  have kS : ∀ s, Fr LNp s0 s → FoS s 47 48 49 n l sl v := fun s hF => hS.same (fun j => hF _ j rfl) (fun j => hF _ j rfl) (fun j => hF _ j rfl)
  have rows : ∀ r y M z s, y + r = v.2.1 → r + 1 ≤ M → Fr LNp s0 s → BareL v B (16 * y) z → RhX s v B y → BtX s v (16 * y) → Ok (f_Cov_numberPlaces_8 M z (nI (fb_ct (pcv v) (16 * y))) (nI y) s) P := by
    intro r
    induction r with
    | zero =>
      intro y M z s hy hM hF hz hR hT
      obtain ⟨M, rfl⟩ := nat_suc hM
      show Ok (b_Cov_numberPlaces_8 (f_Cov_numberPlaces_8 M) z _ (nI y) s) P
      unfold b_Cov_numberPlaces_8
      rw [(kS s hF).2.2.1]
      have e : y = v.2.1 := by omega
      subst e
      have hg : ∀ k, 16 * v.2.1 ≤ k → k < 256 → pcv v k = false := fun k h1 h2 => by
        cases h : pcv v k with
        | false => rfl
        | true => have := (pcv_lt h).2.1; omega
      exact ok_t (Int32.le_refl _) (ok_some (hP z s hF (bare_gap hz (by omega) hg) hR (btx_gap hT hg)))
    | succ r ih =>
      intro y M z s hy hM hF hz hR hT
      obtain ⟨M, rfl⟩ := nat_suc hM
      have cols : ∀ t x K z s, x + t = v.1 → t + 1 ≤ K → Fr LNp s0 s → BareL v B (16 * y + x) z → RhX s v B (y + 1) → BtX s v (16 * y + x) → Ok (f_Cov_numberPlaces_58 (f_Cov_numberPlaces_8 M) K z (nI (fb_ct (pcv v) (16 * y + x))) (nI y) (nI x) s) P := by
        intro t
        induction t with
        | zero =>
          intro x K z s hx hK hF hz hR hT
          obtain ⟨K, rfl⟩ := nat_suc hK
          show Ok (b_Cov_numberPlaces_58 (f_Cov_numberPlaces_8 M) (f_Cov_numberPlaces_58 (f_Cov_numberPlaces_8 M) K) z _ (nI y) (nI x) s) P
          unfold b_Cov_numberPlaces_58 b_Cov_numberPlaces_126
          rw [(kS s hF).2.1]
          have hg : ∀ k, 16 * y + x ≤ k → k < 16 * (y + 1) → pcv v k = false := fun k h1 h2 => by
            cases h : pcv v k with
            | false => rfl
            | true => have := (pcv_lt h).1; omega
          have ec : fb_ct (pcv v) (16 * y + x) = fb_ct (pcv v) (16 * (y + 1)) := by
            rw [show 16 * (y + 1) = 16 * y + x + (16 - x) by omega]
            exact (ct_gapl (pcv v) (16 - x) (fun k h1 h2 => hg k h1 (by omega))).symm
          refine okc_le v.1 x (fun _ => ok_lt ?_) (fun hh => by omega)
          rw [nI_1, ec]
          exact ih (y + 1) M z s (by omega) (by omega) hF (bare_gap hz (by omega) hg) hR (btx_gap hT hg)
        | succ t iht =>
          intro x K z s hx hK hF hz hR hT
          obtain ⟨K, rfl⟩ := nat_suc hK
          show Ok (b_Cov_numberPlaces_58 (f_Cov_numberPlaces_8 M) (f_Cov_numberPlaces_58 (f_Cov_numberPlaces_8 M) K) z _ (nI y) (nI x) s) P
          unfold b_Cov_numberPlaces_58
          rw [(kS s hF).2.1]
          have ep : pcv v (16 * y + x) = isP v x y := by unfold pcv; rw [show (16 * y + x) % 16 = x by omega, show (16 * y + x) / 16 = y by omega]
          refine okc_le v.1 x (fun hh => by omega) (fun _ => ?_)
          refine ok_bind (ok_eq (x_holds_nat (kS s hF) (by omega) (by omega)) ?_)
          have es := fb_ct_succ (pcv v) (16 * y + x)
          refine okc_b (isP v x y) (fun hp => ok_lt ?_) (fun hp => ?_) rfl
          · rw [nI_1]
            rw [ep, hp] at es
            simp only [Bool.false_eq_true, if_false, Nat.add_zero] at es
            rw [← es]
            have hg : ∀ k, 16 * y + x ≤ k → k < 16 * y + (x + 1) → pcv v k = false := fun k h1 h2 => by rw [show k = 16 * y + x by omega, ep]; exact hp
            exact iht (x + 1) K z s (by omega) (by omega) hF (bare_gap hz (by omega) hg) hR (btx_gap hT hg)
          · unfold f_x_cellAt
            refine ok_bind (ok_some ?_)
            have hpk : pcv v (16 * y + x) = true := by rw [ep]; exact hp
            have hnum := pcv_num (show 16 * y + x < 256 by omega) hpk
            rw [hpk] at es
            simp only [if_true] at es
            simp only [cellI]
            refine ok_t (inb_nI (show 16 * y + x < 256 by omega) (by omega)) (ok_t (inb_nI (show y < 16 by omega) (by omega)) (ok_lt (ok_lt (ok_lt ?_))))
            rw [cl_nI (show 16 * y + x < 2147483648 by omega), cl_nI (show y < 2147483648 by omega), sI_row _ _ _ _ (show 50 ≠ 54 by decide), hF 50 y rfl, bit_of (show x < 32 by omega), nI_1, nI_1, ← es]
            refine iht (x + 1) K _ _ (by omega) (by omega) (hF.sI (by simp [inL, LNp])) (fun i hi => ?_) (fun y2 h2 b hb => by rw [sI_row _ _ _ _ (by decide)]; exact hR y2 h2 b hb) (fun k k1 k2 => ?_)
            · rw [hB.lo (show y < 16 by omega) (show x < 16 by omega)]
              cases hbk : B (16 * y + x) with
              | false =>
                have e0 : z ||| ((if false = true then (1 : Int32) else 0).toInt64 <<< ((nI (fb_ct (pcv v) (16 * y + x))).toInt64 &&& 63)) = z := lb_ext (fun j hj => by
                  rw [lb_or, show ((if false = true then (1 : Int32) else 0).toInt64 : Int64) = 0 from rfl, show (0 : Int64) <<< ((nI (fb_ct (pcv v) (16 * y + x))).toInt64 &&& 63) = 0 from lb_shl0 (by omega), lb_0, Bool.or_false])
                rw [e0, hz i hi]
                constructor
                · rintro ⟨k, k1, k2⟩; exact ⟨k, by omega, k2⟩
                · rintro ⟨k, k1, k2, k3, k4⟩
                  refine ⟨k, ?_, k2, k3, k4⟩
                  have : k ≠ 16 * y + x := fun e => by rw [e, hbk] at k3; cases k3
                  omega
              | true =>
                rw [lb_or, show ((if true = true then (1 : Int32) else 0).toInt64 : Int64) = 1 from rfl, lb_bit (by omega) i hi, Bool.or_eq_true, hz i hi, decide_eq_true_eq]
                constructor
                · rintro (⟨k, k1, k2⟩ | h)
                  · exact ⟨k, by omega, k2⟩
                  · exact ⟨16 * y + x, by omega, hpk, hbk, h.symm⟩
                · rintro ⟨k, k1, k2, k3, k4⟩
                  by_cases e : k = 16 * y + x
                  · exact Or.inr (by rw [← k4, e])
                  · exact Or.inl ⟨k, by omega, k2, k3, k4⟩
            · rw [sI_at]
              by_cases e : k = 16 * y + x
              · rw [if_pos ⟨rfl, e⟩, e]
              · rw [if_neg (fun h => e h.2)]
                exact hT k (by omega) k2
      show Ok (b_Cov_numberPlaces_8 (f_Cov_numberPlaces_8 M) z _ (nI y) s) P
      unfold b_Cov_numberPlaces_8
      rw [(kS s hF).2.2.1, (kS s hF).2.2.2.1]
      have hyb : inb (nI y) 16 := inb_nI (by omega) (by omega)
      have go : ∀ rv : Int32, (∀ b, b < 32 → bt rv b = (decide (b < 16) && rwC v B (16 * y + b))) → Ok (f_Cov_numberPlaces_58 (f_Cov_numberPlaces_8 M) 1000000 z (nI (fb_ct (pcv v) (16 * y))) (nI y) (0 : Int32) (sI s 53 y rv)) P := fun rv hrv =>
        cols v.1 0 1000000 z _ (by omega) (by omega) (hF.sI (by simp [inL, LNp])) hz (fun y2 h2 b hb => by
          rw [sI_at]
          by_cases e : y2 = y
          · rw [if_pos ⟨rfl, e⟩, e]; exact hrv b hb
          · rw [if_neg (fun h => e h.2)]; exact hR y2 (by omega) b hb) (fun k k1 k2 => by rw [sI_row _ _ _ _ (by decide)]; exact hT k (by omega) k2)
      have hr : ∀ b, b < 32 → bt (s.1 50 y) b = (decide (b < 16) && B (16 * y + b)) := fun b hb => by rw [hF 50 y rfl]; exact hB y (by omega) b hb
      refine okc_le v.2.1 y (fun hh => by omega) (fun _ => ok_t hyb (okc_eq v.2.2 0 (fun hd => ok_lt (ok_t hyb ?_)) (fun hd => ok_lt (ok_t hyb ?_))))
      · rw [cl_nI (show y < 2147483648 by omega)]
        refine go _ (fun b hb => ?_)
        rw [b_or, b_0, Bool.or_false, hr b hb]
        unfold rwC
        rw [decide_eq_false (show ¬ v.2.2 = 1 by omega), Bool.false_and, Bool.or_false]
      · rw [cl_nI (show y < 2147483648 by omega), fullI (show y ≤ 16 by omega)]
        refine go _ (fun b hb => ?_)
        have hp : 2 ^ y ≤ 2 ^ 16 := Nat.pow_le_pow_right (by decide) (by omega)
        rw [b_or, hr b hb, bt_nI (by omega), Nat.testBit_two_pow_sub_one]
        unfold rwC
        rw [decide_eq_true (show v.2.2 = 1 by omega), Bool.true_and]
        rcases Nat.lt_or_ge b 16 with h | h
        · rw [decide_eq_true h, show (16 * y + b) % 16 = b by omega, show (16 * y + b) / 16 = y by omega]
          rfl
        · rw [decide_eq_false (show ¬ b < 16 by omega), decide_eq_false (show ¬ b < y by omega)]
          rfl
  unfold f_Cov_numberPlaces
  exact rows v.2.1 0 1000000 0 s0 (by omega) (by omega) Fr.rf (fun i hi => by
    rw [lb_0]
    exact ⟨fun h => (by cases h), fun ⟨k, k1, _⟩ => by omega⟩) (fun y hy => by omega) (fun k hk => by omega)
/-! a box of the class -/
def rnR (run : Int32) (top en k : Nat) : Prop := bt run (k % 16) = true ∧ top ≤ k / 16 ∧ k / 16 ≤ en
theorem x_addBox_ok {s : Mm} {n : Nat} {l : List Nat} {sl : Nat → Nat} {v : Wd} {B : Nat → Bool} {run : Int32} {top en cnt : Nat} {P : Unit × Mm → Prop} (hS : FoS s 47 48 49 n l sl v) (hle : fb_ct (pcv v) 256 ≤ 64) (hT : BtX s v 256) (hcn : s.1 52 3 = nI cnt) (hc : cnt < 300) (ht : top ≤ en) (he : en < v.2.1) (hB : ∀ k, k < 256 → rnR run top en k → pcv v k = true → B k = true)
    (hP0 : OblO v B (rnR run top en) 0 → P ((), s)) (hP1 : ∀ z, OblO v B (rnR run top en) z → z ≠ 0 → P ((), sI (sL s 55 cnt z) 52 3 (nI (cnt + 1)))) : Ok (f_Cov_addBox run (nI top) (nI en) s) P := by
  obtain ⟨b1, b2, b3, _⟩ := hS.b
  have rows : ∀ r y M z, top ≤ y → y + r = en + 1 → r + 1 ≤ M → OblO v B (fun k => rnR run top en k ∧ k / 16 < y) z → Ok (f_Cov_addBox_6 M run (nI en) z (nI y) s) P := by
    intro r
    induction r with
    | zero =>
      intro y M z hty hy hM hz
      obtain ⟨M, rfl⟩ := nat_suc hM
      show Ok (b_Cov_addBox_6 (f_Cov_addBox_6 M) run (nI en) z (nI y) s) P
      unfold b_Cov_addBox_6 b_Cov_addBox_78
      refine okc_lt en y (fun _ => ?_) (fun hh => by omega)
      have hz2 : OblO v B (rnR run top en) z := obl_skip hz (fun j _ _ => ⟨fun h => ⟨h, by have := h.2.2; omega⟩, fun h => h.1⟩)
      refine ok_if (fun e => ok_some (hP0 (by rw [← (lg_cmp_eq _ _).mp e]; exact hz2))) (fun e => ?_)
      rw [hcn]
      refine okc_le 300 cnt (fun hh => by omega) (fun _ => ok_t (inb_nI (by omega) (by omega)) (ok_lt (ok_some ?_)))
      rw [cl_nI (show cnt < 2147483648 by omega), show (sL s 55 cnt z).1 52 3 = nI cnt from hcn, nI_1]
      exact hP1 z hz2 (fun e2 => e ((lg_cmp_eq _ _).mpr e2))
    | succ r ih =>
      intro y M z hty hy hM hz
      obtain ⟨M, rfl⟩ := nat_suc hM
      have cols : ∀ t x K z, x + t = v.1 → t + 1 ≤ K → OblO v B (fun k => rnR run top en k ∧ (k / 16 < y ∨ (k / 16 = y ∧ k % 16 < x))) z → Ok (f_Cov_addBox_15 (f_Cov_addBox_6 M) K run (nI en) z (nI y) (nI x) s) P := by
        intro t
        induction t with
        | zero =>
          intro x K z hx hK hz
          obtain ⟨K, rfl⟩ := nat_suc hK
          show Ok (b_Cov_addBox_15 (f_Cov_addBox_6 M) (f_Cov_addBox_15 (f_Cov_addBox_6 M) K) run (nI en) z (nI y) (nI x) s) P
          unfold b_Cov_addBox_15 b_Cov_addBox_72
          rw [hS.2.1]
          refine okc_le v.1 x (fun _ => ok_lt ?_) (fun hh => by omega)
          rw [nI_1]
          exact ih (y + 1) M z (by omega) (by omega) (by omega) (obl_skip hz (fun j _ hp => by
            have := (pcv_lt hp).1
            constructor
            · rintro ⟨h1, h2⟩; exact ⟨h1, by omega⟩
            · rintro ⟨h1, h2⟩; exact ⟨h1, by omega⟩))
        | succ t iht =>
          intro x K z hx hK hz
          obtain ⟨K, rfl⟩ := nat_suc hK
          show Ok (b_Cov_addBox_15 (f_Cov_addBox_6 M) (f_Cov_addBox_15 (f_Cov_addBox_6 M) K) run (nI en) z (nI y) (nI x) s) P
          unfold b_Cov_addBox_15
          rw [hS.2.1, bit_of (show x < 32 by omega)]
          have ep : pcv v (16 * y + x) = isP v x y := by unfold pcv; rw [show (16 * y + x) % 16 = x by omega, show (16 * y + x) / 16 = y by omega]
          have skp : ¬ (rnR run top en (16 * y + x) ∧ pcv v (16 * y + x) = true) → Ok (f_Cov_addBox_15 (f_Cov_addBox_6 M) K run (nI en) z (nI y) (nI (x + 1)) s) P := fun hn => iht (x + 1) K z (by omega) (by omega) (obl_skip hz (fun j _ hp => by
            have : ¬ (rnR run top en j ∧ j = 16 * y + x) := fun h => hn (by rw [← h.2]; exact ⟨h.1, hp⟩)
            constructor
            · rintro ⟨h1, h2⟩
              refine ⟨h1, ?_⟩
              have : j ≠ 16 * y + x := fun e => this ⟨h1, e⟩
              omega
            · rintro ⟨h1, h2⟩
              exact ⟨h1, by omega⟩))
          refine okc_le v.1 x (fun hh => by omega) (fun _ => ?_)
          cases hb : bt run x with
          | false =>
            refine ok_f (by decide) (ok_lt ?_)
            rw [nI_1]
            exact skp (fun h => by have := h.1.1; rw [show (16 * y + x) % 16 = x by omega, hb] at this; cases this)
          | true =>
            refine ok_t rfl ?_
            refine ok_bind (ok_eq (x_holds_nat hS (by omega) (by omega)) ?_)
            refine okc_b (isP v x y) (fun hp => ok_lt ?_) (fun hp => ?_) rfl
            · rw [nI_1]
              exact skp (fun h => by rw [ep, hp] at h; cases h.2)
            · unfold f_x_cellAt
              refine ok_bind (ok_some ?_)
              simp only [cellI]
              have hpk : pcv v (16 * y + x) = true := by rw [ep]; exact hp
              have hnum := pcv_num (show 16 * y + x < 256 by omega) hpk
              refine ok_t (inb_nI (show 16 * y + x < 256 by omega) (by omega)) (ok_lt (ok_lt ?_))
              rw [cl_nI (show 16 * y + x < 2147483648 by omega), nI_1, hT _ (by omega) hpk]
              have hR : rnR run top en (16 * y + x) := ⟨by rw [show (16 * y + x) % 16 = x by omega]; exact hb, by omega, by omega⟩
              refine iht (x + 1) K _ (by omega) (by omega) (obl_add hz (by omega) hpk (hB _ (by omega) hR hpk) (by omega) (fun j => ?_))
              constructor
              · rintro ⟨h1, h2⟩
                by_cases e : j = 16 * y + x
                · exact Or.inr e
                · exact Or.inl ⟨h1, by omega⟩
              · rintro (⟨h1, h2⟩ | h)
                · exact ⟨h1, by omega⟩
                · rw [h]; exact ⟨hR, by omega⟩
      show Ok (b_Cov_addBox_6 (f_Cov_addBox_6 M) run (nI en) z (nI y) s) P
      unfold b_Cov_addBox_6
      refine okc_lt en y (fun hh => by omega) (fun _ => ?_)
      exact cols v.1 0 1000000 z (by omega) (by omega) (obl_skip hz (fun j _ _ => by
        constructor
        · rintro ⟨h1, h2⟩; exact ⟨h1, by omega⟩
        · rintro ⟨h1, h2⟩; exact ⟨h1, by omega⟩))
  unfold f_Cov_addBox
  exact rows (en + 1 - top) top 1000000 0 (Nat.le_refl _) (by omega) (by omega) ⟨fun k _ h => by have := h.1.2.1; omega, fun i _ => by
    rw [lb_0]
    refine ⟨fun h => (by cases h), fun ⟨k, _, hr, _⟩ => ?_⟩
    have := hr.1.2.1
    omega⟩
