def inR (a b k : Nat) : Prop := a % 16 ≤ k % 16 ∧ k % 16 ≤ b % 16 ∧ a / 16 ≤ k / 16 ∧ k / 16 ≤ b / 16
def OblO (v : Wd) (wc : Nat → Bool) (R : Nat → Prop) (z : Int64) : Prop := (∀ k, k < 256 → R k → pcv v k = true → wc k = true) ∧ ∀ i, i < 64 → (lb z i = true ↔ ∃ k, k < 256 ∧ R k ∧ pcv v k = true ∧ fb_ct (pcv v) k = i)
theorem obl_add {v : Wd} {wc : Nat → Bool} {R R2 : Nat → Prop} {z : Int64} {k : Nat} (h : OblO v wc R z) (hk : k < 256) (hp : pcv v k = true) (hw : wc k = true) (hn : fb_ct (pcv v) k < 64) (hR : ∀ j, R2 j ↔ R j ∨ j = k) : OblO v wc R2 (z ||| ((1 : Int64) <<< ((nI (fb_ct (pcv v) k)).toInt64 &&& 63))) := by
  refine ⟨fun j hj hr hpj => ?_, fun i hi => ?_⟩
  · rcases (hR j).mp hr with h1 | h1
    · exact h.1 j hj h1 hpj
    · rw [h1]; exact hw
  · rw [lb_or, lb_bit hn i hi, Bool.or_eq_true, h.2 i hi, decide_eq_true_eq]
    constructor
    · rintro (⟨j, j1, j2, j3, j4⟩ | h1)
      · exact ⟨j, j1, (hR j).mpr (Or.inl j2), j3, j4⟩
      · exact ⟨k, hk, (hR k).mpr (Or.inr rfl), hp, h1.symm⟩
    · rintro ⟨j, j1, j2, j3, j4⟩
      rcases (hR j).mp j2 with h1 | h1
      · exact Or.inl ⟨j, j1, h1, j3, j4⟩
      · exact Or.inr (by rw [← j4, h1])
theorem obl_skip {v : Wd} {wc : Nat → Bool} {R R2 : Nat → Prop} {z : Int64} (h : OblO v wc R z) (hR : ∀ j, j < 256 → pcv v j = true → (R2 j ↔ R j)) : OblO v wc R2 z := by
  refine ⟨fun j hj hr hpj => h.1 j hj ((hR j hj hpj).mp hr) hpj, fun i hi => ?_⟩
  rw [h.2 i hi]
  constructor
  · rintro ⟨j, j1, j2, j3, j4⟩; exact ⟨j, j1, (hR j j1 j3).mpr j2, j3, j4⟩
  · rintro ⟨j, j1, j2, j3, j4⟩; exact ⟨j, j1, (hR j j1 j3).mp j2, j3, j4⟩
theorem m_oblong_ok {v : Wd} {s : Mm} {a b : Nat} {wc : Nat → Bool} {P : Int64 × Mm → Prop} (hv : mW s v) (h1 : v.1 ≤ 16) (h2 : v.2.1 ≤ 16) (h3 : v.2.2 ≤ 1) (hN : s.1 58 48 = nI (fb_ct (pcv v) 256)) (hle : fb_ct (pcv v) 256 ≤ 64) (hL : PlL v 256 s) (hwc : ∀ k, k < 256 → s.1 78 k = bI (wc k)) (ha : a < 256) (hb : b < 256)
    (hP0 : (∃ k, k < 256 ∧ inR a b k ∧ pcv v k = true ∧ wc k = false) → P (0, s)) (hP1 : ∀ z, OblO v wc (inR a b) z → P (z, s)) : Ok (f_m_oblong (nI a) (nI b) s) P := by
  unfold f_m_oblong
  refine ok_lt ?_
  rw [d16 (by omega)]
  have rows : ∀ r y N z, a / 16 ≤ y → b / 16 + 1 ≤ y + r → y ≤ 16 → r + 1 ≤ N → OblO v wc (fun j => inR a b j ∧ j / 16 < y) z → Ok (f_m_oblong_8 N (nI a) (nI b) z (nI y) s) P := by
    intro r
    induction r with
    | zero =>
      intro y N z hy hr hy2 hN2 hO
      obtain ⟨N, rfl⟩ := nat_suc hN2
      show Ok (b_m_oblong_8 (f_m_oblong_8 N) (nI a) (nI b) z (nI y) s) P
      unfold b_m_oblong_8
      rw [d16 (by omega)]
      exact okc_lt (b / 16) y (fun _ => ok_some (hP1 z (obl_skip hO (fun j _ _ => ⟨fun h => ⟨h, by unfold inR at h; omega⟩, fun h => h.1⟩)))) (fun hh => by omega)
    | succ r ih =>
      intro y N z hy hr hy2 hN2 hO
      obtain ⟨N, rfl⟩ := nat_suc hN2
      show Ok (b_m_oblong_8 (f_m_oblong_8 N) (nI a) (nI b) z (nI y) s) P
      unfold b_m_oblong_8
      rw [d16 (by omega)]
      refine okc_lt (b / 16) y (fun _ => ok_some (hP1 z (obl_skip hO (fun j _ _ => ⟨fun h => ⟨h, by unfold inR at h; omega⟩, fun h => h.1⟩)))) (fun hyb => ok_lt ?_)
      rw [r16 (by omega)]
      have cols : ∀ q x M z, a % 16 ≤ x → b % 16 + 1 ≤ x + q → x ≤ 16 → q + 1 ≤ M → OblO v wc (fun j => inR a b j ∧ (j / 16 < y ∨ (j / 16 = y ∧ j % 16 < x))) z → Ok (f_m_oblong_23 (f_m_oblong_8 N) M (nI a) (nI b) z (nI y) (nI x) s) P := by
        intro q
        induction q with
        | zero =>
          intro x M z hx hq hx2 hM hO
          obtain ⟨M, rfl⟩ := nat_suc hM
          show Ok (b_m_oblong_23 (f_m_oblong_8 N) (f_m_oblong_23 (f_m_oblong_8 N) M) (nI a) (nI b) z (nI y) (nI x) s) P
          unfold b_m_oblong_23 b_m_oblong_83
          rw [r16 (by omega)]
          refine okc_lt (b % 16) x (fun _ => ok_lt ?_) (fun hh => by omega)
          rw [nI_1]
          exact ih (y + 1) N z (by omega) (by omega) (by omega) (by omega) (obl_skip hO (fun j _ _ => by unfold inR; omega))
        | succ q ihq =>
          intro x M z hx hq hx2 hM hO
          obtain ⟨M, rfl⟩ := nat_suc hM
          show Ok (b_m_oblong_23 (f_m_oblong_8 N) (f_m_oblong_23 (f_m_oblong_8 N) M) (nI a) (nI b) z (nI y) (nI x) s) P
          unfold b_m_oblong_23 b_m_oblong_83
          rw [r16 (by omega)]
          refine okc_lt (b % 16) x (fun _ => ok_lt ?_) (fun hxb => ?_)
          · rw [nI_1]
            exact ih (y + 1) N z (by omega) (by omega) (by omega) (by omega) (obl_skip hO (fun j _ _ => by unfold inR; omega))
          · refine ok_bind (ok_eq (m_isPlace_eq hv h1 h2 h3 (by omega) (by omega)) ?_)
            have em : (16 * y + x) % 16 = x := by omega
            have ed : (16 * y + x) / 16 = y := by omega
            have ep : pcv v (16 * y + x) = isP v x y := by unfold pcv; rw [em, ed]
            refine okc_b (isP v x y) (fun hp => ok_lt ?_) (fun hp => ?_) rfl
            · rw [nI_1]
              refine ihq (x + 1) M z (by omega) (by omega) (by omega) (by omega) (obl_skip hO (fun j _ hpj => ?_))
              have : j ≠ 16 * y + x := fun e => by rw [e, ep, hp] at hpj; cases hpj
              unfold inR
              omega
            · rw [cellI]
              have hRk : inR a b (16 * y + x) := by unfold inR; omega
              refine ok_t (inb_nI (by omega) (by omega)) ?_
              rw [cl_nI (by omega)]
              show Ok (if s.1 78 (16 * y + x) = 0 then _ else _) P
              rw [hwc _ (by omega)]
              refine okc_b (wc (16 * y + x)) (fun hw => ok_some (hP0 ⟨_, by omega, hRk, by rw [ep]; exact hp, hw⟩)) (fun hw => ?_) rfl
              have hnum := m_numberOf_eq (k := 16 * y + x) hN hle hL (by omega) (by rw [ep]; exact hp)
              rw [em, ed] at hnum
              refine ok_bind (ok_eq hnum (ok_lt (ok_lt ?_)))
              rw [nI_1]
              have a1 := fb_ct_succ (pcv v) (16 * y + x)
              rw [ep, hp] at a1
              simp only [if_true] at a1
              have a2 := ct_upl (pcv v) (show 16 * y + x + 1 ≤ 256 by omega)
              refine ihq (x + 1) M _ (by omega) (by omega) (by omega) (by omega) (obl_add hO (by omega) (by rw [ep]; exact hp) hw (by omega) (fun j => ?_))
              unfold inR at hRk ⊢
              omega
      exact cols 16 (a % 16) 1000000 z (by omega) (by omega) (by omega) (by omega) (obl_skip hO (fun j _ _ => by unfold inR; omega))
  exact rows 16 (a / 16) 1000000 0 (by omega) (by omega) (by omega) (by omega) ⟨fun k _ hr => by unfold inR at hr; omega, fun i _ => by
    rw [lb_0]
    refine ⟨fun h => (by cases h), fun ⟨k, _, hr, _⟩ => ?_⟩
    unfold inR at hr
    omega⟩
