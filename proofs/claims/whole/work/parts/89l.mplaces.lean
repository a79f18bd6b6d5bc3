def pcv (v : Wd) (k : Nat) : Bool := isP v (k % 16) (k / 16)
def PlL (v : Wd) (c : Nat) (s : Mm) : Prop := ∀ k, k < c → pcv v k = true → s.1 79 (fb_ct (pcv v) k) = nI k
theorem m_numberOf_eq {v : Wd} {s : Mm} {k : Nat} (hN : s.1 58 48 = nI (fb_ct (pcv v) 256)) (hle : fb_ct (pcv v) 256 ≤ 64) (hL : PlL v 256 s) (hk : k < 256) (hp : pcv v k = true) : f_m_numberOf (nI (k % 16)) (nI (k / 16)) s = some (nI (fb_ct (pcv v) k), s) := by
  have h1 := fb_ct_succ (pcv v) k
  rw [hp] at h1
  simp only [if_true] at h1
  have h2 := ct_upl (pcv v) (show k + 1 ≤ 256 by omega)
  have lp : ∀ r i N, i + r = fb_ct (pcv v) k → r + 1 ≤ N → f_m_numberOf_2 N (nI (k % 16)) (nI (k / 16)) (nI i) s = some (nI (fb_ct (pcv v) k), s) := by
    intro r
    induction r with
    | zero =>
      intro i N hi hN2
      obtain ⟨N, rfl⟩ := nat_suc hN2
      have e : i = fb_ct (pcv v) k := by omega
      subst e
      show b_m_numberOf_2 (f_m_numberOf_2 N) (nI (k % 16)) (nI (k / 16)) (nI (fb_ct (pcv v) k)) s = _
      unfold b_m_numberOf_2
      rw [hN, if_neg (by rw [nI_leI (by omega) (by omega)]; omega), if_pos (inb_nI (by omega) (by omega)), cl_nI (by omega), hL k hk hp, cellI, show 16 * (k / 16) + k % 16 = k by omega, if_pos rfl]
    | succ r ih =>
      intro i N hi hN2
      obtain ⟨N, rfl⟩ := nat_suc hN2
      obtain ⟨q, q1, q2, q3⟩ := ct_at (pcv v) k i (by omega)
      show b_m_numberOf_2 (f_m_numberOf_2 N) (nI (k % 16)) (nI (k / 16)) (nI i) s = _
      unfold b_m_numberOf_2
      have hq := hL q (by omega) q2
      rw [q3] at hq
      rw [hN, if_neg (by rw [nI_leI (by omega) (by omega)]; omega), if_pos (inb_nI (by omega) (by omega)), cl_nI (by omega), hq, cellI, show 16 * (k / 16) + k % 16 = k by omega, if_neg (by rw [nI_eq (by omega) (by omega)]; omega), lt_eq, nI_1]
      exact ih (i + 1) N (by omega) (by omega)
  unfold f_m_numberOf
  exact lp (fb_ct (pcv v) k) 0 1000000 (by omega) (by omega)
def LPl : List (Nat × Option Nat) := [(79, none), (58, some 48)]
theorem m_plist_ok {v : Wd} {s0 : Mm} {P : Unit × Mm → Prop} (hv : mW s0 v) (h1 : v.1 ≤ 16) (h2 : v.2.1 ≤ 16) (h3 : v.2.2 ≤ 1) (hle : fb_ct (pcv v) 256 ≤ 64) (h0 : s0.1 58 48 = 0) (hW : ∀ s, Fr LPl s0 s → mW s v)
    (hP : ∀ s, Fr LPl s0 s → s.1 58 48 = nI (fb_ct (pcv v) 256) → PlL v 256 s → Ok (b_m_laysOblongs_58 s) P) : Ok (f_m_laysOblongs_7 1000000 0 s0) P := by
  have lp : ∀ q c N z, c + q = 256 → q + 1 ≤ N → Fr LPl s0 z → z.1 58 48 = nI (fb_ct (pcv v) c) → PlL v c z → Ok (f_m_laysOblongs_7 N (nI c) z) P := by
    intro q
    induction q with
    | zero =>
      intro c N z hc hN hF hn hL
      obtain ⟨N, rfl⟩ := nat_suc hN
      have e : c = 256 := by omega
      subst e
      show Ok (b_m_laysOblongs_7 (f_m_laysOblongs_7 N) (nI 256) z) P
      unfold b_m_laysOblongs_7
      exact ok_t (by decide) (hP z hF hn hL)
    | succ q ih =>
      intro c N z hc hN hF hn hL
      obtain ⟨N, rfl⟩ := nat_suc hN
      show Ok (b_m_laysOblongs_7 (f_m_laysOblongs_7 N) (nI c) z) P
      unfold b_m_laysOblongs_7
      refine okc_le 256 c (fun hh => by omega) (fun _ => ?_)
      rw [r16 (by omega), d16 (by omega)]
      refine ok_bind (ok_eq (m_isPlace_eq (hW z hF) h1 h2 h3 (by omega) (by omega)) ?_)
      have hs := fb_ct_succ (pcv v) c
      have hup := ct_upl (pcv v) (show c + 1 ≤ 256 by omega)
      refine okc_b (pcv v c) (fun hb => ok_lt ?_) (fun hb => ?_) rfl
      · rw [nI_1]
        rw [hb] at hs
        simp only [Bool.false_eq_true, if_false, Nat.add_zero] at hs
        refine ih (c + 1) N z (by omega) (by omega) hF (by rw [hs]; exact hn) (fun k hk hp => ?_)
        rcases Nat.lt_or_ge k c with h | h
        · exact hL k h hp
        · rw [show k = c by omega, hb] at hp; cases hp
      · rw [hb] at hs
        simp only [if_true] at hs
        show Ok (if inb (z.1 58 48) 64 then _ else none) P
        rw [hn]
        refine ok_t (inb_nI (by omega) (by omega)) (ok_lt (ok_lt ?_))
        rw [nI_1, cl_nI (by omega), sI_row _ _ _ _ (show 58 ≠ 79 by decide), hn, nI_1, ← hs]
        refine ih (c + 1) N _ (by omega) (by omega) ((hF.sI (by simp [inL, LPl])).sI rfl) (sI_self _ _ _ _) (fun k hk hp => ?_)
        rw [sI_row _ _ _ _ (show 79 ≠ 58 by decide), sI_at]
        rcases Nat.lt_or_ge k c with h | h
        · have a := fb_ct_succ (pcv v) k
          rw [hp] at a
          simp only [if_true] at a
          have b := ct_upl (pcv v) (show k + 1 ≤ c by omega)
          rw [if_neg (fun e => by omega)]
          exact hL k h hp
        · rw [show k = c by omega, if_pos ⟨rfl, rfl⟩]
  exact lp 256 0 1000000 s0 (by omega) (by omega) Fr.rf (by rw [h0]; rfl) (fun k hk => by omega)
