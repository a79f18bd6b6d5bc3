def pcv (v : Wd) (k : Nat) : Bool := isP v (k % 16) (k / 16)
def PlL (v : Wd) (c : Nat) (s : Mm) : Prop := ∀ k, k < c → pcv v k = true → s.1 79 (fb_ct (pcv v) k) = nI k
theorem m_numberOf_eq {v : Wd} {s : Mm} {k : Nat} (hN : s.1 58 48 = nI (fb_ct (pcv v) 256)) (hle : fb_ct (pcv v) 256 ≤ 64) (hL : PlL v 256 s) (hk : k < 256) (hp : pcv v k = true) : f_m_numberOf (nI (k % 16)) (nI (k / 16)) s = some (nI (fb_ct (pcv v) k), s) := by
  have h1 := fb_ct_succ (pcv v) k
  rw [hp] at h1
  simp only [if_true] at h1
  have h2 := ct_upl (pcv v) (show k + 1 ≤ 256 by omega)
  have lp : ∀ r i N, i + r = fb_ct (pcv v) k → r + 1 ≤ N → f_m_numberOf_2 N (nI (k % 16)) (nI (k / 16)) (nI i) s = some (nI (fb_ct (pcv v) k), s) := by
    intro r
    induction r with
    | zero =>
      intro i N hi hN2
      obtain ⟨N, rfl⟩ := nat_suc hN2
      have e : i = fb_ct (pcv v) k := by omega
      subst e
      show b_m_numberOf_2 (f_m_numberOf_2 N) (nI (k % 16)) (nI (k / 16)) (nI (fb_ct (pcv v) k)) s = _
      unfold b_m_numberOf_2
      rw [hN, if_neg (by rw [nI_leI (by omega) (by omega)]; omega), if_pos (inb_nI (by omega) (by omega)), cl_nI (by omega), hL k hk hp, cellI, show 16 * (k / 16) + k % 16 = k by omega, if_pos rfl]
    | succ r ih =>
      intro i N hi hN2
      obtain ⟨N, rfl⟩ := nat_suc hN2
      obtain ⟨q, q1, q2, q3⟩ := ct_at (pcv v) k i (by omega)
      show b_m_numberOf_2 (f_m_numberOf_2 N) (nI (k % 16)) (nI (k / 16)) (nI i) s = _
      unfold b_m_numberOf_2
      have hq := hL q (by omega) q2
      rw [q3] at hq
      rw [hN, if_neg (by rw [nI_leI (by omega) (by omega)]; omega), if_pos (inb_nI (by omega) (by omega)), cl_nI (by omega), hq, cellI, show 16 * (k / 16) + k % 16 = k by omega, if_neg (by rw [nI_eq (by omega) (by omega)]; omega), lt_eq, nI_1]
      exact ih (i + 1) N (by omega) (by omega)
  unfold f_m_numberOf
  exact lp (fb_ct (pcv v) k) 0 1000000 (by omega) (by omega)
