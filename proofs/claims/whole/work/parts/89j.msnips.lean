theorem wdf_le {cnt : Nat} (hc : cnt ≤ 2200) : ∀ r, Wdf cnt r + 1 ≤ 2202 ^ r
  | 0 => Nat.le_refl _
  | r + 1 => by
    have h := wdf_le hc r
    have e : Wdf cnt (r + 1) = (cnt + 1) * (Wdf cnt r + 1) := rfl
    have h2 : (cnt + 1) * (Wdf cnt r + 1) ≤ 2201 * 2202 ^ r := Nat.mul_le_mul (by omega) h
    have h3 : 0 < 2202 ^ r := Nat.pow_pos (by decide)
    rw [e, Nat.pow_succ]
    omega
theorem m_doFor_ok {cnt k : Nat} {s0 : Mm} {left : Int64} {P : Int32 × Mm → Prop} (hc : cnt ≤ 2200) (hk : k ≤ 4) (hcn : s0.1 58 49 = nI cnt) (hP : ∀ b s, Fdf 0 s0 s → (b = true ↔ Cvs (BxM s0 cnt) k (lb left)) → P (bI b, s)) : Ok (f_m_doFor left (nI k) s0) P := by
  unfold f_m_doFor
  refine ok_if (fun hz => ok_some (hP true s0 Fdf.rf ⟨fun _ => cvs_nil (fun i => by rw [(lg_cmp_eq _ _).mp hz]; exact lb_0 i) k, fun _ => rfl⟩)) (fun hz => ?_)
  have hl : left ≠ 0 := fun e => hz ((lg_cmp_eq _ _).mpr e)
  refine okc_eq k 0 (fun e => ok_some (hP false s0 Fdf.rf ⟨fun h => (by cases h), fun h => ?_⟩)) (fun e => ?_)
  · subst e
    exact absurd (lb_fun0 h) hl
  · obtain ⟨r, rfl⟩ : ∃ r, k = r + 1 := ⟨k - 1, by omega⟩
    have hw := wdf_le hc r
    have hp : 2202 ^ r ≤ 2202 ^ 3 := Nat.pow_le_pow_right (by decide) (by omega)
    have hq : (cnt + 1) * (Wdf cnt r + 1) ≤ 2201 * 2202 ^ 3 := Nat.mul_le_mul (by omega) (by omega)
    have hq2 : 2201 * 2202 ^ 3 < 100000000000000000000 := by decide
    have hF1 : Fdf 0 s0 (sI (sL s0 82 0 left) 81 0 (-1)) := fdf_t ⟨fun _ _ _ => rfl, fun _ _ => rfl, fun a i ha => sL_2 _ _ _ _ _ _ ha, fun i hi => by omega⟩
    refine m_do_ok hc hk hcn r 0 (by omega) cnt 0 100000000000000000000 _ left (by omega) (by omega) hF1 (by rw [show ((0 : Int32).toNatClampNeg) = 0 from rfl, sI_self]; rfl) (by rw [show ((0 : Int32).toNatClampNeg) = 0 from rfl, sI_l, sL_at, if_pos rfl]) hl (fun hcv s hFs => hP true s hFs ⟨fun _ => hcv, fun _ => rfl⟩) (fun M s hM hFs hk2 => ?_)
    obtain ⟨M, rfl⟩ := nat_suc (show 0 + 1 ≤ M by omega)
    show Ok (b_m_doFor_31 (f_m_doFor_31 M) (nI (r + 1)) (-1) s) P
    unfold b_m_doFor_31
    refine ok_t (by decide) (ok_some (hP false s (hF1.tr hFs (Nat.le_refl _)) ⟨fun h => (by cases h), fun h => ?_⟩))
    obtain ⟨u, u1, u2, u3⟩ := lb_nz hl
    obtain ⟨j2, e2, b, ⟨i, i1, i2⟩, b2, b3⟩ := (cvs_first (r + 1) _ u u2).mp h
    have e3 : j2 = r := by omega
    subst e3; subst i2
    exact absurd ⟨b2, b3⟩ (hk2 i (by omega) i1 u u1 u2 u3)
theorem bxm_fdf {cnt : Nat} {s0 s : Mm} (h : Fdf 0 s0 s) : BxM s cnt = BxM s0 cnt := by
  have e : ∀ i, s.2 80 i = s0.2 80 i := fun i => h.2.2.1 _ _ (by decide)
  funext b
  unfold BxM
  simp only [e]
theorem m_snips_87_ok {cnt : Nat} {bare : Int64} {s0 : Mm} {P : Int32 × Mm → Prop} (hc : cnt ≤ 2200) (hcn : s0.1 58 49 = nI cnt) (hP : ∀ s, Fdf 0 s0 s → P (snI (fun u => Cvs (BxM s0 cnt) u (lb bare)), s)) : Ok (f_m_snips_87 1000000 bare 0 s0) P := by
  have lp : ∀ r u N s, u + r = 5 → r + 1 ≤ N → Fdf 0 s0 s → (∀ v, v < u → ¬ Cvs (BxM s0 cnt) v (lb bare)) → Ok (f_m_snips_87 N bare (nI u) s) P := by
    intro r
    induction r with
    | zero =>
      intro u N s hu hN hF hno
      obtain ⟨N, rfl⟩ := nat_suc hN
      show Ok (b_m_snips_87 (f_m_snips_87 N) bare (nI u) s) P
      unfold b_m_snips_87
      refine okc_le 5 u (fun _ => ok_some ?_) (fun hh => by omega)
      have h := hP s hF
      unfold snI at h
      rw [lstI_no (fun a ⟨a1, a2⟩ => hno a (by omega) a2)] at h
      exact h
    | succ r ih =>
      intro u N s hu hN hF hno
      obtain ⟨N, rfl⟩ := nat_suc hN
      show Ok (b_m_snips_87 (f_m_snips_87 N) bare (nI u) s) P
      unfold b_m_snips_87
      refine okc_le 5 u (fun hh => by omega) (fun _ => ?_)
      refine ok_bind (m_doFor_ok hc (by omega) (by rw [hF.1 _ _ (by decide)]; exact hcn) (fun b s2 hF2 hb => ?_))
      rw [bxm_fdf hF] at hb
      refine okc_b b (fun h1 => ok_lt ?_) (fun h1 => ok_some ?_) rfl
      · rw [nI_1]
        refine ih (u + 1) N s2 (by omega) (by omega) (hF.tr hF2 (Nat.le_refl _)) (fun v hv hc2 => ?_)
        rcases Nat.lt_or_ge v u with h | h
        · exact hno v h hc2
        · rw [show v = u by omega] at hc2
          rw [hb.mpr hc2] at h1; cases h1
      · have h := hP s2 (hF.tr hF2 (Nat.le_refl _))
        unfold snI at h
        rw [lstI_eq (a := u) ⟨by omega, hb.mp h1⟩ (fun v hv h => hno v hv h.2)] at h
        exact h
  exact lp 5 0 1000000 s0 (by omega) (by omega) Fdf.rf (fun v hv => by omega)
