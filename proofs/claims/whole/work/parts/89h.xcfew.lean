noncomputable def snI (q : Nat → Prop) : Int32 := lstI (fun a => a ≤ 4 ∧ q a)
theorem x_cfew_ok {cnt : Nat} {bare : Int64} (hc : cnt ≤ 300) {st : Mm} (hs : st.1 52 3 = nI cnt) {P : Int32 × Mm → Prop} (hP : P (snI (fun u => Cvs (BxX st cnt) u (lb bare)), st)) : Ok (f_Cov_fewest_17 1000000 bare 0 st) P := by
  have lp : ∀ r u N, u + r = 5 → r + 1 ≤ N → (∀ v, v < u → ¬ Cvs (BxX st cnt) v (lb bare)) → Ok (f_Cov_fewest_17 N bare (nI u) st) P := by
    intro r
    induction r with
    | zero =>
      intro u N hu hN hno
      obtain ⟨N, rfl⟩ := nat_suc hN
      show Ok (b_Cov_fewest_17 (f_Cov_fewest_17 N) bare (nI u) st) P
      unfold b_Cov_fewest_17
      refine okc_lt 4 u (fun _ => ok_some ?_) (fun hh => by omega)
      unfold snI at hP
      rw [lstI_no (fun a ⟨a1, a2⟩ => hno a (by omega) a2)] at hP
      exact hP
    | succ r ih =>
      intro u N hu hN hno
      obtain ⟨N, rfl⟩ := nat_suc hN
      show Ok (b_Cov_fewest_17 (f_Cov_fewest_17 N) bare (nI u) st) P
      unfold b_Cov_fewest_17
      refine okc_lt 4 u (fun hh => by omega) (fun _ => ?_)
      rw [hs]
      obtain ⟨b, b1, b2⟩ := x_covers_ok hc st u 6 bare (by omega) (by omega)
      refine ok_bind (ok_eq b2 (okc_b b (fun hb => ok_lt ?_) (fun hb => ok_some ?_) rfl))
      · rw [nI_1]
        refine ih (u + 1) N (by omega) (by omega) (fun v hv hc2 => ?_)
        rcases Nat.lt_or_ge v u with h | h
        · exact hno v h hc2
        · rw [show v = u by omega] at hc2
          rw [b1.mpr hc2] at hb; cases hb
      · unfold snI at hP
        rw [lstI_eq (a := u) ⟨by omega, b1.mp hb⟩ (fun v hv h => hno v hv h.2)] at hP
        exact hP
  exact lp 5 0 1000000 (by omega) (by omega) (fun v hv => by omega)
