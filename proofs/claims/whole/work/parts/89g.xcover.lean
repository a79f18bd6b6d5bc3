/-! snips: the class's search -/
def BxX (st : Mm) (cnt : Nat) (b : Nat → Bool) : Prop := ∃ i, i < cnt ∧ b = lb (st.2 55 i)
theorem lb_fun0 {x : Int64} (h : ∀ i, lb x i = false) : x = 0 := lb_ext (fun i _ => by rw [lb_0]; exact h i)
theorem x_covers_ok {cnt : Nat} (hc : cnt ≤ 300) (st : Mm) : ∀ u N (left : Int64), u + 1 ≤ N → u ≤ 4 → ∃ b : Bool, (b = true ↔ Cvs (BxX st cnt) u (lb left)) ∧ R_Cv N (nI cnt) left (nI u) st = some (bI b, st) := by
  intro u
  induction u with
  | zero =>
    intro N left hN _
    obtain ⟨N, rfl⟩ := nat_suc hN
    by_cases hz : left = 0
    · refine ⟨true, ⟨fun _ i => by rw [hz]; exact lb_0 i, fun _ => rfl⟩, ?_⟩
      show f_Cov_covers (R_Cv N) (nI cnt) left (nI 0) st = _
      unfold f_Cov_covers
      rw [if_pos ((lg_cmp_eq _ _).mpr hz)]; rfl
    · refine ⟨false, ⟨fun h => (by cases h), fun h => absurd (lb_fun0 h) hz⟩, ?_⟩
      show f_Cov_covers (R_Cv N) (nI cnt) left (nI 0) st = _
      unfold f_Cov_covers
      rw [if_neg (fun e => hz ((lg_cmp_eq _ _).mp e)), if_pos (by decide)]; rfl
  | succ u ih =>
    intro N left hN hu
    obtain ⟨N, rfl⟩ := nat_suc hN
    by_cases hz : left = 0
    · refine ⟨true, ⟨fun _ => Or.inl (fun i => by rw [hz]; exact lb_0 i), fun _ => rfl⟩, ?_⟩
      show f_Cov_covers (R_Cv N) (nI cnt) left (nI (u + 1)) st = _
      unfold f_Cov_covers
      rw [if_pos ((lg_cmp_eq _ _).mpr hz)]; rfl
    · obtain ⟨t, t1, t2, t3⟩ := lb_nz hz
      have hf := cvs_first (B := BxX st cnt) (u + 1) (lb left) t t2
      have lp : ∀ r i M, i + r = cnt → r + 1 ≤ M → (∀ j, j < i → ¬ (lb (st.2 55 j) t = true ∧ Cvs (BxX st cnt) u (fun x => lb left x && !lb (st.2 55 j) x))) → ∃ b : Bool, (b = true ↔ Cvs (BxX st cnt) (u + 1) (lb left)) ∧ f_Cov_covers_30 (R_Cv N) M (nI cnt) left (nI (u + 1)) (left &&& (-left)) (nI i) st = some (bI b, st) := by
        intro r
        induction r with
        | zero =>
          intro i M hi hM hno
          obtain ⟨M, rfl⟩ := nat_suc hM
          refine ⟨false, ⟨fun h => (by cases h), fun h => ?_⟩, ?_⟩
          · obtain ⟨j, j1, b, ⟨q, q1, q2⟩, b2, b3⟩ := hf.mp h
            have e : j = u := by omega
            subst e; subst q2
            exact absurd ⟨b2, b3⟩ (hno q (by omega))
          · show b_Cov_covers_30 (R_Cv N) (f_Cov_covers_30 (R_Cv N) M) (nI cnt) left (nI (u + 1)) (left &&& (-left)) (nI i) st = _
            unfold b_Cov_covers_30
            rw [if_pos (nI_le (by omega) (by omega))]; rfl
        | succ r ihr =>
          intro i M hi hM hno
          obtain ⟨M, rfl⟩ := nat_suc hM
          have e0 : f_Cov_covers_30 (R_Cv N) (M + 1) (nI cnt) left (nI (u + 1)) (left &&& (-left)) (nI i) st = b_Cov_covers_30 (R_Cv N) (f_Cov_covers_30 (R_Cv N) M) (nI cnt) left (nI (u + 1)) (left &&& (-left)) (nI i) st := rfl
          have hib : inb (nI i) 300 := inb_nI (by omega) (by omega)
          have e1 : f_Cov_covers_30 (R_Cv N) (M + 1) (nI cnt) left (nI (u + 1)) (left &&& (-left)) (nI i) st = (if (lg_cmp ((st.2 55 i) &&& (left &&& (-left))) (0 : Int64)) = 0 then f_Cov_covers_30 (R_Cv N) M (nI cnt) left (nI (u + 1)) (left &&& (-left)) (nI (i + 1)) st else (R_Cv N (nI cnt) (left &&& ((st.2 55 i) ^^^ (-1 : Int64))) (nI u) st).bind (fun q7 => if q7.1 = 0 then f_Cov_covers_30 (R_Cv N) M (nI cnt) left (nI (u + 1)) (left &&& (-left)) (nI (i + 1)) q7.2 else some ((1 : Int32), q7.2))) := by
            rw [e0]
            unfold b_Cov_covers_30
            rw [if_neg (show ¬ nI cnt ≤ nI i by rw [nI_leI (by omega) (by omega)]; omega), if_neg (show ¬ (300 : Int32) ≤ nI i by rw [i_lit 300, nI_leI (by omega) (by omega)]; omega), if_pos hib, if_pos hib, cl_nI (by omega), nI_1, show nI (u + 1) - (1 : Int32) = nI u from pk_sub (b := 1) (by omega)]
            rfl
          have hz2 : lg_cmp ((st.2 55 i) &&& (left &&& (-left))) (0 : Int64) = 0 ↔ lb (st.2 55 i) t = false := by
            rw [lg_cmp_eq]
            constructor
            · intro h
              have h2 := congrArg (fun z => lb z t) h
              simp only [lb_and (st.2 55 i), lb_low t1 t2 t3 t t1, lb_0, decide_true, Bool.and_true] at h2
              exact h2
            · intro h
              refine lb_ext (fun x hx => ?_)
              rw [lb_and, lb_low t1 t2 t3 x hx, lb_0]
              by_cases e : x = t
              · rw [e, h]; rfl
              · rw [decide_eq_false e, Bool.and_false]
          have hfun : lb (left &&& ((st.2 55 i) ^^^ (-1 : Int64))) = fun x => lb left x && !lb (st.2 55 i) x := funext (fun x => lb_andn _ _ x)
          rw [e1]
          by_cases hb : lb (st.2 55 i) t = false
          · rw [if_pos (hz2.mpr hb)]
            exact ihr (i + 1) M (by omega) (by omega) (fun j hj => by
              rcases Nat.lt_or_ge j i with h | h
              · exact hno j h
              · rw [show j = i by omega]
                exact fun z => by rw [hb] at z; cases z.1)
          · rw [if_neg (fun z => hb (hz2.mp z))]
            have hbt : lb (st.2 55 i) t = true := by
              cases h : lb (st.2 55 i) t with
              | true => rfl
              | false => exact absurd h hb
            obtain ⟨b, b1, b2⟩ := ih N (left &&& ((st.2 55 i) ^^^ (-1 : Int64))) (by omega) (by omega)
            rw [b2, hfun] at *
            cases b with
            | true =>
              exact ⟨true, ⟨fun _ => Or.inr ⟨_, ⟨i, by omega, rfl⟩, b1.mp rfl⟩, fun _ => rfl⟩, rfl⟩
            | false =>
              show ∃ b : Bool, _ ∧ f_Cov_covers_30 (R_Cv N) M (nI cnt) left (nI (u + 1)) (left &&& (-left)) (nI (i + 1)) st = some (bI b, st)
              exact ihr (i + 1) M (by omega) (by omega) (fun j hj => by
                rcases Nat.lt_or_ge j i with h | h
                · exact hno j h
                · rw [show j = i by omega]
                  exact fun z => by have := b1.mpr z.2; cases this)
      obtain ⟨b, b1, b2⟩ := lp cnt 0 1000000 (by omega) (by omega) (fun j hj => by omega)
      refine ⟨b, b1, ?_⟩
      rw [← b2]
      show f_Cov_covers (R_Cv N) (nI cnt) left (nI (u + 1)) st = _
      unfold f_Cov_covers
      rw [if_neg (fun e => hz ((lg_cmp_eq _ _).mp e)), if_neg (show ¬ nI (u + 1) ≤ (0 : Int32) from fun z => by have z2 : nI (u + 1) ≤ nI 0 := z; rw [nI_leI (by omega) (by omega)] at z2; omega), if_pos (show nI (u + 1) ≤ (4 : Int32) from (show nI (u + 1) ≤ nI 4 from nI_le hu (by omega)))]
      rfl
