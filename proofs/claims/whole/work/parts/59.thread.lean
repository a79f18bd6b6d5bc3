/-! threads: cells without which the rest of their piece would be several -/
def pW (p : Nat → Bool) (x : Nat) (c : Nat) : Bool := p c && !(c == x)
theorem pW_iff {p : Nat → Bool} {x c : Nat} : pW p x c = true ↔ p c = true ∧ c ≠ x := by
  unfold pW
  rw [Bool.and_eq_true]
  simp
theorem pW_in {n : Nat} {p : Nat → Bool} (hp : pIn n p) (x : Nat) : pIn n (pW p x) := ⟨hp.1, fun c hc => hp.2 c (pW_iff.mp hc).1⟩
/-- a side of a cell with paper -/
def sideP (n : Nat) (p : Nat → Bool) (x j a : Nat) : Prop := nbr n x j = some a ∧ p a = true
def thr (n : Nat) (p : Nat → Bool) (x k : Nat) : Prop := ∃ i j a b, i < k ∧ j < k ∧ sideP n p x i a ∧ sideP n p x j b ∧ ¬ Co n (pW p x) a b
noncomputable def thB (n : Nat) (p : Nat → Bool) (x : Nat) : Bool := @decide (thr n p x 4) (Classical.propDecidable _)
theorem thB_iff {n : Nat} {p : Nat → Bool} {x : Nat} : thB n p x = true ↔ thr n p x 4 := by
  unfold thB
  exact @decide_eq_true_iff _ (Classical.propDecidable _)
theorem nbr_ne {n x j a : Nat} (hx : isC n x) (h : nbr n x j = some a) : a ≠ x := by
  obtain ⟨h1, h2, h3⟩ := hx
  unfold nbr at h
  repeat' split at h
  all_goals first | (cases h; done) | (cases h; omega)
theorem m_isThread_ok {st : Mm} {n x : Nat} {p : Nat → Bool} {P : Int32 × Mm → Prop} (hn : st.1 58 0 = nI n) (hp : pIn n p) (hpap : ∀ c, c < 256 → st.1 72 c = bI (p c)) (hx : isC n x) (h : ∀ s2, Fr LFl st s2 → P (bI (thB n p x), s2)) : Ok (f_m_isThread (nI x) st) P := by
  unfold f_m_isThread
  refine ok_bind (m_forgets_ok (fun s0 hF0 hl0 => ?_))
  have hpw := pW_in hp x
  have hx256 := hx.1
  have key : ∀ (r k N cnt : Nat) (a : Mm), k + r = 4 → r + 1 ≤ N → cnt ≤ k → Fr LFl st a → (∀ d, d < 256 → (∃ j y, j < k ∧ sideP n p x j y ∧ Co n (pW p x) y d) → ¬ a.1 73 d = -1) → (∀ d, d < 256 → (¬ ∃ j y, j < k ∧ sideP n p x j y ∧ Co n (pW p x) y d) → a.1 73 d = -1) → (cnt = 0 ↔ ¬ ∃ j y, j < k ∧ sideP n p x j y) → (2 ≤ cnt ↔ thr n p x k) → Ok (f_m_isThread_8 N (nI x) (nI cnt) (nI k) a) P := by
    intro r
    induction r with
    | zero =>
      intro k N cnt a hk hN hc hF _ _ _ ht
      obtain ⟨N, rfl⟩ := nat_suc hN
      have e : k = 4 := by omega
      subst e
      show Ok (b_m_isThread_8 (f_m_isThread_8 N) (nI x) (nI cnt) (nI 4) a) P
      unfold b_m_isThread_8 b_m_isThread_70
      refine ok_t (by decide) ?_
      have hh := h a hF
      refine ok_if (fun c1 => ok_some ?_) (fun c1 => ok_some ?_)
      · have c2 : ¬ thr n p x 4 := fun z => by
          have := ht.mpr z
          have c3 : nI cnt ≤ nI 1 := c1
          rw [nI_leI (by omega) (by omega)] at c3
          omega
        have e : thB n p x = false := by
          cases hb : thB n p x with
          | false => rfl
          | true => exact absurd (thB_iff.mp hb) c2
        rw [e] at hh
        exact hh
      · have c2 : thr n p x 4 := ht.mp (by
          have c3 : ¬ nI cnt ≤ nI 1 := c1
          rw [nI_leI (by omega) (by omega)] at c3
          omega)
        rw [thB_iff.mpr c2] at hh
        exact hh
    | succ r ih =>
      intro k N cnt a hk hN hc hF hm1 hm2 h0 ht
      obtain ⟨N, rfl⟩ := nat_suc hN
      show Ok (b_m_isThread_8 (f_m_isThread_8 N) (nI x) (nI cnt) (nI k) a) P
      unfold b_m_isThread_8
      refine ok_f (show ¬ nI 4 ≤ nI k by rw [nI_leI (by omega) (by omega)]; omega) ?_
      have hna : a.1 58 0 = nI n := by rw [hF 58 0 rfl]; exact hn
      have hpa : ∀ c, c < 256 → a.1 72 c = bI (p c) := fun c hc => by rw [hF 72 c (by simp [inL, LFl])]; exact hpap c hc
      rw [m_beside_eq hna hp.1 hx (by omega)]
      refine ok_bind (ok_some ?_)
      -- a side without paper changes nothing
      have skip : (∀ y, ¬ sideP n p x k y) → Ok (f_m_isThread_8 N (nI x) (nI cnt) (nI (k + 1)) a) P := by
        intro hno
        have lt_k : ∀ j y, j < k + 1 → sideP n p x j y → j < k := fun j y hj hs => by
          rcases Nat.lt_or_ge j k with z | z
          · exact z
          · have e : j = k := by omega
            subst e
            exact absurd hs (hno y)
        refine ih (k + 1) N cnt a (by omega) (by omega) (by omega) hF ?_ ?_ ?_ ?_
        · rintro d hd ⟨j, y, hj, hs, hco⟩
          exact hm1 d hd ⟨j, y, lt_k j y hj hs, hs, hco⟩
        · intro d hd hne
          exact hm2 d hd (fun ⟨j, y, hj, hs, hco⟩ => hne ⟨j, y, by omega, hs, hco⟩)
        · rw [h0]
          constructor
          · rintro hne ⟨j, y, hj, hs⟩
            exact hne ⟨j, y, lt_k j y hj hs, hs⟩
          · rintro hne ⟨j, y, hj, hs⟩
            exact hne ⟨j, y, by omega, hs⟩
        · rw [ht]
          constructor
          · rintro ⟨i, j, y, z, hi, hj, h1, h2, h3⟩
            exact ⟨i, j, y, z, by omega, by omega, h1, h2, h3⟩
          · rintro ⟨i, j, y, z, hi, hj, h1, h2, h3⟩
            exact ⟨i, j, y, z, lt_k i y hi h1, lt_k j z hj h2, h1, h2, h3⟩
      cases hnb : nbr n x k with
      | none =>
        refine ok_t rfl (ok_lt ?_)
        rw [nI_1]
        exact skip (fun y hs => by rw [hs.1] at hnb; cases hnb)
      | some c =>
        have hCc := nbr_C hp.1 hx hnb
        have hc256 := hCc.1
        have hib : inb (nI c) 256 := inb_nI hc256 (by omega)
        refine ok_f (nI_nm1 (by omega)) (ok_t hib ?_)
        show Ok (if a.1 72 (nI c).toNatClampNeg = 0 then _ else _) P
        rw [cl_nI (by omega), hpa c hc256]
        cases hpc : p c with
        | false =>
          refine ok_t rfl (ok_lt ?_)
          rw [nI_1]
          exact skip (fun y hs => by
            have := hs.1
            rw [hnb] at this
            cases this
            have h9 := hs.2
            rw [hpc] at h9
            cases h9)
        | true =>
          refine ok_f (show ¬ bI true = 0 by decide) (ok_t hib ?_)
          show Ok (if a.1 73 (nI c).toNatClampNeg = -1 then _ else _) P
          rw [cl_nI (by omega)]
          have hsc : sideP n p x k c := ⟨hnb, hpc⟩
          have hcx := nbr_ne hx hnb
          have pwc : pW p x c = true := pW_iff.mpr ⟨hpc, hcx⟩
          have pws : ∀ j y, sideP n p x j y → pW p x y = true := fun j y hs => pW_iff.mpr ⟨hs.2, nbr_ne hx hs.1⟩
          have eqc : ∀ j y, j < k + 1 → sideP n p x j y → j < k ∨ y = c := fun j y hj hs => by
            rcases Nat.lt_or_ge j k with z | z
            · exact Or.inl z
            · have e : j = k := by omega
              subst e
              have := hs.1
              rw [hnb] at this
              cases this
              exact Or.inr rfl
          refine ok_if (fun c1 => ?_) (fun c1 => ok_lt ?_)
          · have hnm : ¬ ∃ j y, j < k ∧ sideP n p x j y ∧ Co n (pW p x) y c := fun z => hm1 c hc256 z c1
            refine ok_bind (m_floods_ok (U := fun d => p d = true ∧ ¬ nI d = nI x ∧ a.1 73 d = -1 ∧ d ≠ c) (b := true) hna hp.1 hCc p hpa (fun d hd => Iff.rfl) (fun R m s1 hfl hset => ?_))
            have hUC : ∀ d, Rc n (fun d => p d = true ∧ ¬ nI d = nI x ∧ a.1 73 d = -1 ∧ d ≠ c) c d ↔ Co n (pW p x) c d := by
              intro d
              constructor
              · intro hd
                exact hd (fun e => Co n (pW p x) c e) Rc.rf (fun y j e hy hj he hu => Rc.st hy hj he (pW_iff.mpr ⟨hu.1, fun z => hu.2.1 (by rw [z])⟩))
              · intro hd
                have hh : Co n (pW p x) c d ∧ Rc n (fun d => p d = true ∧ ¬ nI d = nI x ∧ a.1 73 d = -1 ∧ d ≠ c) c d := by
                  refine hd (fun e => Co n (pW p x) c e ∧ Rc n (fun d => p d = true ∧ ¬ nI d = nI x ∧ a.1 73 d = -1 ∧ d ≠ c) c e) ⟨Rc.rf, Rc.rf⟩ ?_
                  rintro y j e ⟨hy1, hy2⟩ hj he hu
                  have hce : Co n (pW p x) c e := Rc.st hy1 hj he hu
                  refine ⟨hce, ?_⟩
                  by_cases hec : e = c
                  · subst hec; exact Rc.rf
                  · obtain ⟨u1, u2⟩ := pW_iff.mp hu
                    have he256 := (hp.2 e u1).1
                    refine hy2.st hj he ⟨u1, fun z => u2 (nI_inj (by omega) (by omega) z), hm2 e he256 (fun ⟨j2, y2, q1, q2, q3⟩ => hnm ⟨j2, y2, q1, q2, q3.tr (hce.sy hpw pwc)⟩), hec⟩
                exact hh.2
            obtain ⟨g1, g2, g3, g4, g5, g6, g7, g8, g9⟩ := hfl
            refine ok_lt (ok_lt ?_)
            rw [nI_1, nI_1]
            refine ih (k + 1) N (cnt + 1) s1 (by omega) (by omega) (by omega) (hF.tr g1) ?_ ?_ ?_ ?_
            · rintro d hd ⟨j, y, hj, hs, hco⟩
              by_cases hv : ∃ i, i < m ∧ R i = d
              · rw [g8 d hd hv]
                exact nI_nm1 (by omega)
              · rw [g9 d hv]
                rcases eqc j y hj hs with z | z
                · exact hm1 d hd ⟨j, y, z, hs, hco⟩
                · subst z
                  exact absurd ((hset d).mpr ((hUC d).mpr hco)) hv
            · intro d hd hne
              have hv : ¬ ∃ i, i < m ∧ R i = d := fun hv => hne ⟨k, c, by omega, hsc, (hUC d).mp ((hset d).mp hv)⟩
              rw [g9 d hv]
              exact hm2 d hd (fun ⟨j, y, hj, hs, hco⟩ => hne ⟨j, y, by omega, hs, hco⟩)
            · constructor
              · intro z; omega
              · intro z
                exact absurd ⟨k, c, by omega, hsc⟩ z
            · constructor
              · intro h2
                have hc0 : ¬ cnt = 0 := by omega
                have hex : ∃ j y, j < k ∧ sideP n p x j y := Classical.byContradiction (fun z => hc0 (h0.mpr z))
                obtain ⟨j, y, hj, hs⟩ := hex
                exact ⟨j, k, y, c, by omega, by omega, hs, hsc, fun hco => hnm ⟨j, y, hj, hs, hco⟩⟩
              · rintro ⟨i, j, y, z, hi, hj, q1, q2, q3⟩
                rcases eqc i y hi q1 with w1 | w1
                · have : ¬ cnt = 0 := fun e => (h0.mp e) ⟨i, y, w1, q1⟩
                  omega
                · rcases eqc j z hj q2 with w2 | w2
                  · have : ¬ cnt = 0 := fun e => (h0.mp e) ⟨j, z, w2, q2⟩
                    omega
                  · subst w1; subst w2
                    exact absurd Rc.rf q3
          · rw [nI_1]
            have hex : ∃ j y, j < k ∧ sideP n p x j y ∧ Co n (pW p x) y c := Classical.byContradiction (fun z => c1 (hm2 c hc256 z))
            obtain ⟨j0, y0, hj0, hs0, hco0⟩ := hex
            refine ih (k + 1) N cnt a (by omega) (by omega) (by omega) hF ?_ ?_ ?_ ?_
            · rintro d hd ⟨j, y, hj, hs, hco⟩
              rcases eqc j y hj hs with z | z
              · exact hm1 d hd ⟨j, y, z, hs, hco⟩
              · subst z
                exact hm1 d hd ⟨j0, y0, hj0, hs0, hco0.tr hco⟩
            · intro d hd hne
              exact hm2 d hd (fun ⟨j, y, hj, hs, hco⟩ => hne ⟨j, y, by omega, hs, hco⟩)
            · rw [h0]
              constructor
              · intro z
                exact absurd ⟨j0, y0, hj0, hs0⟩ z
              · rintro z ⟨j, y, hj, hs⟩
                exact z ⟨j, y, by omega, hs⟩
            · rw [ht]
              constructor
              · rintro ⟨i, j, y, z, hi, hj, q1, q2, q3⟩
                exact ⟨i, j, y, z, by omega, by omega, q1, q2, q3⟩
              · rintro ⟨i, j, y, z, hi, hj, q1, q2, q3⟩
                rcases eqc i y hi q1 with w1 | w1
                · rcases eqc j z hj q2 with w2 | w2
                  · exact ⟨i, j, y, z, w1, w2, q1, q2, q3⟩
                  · subst w2
                    exact ⟨i, j0, y, y0, w1, hj0, q1, hs0, fun hco => q3 (hco.tr hco0)⟩
                · subst w1
                  rcases eqc j z hj q2 with w2 | w2
                  · exact ⟨j0, j, y0, z, hj0, w2, hs0, q2, fun hco => q3 ((hco0.sy hpw (pws j0 y0 hs0)).tr hco)⟩
                  · subst w2
                    exact absurd Rc.rf q3
  refine key 4 0 1000000 0 s0 (by omega) (by omega) (by omega) (hF0.wk (by decide)) (fun d hd ⟨j, _, hj, _⟩ => by omega) (fun d hd _ => hl0 d hd) ⟨fun _ ⟨j, _, hj, _⟩ => by omega, fun _ => rfl⟩ ⟨fun z => by omega, fun ⟨i, _, _, _, hi, _⟩ => by omega⟩
