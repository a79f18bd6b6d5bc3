/-! flooding: from a cell over cells of a kind -/
/-- the cells that hang together with f over cells of U -/
def Rc (n : Nat) (U : Nat → Prop) (f c : Nat) : Prop := ∀ S : Nat → Prop, S f → (∀ a j d, S a → j < 4 → nbr n a j = some d → U d → S d) → S c
theorem Rc.rf {n : Nat} {U : Nat → Prop} {f : Nat} : Rc n U f f := fun _ h _ => h
theorem Rc.st {n : Nat} {U : Nat → Prop} {f a j d : Nat} (h : Rc n U f a) (hj : j < 4) (hd : nbr n a j = some d) (hU : U d) : Rc n U f d := fun S h1 h2 => h2 a j d (h S h1 h2) hj hd hU
def LFl : List (Nat × Option Nat) := [(73, none), (74, none)]
/-- what the flood knows: R lists what it has met -/
def flI (n f : Nat) (U : Nat → Prop) (s0 s1 : Mm) (R : Nat → Nat) (m : Nat) : Prop :=
  Fr LFl s0 s1 ∧ 1 ≤ m ∧ m ≤ 256 ∧ R 0 = f ∧ (∀ i, i < m → isC n (R i) ∧ s1.1 74 i = nI (R i) ∧ Rc n U f (R i)) ∧ (∀ i j, i < j → j < m → R i ≠ R j) ∧ (∀ i, 1 ≤ i → i < m → U (R i)) ∧ (∀ c, c < 256 → (∃ i, i < m ∧ R i = c) → s1.1 73 c = nI f) ∧ (∀ c, (¬ ∃ i, i < m ∧ R i = c) → s1.1 73 c = s0.1 73 c)
theorem nI_inj {a b : Nat} (ha : a < 2147483648) (hb : b < 2147483648) (h : nI a = nI b) : a = b := (nI_eq ha hb).mp h
theorem nI_nm1 {a : Nat} (ha : a < 2147483648) : ¬ nI a = -1 := fun e => by
  have h := congrArg Int32.toInt e
  rw [nI_T ha, i_m1] at h
  omega
theorem fl_inner {n f : Nat} {b : Bool} {wo : Int32} {U : Nat → Prop} {s0 : Mm} {P : Int32 × Mm → Prop} (k20 : Int32 → Int32 → Int32 → Int32 → Int32 → Mm → Option (Int32 × Mm)) (hn : s0.1 58 0 = nI n) (hn2 : n ≤ 16) (hf : f < 256) (p : Nat → Bool) (hp : ∀ c, c < 256 → s0.1 72 c = bI (p c)) (hU : ∀ c, c < 256 → (U c ↔ (p c = b ∧ ¬ nI c = wo ∧ s0.1 73 c = -1 ∧ c ≠ f)))
    (q : Nat) (h256 : ∀ R m s1, flI n f U s0 s1 R m → q < m → (∀ i, i ≤ q → ∀ j d, j < 4 → nbr n (R i) j = some d → U d → ∃ i2, i2 < m ∧ R i2 = d) → Ok (k20 (nI f) (bI b) wo (nI m) (nI (q + 1)) s1) P) :
    ∀ (r k N : Nat) (R : Nat → Nat) (m : Nat) (s1 : Mm), k + r = 4 → r + 1 ≤ N → flI n f U s0 s1 R m → q < m → (∀ i, i < q → ∀ j d, j < 4 → nbr n (R i) j = some d → U d → ∃ i2, i2 < m ∧ R i2 = d) → (∀ j d, j < k → nbr n (R q) j = some d → U d → ∃ i2, i2 < m ∧ R i2 = d) → Ok (f_m_floods_30 k20 N (nI f) (bI b) wo (nI m) (nI q) (nI k) s1) P := by
  intro r
  induction r with
  | zero =>
    intro k N R m s1 hk hN hI hq hcl hcq
    obtain ⟨N, rfl⟩ := nat_suc hN
    have ek : k = 4 := by omega
    subst ek
    show Ok (b_m_floods_30 k20 (f_m_floods_30 k20 N) (nI f) (bI b) wo (nI m) (nI q) (nI 4) s1) P
    unfold b_m_floods_30 b_m_floods_117
    refine ok_t (by decide) (ok_lt ?_)
    rw [nI_1]
    refine h256 R m s1 hI hq (fun i hi j d hj hd hu => ?_)
    rcases Nat.lt_or_ge i q with h | h
    · exact hcl i h j d hj hd hu
    · have e : i = q := by omega
      subst e
      exact hcq j d hj hd hu
  | succ r ih =>
    intro k N R m s1 hk hN hI hq hcl hcq
    obtain ⟨N, rfl⟩ := nat_suc hN
    show Ok (b_m_floods_30 k20 (f_m_floods_30 k20 N) (nI f) (bI b) wo (nI m) (nI q) (nI k) s1) P
    obtain ⟨hF, hm1, hm2, hR0, hR, hinj, hRU, hlo, hlo2⟩ := id hI
    obtain ⟨hCq, erow, hRq⟩ := hR q hq
    unfold b_m_floods_30
    refine ok_f (show ¬ nI 4 ≤ nI k by rw [nI_leI (by omega) (by omega)]; omega) ?_
    refine ok_t (inb_nI (by omega) (by omega)) ?_
    rw [cl_nI (by omega), erow, m_beside_eq (by rw [hF 58 0 rfl]; exact hn) hn2 hCq (by omega)]
    refine ok_bind (ok_some ?_)
    have next : (∀ d, nbr n (R q) k = some d → U d → ∃ i2, i2 < m ∧ R i2 = d) → Ok (f_m_floods_30 k20 N (nI f) (bI b) wo (nI m) (nI q) (nI (k + 1)) s1) P := by
      intro hd
      refine ih (k + 1) N R m s1 (by omega) (by omega) hI hq hcl (fun j d hj hnb hu => ?_)
      rcases Nat.lt_or_ge j k with h | h
      · exact hcq j d h hnb hu
      · have e : j = k := by omega
        subst e
        exact hd d hnb hu
    cases hnb : nbr n (R q) k with
    | none =>
      refine ok_t rfl (ok_lt ?_)
      rw [nI_1]
      exact next (fun d hd => by rw [hnb] at hd; cases hd)
    | some d =>
      have hCd := nbr_C hn2 hCq hnb
      have hd256 := hCd.1
      have nxt : ¬ U d ∨ (∃ i2, i2 < m ∧ R i2 = d) → Ok (f_m_floods_30 k20 N (nI f) (bI b) wo (nI m) (nI q) (nI (k + 1)) s1) P := by
        intro hor
        refine next (fun d2 hd2 hu => ?_)
        rw [hnb] at hd2
        cases hd2
        rcases hor with h | h
        · exact absurd hu h
        · exact h
      refine ok_f (nI_nm1 (by omega)) ?_
      refine ok_if (fun c1 => ok_lt ?_) (fun c1 => ?_)
      · rw [nI_1]
        exact nxt (Or.inl (fun hu => ((hU d hd256).mp hu).2.1 c1))
      · have hib : inb (nI d) 256 := inb_nI hd256 (by omega)
        refine ok_t hib ?_
        show Ok (if s1.1 72 (nI d).toNatClampNeg = bI b then _ else _) P
        rw [cl_nI (by omega), hF 72 d (by simp [inL, LFl]), hp d hd256]
        refine ok_if (fun c2 => ok_t hib ?_) (fun c2 => ok_lt ?_)
        · show Ok (if s1.1 73 (nI d).toNatClampNeg = -1 then _ else _) P
          rw [cl_nI (by omega)]
          by_cases hv : ∃ i2, i2 < m ∧ R i2 = d
          · rw [hlo d hd256 hv]
            refine ok_f (nI_nm1 (by omega)) (ok_lt ?_)
            rw [nI_1]
            exact nxt (Or.inr hv)
          · rw [hlo2 d hv]
            refine ok_if (fun c3 => ok_t hib ?_) (fun c3 => ok_lt ?_)
            · have hdf : d ≠ f := fun e => hv ⟨0, by omega, by rw [hR0, e]⟩
              have hUd : U d := (hU d hd256).mpr ⟨by cases b <;> cases hpd : p d <;> rw [hpd] at c2 <;> first | rfl | (exact absurd c2 (by decide)), c1, c3, hdf⟩
              obtain ⟨R2, hR2⟩ : ∃ z : Nat → Nat, z = fun i => if i = m then d else R i := ⟨_, rfl⟩
              have r2m : R2 m = d := by rw [hR2]; exact if_pos rfl
              have r2o : ∀ i, i < m → R2 i = R i := fun i hi => by rw [hR2]; exact if_neg (by omega)
              have hinj2 : ∀ i j, i < j → j < m + 1 → R2 i ≠ R2 j := by
                intro i j hij hj
                rcases Nat.lt_or_ge j m with h | h
                · rw [r2o i (by omega), r2o j h]
                  exact hinj i j hij h
                · have e : j = m := by omega
                  subst e
                  rw [r2m, r2o i hij]
                  exact fun e => hv ⟨i, hij, e⟩
              have hm3 : m + 1 ≤ 256 := fb_holes 256 (m + 1) R2 (fun i hi => by
                rcases Nat.lt_or_ge i m with h | h
                · rw [r2o i h]; exact (hR i h).1.1
                · have e : i = m := by omega
                  subst e
                  rw [r2m]; exact hd256) hinj2
              refine ok_t (inb_nI (by omega) (by omega)) (ok_lt (ok_lt ?_))
              have eod : (oI (some d)).toNatClampNeg = d := cl_nI (show d < 2147483648 by omega)
              rw [nI_1, nI_1, cl_nI (show m < 2147483648 by omega), eod]
              refine ih (k + 1) N R2 (m + 1) _ (by omega) (by omega) ⟨?_, by omega, hm3, ?_, ?_, hinj2, ?_, ?_, ?_⟩ (by omega) ?_ ?_
              · exact (hF.sI (by simp [inL, LFl])).sI (by simp [inL, LFl])
              · rw [r2o 0 (by omega)]; exact hR0
              · intro i hi
                rcases Nat.lt_or_ge i m with h | h
                · rw [r2o i h]
                  refine ⟨(hR i h).1, ?_, (hR i h).2.2⟩
                  rw [sI_at, sI_at]
                  simp only [show ¬ i = m by omega, and_false, reduceIte, Nat.reduceEqDiff, false_and]
                  exact (hR i h).2.1
                · have e : i = m := by omega
                  subst e
                  rw [r2m]
                  exact ⟨hCd, sI_self _ _ _ _, hRq.st (by omega) hnb hUd⟩
              · intro i h1 hi
                rcases Nat.lt_or_ge i m with h | h
                · rw [r2o i h]; exact hRU i h1 h
                · have e : i = m := by omega
                  subst e
                  rw [r2m]; exact hUd
              · intro c hc hex
                rw [sI_row _ _ _ _ (by decide), sI_at]
                by_cases hcd : c = d
                · simp [hcd]
                · simp only [hcd, and_false, reduceIte]
                  obtain ⟨i, hi, e⟩ := hex
                  rcases Nat.lt_or_ge i m with h | h
                  · exact hlo c hc ⟨i, h, by rw [← r2o i h]; exact e⟩
                  · have e2 : i = m := by omega
                    subst e2
                    rw [r2m] at e
                    exact absurd e.symm hcd
              · intro c hex
                rw [sI_row _ _ _ _ (by decide), sI_at]
                have hcd : ¬ c = d := fun e => hex ⟨m, by omega, by rw [r2m, e]⟩
                simp only [hcd, and_false, reduceIte]
                exact hlo2 c (fun ⟨i, hi, e⟩ => hex ⟨i, by omega, by rw [r2o i hi]; exact e⟩)
              · intro i hi j d2 hj hd2 hu
                rw [r2o i (by omega)] at hd2
                obtain ⟨i2, h2, e2⟩ := hcl i hi j d2 hj hd2 hu
                exact ⟨i2, by omega, by rw [r2o i2 h2]; exact e2⟩
              · intro j d2 hj hd2 hu
                rw [r2o q hq] at hd2
                rcases Nat.lt_or_ge j k with h | h
                · obtain ⟨i2, h2, e2⟩ := hcq j d2 h hd2 hu
                  exact ⟨i2, by omega, by rw [r2o i2 h2]; exact e2⟩
                · have e : j = k := by omega
                  subst e
                  rw [hnb] at hd2
                  cases hd2
                  exact ⟨m, by omega, r2m⟩
            · rw [nI_1]
              exact nxt (Or.inl (fun hu => c3 ((hU d hd256).mp hu).2.2.1))
        · rw [nI_1]
          exact nxt (Or.inl (fun hu => c2 (by rw [((hU d hd256).mp hu).1])))
/-- the flood: what hangs together with f is marked, and listed -/
theorem m_floods_ok {n f : Nat} {b : Bool} {wo : Int32} {U : Nat → Prop} {s0 : Mm} {P : Int32 × Mm → Prop} (hn : s0.1 58 0 = nI n) (hn2 : n ≤ 16) (hf : isC n f) (p : Nat → Bool) (hp : ∀ c, c < 256 → s0.1 72 c = bI (p c)) (hU : ∀ c, c < 256 → (U c ↔ (p c = b ∧ ¬ nI c = wo ∧ s0.1 73 c = -1 ∧ c ≠ f)))
    (h : ∀ R m s1, flI n f U s0 s1 R m → (∀ c, (∃ i, i < m ∧ R i = c) ↔ Rc n U f c) → P (nI m, s1)) : Ok (f_m_floods (nI f) (bI b) wo s0) P := by
  have key : ∀ (r q N : Nat) (R : Nat → Nat) (m : Nat) (s1 : Mm), q + r = 256 → r + 1 ≤ N → flI n f U s0 s1 R m → q ≤ m → (∀ i, i < q → ∀ j d, j < 4 → nbr n (R i) j = some d → U d → ∃ i2, i2 < m ∧ R i2 = d) → Ok (f_m_floods_20 N (nI f) (bI b) wo (nI m) (nI q) s1) P := by
    have fin : ∀ (q N : Nat) (R : Nat → Nat) (m : Nat) (s1 : Mm), flI n f U s0 s1 R m → q = m → (∀ i, i < q → ∀ j d, j < 4 → nbr n (R i) j = some d → U d → ∃ i2, i2 < m ∧ R i2 = d) → Ok (f_m_floods_20 (N + 1) (nI f) (bI b) wo (nI m) (nI q) s1) P := by
      intro q N R m s1 hI hq hcl
      subst hq
      show Ok (b_m_floods_20 (f_m_floods_20 N) (nI f) (bI b) wo (nI q) (nI q) s1) P
      unfold b_m_floods_20
      refine ok_t (Int32.le_refl _) (ok_some (h R q s1 hI (fun c => ⟨?_, ?_⟩)))
      · rintro ⟨i, hi, rfl⟩
        exact (hI.2.2.2.2.1 i hi).2.2
      · intro hc
        refine hc (fun c => ∃ i, i < q ∧ R i = c) ⟨0, by have := hI.2.1; omega, hI.2.2.2.1⟩ ?_
        rintro a j d ⟨i, hi, rfl⟩ hj hd hu
        exact hcl i hi j d hj hd hu
    intro r
    induction r with
    | zero =>
      intro q N R m s1 hr hN hI hq hcl
      obtain ⟨N, rfl⟩ := nat_suc hN
      exact fin q N R m s1 hI (by have := hI.2.2.1; omega) hcl
    | succ r ih =>
      intro q N R m s1 hr hN hI hq hcl
      obtain ⟨N, rfl⟩ := nat_suc hN
      rcases Nat.lt_or_ge q m with hlt | hge
      · have hm := hI.2.2.1
        show Ok (b_m_floods_20 (f_m_floods_20 N) (nI f) (bI b) wo (nI m) (nI q) s1) P
        unfold b_m_floods_20
        refine ok_f (by rw [nI_leI (by omega) (by omega)]; omega) ?_
        refine fl_inner (f_m_floods_20 N) hn hn2 hf.1 p hp hU q (fun R2 m2 s2 hI2 hq2 hcl2 => ih (q + 1) N R2 m2 s2 (by omega) (by omega) hI2 (by omega) (fun i hi => hcl2 i (by omega))) 4 0 1000000 R m s1 (by omega) (by omega) hI hlt hcl (fun j d hj => by omega)
      · exact fin q N R m s1 hI (by omega) hcl
  unfold f_m_floods
  refine ok_t (inb_nI hf.1 (by omega)) ?_
  rw [cl_nI (by have := hf.1; omega)]
  have hf256 := hf.1
  refine key 256 0 1000000 (fun _ => f) 1 _ (by omega) (by omega) ⟨?_, by omega, by omega, rfl, ?_, ?_, ?_, ?_, ?_⟩ (by omega) (fun i hi => by omega)
  · exact (Fr.rf.sI (by simp [inL, LFl])).sI (by simp [inL, LFl])
  · intro i hi
    have e : i = 0 := by omega
    subst e
    refine ⟨hf, ?_, Rc.rf⟩
    rw [sI_row _ _ _ _ (by decide)]
    exact sI_self _ _ _ _
  · intro i j h1 h2; omega
  · intro i h1 h2; omega
  · rintro c hc ⟨i, hi, rfl⟩
    exact sI_self _ _ _ _
  · intro c hex
    have hcf : ¬ c = f := fun e => hex ⟨0, by omega, e.symm⟩
    rw [sI_at]
    simp only [hcf, and_false, reduceIte]
    rw [sI_row _ _ _ _ (by decide)]
