def LPc : List (Nat × Option Nat) := [(73, none), (74, none), (58, some 39), (58, some 40), (58, some 41)]
theorem szc_le (n : Nat) (p : Nat → Bool) (r : Nat) : szc n p r ≤ 256 := fb_ct_le _ _
theorem mnM_le (n : Nat) (p : Nat → Bool) : ∀ k, mnM n p k ≤ 256
  | 0 => Nat.zero_le _
  | k + 1 => by
    have h1 := mnM_le n p k
    have h2 := szc_le n p k
    rw [mnM]
    split <;> assumption
theorem pcs_skip {n : Nat} {p : Nat → Bool} {k : Nat} {a : Mm} (h : pcs n p k a) (hk : isRt n p k = false) : pcs n p (k + 1) a := by
  obtain ⟨h1, h2, h3, h4, h5, h6⟩ := h
  refine ⟨h1, fun c hc hd => h2 c hc (fun d hd2 => hd d (by omega)), fun c r hc hr hrt hco => ?_, ?_, ?_, ?_⟩
  · rcases Nat.lt_or_ge r k with h | h
    · exact h3 c r hc h hrt hco
    · have e : r = k := by omega
      subst e
      rw [hk] at hrt; cases hrt
  · rw [fb_ct_succ, hk]; exact h4
  · rw [mnM, hk]; exact h5
  · rw [mnL, hk]; exact h6
theorem m_laysPieces_ok {st : Mm} {n : Nat} {p : Nat → Bool} {P : Unit × Mm → Prop} (hn : st.1 58 0 = nI n) (hp : pIn n p) (hpap : ∀ c, c < 256 → st.1 72 c = bI (p c)) (h : ∀ s2, Fr LPc st s2 → pcs n p 256 s2 → P ((), s2)) : Ok (f_m_laysPieces st) P := by
  unfold f_m_laysPieces
  refine ok_bind (m_forgets_ok (fun s0 hF0 hl0 => ?_))
  have z0 : pcs n p 0 (sI (sI (sI s0 58 39 0) 58 40 0) 58 41 (-1)) := by
    refine ⟨fun c hc _ => ?_, fun c hc _ => ?_, fun c r _ hr => by omega, ?_, ?_, ?_⟩
    · rw [sI_row _ _ _ _ (by decide), sI_row _ _ _ _ (by decide), sI_row _ _ _ _ (by decide)]; exact hl0 c hc
    · rw [sI_row _ _ _ _ (by decide), sI_row _ _ _ _ (by decide), sI_row _ _ _ _ (by decide)]; exact hl0 c (hp.2 c hc).1
    · rw [sI_col _ _ _ _ (by decide), sI_col _ _ _ _ (by decide), sI_self]; rfl
    · rw [sI_col _ _ _ _ (by decide), sI_self]; rfl
    · rw [sI_self]; rfl
  refine ok_up0 f_m_laysPieces_21 (fun k a => Fr LPc st a ∧ pcs n p k a) P 256 (by omega) ⟨(((hF0.wk (by decide)).sI rfl).sI rfl).sI rfl, z0⟩ ?_ ?_
  · intro N i a hi hI ih
    obtain ⟨hF, hpc⟩ := hI
    show Ok (b_m_laysPieces_21 (f_m_laysPieces_21 N) (nI i) a) P
    unfold b_m_laysPieces_21
    have hib : inb (nI i) 256 := inb_nI hi (by omega)
    refine ok_f (n256 hi) (ok_t hib ?_)
    have hpa : ∀ c, c < 256 → a.1 72 c = bI (p c) := fun c hc => by rw [hF 72 c (by simp [inL, LPc])]; exact hpap c hc
    rw [cl_nI (by omega), hpa i hi]
    cases hpi : p i with
    | false =>
      refine ok_t rfl (ok_lt ?_)
      rw [nI_1]
      exact ih a ⟨hF, pcs_skip hpc (by simp [isRt, hpi])⟩
    | true =>
      refine ok_f (show ¬ bI true = 0 by decide) (ok_t hib ?_)
      obtain ⟨h1, h2, h3, h4, h5, h6⟩ := id hpc
      refine ok_if (fun c1 => ?_) (fun c1 => ok_lt ?_)
      · have hrt : isRt n p i = true := by
          refine isRt_iff.mpr ⟨hpi, fun d hd hpd hco => ?_⟩
          obtain ⟨r, hr1, hr2, hr3⟩ := rt_of hp hpd
          rw [h3 i r hpi (by omega) hr2 (hr3.tr hco)] at c1
          exact nI_nm1 (by omega) c1
        have hno := (isRt_iff.mp hrt).2
        have hCi := hp.2 i hpi
        refine ok_bind (m_floods_ok (U := fun c => p c = true ∧ ¬ nI c = (-1 : Int32) ∧ a.1 73 c = -1 ∧ c ≠ i) (b := true) (by rw [hF 58 0 rfl]; exact hn) hp.1 hCi p hpa (fun c hc => Iff.rfl) (fun R m s1 hfl hset => ?_))
        have hUC : ∀ c, Rc n (fun c => p c = true ∧ ¬ nI c = (-1 : Int32) ∧ a.1 73 c = -1 ∧ c ≠ i) i c ↔ Co n p i c := by
          intro c
          constructor
          · intro hc
            exact hc (fun d => Co n p i d) Rc.rf (fun x j d hx hj hd hu => Rc.st hx hj hd hu.1)
          · intro hc
            have hh : Co n p i c ∧ Rc n (fun c => p c = true ∧ ¬ nI c = (-1 : Int32) ∧ a.1 73 c = -1 ∧ c ≠ i) i c := by
              refine hc (fun d => Co n p i d ∧ Rc n (fun c => p c = true ∧ ¬ nI c = (-1 : Int32) ∧ a.1 73 c = -1 ∧ c ≠ i) i d) ⟨Rc.rf, Rc.rf⟩ ?_
              rintro x j d ⟨hx1, hx2⟩ hj hd hu
              have hid : Co n p i d := Rc.st hx1 hj hd hu
              refine ⟨hid, ?_⟩
              by_cases hdi : d = i
              · subst hdi; exact Rc.rf
              · have hd256 := (hp.2 d hu).1
                refine hx2.st hj hd ⟨hu, nI_nm1 (by omega), h2 d hu (fun e he hpe hco => ?_), hdi⟩
                exact hno e he hpe (hco.tr (hid.sy hp hpi))
            exact hh.2
        obtain ⟨g1, g2, g3, g4, g5, g6, g7, g8, g9⟩ := hfl
        have hm : szc n p i = m := enum_ct m R _ 256 (fun k hk => (g5 k hk).1.1) g6 (fun c hc => by rw [cn_iff, ← hUC, ← hset])
        have s39 : s1.1 58 39 = nI (fb_ct (isRt n p) i) := by rw [g1 58 39 rfl]; exact h4
        have s40 : s1.1 58 40 = nI (mnM n p i) := by rw [g1 58 40 rfl]; exact h5
        have s41 : s1.1 58 41 = oI (mnL n p i) := by rw [g1 58 41 rfl]; exact h6
        have hFs : Fr LPc st s1 := hF.tr (g1.wk (by decide))
        have hmm := mnM_le n p i
        -- the rows of what is lowest, behind the flood
        have low1 : ∀ c, c < 256 → p c = false → s1.1 73 c = -1 := by
          intro c hc hpc2
          have hne : ¬ ∃ k, k < m ∧ R k = c := fun hex => by
            have := ((hUC c).mp ((hset c).mp hex)).p hpi
            rw [hpc2] at this; cases this
          rw [g9 c hne]; exact h1 c hc hpc2
        have low2 : ∀ c, p c = true → (∀ d, d < i + 1 → p d = true → ¬ Co n p d c) → s1.1 73 c = -1 := by
          intro c hpc2 hd
          have hne : ¬ ∃ k, k < m ∧ R k = c := fun hex => hd i (by omega) hpi ((hUC c).mp ((hset c).mp hex))
          rw [g9 c hne]; exact h2 c hpc2 (fun d hd2 => hd d (by omega))
        have low3 : ∀ c r, p c = true → r < i + 1 → isRt n p r = true → Co n p r c → s1.1 73 c = nI r := by
          intro c r hpc2 hr hrr hco
          rcases Nat.lt_or_ge r i with hlt | hge
          · have hne : ¬ ∃ k, k < m ∧ R k = c := fun hex => by
              have := rt_one hp hrr hrt hco ((hUC c).mp ((hset c).mp hex))
              omega
            rw [g9 c hne]; exact h3 c r hpc2 hlt hrr hco
          · have e : r = i := by omega
            subst e
            exact g8 c (hp.2 c hpc2).1 ((hset c).mpr ((hUC c).mpr hco))
        refine ok_lt ?_
        have e39 : s1.1 58 39 + (1 : Int32) = nI (fb_ct (isRt n p) (i + 1)) := by rw [s39, nI_1, fb_ct_succ, hrt]; rfl
        show Ok (if (sI s1 58 39 (s1.1 58 39 + 1)).1 58 40 < nI m then _ else _) P
        rw [e39, sI_col _ _ _ _ (by decide), s40]
        refine ok_if (fun c2 => ok_lt ?_) (fun c2 => ok_lt ?_)
        · rw [nI_1]
          have hlt : mnM n p i < szc n p i := by rw [hm]; exact (nI_ltI (by omega) (by omega)).mp c2
          refine ih _ ⟨((hFs.sI rfl).sI rfl).sI rfl, ?_, ?_, ?_, ?_, ?_, ?_⟩
          · intro c hc hpc2
            rw [sI_row _ _ _ _ (by decide), sI_row _ _ _ _ (by decide), sI_row _ _ _ _ (by decide)]; exact low1 c hc hpc2
          · intro c hpc2 hd
            rw [sI_row _ _ _ _ (by decide), sI_row _ _ _ _ (by decide), sI_row _ _ _ _ (by decide)]; exact low2 c hpc2 hd
          · intro c r hpc2 hr hrr hco
            rw [sI_row _ _ _ _ (by decide), sI_row _ _ _ _ (by decide), sI_row _ _ _ _ (by decide)]; exact low3 c r hpc2 hr hrr hco
          · rw [sI_col _ _ _ _ (by decide), sI_col _ _ _ _ (by decide), sI_self]
          · rw [sI_col _ _ _ _ (by decide), sI_self, mnM, hrt, decide_eq_true hlt, hm]; rfl
          · rw [sI_self, mnL, hrt, decide_eq_true hlt]; rfl
        · rw [nI_1]
          have hnl : ¬ mnM n p i < szc n p i := by rw [hm]; exact fun z => c2 ((nI_ltI (by omega) (by omega)).mpr z)
          refine ih _ ⟨hFs.sI rfl, ?_, ?_, ?_, ?_, ?_, ?_⟩
          · intro c hc hpc2
            rw [sI_row _ _ _ _ (by decide)]; exact low1 c hc hpc2
          · intro c hpc2 hd
            rw [sI_row _ _ _ _ (by decide)]; exact low2 c hpc2 hd
          · intro c r hpc2 hr hrr hco
            rw [sI_row _ _ _ _ (by decide)]; exact low3 c r hpc2 hr hrr hco
          · rw [sI_self]
          · rw [sI_col _ _ _ _ (by decide), s40, mnM, hrt, decide_eq_false hnl]; rfl
          · rw [sI_col _ _ _ _ (by decide), s41, mnL, hrt, decide_eq_false hnl]; rfl
      · rw [nI_1]
        refine ih a ⟨hF, pcs_skip hpc ?_⟩
        cases hr : isRt n p i with
        | false => rfl
        | true => exact absurd (h2 i hpi (isRt_iff.mp hr).2) c1
  · intro N a hI
    show Ok (b_m_laysPieces_21 (f_m_laysPieces_21 N) (nI 256) a) P
    unfold b_m_laysPieces_21
    exact ok_t (by decide) (ok_some (h a hI.1 hI.2))
