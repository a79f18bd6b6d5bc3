/-! recipe: a snip by a condition -/
def fcS (v : Wd) (l : List Nat) (n cn k : Nat) : Nat → Int32 := fun j => if j = 0 then nI (k % 16) else if j = 1 then nI (k / 16) else if j = 2 then nI v.1 else if j = 3 then nI v.2.1 else if j = 4 then nI (layN v l (k % 16) (k / 16)) else if j = 5 then nI cn else nI n
def kS (v : Wd) (n cn : Nat) : Nat → Nat := fun j => if j = 2 then v.1 else if j = 3 then v.2.1 else if j = 5 then cn else n
def askB (v : Wd) (l : List Nat) (n cn : Nat) (f : Nat → Nat × Nat) (L k : Nat) : Bool := pcv v k && evC f (fcS v l n cn k) L (L + 1) 0 0 (fun _ => 0) false
def LHc : List (Nat × Option Nat) := [(17, some 4), (17, some 5), (17, some 6), (20, none), (23, none)]
theorem x_holdsAt_ok {s : Mm} {K : Nat → Nat} {f : Nat → Nat × Nat} {L : Nat} {fc : Nat → Int32} {v1 v2 v3 : Int32} (hC : CdO f L) (h3 : s.1 17 3 = nI L) (h18 : ∀ j, j < L → s.1 18 j = nI (eS (f j)) ∧ s.1 19 j = nI (eV K (f j))) (f0 : fc 0 = v1) (f1 : fc 1 = v2) (f4 : fc 4 = v3) (f2 : fc 2 = nI (K 2)) (ff3 : fc 3 = nI (K 3)) (f5 : fc 5 = nI (K 5)) (f6 : fc 6 = nI (K 6)) : Ok (f_Cond_holdsAt v1 v2 v3 s) (fun q => q.1 = bI (evC f fc L (L + 1) 0 0 (fun _ => 0) false) ∧ Fr LHs s q.2) := by
  have hL := hC.1
  unfold f_Cond_holdsAt
  refine x_evC_ok (K := K) hC h3 h18 f0 f1 f4 f2 ff3 f5 f6 (L + 1) 0 0 (fun _ => 0) false 0 1000000 _ 0 (by omega) (by omega) rfl (fun e => by omega) (fun _ => rfl) ?_ (by omega) (by omega)
  refine ⟨((Fr.rf.sI rfl).sI rfl).sI rfl, ?_, ?_, sI_self _ _ _ _, fun j hj => by omega⟩
  · rw [sI_col _ _ _ _ (by decide), sI_col _ _ _ _ (by decide), sI_self]; rfl
  · rw [sI_col _ _ _ _ (by decide), sI_self]; rfl
theorem x_ask_ok {s0 : Mm} {n cn : Nat} {l : List Nat} {sl : Nat → Nat} {v : Wd} {f : Nat → Nat × Nat} {L : Nat} {cut : Nat → Bool} {P : Unit × Mm → Prop} (hC : CdO f L) (hS : FoS s0 14 15 16 n l sl v) (h3 : s0.1 17 3 = nI L) (h18 : ∀ j, j < L → s0.1 18 j = nI (eS (f j)) ∧ s0.1 19 j = nI (eV (kS v n cn) (f j))) (h7 : s0.1 13 7 = 0) (hcut : Rw (s0.1 23) cut)
    (hP : ∀ s2, Fr LHc s0 s2 → Rw (s2.1 23) (fun k => cut k || askB v l n cn f L k) → P ((), s2)) : Ok (f_Rdr_readWhere_26 1000000 0 s0) P := by
  obtain ⟨b1, b2, b3, _⟩ := hS.b
  have kS' : ∀ s, Fr LHc s0 s → FoS s 14 15 16 n l sl v := fun s hF => hS.same (fun j => hF _ j rfl) (fun j => hF _ j rfl) (fun j => hF _ j rfl)
  refine ok_grid (α := Mm) (fun m y a => f_Rdr_readWhere_26 m y a) (fun k m y x a => f_Rdr_readWhere_46 k m y x a) (fun y x a => Fr LHc s0 a ∧ Rw (a.1 23) (fun k => cut k || (decide (k < 16 * y + x) && askB v l n cn f L k))) P v.2.1 v.1 ?_ ?_ ?_ ?_ (by omega) (by omega) (a := s0) ⟨Fr.rf, hcut.cg2 (fun k _ => by simp)⟩
  · rintro k m y x a hy hx ⟨hF, hR⟩ ih
    show Ok (b_Rdr_readWhere_46 k (f_Rdr_readWhere_46 k m) (nI y) (nI x) a) P
    unfold b_Rdr_readWhere_46
    have hSa := kS' a hF
    have em : (16 * y + x) % 16 = x := by omega
    have ed : (16 * y + x) / 16 = y := by omega
    have ep : pcv v (16 * y + x) = isP v x y := by unfold pcv; rw [em, ed]
    have skp : askB v l n cn f L (16 * y + x) = false → ∀ b, Fr LHc s0 b → b.1 23 = a.1 23 → Ok (f_Rdr_readWhere_46 k m (nI y) (nI (x + 1)) b) P := fun hno b hb e23 => ih b ⟨hb, by
      rw [e23]
      exact hR.cg2 (fun j _ => by
        by_cases e : j = 16 * y + x
        · rw [e, hno, Bool.and_false, Bool.and_false]
        · rw [show decide (j < 16 * y + (x + 1)) = decide (j < 16 * y + x) from by
            by_cases g : j < 16 * y + x
            · rw [decide_eq_true g, decide_eq_true (by omega)]
            · rw [decide_eq_false g, decide_eq_false (by omega)]])⟩
    rw [hSa.2.1]
    refine ok_f (nI_ge hx (by omega)) (ok_bind (ok_eq (x_holds_nat hSa (by omega) (by omega)) ?_))
    refine okc_b (isP v x y) (fun hp => ok_lt ?_) (fun hp => ?_) rfl
    · rw [nI_1]
      exact skp (by unfold askB; rw [ep, hp]; rfl) a hF rfl
    · refine ok_bind (ok_eq (x_thick_eq hSa (by omega) (by omega)) ?_)
      refine ok_bind (ok_mono (x_holdsAt_ok (K := kS v n cn) (fc := fcS v l n cn (16 * y + x)) hC (by rw [hF 17 3 rfl]; exact h3) (fun j hj => by rw [hF 18 j rfl, hF 19 j rfl]; exact h18 j hj) (by show nI ((16 * y + x) % 16) = nI x; rw [em]) (by show nI ((16 * y + x) / 16) = nI y; rw [ed]) (by show nI (layN v l ((16 * y + x) % 16) ((16 * y + x) / 16)) = _; rw [em, ed]) rfl rfl rfl rfl) ?_)
      rintro q ⟨e1, hFq⟩
      have hFq2 : Fr LHc s0 q.2 := hF.tr (hFq.wk (by decide))
      have e23 : q.2.1 23 = a.1 23 := funext (fun j => hFq 23 j rfl)
      have easkB : askB v l n cn f L (16 * y + x) = evC f (fcS v l n cn (16 * y + x)) L (L + 1) 0 0 (fun _ => 0) false := by unfold askB; rw [ep, hp, Bool.true_and]
      refine okc_b _ (fun hb => ok_lt ?_) (fun hb => ?_) e1
      · rw [nI_1]
        exact skp (by rw [easkB]; exact hb) q.2 hFq2 e23
      · have hyb : inb (nI y) 16 := inb_nI (by omega) (by omega)
        refine ok_t hyb (ok_lt (ok_t hyb (ok_lt ?_)))
        rw [nI_1, cl_nI (by omega)]
        refine ih _ ⟨hFq2.sI (by simp [inL, LHc]), ?_⟩
        rw [sI_own, e23]
        refine (hR.orb (show y < 16 by omega) (show x < 16 by omega)).cg2 (fun j _ => ?_)
        by_cases e : j = 16 * y + x
        · rw [if_pos e, e, easkB, hb, decide_eq_true (by omega)]; simp
        · rw [if_neg e, show decide (j < 16 * y + (x + 1)) = decide (j < 16 * y + x) from by
            by_cases g : j < 16 * y + x
            · rw [decide_eq_true g, decide_eq_true (by omega)]
            · rw [decide_eq_false g, decide_eq_false (by omega)]]
  · rintro k m y a hy ⟨hF, hR⟩ ih
    show Ok (b_Rdr_readWhere_46 k (f_Rdr_readWhere_46 k m) (nI y) (nI v.1) a) P
    unfold b_Rdr_readWhere_46 b_Rdr_readWhere_108
    rw [(kS' a hF).2.1]
    refine ok_t (Int32.le_refl _) (ok_lt ?_)
    rw [nI_1]
    refine ih a ⟨hF, hR.cg2 (fun j hj => ?_)⟩
    by_cases hp : pcv v j = true
    · have := pcv_lt hp
      by_cases g : j < 16 * y + v.1
      · rw [decide_eq_true g, decide_eq_true (by omega)]
      · rw [decide_eq_false g, decide_eq_false (by omega)]
    · have e : askB v l n cn f L j = false := by
        unfold askB
        cases h : pcv v j with
        | false => rfl
        | true => exact absurd h hp
      rw [e, Bool.and_false, Bool.and_false]
  · rintro m y a hy ⟨hF, hR⟩ ih
    show Ok (b_Rdr_readWhere_26 (f_Rdr_readWhere_26 m) (nI y) a) P
    unfold b_Rdr_readWhere_26
    rw [(kS' a hF).2.2.1, hF 13 7 rfl, h7]
    exact ok_f (nI_ge hy (by omega)) (ok_t rfl ih)
  · rintro m a ⟨hF, hR⟩
    show Ok (b_Rdr_readWhere_26 (f_Rdr_readWhere_26 m) (nI v.2.1) a) P
    unfold b_Rdr_readWhere_26
    rw [(kS' a hF).2.2.1]
    refine ok_t (Int32.le_refl _) (ok_some (hP a hF (hR.cg2 (fun j hj => ?_))))
    by_cases hp : pcv v j = true
    · have := pcv_lt hp
      rw [decide_eq_true (show j < 16 * v.2.1 + 0 by omega), Bool.true_and]
    · have e : askB v l n cn f L j = false := by
        unfold askB
        cases h : pcv v j with
        | false => rfl
        | true => exact absurd h hp
      rw [e, Bool.and_false]
/-! the reference's -/
def LMc : List (Nat × Option Nat) := [(68, none), (69, none), (70, none), (71, none)]
theorem m_comesTo_ok {s : Mm} {f : Nat → Nat × Nat} {L : Nat} {fc : Nat → Int32} (hC : CdO f L) (h68 : ∀ j, j < L → s.1 68 j = enw (f j)) (hfc : ∀ j, j < 7 → s.1 71 j = fc j) : Ok (f_m_comesTo 0 (nI L) s) (fun q => q.1 = bI (evC f fc L (L + 1) 0 0 (fun _ => 0) false) ∧ Fr [(70, none)] s q.2) := by
  have hL := hC.1
  unfold f_m_comesTo
  refine ok_lt ?_
  rw [show (180 : Int32) * ((0 : Int32) / (180 : Int32)) = 0 from by decide]
  exact m_evC_ok hC h68 hfc (L + 1) 0 0 (fun _ => 0) false 1000000 s 0 (by omega) (by omega) rfl (fun e => by omega) (fun _ => rfl) ⟨Fr.rf, fun _ j hj => by omega, fun e => by omega⟩ (by omega)
theorem m_ask_ok {s0 : Mm} {n cn : Nat} {l : List Nat} {v : Wd} {f : Nat → Nat × Nat} {L : Nat} {cut : Nat → Bool} {P : Int32 × Mm → Prop} (hC : CdO f L) (hW : mW s0 v) (h1 : v.1 ≤ 16) (h2 : v.2.1 ≤ 16) (h3 : v.2.2 ≤ 1) (h0 : s0.1 58 0 = nI n) (hcn : s0.1 58 27 = nI cn) (hly : ∀ k, k < 256 → pcv v k = true → s0.1 64 k = nI (layN v l (k % 16) (k / 16))) (h24 : s0.1 58 24 = nI L) (h66 : ∀ j, j < L → s0.1 66 j = enw (f j)) (hcut : ∀ k, k < 256 → s0.1 69 k = bI (cut k))
    (hP : ∀ s2, Fr LMc s0 s2 → (∀ k, k < 256 → s2.1 69 k = bI (cut k || askB v l n cn f L k)) → P (1, s2)) : Ok (f_m_readsLawful_16 1000000 0 s0) P := by
  have hL := hC.1
  have asks : ∀ s, Fr LMc s0 s → (∀ j, j < L → s.1 68 j = enw (f j)) → (∀ k, k < 256 → s.1 69 k = bI (cut k)) → Ok (b_m_readsLawful_42 s) P := by
    intro s hFs h68 hc
    unfold b_m_readsLawful_42
    refine ok_upF (fun m i a => f_m_readsLawful_44 m i a) (fun i a => Fr LMc s0 a ∧ (∀ j, j < L → a.1 68 j = enw (f j)) ∧ ∀ k, k < 256 → a.1 69 k = bI (cut k || (decide (k < i) && askB v l n cn f L k))) P 256 (by omega) ⟨hFs, h68, fun k hk => by rw [hc k hk]; simp⟩ ?_ ?_
    · rintro m i a hi ⟨hF, ha, hR⟩ ih
      show Ok (b_m_readsLawful_44 (f_m_readsLawful_44 m) (nI i) a) P
      unfold b_m_readsLawful_44
      have hWa : mW a v := ⟨by rw [hF 58 8 rfl]; exact hW.1, by rw [hF 58 9 rfl]; exact hW.2.1, by rw [hF 58 10 rfl]; exact hW.2.2⟩
      have skp : askB v l n cn f L i = false → ∀ b, Fr LMc s0 b → (∀ j, b.1 68 j = a.1 68 j) → (∀ j, b.1 69 j = a.1 69 j) → Ok (f_m_readsLawful_44 m (nI (i + 1)) b) P := fun hno b hb e68 e69 => ih b ⟨hb, fun j hj => by rw [e68]; exact ha j hj, fun k hk => by
        rw [e69, hR k hk]
        by_cases e : k = i
        · rw [e, hno, Bool.and_false, Bool.and_false]
        · rw [show decide (k < i + 1) = decide (k < i) from by
            by_cases g : k < i
            · rw [decide_eq_true g, decide_eq_true (by omega)]
            · rw [decide_eq_false g, decide_eq_false (by omega)]]⟩
      rw [r16 (by omega), d16 (by omega)]
      refine ok_f (n256 hi) (ok_bind (ok_eq (m_isPlace_eq hWa h1 h2 h3 (by omega) (by omega)) ?_))
      refine okc_b (pcv v i) (fun hp => ok_lt ?_) (fun hp => ?_) rfl
      · rw [nI_1]
        exact skp (by unfold askB; rw [hp]; rfl) a hF (fun _ => rfl) (fun _ => rfl)
      · refine ok_lt (ok_lt (ok_lt (ok_lt (ok_t (inb_nI hi (by omega)) (ok_lt (ok_lt (ok_lt ?_)))))))
        rw [show (0 : Int32).toNatClampNeg = 0 from rfl, show (1 : Int32).toNatClampNeg = 1 from rfl, show (2 : Int32).toNatClampNeg = 2 from rfl, show (3 : Int32).toNatClampNeg = 3 from rfl, show (4 : Int32).toNatClampNeg = 4 from rfl, show (5 : Int32).toNatClampNeg = 5 from rfl, show (6 : Int32).toNatClampNeg = 6 from rfl, cl_nI (show i < 2147483648 by omega)]
        simp only [sI_row _ 71 _ _ (show 58 ≠ 71 by decide), sI_row _ 71 _ _ (show 64 ≠ 71 by decide)]
        rw [hF 58 24 rfl, h24, hWa.1, hWa.2.1, hF 64 i rfl, hly i hi hp, hF 58 27 rfl, hcn, hF 58 0 rfl, h0]
        obtain ⟨s7, es7⟩ : ∃ z, z = sI (sI (sI (sI (sI (sI (sI a 71 0 (nI (i % 16))) 71 1 (nI (i / 16))) 71 2 (nI v.1)) 71 3 (nI v.2.1)) 71 4 (nI (layN v l (i % 16) (i / 16)))) 71 5 (nI cn)) 71 6 (nI n) := ⟨_, rfl⟩
        rw [← es7]
        have f7 : ∀ c j, c ≠ 71 → s7.1 c j = a.1 c j := fun c j hc => by rw [es7]; simp only [sI_row _ 71 _ _ hc]
        have hF7 : Fr LMc s0 s7 := hF.tr (fun c j hc => f7 c j (fun e => by rw [e, inL_row (c := 71) rfl j] at hc; cases hc))
        have hfc : ∀ j, j < 7 → s7.1 71 j = fcS v l n cn i j := fun j hj => by
          rw [es7]
          unfold fcS
          simp only [sI_at, true_and]
          rcases (show j = 0 ∨ j = 1 ∨ j = 2 ∨ j = 3 ∨ j = 4 ∨ j = 5 ∨ j = 6 by omega) with rfl | rfl | rfl | rfl | rfl | rfl | rfl <;> rfl
        refine ok_bind (ok_mono (m_comesTo_ok (fc := fcS v l n cn i) hC (fun j hj => by rw [f7 68 j (by decide)]; exact ha j hj) hfc) ?_)
        rintro q ⟨e1, hFq⟩
        have hFq2 : Fr LMc s0 q.2 := hF7.tr (hFq.wk (by decide))
        have easkB : askB v l n cn f L i = evC f (fcS v l n cn i) L (L + 1) 0 0 (fun _ => 0) false := by unfold askB; rw [hp, Bool.true_and]
        have e68 : ∀ j, q.2.1 68 j = a.1 68 j := fun j => by rw [hFq 68 j rfl, f7 68 j (by decide)]
        have e69 : ∀ j, q.2.1 69 j = a.1 69 j := fun j => by rw [hFq 69 j rfl, f7 69 j (by decide)]
        rw [e1]
        cases hb : evC f (fcS v l n cn i) L (L + 1) 0 0 (fun _ => 0) false with
        | false =>
          refine ok_f (by decide) (ok_lt ?_)
          rw [nI_1]
          exact skp (by rw [easkB]; exact hb) q.2 hFq2 e68 e69
        | true =>
          refine ok_t rfl (ok_t (inb_nI hi (by omega)) (ok_lt ?_))
          rw [nI_1]
          refine ih _ ⟨hFq2.sI (by simp [inL, LMc]), fun j hj => by rw [sI_row _ _ _ _ (by decide), e68]; exact ha j hj, fun k hk => ?_⟩
          rw [sI_at]
          by_cases e : k = i
          · rw [if_pos ⟨rfl, e⟩, e, easkB, hb, decide_eq_true (by omega)]; simp [bI]
          · rw [if_neg (fun g => e g.2), e69, hR k hk, show decide (k < i + 1) = decide (k < i) from by
              by_cases g : k < i
              · rw [decide_eq_true g, decide_eq_true (by omega)]
              · rw [decide_eq_false g, decide_eq_false (by omega)]]
    · rintro m a ⟨hF, ha, hR⟩
      show Ok (b_m_readsLawful_44 (f_m_readsLawful_44 m) (nI 256) a) P
      unfold b_m_readsLawful_44
      refine ok_t (by decide) (ok_some (hP a hF (fun k hk => ?_)))
      rw [hR k hk, decide_eq_true hk, Bool.true_and]
  refine ok_upF (fun m i a => f_m_readsLawful_16 m i a) (fun i a => Fr LMc s0 a ∧ (∀ j, j < i → a.1 68 j = enw (f j)) ∧ ∀ k, k < 256 → a.1 69 k = bI (cut k)) P L (by omega) ⟨Fr.rf, fun j hj => by omega, hcut⟩ ?_ ?_
  · rintro m i a hi ⟨hF, ha, hc⟩ ih
    show Ok (b_m_readsLawful_16 (f_m_readsLawful_16 m) (nI i) a) P
    unfold b_m_readsLawful_16
    rw [hF 58 24 rfl, h24]
    have hb : inb (nI i) 180 := inb_nI (by omega) (by omega)
    refine ok_f (nI_ge hi (by omega)) (ok_t hb (ok_lt (ok_t hb (ok_lt ?_))))
    rw [nI_1, cl_nI (by omega), hF 66 i rfl, h66 i hi]
    refine ih _ ⟨hF.sI (by simp [inL, LMc]), fun j hj => ?_, fun k hk => by rw [sI_row _ _ _ _ (by decide)]; exact hc k hk⟩
    by_cases e : j = i
    · rw [e, sI_self]
    · rw [sI_col _ _ _ _ e]; exact ha j (by omega)
  · rintro m a ⟨hF, ha, hc⟩
    show Ok (b_m_readsLawful_16 (f_m_readsLawful_16 m) (nI L) a) P
    unfold b_m_readsLawful_16
    rw [hF 58 24 rfl, h24]
    exact ok_t (Int32.le_refl _) (asks a hF ha hc)
