/-! holes, the reference's; sums -/
theorem brd_iff {n c : Nat} (hc : isC n c) : brd n c ↔ (c % 16 = 0 ∨ c / 16 = 0 ∨ c % 16 = n - 1 ∨ c / 16 = n - 1) := by
  obtain ⟨h1, h2, h3⟩ := hc
  constructor
  · rintro ⟨k, k1, k2⟩
    rcases (show k = 0 ∨ k = 1 ∨ k = 2 ∨ k = 3 by omega) with rfl | rfl | rfl | rfl
    · simp only [nbr, if_true] at k2
      split at k2
      · cases k2
      · omega
    · simp only [nbr, show ¬ (1 = 0) by decide, if_false, if_true] at k2
      split at k2
      · cases k2
      · omega
    · simp only [nbr, show ¬ (2 = 0) by decide, show ¬ (2 = 1) by decide, if_false, if_true] at k2
      split at k2
      · cases k2
      · omega
    · simp only [nbr, show ¬ (3 = 0) by decide, show ¬ (3 = 1) by decide, show ¬ (3 = 2) by decide, if_false] at k2
      split at k2
      · cases k2
      · omega
  · rintro (h | h | h | h)
    · exact ⟨1, by omega, by simp only [nbr, show ¬ (1 = 0) by decide, if_false, if_true]; rw [if_neg (by omega)]⟩
    · exact ⟨3, by omega, by simp only [nbr, show ¬ (3 = 0) by decide, show ¬ (3 = 1) by decide, show ¬ (3 = 2) by decide, if_false]; rw [if_neg (by omega)]⟩
    · exact ⟨0, by omega, by simp only [nbr, if_true]; rw [if_neg (by omega)]⟩
    · exact ⟨2, by omega, by simp only [nbr, show ¬ (2 = 0) by decide, show ¬ (2 = 1) by decide, if_false, if_true]; rw [if_neg (by omega)]⟩
theorem m_isAtBorder_ok {n c : Nat} {st : Mm} (hn : st.1 58 0 = nI n) (hn2 : n ≤ 16) (hc : isC n c) : (brd n c ∧ f_m_isAtBorder (nI c) st = some (1, st)) ∨ (¬ brd n c ∧ f_m_isAtBorder (nI c) st = some (0, st)) := by
  have h1 := hc.1
  have h2 := hc.2.1
  have h3 := hc.2.2
  have eN : (st.1 58 0) - (1 : Int32) = nI (n - 1) := by rw [hn]; exact pk_sub (b := 1) (by omega)
  have en : ∀ a b : Nat, a < 1000 → b < 1000 → (nI a = nI b ↔ a = b) := fun a b ha hb => nI_eq (by omega) (by omega)
  have en0 : ∀ a : Nat, a < 1000 → (nI a = (0 : Int32) ↔ a = 0) := fun a ha => en a 0 ha (by omega)
  rw [brd_iff hc]
  unfold f_m_isAtBorder
  rw [r16 (by omega), d16 (by omega), eN]
  simp only [en0 _ (show c % 16 < 1000 by omega), en0 _ (show c / 16 < 1000 by omega), en _ _ (show c % 16 < 1000 by omega) (show n - 1 < 1000 by omega), en _ _ (show c / 16 < 1000 by omega) (show n - 1 < 1000 by omega)]
  by_cases a1 : c % 16 = 0
  · exact Or.inl ⟨Or.inl a1, by rw [if_pos a1]⟩
  · rw [if_neg a1]
    by_cases a2 : c / 16 = 0
    · exact Or.inl ⟨Or.inr (Or.inl a2), by rw [if_pos a2]⟩
    · rw [if_neg a2]
      by_cases a3 : c % 16 = n - 1
      · exact Or.inl ⟨Or.inr (Or.inr (Or.inl a3)), by rw [if_pos a3]⟩
      · rw [if_neg a3]
        by_cases a4 : c / 16 = n - 1
        · exact Or.inl ⟨Or.inr (Or.inr (Or.inr a4)), by rw [if_pos a4]⟩
        · exact Or.inr ⟨by omega, by rw [if_neg a4]⟩
theorem m_hole_in {n c m : Nat} {z : Int32} {R : Nat → Nat} {st : Mm} {kk : Int32 → Int32 → Mm → Option (Int32 × Mm)} {P : Int32 × Mm → Prop} (hn : st.1 58 0 = nI n) (hn2 : n ≤ 16) (hm : m ≤ 256) (hR : ∀ t, t < m → isC n (R t) ∧ st.1 74 t = nI (R t)) (z2 : Int32)
    (hy : (∀ t, t < m → ¬ brd n (R t)) → Ok (kk (z + 1) (nI (c + 1)) st) P) (hno : (∃ t, t < m ∧ brd n (R t)) → Ok (kk z (nI (c + 1)) st) P) (hz : z + 0 = z) :
    ∀ r t N fl, t + r = m → r + 1 ≤ N → (fl = true ↔ ∀ u, u < t → ¬ brd n (R u)) → Ok (f_m_holeMany_66 kk N z (nI c) (nI m) (bI fl) (nI t) st) P := by
  intro r
  induction r with
  | zero =>
    intro t N fl ht hN hf
    obtain ⟨N, rfl⟩ := nat_suc (show 0 + 1 ≤ N by omega)
    show Ok (b_m_holeMany_66 kk (f_m_holeMany_66 kk N) z (nI c) (nI m) (bI fl) (nI t) st) P
    unfold b_m_holeMany_66 b_m_holeMany_104
    have e : t = m := by omega
    subst e
    refine ok_t (Int32.le_refl _) (okc_b fl (fun h => ok_lt (ok_lt ?_)) (fun h => ok_lt (ok_lt ?_)))
    · rw [hz, nI_1]
      refine hno (Classical.byContradiction (fun h2 => ?_))
      have : fl = true := hf.mpr (fun u hu hb => h2 ⟨u, hu, hb⟩)
      rw [h] at this; cases this
    · rw [nI_1]
      exact hy (hf.mp h)
  | succ r ih =>
    intro t N fl ht hN hf
    obtain ⟨N, rfl⟩ := nat_suc (show 0 + 1 ≤ N by omega)
    show Ok (b_m_holeMany_66 kk (f_m_holeMany_66 kk N) z (nI c) (nI m) (bI fl) (nI t) st) P
    unfold b_m_holeMany_66
    obtain ⟨r1, r2⟩ := hR t (by omega)
    have step : ∀ fl2 : Bool, (fl2 = true ↔ ∀ u, u < t + 1 → ¬ brd n (R u)) → Ok (f_m_holeMany_66 kk N z (nI c) (nI m) (bI fl2) (nI (t + 1)) st) P := fun fl2 h => ih (t + 1) N fl2 (by omega) (by omega) h
    refine ok_f (nI_ge (by omega) (by omega)) (okc_b fl (fun h => ok_lt ?_) (fun h => ok_t (inb_nI (show t < 256 by omega) (by omega)) ?_))
    · rw [nI_1]
      refine step false ⟨fun h2 => (by cases h2), fun h2 => ?_⟩
      have : fl = true := hf.mpr (fun u hu => h2 u (by omega))
      rw [h] at this; cases this
    · rw [cl_nI (by omega), r2]
      rcases m_isAtBorder_ok hn hn2 r1 with ⟨hb, he⟩ | ⟨hb, he⟩
      · refine ok_bind (ok_eq he (ok_f ne10 (ok_lt ?_)))
        rw [nI_1]
        exact step false ⟨fun h2 => (by cases h2), fun h2 => absurd hb (h2 t (by omega))⟩
      · refine ok_bind (ok_eq he (ok_t rfl (ok_lt ?_)))
        rw [nI_1]
        refine step true ⟨fun _ u hu => ?_, fun _ => rfl⟩
        rcases Nat.lt_or_ge u t with h2 | h2
        · exact hf.mp h u h2
        · rw [show u = t by omega]; exact hb
theorem m_holeMany_ok {n : Nat} {p : Nat → Bool} {st : Mm} {P : Int32 × Mm → Prop} (hpin : pIn n p) (hn : st.1 58 0 = nI n) (hp : ∀ c, c < 256 → st.1 72 c = bI (p c)) (hP : ∀ s2, Fr LFl st s2 → P (nI (fb_ct (holB n (qB n p)) 256), s2)) : Ok (f_m_holeMany st) P := by
  have hq := qB_in (p := p) hpin.1
  have hn16 := hpin.1
  unfold f_m_holeMany
  refine ok_bind (m_forgets_ok (fun s0 hF0 hl0 => ?_))
  refine ok_upF (fun m k (b : Int32 × Mm) => f_m_holeMany_8 m b.1 k b.2) (fun k b => b.1 = nI (fb_ct (holB n (qB n p)) k) ∧ Fr LFl st b.2 ∧ (∀ c, c < 256 → (∀ d, d < k → qB n p d = true → ¬ Co n (qB n p) d c) → b.2.1 73 c = -1) ∧ (∀ c d, c < 256 → d < k → qB n p d = true → Co n (qB n p) d c → ¬ b.2.1 73 c = -1)) P 256 (by omega) (a := (0, s0)) ⟨rfl, hF0.wk (by decide), fun c hc _ => hl0 c hc, fun c d _ hd => by omega⟩ ?_ ?_
  · rintro m k ⟨z, a⟩ hk ⟨rfl, hF, hlo, hhi⟩ ih
    simp only at hF hlo hhi
    show Ok (b_m_holeMany_8 (f_m_holeMany_8 m) _ (nI k) a) P
    unfold b_m_holeMany_8
    have hna : a.1 58 0 = nI n := by rw [hF _ _ rfl]; exact hn
    have hpa : ∀ c, c < 256 → a.1 72 c = bI (p c) := fun c hc => by rw [hF _ _ (by simp [inL, LFl])]; exact hp c hc
    refine ok_f (n256 hk) ?_
    rw [r16 (by omega), d16 (by omega)]
    refine ok_bind (ok_eq (m_isCell_eq hna hn16 (by omega) (by omega)) ?_)
    have skip : isRt n (qB n p) k = false → Ok (lt_ (nI k + (1 : Int32)) (fun a4 => f_m_holeMany_8 m (nI (fb_ct (holB n (qB n p)) k)) a4 a)) P := fun hnr => by
      refine ok_lt ?_
      rw [nI_1]
      have old : ∀ c d, d < k + 1 → qB n p d = true → Co n (qB n p) d c → ∃ e, e < k ∧ qB n p e = true ∧ Co n (qB n p) e c := fun c d hd hqd hco => by
        rcases Nat.lt_or_ge d k with h | h
        · exact ⟨d, h, hqd, hco⟩
        · have ed : d = k := by omega
          subst ed
          obtain ⟨r, r1, r2, r3⟩ := rt_of hq hqd
          rcases Nat.eq_or_lt_of_le r1 with e2 | e2
          · rw [e2, hnr] at r2; cases r2
          · exact ⟨r, e2, (isRt_iff.mp r2).1, r3.tr hco⟩
      refine ih (nI (fb_ct (holB n (qB n p)) k), a) ⟨by rw [fb_ct_succ, holB_no (Or.inl hnr)]; rfl, hF, fun c hc h => hlo c hc (fun d hd => h d (by omega)), fun c d hc hd hqd hco => ?_⟩
      obtain ⟨e, e1, e2, e3⟩ := old c d hd hqd hco
      exact hhi c e hc e1 e2 e3
    by_cases hcell : k % 16 < n ∧ k / 16 < n
    · have hkC : isC n k := ⟨hk, hcell.1, hcell.2⟩
      refine ok_f (by simp [hcell, bI]) (ok_t (inb_nI hk (by omega)) ?_)
      simp only
      rw [cl_nI (by omega), hpa k hk]
      refine okc_b (p k) (fun e => ok_t (inb_nI hk (by omega)) (ok_if (fun c1 => ?_) (fun c1 => skip ?_))) (fun e => skip ?_)
      · have hqk : qB n p k = true := qB_iff.mpr ⟨hkC, e⟩
        have hrt : isRt n (qB n p) k = true := isRt_iff.mpr ⟨hqk, fun d hd hqd hco => hhi k d hk hd hqd hco c1⟩
        have hno := (isRt_iff.mp hrt).2
        refine ok_bind (m_floods_ok (U := fun c => p c = false ∧ ¬ nI c = (-1 : Int32) ∧ a.1 73 c = -1 ∧ c ≠ k) (b := false) hna hn16 hkC p hpa (fun c hc => Iff.rfl) (fun R mm s1 hfl hset => ?_))
        have hUC : ∀ c, Rc n (fun c => p c = false ∧ ¬ nI c = (-1 : Int32) ∧ a.1 73 c = -1 ∧ c ≠ k) k c ↔ Co n (qB n p) k c := by
          intro c
          constructor
          · intro hc
            have : isC n c ∧ Co n (qB n p) k c := hc (fun d => isC n d ∧ Co n (qB n p) k d) ⟨hkC, Rc.rf⟩ (fun x j d hx hj hd hu => by
              have hdC := nbr_C hn16 hx.1 hd
              exact ⟨hdC, Rc.st hx.2 hj hd (qB_iff.mpr ⟨hdC, hu.1⟩)⟩)
            exact this.2
          · intro hc
            have hh : Co n (qB n p) k c ∧ Rc n (fun c => p c = false ∧ ¬ nI c = (-1 : Int32) ∧ a.1 73 c = -1 ∧ c ≠ k) k c := by
              refine hc (fun d => Co n (qB n p) k d ∧ Rc n (fun c => p c = false ∧ ¬ nI c = (-1 : Int32) ∧ a.1 73 c = -1 ∧ c ≠ k) k d) ⟨Rc.rf, Rc.rf⟩ ?_
              rintro x j d ⟨hx1, hx2⟩ hj hd hu
              have hid : Co n (qB n p) k d := Rc.st hx1 hj hd hu
              refine ⟨hid, ?_⟩
              by_cases hdk : d = k
              · subst hdk; exact Rc.rf
              · have hd256 := (hq.2 d hu).1
                refine hx2.st hj hd ⟨(qB_iff.mp hu).2, nI_nm1 (by omega), hlo d hd256 (fun e he hqe hco => ?_), hdk⟩
                exact hno e he hqe (hco.tr (hid.sy hq hqk))
            exact hh.2
        obtain ⟨g1, g2, g3, g4, g5, g6, g7, g8, g9⟩ := hfl
        have hcomp : ∀ c, (∃ i, i < mm ∧ R i = c) ↔ Co n (qB n p) k c := fun c => by rw [hset, hUC]
        have hFs : Fr LFl st s1 := hF.tr g1
        have fin : ∀ z2 : Int32, z2 = nI (fb_ct (holB n (qB n p)) (k + 1)) → Ok (f_m_holeMany_8 m z2 (nI (k + 1)) s1) P := fun z2 hz2 => by
          refine ih (z2, s1) ⟨hz2, hFs, fun c hc h => ?_, fun c d hc hd hqd hco => ?_⟩
          · have hne : ¬ ∃ i, i < mm ∧ R i = c := fun hex => h k (by omega) hqk ((hcomp c).mp hex)
            rw [g9 c hne]; exact hlo c hc (fun d hd => h d (by omega))
          · rcases Nat.lt_or_ge d k with h | h
            · by_cases hex : ∃ i, i < mm ∧ R i = c
              · rw [g8 c hc hex]; exact nI_nm1 (by omega)
              · rw [g9 c hex]; exact hhi c d hc h hqd hco
            · rw [show d = k by omega] at hco
              rw [g8 c hc ((hcomp c).mpr hco)]; exact nI_nm1 (by omega)
        simp only
        refine m_hole_in (n := n) (c := k) (m := mm) (R := R) (st := s1) (by rw [hFs _ _ rfl]; exact hn) hn16 g3 (fun t ht => ⟨(g5 t ht).1, (g5 t ht).2.1⟩) 0 (fun h => ?_) (fun h => ?_) (by rw [nI_z]; rfl) mm 0 1000000 true (by omega) (by omega) ⟨fun _ u hu => by omega, fun _ => rfl⟩
        · refine fin _ ?_
          rw [nI_1, fb_ct_succ, holB_yes hrt (fun d hd => by
            obtain ⟨i, i1, i2⟩ := (hcomp d).mpr hd
            rw [← i2]; exact h i i1)]; rfl
        · refine fin _ ?_
          obtain ⟨t, t1, t2⟩ := h
          rw [fb_ct_succ, holB_no (Or.inr (fun hh => hh (R t) ((hcomp _).mp ⟨t, t1, rfl⟩) t2))]; rfl
      · cases h : isRt n (qB n p) k with
        | false => rfl
        | true => exact absurd (hlo k hk (isRt_iff.mp h).2) c1
      · cases h : isRt n (qB n p) k with
        | false => rfl
        | true =>
          have := (qB_iff.mp (isRt_iff.mp h).1).2
          rw [e] at this; cases this
    · refine ok_t (by simp [hcell, bI]) (skip ?_)
      cases h : isRt n (qB n p) k with
      | false => rfl
      | true => exact absurd (qB_iff.mp (isRt_iff.mp h).1).1.2 hcell
  · rintro m ⟨z, a⟩ ⟨rfl, hF, _⟩
    show Ok (b_m_holeMany_8 (f_m_holeMany_8 m) _ (nI 256) a) P
    unfold b_m_holeMany_8
    exact ok_t (by decide) (ok_some (hP a hF))
noncomputable def sumI (n : Nat) (p : Nat → Bool) (k : Nat) : Int32 := if k = 0 then nI (fb_ct p 256) else if k = 1 then nI (fb_ct (isRt n p) 256) else if k = 2 then nI (mnM n p 256) else if k = 3 then nI (fb_ct p 256) - nI (mnM n p 256) else if k = 4 then nI (fb_ct (holB n (qB n p)) 256) else if k = 5 then nI (fb_sm (fun c => fb_ct (eo n p c) 4) 256) else nI (fb_ct (fun c => p c && thB n p c) 256)
theorem st_sums (a0 : Int32) : Step1 Inv (f_x_sums a0) (f_m_sums a0) := step_q (fun A hA => by
  have hn := hA.1.2.1
  obtain ⟨v, hv, _⟩ := hA.v
  have hpin := papT_in hA.1
  rcases in_cases a0 0 6 with hc | ⟨k, _, hk, _, rfl, hc⟩
  · refine ⟨-1, xok_fr [] rfl (fun st hI => ?_), mok_fr LPm rfl (fun st hI => ?_)⟩
    · have h2 := of_decide_eq_false hc
      unfold f_x_sums
      refine ok_if (fun _ => ok_some ⟨rfl, Fr.rf⟩) (fun c1 => ok_if (fun c2 => ?_) (fun _ => ok_some ⟨rfl, Fr.rf⟩))
      rw [i_lt, i_z] at c1
      rw [i_le, show (6 : Int32).toInt = 6 from rfl] at c2
      omega
    · have h2 := of_decide_eq_false hc
      unfold f_m_sums
      refine ok_bind (mI_opens hA hI hv (fun s1 hF1 hr1 hp1 => ok_bind (mI_pieces hA hF1 hr1.1 hp1 (fun s2 hF2 hn2 hp2 hpc2 => ?_))))
      have nk : ∀ j : Nat, j ≤ 6 → ¬ a0 = nI j := fun j hj e => by
        rw [e, nI_T (by omega)] at h2; omega
      exact ok_f (nk 0 (by omega)) (ok_f (nk 1 (by omega)) (ok_f (nk 2 (by omega)) (ok_f (nk 3 (by omega)) (ok_f (nk 4 (by omega)) (ok_f (nk 5 (by omega)) (ok_f (nk 6 (by omega)) (ok_some ⟨rfl, hF2⟩)))))))
  · refine ⟨sumI A.1.1 (papT A.1) k, xok_wk (fun st hI => ?_), mok_fr LPm rfl (fun st hI => ?_)⟩
    · unfold f_x_sums
      refine ok_f (nI_pos (by omega)) (ok_t (show nI k ≤ nI 6 from nI_le hk (by omega)) ?_)
      refine ok_bind (x_walkPieces_ok hA hI (fun s2 hI2 hPc hF => ?_))
      have hlo := hF.lo rfl
      obtain ⟨p1, p2, p3, p4, p5, p6⟩ := hPc
      have hbits := x_bitsOf_eq hI2.2.2.2.2.1
      have hmain := x_mainCells_eq (k := 256) hpin p2 (fun q _ hq => p5 q hq)
      unfold sumI
      refine okc_eq k 0 (fun e => ok_bind (ok_eq hbits (ok_some ⟨by rw [if_pos e], hI2, hlo⟩))) (fun e0 => ?_)
      rw [if_neg e0]
      refine okc_eq k 1 (fun e => ok_some ⟨by rw [if_pos e]; exact p1, hI2, hlo⟩) (fun e1 => ?_)
      rw [if_neg e1]
      refine okc_eq k 2 (fun e => ok_bind (ok_eq hmain (ok_some ⟨by rw [if_pos e], hI2, hlo⟩))) (fun e2 => ?_)
      rw [if_neg e2]
      refine okc_eq k 3 (fun e => ok_bind (ok_eq hbits (ok_bind (ok_eq hmain (ok_some ⟨by rw [if_pos e], hI2, hlo⟩))))) (fun e3 => ?_)
      rw [if_neg e3]
      refine okc_eq k 4 (fun e => ok_bind (x_holes_ok hpin hI2.2.2.2.1 hI2.2.2.2.2.1 (fun s3 hF3 => ok_some ⟨by rw [if_pos e], hI2.same (hF3.okX rfl), fun c j hc => by rw [hF3.lo rfl c j hc]; exact hlo c j hc⟩))) (fun e4 => ?_)
      rw [if_neg e4]
      refine okc_eq k 5 (fun e => ok_bind (ok_eq (x_sides_eq hpin hI2.2.2.2.2.1) (ok_some ⟨by rw [if_pos e], hI2, hlo⟩))) (fun e5 => ?_)
      rw [if_neg e5]
      exact ok_bind (ok_eq (x_bitsOf_eq p6) (ok_some ⟨rfl, hI2, hlo⟩))
    · unfold f_m_sums
      refine ok_bind (mI_opens hA hI hv (fun s1 hF1 hr1 hp1 => ok_bind (mI_pieces hA hF1 hr1.1 hp1 (fun s2 hF2 hn2 hp2 hpc2 => ?_))))
      obtain ⟨q1, q2, q3, q4, q5, q6⟩ := id hpc2
      have hpm := m_paperMany_eq hp2
      unfold sumI
      refine okc_eq k 0 (fun e => ok_bind (ok_eq hpm (ok_some ⟨by rw [if_pos e], hF2⟩))) (fun e0 => ?_)
      rw [if_neg e0]
      refine okc_eq k 1 (fun e => ok_some ⟨by rw [if_pos e]; exact q4, hF2⟩) (fun e1 => ?_)
      rw [if_neg e1]
      refine okc_eq k 2 (fun e => ok_some ⟨by rw [if_pos e]; exact q5, hF2⟩) (fun e2 => ?_)
      rw [if_neg e2]
      refine okc_eq k 3 (fun e => ok_bind (ok_eq hpm (ok_some ⟨?_, hF2⟩))) (fun e3 => ?_)
      · rw [if_pos e]
        show nI _ - s2.1 58 40 = _
        rw [q5]
      rw [if_neg e3]
      refine okc_eq k 4 (fun e => ok_bind (m_holeMany_ok hpin hn2 hp2 (fun s3 hF3 => ok_some ⟨by rw [if_pos e], hF2.tr (hF3.wk (by decide))⟩))) (fun e4 => ?_)
      rw [if_neg e4]
      refine okc_eq k 5 (fun e => ok_bind (m_edgeMany_eq hpin hn2 hp2 (ok_some ⟨by rw [if_pos e], hF2⟩))) (fun e5 => ?_)
      rw [if_neg e5]
      refine okc_eq k 6 (fun e => ok_bind (m_threadMany_ok hpin hn2 hp2 (fun s3 hF3 => ok_some ⟨rfl, hF2.tr (hF3.wk (by decide))⟩))) (fun e6 => by omega))
