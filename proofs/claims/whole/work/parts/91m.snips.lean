/-! recipe: the reference's places -/
theorem SMq.fld {T : Txt} {sB s : Mm} {p cn j : Nat} {cut : Nat → Bool} {w : Int32} (h : SMq T sB s p cn cut) (hj : j = 28 ∨ j = 29) : SMq T sB (sI s 58 j w) p cn cut := by
  obtain ⟨a1, a2, a3, a4, a5⟩ := h
  rcases hj with rfl | rfl
  · exact ⟨a1.sI rfl, by rw [sI_col _ _ _ _ (by decide)]; exact a2, by rw [sI_col _ _ _ _ (by decide)]; exact a3, fun k hk => by rw [sI_row _ _ _ _ (by decide)]; exact a4 k hk, a5⟩
  · exact ⟨a1.sI rfl, by rw [sI_col _ _ _ _ (by decide)]; exact a2, by rw [sI_col _ _ _ _ (by decide)]; exact a3, fun k hk => by rw [sI_row _ _ _ _ (by decide)]; exact a4 k hk, a5⟩
theorem SMq.w {T : Txt} {n : Nat} {l : List Nat} {v : Wd} {sB s : Mm} {p cn : Nat} {cut : Nat → Bool} (hB : BM T n l v sB) (h : SMq T sB s p cn cut) : mW s v := ⟨by rw [h.1 58 8 rfl]; exact hB.2.1.1, by rw [h.1 58 9 rfl]; exact hB.2.1.2.1, by rw [h.1 58 10 rfl]; exact hB.2.1.2.2⟩
theorem SMq.takes {T : Txt} {n : Nat} {l : List Nat} {v : Wd} {sB s : Mm} {p cn c : Nat} {cut : Nat → Bool} (hB : BM T n l v sB) (h : SMq T sB s p cn cut) (hc : c < 256) : (chn T p = c → ∃ s2, f_m_takes (nI c) s = some (1, s2) ∧ SMq T sB s2 (p + 1) cn cut ∧ p < T.1 ∧ (∀ j, s2.1 58 j = if j = 20 then nI (p + 1) else s.1 58 j)) ∧ (chn T p ≠ c → ∃ s2, f_m_takes (nI c) s = some (0, s2) ∧ GM sB s2 1 p) := by
  constructor
  · intro hp
    have hin := ch_in (show chn T p < 256 by omega)
    refine ⟨_, ?_, h.pos (p2 := p + 1) (by omega), hin, fun j => ?_⟩
    · unfold f_m_takes
      rw [h.here hB]
      simp only [Option.bind_some]
      rw [if_pos ((chI_eq hB.1.2.2 hc).mpr hp), h.2.1, nI_1, lt_eq]
    · rw [sI_at]
      by_cases e : j = 20
      · rw [if_pos ⟨rfl, e⟩, if_pos e]
      · rw [if_neg (fun g => e g.2), if_neg e]
  · intro hp
    refine ⟨_, ?_, h.bad 1 p⟩
    unfold f_m_takes
    rw [h.here hB]
    simp only [Option.bind_some]
    rw [if_neg (fun e => hp ((chI_eq hB.1.2.2 hc).mp e)), h.2.1, m_wrong_eq]
    rfl
theorem m_place_f {T : Txt} {n : Nat} {l : List Nat} {v : Wd} {sB s : Mm} {p cn lx ly k a : Nat} {cut : Nat → Bool} (hB : BM T n l v sB) (h : SMq T sB s p cn cut) (hlx : lx < 100) (hly : ly < 100) (hF : plF v T lx ly p k a) : ∃ s2, f_m_readsPlace (nI lx) (nI ly) s = some (0, s2) ∧ GM sB s2 k a := by
  unfold f_m_readsPlace
  rw [lt_eq, h.2.1]
  rcases hF with ⟨d1, rfl, rfl⟩ | ⟨d1, c1, rfl, rfl⟩ | ⟨d1, c1, d2, rfl, rfl⟩ | ⟨d1, c1, d2, g, rfl, rfl⟩
  · obtain ⟨s1, e1, h1⟩ := h.twoF hB d1
    exact ⟨s1, by rw [e1]; rfl, h1⟩
  · obtain ⟨s1, e1, h1, h26, _⟩ := h.twoT hB d1
    have h2 := h1.fld (j := 28) (w := s1.1 58 26) (Or.inl rfl)
    obtain ⟨s3, e3, h3⟩ := (h2.takes hB (c := 44) (by omega)).2 c1
    refine ⟨s3, ?_, h3⟩
    rw [e1]
    simp only [Option.bind_some]
    rw [if_neg ne10, lt_eq, show f_m_takes (44 : Int32) (sI s1 58 28 (s1.1 58 26)) = _ from e3]
    rfl
  · obtain ⟨s1, e1, h1, h26, _⟩ := h.twoT hB d1
    have h2 := h1.fld (j := 28) (w := s1.1 58 26) (Or.inl rfl)
    obtain ⟨s3, e3, h3, hin, _⟩ := (h2.takes hB (c := 44) (by omega)).1 c1
    obtain ⟨s4, e4, h4⟩ := h3.twoF hB d2
    refine ⟨s4, ?_, h4⟩
    rw [e1]
    simp only [Option.bind_some]
    rw [if_neg ne10, lt_eq, show f_m_takes (44 : Int32) (sI s1 58 28 (s1.1 58 26)) = _ from e3]
    simp only [Option.bind_some]
    rw [if_neg ne10, e4]
    rfl
  · obtain ⟨s1, e1, h1, h26, _⟩ := h.twoT hB d1
    have h2 := h1.fld (j := 28) (w := s1.1 58 26) (Or.inl rfl)
    obtain ⟨s3, e3, h3, hin, hf3⟩ := (h2.takes hB (c := 44) (by omega)).1 c1
    obtain ⟨s4, e4, h4, h426, h428⟩ := h3.twoT hB d2
    have h5 := h4.fld (j := 29) (w := s4.1 58 26) (Or.inr rfl)
    have e28 : s4.1 58 28 = nI (plX T a) := by rw [h428, hf3 28, if_neg (by decide), sI_self]; exact h26
    have b79 : b_m_readsPlace_79 (nI a) (sI s4 58 29 (s4.1 58 26)) = some (0, sI (sI s4 58 29 (s4.1 58 26)) 58 22 ((-1000 : Int32) * nI 6 - nI a)) := by
      unfold b_m_readsPlace_79
      rw [m_wrong_eq]; rfl
    refine ⟨_, ?_, h5.bad 6 a⟩
    have hlt := plX_lt (T := T) (p := a)
    rw [e1]
    simp only [Option.bind_some]
    rw [if_neg ne10, lt_eq, show f_m_takes (44 : Int32) (sI s1 58 28 (s1.1 58 26)) = _ from e3]
    simp only [Option.bind_some]
    rw [if_neg ne10, e4]
    simp only [Option.bind_some]
    have e29 : (sI s4 58 29 (s4.1 58 26)).1 58 29 = nI (plY T a) := by rw [sI_self]; exact h426
    have e28' : (sI s4 58 29 (s4.1 58 26)).1 58 28 = nI (plX T a) := by rw [sI_col _ _ _ _ (show 28 ≠ 29 by decide)]; exact e28
    rw [if_neg ne10, lt_eq, e29, e28', m_isPlace_eq (h5.w hB) hB.2.2.1.1 hB.2.2.1.2.1 hB.2.2.1.2.2 (by omega) (by omega)]
    simp only [Option.bind_some]
    cases gp : isP v (plX T a) (plY T a) with
    | false => rw [if_pos (show bI false = 0 from rfl)]; exact b79
    | true =>
      rw [if_neg nbt, e28', e29]
      by_cases g1 : plX T a < lx
      · rw [if_pos (nI_lt g1 (by omega))]; exact b79
      · rw [if_neg (by rw [nI_ltI (by omega) (by omega)]; omega), if_neg (show ¬ nI ly ≤ nI (plY T a) by
          rw [nI_leI (by omega) (by omega)]
          intro e
          exact g ⟨gp, by omega, e⟩)]
        exact b79
theorem m_place_0 {T : Txt} {n : Nat} {l : List Nat} {v : Wd} {sB s : Mm} {p cn lx ly : Nat} {cut : Nat → Bool} (hB : BM T n l v sB) (h : SMq T sB s p cn cut) (hlx : lx < 100) (hly : ly < 100) (hT : plT v T lx ly p) : ∃ s2, SMq T sB s2 (plE T p) cn cut ∧ s2.1 58 28 = nI (plX T p) ∧ s2.1 58 29 = nI (plY T p) ∧ f_m_readsPlace (nI lx) (nI ly) s = ((f_m_isDigit s2).bind (fun q14 => if q14.1 = 0 then (some ((1 : Int32), q14.2)) else ((f_m_wrongAt (1 : Int32) (q14.2.1 58 20) q14.2).bind (fun q16 => if q16.1 = 0 then (some ((0 : Int32), q16.2)) else (some ((1 : Int32), q16.2)))))) := by
  obtain ⟨d1, c1, d2, g⟩ := hT
  obtain ⟨s1, e1, h1, h26, _⟩ := h.twoT hB d1
  have h2 := h1.fld (j := 28) (w := s1.1 58 26) (Or.inl rfl)
  obtain ⟨s3, e3, h3, hin, hf3⟩ := (h2.takes hB (c := 44) (by omega)).1 c1
  obtain ⟨s4, e4, h4, h426, h428⟩ := h3.twoT hB d2
  have h5 := h4.fld (j := 29) (w := s4.1 58 26) (Or.inr rfl)
  have e28 : s4.1 58 28 = nI (plX T p) := by rw [h428, hf3 28, if_neg (by decide), sI_self]; exact h26
  have e29 : (sI s4 58 29 (s4.1 58 26)).1 58 29 = nI (plY T p) := by rw [sI_self]; exact h426
  have e28' : (sI s4 58 29 (s4.1 58 26)).1 58 28 = nI (plX T p) := by rw [sI_col _ _ _ _ (show 28 ≠ 29 by decide)]; exact e28
  refine ⟨_, h5, e28', e29, ?_⟩
  have hlt := plX_lt (T := T) (p := p)
  unfold f_m_readsPlace
  rw [lt_eq, h.2.1, e1]
  simp only [Option.bind_some]
  rw [if_neg ne10, lt_eq, show f_m_takes (44 : Int32) (sI s1 58 28 (s1.1 58 26)) = _ from e3]
  simp only [Option.bind_some]
  rw [if_neg ne10, e4]
  simp only [Option.bind_some]
  rw [if_neg ne10, lt_eq, e29, e28', m_isPlace_eq (h5.w hB) hB.2.2.1.1 hB.2.2.1.2.1 hB.2.2.1.2.2 (by omega) (by omega), g.1]
  simp only [Option.bind_some]
  rw [if_neg nbt, e28', if_neg (by rw [nI_ltI (by omega) (by omega)]; have := g.2.1; omega), e29, if_pos (nI_le g.2.2 (by omega))]
theorem m_place_t {T : Txt} {n : Nat} {l : List Nat} {v : Wd} {sB s : Mm} {p cn lx ly : Nat} {cut : Nat → Bool} (hB : BM T n l v sB) (h : SMq T sB s p cn cut) (hlx : lx < 100) (hly : ly < 100) (hT : plT v T lx ly p) (hd : isD T (plE T p) = false) : ∃ s2, f_m_readsPlace (nI lx) (nI ly) s = some (1, s2) ∧ SMq T sB s2 (plE T p) cn cut ∧ s2.1 58 28 = nI (plX T p) ∧ s2.1 58 29 = nI (plY T p) := by
  obtain ⟨s2, h2, e28, e29, e⟩ := m_place_0 hB h hlx hly hT
  refine ⟨s2, ?_, h2, e28, e29⟩
  rw [e, h2.dig hB, hd]
  rfl
theorem m_place_d {T : Txt} {n : Nat} {l : List Nat} {v : Wd} {sB s : Mm} {p cn lx ly : Nat} {cut : Nat → Bool} (hB : BM T n l v sB) (h : SMq T sB s p cn cut) (hlx : lx < 100) (hly : ly < 100) (hT : plT v T lx ly p) (hd : isD T (plE T p) = true) : ∃ s2, f_m_readsPlace (nI lx) (nI ly) s = some (0, s2) ∧ GM sB s2 1 (plE T p) := by
  obtain ⟨s2, h2, e28, e29, e⟩ := m_place_0 hB h hlx hly hT
  refine ⟨_, ?_, h2.bad 1 (plE T p)⟩
  rw [e, h2.dig hB, hd]
  simp only [Option.bind_some]
  rw [if_neg nbt, h2.2.1, m_wrong_eq]
  rfl
theorem pl_dec (v : Wd) (T : Txt) (lx ly p : Nat) : plT v T lx ly p ∨ ∃ k a, plF v T lx ly p k a ∧ 1 ≤ k ∧ k ≤ 6 := by
  by_cases d1 : dkN T p = 0
  · exact Or.inr ⟨1, p, Or.inl ⟨d1, rfl, rfl⟩, by omega, by omega⟩
  by_cases c1 : chn T (plM T p) = 44
  · by_cases d2 : dkN T (plM T p + 1) = 0
    · exact Or.inr ⟨1, _, Or.inr (Or.inr (Or.inl ⟨by omega, c1, d2, rfl, rfl⟩)), by omega, by omega⟩
    · rcases Classical.em (plG v T lx ly p) with g | g
      · exact Or.inl ⟨by omega, c1, by omega, g⟩
      · exact Or.inr ⟨6, p, Or.inr (Or.inr (Or.inr ⟨by omega, c1, by omega, g, rfl, rfl⟩)), by omega, by omega⟩
  · exact Or.inr ⟨1, _, Or.inr (Or.inl ⟨by omega, c1, rfl, rfl⟩), by omega, by omega⟩
/-! boxes cut -/
def boxB (v : Wd) (x1 x2 y1 y2 k : Nat) : Bool := pcv v k && (decide (x1 ≤ k % 16 ∧ k % 16 ≤ x2 ∧ y1 ≤ k / 16 ∧ k / 16 ≤ y2))
theorem x_box_ok {s0 : Mm} {n : Nat} {l : List Nat} {sl : Nat → Nat} {v : Wd} {x1 x2 y1 y2 : Nat} {cut : Nat → Bool} {P : Unit × Mm → Prop} (hS : FoS s0 14 15 16 n l sl v) (hx2 : x2 < 16) (hy2 : y2 < 16) (hx1 : x1 ≤ x2) (hy1 : y1 ≤ y2) (h11 : s0.1 13 11 = nI x2) (h12 : s0.1 13 12 = nI y2) (hc : Rw (s0.1 23) cut)
    (hP : ∀ s2, Fr [(23, none)] s0 s2 → Rw (s2.1 23) (fun k => cut k || boxB v x1 x2 y1 y2 k) → P ((), s2)) : Ok (f_Rdr_readBox_43 1000000 (nI x1) (nI y1) s0) P := by
  obtain ⟨b1, b2, b3, _⟩ := hS.b
  have rows : ∀ r y m a, y1 ≤ y → y + r = y2 + 1 → r + 1 ≤ m → Fr [(23, none)] s0 a → Rw (a.1 23) (fun k => cut k || (boxB v x1 x2 y1 y2 k && decide (k / 16 < y))) → Ok (f_Rdr_readBox_43 m (nI x1) (nI y) a) P := by
    intro r
    induction r with
    | zero =>
      intro y m a hy hr hm hF hR
      obtain ⟨m, rfl⟩ := nat_suc (show 0 + 1 ≤ m by omega)
      show Ok (b_Rdr_readBox_43 (f_Rdr_readBox_43 m) (nI x1) (nI y) a) P
      unfold b_Rdr_readBox_43
      rw [hF 13 12 rfl, h12]
      refine okc_lt y2 y (fun _ => ok_some (hP a hF (hR.cg2 (fun k _ => ?_)))) (fun hh => by omega)
      cases hb : boxB v x1 x2 y1 y2 k with
      | false => rfl
      | true =>
        unfold boxB at hb
        rw [Bool.and_eq_true, decide_eq_true_eq] at hb
        rw [decide_eq_true (show k / 16 < y by omega)]; rfl
    | succ r ih =>
      intro y m a hy hr hm hF hR
      obtain ⟨m, rfl⟩ := nat_suc (show 0 + 1 ≤ m by omega)
      have cols : ∀ t x k a, x1 ≤ x → x + t = x2 + 1 → t + 1 ≤ k → Fr [(23, none)] s0 a → Rw (a.1 23) (fun k => cut k || (boxB v x1 x2 y1 y2 k && decide (k / 16 < y ∨ (k / 16 = y ∧ k % 16 < x)))) → Ok (f_Rdr_readBox_55 (f_Rdr_readBox_43 m) k (nI x1) (nI y) (nI x) a) P := by
        intro t
        induction t with
        | zero =>
          intro x k a hx ht hk hF hR
          obtain ⟨k, rfl⟩ := nat_suc (show 0 + 1 ≤ k by omega)
          show Ok (b_Rdr_readBox_55 (f_Rdr_readBox_43 m) (f_Rdr_readBox_55 (f_Rdr_readBox_43 m) k) (nI x1) (nI y) (nI x) a) P
          unfold b_Rdr_readBox_55 b_Rdr_readBox_98
          rw [hF 13 11 rfl, h11]
          refine okc_lt x2 x (fun _ => ok_lt ?_) (fun hh => by omega)
          rw [nI_1]
          refine ih (y + 1) m a (by omega) (by omega) (by omega) hF (hR.cg2 (fun j _ => ?_))
          cases hb : boxB v x1 x2 y1 y2 j with
          | false => rfl
          | true =>
            unfold boxB at hb
            rw [Bool.and_eq_true, decide_eq_true_eq] at hb
            rw [show decide (j / 16 < y + 1) = decide (j / 16 < y ∨ (j / 16 = y ∧ j % 16 < x)) from by
              by_cases g : j / 16 < y + 1
              · rw [decide_eq_true g, decide_eq_true (by omega)]
              · rw [decide_eq_false g, decide_eq_false (by omega)]]
        | succ t iht =>
          intro x k a hx ht hk hF hR
          obtain ⟨k, rfl⟩ := nat_suc (show 0 + 1 ≤ k by omega)
          have em : (16 * y + x) % 16 = x := by omega
          have ed : (16 * y + x) / 16 = y := by omega
          have ep : pcv v (16 * y + x) = isP v x y := by unfold pcv; rw [em, ed]
          have hSa : FoS a 14 15 16 n l sl v := hS.same (fun j => hF _ j rfl) (fun j => hF _ j rfl) (fun j => hF _ j rfl)
          show Ok (b_Rdr_readBox_55 (f_Rdr_readBox_43 m) (f_Rdr_readBox_55 (f_Rdr_readBox_43 m) k) (nI x1) (nI y) (nI x) a) P
          unfold b_Rdr_readBox_55
          rw [hF 13 11 rfl, h11]
          refine okc_lt x2 x (fun hh => by omega) (fun _ => ?_)
          refine ok_bind (ok_eq (x_holds_nat hSa (by omega) (by omega)) ?_)
          have oth : ∀ j, j ≠ 16 * y + x → decide (j / 16 < y ∨ (j / 16 = y ∧ j % 16 < x + 1)) = decide (j / 16 < y ∨ (j / 16 = y ∧ j % 16 < x)) := fun j hj => by
            by_cases g : j / 16 < y ∨ (j / 16 = y ∧ j % 16 < x)
            · rw [decide_eq_true g, decide_eq_true (by omega)]
            · rw [decide_eq_false g, decide_eq_false (by omega)]
          refine okc_b (isP v x y) (fun hp => ok_lt ?_) (fun hp => ?_) rfl
          · rw [nI_1]
            refine iht (x + 1) k a (by omega) (by omega) (by omega) hF (hR.cg2 (fun j _ => ?_))
            by_cases e : j = 16 * y + x
            · rw [e, show boxB v x1 x2 y1 y2 (16 * y + x) = false from by unfold boxB; rw [ep, hp]; rfl, Bool.false_and, Bool.false_and]
            · rw [oth j e]
          · have hyb : inb (nI y) 16 := inb_nI (by omega) (by omega)
            refine ok_t hyb (ok_lt (ok_t hyb (ok_lt ?_)))
            rw [nI_1, cl_nI (by omega)]
            refine iht (x + 1) k _ (by omega) (by omega) (by omega) (hF.sI (by simp [inL])) ?_
            rw [sI_own]
            refine (hR.orb (show y < 16 by omega) (show x < 16 by omega)).cg2 (fun j _ => ?_)
            by_cases e : j = 16 * y + x
            · rw [if_pos e, e, show boxB v x1 x2 y1 y2 (16 * y + x) = true from by unfold boxB; rw [ep, hp, em, ed, decide_eq_true ⟨by omega, by omega, by omega, by omega⟩]; rfl, em, ed, decide_eq_true (by omega)]
              simp
            · rw [if_neg e, oth j e]
      show Ok (b_Rdr_readBox_43 (f_Rdr_readBox_43 m) (nI x1) (nI y) a) P
      unfold b_Rdr_readBox_43
      rw [hF 13 12 rfl, h12]
      refine okc_lt y2 y (fun hh => by omega) (fun _ => ?_)
      refine cols (x2 + 1 - x1) x1 1000000 a (Nat.le_refl _) (by omega) (by omega) hF (hR.cg2 (fun j _ => ?_))
      cases hb : boxB v x1 x2 y1 y2 j with
      | false => rfl
      | true =>
        unfold boxB at hb
        rw [Bool.and_eq_true, decide_eq_true_eq] at hb
        rw [show decide (j / 16 < y ∨ (j / 16 = y ∧ j % 16 < x1)) = decide (j / 16 < y) from by
          by_cases g : j / 16 < y
          · rw [decide_eq_true g, decide_eq_true (by omega)]
          · rw [decide_eq_false g, decide_eq_false (by omega)]]
  refine rows (y2 + 1 - y1) y1 1000000 s0 (Nat.le_refl _) (by omega) (by omega) Fr.rf (hc.cg2 (fun k _ => ?_))
  cases hb : boxB v x1 x2 y1 y2 k with
  | false => simp
  | true =>
    unfold boxB at hb
    rw [Bool.and_eq_true, decide_eq_true_eq] at hb
    rw [decide_eq_false (show ¬ k / 16 < y1 by omega)]; simp
theorem m_cuts_ok {s0 : Mm} {v : Wd} {x1 x2 y1 y2 : Nat} {cut : Nat → Bool} {P : Unit × Mm → Prop} (hW : mW s0 v) (h1 : v.1 ≤ 16) (h2 : v.2.1 ≤ 16) (h3 : v.2.2 ≤ 1) (hx2 : x2 < 16) (hy2 : y2 < 16) (hx1 : x1 ≤ x2) (hy1 : y1 ≤ y2) (hc : ∀ k, k < 256 → s0.1 69 k = bI (cut k))
    (hP : ∀ s2, Fr [(69, none)] s0 s2 → (∀ k, k < 256 → s2.1 69 k = bI (cut k || boxB v x1 x2 y1 y2 k)) → P ((), s2)) : Ok (f_m_cuts (nI x1) (nI y1) (nI x2) (nI y2) s0) P := by
  have rows : ∀ r y m a, y1 ≤ y → y + r = y2 + 1 → r + 1 ≤ m → Fr [(69, none)] s0 a → (∀ k, k < 256 → a.1 69 k = bI (cut k || (boxB v x1 x2 y1 y2 k && decide (k / 16 < y)))) → Ok (f_m_cuts_3 m (nI x1) (nI x2) (nI y2) (nI y) a) P := by
    intro r
    induction r with
    | zero =>
      intro y m a hy hr hm hF hR
      obtain ⟨m, rfl⟩ := nat_suc (show 0 + 1 ≤ m by omega)
      show Ok (b_m_cuts_3 (f_m_cuts_3 m) (nI x1) (nI x2) (nI y2) (nI y) a) P
      unfold b_m_cuts_3
      refine okc_lt y2 y (fun _ => ok_some (hP a hF (fun k hk => ?_))) (fun hh => by omega)
      rw [hR k hk]
      cases hb : boxB v x1 x2 y1 y2 k with
      | false => rfl
      | true =>
        unfold boxB at hb
        rw [Bool.and_eq_true, decide_eq_true_eq] at hb
        rw [decide_eq_true (show k / 16 < y by omega)]; rfl
    | succ r ih =>
      intro y m a hy hr hm hF hR
      obtain ⟨m, rfl⟩ := nat_suc (show 0 + 1 ≤ m by omega)
      have cols : ∀ t x k a, x1 ≤ x → x + t = x2 + 1 → t + 1 ≤ k → Fr [(69, none)] s0 a → (∀ k, k < 256 → a.1 69 k = bI (cut k || (boxB v x1 x2 y1 y2 k && decide (k / 16 < y ∨ (k / 16 = y ∧ k % 16 < x))))) → Ok (f_m_cuts_13 (f_m_cuts_3 m) k (nI x1) (nI x2) (nI y2) (nI y) (nI x) a) P := by
        intro t
        induction t with
        | zero =>
          intro x k a hx ht hk hF hR
          obtain ⟨k, rfl⟩ := nat_suc (show 0 + 1 ≤ k by omega)
          show Ok (b_m_cuts_13 (f_m_cuts_3 m) (f_m_cuts_13 (f_m_cuts_3 m) k) (nI x1) (nI x2) (nI y2) (nI y) (nI x) a) P
          unfold b_m_cuts_13 b_m_cuts_50
          refine okc_lt x2 x (fun _ => ok_lt ?_) (fun hh => by omega)
          rw [nI_1]
          refine ih (y + 1) m a (by omega) (by omega) (by omega) hF (fun j hj => ?_)
          rw [hR j hj]
          cases hb : boxB v x1 x2 y1 y2 j with
          | false => rfl
          | true =>
            unfold boxB at hb
            rw [Bool.and_eq_true, decide_eq_true_eq] at hb
            rw [show decide (j / 16 < y + 1) = decide (j / 16 < y ∨ (j / 16 = y ∧ j % 16 < x)) from by
              by_cases g : j / 16 < y + 1
              · rw [decide_eq_true g, decide_eq_true (by omega)]
              · rw [decide_eq_false g, decide_eq_false (by omega)]]
        | succ t iht =>
          intro x k a hx ht hk hF hR
          obtain ⟨k, rfl⟩ := nat_suc (show 0 + 1 ≤ k by omega)
          have em : (16 * y + x) % 16 = x := by omega
          have ed : (16 * y + x) / 16 = y := by omega
          have ep : pcv v (16 * y + x) = isP v x y := by unfold pcv; rw [em, ed]
          have hWa : mW a v := ⟨by rw [hF 58 8 rfl]; exact hW.1, by rw [hF 58 9 rfl]; exact hW.2.1, by rw [hF 58 10 rfl]; exact hW.2.2⟩
          show Ok (b_m_cuts_13 (f_m_cuts_3 m) (f_m_cuts_13 (f_m_cuts_3 m) k) (nI x1) (nI x2) (nI y2) (nI y) (nI x) a) P
          unfold b_m_cuts_13
          refine okc_lt x2 x (fun hh => by omega) (fun _ => ?_)
          refine ok_bind (ok_eq (m_isPlace_eq hWa h1 h2 h3 (by omega) (by omega)) ?_)
          have oth : ∀ j, j ≠ 16 * y + x → decide (j / 16 < y ∨ (j / 16 = y ∧ j % 16 < x + 1)) = decide (j / 16 < y ∨ (j / 16 = y ∧ j % 16 < x)) := fun j hj => by
            by_cases g : j / 16 < y ∨ (j / 16 = y ∧ j % 16 < x)
            · rw [decide_eq_true g, decide_eq_true (by omega)]
            · rw [decide_eq_false g, decide_eq_false (by omega)]
          refine okc_b (isP v x y) (fun hp => ok_lt ?_) (fun hp => ?_) rfl
          · rw [nI_1]
            refine iht (x + 1) k a (by omega) (by omega) (by omega) hF (fun j hj => ?_)
            rw [hR j hj]
            by_cases e : j = 16 * y + x
            · rw [e, show boxB v x1 x2 y1 y2 (16 * y + x) = false from by unfold boxB; rw [ep, hp]; rfl, Bool.false_and, Bool.false_and]
            · rw [oth j e]
          · simp only [cellI]
            refine ok_t (inb_nI (show 16 * y + x < 256 by omega) (by omega)) (ok_lt ?_)
            rw [nI_1, cl_nI (by omega)]
            refine iht (x + 1) k _ (by omega) (by omega) (by omega) (hF.sI (by simp [inL])) (fun j hj => ?_)
            rw [sI_at]
            by_cases e : j = 16 * y + x
            · rw [if_pos ⟨rfl, e⟩, e, show boxB v x1 x2 y1 y2 (16 * y + x) = true from by unfold boxB; rw [ep, hp, em, ed, decide_eq_true ⟨by omega, by omega, by omega, by omega⟩]; rfl, em, ed, decide_eq_true (by omega)]
              simp [bI]
            · rw [if_neg (fun g => e g.2), hR j hj, oth j e]
      show Ok (b_m_cuts_3 (f_m_cuts_3 m) (nI x1) (nI x2) (nI y2) (nI y) a) P
      unfold b_m_cuts_3
      refine okc_lt y2 y (fun hh => by omega) (fun _ => ?_)
      refine cols (x2 + 1 - x1) x1 1000000 a (Nat.le_refl _) (by omega) (by omega) hF (fun j hj => ?_)
      rw [hR j hj]
      cases hb : boxB v x1 x2 y1 y2 j with
      | false => rfl
      | true =>
        unfold boxB at hb
        rw [Bool.and_eq_true, decide_eq_true_eq] at hb
        rw [show decide (j / 16 < y ∨ (j / 16 = y ∧ j % 16 < x1)) = decide (j / 16 < y) from by
          by_cases g : j / 16 < y
          · rw [decide_eq_true g, decide_eq_true (by omega)]
          · rw [decide_eq_false g, decide_eq_false (by omega)]]
  unfold f_m_cuts
  refine rows (y2 + 1 - y1) y1 1000000 s0 (Nat.le_refl _) (by omega) (by omega) Fr.rf (fun k hk => ?_)
  rw [hc k hk]
  cases hb : boxB v x1 x2 y1 y2 k with
  | false => simp
  | true =>
    unfold boxB at hb
    rw [Bool.and_eq_true, decide_eq_true_eq] at hb
    rw [decide_eq_false (show ¬ k / 16 < y1 by omega)]; simp
