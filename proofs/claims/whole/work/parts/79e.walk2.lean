/-! a whole walk -/
theorem ct_two {q : Nat → Bool} : 2 ≤ fb_ct q 256 ↔ ∃ d1 d2, d1 < 256 ∧ d2 < 256 ∧ q d1 = true ∧ q d2 = true ∧ d1 ≠ d2 := by
  constructor
  · intro h
    obtain ⟨i, i1, i2, i3⟩ := fb_ct_kth (p := q) (k := 0) (n := 256) (by omega)
    obtain ⟨j, j1, j2, j3⟩ := fb_ct_kth (p := q) (k := 1) (n := 256) (by omega)
    exact ⟨i, j, i1, j1, i2, j2, fun e => by rw [e, j3] at i3; omega⟩
  · have key : ∀ d1 d2, d1 < d2 → d2 < 256 → q d1 = true → q d2 = true → 2 ≤ fb_ct q 256 := by
      intro d1 d2 h1 h2 h3 h4
      have a := fb_ct_mono q (show d1 + 1 ≤ d2 by omega)
      have b := fb_ct_mono q (show d2 + 1 ≤ 256 by omega)
      rw [fb_ct_succ, h3] at a
      rw [fb_ct_succ, h4] at b
      simp only [if_true] at a b
      omega
    rintro ⟨d1, d2, h1, h2, h3, h4, h5⟩
    rcases Nat.lt_or_ge d1 d2 with h | h
    · exact key d1 d2 h h2 h3 h4
    · exact key d2 d1 (by omega) h1 h4 h3
theorem x_walkFrom_ok {n r : Nat} {p : Nat → Bool} {g : Nat → Int32} {s : Mm} {D : Dz} {P : Unit × Mm → Prop} (hpin : pIn n p) (hn : s.1 30 0 = nI n) (hp : Rw (s.1 31) p) (hpr : p r = true) (hMr : zM D r = 0) (hD : Dm g r (zt D) s D) (hW : WFz n D) (hsum : zt D + whi p D ≤ 256) (hold : ∀ x w, zM D x ≠ 0 → nbp n p x w → zM D w ≠ 0) (hop : ∀ x, zM D x ≠ 0 → p x = true) (hH : ∀ x, zM D x = 0 → zH D x = false)
    (hP : ∀ s2 D2, Fr LDf s s2 → Dm g r (zt D) s2 D2 → WFz n D2 → (∀ x, zM D x ≠ 0 → zM D2 x = zM D x ∧ zL D2 x = zL D x ∧ zH D2 x = zH D x) → (∀ x, Co n p r x → zM D2 x ≠ 0 ∧ zL D2 x = some r ∧ zH D2 x = thB n p x) → (∀ x, zM D x = 0 → ¬ Co n p r x → zM D2 x = 0 ∧ zL D2 x = zL D x ∧ zH D2 x = false) → zt D2 - zt D = szc n p r → zt D2 + whi p D2 ≤ 256 → P ((), s2)) : Ok (f_Pcs_walkFrom (nI r) s) P := by
  have hrC := hpin.2 r hpr
  have hr := hrC.1
  have hwp := whi_pos hr hpr hMr
  unfold f_Pcs_walkFrom
  refine ok_bind (hD.meet (c := r) none hr hr (Nat.le_refl _) (fun s1 hF1 hD1 => ?_))
  have eM : ∀ x, x ≠ r → zM (zmeet D r none r) x = zM D x := fun x hx => by show (if x = r then _ else _) = _; rw [if_neg hx]
  have eMr : zM (zmeet D r none r) r = zt D + 1 := by show (if r = r then _ else _) = _; rw [if_pos rfl]
  have et : zt (zmeet D r none r) = zt D + 1 := rfl
  have eL : ∀ x, x ≠ r → zL (zmeet D r none r) x = zL D x := fun x hx => by show (if x = r then _ else _) = _; rw [if_neg hx]
  have eLr : zL (zmeet D r none r) r = some r := by show (if r = r then _ else _) = _; rw [if_pos rfl]
  have ePr : zP (zmeet D r none r) r = none := by show (if r = r then _ else _) = _; rw [if_pos rfl]
  have eH : zH (zmeet D r none r) = zH D := rfl
  have ew : whi p (zmeet D r none r) + 1 = whi p D := by
    unfold whi
    have := fb_ct_upd (fun x => p x && decide (zM D x = 0)) false (i := r) (n := 256) hr
    simp only [hpr, hMr, decide_true, Bool.and_self, if_true, Bool.false_eq_true, if_false, Nat.add_zero] at this
    have hcg : fb_ct (fun x => p x && decide (zM (zmeet D r none r) x = 0)) 256 = fb_ct (fun k => if k = r then false else (p k && decide (zM D k = 0))) 256 := fb_ct_cong (fun x _ => by
      by_cases e : x = r
      · rw [if_pos e, e, eMr]; simp
      · rw [if_neg e, eM x e])
    rw [hcg]
    exact this
  have hPV : PV p r (zmeet D r none r) := by
    refine ⟨by rw [eMr, et], by rw [et]; omega, hpr, by show (if r = r then 0 else _) = 0; rw [if_pos rfl], by show (if r = r then _ else _) = _; rw [if_pos rfl]; rfl, fun x hx => ?_, hH r hMr, fun x hx => ?_⟩
    · rw [eM x hx, et]; have := hW.2.2.1 x; omega
    · by_cases e : x = r
      · rw [e, eMr] at hx; omega
      · rw [eM x e] at hx; exact hH x hx
  have hW1 : WFz n (zmeet D r none r) := hW.meet hrC (by omega) (fun y hy => by cases hy)
  have hold1 : ∀ x w, zM (zmeet D r none r) x ≠ 0 → x ≠ r → nbp n p x w → zM (zmeet D r none r) w ≠ 0 ∧ w ≠ r := fun x w hx hxr hnb => by
    rw [eM x hxr] at hx
    have hw := hold x w hx hnb
    have hwr : w ≠ r := fun e => by rw [e] at hw; exact hw hMr
    exact ⟨by rw [eM w hwr]; exact hw, hwr⟩
  have hop1 : ∀ x, zM (zmeet D r none r) x ≠ 0 → p x = true := fun x hx => by
    by_cases e : x = r
    · rw [e]; exact hpr
    · rw [eM x e] at hx; exact hop x hx
  have h256 : whi p D ≤ 256 := fb_ct_le _ _
  refine dfs_visit (n := n) (r := r) (tb := zt D) (p := p) (g := g) (s0 := s) hpin hn hp hr (whi p (zmeet D r none r)) r (zmeet D r none r) s1 0 0 rfl hPV hW1 (by rw [et]; omega) (by rw [et]; omega) (by rw [eMr]; omega) hD1 hF1 (by omega) (fun _ => rfl) (fun D' E b' st' hC hW' hD' hF' hbr => ?_)
  have hwk := CLi.wk hpin hPV hold1 hop1 hC
  rw [et] at hwk ⊢
  have c1r := hC.1 r (by rw [eMr]; omega)
  have c5 := hC.2.2.2.2.1
  rw [et] at c5
  have c15 := hC.2.2.2.2.2.2.2.2.2.2.2.2.2.2.1
  have c16 := hC.2.2.2.2.2.2.2.2.2.2.2.2.2.2.2.1
  rw [et] at c16
  have c17 := hC.2.2.2.2.2.2.2.2.2.2.2.2.2.2.2.2 rfl
  have c14 := hC.2.2.2.2.2.2.2.2.2.2.2.2.2.1
  rw [eMr] at c14
  refine w_end (c := r) (by omega) hr hr hD' (by rw [c1r.1, eMr]; omega) c15 (by rw [c1r.2.1, ePr]) (fun s2 hF2 hD2 => ?_)
  have hb' := hbr.2 rfl
  have hct := fb_ct_le (chB r D') 256
  have hthr : thr n p r 4 ↔ 2 ≤ b' := by
    rw [wk_root hpin hwk, hb', ct_two]
    have hM : zM D' r = zt D + 1 := by rw [c1r.1, eMr]
    constructor
    · rintro ⟨d1, d2, p1, p2, m1, m2⟩
      have q1 := (hpin.2 d1 (hwk.1 d1 (by omega))).1
      have q2 := (hpin.2 d2 (hwk.1 d2 (by omega))).1
      exact ⟨d1, d2, q1, q2, chB_iff.mpr ⟨p1, by omega⟩, chB_iff.mpr ⟨p2, by omega⟩, fun e => by rw [e] at m2; omega⟩
    · rintro ⟨d1, d2, q1, q2, b1, b2, hne⟩
      obtain ⟨p1, m1⟩ := chB_iff.mp b1
      obtain ⟨p2, m2⟩ := chB_iff.mp b2
      rcases Nat.lt_trichotomy (zM D' d1) (zM D' d2) with h | h | h
      · exact ⟨d1, d2, p1, p2, by omega, h⟩
      · exact absurd (hwk.2.1 d1 d2 (by omega) h) hne
      · exact ⟨d2, d1, p2, p1, by omega, h⟩
  have hsz : zt D' - zt D = szc n p r := by
    have e1 : whi p D = szc n p r + whi p D' := by
      unfold whi szc
      rw [← fb_ct_or (p := cn n p r) (q := fun x => p x && decide (zM D' x = 0))]
      · refine fb_ct_cong (fun x _ => ?_)
        rw [Bool.eq_iff_iff]
        simp only [Bool.and_eq_true, Bool.or_eq_true, decide_eq_true_eq, cn_iff]
        constructor
        · rintro ⟨a, b⟩
          by_cases h : zM D' x = 0
          · exact Or.inr ⟨a, h⟩
          · left
            rw [← wk_comp hwk x]
            by_cases e : x = r
            · rw [e, c1r.1, eMr]; omega
            · have := (hC.2.1 x (by rw [eM x e]; exact b) h).2.1
              rw [et] at this; omega
        · rintro (h | ⟨a, h⟩)
          · have hx := (wk_comp hwk x).mpr h
            refine ⟨hwk.1 x hx, ?_⟩
            by_cases e : x = r
            · rw [e]; exact hMr
            · by_cases e2 : zM D x = 0
              · exact e2
              · exfalso
                have a := (hC.1 x (by rw [eM x e]; exact e2)).1
                rw [eM x e] at a
                have := hW.2.2.1 x; omega
          · refine ⟨a, ?_⟩
            by_cases e2 : zM D x = 0
            · exact e2
            · exfalso
              have e : x ≠ r := fun e => e2 (by rw [e]; exact hMr)
              have a := (hC.1 x (by rw [eM x e]; exact e2)).1
              rw [eM x e] at a
              omega
      · rintro x _ ⟨a, b⟩
        simp only [Bool.and_eq_true, decide_eq_true_eq] at b
        have := (wk_comp hwk x).mpr (cn_iff.mp a)
        omega
    omega
  have hmarks : ∀ x, zt D + 1 ≤ zM D' x → x ≠ r → zH D' x = thB n p x := fun x hx hxr => by
    rw [Bool.eq_iff_iff, thB_iff, c14 x hx hxr, wk_thr hpin hwk hx hxr]
    rfl
  have fin : ∀ D2, zM D2 = zM D' → zL D2 = zL D' → zt D2 = zt D' → (∀ x, x ≠ r → zH D2 x = zH D' x) → zH D2 r = thB n p r → ∀ s3, Fr LDf s s3 → Dm g r (zt D) s3 D2 → WFz n D2 → P ((), s3) := by
    intro D2 q1 q2 q3 q4 q5 s3 hF3 hD3 hW3
    have notr : ∀ x, zM D x ≠ 0 → x ≠ r := fun x hx e => hx (by rw [e]; exact hMr)
    refine hP s3 D2 hF3 hD3 hW3 (fun x hx => ?_) (fun x hx => ?_) (fun x hx hnc => ?_) (by rw [q3]; exact hsz) ?_
    · have e := notr x hx
      obtain ⟨a, _, b, c⟩ := hC.1 x (by rw [eM x e]; exact hx)
      exact ⟨by rw [q1, a, eM x e], by rw [q2, b, eL x e], by rw [q4 x e, (c e).2.2, eH]⟩
    · have hx2 := (wk_comp hwk x).mpr hx
      refine ⟨by rw [q1]; omega, ?_, ?_⟩
      · rw [q2]
        by_cases e : x = r
        · rw [e, c1r.2.2.1, eLr]
        · by_cases e2 : zM D x = 0
          · exact (hC.2.1 x (by rw [eM x e]; exact e2) (by omega)).2.2.2
          · exfalso
            have a := (hC.1 x (by rw [eM x e]; exact e2)).1
            rw [eM x e] at a
            have := hW.2.2.1 x; omega
      · by_cases e : x = r
        · rw [e]; exact q5
        · rw [q4 x e]; exact hmarks x hx2 e
    · have hx2 : zM D' x = 0 := by
        refine Classical.byContradiction (fun h => hnc ((wk_comp hwk x).mp ?_))
        have e : x ≠ r := fun e => hnc (by rw [e]; exact Rc.rf)
        have := (hC.2.1 x (by rw [eM x e]; exact hx) h).2.1
        rw [et] at this; omega
      have e : x ≠ r := fun e => hnc (by rw [e]; exact Rc.rf)
      refine ⟨by rw [q1]; exact hx2, by rw [q2, (hC.2.2.1 x hx2).2, eL x e], by rw [q4 x e]; exact (hC.2.2.1 x hx2).1⟩
    · have : whi p D2 = whi p D' := by unfold whi; rw [q1]
      rw [q3, this]; omega
  unfold b_Pcs_walkFrom_122
  refine okc_le b' 1 (fun hle => ok_some ?_) (fun hgt => ok_bind (hD2.mark hr (fun s3 hF3 hD3 => ok_some ?_)))
  · refine fin (zbump D' r) rfl rfl rfl (fun x _ => rfl) ?_ s2 (hF'.tr hF2) hD2 (hW'.bump (by omega))
    show zH D' r = _
    rw [c17, eH, hH r hMr]
    cases ht : thB n p r with
    | false => rfl
    | true => have := hthr.mp (thB_iff.mp ht); omega
  · refine fin (zmark (zbump D' r) r) rfl rfl rfl (fun x hx => ?_) ?_ s3 ((hF'.tr hF2).tr hF3) hD3 ((hW'.bump (by omega)).mark _)
    · show (if x = r then true else zH D' x) = _
      rw [if_neg hx]
    · show (if r = r then true else zH D' r) = _
      rw [if_pos rfl]
      exact (thB_iff.mpr (hthr.mpr (by omega))).symm
def LWk : List (Nat × Option Nat) := [(34, some 0), (34, some 1), (34, some 2), (34, some 6), (35, none), (36, none), (37, none), (38, none), (39, none), (40, none), (41, none)]
def Ow (n : Nat) (p : Nat → Bool) (k : Nat) (s : Mm) (D : Dz) : Prop :=
  (∀ c, c < 256 → s.1 38 c = nI (zM D c)) ∧ (∀ c, c < 256 → zM D c ≠ 0 → s.1 39 c = nI (zR D c) ∧ s.1 40 c = oI (zP D c) ∧ s.1 41 c = nI (zT D c)) ∧ (∀ c, c < 256 → s.1 35 c = oI (zL D c)) ∧ Rw (s.1 37) (zH D) ∧ s.1 34 6 = nI (zt D)
  ∧ WFz n D ∧ zt D + whi p D ≤ 256 ∧ (∀ x, zM D x ≠ 0 ↔ p x = true ∧ ∃ d, d < k ∧ p d = true ∧ Co n p d x) ∧ (∀ x, zM D x = 0 → zL D x = none ∧ zH D x = false) ∧ (∀ x q, p x = true → q < k → isRt n p q = true → Co n p q x → zL D x = some q) ∧ (∀ x, zM D x ≠ 0 → zH D x = thB n p x)
  ∧ (∀ q, q < k → isRt n p q = true → s.1 36 q = nI (szc n p q)) ∧ s.1 34 1 = nI (fb_ct (isRt n p) k) ∧ s.1 34 2 = oI (mnL n p k)
theorem mnL_ok (n : Nat) (p : Nat → Bool) : ∀ k, (mnL n p k = none ∧ mnM n p k = 0) ∨ ∃ q, q < k ∧ mnL n p k = some q ∧ isRt n p q = true ∧ mnM n p k = szc n p q
  | 0 => Or.inl ⟨rfl, rfl⟩
  | k + 1 => by
    have e1 : mnL n p (k + 1) = if isRt n p k && decide (mnM n p k < szc n p k) then some k else mnL n p k := rfl
    have e2 : mnM n p (k + 1) = if isRt n p k && decide (mnM n p k < szc n p k) then szc n p k else mnM n p k := rfl
    rw [e1, e2]
    cases h : (isRt n p k && decide (mnM n p k < szc n p k)) with
    | true =>
      simp only [Bool.and_eq_true] at h
      exact Or.inr ⟨k, by omega, rfl, h.1, rfl⟩
    | false =>
      rcases mnL_ok n p k with h2 | ⟨q, h2, h3, h4, h5⟩
      · exact Or.inl h2
      · exact Or.inr ⟨q, by omega, h3, h4, h5⟩
theorem x_mainCells_eq {n k : Nat} {p : Nat → Bool} {s : Mm} (hpin : pIn n p) (h1 : s.1 34 2 = oI (mnL n p k)) (h2 : ∀ q, q < k → isRt n p q = true → s.1 36 q = nI (szc n p q)) : f_Pcs_mainCells s = some (nI (mnM n p k), s) := by
  unfold f_Pcs_mainCells
  rw [h1]
  rcases mnL_ok n p k with ⟨a, b⟩ | ⟨q, a, b, c, d⟩
  · rw [a, b, if_pos (show oI none < 0 by decide)]; rfl
  · have hq := (hpin.2 q (isRt_iff.mp c).1).1
    rw [b, d]
    show (if nI q < 0 then _ else _) = _
    rw [if_neg (nI_pos (by omega))]
    show (if (256 : Int32) ≤ nI q then _ else if inb (nI q) 256 then some (s.1 36 (nI q).toNatClampNeg, s) else none) = _
    rw [if_neg (n256 hq), if_pos (inb_nI hq (by omega)), cl_nI (by omega), h2 q a c]
theorem x_walk_ok {n : Nat} {p : Nat → Bool} {st : Mm} {P : Unit × Mm → Prop} (hpin : pIn n p) (hn : st.1 30 0 = nI n) (hp : Rw (st.1 31) p) (hP : ∀ s2 D, Fr LWk st s2 → s2.1 34 0 = 1 → Ow n p 256 s2 D → P ((), s2)) : Ok (f_Pcs_walk st) P := by
  unfold f_Pcs_walk
  refine ok_bind (x_fill_ok (by omega) (fun s1 hF1 hz1 => ok_bind (x_fill_ok (by omega) (fun s2 hF2 hz2 => ok_bind (x_fill_ok (by omega) (fun s3 hF3 hz3 => ?_))))))
  have hFa : Fr LWk st s3 := ((((((Fr.rf.sI rfl).sI rfl).sI rfl).sI rfl).tr (hF1.wk (by decide))).tr (hF2.wk (by decide))).tr (hF3.wk (by decide))
  have f34 : ∀ j, s3.1 34 j = (sI (sI (sI (sI st 34 0 (1 : Int32)) 34 1 (0 : Int32)) 34 2 (-1 : Int32)) 34 6 (0 : Int32)).1 34 j := fun j => by rw [hF3 _ _ (by simp [inL]), hF2 _ _ (by simp [inL]), hF1 _ _ (by simp [inL])]
  have a0 : s3.1 34 0 = 1 := by rw [f34]; simp [sI_at]
  have h0 : Ow n p 0 s3 (fun _ => 0, fun _ => 0, fun _ => 0, fun _ => none, fun _ => none, fun _ => false, 0) := by
    refine ⟨fun c hc => ?_, fun c hc h => absurd rfl h, fun c hc => ?_, Rw.zero hz3, ?_, ⟨fun x h => absurd rfl h, Nat.zero_le _, fun x => Nat.le_refl _, fun x h => absurd rfl h, fun x y h => absurd rfl h⟩, ?_, fun x => ⟨fun h => absurd rfl h, fun ⟨_, d, hd, _⟩ => by omega⟩, fun x _ => ⟨rfl, rfl⟩, fun x q _ hq => by omega, fun x h => absurd rfl h, fun q hq => by omega, ?_, ?_⟩
    · rw [hF3 _ _ (by simp [inL]), hF2 _ _ (by simp [inL])]; exact hz1 c hc
    · rw [hF3 _ _ (by simp [inL])]; exact hz2 c hc
    · rw [f34]; simp [sI_at]; rfl
    · have := fb_ct_le (fun x => p x && decide (zM ((fun _ => 0, fun _ => 0, fun _ => 0, fun _ => none, fun _ => none, fun _ => false, 0) : Dz) x = 0)) 256
      unfold whi
      show 0 + _ ≤ 256
      omega
    · rw [f34]; simp [sI_at]; rfl
    · rw [f34]; simp [sI_at]; rfl
  refine ok_upF (fun m k a => f_Pcs_walk_46 m k a) (fun k a => Fr LWk st a ∧ a.1 34 0 = 1 ∧ ∃ D, Ow n p k a D) P 256 (by omega) ⟨hFa, a0, _, h0⟩ ?_ ?_
  · rintro m k a hk ⟨hF, ha0, D, hO⟩ ih
    obtain ⟨o1, o2, o3, o4, o5, oW, oS, oM, oL, oQ, oH, oC, oF, oN⟩ := id hO
    show Ok (b_Pcs_walk_46 (f_Pcs_walk_46 m) (nI k) a) P
    unfold b_Pcs_walk_46
    have hpa : Rw (a.1 31) p := hp.cg (fun y _ => hF _ _ (by simp [inL, LWk]))
    have hna : a.1 30 0 = nI n := by rw [hF _ _ rfl]; exact hn
    refine ok_f (n256 hk) (ok_bind (ok_eq (x_hasBit_eq hpa hk) ?_))
    have skip : isRt n p k = false → Ok (f_Pcs_walk_46 m (nI (k + 1)) a) P := fun hnr => by
      refine ih a ⟨hF, ha0, D, o1, o2, o3, o4, o5, oW, oS, fun x => ?_, oL, fun x q h1 h2 h3 h4 => ?_, oH, fun q h1 h2 => ?_, ?_, ?_⟩
      · rw [oM x]
        constructor
        · rintro ⟨a1, d, d1, d2, d3⟩; exact ⟨a1, d, by omega, d2, d3⟩
        · rintro ⟨a1, d, d1, d2, d3⟩
          rcases Nat.lt_or_ge d k with h | h
          · exact ⟨a1, d, h, d2, d3⟩
          · have e : d = k := by omega
            subst e
            obtain ⟨q, q1, q2, q3⟩ := rt_of hpin d2
            rcases Nat.eq_or_lt_of_le q1 with e | e
            · rw [e, hnr] at q2; cases q2
            · exact ⟨a1, q, e, (isRt_iff.mp q2).1, q3.tr d3⟩
      · rcases Nat.lt_or_ge q k with h | h
        · exact oQ x q h1 h h3 h4
        · rw [show q = k by omega, hnr] at h3; cases h3
      · rcases Nat.lt_or_ge q k with h | h
        · exact oC q h h2
        · rw [show q = k by omega, hnr] at h2; cases h2
      · rw [oF, fb_ct_succ, hnr]; rfl
      · rw [oN]
        show _ = oI (if isRt n p k && decide (mnM n p k < szc n p k) then some k else mnL n p k)
        rw [hnr]; rfl
    refine okc_b (p k) (fun e => ok_lt ?_) (fun e => ok_t (inb_nI hk (by omega)) ?_)
    · rw [nI_1]
      exact skip (by unfold isRt; rw [e]; rfl)
    · simp only
      rw [cl_nI (by omega), o1 k hk]
      have hMk := oW.2.2.1 k
      have hMt := oW.2.1
      refine okc_eq (zM D k) 0 (fun hM0 => ok_lt (ok_t (inb_nI hk (by omega)) ?_)) (fun hM0 => ok_lt ?_)
      · have hrt : isRt n p k = true := by
          refine isRt_iff.mpr ⟨e, fun d d1 d2 d3 => ?_⟩
          exact ((oM k).mpr ⟨e, d, d1, d2, d3⟩) hM0
        have hkC := hpin.2 k e
        rw [oF, nI_1]
        generalize hs2 : sI (sI a 34 1 (nI (fb_ct (isRt n p) k + 1))) 36 k (0 : Int32) = s2
        have g34 : ∀ j, j ≠ 1 → s2.1 34 j = a.1 34 j := fun j hj => by rw [← hs2, sI_row _ _ _ _ (by decide), sI_col _ _ _ _ hj]
        have g1 : s2.1 34 1 = nI (fb_ct (isRt n p) k + 1) := by rw [← hs2, sI_row _ _ _ _ (by decide), sI_self]
        have gr : ∀ c, c ≠ 34 → c ≠ 36 → s2.1 c = a.1 c := fun c h1 h2 => by rw [← hs2, sI_row _ _ _ _ h2, sI_row _ _ _ _ h1]
        have gC : ∀ q, q ≠ k → s2.1 36 q = a.1 36 q := fun q hq => by rw [← hs2, sI_col _ _ _ _ hq, sI_row _ _ _ _ (by decide)]
        have hFs2 : Fr LWk st s2 := by rw [← hs2]; exact (hF.sI rfl).sI rfl
        have hDm : Dm (fun q => a.1 36 q) k (zt D) s2 D := by
          refine ⟨fun c hc => by rw [gr _ (by decide) (by decide)]; exact o1 c hc, fun c hc hm => by rw [gr _ (by decide) (by decide), gr _ (by decide) (by decide), gr _ (by decide) (by decide)]; exact o2 c hc hm, fun c hc => by rw [gr _ (by decide) (by decide)]; exact o3 c hc, by rw [gr _ (by decide) (by decide)]; exact o4, by rw [g34 _ (by decide)]; exact o5, ?_, gC⟩
          rw [← hs2, sI_self, Nat.sub_self]; rfl
        refine ok_bind (x_walkFrom_ok (n := n) (p := p) hpin (by rw [gr _ (by decide) (by decide)]; exact hna) (by rw [gr _ (by decide) (by decide)]; exact hpa) e hM0 hDm oW oS (fun x w hx ⟨i, i1, i2, i3⟩ => ?_) (fun x hx => ((oM x).mp hx).1) (fun x hx => (oL x hx).2) (fun s3 D2 hF3 hD3 hW3 hA hB hC hsz hsum => ?_))
        · obtain ⟨a1, d, d1, d2, d3⟩ := (oM x).mp hx
          exact (oM w).mpr ⟨i3, d, d1, d2, Rc.st d3 i1 i2 i3⟩
        · obtain ⟨m1, m2, m3, m4, m5, m6, m7⟩ := id hD3
          have hMB : ∀ x, zM D2 x ≠ 0 ↔ p x = true ∧ ∃ d, d < k + 1 ∧ p d = true ∧ Co n p d x := fun x => by
            constructor
            · intro hx
              by_cases h : zM D x = 0
              · by_cases hc : Co n p k x
                · exact ⟨hc.p e, k, by omega, e, hc⟩
                · exact absurd (hC x h hc).1 hx
              · obtain ⟨a1, d, d1, d2, d3⟩ := (oM x).mp h
                exact ⟨a1, d, by omega, d2, d3⟩
            · rintro ⟨a1, d, d1, d2, d3⟩
              rcases Nat.lt_or_ge d k with h | h
              · have := (oM x).mpr ⟨a1, d, h, d2, d3⟩
                rw [(hA x this).1]; exact this
              · rw [show d = k by omega] at d3
                exact (hB x d3).1
          have n1 : s3.1 34 1 = nI (fb_ct (isRt n p) (k + 1)) := by
            rw [hF3 _ _ rfl, g1, fb_ct_succ, hrt]; rfl
          have n2 : s3.1 34 2 = oI (mnL n p k) := by rw [hF3 _ _ rfl, g34 _ (by decide)]; exact oN
          have n3 : ∀ q, q < k → isRt n p q = true → s3.1 36 q = nI (szc n p q) := fun q hq hq2 => by rw [m7 q (by omega)]; exact oC q hq hq2
          have n4 : s3.1 36 k = nI (szc n p k) := by rw [m6, hsz]
          have hs256 := szc_le n p k
          have hm256 := mnM_le n p k
          have fin : ∀ s4 : Mm, (∀ c, c ≠ 34 → s4.1 c = s3.1 c) → (∀ j, j ≠ 2 → s4.1 34 j = s3.1 34 j) → s4.1 34 2 = oI (mnL n p (k + 1)) → Fr LWk st s4 → Ok (f_Pcs_walk_46 m (nI (k + 1)) s4) P := by
            intro s4 z1 z2 z3 z4
            refine ih s4 ⟨z4, ?_, D2, fun c hc => by rw [z1 _ (by decide)]; exact m1 c hc, fun c hc hm => by rw [z1 _ (by decide), z1 _ (by decide), z1 _ (by decide)]; exact m2 c hc hm, fun c hc => by rw [z1 _ (by decide)]; exact m3 c hc, by rw [z1 _ (by decide)]; exact m4, by rw [z2 _ (by decide)]; exact m5, hW3, hsum, hMB, fun x hx => ?_, fun x q h1 h2 h3 h4 => ?_, fun x hx => ?_, fun q h1 h2 => ?_, by rw [z2 _ (by decide)]; exact n1, z3⟩
            · rw [z2 _ (by decide), hF3 _ _ rfl, g34 _ (by decide)]; exact ha0
            · have hx0 : zM D x = 0 := by
                refine Classical.byContradiction (fun h => ?_)
                rw [(hA x h).1] at hx; exact h hx
              have hnc : ¬ Co n p k x := fun h => (hB x h).1 hx
              exact ⟨by rw [(hC x hx0 hnc).2.1]; exact (oL x hx0).1, (hC x hx0 hnc).2.2⟩
            · rcases Nat.lt_or_ge q k with h | h
              · have := (oM x).mpr ⟨h1, q, h, (isRt_iff.mp h3).1, h4⟩
                rw [(hA x this).2.1]; exact oQ x q h1 h h3 h4
              · have e2 : q = k := by omega
                rw [e2] at h4 ⊢
                exact (hB x h4).2.1
            · by_cases h : zM D x = 0
              · by_cases hc : Co n p k x
                · exact (hB x hc).2.2
                · exact absurd (hC x h hc).1 hx
              · rw [(hA x h).2.2]; exact oH x h
            · rw [z1 _ (by decide)]
              rcases Nat.lt_or_ge q k with h | h
              · exact n3 q h h2
              · rw [show q = k by omega]; exact n4
          refine ok_t (inb_nI hk (by omega)) (ok_bind (ok_eq (x_mainCells_eq hpin n2 n3) ?_))
          simp only
          rw [n4]
          refine okc_le (szc n p k) (mnM n p k) (fun hle => ok_lt ?_) (fun hgt => ok_lt ?_)
          · rw [nI_1]
            refine fin s3 (fun _ _ => rfl) (fun _ _ => rfl) ?_ (hFs2.tr (hF3.wk (by decide)))
            rw [n2]
            show _ = oI (if isRt n p k && decide (mnM n p k < szc n p k) then some k else mnL n p k)
            rw [decide_eq_false (by omega), Bool.and_false]; rfl
          · rw [nI_1]
            refine fin _ (fun c hc => sI_row _ _ _ _ hc) (fun j hj => sI_col _ _ _ _ hj) ?_ ((hFs2.tr (hF3.wk (by decide))).sI rfl)
            rw [sI_self]
            show nI k = oI (if isRt n p k && decide (mnM n p k < szc n p k) then some k else mnL n p k)
            rw [hrt, decide_eq_true hgt]; rfl
      · rw [nI_1]
        refine skip ?_
        cases h : isRt n p k with
        | false => rfl
        | true =>
          obtain ⟨_, d, d1, d2, d3⟩ := (oM k).mp hM0
          exact absurd d3 ((isRt_iff.mp h).2 d d1 d2)
  · rintro m a ⟨hF, ha0, D, hO⟩
    show Ok (b_Pcs_walk_46 (f_Pcs_walk_46 m) (nI 256) a) P
    unfold b_Pcs_walk_46
    exact ok_t (by decide) (ok_some (hP a D hF ha0 hO))
theorem Ow.pc {n : Nat} {p : Nat → Bool} {s : Mm} {D : Dz} (hpin : pIn n p) (h : Ow n p 256 s D) : PcX s n p := by
  obtain ⟨o1, o2, o3, o4, o5, oW, oS, oM, oL, oQ, oH, oC, oF, oN⟩ := h
  have hM : ∀ x, zM D x ≠ 0 ↔ p x = true := fun x => by
    rw [oM x]
    exact ⟨fun h => h.1, fun h => ⟨h, x, (hpin.2 x h).1, h, Rc.rf⟩⟩
  refine ⟨oF, oN, fun k hk hpk => ?_, fun k r hpk hr hco => ?_, fun r hr => oC r (hpin.2 r (isRt_iff.mp hr).1).1 hr, o4.cg2 (fun k _ => ?_)⟩
  · rw [o3 k hk]
    have : zM D k = 0 := Classical.byContradiction (fun h => by rw [(hM k).mp h] at hpk; cases hpk)
    rw [(oL k this).1]; rfl
  · rw [o3 k (hpin.2 k hpk).1, oQ k r hpk (hpin.2 r (isRt_iff.mp hr).1).1 hr hco]; rfl
  · cases hpk : p k with
    | false =>
      have : zM D k = 0 := Classical.byContradiction (fun h => by rw [(hM k).mp h] at hpk; cases hpk)
      rw [(oL k this).2]; rfl
    | true => rw [oH k ((hM k).mpr hpk)]; rfl
