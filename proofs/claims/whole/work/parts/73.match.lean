/-! matching, the class's -/
def LMt : List (Nat × Option Nat) := [(46, none), (50, none), (51, none)]
theorem row_orb {f : Nat → Int32} {c : Nat → Bool} (h : Rw f c) {k : Nat} (hk : k < 256) : Rw (upd f (k / 16) (f (k / 16) ||| ((1 : Int32) <<< (nI (k % 16) &&& 31)))) (fun j => if j = k then true else c j) := by
  have := h.orb (y := k / 16) (x := k % 16) (by omega) (by omega)
  rw [show 16 * (k / 16) + k % 16 = k by omega] at this
  exact this
theorem x_learn_ok {s : Mm} {kk bb : Nat → Bool} {k m : Nat} {bare : Bool} {P : Int32 × Mm → Prop} (hk : k < 256) (h1 : Rw (s.1 51) kk) (h2 : Rw (s.1 50) bb) (hm : s.1 46 2 = nI m)
    (hk1 : kk k = true → bb k = bare → P (1, s)) (hk2 : kk k = true → bb k ≠ bare → P (0, s))
    (hn : kk k = false → ∀ s2, Fr LMt s s2 → Rw (s2.1 51) (fun j => if j = k then true else kk j) → Rw (s2.1 50) (fun j => if j = k ∧ bare = true then true else bb j) → s2.1 46 2 = nI (m + if bare then 1 else 0) → P (1, s2)) : Ok (f_Fit_learn (nI k) (bI bare) s) P := by
  unfold f_Fit_learn
  refine ok_bind (ok_eq (x_hasBit_eq h1 hk) ?_)
  refine okc_b (kk k) (fun e => ?_) (fun e => ?_)
  · simp only [an15 (show k < 65536 by omega), sh4 (show k < 65536 by omega)]
    have hb := inb_nI (show k / 16 < 16 by omega) (show 16 < 2147483648 by omega)
    refine ok_lt (ok_lt (ok_t hb (ok_lt (ok_t hb ?_))))
    rw [cl_nI (by omega)]
    cases bare with
    | false =>
      refine ok_t rfl (ok_some (hn e _ (Fr.rf.sI rfl) ?_ ?_ ?_))
      · rw [sI_own]; exact row_orb h1 hk
      · rw [sI_row _ _ _ _ (by decide)]; simpa using h2
      · rw [sI_row _ _ _ _ (by decide)]; exact hm
    | true =>
      refine ok_f ne10 (ok_lt (ok_t hb (ok_lt (ok_t hb (ok_lt (ok_some (hn e _ (((Fr.rf.sI rfl).sI rfl).sI rfl) ?_ ?_ ?_)))))))
      · rw [sI_row _ _ _ _ (by decide), sI_row _ _ _ _ (by decide), sI_own]; exact row_orb h1 hk
      · rw [sI_row _ _ _ _ (by decide), sI_own, sI_row _ _ _ _ (by decide), cl_nI (show k / 16 < 2147483648 by omega)]
        simpa using row_orb h2 hk
      · rw [sI_self, sI_row _ _ _ _ (by decide), sI_row _ _ _ _ (by decide), hm, nI_1]; rfl
  · refine ok_bind (ok_eq (x_hasBit_eq h2 hk) ?_)
    by_cases e2 : bb k = bare
    · exact ok_t (by show bI (bb k) = _; rw [e2]) (ok_some (hk1 e e2))
    · exact ok_f (fun h => e2 (bI_inj h)) (ok_some (hk2 e e2))
theorem ct_add {p q : Nat → Bool} {k : Nat} (hk : k < 256) (h0 : p k = false) (hq : ∀ j, j < 256 → q j = if j = k then true else p j) : fb_ct q 256 = fb_ct p 256 + 1 := by
  rw [fb_ct_cong hq]
  have := fb_ct_upd p true (i := k) (n := 256) hk
  rw [h0] at this
  simpa using this
theorem x_match_ok {st : Mm} {n : Nat} {l : List Nat} {v : Wd} {w : Nat → Bool} {P : Int32 × Mm → Prop} (hn : n ≤ 16) (hS : FoS st 47 48 49 n l (slb 0) v) (hw : Rw (st.1 4) w)
    (hall : (∀ c, ¬ unl l n w c) → ∀ s2, Fr LMt st s2 → Rw (s2.1 51) (knB l n 256) → Rw (s2.1 50) (baB l n w 256) → s2.1 46 2 = nI (fb_ct (baB l n w 256) 256) → P (1, s2))
    (hno : ∀ c, unl l n w c → (∀ e, e < c → ¬ unl l n w e) → ∀ s2, Fr LMt st s2 → s2.1 46 3 = nI c → P (0, s2)) : Ok (f_Fit_match st) P := by
  have hf := hS.2.2.2.2.2.1
  unfold f_Fit_match
  refine ok_bind (x_fill_ok (by omega) (fun s1 hF1 hz1 => ?_))
  refine ok_bind (x_fill_ok (by omega) (fun s2 hF2 hz2 => ?_))
  have hF0 : Fr LMt st (sI s2 46 2 0) := ((hF1.wk (by decide)).tr (hF2.wk (by decide))).sI rfl
  have kS : ∀ a, Fr LMt st a → FoS a 47 48 49 n l (slb 0) v := fun a hF => hS.same (fun j => hF _ j rfl) (fun j => hF _ j rfl) (fun j => hF _ j rfl)
  have kw : ∀ a, Fr LMt st a → Rw (a.1 4) w := fun a hF => hw.cg (fun y _ => hF _ y rfl)
  refine ok_grid (α := Mm) (fun m y a => f_Fit_match_23 m y a) (fun k m y x a => f_Fit_match_36 k m y x a) (fun y x a => Fr LMt st a ∧ (∀ e, e < 16 * y + x → ¬ unl l n w e) ∧ Rw (a.1 51) (knB l n (16 * y + x)) ∧ Rw (a.1 50) (baB l n w (16 * y + x)) ∧ a.1 46 2 = nI (fb_ct (baB l n w (16 * y + x)) 256)) P n n ?_ ?_ ?_ ?_ (by omega) (by omega) (a := sI s2 46 2 0) ⟨hF0, fun e he => by omega, ?_, ?_, ?_⟩
  · rintro k m y x a hy hx ⟨hF, hno2, hk1, hb1, hm1⟩ ih
    show Ok (b_Fit_match_36 k (f_Fit_match_36 k m) (nI y) (nI x) a) P
    unfold b_Fit_match_36
    rw [(kS a hF).1]
    refine ok_f (nI_ge hx (by omega)) (ok_t (inb_nI (show y < 16 by omega) (by omega)) ?_)
    rw [cl_nI (by omega), bit_of (by omega), (kw a hF).lo (by omega) (by omega)]
    obtain ⟨p, hp, hpv, hpl, hpO⟩ := plc_some hn hf hx hy
    have hc : isC n (16 * y + x) := ⟨by omega, by omega, by omega⟩
    have key : ∀ bare : Bool, w (16 * y + x) = !bare → Ok (b_Fit_match_62 k (f_Fit_match_36 k m) (nI y) (nI x) (bI bare) a) P := by
      intro bare hwb
      unfold b_Fit_match_62
      refine ok_bind (ok_eq (x_placeOf_eq (kS a hF) hx hy) ?_)
      rw [hpO]
      refine ok_f (show ¬ nI p < 0 from nI_pos (by omega)) ?_
      have hwf : (w (16 * y + x) = false ↔ bare = true) := by rw [hwb]; cases bare <;> simp
      refine ok_bind (x_learn_ok hp hk1 hb1 hm1 (fun e1 e2 => ok_f ne10 (ok_lt ?_)) (fun e1 e2 => ok_t rfl ?_) (fun e1 s3 hF3 hk3 hb3 hm3 => ok_f ne10 (ok_lt ?_)))
      · rw [nI_1]
        have hkn := knB_iff.mp e1
        have hu := unl_known hc hpl hno2 hkn (w := w)
        have hbe : ba l n w (16 * y + x) p ↔ w (16 * y + x) = false := by rw [← baB_iff, e2, hwf]
        refine ih a ⟨hF, fun e he => ?_, hk1.cg2 (fun j _ => Bx knB_iff knB_iff ?_), hb1.cg2 (fun j _ => Bx baB_iff baB_iff ?_), ?_⟩
        · rcases Nat.lt_or_ge e (16 * y + x) with h | h
          · exact hno2 e h
          · rw [show e = 16 * y + x by omega, hu]; exact fun h => h hbe
        · rw [show 16 * y + (x + 1) = 16 * y + x + 1 by omega, kn_succ hc hpl]
          exact ⟨fun h => h.elim id (fun e => e ▸ hkn), Or.inl⟩
        · rw [show 16 * y + (x + 1) = 16 * y + x + 1 by omega, ba_succ hc hpl]
          exact ⟨fun h => h.elim id (fun e => by rw [e.1]; exact hbe.mpr e.2), Or.inl⟩
        · rw [hm1, fb_ct_cong (q := baB l n w (16 * y + (x + 1))) (fun j _ => Bx baB_iff baB_iff ?_)]
          rw [show 16 * y + (x + 1) = 16 * y + x + 1 by omega, ba_succ hc hpl]
          exact ⟨Or.inl, fun h => h.elim id (fun e => by rw [e.1]; exact hbe.mpr e.2)⟩
      · have hkn := knB_iff.mp e1
        have hu := unl_known hc hpl hno2 hkn (w := w)
        unfold b_Fit_match_91 f_x_cellAt
        refine ok_bind (ok_some (ok_some (hno (16 * y + x) (hu.mpr (fun h => e2 ?_)) hno2 _ (hF.sI rfl) ?_)))
        · rw [Bool.eq_iff_iff, baB_iff, h, hwf]
        · rw [sI_self]; exact cellI
      · rw [nI_1]
        have hkn : ¬ kn l n (16 * y + x) p := fun h => by rw [knB_iff.mpr h] at e1; cases e1
        obtain ⟨hu, hnb⟩ := unl_new hpl hkn (w := w)
        have hnbB : baB l n w (16 * y + x) p = false := by
          cases h : baB l n w (16 * y + x) p with
          | false => rfl
          | true => exact absurd (baB_iff.mp h) hnb
        have hb4 : ∀ j, baB l n w (16 * y + (x + 1)) j = if j = p ∧ bare = true then true else baB l n w (16 * y + x) j := by
          intro j
          rw [Bool.eq_iff_iff, baB_iff, show 16 * y + (x + 1) = 16 * y + x + 1 by omega, ba_succ hc hpl, hwf]
          by_cases h : j = p ∧ bare = true
          · simp [h]
          · rw [if_neg h, baB_iff]
            exact ⟨fun h2 => h2.elim id (fun h3 => absurd h3 h), Or.inl⟩
        refine ih s3 ⟨hF.tr hF3, fun e he => ?_, hk3.cg2 (fun j _ => ?_), hb3.cg2 (fun j _ => hb4 j), ?_⟩
        · rcases Nat.lt_or_ge e (16 * y + x) with h | h
          · exact hno2 e h
          · rw [show e = 16 * y + x by omega]; exact hu
        · rw [Bool.eq_iff_iff, knB_iff, show 16 * y + (x + 1) = 16 * y + x + 1 by omega, kn_succ hc hpl]
          by_cases h : j = p
          · simp [h]
          · rw [if_neg h, knB_iff]
            exact ⟨fun h2 => h2.elim id (fun h3 => absurd h3 h), Or.inl⟩
        · rw [hm3]
          cases bare with
          | false =>
            simp only [Bool.false_eq_true, and_false, if_false] at hb4
            simp only [Bool.false_eq_true, if_false, Nat.add_zero]
            rw [fb_ct_cong (fun j _ => hb4 j)]
          | true =>
            simp only [and_true] at hb4
            rw [ct_add hp hnbB (fun j _ => hb4 j)]; rfl
    cases hwb : w (16 * y + x) with
    | false => exact ok_t rfl (key true (by rw [hwb]; rfl))
    | true => exact ok_f ne10 (key false (by rw [hwb]; rfl))
  · rintro k m y a hy ⟨hF, hno2, hk1, hb1, hm1⟩ ih
    show Ok (b_Fit_match_36 k (f_Fit_match_36 k m) (nI y) (nI n) a) P
    unfold b_Fit_match_36 b_Fit_match_108
    rw [(kS a hF).1]
    refine ok_t (Int32.le_refl _) (ok_lt ?_)
    rw [nI_1]
    have gap : ∀ e, 16 * y + n ≤ e → e < 16 * (y + 1) + 0 → ¬ isC n e := fun e h1 h2 h3 => by have := h3.2.1; omega
    have hbc : ∀ j, baB l n w (16 * (y + 1) + 0) j = baB l n w (16 * y + n) j := fun j => Bx baB_iff baB_iff (ba_gap (by omega) gap)
    refine ih a ⟨hF, fun e he hu => ?_, hk1.cg2 (fun j _ => Bx knB_iff knB_iff (kn_gap (by omega) gap)), hb1.cg2 (fun j _ => hbc j), ?_⟩
    · rcases Nat.lt_or_ge e (16 * y + n) with h | h
      · exact hno2 e h hu
      · exact gap e h he hu.1
    · rw [hm1, fb_ct_cong (fun j _ => hbc j)]
  · rintro m y a hy ⟨hF, _⟩ ih
    show Ok (b_Fit_match_23 (f_Fit_match_23 m) (nI y) a) P
    unfold b_Fit_match_23
    rw [(kS a hF).1]
    exact ok_f (nI_ge hy (by omega)) ih
  · rintro m a ⟨hF, hno2, hk1, hb1, hm1⟩
    show Ok (b_Fit_match_23 (f_Fit_match_23 m) (nI n) a) P
    unfold b_Fit_match_23
    rw [(kS a hF).1]
    have gap : ∀ e, 16 * n + 0 ≤ e → e < 256 → ¬ isC n e := fun e h1 h2 h3 => by have := h3.2.2; omega
    have hbc : ∀ j, baB l n w 256 j = baB l n w (16 * n + 0) j := fun j => Bx baB_iff baB_iff (ba_gap (by omega) gap)
    refine ok_t (Int32.le_refl _) (ok_some (hall (fun c hu => ?_) a hF (hk1.cg2 (fun j _ => Bx knB_iff knB_iff (kn_gap (by omega) gap))) (hb1.cg2 (fun j _ => hbc j)) (by rw [hm1, fb_ct_cong (fun j _ => hbc j)])))
    rcases Nat.lt_or_ge c (16 * n + 0) with h | h
    · exact hno2 c h hu
    · exact gap c h hu.1.1 hu.1
  · rw [sI_row _ _ _ _ (by decide)]
    have e0 : ∀ y, y < 16 → s2.1 51 y = 0 := fun y hy => by rw [hF2 _ _ (by simp [inL])]; exact hz1 y hy
    exact (Rw.zero e0).cg2 (fun j _ => by
      cases h : knB l n (16 * 0 + 0) j with
      | false => rfl
      | true => obtain ⟨e, h1, _⟩ := knB_iff.mp h; omega)
  · rw [sI_row _ _ _ _ (by decide)]
    exact (Rw.zero hz2).cg2 (fun j _ => by
      cases h : baB l n w (16 * 0 + 0) j with
      | false => rfl
      | true => obtain ⟨e, h1, _⟩ := baB_iff.mp h; omega)
  · rw [sI_self]
    have : fb_ct (baB l n w (16 * 0 + 0)) 256 = 0 := fb_ct_zero.mpr (fun j _ => by
      cases h : baB l n w (16 * 0 + 0) j with
      | false => rfl
      | true => obtain ⟨e, h1, _⟩ := baB_iff.mp h; omega)
    rw [this]; rfl
/-! matching, the reference's -/
def LMu : List (Nat × Option Nat) := [(58, some 13), (58, some 14), (58, some 15), (58, some 16), (77, none), (78, none)]
theorem m_firstUnlike_ok {st : Mm} {n : Nat} {l : List Nat} {v : Wd} {w : Nat → Bool} {P : Int32 × Mm → Prop} (hr : mRec st n l v) (hw : Rw (st.1 60) w)
    (hall : (∀ c, ¬ unl l n w c) → ∀ s2, Fr LMu st s2 → (∀ k, k < 256 → s2.1 78 k = bI (baB l n w 256 k)) → P (-1, s2))
    (hno : ∀ c, unl l n w c → (∀ e, e < c → ¬ unl l n w e) → ∀ s2, Fr LMu st s2 → P (nI c, s2)) : Ok (f_m_firstUnlike st) P := by
  have hn := hr.2.1
  have hf := hr.2.2.2.2.1
  have kr : ∀ a, Fr LMu st a → mRec a n l v := fun a hF => hr.keep (hF _ _ rfl) (hF _ _ rfl) (hF _ _ rfl) (hF _ _ rfl) (hF _ _ rfl) (fun j => hF _ _ (by simp [inL, LMu]))
  have kw : ∀ a, Fr LMu st a → Rw (a.1 60) w := fun a hF => hw.cg (fun y _ => hF _ y (by simp [inL, LMu]))
  unfold f_m_firstUnlike
  refine ok_upF (fun m i a => f_m_firstUnlike_2 m i a) (fun i a => (∀ k, k < i → a.1 77 k = 0) ∧ (∀ k, k < i → a.1 78 k = 0) ∧ Fr LMu st a) P 256 (by omega) ⟨fun k hk => by omega, fun k hk => by omega, Fr.rf⟩ ?_ ?_
  · rintro m i a hi ⟨g1, g2, g3⟩ ih
    show Ok (b_m_firstUnlike_2 (f_m_firstUnlike_2 m) (nI i) a) P
    unfold b_m_firstUnlike_2
    have hb := inb_nI hi (show 256 < 2147483648 by omega)
    refine ok_f (n256 hi) (ok_t hb (ok_t hb (ok_lt ?_)))
    rw [cl_nI (by omega), nI_1]
    refine ih _ ⟨fun k hk => ?_, fun k hk => ?_, (g3.sI rfl).sI rfl⟩
    · rw [sI_row _ _ _ _ (by decide), sI_at]
      by_cases e : k = i
      · simp [e]
      · simp only [e, and_false, reduceIte]; exact g1 k (by omega)
    · rw [sI_at]
      by_cases e : k = i
      · simp [e]
      · simp only [e, and_false, reduceIte]; rw [sI_row _ _ _ _ (by decide)]; exact g2 k (by omega)
  · rintro m a ⟨g1, g2, g3⟩
    show Ok (b_m_firstUnlike_2 (f_m_firstUnlike_2 m) (nI 256) a) P
    unfold b_m_firstUnlike_2 b_m_firstUnlike_29
    refine ok_t (by decide) ?_
    refine ok_grid (α := Mm) (fun m y a => f_m_firstUnlike_31 m y a) (fun k m y x a => f_m_firstUnlike_41 k m y x a) (fun y x a => Fr LMu st a ∧ (∀ e, e < 16 * y + x → ¬ unl l n w e) ∧ (∀ k, k < 256 → a.1 77 k = bI (knB l n (16 * y + x) k)) ∧ (∀ k, k < 256 → a.1 78 k = bI (baB l n w (16 * y + x) k))) P n n ?_ ?_ ?_ ?_ (by omega) (by omega) (a := a) ⟨g3, fun e he => by omega, fun k hk => ?_, fun k hk => ?_⟩
    · rintro k m y x a hy hx ⟨hF, hno2, hk1, hb1⟩ ih
      show Ok (b_m_firstUnlike_41 k (f_m_firstUnlike_41 k m) (nI y) (nI x) a) P
      unfold b_m_firstUnlike_41
      have hra := kr a hF
      rw [hra.1]
      refine ok_f (nI_ge hx (by omega)) ?_
      obtain ⟨p, hp, hpv, hpl, hpO⟩ := plc_some hn hf hx hy
      have hc : isC n (16 * y + x) := ⟨by omega, by omega, by omega⟩
      refine ok_bind (m_placeOf_ok hra.1 (by omega) hx hy hra.2.2.1 hra.2.2.2.2.2.1 hra.2.2.2.2.2.2.1 hra.2.2.2.1 hra.2.2.2.2.1 (fun e => by unfold plO at hpO; rw [e] at hpO; cases hpO) (fun z hz _ s2 hF2 => ?_))
      have ep : 16 * z.2.1 + z.1 = p := by unfold plO at hpO; rw [hz] at hpO; exact Option.some.inj hpO
      rw [ep]
      have hFs2 : Fr LMu st s2 := hF.tr (hF2.wk (by decide))
      have hk2 : ∀ k, k < 256 → s2.1 77 k = bI (knB l n (16 * y + x) k) := fun k hk => by rw [hF2 _ _ (by simp [inL, LB])]; exact hk1 k hk
      have hb2 : ∀ k, k < 256 → s2.1 78 k = bI (baB l n w (16 * y + x) k) := fun k hk => by rw [hF2 _ _ (by simp [inL, LB])]; exact hb1 k hk
      refine ok_bind (ok_eq (m_isWanted_eq (kw s2 hFs2) (by omega) (by omega)) ?_)
      have hb := inb_nI hp (show 256 < 2147483648 by omega)
      have key : ∀ bare : Bool, w (16 * y + x) = !bare → Ok (b_m_firstUnlike_71 k (f_m_firstUnlike_41 k m) (nI y) (nI x) (nI p) (bI bare) s2) P := by
        intro bare hwb
        have hwf : (w (16 * y + x) = false ↔ bare = true) := by rw [hwb]; cases bare <;> simp
        have goon : ¬ unl l n w (16 * y + x) → (kn l n (16 * y + x) p → (ba l n w (16 * y + x) p ↔ w (16 * y + x) = false)) → Ok (b_m_firstUnlike_100 k (f_m_firstUnlike_41 k m) (nI y) (nI x) (nI p) (bI bare) s2) P := by
          intro hu hcons
          unfold b_m_firstUnlike_100
          refine ok_t hb (ok_t hb (ok_t (by cases bare <;> simp [bI]) (ok_lt ?_)))
          rw [cl_nI (by omega), nI_1]
          refine ih _ ⟨(hFs2.sI rfl).sI rfl, fun e he => ?_, fun j hj => ?_, fun j hj => ?_⟩
          · rcases Nat.lt_or_ge e (16 * y + x) with h | h
            · exact hno2 e h
            · rw [show e = 16 * y + x by omega]; exact hu
          · rw [sI_row _ _ _ _ (by decide), sI_at]
            have e1 : knB l n (16 * y + (x + 1)) j = if j = p then true else knB l n (16 * y + x) j := by
              rw [Bool.eq_iff_iff, knB_iff, show 16 * y + (x + 1) = 16 * y + x + 1 by omega, kn_succ hc hpl]
              by_cases h : j = p
              · simp [h]
              · rw [if_neg h, knB_iff]
                exact ⟨fun h2 => h2.elim id (fun h3 => absurd h3 h), Or.inl⟩
            rw [e1]
            by_cases e : j = p
            · simp [e, bI]
            · simp only [e, and_false, reduceIte]; exact hk2 j hj
          · rw [sI_at]
            have e1 : baB l n w (16 * y + (x + 1)) j = if j = p then bare else baB l n w (16 * y + x) j := by
              rw [Bool.eq_iff_iff, baB_iff, show 16 * y + (x + 1) = 16 * y + x + 1 by omega, ba_succ hc hpl, hwf]
              by_cases h : j = p
              · subst h
                rw [if_pos rfl]
                constructor
                · rintro (h2 | h2)
                  · obtain ⟨e, q1, q2, q3, q4⟩ := h2
                    exact hwf.mp ((hcons ⟨e, q1, q2, q3⟩).mp ⟨e, q1, q2, q3, q4⟩)
                  · exact h2.2
                · intro h2; exact Or.inr ⟨rfl, h2⟩
              · rw [if_neg h, baB_iff]
                exact ⟨fun h2 => h2.elim id (fun h3 => absurd h3.1 h), Or.inl⟩
            rw [e1]
            by_cases e : j = p
            · simp only [e, and_self, reduceIte]
            · simp only [e, and_false, reduceIte]; rw [sI_row _ _ _ _ (by decide)]; exact hb2 j hj
        unfold b_m_firstUnlike_71
        refine ok_t hb ?_
        rw [cl_nI (by omega), hk2 p hp]
        refine okc_b _ (fun e => ?_) (fun e => ?_)
        · have hkn : ¬ kn l n (16 * y + x) p := fun h => by rw [knB_iff.mpr h] at e; cases e
          exact goon (unl_new hpl hkn).1 (fun h => absurd h hkn)
        · have hkn := knB_iff.mp e
          have hu := unl_known hc hpl hno2 hkn (w := w)
          refine ok_t hb ?_
          rw [hb2 p hp]
          by_cases e2 : baB l n w (16 * y + x) p = bare
          · have hbe : ba l n w (16 * y + x) p ↔ w (16 * y + x) = false := by rw [← baB_iff, e2, hwf]
            exact ok_t (by rw [e2]) (goon (fun h => hu.mp h hbe) (fun _ => hbe))
          · refine ok_f (fun h => e2 (bI_inj h)) (ok_some ?_)
            simp only [cellI]
            refine hno (16 * y + x) (hu.mpr (fun h => e2 ?_)) hno2 s2 hFs2
            rw [Bool.eq_iff_iff, baB_iff, h, hwf]
      cases hwb : w (16 * y + x) with
      | false => exact ok_t rfl (key true (by rw [hwb]; rfl))
      | true => exact ok_f (show ¬ bI true = 0 by decide) (key false (by rw [hwb]; rfl))
    · rintro k m y a hy ⟨hF, hno2, hk1, hb1⟩ ih
      show Ok (b_m_firstUnlike_41 k (f_m_firstUnlike_41 k m) (nI y) (nI n) a) P
      unfold b_m_firstUnlike_41 b_m_firstUnlike_121
      rw [(kr a hF).1]
      refine ok_t (Int32.le_refl _) (ok_lt ?_)
      rw [nI_1]
      have gap : ∀ e, 16 * y + n ≤ e → e < 16 * (y + 1) + 0 → ¬ isC n e := fun e h1 h2 h3 => by have := h3.2.1; omega
      refine ih a ⟨hF, fun e he hu => ?_, fun j hj => by rw [hk1 j hj, Bx knB_iff knB_iff (kn_gap (by omega) gap)], fun j hj => by rw [hb1 j hj, Bx baB_iff baB_iff (ba_gap (by omega) gap)]⟩
      rcases Nat.lt_or_ge e (16 * y + n) with h | h
      · exact hno2 e h hu
      · exact gap e h he hu.1
    · rintro m y a hy ⟨hF, _⟩ ih
      show Ok (b_m_firstUnlike_31 (f_m_firstUnlike_31 m) (nI y) a) P
      unfold b_m_firstUnlike_31
      rw [(kr a hF).1]
      exact ok_f (nI_ge hy (by omega)) ih
    · rintro m a ⟨hF, hno2, hk1, hb1⟩
      show Ok (b_m_firstUnlike_31 (f_m_firstUnlike_31 m) (nI n) a) P
      unfold b_m_firstUnlike_31
      rw [(kr a hF).1]
      have gap : ∀ e, 16 * n + 0 ≤ e → e < 256 → ¬ isC n e := fun e h1 h2 h3 => by have := h3.2.2; omega
      refine ok_t (Int32.le_refl _) (ok_some (hall (fun c hu => ?_) a hF (fun j hj => by rw [hb1 j hj, Bx baB_iff baB_iff (ba_gap (by omega) gap)])))
      rcases Nat.lt_or_ge c (16 * n + 0) with h | h
      · exact hno2 c h hu
      · exact gap c h hu.1.1 hu.1
    · rw [g1 k hk, show knB l n (16 * 0 + 0) k = false from by
        cases h : knB l n (16 * 0 + 0) k with
        | false => rfl
        | true => obtain ⟨e, h1, _⟩ := knB_iff.mp h; omega]; rfl
    · rw [g2 k hk, show baB l n w (16 * 0 + 0) k = false from by
        cases h : baB l n w (16 * 0 + 0) k with
        | false => rfl
        | true => obtain ⟨e, h1, _⟩ := baB_iff.mp h; omega]; rfl
/-! fits -/
theorem unl_cases (l : List Nat) (n : Nat) (w : Nat → Bool) : (∀ c, ¬ unl l n w c) ∨ ∃ c, unl l n w c ∧ ∀ e, e < c → ¬ unl l n w e := by
  rcases Classical.em (∃ c, unl l n w c) with ⟨c, hc⟩ | h
  · obtain ⟨k, _, h1, h2⟩ := least_d (unl l n w) c hc
    exact Or.inr ⟨k, h1, h2⟩
  · exact Or.inl (fun c hc => h ⟨c, hc⟩)
theorem unl_one {l : List Nat} {n : Nat} {w : Nat → Bool} {c d : Nat} (h1 : unl l n w c) (h2 : ∀ e, e < c → ¬ unl l n w e) (h3 : unl l n w d) (h4 : ∀ e, e < d → ¬ unl l n w e) : c = d := by
  rcases Nat.lt_trichotomy c d with h | h | h
  · exact absurd h1 (h4 c h)
  · exact h
  · exact absurd h3 (h2 d h)
theorem InvX.w {A : Ab} {st s2 : Mm} (hI : InvX A st) (h : ∀ y, s2.1 4 y = st.1 4 y) : Rw (s2.1 4) A.1.2.2.2.2.2.1 := hI.1.2.2.2.2.2.2.1.cg (fun y _ => h y)
theorem InvM.w {A : Ab} {st s2 : Mm} (hI : InvM A st) (h : ∀ y, s2.1 60 y = st.1 60 y) : Rw (s2.1 60) A.1.2.2.2.2.2.1 := hI.1.2.2.2.2.2.2.1.cg (fun y _ => h y)
theorem LF3_ft {a b : Mm} (h : Fr LF3 a b) : Fr LFt a b := h.wk (by decide)
theorem LMt_ft {a b : Mm} (h : Fr LMt a b) : Fr LFt a b := h.wk (by decide)
def LFm : List (Nat × Option Nat) := [(58, some 8), (58, some 9), (58, some 10), (58, some 12), (58, some 13), (58, some 14), (58, some 15), (58, some 16), (63, none), (77, none), (78, none)]
theorem LFo_fm {a b : Mm} (h : Fr LFo a b) : Fr LFm a b := h.wk (by decide)
theorem LMu_fm {a b : Mm} (h : Fr LMu a b) : Fr LFm a b := h.wk (by decide)
theorem st_fits (a0 a1 a2 : Int32) : Step1 Inv (f_x_fits a0 a1 a2) (f_m_fits a0 a1 a2) := step_q (fun A hA => by
  have hn := hA.1.2.1
  rcases foA_cases a0 a1 a2 with hc | ⟨a, b, d, ha, hb, hd, rfl, rfl, rfl⟩
  · refine ⟨-1, xok_fr [] rfl (fun st hI => ?_), mok_fr [] rfl (fun st hI => ?_)⟩
    · unfold f_x_fits
      exact ok_bind (ok_eq (x_ffold_no hc st) (ok_t rfl (ok_some ⟨rfl, Fr.rf⟩)))
    · unfold f_m_fits
      exact ok_bind (ok_eq (m_foldsSo_no hc st) (ok_t rfl (ok_some ⟨rfl, Fr.rf⟩)))
  · cases hv : fds (fl a b d) (A.1.1, A.1.1, 0) with
    | none =>
      refine ⟨-1, xok_fr LFt rfl (fun st hI => ?_), mok_fr LFm rfl (fun st hI => ?_)⟩
      · unfold f_x_fits
        rw [hI.1.1]
        exact ok_bind (x_ffold_ok hn ha hb hd (fun _ s2 hF => ok_t rfl (ok_some ⟨rfl, LF3_ft hF⟩)) (fun v hv2 => by rw [hv] at hv2; cases hv2))
      · unfold f_m_fits
        exact ok_bind (m_foldsSo_ok hI.1.1 hn ha hb hd (fun _ s2 hF => ok_t rfl (ok_some ⟨rfl, LFo_fm hF⟩)) (fun v hv2 => by rw [hv] at hv2; cases hv2))
    | some v =>
      rcases unl_cases (fl a b d) A.1.1 A.1.2.2.2.2.2.1 with hu | ⟨c, hu1, hu2⟩
      · refine ⟨1, xok_fr LFt rfl (fun st hI => ?_), mok_fr LFm rfl (fun st hI => ?_)⟩
        · unfold f_x_fits
          rw [hI.1.1]
          refine ok_bind (x_ffold_ok hn ha hb hd (fun e => by rw [hv] at e; cases e) (fun v2 hv2 s2 hF hS => ok_f ne10 ?_))
          exact ok_bind (x_match_ok hn hS (hI.w (fun y => hF _ y rfl)) (fun _ s3 hF3 _ _ _ => ok_f ne10 (ok_some ⟨rfl, (LF3_ft hF).tr (LMt_ft hF3)⟩)) (fun c2 h1 _ => absurd h1 (hu c2)))
        · unfold f_m_fits
          refine ok_bind (m_foldsSo_ok hI.1.1 hn ha hb hd (fun e => by rw [hv] at e; cases e) (fun v2 hv2 s2 hF hS => ok_f ne10 ?_))
          exact ok_bind (m_firstUnlike_ok hS (hI.w (fun y => hF _ y (by simp [inL, LFo]))) (fun _ s3 hF3 _ => ok_t rfl (ok_some ⟨rfl, (LFo_fm hF).tr (LMu_fm hF3)⟩)) (fun c2 h1 _ => absurd h1 (hu c2)))
      · refine ⟨-10 - nI c, xok_fr LFt rfl (fun st hI => ?_), mok_fr LFm rfl (fun st hI => ?_)⟩
        · unfold f_x_fits
          rw [hI.1.1]
          refine ok_bind (x_ffold_ok hn ha hb hd (fun e => by rw [hv] at e; cases e) (fun v2 hv2 s2 hF hS => ok_f ne10 ?_))
          refine ok_bind (x_match_ok hn hS (hI.w (fun y => hF _ y rfl)) (fun h => absurd hu1 (h c)) (fun c2 h1 h2 s3 hF3 hc3 => ok_t rfl (ok_some ⟨?_, (LF3_ft hF).tr (LMt_ft hF3)⟩)))
          show (-10 : Int32) - s3.1 46 3 = _
          rw [hc3, unl_one hu1 hu2 h1 h2]
        · unfold f_m_fits
          refine ok_bind (m_foldsSo_ok hI.1.1 hn ha hb hd (fun e => by rw [hv] at e; cases e) (fun v2 hv2 s2 hF hS => ok_f ne10 ?_))
          refine ok_bind (m_firstUnlike_ok hS (hI.w (fun y => hF _ y (by simp [inL, LFo]))) (fun h => absurd hu1 (h c)) (fun c2 h1 h2 s3 hF3 => ok_f (nI_nm1 (by have := h1.1.1; omega)) (ok_some ⟨?_, (LFo_fm hF).tr (LMu_fm hF3)⟩)))
          show (-10 : Int32) - nI c2 = _
          rw [unl_one hu1 hu2 h1 h2])
