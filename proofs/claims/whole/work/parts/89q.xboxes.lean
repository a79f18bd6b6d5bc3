/-! snips: all boxes of the class -/
theorem Dom.sub {v : Wd} {R Q : Nat → Prop} {z : Int64} (h : Dom v R z) (hs : ∀ k, Q k → R k) : Dom v Q z := fun k hk hr hp => h k hk (hs k hr) hp
theorem hd_grow {v : Wd} {B : Nat → Bool} {s : Mm} {c : Nat} (h : ∀ x1 x2 y1 y2, RcT v B x1 x2 y1 y2 → HasP v (rcA x1 x2 y1 y2) → HdB v B s c x1 x2 y1 y2) : ∀ m x1 x2 y1 y2, y1 + (v.2.1 - 1 - y2) ≤ m → RcT v B x1 x2 y1 y2 → HasP v (rcA x1 x2 y1 y2) → ∃ i, i < c ∧ Dom v (rcA x1 x2 y1 y2) (s.2 55 i) := by
  intro m
  induction m with
  | zero =>
    intro x1 x2 y1 y2 hm hr hp
    rcases h x1 x2 y1 y2 hr hp with g | g | g
    · have := g.1; omega
    · have := g.1; omega
    · exact g
  | succ m ih =>
    intro x1 x2 y1 y2 hm hr hp
    rcases h x1 x2 y1 y2 hr hp with g | g | g
    · have g1 := g.1
      have hr2 : RcT v B x1 x2 (y1 - 1) y2 := ⟨hr.1, hr.2.1, by have := hr.2.2.1; omega, hr.2.2.2.1, fun x y a1 a2 a3 a4 => by
        rcases Nat.lt_or_ge y y1 with q | q
        · rw [show y = y1 - 1 by omega]; exact g.2 x a1 a2
        · exact hr.2.2.2.2 x y a1 a2 q a4⟩
      have sub : ∀ k, rcA x1 x2 y1 y2 k → rcA x1 x2 (y1 - 1) y2 k := fun k hk => by unfold rcA at hk ⊢; omega
      obtain ⟨k, k1, k2, k3⟩ := hp
      obtain ⟨i, i1, i2⟩ := ih x1 x2 (y1 - 1) y2 (by omega) hr2 ⟨k, k1, sub k k2, k3⟩
      exact ⟨i, i1, i2.sub sub⟩
    · have g1 := g.1
      have hr2 : RcT v B x1 x2 y1 (y2 + 1) := ⟨hr.1, hr.2.1, by have := hr.2.2.1; omega, g1, fun x y a1 a2 a3 a4 => by
        rcases Nat.lt_or_ge y2 y with q | q
        · rw [show y = y2 + 1 by omega]; exact g.2 x a1 a2
        · exact hr.2.2.2.2 x y a1 a2 a3 q⟩
      have sub : ∀ k, rcA x1 x2 y1 y2 k → rcA x1 x2 y1 (y2 + 1) k := fun k hk => by unfold rcA at hk ⊢; omega
      obtain ⟨k, k1, k2, k3⟩ := hp
      obtain ⟨i, i1, i2⟩ := ih x1 x2 y1 (y2 + 1) (by omega) hr2 ⟨k, k1, sub k k2, k3⟩
      exact ⟨i, i1, i2.sub sub⟩
    · exact g
theorem x_listBoxes_ok {s0 : Mm} {n : Nat} {l : List Nat} {sl : Nat → Nat} {v : Wd} {B : Nat → Bool} {P : Unit × Mm → Prop} (hS : FoS s0 47 48 49 n l sl v) (hle : fb_ct (pcv v) 256 ≤ 64) (hT : BtX s0 v 256) (hR : RhX s0 v B v.2.1)
    (hP : ∀ s c, c ≤ 256 → (∀ a j, ¬ (a = 52 ∧ j = 3) → s.1 a j = s0.1 a j) → s.1 52 3 = nI c → (∀ i, i < c → SnB v B (s.2 55 i)) → (∀ x1 x2 y1 y2, RcT v B x1 x2 y1 y2 → HasP v (rcA x1 x2 y1 y2) → ∃ i, i < c ∧ Dom v (rcA x1 x2 y1 y2) (s.2 55 i)) → P ((), s)) : Ok (f_Cov_listBoxes s0) P := by
  obtain ⟨b1, b2, b3, _⟩ := hS.b
  have rows : ∀ r top M s, top + r = v.2.1 → r + 1 ≤ M → BoI v B s0 top top 0 s → Ok (f_Cov_listBoxes_7 M (nI top) s) P := by
    intro r
    induction r with
    | zero =>
      intro top M s ht hM hI
      obtain ⟨M, rfl⟩ := nat_suc hM
      show Ok (b_Cov_listBoxes_7 (f_Cov_listBoxes_7 M) (nI top) s) P
      unfold b_Cov_listBoxes_7
      obtain ⟨g1, c, g2, g3, g4, g5⟩ := hI
      rw [g1 47 2 (by omega), hS.2.2.1]
      refine okc_le v.2.1 top (fun _ => ok_some (hP s c g3.le g1 g2 g4 (fun x1 x2 y1 y2 k1 k2 => ?_))) (fun hh => by omega)
      exact hd_grow (fun x1 x2 y1 y2 k1 k2 => g5 x1 x2 y1 y2 k1 k2 (by have := k1.2.2.1; have := k1.2.2.2.1; omega)) _ x1 x2 y1 y2 (Nat.le_refl _) k1 k2
    | succ r ih =>
      intro top M s ht hM hI
      obtain ⟨M, rfl⟩ := nat_suc hM
      have cols : ∀ t en K com s, en + t = v.2.1 → t + 1 ≤ K → top ≤ en → (∀ j, j < 32 → (bt com j = true ↔ j < v.1 ∧ ∀ y, top ≤ y → y < en → rwC v B (16 * y + j) = true)) → BoI v B s0 top en 0 s → Ok (f_Cov_listBoxes_27 (f_Cov_listBoxes_7 M) K (nI top) com (nI en) s) P := by
        intro t
        induction t with
        | zero =>
          intro en K com s hen hK hte hcom hI
          obtain ⟨K, rfl⟩ := nat_suc hK
          show Ok (b_Cov_listBoxes_27 (f_Cov_listBoxes_7 M) (f_Cov_listBoxes_27 (f_Cov_listBoxes_7 M) K) (nI top) com (nI en) s) P
          unfold b_Cov_listBoxes_27 b_Cov_listBoxes_65
          rw [hI.1 47 2 (by omega), hS.2.2.1]
          refine okc_le v.2.1 en (fun _ => ok_lt ?_) (fun hh => by omega)
          rw [nI_1]
          refine ih (top + 1) M s (by omega) (by omega) ?_
          obtain ⟨g1, c, g2, g3, g4, g5⟩ := hI
          exact ⟨g1, c, g2, g3.mono (fun t e x hx hte h => by omega), g4, fun x1 x2 y1 y2 k1 k2 k3 => g5 x1 x2 y1 y2 k1 k2 (by have := k1.2.2.1; have := k1.2.2.2.1; omega)⟩
        | succ t iht =>
          intro en K com s hen hK hte hcom hI
          obtain ⟨K, rfl⟩ := nat_suc hK
          show Ok (b_Cov_listBoxes_27 (f_Cov_listBoxes_7 M) (f_Cov_listBoxes_27 (f_Cov_listBoxes_7 M) K) (nI top) com (nI en) s) P
          unfold b_Cov_listBoxes_27 b_Cov_listBoxes_65
          rw [hI.1 47 2 (by omega), hS.2.2.1]
          refine okc_le v.2.1 en (fun hh => by omega) (fun _ => ok_if (fun hz => ok_lt ?_) (fun hz => ?_))
          · rw [nI_1]
            refine ih (top + 1) M s (by omega) (by omega) ?_
            obtain ⟨g1, c, g2, g3, g4, g5⟩ := hI
            refine ⟨g1, c, g2, g3.mono (fun t e x hx hte h => by omega), g4, fun x1 x2 y1 y2 k1 k2 k3 => g5 x1 x2 y1 y2 k1 k2 ?_⟩
            rcases Nat.lt_or_ge y1 top with q | q
            · exact Or.inl q
            · have e1 : y1 = top := by have := k1.2.2.1; omega
              rcases Nat.lt_or_ge y2 en with q2 | q2
              · exact Or.inr ⟨e1, Or.inl q2⟩
              · exfalso
                have w1 := k1.2.1
                have w2 := k1.1
                have := (hcom x1 (by omega)).mpr ⟨by omega, fun y a1 a2 => k1.2.2.2.2 x1 y (Nat.le_refl _) w2 (by omega) (by omega)⟩
                rw [hz, b_0] at this; cases this
          · refine ok_t (inb_nI (show en < 16 by omega) (by omega)) (ok_lt ?_)
            rw [cl_nI (show en < 2147483648 by omega), hI.1 53 en (by omega)]
            have hcom2 : ∀ j, j < 32 → (bt (com &&& s0.1 53 en) j = true ↔ j < v.1 ∧ ∀ y, top ≤ y → y ≤ en → rwC v B (16 * y + j) = true) := fun j hj => by
              rw [b_and, Bool.and_eq_true, hcom j hj, hR en (by omega) j hj, Bool.and_eq_true, decide_eq_true_eq]
              constructor
              · rintro ⟨⟨a1, a2⟩, a3, a4⟩
                refine ⟨a1, fun y c1 c2 => ?_⟩
                rcases Nat.lt_or_ge y en with q | q
                · exact a2 y c1 q
                · rw [show y = en by omega]; exact a4
              · rintro ⟨a1, a2⟩
                exact ⟨⟨a1, fun y c1 c2 => a2 y c1 (by omega)⟩, by omega, a2 en hte (Nat.le_refl _)⟩
            refine ok_bind (x_listRuns_ok hS hle hT hR hte (by omega) hcom2 (fun s2 hI2 => ok_lt ?_) hI)
            rw [nI_1]
            refine iht (en + 1) K _ s2 (by omega) (by omega) (by omega) (fun j hj => ?_) ?_
            · rw [hcom2 j hj]
              constructor
              · rintro ⟨a1, a2⟩; exact ⟨a1, fun y c1 c2 => a2 y c1 (by omega)⟩
              · rintro ⟨a1, a2⟩; exact ⟨a1, fun y c1 c2 => a2 y c1 (by omega)⟩
            · obtain ⟨g1, c, g2, g3, g4, g5⟩ := hI2
              exact ⟨g1, c, g2, g3.mono (fun t e x hx hte h => by omega), g4, fun x1 x2 y1 y2 k1 k2 k3 => g5 x1 x2 y1 y2 k1 k2 (by have := k1.2.1; omega)⟩
      show Ok (b_Cov_listBoxes_7 (f_Cov_listBoxes_7 M) (nI top) s) P
      unfold b_Cov_listBoxes_7
      rw [hI.1 47 2 (by omega), hI.1 47 1 (by omega), hS.2.2.1, hS.2.1, fullI b1]
      refine okc_le v.2.1 top (fun hh => by omega) (fun _ => ok_lt ?_)
      have hp : 2 ^ v.1 ≤ 2 ^ 16 := Nat.pow_le_pow_right (by decide) b1
      refine cols (r + 1) top 1000000 _ s (by omega) (by omega) (Nat.le_refl _) (fun j hj => ?_) hI
      rw [bt_nI (by omega), Nat.testBit_two_pow_sub_one, decide_eq_true_eq]
      exact ⟨fun h => ⟨h, fun y c1 c2 => by omega⟩, fun h => h.1⟩
  unfold f_Cov_listBoxes
  refine rows v.2.1 0 1000000 _ (by omega) (by omega) ⟨fun a j hj => by rw [sI_at, if_neg hj], 0, sI_self _ _ _ _, ⟨fun _ => false, Nat.zero_le _, fun e x _ _ h => by cases h⟩, fun i hi => by omega, fun x1 x2 y1 y2 k1 k2 k3 => by omega⟩
theorem sn_corner {v : Wd} {B : Nat → Bool} {z : Int64} (h1 : v.1 ≤ 16) (h2 : v.2.1 ≤ 16) (h3 : v.2.2 ≤ 1) (h4 : v.2.2 = 0 ∨ v.1 = v.2.1) (h : SnB v B z) : ∃ a c, OkR v B a c ∧ ∀ i, lb z i = true → bxA v (inR a c) i = true := by
  obtain ⟨x1, x2, y1, y2, hr, ho, hz⟩ := h
  obtain ⟨t, t1, t2, _⟩ := lb_nz hz
  obtain ⟨k, k1, k2, k3, _⟩ := (ho.2 t t1).mp t2
  have kp := pcv_lt k3
  obtain ⟨r1, r2, r3, r4, r5⟩ := hr
  have main : ∀ X Y, x1 ≤ X → X ≤ x2 → y1 ≤ Y → Y ≤ y2 → (v.2.2 = 0 ∨ y1 ≤ X) → (v.2.2 = 0 ∨ Y ≤ x2) → (∀ k, k < 256 → rcA x1 x2 y1 y2 k → pcv v k = true → X ≤ k % 16 ∧ k / 16 ≤ Y) → ∃ a c, OkR v B a c ∧ ∀ i, lb z i = true → bxA v (inR a c) i = true := by
    intro X Y a1 a2 a3 a4 a5 a6 a7
    refine ⟨16 * y1 + X, 16 * Y + x2, ⟨by omega, by omega, pcv_of (by omega) (by omega) (by omega), pcv_of (by omega) (by omega) (by omega), by omega, by omega, fun k hk hin hp => ?_⟩, fun i hi => ?_⟩
    · refine rw_place (v := v) ?_ hp
      unfold inR at hin
      have := r5 (k % 16) (k / 16) (by omega) (by omega) (by omega) (by omega)
      rw [show 16 * (k / 16) + k % 16 = k by omega] at this
      exact this
    · obtain ⟨k, g1, g2, g3, g4⟩ := bxA_iff.mp (obl_bxA ho i hi)
      refine bxA_iff.mpr ⟨k, g1, ?_, g3, g4⟩
      have := a7 k g1 g2 g3
      unfold rcA at g2
      unfold inR
      omega
  unfold rcA at k2
  rcases Nat.eq_zero_or_pos v.2.2 with hd | hd
  · exact main x1 y2 (Nat.le_refl _) r1 r3 (Nat.le_refl _) (Or.inl hd) (Or.inl hd) (fun k _ g _ => by unfold rcA at g; omega)
  · refine main (max x1 y1) (min y2 x2) (by omega) (by omega) (by omega) (by omega) (Or.inr (by omega)) (Or.inr (by omega)) (fun k _ g gp => ?_)
    have := pcv_lt gp
    unfold rcA at g
    omega
theorem okr_rc {v : Wd} {B : Nat → Bool} {a c : Nat} (h1 : v.1 ≤ 16) (h2 : v.2.1 ≤ 16) (h3 : v.2.2 ≤ 1) (h : OkR v B a c) : RcT v B (a % 16) (c % 16) (a / 16) (c / 16) ∧ HasP v (rcA (a % 16) (c % 16) (a / 16) (c / 16)) := by
  obtain ⟨q1, q2, q3, q4, q5, q6, q7⟩ := h
  have pa := pcv_lt q3
  have pc := pcv_lt q4
  refine ⟨⟨q5, pc.1, q6, pc.2.1, fun x y a1 a2 a3 a4 => ?_⟩, ⟨a, q1, ⟨Nat.le_refl _, q5, Nat.le_refl _, q6⟩, q3⟩⟩
  have em : (16 * y + x) % 16 = x := by omega
  have ed : (16 * y + x) / 16 = y := by omega
  by_cases hd : v.2.2 = 0 ∨ y ≤ x
  · have hp : pcv v (16 * y + x) = true := pcv_of (by omega) (by omega) (by omega)
    have := q7 (16 * y + x) (by omega) (by unfold inR; omega) hp
    unfold rwC
    rw [this]; rfl
  · unfold rwC
    rw [em, ed, decide_eq_true (show v.2.2 = 1 by omega), decide_eq_true (show x < y by omega)]
    simp
def LCv : List (Nat × Option Nat) := [(53, none), (54, none), (52, some 3)]
theorem x_cvfew_ok {s0 : Mm} {n : Nat} {l : List Nat} {sl : Nat → Nat} {v : Wd} {B : Nat → Bool} {P : Int32 × Mm → Prop} (hS : FoS s0 47 48 49 n l sl v) (hB : Rw (s0.1 50) B) (hle : fb_ct (pcv v) 256 ≤ 64) (hP : ∀ s, Fr LCv s0 s → P (snA v B, s)) : Ok (f_Cov_fewest s0) P := by
  obtain ⟨b1, b2, b3, b4⟩ := hS.b
  unfold f_Cov_fewest
  refine ok_bind (x_numP_ok hS hB hle (fun z s hF hz hR hT => ?_))
  refine ok_bind (x_listBoxes_ok (hS.same (fun j => hF _ j rfl) (fun j => hF _ j rfl) (fun j => hF _ j rfl)) hle hT hR (fun s2 c hc hs hcn hSn hCo => ?_))
  have hF2 : Fr LCv s0 s2 := (hF.wk (by decide)).tr (fun a j hj => hs a j (fun e => by rw [e.1, e.2] at hj; cases hj))
  refine x_cfew_ok (cnt := c) (by omega) hcn ?_
  have := hP s2 hF2
  unfold snA at this
  rw [sn_same (q := fun u => Cvs (BxA v B) u (bxA v (fun k => B k = true))) (fun u => by
    rw [bare_lb hle hz]
    exact cvs_both (fun b ⟨i, i1, i2⟩ => by
      obtain ⟨a, c2, k1, k2⟩ := sn_corner b1 b2 b3 b4 (hSn i i1)
      exact ⟨a, c2, k1, fun x hx => k2 x (by rw [← i2]; exact hx)⟩) (fun a c2 k1 => by
      obtain ⟨hr, hp⟩ := okr_rc b1 b2 b3 k1
      obtain ⟨i, i1, i2⟩ := hCo _ _ _ _ hr hp
      exact ⟨_, ⟨i, i1, rfl⟩, fun x hx => dom_bxA (i2.sub (fun k hk => hk)) x hx⟩) u _)]
  exact this
/-! snips -/
def LSx : List (Nat × Option Nat) := LFt ++ LCv
def LSm : List (Nat × Option Nat) := LFm ++ [(79, none), (58, some 48), (58, some 49), (81, none)]
theorem st_snips (a0 a1 a2 : Int32) : Step1 Inv (f_x_snips a0 a1 a2) (f_m_snips a0 a1 a2) := step_q (fun A hA => by
  have hn := hA.1.2.1
  rcases foA_cases a0 a1 a2 with hc | ⟨a, b, d, ha, hb, hd, rfl, rfl, rfl⟩
  · refine ⟨-1, xok_fr [] rfl (fun st hI => ?_), mok_fr [] rfl (fun st hI => ?_)⟩
    · unfold f_x_snips
      exact ok_bind (ok_eq (x_ffold_no hc st) (ok_t rfl (ok_some ⟨rfl, Fr.rf⟩)))
    · unfold f_m_snips
      exact ok_bind (ok_eq (m_foldsSo_no hc st) (ok_t rfl (ok_some ⟨rfl, Fr.rf⟩)))
  · cases hv : fds (fl a b d) (A.1.1, A.1.1, 0) with
    | none =>
      refine ⟨-1, xok_fr LFt rfl (fun st hI => ?_), mok_fr LFm rfl (fun st hI => ?_)⟩
      · unfold f_x_snips
        rw [hI.1.1]
        exact ok_bind (x_ffold_ok hn ha hb hd (fun _ s2 hF => ok_t rfl (ok_some ⟨rfl, LF3_ft hF⟩)) (fun v hv2 => by rw [hv] at hv2; cases hv2))
      · unfold f_m_snips
        exact ok_bind (m_foldsSo_ok hI.1.1 hn ha hb hd (fun _ s2 hF => ok_t rfl (ok_some ⟨rfl, LFo_fm hF⟩)) (fun v hv2 => by rw [hv] at hv2; cases hv2))
    | some v =>
      obtain ⟨sx, hsx⟩ := fos_ex hn ha hb hd hv
      obtain ⟨b1, b2, b3, b4⟩ := hsx.b
      have hct : fb_ct (pcv v) 256 = nPl v := plc_ct b1 b2 b3 b4
      have hpl := nPl_lt b1 b2 (v := v)
      have vu : ∀ v2, fds (fl a b d) (A.1.1, A.1.1, 0) = some v2 → v2 = v := fun v2 h => by rw [hv] at h; exact (Option.some.inj h).symm
      by_cases h64 : nPl v ≤ 64
      · rcases unl_cases (fl a b d) A.1.1 A.1.2.2.2.2.2.1 with hu | ⟨c, hu1, hu2⟩
        · refine ⟨snA v (baB (fl a b d) A.1.1 A.1.2.2.2.2.2.1 256), xok_fr LSx rfl (fun st hI => ?_), mok_fr LSm rfl (fun st hI => ?_)⟩
          · unfold f_x_snips
            rw [hI.1.1]
            refine ok_bind (x_ffold_ok hn ha hb hd (fun e => by rw [hv] at e; cases e) (fun v2 hv2 s2 hF hS => ok_f ne10 ?_))
            have e2 := vu v2 hv2
            subst e2
            refine ok_bind (ok_eq (x_places_eq hS) (okc_le (nPl v2) 64 (fun _ => ?_) (fun hh => by omega)))
            refine ok_bind (x_match_ok hn hS (hI.w (fun y => hF _ y rfl)) (fun _ s3 hF3 _ hB _ => ok_f ne10 ?_) (fun c2 h1 _ => absurd h1 (hu c2)))
            refine ok_bind (x_cvfew_ok (hS.same (fun j => hF3 _ j rfl) (fun j => hF3 _ j rfl) (fun j => hF3 _ j rfl)) hB (by omega) (fun s4 hF4 => ok_some ⟨rfl, ?_⟩))
            exact (((LF3_ft hF).tr (LMt_ft hF3)).wk (by decide)).tr (hF4.wk (by decide))
          · unfold f_m_snips
            refine ok_bind (m_foldsSo_ok hI.1.1 hn ha hb hd (fun e => by rw [hv] at e; cases e) (fun v2 hv2 s2 hF hS => ok_f ne10 ?_))
            have e2 := vu v2 hv2
            subst e2
            refine ok_bind (ok_eq (m_placeMany_eq hS.w b1 b2 b3) (okc_le (nPl v2) 64 (fun _ => ?_) (fun hh => by omega) (by rw [← hct]; rfl)))
            refine ok_bind (m_firstUnlike_ok hS (hI.w (fun y => hF _ y (by simp [inL, LFo]))) (fun _ s3 hF3 hB => ok_t rfl ?_) (fun c2 h1 _ => absurd h1 (hu c2)))
            have hW : mW s3 v2 := ⟨by rw [hF3 58 8 rfl]; exact hS.w.1, by rw [hF3 58 9 rfl]; exact hS.w.2.1, by rw [hF3 58 10 rfl]; exact hS.w.2.2⟩
            refine m_snF_ok hW b1 b2 b3 (by omega) hB (fun s4 hF4 => ⟨rfl, ?_⟩)
            exact (((LFo_fm hF).tr (LMu_fm hF3)).wk (by decide)).tr (hF4.wk (by decide))
        · refine ⟨-3, xok_fr LFt rfl (fun st hI => ?_), mok_fr LFm rfl (fun st hI => ?_)⟩
          · unfold f_x_snips
            rw [hI.1.1]
            refine ok_bind (x_ffold_ok hn ha hb hd (fun e => by rw [hv] at e; cases e) (fun v2 hv2 s2 hF hS => ok_f ne10 ?_))
            have e2 := vu v2 hv2
            subst e2
            refine ok_bind (ok_eq (x_places_eq hS) (okc_le (nPl v2) 64 (fun _ => ?_) (fun hh => by omega)))
            exact ok_bind (x_match_ok hn hS (hI.w (fun y => hF _ y rfl)) (fun h => absurd hu1 (h c)) (fun c2 h1 h2 s3 hF3 hc3 => ok_t rfl (ok_some ⟨rfl, (LF3_ft hF).tr (LMt_ft hF3)⟩)))
          · unfold f_m_snips
            refine ok_bind (m_foldsSo_ok hI.1.1 hn ha hb hd (fun e => by rw [hv] at e; cases e) (fun v2 hv2 s2 hF hS => ok_f ne10 ?_))
            have e2 := vu v2 hv2
            subst e2
            refine ok_bind (ok_eq (m_placeMany_eq hS.w b1 b2 b3) (okc_le (nPl v2) 64 (fun _ => ?_) (fun hh => by omega) (by rw [← hct]; rfl)))
            exact ok_bind (m_firstUnlike_ok hS (hI.w (fun y => hF _ y (by simp [inL, LFo]))) (fun h => absurd hu1 (h c)) (fun c2 h1 h2 s3 hF3 => ok_f (nI_nm1 (by have := h1.1.1; omega)) (ok_some ⟨rfl, (LFo_fm hF).tr (LMu_fm hF3)⟩)))
      · refine ⟨-4, xok_fr LFt rfl (fun st hI => ?_), mok_fr LFm rfl (fun st hI => ?_)⟩
        · unfold f_x_snips
          rw [hI.1.1]
          refine ok_bind (x_ffold_ok hn ha hb hd (fun e => by rw [hv] at e; cases e) (fun v2 hv2 s2 hF hS => ok_f ne10 ?_))
          have e2 := vu v2 hv2
          subst e2
          exact ok_bind (ok_eq (x_places_eq hS) (okc_le (nPl v2) 64 (fun hh => by omega) (fun _ => ok_some ⟨rfl, LF3_ft hF⟩)))
        · unfold f_m_snips
          refine ok_bind (m_foldsSo_ok hI.1.1 hn ha hb hd (fun e => by rw [hv] at e; cases e) (fun v2 hv2 s2 hF hS => ok_f ne10 ?_))
          have e2 := vu v2 hv2
          subst e2
          exact ok_bind (ok_eq (m_placeMany_eq hS.w b1 b2 b3) (okc_le (nPl v2) 64 (fun hh => by omega) (fun _ => ok_some ⟨rfl, LFo_fm hF⟩) (by rw [← hct]; rfl))))
