/-! bestFold, scraps -/
def flc (i : Nat) : List Nat := fl (i / 10) (i / 2 % 5) (i % 2)
noncomputable def fcO (n : Nat) (w : Nat → Bool) (i : Nat) : Option (Nat × Nat) := match fds (flc i) (n, n, 0) with
  | none => none
  | some v => @ite _ (∀ c, ¬ unl (flc i) n w c) (Classical.propDecidable _) (some (nPl v, fb_ct (baB (flc i) n w 256) 256)) none
theorem fcO_none {n : Nat} {w : Nat → Bool} {i : Nat} (h : fds (flc i) (n, n, 0) = none) : fcO n w i = none := by unfold fcO; rw [h]
theorem fcO_no {n : Nat} {w : Nat → Bool} {i c : Nat} (h : unl (flc i) n w c) : fcO n w i = none := by
  unfold fcO
  split
  · rfl
  · rw [if_neg (fun h2 => h2 c h)]
theorem fcO_yes {n : Nat} {w : Nat → Bool} {i : Nat} {v : Wd} (hv : fds (flc i) (n, n, 0) = some v) (h : ∀ c, ¬ unl (flc i) n w c) : fcO n w i = some (nPl v, fb_ct (baB (flc i) n w 256) 256) := by
  unfold fcO
  rw [hv]
  simp only
  rw [if_pos h]
theorem d10 {i : Nat} (h : i < 65536) : nI i / (10 : Int32) = nI (i / 10) := pk_div (d := 10) (by omega) (by omega) (by omega)
theorem d2 {i : Nat} (h : i < 65536) : nI i / (2 : Int32) = nI (i / 2) := pk_div (d := 2) (by omega) (by omega) (by omega)
theorem r5 {i : Nat} (h : i < 65536) : nI i - nI i / (5 : Int32) * (5 : Int32) = nI (i % 5) := pk_rem (d := 5) (by omega) (by omega) (by omega)
theorem r2 {i : Nat} (h : i < 65536) : nI i - nI i / (2 : Int32) * (2 : Int32) = nI (i % 2) := pk_rem (d := 2) (by omega) (by omega) (by omega)
theorem n50 {i : Nat} (h : i < 50) : ¬ (50 : Int32) ≤ nI i := show ¬ nI 50 ≤ nI i from nI_ge h (by omega)
theorem x_byCode_ok {n i : Nat} {st : Mm} {P : Int32 × Mm → Prop} (hn : n ≤ 16) (hi : i < 50)
    (h0 : fds (flc i) (n, n, 0) = none → ∀ s2, Fr LF3 st s2 → P (0, s2)) (h1 : ∀ v, fds (flc i) (n, n, 0) = some v → ∀ s2, Fr LF3 st s2 → FoS s2 47 48 49 n (flc i) (slb 0) v → P (1, s2)) : Ok (f_Fit_foldByCode (nI n) (nI i) st) P := by
  unfold f_Fit_foldByCode f_Fit_aOf f_Fit_bOf f_Fit_dOf
  refine ok_bind (ok_some (ok_bind (ok_some (ok_bind (ok_some ?_)))))
  simp only
  rw [d10 (by omega), d2 (by omega), r5 (by omega), an1 (by omega)]
  exact ok_bind (x_ffold_ok hn (by omega) (by omega) (by omega) (fun h s2 hF => ok_t (Or.inl rfl) (ok_some (h0 h s2 hF))) (fun v hv s2 hF hS => ok_t (Or.inr rfl) (ok_some (h1 v hv s2 hF hS))))
theorem m_byCode_ok {n i : Nat} {st : Mm} {P : Int32 × Mm → Prop} (hn0 : st.1 58 0 = nI n) (hn : n ≤ 16) (hi : i < 50)
    (h0 : fds (flc i) (n, n, 0) = none → ∀ s2, Fr LFo st s2 → P (0, s2)) (h1 : ∀ v, fds (flc i) (n, n, 0) = some v → ∀ s2, Fr LFo st s2 → mRec s2 n (flc i) v → P (1, s2)) : Ok (f_m_foldsSo (nI i / (10 : Int32)) ((nI i / (2 : Int32)) - (nI i / (2 : Int32)) / (5 : Int32) * (5 : Int32)) (nI i - nI i / (2 : Int32) * (2 : Int32)) st) P := by
  rw [r2 (by omega), d10 (by omega), d2 (by omega), r5 (by omega)]
  exact m_foldsSo_ok hn0 hn (by omega) (by omega) (by omega) h0 h1
/-- one code tried: the class -/
theorem x_try {n i : Nat} {w : Nat → Bool} {st : Mm} {α : Type} {P : α → Prop} (hn : n ≤ 16) (hn0 : st.1 1 0 = nI n) (hi : i < 50) (hw : Rw (st.1 4) w) {kN : Mm → Option α} {kY : Mm → Option α}
    (hN : fcO n w i = none → ∀ s2, Fr LFt st s2 → Ok (kN s2) P) (hY : ∀ v, fcO n w i = some (nPl v, fb_ct (baB (flc i) n w 256) 256) → ∀ s2, Fr LFt st s2 → FoS s2 47 48 49 n (flc i) (slb 0) v → s2.1 46 2 = nI (fb_ct (baB (flc i) n w 256) 256) → Ok (kY s2) P) :
    Ok ((f_Fit_foldByCode (st.1 1 0) (nI i) st).bind (fun q2 => if q2.1 = 0 then kN q2.2 else ((f_Fit_match q2.2).bind (fun q8 => if q8.1 = 0 then kN q8.2 else kY q8.2)))) P := by
  rw [hn0]
  refine ok_bind (x_byCode_ok hn hi (fun h s2 hF => ok_t rfl (hN (fcO_none h) s2 (LF3_ft hF))) (fun v hv s2 hF hS => ok_f ne10 ?_))
  have hw2 : Rw (s2.1 4) w := hw.cg (fun y _ => hF _ y rfl)
  refine ok_bind (x_match_ok hn hS hw2 (fun hu s3 hF3 hk hb hm => ok_f ne10 (hY v (fcO_yes hv hu) s3 ((LF3_ft hF).tr (LMt_ft hF3)) (hS.same (fun j => hF3 _ j rfl) (fun j => hF3 _ j rfl) (fun j => hF3 _ j rfl)) hm)) (fun c h1 _ s3 hF3 _ => ok_t rfl (hN (fcO_no h1) s3 ((LF3_ft hF).tr (LMt_ft hF3)))))
theorem m_try {n i : Nat} {w : Nat → Bool} {st : Mm} {α : Type} {P : α → Prop} (hn : n ≤ 16) (hn0 : st.1 58 0 = nI n) (hi : i < 50) (hw : Rw (st.1 60) w) {kN : Mm → Option α} {kY : Mm → Option α}
    (hN : fcO n w i = none → ∀ s2, Fr LFm st s2 → Ok (kN s2) P) (hY : ∀ v, fcO n w i = some (nPl v, fb_ct (baB (flc i) n w 256) 256) → ∀ s2, Fr LFm st s2 → mRec s2 n (flc i) v → (∀ k, k < 256 → s2.1 78 k = bI (baB (flc i) n w 256 k)) → Ok (kY s2) P) :
    Ok ((f_m_foldsSo (nI i / (10 : Int32)) ((nI i / (2 : Int32)) - (nI i / (2 : Int32)) / (5 : Int32) * (5 : Int32)) (nI i - nI i / (2 : Int32) * (2 : Int32)) st).bind (fun q2 => if q2.1 = 0 then kN q2.2 else ((f_m_firstUnlike q2.2).bind (fun q5 => if q5.1 = (-1 : Int32) then kY q5.2 else kN q5.2)))) P := by
  refine ok_bind (m_byCode_ok hn0 hn hi (fun h s2 hF => ok_t rfl (hN (fcO_none h) s2 (LFo_fm hF))) (fun v hv s2 hF hS => ok_f ne10 ?_))
  have hw2 : Rw (s2.1 60) w := hw.cg (fun y _ => hF _ y (by simp [inL, LFo]))
  refine ok_bind (m_firstUnlike_ok hS hw2 (fun hu s3 hF3 hk => ok_t rfl (hY v (fcO_yes hv hu) s3 ((LFo_fm hF).tr (LMu_fm hF3)) (hS.keep (hF3 _ _ rfl) (hF3 _ _ rfl) (hF3 _ _ rfl) (hF3 _ _ rfl) (hF3 _ _ rfl) (fun j => hF3 _ _ (by simp [inL, LMu]))) hk)) (fun c h1 _ s3 hF3 => ok_f (nI_nm1 (by have := h1.1.1; omega)) (hN (fcO_no h1) s3 ((LFo_fm hF).tr (LMu_fm hF3)))))
noncomputable def bst (n : Nat) (w : Nat → Bool) : Nat → Option (Nat × Nat × Nat)
  | 0 => none
  | i + 1 => match fcO n w i with
    | none => bst n w i
    | some (p, r) => match bst n w i with
      | none => some (i, p, r)
      | some (b, q, t) => if p < q then some (i, p, r) else some (b, q, t)
def enc (F : Nat) (o : Option (Nat × Nat × Nat)) : Nat × Nat × Nat := match o with
  | none => (0, F, 0)
  | some z => z
theorem bst_none {n : Nat} {w : Nat → Bool} {i : Nat} (h : fcO n w i = none) : bst n w (i + 1) = bst n w i := by
  show (match fcO n w i with
    | none => bst n w i
    | some (p, r) => match bst n w i with
      | none => some (i, p, r)
      | some (b, q, t) => if p < q then some (i, p, r) else some (b, q, t)) = _
  rw [h]
theorem bst_some {n : Nat} {w : Nat → Bool} {i p r F : Nat} (h : fcO n w i = some (p, r)) (hF : p < F) : enc F (bst n w (i + 1)) = if p < (enc F (bst n w i)).2.1 then (i, p, r) else enc F (bst n w i) := by
  show enc F (match fcO n w i with
    | none => bst n w i
    | some (p, r) => match bst n w i with
      | none => some (i, p, r)
      | some (b, q, t) => if p < q then some (i, p, r) else some (b, q, t)) = _
  rw [h]
  cases hb : bst n w i with
  | none =>
    show (i, p, r) = if p < F then (i, p, r) else (0, F, 0)
    rw [if_pos hF]
  | some z =>
    obtain ⟨b, q, t⟩ := z
    show enc F (if p < q then some (i, p, r) else some (b, q, t)) = if p < q then (i, p, r) else (b, q, t)
    by_cases hpq : p < q
    · rw [if_pos hpq, if_pos hpq]; rfl
    · rw [if_neg hpq, if_neg hpq]; rfl
theorem plc_nil {n c : Nat} (hc : isC n c) : plc [] n c = some c := by
  unfold plc plO
  show Option.map _ (some (c % 16, c / 16, n, n)) = _
  show some (16 * (c / 16) + c % 16) = _
  congr 1
  omega
theorem fcz_0 (n : Nat) (w : Nat → Bool) : ∃ z, fcO n w 0 = some z := by
  refine ⟨_, fcO_yes (v := (n, n, 0)) rfl (fun c h => ?_)⟩
  obtain ⟨hc, e, k, h1, h2, h3, h4, _⟩ := h
  have e1 := plc_nil h2
  have e2 := plc_nil hc
  rw [show flc 0 = [] from rfl] at h3 h4
  rw [h3] at e1; rw [h4] at e2
  have := Option.some.inj e1; have := Option.some.inj e2; omega
theorem bst_is (n : Nat) (w : Nat → Bool) : ∀ i, ∃ z, bst n w (i + 1) = some z
  | 0 => by
    obtain ⟨⟨p, r⟩, h⟩ := fcz_0 n w
    exact ⟨(0, p, r), by
      show (match fcO n w 0 with
        | none => none
        | some (p, r) => some (0, p, r)) = _
      rw [h]⟩
  | i + 1 => by
    obtain ⟨⟨b, q, t⟩, hz⟩ := bst_is n w i
    cases h : fcO n w (i + 1) with
    | none => exact ⟨_, by rw [bst_none h]; exact hz⟩
    | some z2 =>
      obtain ⟨p, r⟩ := z2
      refine ⟨if p < q then (i + 1, p, r) else (b, q, t), ?_⟩
      show (match fcO n w (i + 1) with
        | none => bst n w (i + 1)
        | some (p, r) => match bst n w (i + 1) with
          | none => some (i + 1, p, r)
          | some (b, q, t) => if p < q then some (i + 1, p, r) else some (b, q, t)) = _
      rw [h, hz]
      simp only
      split <;> rfl
def bestI (k : Nat) (z : Nat × Nat × Nat) : Int32 := if k = 0 then nI (z.1 / 10) else if k = 1 then nI (z.1 / 2 % 5) else if k = 2 then nI (z.1 % 2) else if k = 3 then nI z.2.1 else nI z.2.2
theorem bst_lt {n : Nat} {w : Nat → Bool} (F : Nat) : ∀ i, (enc F (bst n w i)).1 ≤ i
  | 0 => Nat.le_refl _
  | i + 1 => by
    have ih := bst_lt (n := n) (w := w) F i
    cases h : fcO n w i with
    | none => rw [bst_none h]; omega
    | some z =>
      obtain ⟨p, r⟩ := z
      cases hb : bst n w i with
      | none =>
        have : bst n w (i + 1) = some (i, p, r) := by
          show (match fcO n w i with
            | none => bst n w i
            | some (p, r) => match bst n w i with
              | none => some (i, p, r)
              | some (b, q, t) => if p < q then some (i, p, r) else some (b, q, t)) = _
          rw [h, hb]
        rw [this]; show i ≤ i + 1; omega
      | some z2 =>
        obtain ⟨b, q, t⟩ := z2
        have : bst n w (i + 1) = if p < q then some (i, p, r) else some (b, q, t) := by
          show (match fcO n w i with
            | none => bst n w i
            | some (p, r) => match bst n w i with
              | none => some (i, p, r)
              | some (b, q, t) => if p < q then some (i, p, r) else some (b, q, t)) = _
          rw [h, hb]
        rw [hb] at ih
        rw [this]
        split
        · show i ≤ i + 1; omega
        · show b ≤ i + 1
          have : b ≤ i := ih
          omega
theorem nPl_of {n i : Nat} {v : Wd} (hn : n ≤ 16) (hv : fds (flc i) (n, n, 0) = some v) : nPl v ≤ 256 := by
  have := fds_le _ _ _ hv
  simp only at this
  exact nPl_lt (by omega) (by omega)
theorem fcO_le {n : Nat} {w : Nat → Bool} (hn : n ≤ 16) {i p r : Nat} (h : fcO n w i = some (p, r)) : p ≤ 256 := by
  unfold fcO at h
  split at h
  · cases h
  · rename_i v hv
    have := nPl_of hn hv
    split at h
    · cases h; exact this
    · cases h
theorem bst_le {n : Nat} {w : Nat → Bool} (hn : n ≤ 16) {F : Nat} (hF : 256 < F) : ∀ i, (enc F (bst n w i)).2.1 ≤ F
  | 0 => Nat.le_refl _
  | i + 1 => by
    have ih := bst_le (n := n) (w := w) hn hF i
    cases h : fcO n w i with
    | none => rw [bst_none h]; exact ih
    | some z =>
      obtain ⟨p, r⟩ := z
      have := fcO_le hn h
      rw [bst_some h (by omega)]
      split
      · show p ≤ F; omega
      · exact ih
theorem st_bestFold (a0 : Int32) : Step1 Inv (f_x_bestFold a0) (f_m_bestFold a0) := step_q (fun A hA => by
  have hn := hA.1.2.1
  rcases in_cases a0 0 4 with hc | ⟨k, _, hk, _, rfl, hc⟩
  · refine ⟨-1, xok_fr [] rfl (fun st hI => ?_), mok_fr [] rfl (fun st hI => ?_)⟩
    · have h2 := of_decide_eq_false hc
      unfold f_x_bestFold
      refine ok_if (fun _ => ok_some ⟨rfl, Fr.rf⟩) (fun c1 => ok_if (fun c2 => ?_) (fun _ => ok_some ⟨rfl, Fr.rf⟩))
      rw [i_lt, i_z] at c1
      rw [i_le, show (4 : Int32).toInt = 4 from rfl] at c2
      omega
    · unfold f_m_bestFold
      refine ok_bind (ok_eq (m_in_eq a0 0 4 (by omega) (by omega) st) ?_)
      rw [hc]
      exact ok_t rfl (ok_some ⟨rfl, Fr.rf⟩)
  · obtain ⟨w, hw⟩ : ∃ w, w = A.1.2.2.2.2.2.1 := ⟨_, rfl⟩
    obtain ⟨n, hn0⟩ : ∃ n, n = A.1.1 := ⟨_, rfl⟩
    rw [← hn0] at hn
    obtain ⟨z, hz⟩ := bst_is n w 49
    have eZ : ∀ F, enc F (bst n w 50) = z := fun F => by rw [hz]; rfl
    have hz1 : z.1 ≤ 50 := by have := bst_lt (n := n) (w := w) 257 50; rw [eZ] at this; exact this
    refine ⟨bestI k z, xok_fr LFt rfl (fun st hI => ?_), mok_fr LFm rfl (fun st hI => ?_)⟩
    · have hwI : Rw (st.1 4) w := by rw [hw]; exact hI.1.2.2.2.2.2.2.1
      have hnI : st.1 1 0 = nI n := by rw [hn0]; exact hI.1.1
      unfold f_x_bestFold
      refine ok_f (nI_pos (by omega)) (ok_t (show nI k ≤ nI 4 from nI_le (by omega) (by omega)) ?_)
      refine ok_upF (fun m i (a : (Nat × Nat × Nat) × Mm) => f_x_bestFold_23 m (nI k) (nI a.1.1) (nI a.1.2.1) (nI a.1.2.2) i a.2) (fun i a => a.1 = enc 257 (bst n w i) ∧ Fr LFt st a.2) _ 50 (by omega) (a := ((0, 257, 0), st)) ⟨rfl, Fr.rf⟩ ?_ ?_
      · rintro m i ⟨a, s⟩ hi ⟨rfl, hF⟩ ih
        simp only at hF
        show Ok (b_x_bestFold_23 (f_x_bestFold_23 m) (nI k) _ _ _ (nI i) s) _
        unfold b_x_bestFold_23
        refine ok_f (n50 hi) ?_
        rw [show s.1 1 0 = nI n by rw [hF _ _ rfl]; exact hnI]
        have hwS : Rw (s.1 4) w := hwI.cg (fun y _ => hF _ y rfl)
        have hEb : (enc 257 (bst n w i)).2.1 ≤ 257 := bst_le hn (by omega) i
        refine ok_bind (x_byCode_ok hn hi (fun h s2 hF2 => ok_t rfl (ok_lt ?_)) (fun v hv s2 hF2 hS => ok_f ne10 ?_))
        · rw [nI_1]
          exact ih (_, s2) ⟨by rw [bst_none (fcO_none h)], hF.tr (LF3_ft hF2)⟩
        · refine ok_bind (ok_eq (x_places_eq hS) ?_)
          have hpl := nPl_of hn hv
          refine okc_le (enc 257 (bst n w i)).2.1 (nPl v) (fun c1 => ok_lt ?_) (fun c1 => ?_)
          · rw [nI_1]
            refine ih (_, s2) ⟨?_, hF.tr (LF3_ft hF2)⟩
            rcases unl_cases (flc i) n w with hu | ⟨c, hu, _⟩
            · rw [bst_some (fcO_yes hv hu) (by omega), if_neg (by omega)]
            · rw [bst_none (fcO_no hu)]
          · refine ok_bind (x_match_ok hn hS (hwS.cg (fun y _ => hF2 _ y rfl)) (fun hu s3 hF3 hkk hbb hmm => ok_f ne10 ?_) (fun c hu _ s3 hF3 _ => ok_t rfl (ok_lt ?_)))
            · refine ok_bind (ok_eq (x_places_eq (hS.same (fun j => hF3 _ j rfl) (fun j => hF3 _ j rfl) (fun j => hF3 _ j rfl))) (ok_lt (ok_lt ?_)))
              simp only
              rw [hmm, nI_1]
              exact ih ((i, nPl v, fb_ct (baB (flc i) n w 256) 256), s3) ⟨by rw [bst_some (fcO_yes hv hu) (by omega), if_pos c1], (hF.tr (LF3_ft hF2)).tr (LMt_ft hF3)⟩
            · rw [nI_1]
              exact ih (_, s3) ⟨by rw [bst_none (fcO_no hu)], (hF.tr (LF3_ft hF2)).tr (LMt_ft hF3)⟩
      · rintro m ⟨a, s⟩ ⟨rfl, hF⟩
        simp only at hF
        show Ok (b_x_bestFold_23 (f_x_bestFold_23 m) (nI k) _ _ _ (nI 50) s) _
        unfold b_x_bestFold_23 b_x_bestFold_109 f_Fit_aOf f_Fit_bOf f_Fit_dOf
        refine ok_t (by decide) ?_
        rw [eZ]
        simp only
        rw [d10 (by omega), d2 (by omega), r5 (by omega), an1 (by omega)]
        unfold bestI
        refine okc_eq k 0 (fun h => ok_bind (ok_some (ok_some ⟨by rw [if_pos h], hF⟩))) (fun h0 => ?_)
        rw [if_neg h0]
        refine okc_eq k 1 (fun h => ok_bind (ok_some (ok_some ⟨by rw [if_pos h], hF⟩))) (fun h1 => ?_)
        rw [if_neg h1]
        refine okc_eq k 2 (fun h => ok_bind (ok_some (ok_some ⟨by rw [if_pos h], hF⟩))) (fun h2 => ?_)
        rw [if_neg h2]
        exact okc_eq k 3 (fun h => ok_some ⟨by rw [if_pos h], hF⟩) (fun h3 => ok_some ⟨by rw [if_neg h3], hF⟩)
    · have hwI : Rw (st.1 60) w := by rw [hw]; exact hI.1.2.2.2.2.2.2.1
      have hnI : st.1 58 0 = nI n := by rw [hn0]; exact hI.1.1
      unfold f_m_bestFold
      refine ok_bind (ok_eq (m_in_eq _ 0 4 (by omega) (by omega) st) ?_)
      rw [hc]
      refine ok_f nbt ?_
      refine ok_upF (fun m i (a : (Nat × Nat × Nat) × Mm) => f_m_bestFold_23 m (nI k) (nI a.1.1) (nI a.1.2.1) (nI a.1.2.2) i a.2) (fun i a => a.1 = enc 1000000000 (bst n w i) ∧ Fr LFm st a.2) _ 50 (by omega) (a := ((0, 1000000000, 0), st)) ⟨rfl, Fr.rf⟩ ?_ ?_
      · rintro m i ⟨a, s⟩ hi ⟨rfl, hF⟩ ih
        simp only at hF
        show Ok (b_m_bestFold_23 (f_m_bestFold_23 m) (nI k) _ _ _ (nI i) s) _
        unfold b_m_bestFold_23
        refine ok_f (n50 hi) ?_
        have hwS : Rw (s.1 60) w := hwI.cg (fun y _ => hF _ y (by simp [inL, LFm]))
        have hEb : (enc 1000000000 (bst n w i)).2.1 ≤ 1000000000 := bst_le hn (by omega) i
        refine ok_bind (m_byCode_ok (by rw [hF _ _ rfl]; exact hnI) hn hi (fun h s2 hF2 => ok_t rfl (ok_lt ?_)) (fun v hv s2 hF2 hS => ok_f ne10 ?_))
        · rw [nI_1]
          exact ih (_, s2) ⟨by rw [bst_none (fcO_none h)], hF.tr (LFo_fm hF2)⟩
        · have hpl := nPl_of hn hv
          have hle := fds_le _ _ _ hv
          have hwh := fds_wh _ _ _ hv (Or.inl rfl)
          simp only at hle
          refine ok_bind (m_firstUnlike_ok hS (hwS.cg (fun y _ => hF2 _ y (by simp [inL, LFo]))) (fun hu s3 hF3 hbb => ok_t rfl ?_) (fun c hu _ s3 hF3 => ok_f (nI_nm1 (by have := hu.1.1; omega)) (ok_lt ?_)))
          · have hS3 := hS.keep (b := s3) (hF3 _ _ rfl) (hF3 _ _ rfl) (hF3 _ _ rfl) (hF3 _ _ rfl) (hF3 _ _ rfl) (fun j => hF3 _ _ (by simp [inL, LMu]))
            have hpm := m_placeMany_eq hS3.w (by omega) (by omega) (by omega)
            rw [plc_ct (by omega) (by omega) (by omega) hwh] at hpm
            refine ok_bind (ok_eq hpm ?_)
            refine okc_lt (nPl v) (enc 1000000000 (bst n w i)).2.1 (fun c1 => ?_) (fun c1 => ok_lt ?_)
            · refine ok_bind (ok_eq hpm (ok_bind (ok_eq (m_wantsCutMany_eq hbb) (ok_lt ?_))))
              rw [nI_1]
              exact ih ((i, nPl v, fb_ct (baB (flc i) n w 256) 256), s3) ⟨by rw [bst_some (fcO_yes hv hu) (by omega), if_pos c1], (hF.tr (LFo_fm hF2)).tr (LMu_fm hF3)⟩
            · rw [nI_1]
              exact ih (_, s3) ⟨by rw [bst_some (fcO_yes hv hu) (by omega), if_neg (by omega)], (hF.tr (LFo_fm hF2)).tr (LMu_fm hF3)⟩
          · rw [nI_1]
            exact ih (_, s3) ⟨by rw [bst_none (fcO_no hu)], (hF.tr (LFo_fm hF2)).tr (LMu_fm hF3)⟩
      · rintro m ⟨a, s⟩ ⟨rfl, hF⟩
        simp only at hF
        show Ok (b_m_bestFold_23 (f_m_bestFold_23 m) (nI k) _ _ _ (nI 50) s) _
        unfold b_m_bestFold_23 b_m_bestFold_91
        refine ok_t (by decide) ?_
        rw [eZ]
        simp only
        rw [r2 (by omega), d10 (by omega), d2 (by omega), r5 (by omega)]
        unfold bestI
        refine okc_eq k 0 (fun h => ok_some ⟨by rw [if_pos h], hF⟩) (fun h0 => ?_)
        rw [if_neg h0]
        refine okc_eq k 1 (fun h => ok_some ⟨by rw [if_pos h], hF⟩) (fun h1 => ?_)
        rw [if_neg h1]
        refine okc_eq k 2 (fun h => ok_some ⟨by rw [if_pos h], hF⟩) (fun h2 => ?_)
        rw [if_neg h2]
        exact okc_eq k 3 (fun h => ok_some ⟨by rw [if_pos h], hF⟩) (fun h3 => ok_some ⟨by rw [if_neg h3], hF⟩))
/-! scraps -/
def codI (i : Nat) : Int32 := nI (100 * (i / 10) + 10 * (i / 2 % 5) + i % 2)
def scI (q : Nat → Bool) (what : Int32) : Nat → Nat → Nat → Int32
  | 0, _, f => if what = -1 then nI f else -2
  | r + 1, i, f => if q i then (if nI f = what then codI i else scI q what r (i + 1) (f + 1)) else scI q what r (i + 1) f
theorem cod_eq {i : Nat} : ((100 : Int32) * nI (i / 10) + (10 : Int32) * nI (i / 2 % 5)) + nI (i % 2) = codI i := by
  rw [show (100 : Int32) = nI 100 from rfl, show (10 : Int32) = nI 10 from rfl, pk_mul, pk_mul, nI_add, nI_add]; rfl
noncomputable def scq (n : Nat) (w : Nat → Bool) (m i : Nat) : Bool := match fcO n w i with
  | none => false
  | some z => z.2 == m
theorem x_scraps_loop {n m : Nat} {w : Nat → Bool} {st : Mm} {what : Int32} (hn : n ≤ 16) (hn0 : st.1 1 0 = nI n) (hw : Rw (st.1 4) w) (hm : m ≤ 256) {P : Int32 × Mm → Prop} : ∀ r i f k s, i + r = 50 → r + 1 ≤ k → f ≤ i → Fr LFt st s → (∀ s2, Fr LFt st s2 → P (scI (scq n w m) what r i f, s2)) → Ok (f_x_scraps_24 k (nI m) what (nI f) (nI i) s) P := by
  intro r
  induction r with
  | zero =>
    intro i f k s h1 h2 hf hF hP
    obtain ⟨k, rfl⟩ := nat_suc (show 0 + 1 ≤ k by omega)
    have e : i = 50 := by omega
    subst e
    show Ok (b_x_scraps_24 (f_x_scraps_24 k) _ _ _ (nI 50) s) P
    unfold b_x_scraps_24 b_x_scraps_116
    have := hP s hF
    unfold scI at this
    refine ok_t (by decide) (ok_if (fun c => ok_some ?_) (fun c => ok_some ?_))
    · rw [if_pos c] at this; exact this
    · rw [if_neg c] at this; exact this
  | succ r ih =>
    intro i f k s h1 h2 hf hF hP
    obtain ⟨k, rfl⟩ := nat_suc (show 0 + 1 ≤ k by omega)
    show Ok (b_x_scraps_24 (f_x_scraps_24 k) _ _ _ (nI i) s) P
    unfold b_x_scraps_24
    refine ok_f (n50 (by omega)) ?_
    have e0 : scI (scq n w m) what (r + 1) i f = if scq n w m i then (if nI f = what then codI i else scI (scq n w m) what r (i + 1) (f + 1)) else scI (scq n w m) what r (i + 1) f := rfl
    refine x_try (n := n) (w := w) hn (by rw [hF _ _ rfl]; exact hn0) (by omega) (hw.cg (fun y _ => hF _ y rfl)) (kN := fun q => lt_ (nI i + (1 : Int32)) (fun a4 => f_x_scraps_24 k (nI m) what (nI f) a4 q)) (kY := fun q => if (q.1 46 2) = nI m then (if nI f = what then (b_x_scraps_83 (nI i) q) else (lt_ (nI f + (1 : Int32)) (fun a10 => lt_ (nI i + (1 : Int32)) (fun a11 => f_x_scraps_24 k (nI m) what a10 a11 q)))) else (lt_ (nI i + (1 : Int32)) (fun a12 => f_x_scraps_24 k (nI m) what (nI f) a12 q))) (fun h s2 hF2 => ok_lt ?_) (fun v hv s2 hF2 hS hb => ?_)
    · rw [nI_1]
      refine ih (i + 1) f k s2 (by omega) (by omega) (by omega) (hF.tr hF2) (fun s3 hF3 => ?_)
      have := hP s3 hF3
      rw [e0, show scq n w m i = false by unfold scq; rw [h]] at this
      exact this
    · have hct := fb_ct_le (baB (flc i) n w 256) 256
      have hq : scq n w m i = decide (fb_ct (baB (flc i) n w 256) 256 = m) := by unfold scq; rw [hv]; rfl
      simp only [hb]
      refine okc_eq (fb_ct (baB (flc i) n w 256) 256) m (fun c1 => ok_if (fun c2 => ?_) (fun c2 => ok_lt (ok_lt ?_))) (fun c1 => ok_lt ?_)
      · unfold b_x_scraps_83 f_Fit_aOf f_Fit_bOf f_Fit_dOf
        refine ok_bind (ok_some (ok_bind (ok_some (ok_bind (ok_some (ok_some ?_))))))
        simp only
        rw [d10 (by omega), d2 (by omega), r5 (by omega), an1 (by omega), cod_eq]
        have := hP s2 (hF.tr hF2)
        rw [e0, hq, decide_eq_true c1, if_pos rfl, if_pos c2] at this
        exact this
      · rw [nI_1, nI_1]
        refine ih (i + 1) (f + 1) k s2 (by omega) (by omega) (by omega) (hF.tr hF2) (fun s3 hF3 => ?_)
        have := hP s3 hF3
        rw [e0, hq, decide_eq_true c1, if_pos rfl, if_neg c2] at this
        exact this
      · rw [nI_1]
        refine ih (i + 1) f k s2 (by omega) (by omega) (by omega) (hF.tr hF2) (fun s3 hF3 => ?_)
        have := hP s3 hF3
        rw [e0, hq, decide_eq_false c1] at this
        exact this
theorem m_scraps_loop {n m : Nat} {w : Nat → Bool} {st : Mm} {what : Int32} (hn : n ≤ 16) (hn0 : st.1 58 0 = nI n) (hw : Rw (st.1 60) w) (hm : m ≤ 256) {P : Int32 × Mm → Prop} : ∀ r i f k s, i + r = 50 → r + 1 ≤ k → f ≤ i → Fr LFm st s → (∀ s2, Fr LFm st s2 → P (scI (scq n w m) what r i f, s2)) → Ok (f_m_scraps_24 k (nI m) what (nI f) (nI i) s) P := by
  intro r
  induction r with
  | zero =>
    intro i f k s h1 h2 hf hF hP
    obtain ⟨k, rfl⟩ := nat_suc (show 0 + 1 ≤ k by omega)
    have e : i = 50 := by omega
    subst e
    show Ok (b_m_scraps_24 (f_m_scraps_24 k) _ _ _ (nI 50) s) P
    unfold b_m_scraps_24 b_m_scraps_111
    have := hP s hF
    unfold scI at this
    refine ok_t (by decide) (ok_if (fun c => ok_some ?_) (fun c => ok_some ?_))
    · rw [if_pos c] at this; exact this
    · rw [if_neg c] at this; exact this
  | succ r ih =>
    intro i f k s h1 h2 hf hF hP
    obtain ⟨k, rfl⟩ := nat_suc (show 0 + 1 ≤ k by omega)
    show Ok (b_m_scraps_24 (f_m_scraps_24 k) _ _ _ (nI i) s) P
    unfold b_m_scraps_24
    refine ok_f (n50 (by omega)) ?_
    have e0 : scI (scq n w m) what (r + 1) i f = if scq n w m i then (if nI f = what then codI i else scI (scq n w m) what r (i + 1) (f + 1)) else scI (scq n w m) what r (i + 1) f := rfl
    refine m_try (n := n) (w := w) hn (by rw [hF _ _ rfl]; exact hn0) (by omega) (hw.cg (fun y _ => hF _ y (by simp [inL, LFm]))) (kN := fun q => lt_ (nI i + (1 : Int32)) (fun a4 => f_m_scraps_24 k (nI m) what (nI f) a4 q)) (kY := fun q => (f_m_wantsCutMany q).bind (fun q7 => if q7.1 = nI m then (if nI f = what then (b_m_scraps_77 (nI i) q7.2) else (lt_ (nI f + (1 : Int32)) (fun a10 => lt_ (nI i + (1 : Int32)) (fun a11 => f_m_scraps_24 k (nI m) what a10 a11 q7.2)))) else (lt_ (nI i + (1 : Int32)) (fun a12 => f_m_scraps_24 k (nI m) what (nI f) a12 q7.2)))) (fun h s2 hF2 => ok_lt ?_) (fun v hv s2 hF2 hS hb => ?_)
    · rw [nI_1]
      refine ih (i + 1) f k s2 (by omega) (by omega) (by omega) (hF.tr hF2) (fun s3 hF3 => ?_)
      have := hP s3 hF3
      rw [e0, show scq n w m i = false by unfold scq; rw [h]] at this
      exact this
    · have hct := fb_ct_le (baB (flc i) n w 256) 256
      have hq : scq n w m i = decide (fb_ct (baB (flc i) n w 256) 256 = m) := by unfold scq; rw [hv]; rfl
      refine ok_bind (ok_eq (m_wantsCutMany_eq hb) ?_)
      refine okc_eq (fb_ct (baB (flc i) n w 256) 256) m (fun c1 => ok_if (fun c2 => ?_) (fun c2 => ok_lt (ok_lt ?_))) (fun c1 => ok_lt ?_)
      · unfold b_m_scraps_77
        refine ok_some ?_
        rw [r2 (by omega), d10 (by omega), d2 (by omega), r5 (by omega), cod_eq]
        have := hP s2 (hF.tr hF2)
        rw [e0, hq, decide_eq_true c1, if_pos rfl, if_pos c2] at this
        exact this
      · rw [nI_1, nI_1]
        refine ih (i + 1) (f + 1) k s2 (by omega) (by omega) (by omega) (hF.tr hF2) (fun s3 hF3 => ?_)
        have := hP s3 hF3
        rw [e0, hq, decide_eq_true c1, if_pos rfl, if_neg c2] at this
        exact this
      · rw [nI_1]
        refine ih (i + 1) f k s2 (by omega) (by omega) (by omega) (hF.tr hF2) (fun s3 hF3 => ?_)
        have := hP s3 hF3
        rw [e0, hq, decide_eq_false c1] at this
        exact this
theorem st_scraps (a0 a1 : Int32) : Step1 Inv (f_x_scraps a0 a1) (f_m_scraps a0 a1) := step_q (fun A hA => by
  have hn := hA.1.2.1
  rcases in_cases a0 0 256 with hc | ⟨k, _, hk, _, rfl, hc⟩
  · refine ⟨-3, xok_fr [] rfl (fun st hI => ?_), mok_fr [] rfl (fun st hI => ?_)⟩
    · have h2 := of_decide_eq_false hc
      unfold f_x_scraps
      refine ok_if (fun _ => ok_some ⟨rfl, Fr.rf⟩) (fun c1 => ok_if (fun _ => ok_some ⟨rfl, Fr.rf⟩) (fun c2 => ?_))
      rw [i_lt, i_z] at c1
      rw [i_lt, show (256 : Int32).toInt = 256 from rfl] at c2
      omega
    · unfold f_m_scraps
      refine ok_bind (ok_eq (m_in_eq a0 0 256 (by omega) (by omega) st) ?_)
      rw [hc]
      exact ok_t rfl (ok_some ⟨rfl, Fr.rf⟩)
  · by_cases hw : (-1 : Int32) ≤ a1
    · refine ⟨scI (scq A.1.1 A.1.2.2.2.2.2.1 k) a1 50 0 0, xok_fr LFt rfl (fun st hI => ?_), mok_fr LFm rfl (fun st hI => ?_)⟩
      · unfold f_x_scraps
        refine ok_f (nI_pos (by omega)) (ok_f (show ¬ nI 256 < nI k by rw [nI_ltI (by omega) (by omega)]; omega) (ok_t hw ?_))
        exact x_scraps_loop (n := A.1.1) (w := A.1.2.2.2.2.2.1) hn hI.1.1 hI.1.2.2.2.2.2.2.1 hk 50 0 0 1000000 st (by omega) (by omega) (by omega) Fr.rf (fun s2 hF => ⟨rfl, hF⟩)
      · unfold f_m_scraps
        refine ok_bind (ok_eq (m_in_eq _ 0 256 (by omega) (by omega) st) ?_)
        rw [hc]
        refine ok_f nbt (ok_t hw ?_)
        exact m_scraps_loop (n := A.1.1) (w := A.1.2.2.2.2.2.1) hn hI.1.1 hI.1.2.2.2.2.2.2.1 hk 50 0 0 1000000 st (by omega) (by omega) (by omega) Fr.rf (fun s2 hF => ⟨rfl, hF⟩)
    · refine ⟨-3, xok_fr [] rfl (fun st hI => ?_), mok_fr [] rfl (fun st hI => ?_)⟩
      · unfold f_x_scraps
        exact ok_if (fun _ => ok_some ⟨rfl, Fr.rf⟩) (fun c1 => ok_if (fun _ => ok_some ⟨rfl, Fr.rf⟩) (fun c2 => ok_f hw (ok_some ⟨rfl, Fr.rf⟩)))
      · unfold f_m_scraps
        refine ok_bind (ok_eq (m_in_eq _ 0 256 (by omega) (by omega) st) ?_)
        rw [hc]
        exact ok_f nbt (ok_f hw (ok_some ⟨rfl, Fr.rf⟩)))
