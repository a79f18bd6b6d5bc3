/-! the walk from a cell, by what is not met yet -/
noncomputable def chB (r : Nat) (D : Dz) (d : Nat) : Bool := @decide (zP D d = some r ∧ zM D r < zM D d) (Classical.propDecidable _)
theorem chB_iff {r : Nat} {D : Dz} {d : Nat} : chB r D d = true ↔ zP D d = some r ∧ zM D r < zM D d := @decide_eq_true_iff _ (Classical.propDecidable _)
def brO (r c b b' : Nat) (D : Dz) : Prop := (c ≠ r → b' = b) ∧ (c = r → b' = fb_ct (chB r D) 256)
theorem WFz.bump {n : Nat} {D : Dz} (h : WFz n D) {c : Nat} (hc : zT D c ≤ 4) : WFz n (zbump D c) := by
  obtain ⟨h1, h2, h3, h4, h5⟩ := h
  refine ⟨h1, h2, h3, fun x hx => ⟨(h4 x hx).1, ?_⟩, h5⟩
  show (if x = c then zT D c + 1 else zT D x) ≤ 5
  split
  · omega
  · exact (h4 x hx).2
theorem WFz.low {n : Nat} {D : Dz} (h : WFz n D) (c v : Nat) : WFz n (zlow D c v) := by
  obtain ⟨h1, h2, h3, h4, h5⟩ := h
  refine ⟨h1, h2, h3, fun x hx => ⟨?_, (h4 x hx).2⟩, h5⟩
  show (if x = c then min (zR D c) v else zR D x) ≤ 256
  split
  · rename_i e
    have := (h4 x hx).1
    rw [e] at this
    omega
  · exact (h4 x hx).1
theorem WFz.mark {n : Nat} {D : Dz} (h : WFz n D) (c : Nat) : WFz n (zmark D c) := h
theorem WFz.meet {n : Nat} {D : Dz} (h : WFz n D) {c r : Nat} {b : Option Nat} (hc : isC n c) (ht : zt D < 256) (hb : ∀ y, b = some y → zM D y ≠ 0) : WFz n (zmeet D c b r) := by
  obtain ⟨h1, h2, h3, h4, h5⟩ := h
  have eM : ∀ x, zM (zmeet D c b r) x = if x = c then zt D + 1 else zM D x := fun x => rfl
  have eP : ∀ x, zP (zmeet D c b r) x = if x = c then b else zP D x := fun x => rfl
  have et : zt (zmeet D c b r) = zt D + 1 := rfl
  have eR : ∀ x, zR (zmeet D c b r) x = if x = c then zt D + 1 else zR D x := fun x => rfl
  have eT : ∀ x, zT (zmeet D c b r) x = if x = c then 0 else zT D x := fun x => rfl
  refine ⟨fun x hx => ?_, by rw [et]; omega, fun x => ?_, fun x hx => ?_, fun x y hx hy => ?_⟩
  · by_cases e : x = c
    · rw [e]; exact hc
    · rw [eM, if_neg e] at hx; exact h1 x hx
  · rw [eM, et]
    split
    · omega
    · have := h3 x; omega
  · rw [eR, eT]
    by_cases e : x = c
    · rw [if_pos e, if_pos e]; omega
    · rw [if_neg e, if_neg e]
      rw [eM, if_neg e] at hx
      exact h4 x hx
  · rw [eM]
    by_cases ey : y = c
    · rw [if_pos ey]; omega
    · rw [if_neg ey]
      rw [eP] at hy
      by_cases e : x = c
      · rw [if_pos e] at hy; exact hb y hy
      · rw [if_neg e] at hy
        rw [eM, if_neg e] at hx
        exact h5 x y hx hy
theorem whi_pos {p : Nat → Bool} {D : Dz} {o : Nat} (ho : o < 256) (hp : p o = true) (hm : zM D o = 0) : 0 < whi p D := fb_ct_pos.mpr ⟨o, ho, by simp [hp, hm]⟩
theorem dfs_visit {n r tb : Nat} {p : Nat → Bool} {g : Nat → Int32} {s0 : Mm} {P : Unit × Mm → Prop} (hpin : pIn n p) (hn : s0.1 30 0 = nI n) (hp : Rw (s0.1 31) p) (hr : r < 256) :
    ∀ k c D st s b, whi p D = k → PV p c D → WFz n D → tb ≤ zt D → zt D + whi p D ≤ 256 → zM D r ≠ 0 → Dm g r tb st D → Fr LDf s0 st → s + 5 * whi p D + 5 ≤ 1280 → (c = r → b = 0) →
      (∀ D' E b' st', CLi n p r c D D' E 4 → WFz n D' → Dm g r tb st' D' → Fr LDf s0 st' → brO r c b b' D' → Ok (f_Pcs_walkFrom_15 (1000000 - (s + 5 * (zt D' - zt D) + 4)) (nI r) (nI b') (nI c) (nI (s + 5 * (zt D' - zt D) + 4)) st') P) → Ok (f_Pcs_walkFrom_15 (1000000 - s) (nI r) (nI b) (nI c) (nI s) st) P := by
  intro k
  induction k using Nat.strongRecOn with
  | ind k ih =>
    intro c D st s b hk hPV hW htb hsum hMr hD hF hst hb0 hfin
    obtain ⟨v1, v2, v3, v4, v5, v6, v7, v8⟩ := id hPV
    have hcM : zM D c ≠ 0 := by omega
    have hcC := hpin.2 c v3
    have hc256 := hcC.1
    have hn2 := hpin.1
    have loop : ∀ q j D1 E st1 b1, j + q = 4 → CLi n p r c D D1 E j → WFz n D1 → Dm g r tb st1 D1 → Fr LDf s0 st1 → brO r c b b1 D1 → Ok (f_Pcs_walkFrom_15 (1000000 - (s + 5 * (zt D1 - zt D) + j)) (nI r) (nI b1) (nI c) (nI (s + 5 * (zt D1 - zt D) + j)) st1) P := by
      intro q
      induction q with
      | zero =>
        intro j D1 E st1 b1 hj hC hW1 hD1 hF1 hbr
        have e : j = 4 := by omega
        subst e
        exact hfin D1 E b1 st1 hC hW1 hD1 hF1 hbr
      | succ q ihq =>
        intro j D1 E st1 b1 hj hC hW1 hD1 hF1 hbr
        have c1 := (hC.1 c hcM).1
        have c5 := hC.2.2.2.2.1
        have c15 := hC.2.2.2.2.2.2.2.2.2.2.2.2.2.2.1
        have c16 := hC.2.2.2.2.2.2.2.2.2.2.2.2.2.2.2.1
        have hM1c : zM D1 c ≠ 0 := by omega
        have hM1r : zM D1 r ≠ 0 := by rw [(hC.1 r hMr).1]; exact hMr
        refine w_side (n := n) (p := p) hn2 (by rw [hF1 _ _ rfl]; exact hn) (hp.cg (fun y _ => hF1 _ _ (by simp [inL, LDf]))) (by omega) hcC hr (by omega) hW1 hD1 hM1c c15 (by omega) (fun hno s2 hF2 hD2 => ?_) (fun w hnb hpw hMw s2 hF2 hD2 => ?_) (fun o hnb hpo hMo s2 hF2 hD2 => ?_)
        · exact ihq (j + 1) (zbump D1 c) E s2 b1 (by omega) (cl_none hC hcM hno) (hW1.bump (by omega)) hD2 (hF1.tr hF2) hbr
        · exact ihq (j + 1) (zlow (zbump D1 c) c (zM D1 w)) E s2 b1 (by omega) (cl_met hC hcM (by omega) hnb hpw hMw) ((hW1.bump (by omega)).low _ _) hD2 (hF1.tr hF2) hbr
        · have hoC := nbr_C hn2 hcC hnb
          have ho256 := hoC.1
          have hor : o ≠ r := fun e => hM1r (e ▸ hMo)
          have hoc : o ≠ c := fun e => hM1c (e ▸ hMo)
          have hwp := whi_pos ho256 hpo hMo
          have eM2 : ∀ x, x ≠ o → zM (zmeet (zbump D1 c) o (some c) r) x = zM D1 x := fun x hx => by show (if x = o then _ else _) = _; rw [if_neg hx]; rfl
          have eM2o : zM (zmeet (zbump D1 c) o (some c) r) o = zt D1 + 1 := by show (if o = o then _ else _) = _; rw [if_pos rfl]; rfl
          have eP2 : ∀ x, x ≠ o → zP (zmeet (zbump D1 c) o (some c) r) x = zP D1 x := fun x hx => by show (if x = o then _ else _) = _; rw [if_neg hx]; rfl
          have eP2o : zP (zmeet (zbump D1 c) o (some c) r) o = some c := by show (if o = o then _ else _) = _; rw [if_pos rfl]
          have et2 : zt (zmeet (zbump D1 c) o (some c) r) = zt D1 + 1 := rfl
          have ew2 : whi p (zmeet (zbump D1 c) o (some c) r) + 1 = whi p D1 := by
            unfold whi
            have := fb_ct_upd (fun x => p x && decide (zM D1 x = 0)) false (i := o) (n := 256) ho256
            simp only [hpo, hMo, decide_true, Bool.and_self, if_true, Bool.false_eq_true, if_false, Nat.add_zero] at this
            have hcg : fb_ct (fun x => p x && decide (zM (zmeet (zbump D1 c) o (some c) r) x = 0)) 256 = fb_ct (fun k => if k = o then false else (p k && decide (zM D1 k = 0))) 256 := fb_ct_cong (fun x _ => by
              by_cases e : x = o
              · rw [if_pos e, e, eM2o]; simp
              · rw [if_neg e, eM2 x e])
            rw [hcg]
            exact this
          have hPV2 : PV p o (zmeet (zbump D1 c) o (some c) r) := by
            refine ⟨by rw [eM2o, et2], by rw [et2]; omega, hpo, by show (if o = o then 0 else _) = 0; rw [if_pos rfl], by show (if o = o then _ else _) = _; rw [if_pos rfl]; rfl, fun x hx => ?_, (hC.2.2.1 o hMo).1, fun x hx => ?_⟩
            · rw [eM2 x hx, et2]; have := hC.2.2.2.1 x; omega
            · by_cases e : x = o
              · rw [e, eM2o] at hx; omega
              · rw [eM2 x e] at hx; exact (hC.2.2.1 x hx).1
          have hW2 : WFz n (zmeet (zbump D1 c) o (some c) r) := (hW1.bump (c := c) (by omega)).meet hoC (show zt D1 < 256 by omega) (fun y hy => by cases hy; exact hM1c)
          refine ih (whi p (zmeet (zbump D1 c) o (some c) r)) (by omega) o _ s2 (s + 5 * (zt D1 - zt D) + j + 1) b1 rfl hPV2 hW2 (by rw [et2]; omega) (by rw [et2]; omega) (by rw [eM2 r (fun e => hor e.symm)]; exact hM1r) hD2 (hF1.tr hF2) (by omega) (fun e => absurd e hor) (fun D3 E3 b3 st3 hC3 hW3 hD3 hF3 hbr3 => ?_)
          have hb3 : b3 = b1 := hbr3.1 hor
          subst hb3
          rw [et2]
          have t3 := hC3.2.2.2.2.1
          rw [et2] at t3
          have w3 := hC3.2.2.2.2.2.2.2.2.2.2.2.2.2.2.2.1
          rw [et2] at w3
          have T3o := hC3.2.2.2.2.2.2.2.2.2.2.2.2.2.2.1
          have old : ∀ x, zM D1 x ≠ 0 → zM D3 x = zM D1 x ∧ zP D3 x = zP D1 x := fun x hx => by
            have hxo : x ≠ o := fun e => hx (e ▸ hMo)
            obtain ⟨a, b, _⟩ := hC3.1 x (by rw [eM2 x hxo]; exact hx)
            exact ⟨by rw [a, eM2 x hxo], by rw [b, eP2 x hxo]⟩
          have M3o : zM D3 o = zt D1 + 1 := by rw [(hC3.1 o (by rw [eM2o]; omega)).1, eM2o]
          have P3o : zP D3 o = some c := by rw [(hC3.1 o (by rw [eM2o]; omega)).2.1, eP2o]
          have stp : s + 5 * (zt D1 - zt D) + j + 1 + 5 * (zt D3 - (zt D1 + 1)) + 4 + 1 = s + 5 * (zt D3 - zt D) + (j + 1) := by omega
          have hlt : s + 5 * (zt D1 - zt D) + j + 1 + 5 * (zt D3 - (zt D1 + 1)) + 4 < 1280 := by omega
          by_cases hcr : c = r
          · refine w_back_r (n := n) hlt ho256 hr hD3 (by omega) T3o (by rw [P3o, hcr]) (fun s4 hF4 hD4 => ?_)
            rw [stp]
            have hgo := ihq (j + 1) (zbump D3 o) (fun x => if x = c then zt D3 else if zt D1 < zM D3 x then E3 x else E x) s4 (b3 + 1) (by omega) (cl_child (D4 := zbump D3 o) hC v1 hcM hMr (by omega) hnb hpo ho256 hMo hC3 rfl rfl rfl rfl (fun x => ?_) (fun x => ?_) (fun x => ?_)) (hW3.bump (by omega)) hD4 (hF3.tr hF4) ⟨fun h => absurd hcr h, fun _ => ?_⟩
            · rw [← hcr] at hgo ⊢; exact hgo
            · show (if x = o then zT D3 o + 1 else zT D3 x) = _
              rw [T3o]
            · rw [if_neg (fun h => h.2 hcr)]; rfl
            · rw [if_neg (fun h => h.2.1 hcr)]; rfl
            · rw [hbr.2 hcr]
              refine (ct_add (k := o) ho256 ?_ (fun d _ => ?_)).symm
              · cases h : chB r D1 o with
                | false => rfl
                | true => have := (chB_iff.mp h).2; omega
              · by_cases e : d = o
                · rw [if_pos e, e]
                  refine chB_iff.mpr ⟨?_, ?_⟩
                  · show zP D3 o = some r
                    rw [P3o, hcr]
                  · show zM D3 r < zM D3 o
                    rw [(old r hM1r).1, M3o]; have := hC.2.2.2.1 r; omega
                · rw [if_neg e]
                  refine Bx chB_iff chB_iff ?_
                  show (zP D3 d = some r ∧ zM D3 r < zM D3 d) ↔ _
                  rw [(old r hM1r).1]
                  by_cases hd0 : zM D1 d = 0
                  · constructor
                    · rintro ⟨q1, q2⟩
                      exfalso
                      have h2 := (hC3.2.1 d (by rw [eM2 d e]; exact hd0) (by omega)).2.1
                      rw [et2] at h2
                      obtain ⟨y, y1, y2, _⟩ := hC3.2.2.2.2.2.2.2.2.2.2.2.1 d (by rw [eM2o]; omega)
                      rw [q1] at y1
                      cases y1
                      rw [eM2o, (old r hM1r).1] at y2
                      have := hC.2.2.2.1 r; omega
                    · rintro ⟨q1, q2⟩; omega
                  · rw [(old d hd0).1, (old d hd0).2]
          · refine w_back (n := n) hlt ho256 hc256 hr hcr (fun e => hoc e.symm) hW3 hD3 (by omega) (by rw [(old c hM1c).1]; exact hM1c) T3o P3o (fun s4 hF4 hD4 => ?_)
            rw [stp]
            generalize hD4e : (if zM D3 c ≤ zR D3 o then zmark (zlow (zbump D3 o) c (zR D3 o)) c else zlow (zbump D3 o) c (zR D3 o)) = D4 at hD4
            have a1 : zM D4 = zM D3 := by rw [← hD4e]; split <;> rfl
            have a2 : zP D4 = zP D3 := by rw [← hD4e]; split <;> rfl
            have a3 : zL D4 = zL D3 := by rw [← hD4e]; split <;> rfl
            have a4 : zt D4 = zt D3 := by rw [← hD4e]; split <;> rfl
            have a5 : ∀ x, zT D4 x = if x = o then 5 else zT D3 x := fun x => by
              have : zT D4 x = if x = o then zT D3 o + 1 else zT D3 x := by rw [← hD4e]; split <;> rfl
              rw [this, T3o]
            have a6 : ∀ x, zR D4 x = if x = c ∧ c ≠ r then min (zR D3 c) (zR D3 o) else zR D3 x := fun x => by
              have : zR D4 x = if x = c then min (zR D3 c) (zR D3 o) else zR D3 x := by rw [← hD4e]; split <;> rfl
              rw [this]
              by_cases e : x = c
              · rw [if_pos e, if_pos ⟨e, hcr⟩]
              · rw [if_neg e, if_neg (fun h => e h.1)]
            have a7 : ∀ x, zH D4 x = if x = c ∧ c ≠ r ∧ zM D3 c ≤ zR D3 o then true else zH D3 x := fun x => by
              rw [← hD4e]
              by_cases h : zM D3 c ≤ zR D3 o
              · rw [if_pos h]
                show (if x = c then true else zH D3 x) = _
                by_cases e : x = c
                · rw [if_pos e, if_pos ⟨e, hcr, h⟩]
                · rw [if_neg e, if_neg (fun h => e h.1)]
              · rw [if_neg h, if_neg (fun h2 => h h2.2.2)]; rfl
            have hW4 : WFz n D4 := by
              rw [← hD4e]
              split
              · exact ((hW3.bump (by omega)).low _ _).mark _
              · exact (hW3.bump (by omega)).low _ _
            have hgo := ihq (j + 1) D4 (fun x => if x = c then zt D3 else if zt D1 < zM D3 x then E3 x else E x) s4 b3 (by omega) (cl_child hC v1 hcM hMr (by omega) hnb hpo ho256 hMo hC3 a1 a2 a3 a4 a5 a6 a7) hW4 hD4 (hF3.tr hF4) ⟨fun _ => hbr.1 hcr, fun h => absurd h hcr⟩
            rw [a4] at hgo
            exact hgo
    have := loop 4 0 D (fun _ => zt D) st b (by omega) (cl_0 hPV (fun d _ => by
      by_cases e : d = c
      · rw [e]; exact Nat.le_refl _
      · have := v6 d e; omega)) hW hD hF ⟨fun _ => rfl, fun e => ?_⟩
    · rw [Nat.sub_self] at this
      exact this
    · rw [hb0 e]
      refine (fb_ct_zero.mpr (fun d _ => ?_)).symm
      cases h : chB r D d with
      | false => rfl
      | true =>
        have h2 := (chB_iff.mp h).2
        rw [← e] at h2
        by_cases e2 : d = c
        · rw [e2] at h2; omega
        · have := v6 d e2; omega
