/-! hang: the class's sweeps -/
def sdH (n I : Nat) (h : Nat → Nat) (c j : Nat) : Nat := match nbr n c j with
  | none => I
  | some u => h u
theorem rlx_cg {n : Nat} {w h0 h h' : Nat → Nat} {D : Nat → Nat → Prop} (R : Rlx n w h0 D h) (e : ∀ x, isC n x → h' x = h x) : Rlx n w h0 D h' := ⟨fun x hx => by rw [e x hx]; exact R.1 x hx, fun v j u h1 h2 h3 h4 => by rw [e v h1]; exact R.2.1 v j u h1 h2 h3 h4, fun G g1 g2 x hx => by rw [e x hx]; exact R.2.2 G g1 g2 x hx⟩
theorem rlx_one {n I : Nat} {w h0 h h' : Nat → Nat} {D D2 : Nat → Nat → Prop} {c j : Nat} (hn : n ≤ 16) (R : Rlx n w h0 D h) (hc : isC n c) (hI : h c ≤ I) (hj : j < 4) (e : ∀ x, isC n x → h' x = if x = c then min (h c) (sdH n I h c j + w c) else h x) (hD : ∀ v i, isC n v → i < 4 → D2 v i → D v i ∨ (v = c ∧ i = j)) : Rlx n w h0 D2 h' := by
  cases hu : nbr n c j with
  | none =>
    refine rlx_cg (rlx_no R hu hD) (fun x hx => ?_)
    rw [e x hx]
    unfold sdH
    rw [hu]
    by_cases ex : x = c
    · rw [if_pos ex, ex]; simp only; omega
    · rw [if_neg ex]
  | some u =>
    refine rlx_st hn R hc hj hu (fun x hx => ?_) hD
    rw [e x hx]
    unfold sdH
    rw [hu]
theorem sdH_upd {n I c j x : Nat} {h : Nat → Nat} (hc : isC n c) : sdH n I (fun y => if y = c then x else h y) c j = sdH n I h c j := by
  unfold sdH
  cases hu : nbr n c j with
  | none => rfl
  | some u => simp only [if_neg (nbr_ne hc hu)]
theorem rlx_two {n I : Nat} {w h0 h h' : Nat → Nat} {D D2 : Nat → Nat → Prop} {c j i : Nat} (hn : n ≤ 16) (R : Rlx n w h0 D h) (hc : isC n c) (hI : h c ≤ I) (hj : j < 4) (hi : i < 4) (e : ∀ x, isC n x → h' x = if x = c then min (h c) (min (sdH n I h c j) (sdH n I h c i) + w c) else h x) (hD : ∀ v t, isC n v → t < 4 → D2 v t → D v t ∨ (v = c ∧ (t = j ∨ t = i))) : Rlx n w h0 D2 h' := by
  have R1 := rlx_one (D2 := fun v t => D v t ∨ (v = c ∧ t = j)) (h' := fun x => if x = c then min (h c) (sdH n I h c j + w c) else h x) hn R hc hI hj (fun x _ => rfl) (fun v t _ _ h => h)
  refine rlx_one (I := I) (j := i) hn R1 hc (by simp only [if_true]; omega) hi (fun x hx => ?_) (fun v t h1 h2 h3 => ?_)
  · rw [e x hx]
    by_cases ex : x = c
    · rw [if_pos ex, if_pos ex, sdH_upd hc]
      simp only [if_true]
      omega
    · rw [if_neg ex, if_neg ex]
      simp only [if_neg ex]
  · rcases hD v t h1 h2 h3 with h | ⟨h4, h | h⟩
    · exact Or.inl (Or.inl h)
    · exact Or.inl (Or.inr ⟨h4, h⟩)
    · exact Or.inr ⟨h4, h⟩
def HBx (S : Nat) (h : Nat → Nat) (s : Mm) : Prop := ∀ c, c < 256 → s.1 43 (256 * S + c) = nI (h c) ∧ h c ≤ 1000000
def FBx (S : Nat) (s0 s : Mm) : Prop := ∀ a j, ¬ (a = 43 ∧ 256 * S ≤ j ∧ j < 256 * S + 256) → s.1 a j = s0.1 a j
theorem FBx.rf {S : Nat} {s : Mm} : FBx S s s := fun _ _ _ => rfl
theorem FBx.tr {S : Nat} {a b c : Mm} (h1 : FBx S a b) (h2 : FBx S b c) : FBx S a c := fun x y h => (h2 x y h).trans (h1 x y h)
theorem FBx.set {S c : Nat} {s0 s : Mm} {v : Int32} (h : FBx S s0 s) (hc : c < 256) : FBx S s0 (sI s 43 (256 * S + c) v) := fun a j hj => by
  rw [sI_at, if_neg (fun e => hj ⟨e.1, by omega, by omega⟩)]
  exact h a j hj
theorem HBx.set {S c x : Nat} {h : Nat → Nat} {s : Mm} (hb : HBx S h s) (hx : x ≤ 1000000) : HBx S (fun y => if y = c then x else h y) (sI s 43 (256 * S + c) (nI x)) := fun y hy => by
  rw [sI_at]
  by_cases e : y = c
  · rw [if_pos ⟨rfl, by omega⟩]
    simp only [if_pos e]
    exact ⟨trivial, hx⟩
  · rw [if_neg (fun z => e (by omega))]
    simp only [if_neg e]
    exact hb y hy
def EXs (w : Nat → Nat) (s : Mm) : Prop := ∀ c, c < 256 → s.1 44 c = nI (w c) ∧ w c ≤ 1000000
theorem EXs.fb {S : Nat} {w : Nat → Nat} {s s2 : Mm} (h : EXs w s) (hF : FBx S s s2) : EXs w s2 := fun c hc => by rw [hF _ _ (fun e => absurd e.1 (by decide))]; exact h c hc
theorem x_low_ok {S c l a : Nat} {w h : Nat → Nat} {s : Mm} {P : Int32 × Mm → Prop} (hS : S < 32) (hc : c < 256) (hB : HBx S h s) (hw : w c ≤ 1000000) (hl : l ≤ 1000000) (ha : a ≤ 1000000)
    (h0 : h c ≤ min l a + w c → P (0, s)) (h1 : min l a + w c < h c → P (1, sI s 43 (256 * S + c) (nI (min l a + w c)))) : Ok (f_Hng_lower (nI (256 * S + c)) ((if nI l < nI a then nI l else nI a) + nI (w c)) s) P := by
  have e : (if nI l < nI a then nI l else nI a) = nI (min l a) := by
    by_cases hh : l < a
    · rw [if_pos (nI_lt hh (by omega)), Nat.min_eq_left (by omega)]
    · rw [if_neg (by rw [nI_ltI (by omega) (by omega)]; exact hh), Nat.min_eq_right (by omega)]
  rw [e, nI_add]
  have hb := hB c hc
  unfold f_Hng_lower
  refine ok_t (inb_nI (by omega) (by omega)) ?_
  rw [cl_nI (by omega), hb.1]
  refine okc_lt (min l a + w c) (h c) (fun hlt => ok_t (inb_nI (by omega) (by omega)) (ok_some (h1 hlt))) (fun hge => ok_some (h0 hge)) rfl rfl (by omega) (by omega)
theorem Flg.or0 {n : Nat} {h0 h : Nat → Nat} {fl : Int32} (h1 : Flg n h0 h fl) : Flg n h0 h (fl ||| 0) := by
  rcases h1 with ⟨e, h2⟩ | ⟨e, h2⟩
  · subst e; exact Or.inl ⟨by decide, h2⟩
  · subst e; exact Or.inr ⟨by decide, h2⟩
theorem Flg.or1 {n : Nat} {h0 h h' : Nat → Nat} {fl : Int32} (h1 : Flg n h0 h fl) (h2 : ∃ c, isC n c ∧ h' c < h0 c) : Flg n h0 h' (fl ||| 1) := by
  rcases h1 with ⟨e, _⟩ | ⟨e, _⟩
  · subst e; exact Or.inr ⟨by decide, h2⟩
  · subst e; exact Or.inr ⟨by decide, h2⟩
theorem fbN {S c : Nat} : nI (256 * S + c) - nI (256 * S) = nI c := by rw [pk_sub (by omega), show 256 * S + c - 256 * S = c by omega]
/-- the invariant of a sweep -/
def Swi (n S : Nat) (w h0 : Nat → Nat) (s0 : Mm) (D : Nat → Nat → Prop) (fl : Int32) (h : Nat → Nat) (s : Mm) : Prop := FBx S s0 s ∧ HBx S h s ∧ Rlx n w h0 D h ∧ Flg n h0 h fl ∧ ∀ x, ¬ isC n x → h x = h0 x
theorem swi_cell {n S c j i : Nat} {w h0 h : Nat → Nat} {s0 s : Mm} {D D2 : Nat → Nat → Prop} {fl : Int32} {P : Int32 × Mm → Prop} (hn : n ≤ 16) (hS : S < 32) (hE : EXs w s0) (hI : Swi n S w h0 s0 D fl h s) (hc : isC n c) (hj : j < 4) (hi : i < 4) (hD : ∀ v t, isC n v → t < 4 → D2 v t → D v t ∨ (v = c ∧ (t = j ∨ t = i)))
    (hP : ∀ q h2 s2, Swi n S w h0 s0 D2 (fl ||| q) h2 s2 → P (q, s2)) : Ok (f_Hng_lower (nI (256 * S + c)) ((if nI (sdH n 1000000 h c j) < nI (sdH n 1000000 h c i) then nI (sdH n 1000000 h c j) else nI (sdH n 1000000 h c i)) + s.1 44 c) s) P := by
  obtain ⟨hF, hB, hR, hf, hno⟩ := hI
  have hc256 := hc.1
  have pr := hE.fb hF c hc256
  rw [pr.1]
  have sd : ∀ j, sdH n 1000000 h c j ≤ 1000000 := fun j => by
    unfold sdH
    cases hu : nbr n c j with
    | none => exact Nat.le_refl _
    | some u => exact (hB u (nbr_C hn hc hu).1).2
  have hbc := hB c hc256
  refine x_low_ok hS hc256 hB pr.2 (sd j) (sd i) (fun hge => hP 0 h s ⟨hF, hB, ?_, hf.or0, hno⟩) (fun hlt => hP 1 (fun y => if y = c then min (sdH n 1000000 h c j) (sdH n 1000000 h c i) + w c else h y) _ ⟨hF.set hc256, hB.set (by omega), ?_, hf.or1 ⟨c, hc, ?_⟩, fun x hx => ?_⟩)
  · refine rlx_two hn hR hc hbc.2 hj hi (fun x hx => ?_) hD
    by_cases e : x = c
    · rw [if_pos e, e]; omega
    · rw [if_neg e]
  · refine rlx_two hn hR hc hbc.2 hj hi (fun x hx => ?_) hD
    by_cases e : x = c
    · rw [if_pos e, if_pos e]; omega
    · rw [if_neg e, if_neg e]
  · simp only [if_true]
    have := hR.1 c hc
    omega
  · have : x ≠ c := fun e => hx (by rw [e]; exact hc)
    simp only [if_neg this]; exact hno x hx
