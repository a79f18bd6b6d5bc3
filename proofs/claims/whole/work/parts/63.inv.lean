/-! the abstract state, and what each side holds of it -/
/-- size, X, snips, folds, cut places, wanted, deer -/
abbrev Tt : Type := Nat × Nat × Nat × List Nat × (Nat → Bool) × (Nat → Bool) × (Nat → Bool)
/-- now, the tape, kept -/
abbrev Ab : Type := Tt × List Nat × Option Tt
def VT (t : Tt) : Prop := 2 ≤ t.1 ∧ t.1 ≤ 16 ∧ t.1 % 2 = 0 ∧ t.2.1 < 65536 ∧ t.2.2.1 ≤ 12 ∧ t.2.2.2.1.length ≤ 8 ∧ (∀ f ∈ t.2.2.2.1, f = 104 ∨ f = 118 ∨ f = 100) ∧ (∃ v, fds t.2.2.2.1 (t.1, t.1, 0) = some v) ∧ (∀ k, t.2.2.2.2.2.1 k = true → isC t.1 k) ∧ (∀ k, t.2.2.2.2.2.2 k = true → isC t.1 k)
def VA (A : Ab) : Prop := VT A.1 ∧ A.2.1.length ≤ 200 ∧ (∀ b ∈ A.2.1, b < 256) ∧ (∀ t, A.2.2 = some t → VT t)
def papT (t : Tt) : Nat → Bool := pap t.1 t.2.2.2.2.1 (slb 0) t.2.2.2.1
def TbX (st : Mm) (t0 t1 t2 t3 t4 : Nat) (t : Tt) : Prop :=
  st.1 t0 0 = nI t.1 ∧ st.1 t0 1 = nI t.2.1 ∧ st.1 t0 2 = nI t.2.2.1 ∧ st.1 t0 3 = nI t.2.2.2.1.length ∧ (∀ j, j < t.2.2.2.1.length → st.1 t1 j = nI (t.2.2.2.1.getD j 0)) ∧ Rw (st.1 t2) t.2.2.2.2.1 ∧ Rw (st.1 t3) t.2.2.2.2.2.1 ∧ Rw (st.1 t4) t.2.2.2.2.2.2
def TbR (st : Mm) (i0 i1 i2 i3 r0 r1 r2 r3 : Nat) (t : Tt) : Prop :=
  st.1 58 i0 = nI t.1 ∧ st.1 58 i1 = nI t.2.1 ∧ st.1 58 i2 = nI t.2.2.1 ∧ st.1 58 i3 = nI t.2.2.2.1.length ∧ (∀ j, j < t.2.2.2.1.length → st.1 r0 j = nI (t.2.2.2.1.getD j 0)) ∧ (∀ k, k < 256 → st.1 r1 k = bI (t.2.2.2.2.1 k)) ∧ Rw (st.1 r2) t.2.2.2.2.2.1 ∧ (∀ k, k < 256 → st.1 r3 k = bI (t.2.2.2.2.2.2 k))
def TpX (st : Mm) (tp : List Nat) : Prop := st.1 11 0 = nI tp.length ∧ ∀ j, j < tp.length → st.1 12 j = nI (tp.getD j 0)
def TpM (st : Mm) (tp : List Nat) : Prop := st.1 58 19 = nI tp.length ∧ ∀ j, j < tp.length → st.1 65 j &&& 255 = nI (tp.getD j 0)
/-- prices and trees of the hanging -/
def prc (p : Nat → Bool) (k : Nat) : Nat := if p k then 0 else 1
def HDer (n : Nat) (p d : Nat → Bool) (tm : Nat → Nat) (m S v a : Nat) : Prop := ∀ R : Nat → Nat → Nat → Prop, (∀ i, i < m → R (2 ^ i) (tm i) 0) → (∀ A B v a b, R A v a → R B v b → A &&& B = 0 → R (A ||| B) v (a + b - prc p v)) → (∀ A u v j a, R A u a → j < 4 → nbr n u j = some v → (p v = true ∨ d v = false) → R A v (a + prc p v)) → R S v a
noncomputable def rtk (n : Nat) (p : Nat → Bool) (i : Nat) : Nat := @dite _ (∃ r, r < 256 ∧ isRt n p r = true ∧ fb_ct (isRt n p) r = i) (Classical.propDecidable _) (fun h => Classical.choose h) (fun _ => 0)
noncomputable def lstI (q : Nat → Prop) : Int32 := @dite _ (∃ a, q a ∧ ∀ b, b < a → ¬ q b) (Classical.propDecidable _) (fun h => nI (Classical.choose h)) (fun _ => -2)
theorem lstI_eq {q : Nat → Prop} {a : Nat} (h : q a) (h2 : ∀ b, b < a → ¬ q b) : lstI q = nI a := by
  unfold lstI
  rw [dif_pos ⟨a, h, h2⟩]
  have hs := Classical.choose_spec (⟨a, h, h2⟩ : ∃ a, q a ∧ ∀ b, b < a → ¬ q b)
  congr 1
  rcases Nat.lt_trichotomy (Classical.choose (⟨a, h, h2⟩ : ∃ a, q a ∧ ∀ b, b < a → ¬ q b)) a with e | e | e
  · exact absurd hs.1 (h2 _ e)
  · exact e
  · exact absurd h (hs.2 _ e)
theorem lstI_no {q : Nat → Prop} (h : ∀ a, ¬ q a) : lstI q = -2 := by
  unfold lstI
  rw [dif_neg (fun ⟨a, ha, _⟩ => h a ha)]
noncomputable def hangI (n : Nat) (p d : Nat → Bool) : Int32 := if fb_ct (isRt n p) 256 < 2 then 0 else if 6 < fb_ct (isRt n p) 256 then -3 else lstI (fun a => ∃ v, HDer n p d (rtk n p) (fb_ct (isRt n p) 256) (2 ^ fb_ct (isRt n p) 256 - 1) v a)
/-- what the class's pieces hold once they are walked -/
def PcX (st : Mm) (n : Nat) (p : Nat → Bool) : Prop :=
  st.1 34 1 = nI (fb_ct (isRt n p) 256) ∧ st.1 34 2 = oI (mnL n p 256) ∧ (∀ k, k < 256 → p k = false → st.1 35 k = -1) ∧ (∀ k r, p k = true → isRt n p r = true → Co n p r k → st.1 35 k = nI r) ∧ (∀ r, isRt n p r = true → st.1 36 r = nI (szc n p r)) ∧ Rw (st.1 37) (fun k => p k && thB n p k)
def KpX (st : Mm) (k : Option Tt) : Prop := match k with
  | none => st.1 0 12 = 0
  | some t => st.1 0 12 = 1 ∧ TbX st 6 7 8 9 10 t
def KpM (st : Mm) (k : Option Tt) : Prop := match k with
  | none => st.1 58 56 = 0
  | some t => st.1 58 56 = 1 ∧ TbR st 57 60 59 58 87 89 88 90 t
def InvX (A : Ab) (st : Mm) : Prop :=
  TbX st 1 2 3 4 5 A.1 ∧ TpX st A.2.1 ∧ (∃ v, FoS st 24 25 26 A.1.1 A.1.2.2.2.1 (slb 0) v) ∧ st.1 30 0 = nI A.1.1 ∧ Rw (st.1 31) (papT A.1) ∧ (st.1 34 0 = 0 ∨ PcX st A.1.1 (papT A.1)) ∧ (st.1 0 13 = 0 ∨ st.1 0 14 = hangI A.1.1 (papT A.1) A.1.2.2.2.2.2.2) ∧ KpX st A.2.2
def InvM (A : Ab) (st : Mm) : Prop :=
  TbR st 0 3 2 1 59 61 60 62 A.1 ∧ TpM st A.2.1 ∧ KpM st A.2.2
def Inv (st : Mm) : Prop := ∃ A, VA A ∧ InvX A st ∧ InvM A st
/-! frames -/
theorem TbX.same {st s2 : Mm} {t0 t1 t2 t3 t4 : Nat} {t : Tt} (h : TbX st t0 t1 t2 t3 t4 t) (h0 : ∀ j, s2.1 t0 j = st.1 t0 j) (h1 : ∀ j, s2.1 t1 j = st.1 t1 j) (h2 : ∀ j, s2.1 t2 j = st.1 t2 j) (h3 : ∀ j, s2.1 t3 j = st.1 t3 j) (h4 : ∀ j, s2.1 t4 j = st.1 t4 j) : TbX s2 t0 t1 t2 t3 t4 t := by
  unfold TbX
  rw [show s2.1 t0 = st.1 t0 from funext h0, show s2.1 t1 = st.1 t1 from funext h1, show s2.1 t2 = st.1 t2 from funext h2, show s2.1 t3 = st.1 t3 from funext h3, show s2.1 t4 = st.1 t4 from funext h4]
  exact h
theorem TbR.same {st s2 : Mm} {i0 i1 i2 i3 r0 r1 r2 r3 : Nat} {t : Tt} (h : TbR st i0 i1 i2 i3 r0 r1 r2 r3 t) (g0 : s2.1 58 i0 = st.1 58 i0) (g1 : s2.1 58 i1 = st.1 58 i1) (g2 : s2.1 58 i2 = st.1 58 i2) (g3 : s2.1 58 i3 = st.1 58 i3) (h0 : ∀ j, s2.1 r0 j = st.1 r0 j) (h1 : ∀ j, s2.1 r1 j = st.1 r1 j) (h2 : ∀ j, s2.1 r2 j = st.1 r2 j) (h3 : ∀ j, s2.1 r3 j = st.1 r3 j) : TbR s2 i0 i1 i2 i3 r0 r1 r2 r3 t := by
  unfold TbR
  rw [g0, g1, g2, g3, show s2.1 r0 = st.1 r0 from funext h0, show s2.1 r1 = st.1 r1 from funext h1, show s2.1 r2 = st.1 r2 from funext h2, show s2.1 r3 = st.1 r3 from funext h3]
  exact h
/-- rows and fields that the class's invariant speaks of -/
def kr (c : Nat) : Bool := (decide (1 ≤ c) && decide (c ≤ 12)) || c == 24 || c == 25 || c == 26 || c == 31 || c == 35 || c == 36 || c == 37
def kx (c j : Nat) : Bool := kr c || (c == 0 && (j == 12 || j == 13 || j == 14)) || (c == 30 && j == 0) || (c == 34 && (j == 0 || j == 1 || j == 2))
def mr (c : Nat) : Bool := c == 59 || c == 60 || c == 61 || c == 62 || c == 65 || c == 87 || c == 88 || c == 89 || c == 90
def mx (c j : Nat) : Bool := mr c || (c == 58 && (j == 0 || j == 3 || j == 2 || j == 1 || j == 19 || j == 56 || j == 57 || j == 60 || j == 59 || j == 58))
theorem InvX.same {A : Ab} {st s2 : Mm} (h : InvX A st) (hs : ∀ c j, kx c j = true → s2.1 c j = st.1 c j) : InvX A s2 := by
  have row : ∀ c, kr c = true → ∀ j, s2.1 c j = st.1 c j := fun c hc j => hs c j (by unfold kx; rw [hc]; rfl)
  obtain ⟨h1, h2, ⟨v, h3⟩, h4, h5, h6, h7, h8⟩ := h
  refine ⟨h1.same (row _ rfl) (row _ rfl) (row _ rfl) (row _ rfl) (row _ rfl), ?_, ⟨v, h3.same (row _ rfl) (row _ rfl) (row _ rfl)⟩, ?_, ?_, ?_, ?_, ?_⟩
  · unfold TpX
    rw [row 11 rfl, show s2.1 12 = st.1 12 from funext (row _ rfl)]
    exact h2
  · rw [hs 30 0 rfl]; exact h4
  · rw [show s2.1 31 = st.1 31 from funext (row _ rfl)]; exact h5
  · rw [hs 34 0 rfl]
    refine h6.imp id (fun h => ?_)
    unfold PcX
    rw [hs 34 1 rfl, hs 34 2 rfl, show s2.1 35 = st.1 35 from funext (row _ rfl), show s2.1 36 = st.1 36 from funext (row _ rfl), show s2.1 37 = st.1 37 from funext (row _ rfl)]
    exact h
  · rw [hs 0 13 rfl, hs 0 14 rfl]; exact h7
  · unfold KpX at h8 ⊢
    rw [hs 0 12 rfl]
    cases hk : A.2.2 with
    | none => rw [hk] at h8; exact h8
    | some t =>
      rw [hk] at h8
      exact ⟨h8.1, h8.2.same (row _ rfl) (row _ rfl) (row _ rfl) (row _ rfl) (row _ rfl)⟩
theorem InvM.same {A : Ab} {st s2 : Mm} (h : InvM A st) (hs : ∀ c j, mx c j = true → s2.1 c j = st.1 c j) : InvM A s2 := by
  have row : ∀ c, mr c = true → ∀ j, s2.1 c j = st.1 c j := fun c hc j => hs c j (by unfold mx; rw [hc]; rfl)
  obtain ⟨h1, h2, h3⟩ := h
  refine ⟨h1.same (hs _ _ rfl) (hs _ _ rfl) (hs _ _ rfl) (hs _ _ rfl) (row _ rfl) (row _ rfl) (row _ rfl) (row _ rfl), ?_, ?_⟩
  · unfold TpM
    rw [hs 58 19 rfl, show s2.1 65 = st.1 65 from funext (row _ rfl)]
    exact h2
  · unfold KpM at h3 ⊢
    rw [hs 58 56 rfl]
    cases hk : A.2.2 with
    | none => rw [hk] at h3; exact h3
    | some t =>
      rw [hk] at h3
      exact ⟨h3.1, h3.2.same (hs _ _ rfl) (hs _ _ rfl) (hs _ _ rfl) (hs _ _ rfl) (row _ rfl) (row _ rfl) (row _ rfl) (row _ rfl)⟩
def okX (L : List (Nat × Option Nat)) : Bool := L.all (fun e => decide (e.1 < 58) && (match e.2 with
  | none => !(kr e.1) && !(e.1 == 0) && !(e.1 == 30) && !(e.1 == 34)
  | some j => !(kx e.1 j)))
def okM (L : List (Nat × Option Nat)) : Bool := L.all (fun e => decide (58 ≤ e.1) && (match e.2 with
  | none => !(mr e.1) && !(e.1 == 58)
  | some j => !(mx e.1 j)))
def loX (L : List (Nat × Option Nat)) : Bool := L.all (fun e => decide (e.1 < 58))
def hiM (L : List (Nat × Option Nat)) : Bool := L.all (fun e => decide (58 ≤ e.1))
theorem inL_ex {L : List (Nat × Option Nat)} {c j : Nat} (h : inL L c j = true) : ∃ e ∈ L, e.1 = c ∧ (e.2 = none ∨ e.2 = some j) := by
  obtain ⟨e, he, h2⟩ := List.any_eq_true.mp h
  refine ⟨e, he, ?_⟩
  obtain ⟨e1, e2⟩ := e
  cases e2 with
  | none => simp at h2; exact ⟨h2, Or.inl rfl⟩
  | some k => simp at h2; exact ⟨h2.1, Or.inr (by rw [h2.2])⟩
theorem Fr.lo {L : List (Nat × Option Nat)} {st s2 : Mm} (hF : Fr L st s2) (h : loX L = true) : ∀ c j, 58 ≤ c → s2.1 c j = st.1 c j := fun c j hc => hF c j (by
  cases hL : inL L c j with
  | false => rfl
  | true =>
    obtain ⟨e, he, h1, _⟩ := inL_ex hL
    have := List.all_eq_true.mp h e he
    have := of_decide_eq_true this
    omega)
theorem Fr.hi {L : List (Nat × Option Nat)} {st s2 : Mm} (hF : Fr L st s2) (h : hiM L = true) : ∀ c j, c < 58 → s2.1 c j = st.1 c j := fun c j hc => hF c j (by
  cases hL : inL L c j with
  | false => rfl
  | true =>
    obtain ⟨e, he, h1, _⟩ := inL_ex hL
    have := List.all_eq_true.mp h e he
    have := of_decide_eq_true this
    omega)
theorem kx_row {c j : Nat} (h : kx c j = true) : (kr c || (c == 0) || (c == 30) || (c == 34)) = true := by
  unfold kx at h
  simp only [Bool.or_eq_true, Bool.and_eq_true] at h ⊢
  rcases h with ((h | h) | h) | h
  · exact Or.inl (Or.inl (Or.inl h))
  · exact Or.inl (Or.inl (Or.inr h.1))
  · exact Or.inl (Or.inr h.1)
  · exact Or.inr h.1
theorem mx_row {c j : Nat} (h : mx c j = true) : (mr c || (c == 58)) = true := by
  unfold mx at h
  simp only [Bool.or_eq_true, Bool.and_eq_true] at h ⊢
  rcases h with h | h
  · exact Or.inl h
  · exact Or.inr h.1
theorem Fr.okX {L : List (Nat × Option Nat)} {st s2 : Mm} (hF : Fr L st s2) (h : okX L = true) : ∀ c j, kx c j = true → s2.1 c j = st.1 c j := fun c j hc => hF c j (by
  cases hL : inL L c j with
  | false => rfl
  | true =>
    obtain ⟨e, he, h1, h2⟩ := inL_ex hL
    have h3 := List.all_eq_true.mp h e he
    obtain ⟨e1, e2⟩ := e
    simp only at h1
    subst h1
    rcases h2 with h2 | h2
    · simp only at h2
      subst h2
      have h4 := kx_row hc
      simp only [Bool.and_eq_true, Bool.not_eq_true'] at h3
      rw [h3.2.1.1.1, h3.2.1.1.2, h3.2.1.2, h3.2.2] at h4
      cases h4
    · simp only at h2
      subst h2
      simp only [Bool.and_eq_true, Bool.not_eq_true'] at h3
      rw [hc] at h3
      cases h3.2)
theorem okX_lo {L : List (Nat × Option Nat)} (h : okX L = true) : loX L = true := List.all_eq_true.mpr (fun e he => by
  have := List.all_eq_true.mp h e he
  exact ((Bool.and_eq_true _ _).mp this).1)
theorem okM_hi {L : List (Nat × Option Nat)} (h : okM L = true) : hiM L = true := List.all_eq_true.mpr (fun e he => by
  have := List.all_eq_true.mp h e he
  exact ((Bool.and_eq_true _ _).mp this).1)
theorem Fr.okM {L : List (Nat × Option Nat)} {st s2 : Mm} (hF : Fr L st s2) (h : okM L = true) : ∀ c j, mx c j = true → s2.1 c j = st.1 c j := fun c j hc => hF c j (by
  cases hL : inL L c j with
  | false => rfl
  | true =>
    obtain ⟨e, he, h1, h2⟩ := inL_ex hL
    have h3 := List.all_eq_true.mp h e he
    obtain ⟨e1, e2⟩ := e
    simp only at h1
    subst h1
    rcases h2 with h2 | h2
    · simp only at h2
      subst h2
      have h4 := mx_row hc
      simp only [Bool.and_eq_true, Bool.not_eq_true'] at h3
      rw [h3.2.1, h3.2.2] at h4
      cases h4
    · simp only at h2
      subst h2
      simp only [Bool.and_eq_true, Bool.not_eq_true'] at h3
      rw [hc] at h3
      cases h3.2)
theorem mx_hi {c j : Nat} (h : mx c j = true) : 58 ≤ c := by
  unfold mx mr at h
  simp only [Bool.or_eq_true, Bool.and_eq_true, beq_iff_eq] at h
  omega
theorem kx_lo {c j : Nat} (h : kx c j = true) : c < 58 := by
  unfold kx kr at h
  simp only [Bool.or_eq_true, Bool.and_eq_true, beq_iff_eq, decide_eq_true_eq] at h
  omega
/-! a method of each side, held against the abstract state -/
def XOk {R : Type} (f : Mm → Option (R × Mm)) (A A2 : Ab) (r : R) : Prop := ∀ st, InvX A st → Ok (f st) (fun q => q.1 = r ∧ InvX A2 q.2 ∧ ∀ c j, 58 ≤ c → q.2.1 c j = st.1 c j)
def MOk {R : Type} (f : Mm → Option (R × Mm)) (A A2 : Ab) (r : R) : Prop := ∀ st, InvM A st → Ok (f st) (fun q => q.1 = r ∧ InvM A2 q.2 ∧ ∀ c j, c < 58 → q.2.1 c j = st.1 c j)
theorem step_of {R : Type} {fx fm : Mm → Option (R × Mm)} (h : ∀ A, VA A → ∃ A2 r, VA A2 ∧ XOk fx A A2 r ∧ MOk fm A A2 r) : Step1 Inv fx fm := by
  rintro st ⟨A, hA, hX, hM⟩
  obtain ⟨A2, r, hA2, h1, h2⟩ := h A hA
  obtain ⟨q1, e1, r1, x1, f1⟩ := h1 st hX
  have hM1 : InvM A q1.2 := hM.same (fun c j hc => f1 c j (mx_hi hc))
  obtain ⟨q2, e2, r2, m2, f2⟩ := h2 q1.2 hM1
  exact ⟨q1, q2, e1, e2, by rw [r1, r2], A2, hA2, x1.same (fun c j hc => f2 c j (kx_lo hc)), m2⟩
theorem xok_same {R : Type} {f : Mm → Option (R × Mm)} {A : Ab} {r : R} (h : ∀ st, InvX A st → f st = some (r, st)) : XOk f A A r := fun st hI => ⟨(r, st), h st hI, rfl, hI, fun _ _ _ => rfl⟩
theorem mok_same {R : Type} {f : Mm → Option (R × Mm)} {A : Ab} {r : R} (h : ∀ st, InvM A st → f st = some (r, st)) : MOk f A A r := fun st hI => ⟨(r, st), h st hI, rfl, hI, fun _ _ _ => rfl⟩
theorem xok_fr {R : Type} {f : Mm → Option (R × Mm)} {A : Ab} {r : R} (L : List (Nat × Option Nat)) (hL : okX L = true) (h : ∀ st, InvX A st → Ok (f st) (fun q => q.1 = r ∧ Fr L st q.2)) : XOk f A A r := fun st hI => ok_mono (h st hI) (fun q hq => ⟨hq.1, hI.same (hq.2.okX hL), hq.2.lo (okX_lo hL)⟩)
theorem mok_fr {R : Type} {f : Mm → Option (R × Mm)} {A : Ab} {r : R} (L : List (Nat × Option Nat)) (hL : okM L = true) (h : ∀ st, InvM A st → Ok (f st) (fun q => q.1 = r ∧ Fr L st q.2)) : MOk f A A r := fun st hI => ok_mono (h st hI) (fun q hq => ⟨hq.1, hI.same (hq.2.okM hL), hq.2.hi (okM_hi hL)⟩)
theorem step_q {R : Type} {fx fm : Mm → Option (R × Mm)} (h : ∀ A, VA A → ∃ r, XOk fx A A r ∧ MOk fm A A r) : Step1 Inv fx fm := step_of (fun A hA => by
  obtain ⟨r, h1, h2⟩ := h A hA
  exact ⟨A, r, hA, h1, h2⟩)
/-! cells and places told as ints -/
theorem cell_cases (n : Nat) (x y : Int32) : decide (0 ≤ x.toInt ∧ x.toInt < n ∧ 0 ≤ y.toInt ∧ y.toInt < n) = false ∨ ∃ a b, a < n ∧ b < n ∧ x = nI a ∧ y = nI b ∧ decide (0 ≤ x.toInt ∧ x.toInt < n ∧ 0 ≤ y.toInt ∧ y.toInt < n) = true := by
  by_cases h : 0 ≤ x.toInt ∧ x.toInt < n ∧ 0 ≤ y.toInt ∧ y.toInt < n
  · obtain ⟨a, ha, e1⟩ := i_natLt (N := n) h.1 h.2.1
    obtain ⟨b, hb, e2⟩ := i_natLt (N := n) h.2.2.1 h.2.2.2
    exact Or.inr ⟨a, b, ha, hb, e1, e2, decide_eq_true h⟩
  · exact Or.inl (decide_eq_false h)
theorem place_cases (v : Wd) (x y : Int32) : isPI v x.toInt y.toInt = false ∨ ∃ a b, a < v.1 ∧ b < v.2.1 ∧ x = nI a ∧ y = nI b ∧ isPI v x.toInt y.toInt = true ∧ isP v a b = true := by
  cases h : isPI v x.toInt y.toInt with
  | false => exact Or.inl rfl
  | true =>
    unfold isPI at h
    simp only [Bool.and_eq_true, decide_eq_true_eq] at h
    obtain ⟨h1, h2, h3, h4, h5⟩ := h
    obtain ⟨a, ha, e1⟩ := i_nat h1
    obtain ⟨b, hb, e2⟩ := i_nat h3
    have e3 : x.toInt = (a : Int) := by rw [e1, nI_T ha]
    have e4 : y.toInt = (b : Int) := by rw [e2, nI_T hb]
    refine Or.inr ⟨a, b, by omega, by omega, e1, e2, rfl, ?_⟩
    rw [← isPI_nat, ← e3, ← e4]
    unfold isPI
    simp only [Bool.and_eq_true, decide_eq_true_eq]
    exact ⟨h1, h2, h3, h4, h5⟩
theorem cellI {a b : Nat} : (16 : Int32) * nI b + nI a = nI (16 * b + a) := by
  rw [show (16 : Int32) = nI 16 from rfl, pk_mul, nI_add]
theorem x_isCell_gen {st : Mm} {n : Nat} (hn : st.1 1 0 = nI n) (hn2 : n ≤ 16) (x y : Int32) : f_x_isCell x y st = some (bI (decide (0 ≤ x.toInt ∧ x.toInt < n ∧ 0 ≤ y.toInt ∧ y.toInt < n)), st) := by
  unfold f_x_isCell
  rw [hn]
  simp only [i_lt, i_le, i_z, nI_T (show n < 2147483648 by omega)]
  repeat' split
  all_goals first | (rw [decide_eq_false (by omega)]; rfl) | (rw [decide_eq_true (by omega)]; rfl)
