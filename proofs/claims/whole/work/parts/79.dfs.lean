/-! the walk over the pieces: what a walk from a cell leaves -/
abbrev Dz : Type := (Nat → Nat) × (Nat → Nat) × (Nat → Nat) × (Nat → Option Nat) × (Nat → Option Nat) × (Nat → Bool) × Nat
def zM (D : Dz) : Nat → Nat := D.1
def zR (D : Dz) : Nat → Nat := D.2.1
def zT (D : Dz) : Nat → Nat := D.2.2.1
def zP (D : Dz) : Nat → Option Nat := D.2.2.2.1
def zL (D : Dz) : Nat → Option Nat := D.2.2.2.2.1
def zH (D : Dz) : Nat → Bool := D.2.2.2.2.2.1
def zt (D : Dz) : Nat := D.2.2.2.2.2.2
def whi (p : Nat → Bool) (D : Dz) : Nat := fb_ct (fun x => p x && decide (zM D x = 0)) 256
def nbp (n : Nat) (p : Nat → Bool) (x w : Nat) : Prop := ∃ i, i < 4 ∧ nbr n x i = some w ∧ p w = true
/-- a child d of u whose branch sees nothing earlier than u -/
def sepc (n : Nat) (p : Nat → Bool) (D : Dz) (E : Nat → Nat) (u d : Nat) : Prop := zP D d = some u ∧ zM D u < zM D d ∧ ∀ x w, zM D d ≤ zM D x → zM D x ≤ E d → nbp n p x w → zM D u ≤ zM D w
def rch (n : Nat) (p : Nat → Bool) (r c : Nat) (D0 D : Dz) (j : Nat) : Prop := c ≠ r → (0 < zR D c ∧ zR D c ≤ zM D0 c) ∧ (∀ x i w, zM D0 c ≤ zM D x → (x = c → i < j) → i < 4 → nbr n x i = some w → p w = true → zR D c ≤ zM D w) ∧ ∃ x w, zM D0 c ≤ zM D x ∧ (w = x ∨ nbp n p x w) ∧ zR D c = zM D w
def CLi (n : Nat) (p : Nat → Bool) (r c : Nat) (D0 D : Dz) (E : Nat → Nat) (j : Nat) : Prop :=
  (∀ x, zM D0 x ≠ 0 → zM D x = zM D0 x ∧ zP D x = zP D0 x ∧ zL D x = zL D0 x ∧ (x ≠ c → zR D x = zR D0 x ∧ zT D x = zT D0 x ∧ zH D x = zH D0 x))
  ∧ (∀ x, zM D0 x = 0 → zM D x ≠ 0 → p x = true ∧ zt D0 < zM D x ∧ zT D x = 5 ∧ zL D x = some r)
  ∧ (∀ x, zM D x = 0 → zH D x = false ∧ zL D x = zL D0 x)
  ∧ (∀ x, zM D x ≤ zt D) ∧ zt D0 ≤ zt D
  ∧ (∀ x y, zM D0 c ≤ zM D x → zM D x = zM D y → x = y)
  ∧ (∀ x i w, zM D0 c ≤ zM D x → (x = c → i < j) → i < 4 → nbr n x i = some w → p w = true → zM D w ≠ 0)
  ∧ (∀ x, zM D0 c ≤ zM D x → zM D x ≤ E x ∧ E x ≤ zt D) ∧ E c = zt D
  ∧ (∀ x y, zM D0 c ≤ zM D x → zM D x ≤ zM D y → zM D y ≤ E x → E y ≤ E x)
  ∧ (∀ x w, zM D0 c ≤ zM D x → nbp n p x w → zM D x < zM D w → zM D w ≤ E x)
  ∧ (∀ x, zM D0 c < zM D x → ∃ y, zP D x = some y ∧ zM D0 c ≤ zM D y ∧ zM D y < zM D x ∧ zM D x ≤ E y ∧ (∃ i, i < 4 ∧ nbr n y i = some x) ∧ (∀ u, zM D y < zM D u → zM D u < zM D x → E u < zM D x))
  ∧ rch n p r c D0 D j
  ∧ (∀ u, zM D0 c ≤ zM D u → u ≠ r → (zH D u = true ↔ ∃ d, sepc n p D E u d))
  ∧ zT D c = j
  ∧ zt D + whi p D = zt D0 + whi p D0
  ∧ (c = r → zH D c = zH D0 c)
def PV (p : Nat → Bool) (c : Nat) (D : Dz) : Prop := zM D c = zt D ∧ 0 < zt D ∧ p c = true ∧ zT D c = 0 ∧ zR D c = zt D ∧ (∀ x, x ≠ c → zM D x < zt D) ∧ zH D c = false ∧ (∀ x, zM D x = 0 → zH D x = false)
theorem cl_0 {n : Nat} {p : Nat → Bool} {r c : Nat} {D : Dz} (h : PV p c D) (hP : ∀ d, zP D d = some c → zM D d ≤ zM D c) : CLi n p r c D D (fun _ => zt D) 0 := by
  obtain ⟨h1, h2, h3, h4, h5, h6, h7, h8⟩ := h
  have one : ∀ x, zM D c ≤ zM D x → x = c := fun x hx => by
    by_cases e : x = c
    · exact e
    · have := h6 x e; omega
  have le : ∀ x, zM D x ≤ zt D := fun x => by
    by_cases e : x = c
    · rw [e]; omega
    · have := h6 x e; omega
  refine ⟨fun x hx => ⟨rfl, rfl, rfl, fun _ => ⟨rfl, rfl, rfl⟩⟩, fun x hx hx2 => absurd hx hx2, fun x hx => ⟨h8 x hx, rfl⟩, le, Nat.le_refl _, fun x y hx hxy => ?_, fun x i w hx hi => ?_, fun x hx => ⟨le x, Nat.le_refl _⟩, rfl, fun x y _ _ _ => Nat.le_refl _, fun x w _ _ _ => le w, fun x hx => ?_, fun _ => ⟨⟨by omega, by omega⟩, fun x i w hx hi => ?_, c, c, Nat.le_refl _, Or.inl rfl, by rw [h5, h1]⟩, fun u hu _ => ?_, h4, rfl, fun _ => rfl⟩
  · rw [one x hx, one y (by omega)]
  · have := hi (one x hx); omega
  · have := one x (by omega)
    rw [this] at hx; omega
  · have := hi (one x hx); omega
  · rw [one u hu, h7]
    constructor
    · intro h; cases h
    · rintro ⟨d, hd1, hd2, _⟩
      have := hP d hd1; omega
def zbump (D : Dz) (c : Nat) : Dz := (zM D, zR D, fun x => if x = c then zT D c + 1 else zT D x, zP D, zL D, zH D, zt D)
def zlow (D : Dz) (c v : Nat) : Dz := (zM D, fun x => if x = c then min (zR D c) v else zR D x, zT D, zP D, zL D, zH D, zt D)
def zmeet (D : Dz) (c : Nat) (b : Option Nat) (r : Nat) : Dz := (fun x => if x = c then zt D + 1 else zM D x, fun x => if x = c then zt D + 1 else zR D x, fun x => if x = c then 0 else zT D x, fun x => if x = c then b else zP D x, fun x => if x = c then some r else zL D x, zH D, zt D + 1)
def zmark (D : Dz) (c : Nat) : Dz := (zM D, zR D, zT D, zP D, zL D, fun x => if x = c then true else zH D x, zt D)
theorem cl_none {n : Nat} {p : Nat → Bool} {r c : Nat} {D0 D : Dz} {E : Nat → Nat} {j : Nat} (h : CLi n p r c D0 D E j) (hc : zM D0 c ≠ 0) (hn : ∀ w, nbr n c j = some w → p w = false) : CLi n p r c D0 (zbump D c) E (j + 1) := by
  obtain ⟨h1, h2, h3, h4, h5, h6, h7, h8, h9, h10, h11, h12, h13, h14, h15, h16, h17⟩ := h
  have hno : ∀ x i w, (x = c → i < j + 1) → nbr n x i = some w → p w = true → (x = c → i < j) := fun x i w h1 h2 h3 e => by
    rcases Nat.lt_or_ge i j with h | h
    · exact h
    · have := h1 e
      rw [e, show i = j by omega] at h2
      rw [hn w h2] at h3; cases h3
  refine ⟨fun x hx => ⟨(h1 x hx).1, (h1 x hx).2.1, (h1 x hx).2.2.1, fun e => ⟨((h1 x hx).2.2.2 e).1, ?_, ((h1 x hx).2.2.2 e).2.2⟩⟩, fun x hx hx2 => ⟨(h2 x hx hx2).1, (h2 x hx hx2).2.1, ?_, (h2 x hx hx2).2.2.2⟩, h3, h4, h5, h6, fun x i w a b c d e => h7 x i w a (hno x i w b d e) c d e, h8, h9, h10, h11, h12, fun e => ⟨(h13 e).1, fun x i w a b c d f => (h13 e).2.1 x i w a (hno x i w b d f) c d f, (h13 e).2.2⟩, h14, ?_, h16, h17⟩
  · show (if x = c then _ else zT D x) = _
    rw [if_neg e]; exact ((h1 x hx).2.2.2 e).2.1
  · show (if x = c then _ else zT D x) = _
    rw [if_neg (fun e : x = c => hc (by rw [← e]; exact hx))]; exact (h2 x hx hx2).2.2.1
  · show (if c = c then zT D c + 1 else _) = _
    rw [if_pos rfl, h15]
theorem cl_met {n : Nat} {p : Nat → Bool} {r c : Nat} {D0 D : Dz} {E : Nat → Nat} {j w0 : Nat} (h : CLi n p r c D0 D E j) (hc : zM D0 c ≠ 0) (hj : j < 4) (hn : nbr n c j = some w0) (hp : p w0 = true) (hm : zM D w0 ≠ 0) : CLi n p r c D0 (zlow (zbump D c) c (zM D w0)) E (j + 1) := by
  obtain ⟨h1, h2, h3, h4, h5, h6, h7, h8, h9, h10, h11, h12, h13, h14, h15, h16, h17⟩ := h
  have hcc : zM D c = zM D0 c := (h1 c hc).1
  have hrc : zR (zlow (zbump D c) c (zM D w0)) c = min (zR D c) (zM D w0) := by show (if c = c then _ else _) = _; rw [if_pos rfl]; rfl
  have hno : ∀ x i w, (x = c → i < j + 1) → nbr n x i = some w → (x = c → i < j) ∨ (x = c ∧ w = w0) := fun x i w h1 h2 => by
    by_cases e : x = c
    · rcases Nat.lt_or_ge i j with h | h
      · exact Or.inl (fun _ => h)
      · have := h1 e
        rw [e, show i = j by omega, hn] at h2
        cases h2; exact Or.inr ⟨e, rfl⟩
    · exact Or.inl (fun h => absurd h e)
  refine ⟨fun x hx => ⟨(h1 x hx).1, (h1 x hx).2.1, (h1 x hx).2.2.1, fun e => ⟨?_, ?_, ((h1 x hx).2.2.2 e).2.2⟩⟩, fun x hx hx2 => ⟨(h2 x hx hx2).1, (h2 x hx hx2).2.1, ?_, (h2 x hx hx2).2.2.2⟩, h3, h4, h5, h6, fun x i w a b c d e => ?_, h8, h9, h10, h11, h12, fun e => ⟨?_, fun x i w a b c d f => ?_, ?_⟩, h14, ?_, h16, h17⟩
  · show (if x = c then _ else zR D x) = _
    rw [if_neg e]; exact ((h1 x hx).2.2.2 e).1
  · show (if x = c then _ else zT D x) = _
    rw [if_neg e]; exact ((h1 x hx).2.2.2 e).2.1
  · show (if x = c then _ else zT D x) = _
    rw [if_neg (fun e : x = c => hc (by rw [← e]; exact hx))]; exact (h2 x hx hx2).2.2.1
  · rcases hno x i w b d with h | h
    · exact h7 x i w a h c d e
    · rw [h.2]; exact hm
  · rw [hrc]; have := (h13 e).1; show 0 < min (zR D c) (zM D w0) ∧ min (zR D c) (zM D w0) ≤ zM D0 c; omega
  · rw [hrc]
    rcases hno x i w b d with h | h
    · have := (h13 e).2.1 x i w a h c d f
      show min (zR D _) (zM D w0) ≤ zM D w
      omega
    · rw [h.2]; exact Nat.min_le_right _ _
  · rw [hrc]
    obtain ⟨x, w, g1, g2, g3⟩ := (h13 e).2.2
    rcases Nat.le_total (zR D c) (zM D w0) with h | h
    · exact ⟨x, w, g1, g2, by show min (zR D c) (zM D w0) = zM D w; omega⟩
    · refine ⟨c, w0, by show zM D0 c ≤ zM D c; omega, Or.inr ⟨j, hj, hn, hp⟩, by show min (zR D c) (zM D w0) = zM D w0; omega⟩
  · show (if c = c then zT D c + 1 else _) = _
    rw [if_pos rfl, h15]
theorem cl_child {n : Nat} {p : Nat → Bool} {r c o : Nat} {D0 D D3 D4 : Dz} {E E3 : Nat → Nat} {j : Nat} (h : CLi n p r c D0 D E j) (hc0 : zM D0 c = zt D0) (hc : zM D0 c ≠ 0) (hr : zM D0 r ≠ 0) (hj : j < 4) (hn : nbr n c j = some o) (hpo : p o = true) (ho : o < 256) (hm : zM D o = 0) (hv : CLi n p r o (zmeet (zbump D c) o (some c) r) D3 E3 4)
    (q1 : zM D4 = zM D3) (q2 : zP D4 = zP D3) (q3 : zL D4 = zL D3) (q4 : zt D4 = zt D3) (q5 : ∀ x, zT D4 x = if x = o then 5 else zT D3 x) (q6 : ∀ x, zR D4 x = if x = c ∧ c ≠ r then min (zR D3 c) (zR D3 o) else zR D3 x) (q7 : ∀ x, zH D4 x = if x = c ∧ c ≠ r ∧ zM D3 c ≤ zR D3 o then true else zH D3 x) :
    CLi n p r c D0 D4 (fun x => if x = c then zt D3 else if zt D < zM D3 x then E3 x else E x) (j + 1) := by
  obtain ⟨h1, h2, h3, h4, h5, h6, h7, h8, h9, h10, h11, h12, h13, h14, h15, h16, h17⟩ := h
  obtain ⟨g1, g2, g3, g4, g5, g6, g7, g8, g9, g10, g11, g12, g13, g14, g15, g16, g17⟩ := hv
  have hcc : zM D c = zM D0 c := (h1 c hc).1
  have hco : ¬ o = c := fun e => by rw [e, hcc] at hm; exact hc hm
  have hcr : zM D r ≠ 0 := by rw [(h1 r hr).1]; exact hr
  have hor : o ≠ r := fun e => hcr (e ▸ hm)
  have eM2 : ∀ x, x ≠ o → zM (zmeet (zbump D c) o (some c) r) x = zM D x := fun x hx => by show (if x = o then _ else _) = _; rw [if_neg hx]; rfl
  have eM2o : zM (zmeet (zbump D c) o (some c) r) o = zt D + 1 := by show (if o = o then _ else _) = _; rw [if_pos rfl]; rfl
  have eP2 : ∀ x, x ≠ o → zP (zmeet (zbump D c) o (some c) r) x = zP D x := fun x hx => by show (if x = o then _ else _) = _; rw [if_neg hx]; rfl
  have eP2o : zP (zmeet (zbump D c) o (some c) r) o = some c := by show (if o = o then _ else _) = _; rw [if_pos rfl]
  have eL2 : ∀ x, x ≠ o → zL (zmeet (zbump D c) o (some c) r) x = zL D x := fun x hx => by show (if x = o then _ else _) = _; rw [if_neg hx]; rfl
  have eL2o : zL (zmeet (zbump D c) o (some c) r) o = some r := by show (if o = o then _ else _) = _; rw [if_pos rfl]
  have eR2 : ∀ x, x ≠ o → zR (zmeet (zbump D c) o (some c) r) x = zR D x := fun x hx => by show (if x = o then _ else _) = _; rw [if_neg hx]; rfl
  have eT2 : ∀ x, x ≠ o → x ≠ c → zT (zmeet (zbump D c) o (some c) r) x = zT D x := fun x hx hx2 => by show (if x = o then 0 else if x = c then _ else zT D x) = _; rw [if_neg hx, if_neg hx2]
  have eT2c : zT (zmeet (zbump D c) o (some c) r) c = j + 1 := by show (if c = o then 0 else if c = c then zT D c + 1 else zT D c) = _; rw [if_neg (fun e => hco e.symm), if_pos rfl, h15]
  have et2 : zt (zmeet (zbump D c) o (some c) r) = zt D + 1 := rfl
  rw [et2] at g2 g5 g16
  rw [eM2o] at g6 g7 g8 g10 g11 g12 g14
  have hct1 : zM D c ≤ zt D := h4 c
  -- old cells stay
  have old : ∀ x, zM D x ≠ 0 → x ≠ o ∧ zM D3 x = zM D x ∧ zP D3 x = zP D x ∧ zL D3 x = zL D x ∧ zR D3 x = zR D x ∧ zT D3 x = (if x = c then j + 1 else zT D x) ∧ zH D3 x = zH D x := fun x hx => by
    have hxo : x ≠ o := fun e => hx (e ▸ hm)
    obtain ⟨a, b, d, e⟩ := g1 x (by rw [eM2 x hxo]; exact hx)
    obtain ⟨e1, e2, e3⟩ := e hxo
    refine ⟨hxo, by rw [a, eM2 x hxo], by rw [b, eP2 x hxo], by rw [d, eL2 x hxo], by rw [e1, eR2 x hxo], ?_, e3⟩
    by_cases hxc : x = c
    · rw [if_pos hxc, e2, hxc, eT2c]
    · rw [if_neg hxc, e2, eT2 x hxo hxc]
  have newv : ∀ x, zM D x = 0 → zM D3 x ≠ 0 → zt D + 1 ≤ zM D3 x := fun x hx hx3 => by
    by_cases e : x = o
    · have := (g1 o (by rw [eM2o]; omega)).1
      rw [e, this, eM2o]; omega
    · have := (g2 x (by rw [eM2 x e]; exact hx) hx3).2.1; omega
  have lo3 : ∀ x, zM D3 x ≠ 0 → zM D3 x ≤ zt D → zM D x = zM D3 x ∧ zM D x ≠ 0 := fun x hx hx2 => by
    by_cases e : zM D x = 0
    · have := newv x e hx; omega
    · have := (old x e).2.1; exact ⟨this.symm, e⟩
  have hi3 : ∀ x, zt D < zM D3 x → zM D x = 0 := fun x hx => by
    by_cases e : zM D x = 0
    · exact e
    · have := (old x e).2.1; have := h4 x; omega
  have Mo3 : zM D3 o = zt D + 1 := by
    have := (g1 o (by rw [eM2o]; omega)).1
    rw [this, eM2o]
  have t3 : zt D + 1 ≤ zt D3 := g5
  have Pa3o : zP D3 o = some c := by rw [(g1 o (by rw [eM2o]; omega)).2.1, eP2o]
  have c3 : zM D3 c = zM D0 c := by rw [(old c (by omega)).2.1, hcc]
  -- the new ends
  have Ec : (fun x => if x = c then zt D3 else if zt D < zM D3 x then E3 x else E x) c = zt D3 := by show (if c = c then _ else _) = _; rw [if_pos rfl]
  have Eh : ∀ x, zt D < zM D3 x → (fun x => if x = c then zt D3 else if zt D < zM D3 x then E3 x else E x) x = E3 x := fun x hx => by
    show (if x = c then zt D3 else if zt D < zM D3 x then E3 x else E x) = _
    rw [if_neg (fun e => by rw [e] at hx; omega), if_pos hx]
  have El : ∀ x, x ≠ c → zM D3 x ≤ zt D → (fun x => if x = c then zt D3 else if zt D < zM D3 x then E3 x else E x) x = E x := fun x hx hx2 => by
    show (if x = c then zt D3 else if zt D < zM D3 x then E3 x else E x) = _
    rw [if_neg hx, if_neg (by omega)]
  generalize hE4 : (fun x => if x = c then zt D3 else if zt D < zM D3 x then E3 x else E x) = E4 at Ec Eh El ⊢
  -- a neighbour of an old cell that is not c was met before
  have seen : ∀ x w, zM D0 c ≤ zM D x → x ≠ c → nbp n p x w → zM D w ≠ 0 ∧ zM D3 w = zM D w := fun x w hx hxc ⟨i, a, b, d⟩ => by
    have := h7 x i w hx (fun e => absurd e hxc) a b d
    exact ⟨this, (old w this).2.1⟩
  have sep_old : ∀ u d, zM D0 c ≤ zM D u → zM D u < zM D d → (sepc n p D4 E4 u d ↔ sepc n p D E u d) := fun u d hu hud => by
    have hu0 : zM D u ≠ 0 := by omega
    have hd0 : zM D d ≠ 0 := by omega
    have hdc : d ≠ c := fun e => by rw [e] at hud; omega
    have hd4 := h4 d
    have eMd : zM D3 d = zM D d := (old d hd0).2.1
    unfold sepc
    rw [q1, q2, (old d hd0).2.2.1, (old u hu0).2.1, eMd, El d hdc (by omega)]
    constructor
    · rintro ⟨a, b, f⟩
      refine ⟨a, b, fun x w x1 x2 x3 => ?_⟩
      have hx0 : zM D x ≠ 0 := by omega
      have := f x w (by rw [(old x hx0).2.1]; exact x1) (by rw [(old x hx0).2.1]; exact x2) x3
      rw [(seen x w (by omega) (fun e => by rw [e] at x1; omega) x3).2] at this
      exact this
    · rintro ⟨a, b, f⟩
      refine ⟨a, b, fun x w x1 x2 x3 => ?_⟩
      have hEd := (h8 d (by omega)).2
      obtain ⟨e1, e2⟩ := lo3 x (by omega) (by omega)
      rw [← e1] at x1 x2
      have := f x w x1 x2 x3
      rw [(seen x w (by omega) (fun e => by rw [e] at x1; omega) x3).2]
      exact this
  refine ⟨fun x hx => ?_, fun x hx hx2 => ?_, fun x hx => ?_, fun x => ?_, by rw [q4]; omega, fun x y hx hxy => ?_, fun x i w hx hi hi4 hnb hpw => ?_, fun x hx => ?_, by rw [Ec, q4], fun x y hx hxy hyE => ?_, fun x w hx hnb hlt => ?_, fun x hx => ?_, fun hcr2 => ?_, fun u hu hur => ?_, ?_, ?_, fun e17 => ?_⟩
  · -- 1
    obtain ⟨a, b, d, e⟩ := h1 x hx
    have hx0 : zM D x ≠ 0 := by rw [a]; exact hx
    obtain ⟨o1, o2, o3, o4, o5, o6, o7⟩ := old x hx0
    refine ⟨by rw [q1, o2, a], by rw [q2, o3, b], by rw [q3, o4, d], fun hxc => ?_⟩
    obtain ⟨e1, e2, e3⟩ := e hxc
    refine ⟨by rw [q6, if_neg (fun h => hxc h.1), o5, e1], by rw [q5, if_neg o1, o6, if_neg hxc, e2], by rw [q7, if_neg (fun h => hxc h.1), o7, e3]⟩
  · -- 2
    rw [q1] at hx2
    by_cases hx0 : zM D x = 0
    · have hn1 := newv x hx0 hx2
      by_cases e : x = o
      · refine ⟨by rw [e]; exact hpo, by rw [q1]; omega, by rw [q5, if_pos e], ?_⟩
        rw [q3, e, (g1 o (by rw [eM2o]; omega)).2.2.1, eL2o]
      · obtain ⟨a, b, d, f⟩ := g2 x (by rw [eM2 x e]; exact hx0) hx2
        exact ⟨a, by rw [q1]; omega, by rw [q5, if_neg e, d], by rw [q3, f]⟩
    · obtain ⟨a, b, d, f⟩ := h2 x hx hx0
      obtain ⟨o1, o2, o3, o4, o5, o6, o7⟩ := old x hx0
      refine ⟨a, by rw [q1, o2]; exact b, ?_, by rw [q3, o4, f]⟩
      rw [q5, if_neg o1, o6, if_neg (fun e : x = c => hc (by rw [← e]; exact hx)), d]
  · -- 3
    rw [q1] at hx
    have hx0 : zM D x = 0 := by
      by_cases e : zM D x = 0
      · exact e
      · rw [(old x e).2.1] at hx; exact absurd hx e
    obtain ⟨a, b⟩ := g3 x hx
    have hxo : x ≠ o := fun e => by rw [e, Mo3] at hx; omega
    refine ⟨?_, by rw [q3, b, eL2 x hxo, (h3 x hx0).2]⟩
    rw [q7, if_neg (fun h => by rw [h.1, c3] at hx; exact hc hx), a]
  · rw [q1, q4]; exact g4 x
  · -- 6
    rw [q1] at hx hxy
    rcases Nat.lt_or_ge (zt D) (zM D3 x) with hh | hh
    · exact g6 x y hh hxy
    · obtain ⟨a1, a2⟩ := lo3 x (by omega) hh
      obtain ⟨b1, b2⟩ := lo3 y (by omega) (by omega)
      exact h6 x y (by omega) (by omega)
  · -- 7
    rw [q1] at hx ⊢
    rcases Nat.lt_or_ge (zt D) (zM D3 x) with hh | hh
    · exact g7 x i w hh (fun _ => hi4) hi4 hnb hpw
    · obtain ⟨a1, a2⟩ := lo3 x (by omega) hh
      by_cases e : x = c ∧ i = j
      · rw [e.1, e.2, hn] at hnb
        cases hnb; rw [Mo3]; omega
      · have := h7 x i w (by omega) (fun e2 => by have := hi e2; rcases Nat.lt_or_ge i j with h | h; exact h; exact absurd ⟨e2, by omega⟩ e) hi4 hnb hpw
        rw [(old w this).2.1]; exact this
  · -- 8
    rw [q1] at hx ⊢
    rw [q4]
    by_cases e : x = c
    · rw [e, Ec]; exact ⟨g4 c, Nat.le_refl _⟩
    · rcases Nat.lt_or_ge (zt D) (zM D3 x) with hh | hh
      · rw [Eh x hh]; exact g8 x hh
      · rw [El x e hh]
        obtain ⟨a1, a2⟩ := lo3 x (by omega) hh
        have := h8 x (by omega)
        omega
  · -- 10
    rw [q1] at hx hxy hyE
    have hEall : ∀ z, zM D0 c ≤ zM D3 z → E4 z ≤ zt D3 := fun z hz => by
      by_cases e : z = c
      · rw [e, Ec]; exact Nat.le_refl _
      · rcases Nat.lt_or_ge (zt D) (zM D3 z) with hh | hh
        · rw [Eh z hh]; exact (g8 z hh).2
        · rw [El z e hh]
          obtain ⟨a1, a2⟩ := lo3 z (by omega) hh
          have := (h8 z (by omega)).2
          omega
    by_cases e : x = c
    · rw [e, Ec]; exact hEall y (by omega)
    · rcases Nat.lt_or_ge (zt D) (zM D3 x) with hh | hh
      · rw [Eh x hh] at hyE ⊢
        rw [Eh y (by omega)]
        exact g10 x y hh hxy hyE
      · rw [El x e hh] at hyE ⊢
        obtain ⟨a1, a2⟩ := lo3 x (by omega) hh
        have hEx := (h8 x (by omega)).2
        obtain ⟨b1, b2⟩ := lo3 y (by omega) (by omega)
        have hyc : y ≠ c := fun e2 => e (h6 x c (by omega) (by
          have e3 : zM D3 x ≤ zM D3 c := by rw [← e2]; exact hxy
          omega))
        rw [El y hyc (by omega)]
        exact h10 x y (by omega) (by omega) (by omega)
  · -- 11
    rw [q1] at hx hlt ⊢
    by_cases e : x = c
    · rw [e, Ec]; exact g4 w
    · rcases Nat.lt_or_ge (zt D) (zM D3 x) with hh | hh
      · rw [Eh x hh]; exact g11 x w hh hnb hlt
      · rw [El x e hh]
        obtain ⟨a1, a2⟩ := lo3 x (by omega) hh
        obtain ⟨b1, b2⟩ := seen x w (by omega) e hnb
        rw [b2] at hlt ⊢
        exact h11 x w (by omega) hnb (by omega)
  · -- 12
    rw [q1] at hx ⊢
    rw [q2]
    rcases Nat.lt_or_ge (zt D) (zM D3 x) with hh | hh
    · by_cases e : x = o
      · refine ⟨c, by rw [e, Pa3o], by omega, by omega, ?_, ⟨j, hj, by rw [e]; exact hn⟩, fun u hu1 hu2 => ?_⟩
        · rw [Ec, e]; exact g4 o
        · rw [e, Mo3] at hu2 ⊢
          obtain ⟨a1, a2⟩ := lo3 u (by omega) (by omega)
          rw [El u (fun e2 => by rw [e2] at hu1; omega) (by omega)]
          have := (h8 u (by omega)).2
          omega
      · obtain ⟨y, b1, b2, b3, b4, b5, b6⟩ := g12 x (by
          rcases Nat.lt_or_ge (zt D + 1) (zM D3 x) with h | h
          · exact h
          · exfalso
            exact e (g6 x o hh (by rw [Mo3]; omega)))
        refine ⟨y, b1, by omega, b3, by rw [Eh y b2]; exact b4, b5, fun u hu1 hu2 => ?_⟩
        rw [Eh u (by omega)]
        exact b6 u hu1 hu2
    · obtain ⟨a1, a2⟩ := lo3 x (by omega) hh
      obtain ⟨y, b1, b2, b3, b4, b5, b6⟩ := h12 x (by omega)
      have hy0 : zM D y ≠ 0 := by omega
      have ey := (old y hy0).2.1
      refine ⟨y, by rw [(old x a2).2.2.1]; exact b1, by omega, by omega, ?_, b5, fun u hu1 hu2 => ?_⟩
      · by_cases e : y = c
        · rw [e, Ec]; exact g4 x
        · rw [El y e (by omega)]; omega
      · obtain ⟨c1, c2⟩ := lo3 u (by omega) (by omega)
        rw [El u (fun e2 => by rw [e2] at hu1; omega) (by omega)]
        have := b6 u (by omega) (by omega)
        omega
  · -- 13
    obtain ⟨r1, r2, x0, w0, r3, r4, r5⟩ := h13 hcr2
    obtain ⟨s1, s2, x1, w1, s3, s4, s5⟩ := g13 hor
    rw [eM2o] at s1 s2 s3
    have eR : zR D4 c = min (zR D c) (zR D3 o) := by rw [q6, if_pos ⟨rfl, hcr2⟩, (old c (by omega)).2.2.2.2.1]
    rw [eR]
    refine ⟨⟨by omega, by omega⟩, fun x i w hx hi hi4 hnb hpw => ?_, ?_⟩
    · rw [q1] at hx ⊢
      rcases Nat.lt_or_ge (zt D) (zM D3 x) with hh | hh
      · have := s2 x i w hh (fun _ => hi4) hi4 hnb hpw; omega
      · obtain ⟨a1, a2⟩ := lo3 x (by omega) hh
        by_cases e : x = c ∧ i = j
        · rw [e.1, e.2, hn] at hnb
          cases hnb; rw [Mo3]; omega
        · have hi2 : x = c → i < j := fun e2 => by
            have := hi e2
            rcases Nat.lt_or_ge i j with h | h
            · exact h
            · exact absurd ⟨e2, by omega⟩ e
          have b1 := r2 x i w (by omega) hi2 hi4 hnb hpw
          have b2 := h7 x i w (by omega) hi2 hi4 hnb hpw
          rw [(old w b2).2.1]; omega
    · rcases Nat.le_total (zR D c) (zR D3 o) with hle | hle
      · refine ⟨x0, w0, by rw [q1, (old x0 (by omega)).2.1]; exact r3, r4, ?_⟩
        rw [Nat.min_eq_left hle, r5, q1]
        rcases r4 with e | ⟨i, i1, i2, i3⟩
        · rw [e]; exact ((old x0 (by omega)).2.1).symm
        · by_cases hw : zM D w0 = 0
          · exfalso; omega
          · exact ((old w0 hw).2.1).symm
      · refine ⟨x1, w1, by rw [q1]; omega, s4, ?_⟩
        rw [Nat.min_eq_right hle, q1]; exact s5
  · -- 14
    rw [q1] at hu
    rcases Nat.lt_or_ge (zt D) (zM D3 u) with hh | hh
    · have huc : u ≠ c := fun e => by rw [e] at hh; omega
      rw [q7, if_neg (fun h => huc h.1), g14 u hh hur]
      constructor
      · rintro ⟨d, d1, d2, d3⟩
        refine ⟨d, by rw [q2]; exact d1, by rw [q1]; exact d2, fun x w x1 x2 x3 => ?_⟩
        rw [q1] at x1 x2 ⊢
        rw [Eh d (by omega)] at x2
        exact d3 x w x1 x2 x3
      · rintro ⟨d, d1, d2, d3⟩
        rw [q2] at d1
        rw [q1] at d2 d3
        rw [Eh d (by omega)] at d3
        exact ⟨d, d1, d2, d3⟩
    · obtain ⟨a1, a2⟩ := lo3 u (by omega) hh
      have hold : (∃ d, sepc n p D4 E4 u d ∧ zM D d ≠ 0) ↔ ∃ d, sepc n p D E u d := by
        constructor
        · rintro ⟨d, d1, d2⟩
          have hud : zM D u < zM D d := by
            have := d1.2.1
            rw [q1, (old d d2).2.1] at this; omega
          exact ⟨d, (sep_old u d (by omega) hud).mp d1⟩
        · rintro ⟨d, d1⟩
          exact ⟨d, (sep_old u d (by omega) d1.2.1).mpr d1, by have := d1.2.1; omega⟩
      have hnewd : ∀ d, sepc n p D4 E4 u d → zM D d = 0 → d = o ∧ u = c := fun d d1 d2 => by
        have b1 := d1.1
        have b2 := d1.2.1
        rw [q2] at b1
        rw [q1] at b2
        have hd3 := newv d d2 (by omega)
        by_cases e : d = o
        · rw [e, Pa3o] at b1; cases b1; exact ⟨e, rfl⟩
        · exfalso
          obtain ⟨y, c1, c2, _⟩ := g12 d (by
            rcases Nat.lt_or_ge (zt D + 1) (zM D3 d) with h | h
            · exact h
            · exact absurd (g6 d o hd3 (by rw [Mo3]; omega)) e)
          rw [b1] at c1
          cases c1
          omega
      by_cases e : u = c
      · have hcr2 : c ≠ r := fun e2 => hur (e.trans e2)
        obtain ⟨s1, s2, x1, w1, s3, s4, s5⟩ := g13 hor
        rw [eM2o] at s1 s2 s3
        have hso : sepc n p D4 E4 c o ↔ zM D3 c ≤ zR D3 o := by
          unfold sepc
          rw [q1, q2, Pa3o, Mo3, Eh o (by omega), g9]
          constructor
          · rintro ⟨_, _, f⟩
            rw [s5]
            rcases s4 with e3 | e3
            · rw [e3]; omega
            · exact f x1 w1 s3 (g4 x1) e3
          · intro hle
            refine ⟨rfl, by omega, fun x w y1 y2 ⟨i, i1, i2, i3⟩ => ?_⟩
            have := s2 x i w y1 (fun _ => i1) i1 i2 i3
            omega
        rw [e] at hold ⊢
        rw [q7]
        have h14c := h14 c (by omega) hcr2
        by_cases hle : zM D3 c ≤ zR D3 o
        · rw [if_pos ⟨rfl, hcr2, hle⟩]
          exact ⟨fun _ => ⟨o, hso.mpr hle⟩, fun _ => rfl⟩
        · rw [if_neg (fun h => hle h.2.2), (old c (by omega)).2.2.2.2.2.2, h14c, ← hold]
          constructor
          · rintro ⟨d, d1, d2⟩; exact ⟨d, d1⟩
          · rintro ⟨d, d1⟩
            refine ⟨d, d1, fun d2 => ?_⟩
            rw [(hnewd d (by rw [e]; exact d1) d2).1] at d1
            exact hle (hso.mp d1)
      · rw [q7, if_neg (fun h => e h.1), (old u a2).2.2.2.2.2.2, h14 u (by omega) hur, ← hold]
        constructor
        · rintro ⟨d, d1, d2⟩; exact ⟨d, d1⟩
        · rintro ⟨d, d1⟩
          exact ⟨d, d1, fun d2 => e (hnewd d d1 d2).2⟩
  · rw [q5, if_neg (fun e => hco e.symm), (old c (by omega)).2.2.2.2.2.1, if_pos rfl]
  · -- 16
    have e1 : whi p D4 = whi p D3 := by unfold whi; rw [q1]
    have e2 : whi p (zmeet (zbump D c) o (some c) r) + 1 = whi p D := by
      unfold whi
      have := fb_ct_upd (fun x => p x && decide (zM D x = 0)) false (i := o) (n := 256) ho
      simp only [hpo, hm, decide_true, Bool.and_self, if_true, Bool.false_eq_true, if_false, Nat.add_zero] at this
      have hcg : fb_ct (fun x => p x && decide (zM (zmeet (zbump D c) o (some c) r) x = 0)) 256 = fb_ct (fun k => if k = o then false else (p k && decide (zM D k = 0))) 256 := fb_ct_cong (fun x _ => by
        by_cases e : x = o
        · rw [if_pos e, e, eM2o]; simp
        · rw [if_neg e, eM2 x e])
      rw [hcg]
      exact this
    rw [q4, e1]
    omega
  · rw [q7, if_neg (fun h => h.2.1 e17), (old c (by omega)).2.2.2.2.2.2]; exact h17 e17
