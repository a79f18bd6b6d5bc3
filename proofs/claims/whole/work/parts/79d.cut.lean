/-! which cells hold their piece together -/
theorem nbp_sym {n : Nat} {p : Nat → Bool} (hp : pIn n p) {x w : Nat} (hx : p x = true) (h : nbp n p x w) : nbp n p w x := by
  obtain ⟨i, i1, i2, i3⟩ := h
  obtain ⟨k, k1, k2⟩ := nbr_sym hp.1 (hp.2 x hx) i1 i2
  exact ⟨k, k1, k2, hx⟩
/-- what a whole walk from a root leaves, in short -/
def Wk (n : Nat) (p : Nat → Bool) (r : Nat) (M : Nat → Nat) (Pa : Nat → Option Nat) (E : Nat → Nat) (T t : Nat) : Prop :=
  (∀ x, T ≤ M x → p x = true) ∧ (∀ x y, T ≤ M x → M x = M y → x = y) ∧ (∀ x w, T ≤ M x → nbp n p x w → T ≤ M w) ∧ (∀ x, T ≤ M x → M x ≤ E x) ∧ (∀ x y, T ≤ M x → M x ≤ M y → M y ≤ E x → E y ≤ E x) ∧ (∀ x w, T ≤ M x → nbp n p x w → M x < M w → M w ≤ E x) ∧ (∀ x, T < M x → ∃ y, Pa x = some y ∧ T ≤ M y ∧ M y < M x ∧ M x ≤ E y ∧ nbp n p y x ∧ (∀ u, M y < M u → M u < M x → E u < M x)) ∧ M r = T ∧ (∀ x, M x ≤ E r)
theorem wk_up {n : Nat} {p : Nat → Bool} {r : Nat} {M E : Nat → Nat} {Pa : Nat → Option Nat} {T t : Nat} (h : Wk n p r M Pa E T t) {d : Nat} (hd : T ≤ M d) : ∀ m x, M x = m → M d ≤ M x → M x ≤ E d → ∀ q : Nat → Bool, (∀ y, M d ≤ M y → M y ≤ M x → q y = true) → Co n q d x := by
  obtain ⟨h1, h2, h3, h4, h5, h6, h7, h8, h9⟩ := h
  intro m
  induction m using Nat.strongRecOn with
  | ind m ih =>
    intro x hx hdx hxE q hq
    rcases Nat.eq_or_lt_of_le hdx with e | e
    · rw [h2 d x hd e]; exact Rc.rf
    · obtain ⟨y, y1, y2, y3, y4, ⟨i, i1, i2, i3⟩, y6⟩ := h7 x (by omega)
      have hdy : M d ≤ M y := by
        rcases Nat.lt_or_ge (M y) (M d) with hh | hh
        · have := y6 d hh e; omega
        · exact hh
      exact Rc.st (ih (M y) (by omega) y rfl hdy (by omega) q (fun z z1 z2 => hq z z1 (by omega))) i1 i2 (hq x hdx (Nat.le_refl _))
theorem wk_child {n : Nat} {p : Nat → Bool} {r : Nat} {M E : Nat → Nat} {Pa : Nat → Option Nat} {T t : Nat} (h : Wk n p r M Pa E T t) {u : Nat} (hu : T ≤ M u) : ∀ m a, M a = m → M u < M a → M a ≤ E u → ∃ d, Pa d = some u ∧ M u < M d ∧ M d ≤ M a ∧ M a ≤ E d := by
  obtain ⟨h1, h2, h3, h4, h5, h6, h7, h8, h9⟩ := h
  intro m
  induction m using Nat.strongRecOn with
  | ind m ih =>
    intro a ha hua haE
    obtain ⟨y, y1, y2, y3, y4, y5, y6⟩ := h7 a (by omega)
    have huy : M u ≤ M y := by
      rcases Nat.lt_or_ge (M y) (M u) with hh | hh
      · have := y6 u hh hua; omega
      · exact hh
    rcases Nat.eq_or_lt_of_le huy with e | e
    · have := h2 u y hu e
      exact ⟨a, by rw [y1, this], hua, Nat.le_refl _, h4 a (by omega)⟩
    · obtain ⟨d, d1, d2, d3, d4⟩ := ih (M y) (by omega) y rfl e (by omega)
      exact ⟨d, d1, d2, by omega, by have := h5 d y (by omega) d3 d4; omega⟩
theorem wk_closed {n : Nat} {p : Nat → Bool} {r : Nat} {M E : Nat → Nat} {Pa : Nat → Option Nat} {T t : Nat} (hp : pIn n p) (h : Wk n p r M Pa E T t) {u d : Nat} (hu : T ≤ M u) (hd : M u < M d) (hPd : Pa d = some u) (hsee : ∀ x w, M d ≤ M x → M x ≤ E d → nbp n p x w → M u ≤ M w) {y : Nat} (hy : Co n (pW p u) d y) : M d ≤ M y ∧ M y ≤ E d := by
  obtain ⟨h1, h2, h3, h4, h5, h6, h7, h8, h9⟩ := h
  refine hy (fun z => M d ≤ M z ∧ M z ≤ E d) ⟨Nat.le_refl _, h4 d (by omega)⟩ ?_
  rintro x i w ⟨x1, x2⟩ hi hnb hw
  obtain ⟨w1, w2⟩ := pW_iff.mp hw
  have hxp := h1 x (by omega)
  have hnw : nbp n p x w := ⟨i, hi, hnb, w1⟩
  have hwT := h3 x w (by omega) hnw
  have hdu : ∃ y, Pa d = some y ∧ T ≤ M y ∧ M y < M d ∧ M d ≤ E y ∧ nbp n p y d ∧ (∀ u, M y < M u → M u < M d → E u < M d) := h7 d (by omega)
  obtain ⟨y, y1, _, _, _, _, y6⟩ := hdu
  rw [hPd] at y1
  cases y1
  rcases Nat.lt_trichotomy (M x) (M w) with e | e | e
  · have a := h6 x w (by omega) hnw e
    have b := h5 d x (by omega) x1 x2
    omega
  · rw [← h2 x w (by omega) e]; exact ⟨x1, x2⟩
  · have a := h6 w x hwT (nbp_sym hp hxp hnw) e
    rcases Nat.lt_or_ge (M w) (M d) with hh | hh
    · have b := hsee x w x1 x2 hnw
      rcases Nat.eq_or_lt_of_le b with e2 | e2
      · exact absurd (h2 u w hu e2).symm w2
      · have := y6 w e2 hh; omega
    · exact ⟨hh, by omega⟩
theorem wk_pw {n : Nat} {p : Nat → Bool} {r : Nat} {M E : Nat → Nat} {Pa : Nat → Option Nat} {T t : Nat} (h : Wk n p r M Pa E T t) {u lo hi : Nat} (hlo : T ≤ lo) (hn : M u < lo ∨ hi < M u) : ∀ y, lo ≤ M y → M y ≤ hi → pW p u y = true := fun y h1 h2 => pW_iff.mpr ⟨h.1 y (by omega), fun e => by rw [e] at h1 h2; omega⟩
theorem wk_thr {n : Nat} {p : Nat → Bool} {r : Nat} {M E : Nat → Nat} {Pa : Nat → Option Nat} {T t : Nat} (hp : pIn n p) (h : Wk n p r M Pa E T t) {u : Nat} (hu : T ≤ M u) (hur : u ≠ r) : (thr n p u 4 ↔ ∃ d, Pa d = some u ∧ M u < M d ∧ ∀ x w, M d ≤ M x → M x ≤ E d → nbp n p x w → M u ≤ M w) := by
  obtain ⟨h1, h2, h3, h4, h5, h6, h7, h8, h9⟩ := id h
  have huT : T < M u := by
    rcases Nat.eq_or_lt_of_le hu with e | e
    · exact absurd (h2 u r hu (by omega)) hur
    · exact e
  have hup := h1 u hu
  have huC := hp.2 u hup
  obtain ⟨y, y1, y2, y3, y4, y5, y6⟩ := h7 u huT
  have hy_ne : y ≠ u := fun e => by rw [e] at y3; omega
  have hpin2 := pW_in hp u
  constructor
  · rintro ⟨i, j, a, b, hi, hj, ⟨ha1, ha2⟩, ⟨hb1, hb2⟩, hnc⟩
    refine Classical.byContradiction (fun hno => hnc ?_)
    have side : ∀ i a, i < 4 → nbr n u i = some a → p a = true → Co n (pW p u) y a := by
      intro i a hi ha hpa
      have hnb : nbp n p u a := ⟨i, hi, ha, hpa⟩
      have haT := h3 u a hu hnb
      have hau : a ≠ u := nbr_ne huC ha
      rcases Nat.lt_trichotomy (M a) (M u) with e | e | e
      · have e1 := h6 a u haT (nbp_sym hp hup hnb) e
        have e2 : M a ≤ M y := by
          rcases Nat.lt_or_ge (M y) (M a) with hh | hh
          · have := y6 a hh e; omega
          · exact hh
        have e3 := wk_up h haT (M y) y rfl e2 (by omega) (pW p u) (wk_pw h haT (Or.inr y3))
        exact e3.sy hpin2 (pW_iff.mpr ⟨hpa, hau⟩)
      · exact absurd (h2 a u haT e) hau
      · have e1 := h6 u a hu hnb e
        obtain ⟨d, d1, d2, d3, d4⟩ := wk_child h hu (M a) a rfl e e1
        have hdT : T ≤ M d := by omega
        have cda := wk_up h hdT (M a) a rfl d3 d4 (pW p u) (wk_pw h hdT (Or.inl d2))
        have hex : ∃ x w, M d ≤ M x ∧ M x ≤ E d ∧ nbp n p x w ∧ M w < M u := by
          refine Classical.byContradiction (fun hne => hno ⟨d, d1, d2, fun x w x1 x2 x3 => ?_⟩)
          rcases Nat.lt_or_ge (M w) (M u) with hh | hh
          · exact absurd ⟨x, w, x1, x2, x3, hh⟩ hne
          · exact hh
        obtain ⟨x, w, x1, x2, x3, x4⟩ := hex
        have hxT : T ≤ M x := by omega
        have hwT := h3 x w hxT x3
        have hxp := h1 x hxT
        have e4 := h6 w x hwT (nbp_sym hp hxp x3) (by omega)
        have e5 : M w ≤ M y := by
          rcases Nat.lt_or_ge (M y) (M w) with hh | hh
          · have := y6 w hh x4; omega
          · exact hh
        have cwy := wk_up h hwT (M y) y rfl e5 (by omega) (pW p u) (wk_pw h hwT (Or.inr y3))
        have cdx := wk_up h hdT (M x) x rfl x1 x2 (pW p u) (wk_pw h hdT (Or.inl d2))
        obtain ⟨k, k1, k2, k3⟩ := x3
        have cdw : Co n (pW p u) d w := Rc.st cdx k1 k2 (pW_iff.mpr ⟨k3, fun e6 => by rw [e6] at x4; omega⟩)
        have cdy := Co.tr cdw cwy
        have hpd : pW p u d = true := pW_iff.mpr ⟨h1 d hdT, fun e6 => by rw [e6] at d2; omega⟩
        exact Co.tr (cdy.sy hpin2 hpd) cda
    exact Co.tr ((side i a hi ha1 ha2).sy hpin2 (pW_iff.mpr ⟨h1 y y2, hy_ne⟩)) (side j b hj hb1 hb2)
  · rintro ⟨d, d1, d2, d3⟩
    obtain ⟨z, z1, z2, z3, z4, ⟨i, i1, i2, i3⟩, z6⟩ := h7 d (by omega)
    rw [d1] at z1
    cases z1
    obtain ⟨k, k1, k2, k3⟩ := nbp_sym hp (h1 y y2) y5
    refine ⟨i, k, d, y, i1, k1, ⟨i2, i3⟩, ⟨k2, k3⟩, fun hco => ?_⟩
    have := wk_closed hp h hu d2 d1 d3 hco
    omega
theorem wk_root {n : Nat} {p : Nat → Bool} {r : Nat} {M E : Nat → Nat} {Pa : Nat → Option Nat} {T t : Nat} (hp : pIn n p) (h : Wk n p r M Pa E T t) : (thr n p r 4 ↔ ∃ d1 d2, Pa d1 = some r ∧ Pa d2 = some r ∧ T < M d1 ∧ M d1 < M d2) := by
  obtain ⟨h1, h2, h3, h4, h5, h6, h7, h8, h9⟩ := id h
  have hrT : T ≤ M r := by omega
  have hrp := h1 r hrT
  have hrC := hp.2 r hrp
  have hpin2 := pW_in hp r
  constructor
  · rintro ⟨i, j, a, b, hi, hj, ⟨ha1, ha2⟩, ⟨hb1, hb2⟩, hnc⟩
    have side : ∀ i a, i < 4 → nbr n r i = some a → p a = true → ∃ d, Pa d = some r ∧ M r < M d ∧ Co n (pW p r) d a := by
      intro i a hi ha hpa
      have haT := h3 r a hrT ⟨i, hi, ha, hpa⟩
      have har : a ≠ r := nbr_ne hrC ha
      have hlt : M r < M a := by
        rcases Nat.eq_or_lt_of_le (show M r ≤ M a by omega) with e | e
        · exact absurd (h2 r a hrT e).symm har
        · exact e
      obtain ⟨d, d1, d2, d3, d4⟩ := wk_child h hrT (M a) a rfl hlt (h9 a)
      exact ⟨d, d1, d2, wk_up h (by omega) (M a) a rfl d3 d4 (pW p r) (wk_pw h (by omega) (Or.inl d2))⟩
    obtain ⟨da, a1, a2, a3⟩ := side i a hi ha1 ha2
    obtain ⟨db, b1, b2, b3⟩ := side j b hj hb1 hb2
    rcases Nat.lt_trichotomy (M da) (M db) with e | e | e
    · exact ⟨da, db, a1, b1, by omega, e⟩
    · exfalso
      have := h2 da db (by omega) e
      rw [← this] at b3
      refine hnc (Co.tr (a3.sy hpin2 (pW_iff.mpr ⟨h1 da (by omega), fun e2 => by rw [e2] at a2; omega⟩)) b3)
    · exact ⟨db, da, b1, a1, by omega, e⟩
  · rintro ⟨d1, d2, p1, p2, m1, m2⟩
    obtain ⟨z, z1, z2, z3, z4, ⟨i, i1, i2, i3⟩, z6⟩ := h7 d1 m1
    rw [p1] at z1; cases z1
    obtain ⟨z, z1, y2, y3, y4, ⟨k, k1, k2, k3⟩, y6⟩ := h7 d2 (by omega)
    rw [p2] at z1; cases z1
    refine ⟨i, k, d1, d2, i1, k1, ⟨i2, i3⟩, ⟨k2, k3⟩, fun hco => ?_⟩
    have hcl := wk_closed hp h hrT (by omega) p1 (fun x w x1 x2 x3 => by have := h3 x w (by omega) x3; omega) hco
    have := y6 d1 (by omega) m2
    omega
/-- the cells of the walk are the root's piece -/
theorem wk_comp {n : Nat} {p : Nat → Bool} {r : Nat} {M E : Nat → Nat} {Pa : Nat → Option Nat} {T t : Nat} (h : Wk n p r M Pa E T t) (x : Nat) : (T ≤ M x ↔ Co n p r x) := by
  obtain ⟨h1, h2, h3, h4, h5, h6, h7, h8, h9⟩ := id h
  constructor
  · intro hx
    exact wk_up h (show T ≤ M r by omega) (M x) x rfl (by omega) (h9 x) p (fun y y1 y2 => h1 y (by omega))
  · intro hco
    exact hco (fun z => T ≤ M z) (by show T ≤ M r; omega) (fun a j d ha hj hd hpd => h3 a d ha ⟨j, hj, hd, hpd⟩)
theorem CLi.wk {n : Nat} {p : Nat → Bool} {r : Nat} {D0 D : Dz} {E : Nat → Nat} (hpin : pIn n p) (hPV : PV p r D0) (hold : ∀ x w, zM D0 x ≠ 0 → x ≠ r → nbp n p x w → zM D0 w ≠ 0 ∧ w ≠ r) (hop : ∀ x, zM D0 x ≠ 0 → p x = true) (h : CLi n p r r D0 D E 4) : Wk n p r (zM D) (zP D) E (zt D0) (zt D) := by
  obtain ⟨v1, v2, v3, v4, v5, v6, v7, v8⟩ := hPV
  obtain ⟨h1, h2, h3, h4, h5, h6, h7, h8, h9, h10, h11, h12, h13, h14, h15, h16, h17⟩ := h
  rw [v1] at h6 h7 h8 h10 h11 h12
  have hrM : zM D r = zt D0 := by rw [(h1 r (by omega)).1, v1]
  have hpx : ∀ x, zt D0 ≤ zM D x → p x = true := fun x hx => by
    by_cases e : zM D0 x = 0
    · exact (h2 x e (by omega)).1
    · exact hop x e
  have hnew : ∀ x, zt D0 ≤ zM D x → zM D0 x = 0 ∨ x = r := fun x hx => by
    by_cases e : zM D0 x = 0
    · exact Or.inl e
    · by_cases e2 : x = r
      · exact Or.inr e2
      · exfalso
        have a := (h1 x e).1
        have b := v6 x e2
        omega
  have hcl : ∀ x w, zt D0 ≤ zM D x → nbp n p x w → zt D0 ≤ zM D w := fun x w hx hnb => by
    obtain ⟨i, i1, i2, i3⟩ := id hnb
    have hw := h7 x i w hx (fun _ => i1) i1 i2 i3
    by_cases e : zM D0 w = 0
    · have := (h2 w e hw).2.1; omega
    · by_cases e2 : w = r
      · rw [e2]; omega
      · exfalso
        obtain ⟨a, b⟩ := hold w x e e2 (nbp_sym hpin (hpx x hx) hnb)
        rcases hnew x hx with e3 | e3
        · exact a e3
        · exact b e3
  refine ⟨hpx, h6, hcl, fun x hx => (h8 x hx).1, h10, h11, fun x hx => ?_, hrM, fun x => by rw [h9]; exact h4 x⟩
  obtain ⟨y, y1, y2, y3, y4, ⟨i, i1, i2⟩, y6⟩ := h12 x hx
  exact ⟨y, y1, y2, y3, y4, ⟨i, i1, i2, hpx x (by omega)⟩, y6⟩
