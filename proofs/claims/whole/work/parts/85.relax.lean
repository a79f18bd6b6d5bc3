/-! hang: cheapest ways over the cells -/
def rx (n : Nat) (w h : Nat → Nat) (v j : Nat) : Nat := match nbr n v j with
  | none => h v
  | some u => min (h v) (h u + w v)
def jac (n : Nat) (w h0 : Nat → Nat) : Nat → Nat → Nat
  | 0 => h0
  | k + 1 => fun v => min (min (rx n w (jac n w h0 k) v 0) (rx n w (jac n w h0 k) v 1)) (min (rx n w (jac n w h0 k) v 2) (rx n w (jac n w h0 k) v 3))
theorem rx_le (n : Nat) (w h : Nat → Nat) (v j : Nat) : rx n w h v j ≤ h v := by
  unfold rx
  split
  · exact Nat.le_refl _
  · exact Nat.min_le_left _ _
theorem rx_at (n : Nat) (w h : Nat → Nat) (v j : Nat) : rx n w h v j = h v ∨ ∃ u, nbr n v j = some u ∧ rx n w h v j = h u + w v := by
  unfold rx
  split
  · exact Or.inl rfl
  · rename_i u hu
    rcases Nat.le_total (h v) (h u + w v) with h1 | h1
    · exact Or.inl (Nat.min_eq_left h1)
    · exact Or.inr ⟨u, hu, Nat.min_eq_right h1⟩
theorem jac_s (n : Nat) (w h0 : Nat → Nat) (k v : Nat) : jac n w h0 (k + 1) v = min (min (rx n w (jac n w h0 k) v 0) (rx n w (jac n w h0 k) v 1)) (min (rx n w (jac n w h0 k) v 2) (rx n w (jac n w h0 k) v 3)) := rfl
theorem jac_le (n : Nat) (w h0 : Nat → Nat) (k v : Nat) : jac n w h0 (k + 1) v ≤ jac n w h0 k v := by
  rw [jac_s]
  have := rx_le n w (jac n w h0 k) v 0
  omega
theorem jac_nb {n : Nat} {w h0 : Nat → Nat} {k v j u : Nat} (hj : j < 4) (hu : nbr n v j = some u) : jac n w h0 (k + 1) v ≤ jac n w h0 k u + w v := by
  have h : rx n w (jac n w h0 k) v j ≤ jac n w h0 k u + w v := by
    unfold rx
    rw [hu]
    exact Nat.min_le_right _ _
  rw [jac_s]
  rcases (show j = 0 ∨ j = 1 ∨ j = 2 ∨ j = 3 by omega) with rfl | rfl | rfl | rfl <;> omega
theorem jac_at (n : Nat) (w h0 : Nat → Nat) (k v : Nat) : jac n w h0 (k + 1) v = jac n w h0 k v ∨ ∃ j u, j < 4 ∧ nbr n v j = some u ∧ jac n w h0 (k + 1) v = jac n w h0 k u + w v := by
  have key : ∃ j, j < 4 ∧ jac n w h0 (k + 1) v = rx n w (jac n w h0 k) v j := by
    rw [jac_s]
    have e : ∀ a b c d : Nat, (min (min a b) (min c d) = a ∨ min (min a b) (min c d) = b) ∨ (min (min a b) (min c d) = c ∨ min (min a b) (min c d) = d) := fun a b c d => by omega
    rcases e (rx n w (jac n w h0 k) v 0) (rx n w (jac n w h0 k) v 1) (rx n w (jac n w h0 k) v 2) (rx n w (jac n w h0 k) v 3) with (h | h) | (h | h)
    · exact ⟨0, by omega, h⟩
    · exact ⟨1, by omega, h⟩
    · exact ⟨2, by omega, h⟩
    · exact ⟨3, by omega, h⟩
  obtain ⟨j, j1, j2⟩ := key
  rcases rx_at n w (jac n w h0 k) v j with h | ⟨u, u1, u2⟩
  · exact Or.inl (by rw [j2, h])
  · exact Or.inr ⟨j, u, j1, u1, by rw [j2, u2]⟩
theorem jac_mono (n : Nat) (w h0 : Nat → Nat) (v : Nat) : ∀ b a, jac n w h0 (a + b) v ≤ jac n w h0 a v
  | 0, a => Nat.le_refl _
  | b + 1, a => Nat.le_trans (jac_le n w h0 (a + b) v) (jac_mono n w h0 v b a)
/-- a cell that still changes has a chain of cells that changed before -/
theorem jac_chain {n : Nat} {w h0 : Nat → Nat} (hn : n ≤ 16) : ∀ K v, isC n v → jac n w h0 (K + 1) v < jac n w h0 K v → ∃ f : Nat → Nat, f (K + 1) = v ∧ (∀ i, i ≤ K + 1 → isC n (f i)) ∧ ∀ i, i ≤ K → jac n w h0 (i + 1) (f (i + 1)) < jac n w h0 i (f (i + 1)) ∧ jac n w h0 (i + 1) (f (i + 1)) = jac n w h0 i (f i) + w (f (i + 1)) := by
  intro K
  induction K with
  | zero =>
    intro v hv hlt
    rcases jac_at n w h0 0 v with h | ⟨j, u, j1, j2, j3⟩
    · omega
    · have huC := nbr_C hn hv j2
      refine ⟨fun i => if i = 0 then u else v, rfl, fun i hi => ?_, fun i hi => ?_⟩
      · show isC n (if i = 0 then u else v)
        split
        · exact huC
        · exact hv
      · have e : i = 0 := by omega
        subst e
        exact ⟨hlt, j3⟩
  | succ K ih =>
    intro v hv hlt
    rcases jac_at n w h0 (K + 1) v with h | ⟨j, u, j1, j2, j3⟩
    · omega
    · have huC := nbr_C hn hv j2
      have hult : jac n w h0 (K + 1) u < jac n w h0 K u := by
        rcases Nat.lt_or_ge (jac n w h0 (K + 1) u) (jac n w h0 K u) with h | h
        · exact h
        · have a := jac_le n w h0 K u
          have b := jac_nb (w := w) (h0 := h0) (k := K) j1 j2
          omega
      obtain ⟨f, f1, f2, f3⟩ := ih u huC hult
      refine ⟨fun i => if i = K + 2 then v else f i, if_pos rfl, fun i hi => ?_, fun i hi => ?_⟩
      · show isC n (if i = K + 2 then v else f i)
        by_cases e : i = K + 2
        · rw [if_pos e]; exact hv
        · rw [if_neg e]; exact f2 i (by omega)
      · show jac n w h0 (i + 1) (if i + 1 = K + 2 then v else f (i + 1)) < jac n w h0 i (if i + 1 = K + 2 then v else f (i + 1)) ∧ jac n w h0 (i + 1) (if i + 1 = K + 2 then v else f (i + 1)) = jac n w h0 i (if i = K + 2 then v else f i) + w (if i + 1 = K + 2 then v else f (i + 1))
        rw [if_neg (show ¬ i = K + 2 by omega)]
        by_cases e : i + 1 = K + 2
        · rw [if_pos e]
          have e2 : i = K + 1 := by omega
          subst e2
          exact ⟨hlt, by rw [j3, f1]⟩
        · rw [if_neg e]
          exact f3 i (by omega)
theorem jac_stop {n : Nat} {w h0 : Nat → Nat} (hn : n ≤ 16) {v : Nat} (hv : isC n v) : jac n w h0 256 v = jac n w h0 255 v := by
  rcases Nat.lt_or_ge (jac n w h0 256 v) (jac n w h0 255 v) with h | h
  · exfalso
    obtain ⟨f, f1, f2, f3⟩ := jac_chain hn 255 v hv h
    obtain ⟨i, j, hij, hj, e⟩ := fb_twice (m := 256) (n := 257) (f := f) (fun i hi => (f2 i (by omega)).1) (by omega)
    have up : ∀ b, i + b ≤ 256 → jac n w h0 i (f i) ≤ jac n w h0 (i + b) (f (i + b)) := by
      intro b
      induction b with
      | zero => intro _; exact Nat.le_refl _
      | succ b ihb =>
        intro hb
        have a := ihb (by omega)
        have c := (f3 (i + b) (by omega)).2
        rw [show i + (b + 1) = i + b + 1 by omega, c]
        omega
    have a := up (j - i) (by omega)
    rw [show i + (j - i) = j by omega] at a
    have b := (f3 (j - 1) (by omega)).1
    rw [show j - 1 + 1 = j by omega] at b
    have c := jac_mono n w h0 (f j) (j - 1 - i) i
    rw [show i + (j - 1 - i) = j - 1 by omega, ← e] at c
    rw [← e] at a b
    exact absurd (Nat.lt_of_lt_of_le b (Nat.le_trans c a)) (Nat.lt_irrefl _)
  · exact Nat.le_antisymm (jac_le n w h0 255 v) h
theorem jac_fix {n : Nat} {w h0 : Nat → Nat} (hn : n ≤ 16) {v j u : Nat} (hv : isC n v) (hj : j < 4) (hu : nbr n v j = some u) : jac n w h0 255 v ≤ jac n w h0 255 u + w v := by
  rw [← jac_stop hn hv]; exact jac_nb hj hu
/-- one sweep over all cells, in whatever order -/
def Swp (n : Nat) (w h h' : Nat → Nat) : Prop := (∀ c, isC n c → h' c ≤ h c) ∧ (∀ v j u, isC n v → j < 4 → nbr n v j = some u → h' v ≤ h u + w v) ∧ (∀ G : Nat → Nat, (∀ c, isC n c → G c ≤ h c) → (∀ v j u, isC n v → j < 4 → nbr n v j = some u → G v ≤ G u + w v) → ∀ c, isC n c → G c ≤ h' c)
def Swk (n : Nat) (w h0 h : Nat → Nat) (k : Nat) : Prop := (∀ c, isC n c → h c ≤ jac n w h0 k c) ∧ (∀ G : Nat → Nat, (∀ c, isC n c → G c ≤ h0 c) → (∀ v j u, isC n v → j < 4 → nbr n v j = some u → G v ≤ G u + w v) → ∀ c, isC n c → G c ≤ h c)
theorem swk_0 (n : Nat) (w h0 : Nat → Nat) : Swk n w h0 h0 0 := ⟨fun c _ => Nat.le_refl _, fun G h1 _ => h1⟩
theorem swk_s {n : Nat} {w h0 h h' : Nat → Nat} {k : Nat} (hn : n ≤ 16) (h1 : Swk n w h0 h k) (h2 : Swp n w h h') : Swk n w h0 h' (k + 1) := by
  refine ⟨fun c hc => ?_, fun G g1 g2 => h2.2.2 G (h1.2 G g1 g2) g2⟩
  rcases jac_at n w h0 k c with e | ⟨j, u, j1, j2, j3⟩
  · rw [e]; exact Nat.le_trans (h2.1 c hc) (h1.1 c hc)
  · rw [j3]
    have a := h2.2.1 c j u hc j1 j2
    have b := h1.1 u (nbr_C hn hc j2)
    omega
theorem swk_ge {n : Nat} {w h0 h : Nat → Nat} {k : Nat} (hn : n ≤ 16) (h1 : Swk n w h0 h k) {c : Nat} (hc : isC n c) : jac n w h0 255 c ≤ h c := h1.2 (jac n w h0 255) (fun c _ => by have := jac_mono n w h0 c 255 0; rw [Nat.zero_add] at this; exact this) (fun v j u hv hj hu => jac_fix hn hv hj hu) c hc
theorem swk_end {n : Nat} {w h0 h : Nat → Nat} {k : Nat} (hn : n ≤ 16) (h1 : Swk n w h0 h k) (hk : 255 ≤ k) {c : Nat} (hc : isC n c) : h c = jac n w h0 255 c := by
  have a := swk_ge hn h1 hc
  have b := h1.1 c hc
  have d := jac_mono n w h0 c (k - 255) 255
  rw [show 255 + (k - 255) = k by omega] at d
  omega
theorem swk_same {n : Nat} {w h0 h : Nat → Nat} {k : Nat} (hn : n ≤ 16) (h1 : Swk n w h0 h k) (h2 : Swp n w h h) {c : Nat} (hc : isC n c) : h c = jac n w h0 255 c := by
  have a := swk_ge hn h1 hc
  have key : ∀ m, Swk n w h0 h (k + m) := by
    intro m
    induction m with
    | zero => exact h1
    | succ m ih => exact swk_s hn ih h2
  exact swk_end hn (key 255) (by omega) hc
/-- the values that are told are small -/
theorem jac_fin {n : Nat} {w h0 : Nat → Nat} {I K : Nat} (hn : n ≤ 16) (hw : ∀ v, w v ≤ 1 ∨ I ≤ w v) (h0K : ∀ c, isC n c → h0 c < I → h0 c ≤ K) : ∀ k c, isC n c → jac n w h0 k c < I → jac n w h0 k c ≤ K + fb_ct (fun x => decide (jac n w h0 k x < I)) 256 := by
  intro k
  induction k with
  | zero =>
    intro c hc h
    have := h0K c hc h
    have e : jac n w h0 0 c = h0 c := rfl
    rw [e]; omega
  | succ k ih =>
    intro c hc h
    have sub : fb_ct (fun x => decide (jac n w h0 k x < I)) 256 ≤ fb_ct (fun x => decide (jac n w h0 (k + 1) x < I)) 256 := fb_ct_sub (fun x _ hx => by
      rw [decide_eq_true_eq] at hx ⊢
      have := jac_le n w h0 k x
      omega)
    rcases Nat.lt_or_ge (jac n w h0 k c) I with h2 | h2
    · have := ih c hc h2
      have := jac_le n w h0 k c
      omega
    · rcases jac_at n w h0 k c with e | ⟨j, u, j1, j2, j3⟩
      · omega
      · have huC := nbr_C hn hc j2
        have hwc : w c ≤ 1 := by
          rcases hw c with h3 | h3
          · exact h3
          · omega
        have hu := ih u huC (by omega)
        have one : fb_ct (fun x => decide (jac n w h0 k x < I)) 256 + 1 ≤ fb_ct (fun x => decide (jac n w h0 (k + 1) x < I)) 256 := by
          have e1 : fb_ct (fun x => if x = c then true else decide (jac n w h0 k x < I)) 256 = fb_ct (fun x => decide (jac n w h0 k x < I)) 256 + 1 := ct_add hc.1 (decide_eq_false (by omega)) (fun j _ => rfl)
          rw [← e1]
          refine fb_ct_sub (fun x _ hx => ?_)
          by_cases e : x = c
          · rw [e]; exact decide_eq_true h
          · rw [if_neg e, decide_eq_true_eq] at hx
            have := jac_le n w h0 k x
            exact decide_eq_true (by omega)
        omega
/-! trees -/
def wH (p d : Nat → Bool) (I v : Nat) : Nat := if p v then 0 else if d v then I else 1
def okH (p d : Nat → Bool) (v : Nat) : Prop := p v = true ∨ d v = false
theorem wH_ok {p d : Nat → Bool} {I v : Nat} (h : okH p d v) : wH p d I v = prc p v := by
  unfold wH prc
  cases hp : p v with
  | true => rfl
  | false =>
    rcases h with h | h
    · rw [hp] at h; cases h
    · rw [h]; rfl
theorem wH_fin {p d : Nat → Bool} {I v : Nat} (h : wH p d I v < I) (hI : 1 < I) : okH p d v := by
  unfold wH at h
  unfold okH
  cases hp : p v with
  | true => exact Or.inl rfl
  | false =>
    right
    cases hd : d v with
    | false => rfl
    | true => rw [hp, hd] at h; simp at h
section
variable {n : Nat} {p d : Nat → Bool} {tm : Nat → Nat} {m : Nat}
theorem hd_base {i : Nat} (hi : i < m) : HDer n p d tm m (2 ^ i) (tm i) 0 := fun R h1 _ _ => h1 i hi
theorem hd_join {A B v a b : Nat} (h1 : HDer n p d tm m A v a) (h2 : HDer n p d tm m B v b) (h : A &&& B = 0) : HDer n p d tm m (A ||| B) v (a + b - prc p v) := fun R r1 r2 r3 => r2 A B v a b (h1 R r1 r2 r3) (h2 R r1 r2 r3) h
theorem hd_step {A u v j a : Nat} (h1 : HDer n p d tm m A u a) (hj : j < 4) (hn : nbr n u j = some v) (ho : okH p d v) : HDer n p d tm m A v (a + prc p v) := fun R r1 r2 r3 => r3 A u v j a (h1 R r1 r2 r3) hj hn ho
theorem or_pos {A B : Nat} (h : 0 < A) : 0 < A ||| B := by
  have : A ≤ A ||| B := Nat.left_le_or
  omega
/-- what every tree keeps -/
theorem hd_inv (hn : n ≤ 16) (ht : ∀ i, i < m → isC n (tm i) ∧ p (tm i) = true) {S v a : Nat} (h : HDer n p d tm m S v a) : 0 < S ∧ S < 2 ^ m ∧ isC n v ∧ okH p d v ∧ prc p v ≤ a := by
  refine h (fun S v a => 0 < S ∧ S < 2 ^ m ∧ isC n v ∧ okH p d v ∧ prc p v ≤ a) (fun i hi => ?_) (fun A B v a b ⟨a1, a2, a3, a4, a5⟩ ⟨b1, b2, b3, b4, b5⟩ hd => ?_) (fun A u v j a ⟨a1, a2, a3, a4, a5⟩ hj hnb ho => ?_)
  · refine ⟨Nat.two_pow_pos i, Nat.pow_lt_pow_right (by decide) hi, (ht i hi).1, Or.inl (ht i hi).2, ?_⟩
    unfold prc; rw [(ht i hi).2]; exact Nat.le_refl _
  · exact ⟨or_pos a1, Nat.or_lt_two_pow a2 b2, a3, a4, by omega⟩
  · exact ⟨a1, a2, nbr_C hn a3 hnb, ho, by omega⟩
/-- the least tree of each set and cell, below I -/
def LsH (n : Nat) (p d : Nat → Bool) (tm : Nat → Nat) (m I S v x : Nat) : Prop := x ≤ I ∧ (x < I → HDer n p d tm m S v x) ∧ ∀ a, HDer n p d tm m S v a → x ≤ a
theorem ls_step {I S : Nat} {V : Nat → Nat → Nat} {h0 : Nat → Nat} (hI : 1 < I) (hn : n ≤ 16) (ht : ∀ i, i < m → isC n (tm i) ∧ p (tm i) = true) (hV : ∀ A, 0 < A → A &&& S = A → A ≠ S → ∀ c, isC n c → LsH n p d tm m I A c (V A c))
    (i1 : ∀ c, isC n c → h0 c ≤ I) (i2 : ∀ c, isC n c → h0 c < I → HDer n p d tm m S c (h0 c)) (i3 : ∀ i, i < m → S = 2 ^ i → h0 (tm i) = 0) (i4 : ∀ A B c, 0 < A → 0 < B → A &&& B = 0 → A ||| B = S → isC n c → okH p d c → V A c < I → V B c < I → h0 c ≤ V A c + V B c - prc p c) :
    ∀ c, isC n c → LsH n p d tm m I S c (jac n (wH p d I) h0 255 c) := by
  have le0 : ∀ c, jac n (wH p d I) h0 255 c ≤ h0 c := fun c => by have := jac_mono n (wH p d I) h0 c 255 0; rw [Nat.zero_add] at this; exact this
  have snd : ∀ k c, isC n c → jac n (wH p d I) h0 k c < I → HDer n p d tm m S c (jac n (wH p d I) h0 k c) := by
    intro k
    induction k with
    | zero => intro c hc h; exact i2 c hc h
    | succ k ih =>
      intro c hc h
      rcases jac_at n (wH p d I) h0 k c with e | ⟨j, u, j1, j2, j3⟩
      · rw [e] at h ⊢; exact ih c hc h
      · have hw : okH p d c := wH_fin (I := I) (by omega) hI
        obtain ⟨i, i5, i6⟩ := nbr_sym hn hc j1 j2
        rw [j3, wH_ok hw]
        exact hd_step (ih u (nbr_C hn hc j2) (by omega)) i5 i6 hw
  intro c hc
  refine ⟨Nat.le_trans (le0 c) (i1 c hc), snd 255 c hc, fun a ha => ?_⟩
  have key : HDer n p d tm m S c a ∧ (S = S → jac n (wH p d I) h0 255 c ≤ a) := by
    refine ha (fun A v b => HDer n p d tm m A v b ∧ (A = S → jac n (wH p d I) h0 255 v ≤ b)) (fun i hi => ⟨hd_base hi, fun e => ?_⟩) (fun A B v a b ⟨a1, a2⟩ ⟨b1, b2⟩ hd => ⟨hd_join a1 b1 hd, fun e => ?_⟩) (fun A u v j a ⟨a1, a2⟩ hj hnb ho => ⟨hd_step a1 hj hnb ho, fun e => ?_⟩)
    · have := le0 (tm i)
      rw [i3 i hi e.symm] at this; omega
    · obtain ⟨q1, q2, q3, q4, q5⟩ := hd_inv hn ht a1
      obtain ⟨r1, r2, r3, r4, r5⟩ := hd_inv hn ht b1
      have dis : ∀ X Y, 0 < Y → X &&& Y = 0 → X ||| Y = S → X &&& S = X ∧ X ≠ S := fun X Y hY hXY hS => by
        refine ⟨sub_of (fun i hi => by rw [← hS, Nat.testBit_or, hi]; rfl), fun e2 => ?_⟩
        obtain ⟨t, _, t1, _⟩ := lowB_ex Y Y hY Nat.lt_two_pow_self
        have h1 : (X ||| Y).testBit t = true := by rw [Nat.testBit_or, t1, Bool.or_true]
        rw [hS, ← e2] at h1
        have h2 : (X &&& Y).testBit t = true := by rw [Nat.testBit_and, h1, t1]; rfl
        rw [hXY] at h2; simp at h2
      obtain ⟨s1, s2⟩ := dis A B r1 hd e
      obtain ⟨s3, s4⟩ := dis B A q1 (by rw [Nat.and_comm]; exact hd) (by rw [Nat.or_comm]; exact e)
      have lA := (hV A q1 s1 s2 v q3).2.2 a a1
      have lB := (hV B r1 s3 s4 v q3).2.2 b b1
      have hi := Nat.le_trans (le0 v) (i1 v q3)
      rcases Nat.lt_or_ge (V A v) I with hA | hA
      · rcases Nat.lt_or_ge (V B v) I with hB | hB
        · have := i4 A B v q1 r1 hd e q3 q4 hA hB
          have := le0 v
          omega
        · omega
      · omega
    · obtain ⟨q1, q2, q3, q4, q5⟩ := hd_inv hn ht a1
      have hvC := nbr_C hn q3 hnb
      obtain ⟨i, i5, i6⟩ := nbr_sym hn q3 hj hnb
      have := jac_fix (w := wH p d I) (h0 := h0) hn hvC i5 i6
      rw [wH_ok ho] at this
      have := a2 e
      omega
  exact key.2 rfl
/-- a tree may be rooted at one of its pieces -/
theorem hd_turn (hn : n ≤ 16) (ht : ∀ i, i < m → isC n (tm i) ∧ p (tm i) = true) {q : Nat} (hq : q < m) {X v a : Nat} (h : HDer n p d tm m X v a) : X.testBit q = true → ∀ Y b, HDer n p d tm m Y v b → X &&& Y = 0 → HDer n p d tm m ((X ^^^ 2 ^ q) ||| Y) (tm q) (a + b - prc p v) := by
  have key : HDer n p d tm m X v a ∧ (X.testBit q = true → ∀ Y b, HDer n p d tm m Y v b → X &&& Y = 0 → HDer n p d tm m ((X ^^^ 2 ^ q) ||| Y) (tm q) (a + b - prc p v)) := by
    refine h (fun X v a => HDer n p d tm m X v a ∧ (X.testBit q = true → ∀ Y b, HDer n p d tm m Y v b → X &&& Y = 0 → HDer n p d tm m ((X ^^^ 2 ^ q) ||| Y) (tm q) (a + b - prc p v))) (fun i hi => ⟨hd_base hi, fun hb Y b hY hd => ?_⟩) (fun A B v a b ⟨a1, a2⟩ ⟨b1, b2⟩ hd => ⟨hd_join a1 b1 hd, fun hb Y c hY hd2 => ?_⟩) (fun A u v j a ⟨a1, a2⟩ hj hnb ho => ⟨hd_step a1 hj hnb ho, fun hb Y c hY hd2 => ?_⟩)
    · rw [Nat.testBit_two_pow] at hb
      have e : i = q := by simpa using hb
      subst e
      rw [Nat.xor_self, Nat.zero_or]
      have : prc p (tm i) = 0 := by unfold prc; rw [(ht i hi).2]; rfl
      rw [this, Nat.zero_add, Nat.sub_zero]; exact hY
    · obtain ⟨q1, q2, q3, q4, q5⟩ := hd_inv hn ht a1
      obtain ⟨r1, r2, r3, r4, r5⟩ := hd_inv hn ht b1
      obtain ⟨s1, s2, s3, s4, s5⟩ := hd_inv hn ht hY
      have bits : ∀ t, ¬ (A.testBit t = true ∧ B.testBit t = true) ∧ ¬ (A.testBit t = true ∧ Y.testBit t = true) ∧ ¬ (B.testBit t = true ∧ Y.testBit t = true) := fun t => by
        have e1 : (A &&& B).testBit t = false := by rw [hd]; simp
        have e2 : ((A ||| B) &&& Y).testBit t = false := by rw [hd2]; simp
        rw [Nat.testBit_and] at e1
        rw [Nat.testBit_and, Nat.testBit_or] at e2
        cases h1 : A.testBit t <;> cases h2 : B.testBit t <;> cases h3 : Y.testBit t <;> simp_all
      rw [Nat.testBit_or] at hb
      cases hA : A.testBit q with
      | true =>
        have hBq : B.testBit q = false := by
          cases h2 : B.testBit q with
          | false => rfl
          | true => exact absurd ⟨hA, h2⟩ (bits q).1
        have hBY : B &&& Y = 0 := Nat.eq_of_testBit_eq (fun t => by
          rw [Nat.testBit_and, Nat.zero_testBit]
          have := (bits t).2.2
          cases h1 : B.testBit t <;> cases h2 : Y.testBit t <;> simp_all)
        have hBY2 := hd_join b1 hY hBY
        have h1 := a2 hA (B ||| Y) (b + c - prc p v) hBY2 (Nat.eq_of_testBit_eq (fun t => by
          rw [Nat.testBit_and, Nat.testBit_or, Nat.zero_testBit]
          have := bits t
          cases h1 : A.testBit t <;> cases h2 : B.testBit t <;> cases h3 : Y.testBit t <;> simp_all))
        have e : A ^^^ 2 ^ q ||| (B ||| Y) = ((A ||| B) ^^^ 2 ^ q) ||| Y := Nat.eq_of_testBit_eq (fun t => by
          rw [Nat.testBit_or, Nat.testBit_or, Nat.testBit_or, fb_bit_flip, fb_bit_flip, Nat.testBit_or]
          by_cases e2 : t = q
          · subst e2; rw [hA, hBq]; simp
          · simp [e2, Bool.or_assoc])
        rw [e] at h1
        rw [show a + b - prc p v + c - prc p v = a + (b + c - prc p v) - prc p v by omega]
        exact h1
      | false =>
        have hBq : B.testBit q = true := by rw [hA] at hb; simpa using hb
        have hAY : A &&& Y = 0 := Nat.eq_of_testBit_eq (fun t => by
          rw [Nat.testBit_and, Nat.zero_testBit]
          have := (bits t).2.1
          cases h1 : A.testBit t <;> cases h2 : Y.testBit t <;> simp_all)
        have hAY2 := hd_join a1 hY hAY
        have h1 := b2 hBq (A ||| Y) (a + c - prc p v) hAY2 (Nat.eq_of_testBit_eq (fun t => by
          rw [Nat.testBit_and, Nat.testBit_or, Nat.zero_testBit]
          have := bits t
          cases h1 : A.testBit t <;> cases h2 : B.testBit t <;> cases h3 : Y.testBit t <;> simp_all))
        have e : B ^^^ 2 ^ q ||| (A ||| Y) = ((A ||| B) ^^^ 2 ^ q) ||| Y := Nat.eq_of_testBit_eq (fun t => by
          rw [Nat.testBit_or, Nat.testBit_or, Nat.testBit_or, fb_bit_flip, fb_bit_flip, Nat.testBit_or]
          by_cases e2 : t = q
          · subst e2; rw [hA, hBq]; simp
          · simp [e2]; cases A.testBit t <;> cases B.testBit t <;> cases Y.testBit t <;> rfl)
        rw [e] at h1
        rw [show a + b - prc p v + c - prc p v = b + (a + c - prc p v) - prc p v by omega]
        exact h1
    · obtain ⟨q1, q2, q3, q4, q5⟩ := hd_inv hn ht a1
      obtain ⟨s1, s2, s3, s4, s5⟩ := hd_inv hn ht hY
      obtain ⟨i, i5, i6⟩ := nbr_sym hn q3 hj hnb
      have h1 := a2 hb Y (c + prc p u) (hd_step hY i5 i6 q4) hd2
      rw [show a + prc p v + c - prc p v = a + (c + prc p u) - prc p u by omega]
      exact h1
  exact key.2
theorem hd_root (hn : n ≤ 16) (ht : ∀ i, i < m → isC n (tm i) ∧ p (tm i) = true) {q : Nat} (hq : q < m) {X v a : Nat} (h : HDer n p d tm m X v a) : X.testBit q = true → X ≠ 2 ^ q → ∃ b, b ≤ a ∧ HDer n p d tm m (X ^^^ 2 ^ q) (tm q) b := by
  have key : HDer n p d tm m X v a ∧ (X.testBit q = true → X ≠ 2 ^ q → ∃ b, b ≤ a ∧ HDer n p d tm m (X ^^^ 2 ^ q) (tm q) b) := by
    refine h (fun X v a => HDer n p d tm m X v a ∧ (X.testBit q = true → X ≠ 2 ^ q → ∃ b, b ≤ a ∧ HDer n p d tm m (X ^^^ 2 ^ q) (tm q) b)) (fun i hi => ⟨hd_base hi, fun hb hne => ?_⟩) (fun A B v a b ⟨a1, a2⟩ ⟨b1, b2⟩ hd => ⟨hd_join a1 b1 hd, fun hb hne => ?_⟩) (fun A u v j a ⟨a1, a2⟩ hj hnb ho => ⟨hd_step a1 hj hnb ho, fun hb hne => ?_⟩)
    · rw [Nat.testBit_two_pow] at hb
      have e : i = q := by simpa using hb
      exact absurd (by rw [e]) hne
    · rw [Nat.testBit_or] at hb
      have bits : ∀ t, ¬ (A.testBit t = true ∧ B.testBit t = true) := fun t => by
        have e1 : (A &&& B).testBit t = false := by rw [hd]; simp
        rw [Nat.testBit_and] at e1
        cases h1 : A.testBit t <;> cases h2 : B.testBit t <;> simp_all
      cases hA : A.testBit q with
      | true =>
        have hBq : B.testBit q = false := by
          cases h2 : B.testBit q with
          | false => rfl
          | true => exact absurd ⟨hA, h2⟩ (bits q)
        have h1 := hd_turn hn ht hq a1 hA B b b1 hd
        have e : A ^^^ 2 ^ q ||| B = (A ||| B) ^^^ 2 ^ q := Nat.eq_of_testBit_eq (fun t => by
          rw [Nat.testBit_or, fb_bit_flip, fb_bit_flip, Nat.testBit_or]
          by_cases e2 : t = q
          · subst e2; rw [hA, hBq]; simp
          · simp [e2])
        rw [e] at h1
        exact ⟨_, Nat.le_refl _, h1⟩
      | false =>
        have hBq : B.testBit q = true := by rw [hA] at hb; simpa using hb
        have h1 := hd_turn hn ht hq b1 hBq A a a1 (by rw [Nat.and_comm]; exact hd)
        have e : B ^^^ 2 ^ q ||| A = (A ||| B) ^^^ 2 ^ q := Nat.eq_of_testBit_eq (fun t => by
          rw [Nat.testBit_or, fb_bit_flip, fb_bit_flip, Nat.testBit_or]
          by_cases e2 : t = q
          · subst e2; rw [hA, hBq]; simp
          · simp [e2, Bool.or_comm])
        rw [e, Nat.add_comm b a] at h1
        exact ⟨_, Nat.le_refl _, h1⟩
    · obtain ⟨b, b1, b2⟩ := a2 hb hne
      exact ⟨b, by omega, b2⟩
  exact key.2
/-- the least tree over all pieces, told by the last one's cell -/
theorem hd_last (hn : n ≤ 16) (ht : ∀ i, i < m → isC n (tm i) ∧ p (tm i) = true) (hm : 2 ≤ m) (a : Nat) : ((∃ b, b ≤ a ∧ ∃ v, HDer n p d tm m (2 ^ m - 1) v b) ↔ ∃ b, b ≤ a ∧ HDer n p d tm m (2 ^ (m - 1) - 1) (tm (m - 1)) b) := by
  have hp : 2 ^ m = 2 * 2 ^ (m - 1) := by
    obtain ⟨k, rfl⟩ : ∃ k, m = k + 1 := ⟨m - 1, by omega⟩
    rw [Nat.pow_succ, show k + 1 - 1 = k by omega, Nat.mul_comm]
  have hpos := Nat.two_pow_pos (m - 1)
  have hbit : (2 ^ m - 1).testBit (m - 1) = true := by rw [Nat.testBit_two_pow_sub_one]; exact decide_eq_true (by omega)
  have hx : (2 ^ m - 1) ^^^ 2 ^ (m - 1) = 2 ^ (m - 1) - 1 := Nat.eq_of_testBit_eq (fun t => by
    rw [fb_bit_flip, Nat.testBit_two_pow_sub_one, Nat.testBit_two_pow_sub_one]
    rcases Nat.lt_trichotomy t (m - 1) with h | h | h
    · simp [h, show t < m by omega, show ¬ t = m - 1 by omega]
    · simp [h, show m - 1 < m by omega]
    · simp [show ¬ t < m by omega, show ¬ t < m - 1 by omega, show ¬ t = m - 1 by omega])
  have hgt : 2 ^ 1 ≤ 2 ^ (m - 1) := Nat.pow_le_pow_right (by decide) (by omega)
  constructor
  · rintro ⟨b, b1, v, hv⟩
    obtain ⟨c, c1, c2⟩ := hd_root hn ht (q := m - 1) (by omega) hv hbit (by omega)
    rw [hx] at c2
    exact ⟨c, by omega, c2⟩
  · rintro ⟨b, b1, hb⟩
    have h1 := hd_join hb (hd_base (n := n) (p := p) (d := d) (tm := tm) (m := m) (i := m - 1) (by omega)) (by
      refine Nat.eq_of_testBit_eq (fun t => ?_)
      rw [Nat.testBit_and, Nat.testBit_two_pow_sub_one, Nat.testBit_two_pow, Nat.zero_testBit]
      by_cases e : m - 1 = t
      · simp [← e]
      · simp [e])
    have e : 2 ^ (m - 1) - 1 ||| 2 ^ (m - 1) = 2 ^ m - 1 := Nat.eq_of_testBit_eq (fun t => by
      rw [Nat.testBit_or, Nat.testBit_two_pow_sub_one, Nat.testBit_two_pow_sub_one, Nat.testBit_two_pow]
      rcases Nat.lt_trichotomy t (m - 1) with h | h | h
      · simp [h, show t < m by omega]
      · simp [h, show m - 1 < m by omega]
      · simp [show ¬ t < m by omega, show ¬ t < m - 1 by omega, show ¬ m - 1 = t by omega])
    have hpr : prc p (tm (m - 1)) = 0 := by unfold prc; rw [(ht (m - 1) (by omega)).2]; rfl
    rw [e, hpr, Nat.add_zero, Nat.sub_zero] at h1
    exact ⟨b, b1, _, h1⟩
end
