/-! recipe: a condition asked at a place -/
def rknI (a : Nat) (x y : Int32) : Int32 := if a = 2 then x + y else if a = 3 then x - y else if a = 4 then x * y else if a = 5 then x / y else x - x / y * y
def relB (a : Nat) (x y : Int32) : Bool := if a = 7 then !decide (y ≤ x) else if a = 8 then !decide (x ≤ y) else decide (x = y)
def lvI (fc : Nat → Int32) (x : Nat × Nat) : Int32 := if x.1 = 0 then nI x.2 else fc x.2
def evC (f : Nat → Nat × Nat) (fc : Nat → Int32) (L : Nat) : Nat → Nat → Nat → (Nat → Int32) → Bool → Bool
  | 0, _, _, _, _ => false
  | r + 1, k, n, g, tr => if L ≤ k then tr else if (f k).1 ≤ 1 then evC f fc L r (k + 1) (n + 1) (upd g n (lvI fc (f k))) tr else if (f k).1 ≤ 6 then (if 5 ≤ (f k).1 ∧ g (n - 1) = 0 then false else evC f fc L r (k + 1) (n - 1) (upd g (n - 2) (rknI (f k).1 (g (n - 2)) (g (n - 1)))) tr) else if (f k).1 ≤ 9 then evC f fc L r (k + 1) (n - 2) g (relB (f k).1 (g (n - 2)) (g (n - 1))) else if (f k).1 = 10 then evC f fc L r (k + 1) n g (!tr) else if (f k).1 = 11 then (if tr then evC f fc L r (k + 1) n g tr else evC f fc L r (f k).2 n g tr) else (if tr then evC f fc L r (f k).2 n g tr else evC f fc L r (k + 1) n g tr)
theorem evC_s (f : Nat → Nat × Nat) (fc : Nat → Int32) (L r k n : Nat) (g : Nat → Int32) (tr : Bool) : evC f fc L (r + 1) k n g tr = (if L ≤ k then tr else if (f k).1 ≤ 1 then evC f fc L r (k + 1) (n + 1) (upd g n (lvI fc (f k))) tr else if (f k).1 ≤ 6 then (if 5 ≤ (f k).1 ∧ g (n - 1) = 0 then false else evC f fc L r (k + 1) (n - 1) (upd g (n - 2) (rknI (f k).1 (g (n - 2)) (g (n - 1)))) tr) else if (f k).1 ≤ 9 then evC f fc L r (k + 1) (n - 2) g (relB (f k).1 (g (n - 2)) (g (n - 1))) else if (f k).1 = 10 then evC f fc L r (k + 1) n g (!tr) else if (f k).1 = 11 then (if tr then evC f fc L r (k + 1) n g tr else evC f fc L r (f k).2 n g tr) else (if tr then evC f fc L r (f k).2 n g tr else evC f fc L r (k + 1) n g tr)) := rfl
theorem evC_end {f : Nat → Nat × Nat} {fc : Nat → Int32} {L r k n : Nat} {g : Nat → Int32} {tr : Bool} (hk : L ≤ k) : evC f fc L (r + 1) k n g tr = tr := by rw [evC_s, if_pos hk]
theorem evC_push {f : Nat → Nat × Nat} {fc : Nat → Int32} {L r k n a b : Nat} {g : Nat → Int32} {tr : Bool} (e : f k = (a, b)) (hk : ¬ L ≤ k) (ha : a ≤ 1) : evC f fc L (r + 1) k n g tr = evC f fc L r (k + 1) (n + 1) (upd g n (lvI fc (a, b))) tr := by rw [evC_s, if_neg hk, e, if_pos ha]
theorem evC_op0 {f : Nat → Nat × Nat} {fc : Nat → Int32} {L r k n a b : Nat} {g : Nat → Int32} {tr : Bool} (e : f k = (a, b)) (hk : ¬ L ≤ k) (ha : 5 ≤ a) (ha2 : a ≤ 6) (hz : g (n - 1) = 0) : evC f fc L (r + 1) k n g tr = false := by rw [evC_s, if_neg hk, e, if_neg (show ¬ a ≤ 1 by omega), if_pos ha2, if_pos ⟨ha, hz⟩]
theorem evC_op {f : Nat → Nat × Nat} {fc : Nat → Int32} {L r k n a b : Nat} {g : Nat → Int32} {tr : Bool} (e : f k = (a, b)) (hk : ¬ L ≤ k) (ha : 2 ≤ a) (ha2 : a ≤ 6) (hz : ¬ (5 ≤ a ∧ g (n - 1) = 0)) : evC f fc L (r + 1) k n g tr = evC f fc L r (k + 1) (n - 1) (upd g (n - 2) (rknI a (g (n - 2)) (g (n - 1)))) tr := by rw [evC_s, if_neg hk, e, if_neg (show ¬ a ≤ 1 by omega), if_pos ha2, if_neg hz]
theorem evC_rel {f : Nat → Nat × Nat} {fc : Nat → Int32} {L r k n a b : Nat} {g : Nat → Int32} {tr : Bool} (e : f k = (a, b)) (hk : ¬ L ≤ k) (ha : 7 ≤ a) (ha2 : a ≤ 9) : evC f fc L (r + 1) k n g tr = evC f fc L r (k + 1) (n - 2) g (relB a (g (n - 2)) (g (n - 1))) := by rw [evC_s, if_neg hk, e, if_neg (show ¬ a ≤ 1 by omega), if_neg (show ¬ a ≤ 6 by omega), if_pos ha2]
theorem evC_not {f : Nat → Nat × Nat} {fc : Nat → Int32} {L r k n b : Nat} {g : Nat → Int32} {tr : Bool} (e : f k = (10, b)) (hk : ¬ L ≤ k) : evC f fc L (r + 1) k n g tr = evC f fc L r (k + 1) n g (!tr) := by rw [evC_s, if_neg hk, e, if_neg (show ¬ 10 ≤ 1 by omega), if_neg (show ¬ 10 ≤ 6 by omega), if_neg (show ¬ 10 ≤ 9 by omega), if_pos rfl]
theorem evC_and {f : Nat → Nat × Nat} {fc : Nat → Int32} {L r k n b : Nat} {g : Nat → Int32} {tr : Bool} (e : f k = (11, b)) (hk : ¬ L ≤ k) : evC f fc L (r + 1) k n g tr = if tr then evC f fc L r (k + 1) n g tr else evC f fc L r b n g tr := by rw [evC_s, if_neg hk, e, if_neg (show ¬ 11 ≤ 1 by omega), if_neg (show ¬ 11 ≤ 6 by omega), if_neg (show ¬ 11 ≤ 9 by omega), if_neg (show ¬ 11 = 10 by omega), if_pos rfl]
theorem evC_or {f : Nat → Nat × Nat} {fc : Nat → Int32} {L r k n b : Nat} {g : Nat → Int32} {tr : Bool} (e : f k = (12, b)) (hk : ¬ L ≤ k) : evC f fc L (r + 1) k n g tr = if tr then evC f fc L r b n g tr else evC f fc L r (k + 1) n g tr := by rw [evC_s, if_neg hk, e, if_neg (show ¬ 12 ≤ 1 by omega), if_neg (show ¬ 12 ≤ 6 by omega), if_neg (show ¬ 12 ≤ 9 by omega), if_neg (show ¬ 12 = 10 by omega), if_neg (show ¬ 12 = 11 by omega)]
theorem stp_inv {a h h2 : Nat} (e : stp a h = some h2) : (a ≤ 1 ∧ h < 40 ∧ h2 = h + 1) ∨ (2 ≤ a ∧ a ≤ 6 ∧ 2 ≤ h ∧ h < 100 ∧ h2 = h - 1) ∨ (7 ≤ a ∧ a ≤ 9 ∧ h = 2 ∧ h2 = 100) ∨ (a = 10 ∧ h = 100 ∧ h2 = 100) ∨ (11 ≤ a ∧ h = 100 ∧ h2 = 0) := by
  unfold stp at e
  by_cases c1 : a ≤ 1
  · rw [if_pos c1] at e
    by_cases c2 : h < 40
    · rw [if_pos c2] at e; cases e; omega
    · rw [if_neg c2] at e; cases e
  · rw [if_neg c1] at e
    by_cases c3 : a ≤ 6
    · rw [if_pos c3] at e
      by_cases c2 : 2 ≤ h ∧ h < 100
      · rw [if_pos c2] at e; cases e; omega
      · rw [if_neg c2] at e; cases e
    · rw [if_neg c3] at e
      by_cases c4 : a ≤ 9
      · rw [if_pos c4] at e
        by_cases c2 : h = 2
        · rw [if_pos c2] at e; cases e; omega
        · rw [if_neg c2] at e; cases e
      · rw [if_neg c4] at e
        by_cases c5 : a = 10
        · rw [if_pos c5] at e
          by_cases c2 : h = 100
          · rw [if_pos c2] at e; cases e; omega
          · rw [if_neg c2] at e; cases e
        · rw [if_neg c5] at e
          by_cases c2 : h = 100
          · rw [if_pos c2] at e; cases e; omega
          · rw [if_neg c2] at e; cases e
theorem hts_le {f : Nat → Nat × Nat} : ∀ {k h : Nat}, hts f k = some h → h ≤ 40 ∨ h = 100
  | 0, h, e => by cases e; omega
  | k + 1, h, e => by
    have e2 : (hts f k).bind (stp (f k).1) = some h := e
    cases hk : hts f k with
    | none => rw [hk] at e2; cases e2
    | some h1 =>
      rw [hk] at e2
      have := stp_inv (show stp (f k).1 h1 = some h from e2)
      have := hts_le hk
      omega
theorem hts_pre {f : Nat → Nat × Nat} {L hL : Nat} (e : hts f L = some hL) : ∀ d k, k + d = L → ∃ h, hts f k = some h
  | 0, k, hk => ⟨hL, by rw [show k = L by omega]; exact e⟩
  | d + 1, k, hk => by
    obtain ⟨h2, e2⟩ := hts_pre e d (k + 1) (by omega)
    have e3 : (hts f k).bind (stp (f k).1) = some h2 := e2
    cases hk2 : hts f k with
    | none => rw [hk2] at e3; cases e3
    | some h1 => exact ⟨h1, rfl⟩
/-- a whole code: what it takes to ask it -/
def CdO (f : Nat → Nat × Nat) (L : Nat) : Prop := L ≤ 160 ∧ hts f L = some 100 ∧ (∀ j, j < L → vcd (f j)) ∧ JOK f 0 L
theorem CdO.at {f : Nat → Nat × Nat} {L k : Nat} (h : CdO f L) (hk : k < L) : ∃ h1 h2, hts f k = some h1 ∧ hts f (k + 1) = some h2 ∧ stp (f k).1 h1 = some h2 := by
  obtain ⟨h1, e1⟩ := hts_pre h.2.1 (L - k) k (by omega)
  obtain ⟨h2, e2⟩ := hts_pre h.2.1 (L - (k + 1)) (k + 1) (by omega)
  refine ⟨h1, h2, e1, e2, ?_⟩
  have e3 : (hts f k).bind (stp (f k).1) = some h2 := e2
  rw [e1] at e3
  exact e3
def hsB (k21 : Int32 → Int32 → Int32 → Int32 → Int32 → Mm → Option (Int32 × Mm)) (v1 v2 v3 a5 a7 a8 v5 : Int32) (st : Mm) : Option (Int32 × Mm) :=
  if a5 = 33 then (if (st.1 17 5) = 0 then (lt_ (v5 + (1 : Int32)) (fun a11 => k21 v1 v2 v3 a8 a11 (sI st 17 5 (1 : Int32)))) else (lt_ (v5 + (1 : Int32)) (fun a12 => k21 v1 v2 v3 a8 a12 (sI st 17 5 (0 : Int32))))) else (if a5 = 38 then (if (st.1 17 5) = 0 then (lt_ (if a8 < a7 then a7 else a8) (fun a15 => lt_ (v5 + (1 : Int32)) (fun a16 => k21 v1 v2 v3 a15 a16 st))) else (lt_ (v5 + (1 : Int32)) (fun a17 => k21 v1 v2 v3 a8 a17 st))) else (if a5 = 48 then ((f_Cond_push a7 st).bind (fun q19 => lt_ (v5 + (1 : Int32)) (fun a20 => k21 v1 v2 v3 a8 a20 q19.2))) else (if a5 = 108 then ((f_Cond_push v3 st).bind (fun q22 => lt_ (v5 + (1 : Int32)) (fun a23 => k21 v1 v2 v3 a8 a23 q22.2))) else (if a5 = 120 then ((f_Cond_push v1 st).bind (fun q25 => lt_ (v5 + (1 : Int32)) (fun a26 => k21 v1 v2 v3 a8 a26 q25.2))) else (if a5 = 121 then ((f_Cond_push v2 st).bind (fun q28 => lt_ (v5 + (1 : Int32)) (fun a29 => k21 v1 v2 v3 a8 a29 q28.2))) else (if a5 = 124 then (if (st.1 17 5) = 0 then (lt_ (v5 + (1 : Int32)) (fun a32 => k21 v1 v2 v3 a8 a32 st)) else (lt_ (if a8 < a7 then a7 else a8) (fun a33 => lt_ (v5 + (1 : Int32)) (fun a34 => k21 v1 v2 v3 a33 a34 st)))) else ((f_Cond_reckon a5 st).bind (fun q35 => lt_ (v5 + (1 : Int32)) (fun a36 => k21 v1 v2 v3 a8 a36 q35.2)))))))))
theorem hs_step {s : Mm} {k i L m : Nat} {v1 v2 v3 : Int32} (hi : i < 160) (hk : k < L) (hL : L ≤ 160) (h3 : s.1 17 3 = nI L) (h6 : s.1 17 6 = 0) : f_Cond_holdsAt_21 (m + 1) v1 v2 v3 (nI k) (nI i) s = hsB (f_Cond_holdsAt_21 m) v1 v2 v3 (s.1 18 k) (s.1 19 k) (nI (k + 1)) (nI i) s := by
  show b_Cond_holdsAt_21 (f_Cond_holdsAt_21 m) v1 v2 v3 (nI k) (nI i) s = _
  unfold b_Cond_holdsAt_21
  rw [if_neg (show ¬ (160 : Int32) ≤ nI i from show ¬ nI 160 ≤ nI i by rw [nI_leI (by omega) (by omega)]; omega), h3, if_neg (by rw [nI_leI (by omega) (by omega)]; omega), h6, if_pos rfl, if_pos (inb_nI (by omega) (by omega)), cl_nI (by omega), lt_eq, if_pos (inb_nI (by omega) (by omega)), lt_eq, nI_1, lt_eq]
  rfl
theorem hs_end {s : Mm} {k i L m : Nat} {tr : Bool} {v1 v2 v3 : Int32} (hk : L ≤ k) (hk2 : k ≤ 160) (h3 : s.1 17 3 = nI L) (h5 : s.1 17 5 = bI tr) (h6 : s.1 17 6 = 0) : f_Cond_holdsAt_21 (m + 1) v1 v2 v3 (nI k) (nI i) s = some (bI tr, s) := by
  have b : b_Cond_holdsAt_248 s = some (bI tr, s) := by
    unfold b_Cond_holdsAt_248
    rw [h5, h6]
    cases tr <;> rfl
  show b_Cond_holdsAt_21 (f_Cond_holdsAt_21 m) v1 v2 v3 (nI k) (nI i) s = _
  unfold b_Cond_holdsAt_21
  rw [h3, if_pos (nI_le hk (by omega)), b]
  split <;> rfl
theorem x_push_ok {s : Mm} {n : Nat} (v : Int32) (h : s.1 17 4 = nI n) (hn : n < 40) : f_Cond_push v s = some ((), sI (sI s 20 n v) 17 4 (nI (n + 1))) := by
  unfold f_Cond_push
  rw [h, if_neg (show ¬ (40 : Int32) ≤ nI n from show ¬ nI 40 ≤ nI n by rw [nI_leI (by omega) (by omega)]; omega), if_pos (inb_nI hn (by omega)), cl_nI (by omega), sI_row _ _ _ _ (show 17 ≠ 20 by decide), h, nI_1, lt_eq]
def LHs : List (Nat × Option Nat) := [(17, some 4), (17, some 5), (17, some 6), (20, none)]
/-- the class's asking state -/
def HX (K : Nat → Nat) (f : Nat → Nat × Nat) (L : Nat) (s0 s : Mm) (n : Nat) (g : Nat → Int32) (tr : Bool) : Prop := Fr LHs s0 s ∧ s.1 17 4 = nI n ∧ s.1 17 5 = bI tr ∧ s.1 17 6 = 0 ∧ ∀ j, j < n → s.1 20 j = g j
theorem HX.push {K : Nat → Nat} {f : Nat → Nat × Nat} {L n : Nat} {s0 s : Mm} {g : Nat → Int32} {tr : Bool} (h : HX K f L s0 s n g tr) (v : Int32) : HX K f L s0 (sI (sI s 20 n v) 17 4 (nI (n + 1))) (n + 1) (upd g n v) tr := by
  obtain ⟨a1, a2, a3, a4, a5⟩ := h
  refine ⟨(a1.sI (by simp [inL, LHs])).sI rfl, sI_self _ _ _ _, by rw [sI_col _ _ _ _ (by decide), sI_row _ _ _ _ (by decide)]; exact a3, by rw [sI_col _ _ _ _ (by decide), sI_row _ _ _ _ (by decide)]; exact a4, fun j hj => ?_⟩
  rw [sI_row _ _ _ _ (by decide), upd_at]
  by_cases e : j = n
  · rw [e, sI_self, if_pos rfl]
  · rw [sI_col _ _ _ _ e, if_neg e]; exact a5 j (by omega)
theorem HX.tru {K : Nat → Nat} {f : Nat → Nat × Nat} {L n : Nat} {s0 s : Mm} {g : Nat → Int32} {tr : Bool} (h : HX K f L s0 s n g tr) (b : Bool) : HX K f L s0 (sI s 17 5 (bI b)) n g b := by
  obtain ⟨a1, a2, a3, a4, a5⟩ := h
  exact ⟨a1.sI rfl, by rw [sI_col _ _ _ _ (by decide)]; exact a2, sI_self _ _ _ _, by rw [sI_col _ _ _ _ (by decide)]; exact a4, fun j hj => by rw [sI_row _ _ _ _ (by decide)]; exact a5 j hj⟩
theorem HX.top {K : Nat → Nat} {f : Nat → Nat × Nat} {L n : Nat} {s0 s : Mm} {g : Nat → Int32} {tr : Bool} (h : HX K f L s0 s n g tr) (n2 : Nat) (hn : n2 ≤ n) : HX K f L s0 (sI s 17 4 (nI n2)) n2 g tr := by
  obtain ⟨a1, a2, a3, a4, a5⟩ := h
  exact ⟨a1.sI rfl, sI_self _ _ _ _, by rw [sI_col _ _ _ _ (by decide)]; exact a3, by rw [sI_col _ _ _ _ (by decide)]; exact a4, fun j hj => by rw [sI_row _ _ _ _ (by decide)]; exact a5 j (by omega)⟩
theorem x_refused {s : Mm} {m : Nat} {v1 v2 v3 v4 v5 : Int32} (h6 : s.1 17 6 = 1) : f_Cond_holdsAt_21 (m + 1) v1 v2 v3 v4 v5 s = some (bI false, s) := by
  have b : b_Cond_holdsAt_248 s = some (bI false, s) := by
    unfold b_Cond_holdsAt_248
    rw [h6]
    split <;> rfl
  show b_Cond_holdsAt_21 (f_Cond_holdsAt_21 m) v1 v2 v3 v4 v5 s = _
  unfold b_Cond_holdsAt_21
  rw [h6, b, if_neg ne10]
  split
  · rfl
  · split <;> rfl
theorem x_reckon_eq {s : Mm} {n : Nat} {v x y : Int32} (h4 : s.1 17 4 = nI n) (hn : 2 ≤ n) (hn2 : n ≤ 40) (hx : s.1 20 (n - 2) = x) (hy : s.1 20 (n - 1) = y) : f_Cond_reckon v s = (if v = 42 then ((f_Cond_push (x * y) (sI s 17 4 (nI (n - 2)))).bind (fun q8 => some ((), q8.2))) else (if v = 43 then ((f_Cond_push (x + y) (sI s 17 4 (nI (n - 2)))).bind (fun q10 => some ((), q10.2))) else (if v = 45 then ((f_Cond_push (x - y) (sI s 17 4 (nI (n - 2)))).bind (fun q12 => some ((), q12.2))) else (if v = 60 then (if y ≤ x then (some ((), (sI (sI s 17 4 (nI (n - 2))) 17 5 (0 : Int32)))) else (some ((), (sI (sI s 17 4 (nI (n - 2))) 17 5 (1 : Int32))))) else (if v = 61 then (if x = y then (some ((), (sI (sI s 17 4 (nI (n - 2))) 17 5 (1 : Int32)))) else (some ((), (sI (sI s 17 4 (nI (n - 2))) 17 5 (0 : Int32))))) else (if v = 62 then (if x ≤ y then (some ((), (sI (sI s 17 4 (nI (n - 2))) 17 5 (0 : Int32)))) else (some ((), (sI (sI s 17 4 (nI (n - 2))) 17 5 (1 : Int32))))) else (if y = 0 then (some ((), (sI (sI s 17 4 (nI (n - 2))) 17 6 (1 : Int32)))) else (if v = (47 : Int32) then (if ¬ y = 0 then (f_Cond_push (x / y) (sI s 17 4 (nI (n - 2)))).bind (fun q22 => some ((), q22.2)) else none) else (if ¬ y = 0 then (f_Cond_push (x - x / y * y) (sI s 17 4 (nI (n - 2)))).bind (fun q24 => some ((), q24.2)) else none))))))))) := by
  unfold f_Cond_reckon
  rw [h4, if_pos (show (2 : Int32) ≤ nI n from show nI 2 ≤ nI n from nI_le hn (by omega)), show nI n - (2 : Int32) = nI (n - 2) from pk_sub (b := 2) hn, lt_eq, sI_self, if_pos (inb_nI (by omega) (by omega)), cl_nI (by omega), sI_row _ _ _ _ (show 20 ≠ 17 by decide), hx, lt_eq, nI_1, show n - 2 + 1 = n - 1 by omega, if_pos (inb_nI (by omega) (by omega)), cl_nI (by omega), hy, lt_eq]
theorem x_evC_ok {K : Nat → Nat} {f : Nat → Nat × Nat} {L : Nat} {s0 : Mm} {fc : Nat → Int32} {v1 v2 v3 : Int32} (hC : CdO f L) (h3 : s0.1 17 3 = nI L) (h18 : ∀ j, j < L → s0.1 18 j = nI (eS (f j)) ∧ s0.1 19 j = nI (eV K (f j))) (f0 : fc 0 = v1) (f1 : fc 1 = v2) (f4 : fc 4 = v3) (f2 : fc 2 = nI (K 2)) (ff3 : fc 3 = nI (K 3)) (f5 : fc 5 = nI (K 5)) (f6 : fc 6 = nI (K 6)) : ∀ r k n g tr i m s h, L + 1 ≤ k + r → k ≤ L → hts f k = some h → (h = 100 → n = 0) → (h ≠ 100 → n = h) → HX K f L s0 s n g tr → i ≤ k → r ≤ m → Ok (f_Cond_holdsAt_21 m v1 v2 v3 (nI k) (nI i) s) (fun q => q.1 = bI (evC f fc L r k n g tr) ∧ Fr LHs s0 q.2) := by
  have hL := hC.1
  intro r
  induction r with
  | zero => intro k n g tr i m s h hr hk; omega
  | succ r ih =>
    intro k n g tr i m s h hr hk hh hn1 hn2 hX hi hm
    obtain ⟨m, rfl⟩ := nat_suc (show 0 + 1 ≤ m by omega)
    have e3 : s.1 17 3 = nI L := by rw [hX.1 17 3 rfl]; exact h3
    by_cases hkL : L ≤ k
    · rw [evC_end hkL]
      exact ok_eq (hs_end hkL (by omega) e3 hX.2.2.1 hX.2.2.2.1) ⟨rfl, hX.1⟩
    obtain ⟨h1, h2, q1, q2, q3⟩ := hC.at (show k < L by omega)
    have e1 : h1 = h := by rw [hh] at q1; exact (Option.some.inj q1).symm
    subst e1
    have hst := stp_inv q3
    have hle := hts_le q1
    have hle2 := hts_le q2
    have hcd := h18 k (by omega)
    have e18 : s.1 18 k = nI (eS (f k)) := by rw [hX.1 18 k rfl]; exact hcd.1
    have e19 : s.1 19 k = nI (eV K (f k)) := by rw [hX.1 19 k rfl]; exact hcd.2
    have hv := hC.2.2.1 k (by omega)
    obtain ⟨⟨a, b⟩, eab⟩ : ∃ x : Nat × Nat, x = f k := ⟨_, rfl⟩
    rw [← eab] at hst e18 e19 hv q3
    have eab2 := eab.symm
    have hv1 : a ≤ 12 := hv.1
    have hv3 : a = 1 → b ≤ 6 := hv.2.2
    have hst : (a ≤ 1 ∧ h1 < 40 ∧ h2 = h1 + 1) ∨ (2 ≤ a ∧ a ≤ 6 ∧ 2 ≤ h1 ∧ h1 < 100 ∧ h2 = h1 - 1) ∨ (7 ≤ a ∧ a ≤ 9 ∧ h1 = 2 ∧ h2 = 100) ∨ (a = 10 ∧ h1 = 100 ∧ h2 = 100) ∨ (11 ≤ a ∧ h1 = 100 ∧ h2 = 0) := hst
    rw [hs_step (L := L) (by omega) (by omega) hL e3 hX.2.2.2.1, e18, e19]
    have pu : ∀ v, a ≤ 1 → lvI fc (a, b) = v → Ok ((f_Cond_push v s).bind (fun q19 => lt_ (nI i + (1 : Int32)) (fun a20 => f_Cond_holdsAt_21 m v1 v2 v3 (nI (k + 1)) a20 q19.2))) (fun q => q.1 = bI (evC f fc L r (k + 1) (n + 1) (upd g n (lvI fc (a, b))) tr) ∧ Fr LHs s0 q.2) := by
      intro v ha hv2
      have en : n = h1 := hn2 (by omega)
      refine ok_bind (ok_eq (x_push_ok v hX.2.1 (by omega)) (ok_lt ?_))
      rw [nI_1, hv2]
      exact ih (k + 1) (n + 1) _ tr (i + 1) m _ h2 (by omega) (by omega) q2 (fun e => by omega) (fun e => by omega) (hX.push v) (by omega) (by omega)
    have nx : ∀ s2 n2 g2 tr2 k2 h3, HX K f L s0 s2 n2 g2 tr2 → k < k2 → k2 ≤ L → hts f k2 = some h3 → (h3 = 100 → n2 = 0) → (h3 ≠ 100 → n2 = h3) → Ok (lt_ (nI i + (1 : Int32)) (fun a20 => f_Cond_holdsAt_21 m v1 v2 v3 (nI k2) a20 s2)) (fun q => q.1 = bI (evC f fc L r k2 n2 g2 tr2) ∧ Fr LHs s0 q.2) := by
      intro s2 n2 g2 tr2 k2 h3 hX2 u1 u2 u3 u4 u5
      refine ok_lt ?_
      rw [nI_1]
      exact ih k2 n2 g2 tr2 (i + 1) m s2 h3 (by omega) u2 u3 u4 u5 hX2 (by omega) (by omega)
    have jm : 11 ≤ a → k < b ∧ b ≤ L ∧ hts f b = some 100 := fun ha => by
      have := hC.2.2.2 k (by omega) (by omega) (by unfold jmp; rw [← eab]; show a = 11 ∨ a = 12; omega)
      rw [← eab] at this
      exact this
    have mx : ∀ b2, k < b2 → b2 ≤ 160 → (if nI (k + 1) < nI b2 then nI b2 else nI (k + 1)) = nI b2 := fun b2 u1 u2 => by
      by_cases e : k + 1 < b2
      · rw [if_pos (nI_lt e (by omega))]
      · rw [if_neg (by rw [nI_ltI (by omega) (by omega)]; omega), show k + 1 = b2 by omega]
    have bn : 2 ≤ a → a ≤ 9 → n = h1 ∧ 2 ≤ n ∧ n ≤ 40 := fun u1 u2 => by
      have en : n = h1 := hn2 (by omega)
      omega
    have rk : ∀ v, 2 ≤ a → a ≤ 6 → v = rknI a (g (n - 2)) (g (n - 1)) → Ok (((f_Cond_push v (sI s 17 4 (nI (n - 2)))).bind (fun q8 => some ((), q8.2))).bind (fun q35 => lt_ (nI i + (1 : Int32)) (fun a36 => f_Cond_holdsAt_21 m v1 v2 v3 (nI (k + 1)) a36 q35.2))) (fun q => q.1 = bI (evC f fc L r (k + 1) (n - 1) (upd g (n - 2) (rknI a (g (n - 2)) (g (n - 1)))) tr) ∧ Fr LHs s0 q.2) := by
      intro v u1 u2 ev
      have bb := bn u1 (by omega)
      have hX2 := hX.top (n - 2) (by omega)
      refine ok_bind (ok_bind (ok_eq (x_push_ok v hX2.2.1 (by omega)) (ok_some ?_)))
      have hX3 := hX2.push v
      rw [show n - 2 + 1 = n - 1 by omega] at hX3
      rw [ev] at hX3 ⊢
      rw [show n - 2 + 1 = n - 1 by omega]
      exact nx _ (n - 1) _ tr (k + 1) h2 hX3 (by omega) (by omega) q2 (fun e => by omega) (fun e => by omega)
    have rl : ∀ bb : Bool, 7 ≤ a → a ≤ 9 → bb = relB a (g (n - 2)) (g (n - 1)) → Ok ((some ((), sI (sI s 17 4 (nI (n - 2))) 17 5 (bI bb)) : Option (Unit × Mm)).bind (fun q35 => lt_ (nI i + (1 : Int32)) (fun a36 => f_Cond_holdsAt_21 m v1 v2 v3 (nI (k + 1)) a36 q35.2))) (fun q => q.1 = bI (evC f fc L r (k + 1) (n - 2) g (relB a (g (n - 2)) (g (n - 1)))) ∧ Fr LHs s0 q.2) := by
      intro bb u1 u2 ev
      have bb2 := bn (by omega) u2
      have hX2 := (hX.top (n - 2) (by omega)).tru bb
      rw [ev] at hX2 ⊢
      exact ok_bind (ok_some (nx _ (n - 2) _ _ (k + 1) h2 hX2 (by omega) (by omega) q2 (fun e => by omega) (fun e => by omega)))
    have gx : 2 ≤ a → a ≤ 9 → s.1 20 (n - 2) = g (n - 2) ∧ s.1 20 (n - 1) = g (n - 1) := fun u1 u2 => by
      have bb := bn u1 u2
      exact ⟨hX.2.2.2.2 _ (by omega), hX.2.2.2.2 _ (by omega)⟩
    have hn42 := bn
    unfold hsB
    rcases (show a = 0 ∨ a = 1 ∨ a = 2 ∨ a = 3 ∨ a = 4 ∨ a = 5 ∨ a = 6 ∨ a = 7 ∨ a = 8 ∨ a = 9 ∨ a = 10 ∨ a = 11 ∨ a = 12 by omega) with rfl | rfl | rfl | rfl | rfl | rfl | rfl | rfl | rfl | rfl | rfl | rfl | rfl
    · rw [evC_push eab2 hkL (by omega), show eS (0, b) = 48 from rfl, show eV K (0, b) = b from rfl, if_neg (show ¬ nI 48 = (33 : Int32) by decide), if_neg (show ¬ nI 48 = (38 : Int32) by decide), if_pos (show nI 48 = (48 : Int32) from rfl)]
      exact pu _ (by omega) rfl
    · rw [evC_push eab2 hkL (by omega)]
      have hb := hv3 rfl
      rcases (show b = 0 ∨ b = 1 ∨ b = 2 ∨ b = 3 ∨ b = 4 ∨ b = 5 ∨ b = 6 by omega) with rfl | rfl | rfl | rfl | rfl | rfl | rfl
      · rw [show eS (1, 0) = 120 from rfl, if_neg (show ¬ nI 120 = (33 : Int32) by decide), if_neg (show ¬ nI 120 = (38 : Int32) by decide), if_neg (show ¬ nI 120 = (48 : Int32) by decide), if_neg (show ¬ nI 120 = (108 : Int32) by decide), if_pos (show nI 120 = (120 : Int32) from rfl)]
        exact pu _ (by omega) f0
      · rw [show eS (1, 1) = 121 from rfl, if_neg (show ¬ nI 121 = (33 : Int32) by decide), if_neg (show ¬ nI 121 = (38 : Int32) by decide), if_neg (show ¬ nI 121 = (48 : Int32) by decide), if_neg (show ¬ nI 121 = (108 : Int32) by decide), if_neg (show ¬ nI 121 = (120 : Int32) by decide), if_pos (show nI 121 = (121 : Int32) from rfl)]
        exact pu _ (by omega) f1
      · rw [show eS (1, 2) = 48 from rfl, show eV K (1, 2) = K 2 from rfl, if_neg (show ¬ nI 48 = (33 : Int32) by decide), if_neg (show ¬ nI 48 = (38 : Int32) by decide), if_pos (show nI 48 = (48 : Int32) from rfl)]
        exact pu _ (by omega) f2
      · rw [show eS (1, 3) = 48 from rfl, show eV K (1, 3) = K 3 from rfl, if_neg (show ¬ nI 48 = (33 : Int32) by decide), if_neg (show ¬ nI 48 = (38 : Int32) by decide), if_pos (show nI 48 = (48 : Int32) from rfl)]
        exact pu _ (by omega) ff3
      · rw [show eS (1, 4) = 108 from rfl, if_neg (show ¬ nI 108 = (33 : Int32) by decide), if_neg (show ¬ nI 108 = (38 : Int32) by decide), if_neg (show ¬ nI 108 = (48 : Int32) by decide), if_pos (show nI 108 = (108 : Int32) from rfl)]
        exact pu _ (by omega) f4
      · rw [show eS (1, 5) = 48 from rfl, show eV K (1, 5) = K 5 from rfl, if_neg (show ¬ nI 48 = (33 : Int32) by decide), if_neg (show ¬ nI 48 = (38 : Int32) by decide), if_pos (show nI 48 = (48 : Int32) from rfl)]
        exact pu _ (by omega) f5
      · rw [show eS (1, 6) = 48 from rfl, show eV K (1, 6) = K 6 from rfl, if_neg (show ¬ nI 48 = (33 : Int32) by decide), if_neg (show ¬ nI 48 = (38 : Int32) by decide), if_pos (show nI 48 = (48 : Int32) from rfl)]
        exact pu _ (by omega) f6
    · rw [evC_op eab2 hkL (by omega) (by omega) (fun e => by omega), show eS (2, b) = 43 from rfl, if_neg (show ¬ nI 43 = (33 : Int32) by decide), if_neg (show ¬ nI 43 = (38 : Int32) by decide), if_neg (show ¬ nI 43 = (48 : Int32) by decide), if_neg (show ¬ nI 43 = (108 : Int32) by decide), if_neg (show ¬ nI 43 = (120 : Int32) by decide), if_neg (show ¬ nI 43 = (121 : Int32) by decide), if_neg (show ¬ nI 43 = (124 : Int32) by decide), x_reckon_eq hX.2.1 (bn (by omega) (by omega)).2.1 (bn (by omega) (by omega)).2.2 (gx (by omega) (by omega)).1 (gx (by omega) (by omega)).2, if_neg (show ¬ nI 43 = (42 : Int32) by decide), if_pos (show nI 43 = (43 : Int32) from rfl)]
      exact rk _ (by omega) (by omega) rfl
    · rw [evC_op eab2 hkL (by omega) (by omega) (fun e => by omega), show eS (3, b) = 45 from rfl, if_neg (show ¬ nI 45 = (33 : Int32) by decide), if_neg (show ¬ nI 45 = (38 : Int32) by decide), if_neg (show ¬ nI 45 = (48 : Int32) by decide), if_neg (show ¬ nI 45 = (108 : Int32) by decide), if_neg (show ¬ nI 45 = (120 : Int32) by decide), if_neg (show ¬ nI 45 = (121 : Int32) by decide), if_neg (show ¬ nI 45 = (124 : Int32) by decide), x_reckon_eq hX.2.1 (bn (by omega) (by omega)).2.1 (bn (by omega) (by omega)).2.2 (gx (by omega) (by omega)).1 (gx (by omega) (by omega)).2, if_neg (show ¬ nI 45 = (42 : Int32) by decide), if_neg (show ¬ nI 45 = (43 : Int32) by decide), if_pos (show nI 45 = (45 : Int32) from rfl)]
      exact rk _ (by omega) (by omega) rfl
    · rw [evC_op eab2 hkL (by omega) (by omega) (fun e => by omega), show eS (4, b) = 42 from rfl, if_neg (show ¬ nI 42 = (33 : Int32) by decide), if_neg (show ¬ nI 42 = (38 : Int32) by decide), if_neg (show ¬ nI 42 = (48 : Int32) by decide), if_neg (show ¬ nI 42 = (108 : Int32) by decide), if_neg (show ¬ nI 42 = (120 : Int32) by decide), if_neg (show ¬ nI 42 = (121 : Int32) by decide), if_neg (show ¬ nI 42 = (124 : Int32) by decide), x_reckon_eq hX.2.1 (bn (by omega) (by omega)).2.1 (bn (by omega) (by omega)).2.2 (gx (by omega) (by omega)).1 (gx (by omega) (by omega)).2, if_pos (show nI 42 = (42 : Int32) from rfl)]
      exact rk _ (by omega) (by omega) rfl
    · rw [show eS (5, b) = 47 from rfl, if_neg (show ¬ nI 47 = (33 : Int32) by decide), if_neg (show ¬ nI 47 = (38 : Int32) by decide), if_neg (show ¬ nI 47 = (48 : Int32) by decide), if_neg (show ¬ nI 47 = (108 : Int32) by decide), if_neg (show ¬ nI 47 = (120 : Int32) by decide), if_neg (show ¬ nI 47 = (121 : Int32) by decide), if_neg (show ¬ nI 47 = (124 : Int32) by decide), x_reckon_eq hX.2.1 (bn (by omega) (by omega)).2.1 (bn (by omega) (by omega)).2.2 (gx (by omega) (by omega)).1 (gx (by omega) (by omega)).2, if_neg (show ¬ nI 47 = (42 : Int32) by decide), if_neg (show ¬ nI 47 = (43 : Int32) by decide), if_neg (show ¬ nI 47 = (45 : Int32) by decide), if_neg (show ¬ nI 47 = (60 : Int32) by decide), if_neg (show ¬ nI 47 = (61 : Int32) by decide), if_neg (show ¬ nI 47 = (62 : Int32) by decide)]
      by_cases hz : g (n - 1) = 0
      · rw [if_pos hz, evC_op0 eab2 hkL (by omega) (by omega) hz]
        refine ok_bind (ok_some (ok_lt ?_))
        rw [nI_1]
        obtain ⟨m, rfl⟩ := nat_suc (show 0 + 1 ≤ m by omega)
        refine ok_eq (x_refused (sI_self _ _ _ _)) ⟨rfl, (hX.1.sI rfl).sI rfl⟩
      · rw [if_neg hz, evC_op eab2 hkL (by omega) (by omega) (fun e => hz e.2), if_pos (show nI 47 = (47 : Int32) from rfl), if_pos hz]
        exact rk _ (by omega) (by omega) rfl
    · rw [show eS (6, b) = 37 from rfl, if_neg (show ¬ nI 37 = (33 : Int32) by decide), if_neg (show ¬ nI 37 = (38 : Int32) by decide), if_neg (show ¬ nI 37 = (48 : Int32) by decide), if_neg (show ¬ nI 37 = (108 : Int32) by decide), if_neg (show ¬ nI 37 = (120 : Int32) by decide), if_neg (show ¬ nI 37 = (121 : Int32) by decide), if_neg (show ¬ nI 37 = (124 : Int32) by decide), x_reckon_eq hX.2.1 (bn (by omega) (by omega)).2.1 (bn (by omega) (by omega)).2.2 (gx (by omega) (by omega)).1 (gx (by omega) (by omega)).2, if_neg (show ¬ nI 37 = (42 : Int32) by decide), if_neg (show ¬ nI 37 = (43 : Int32) by decide), if_neg (show ¬ nI 37 = (45 : Int32) by decide), if_neg (show ¬ nI 37 = (60 : Int32) by decide), if_neg (show ¬ nI 37 = (61 : Int32) by decide), if_neg (show ¬ nI 37 = (62 : Int32) by decide)]
      by_cases hz : g (n - 1) = 0
      · rw [if_pos hz, evC_op0 eab2 hkL (by omega) (by omega) hz]
        refine ok_bind (ok_some (ok_lt ?_))
        rw [nI_1]
        obtain ⟨m, rfl⟩ := nat_suc (show 0 + 1 ≤ m by omega)
        refine ok_eq (x_refused (sI_self _ _ _ _)) ⟨rfl, (hX.1.sI rfl).sI rfl⟩
      · rw [if_neg hz, evC_op eab2 hkL (by omega) (by omega) (fun e => hz e.2), if_neg (show ¬ nI 37 = (47 : Int32) by decide), if_pos hz]
        exact rk _ (by omega) (by omega) rfl
    · rw [evC_rel eab2 hkL (by omega) (by omega), show eS (7, b) = 60 from rfl, if_neg (show ¬ nI 60 = (33 : Int32) by decide), if_neg (show ¬ nI 60 = (38 : Int32) by decide), if_neg (show ¬ nI 60 = (48 : Int32) by decide), if_neg (show ¬ nI 60 = (108 : Int32) by decide), if_neg (show ¬ nI 60 = (120 : Int32) by decide), if_neg (show ¬ nI 60 = (121 : Int32) by decide), if_neg (show ¬ nI 60 = (124 : Int32) by decide), x_reckon_eq hX.2.1 (bn (by omega) (by omega)).2.1 (bn (by omega) (by omega)).2.2 (gx (by omega) (by omega)).1 (gx (by omega) (by omega)).2, if_neg (show ¬ nI 60 = (42 : Int32) by decide), if_neg (show ¬ nI 60 = (43 : Int32) by decide), if_neg (show ¬ nI 60 = (45 : Int32) by decide), if_pos (show nI 60 = (60 : Int32) from rfl)]
      by_cases hc : g (n - 1) ≤ g (n - 2)
      · rw [if_pos hc]
        exact rl false (by omega) (by omega) (by unfold relB; rw [if_pos rfl, decide_eq_true hc]; rfl)
      · rw [if_neg hc]
        exact rl true (by omega) (by omega) (by unfold relB; rw [if_pos rfl, decide_eq_false hc]; rfl)
    · rw [evC_rel eab2 hkL (by omega) (by omega), show eS (8, b) = 62 from rfl, if_neg (show ¬ nI 62 = (33 : Int32) by decide), if_neg (show ¬ nI 62 = (38 : Int32) by decide), if_neg (show ¬ nI 62 = (48 : Int32) by decide), if_neg (show ¬ nI 62 = (108 : Int32) by decide), if_neg (show ¬ nI 62 = (120 : Int32) by decide), if_neg (show ¬ nI 62 = (121 : Int32) by decide), if_neg (show ¬ nI 62 = (124 : Int32) by decide), x_reckon_eq hX.2.1 (bn (by omega) (by omega)).2.1 (bn (by omega) (by omega)).2.2 (gx (by omega) (by omega)).1 (gx (by omega) (by omega)).2, if_neg (show ¬ nI 62 = (42 : Int32) by decide), if_neg (show ¬ nI 62 = (43 : Int32) by decide), if_neg (show ¬ nI 62 = (45 : Int32) by decide), if_neg (show ¬ nI 62 = (60 : Int32) by decide), if_neg (show ¬ nI 62 = (61 : Int32) by decide), if_pos (show nI 62 = (62 : Int32) from rfl)]
      by_cases hc : g (n - 2) ≤ g (n - 1)
      · rw [if_pos hc]
        exact rl false (by omega) (by omega) (by unfold relB; rw [if_neg (by omega), if_pos rfl, decide_eq_true hc]; rfl)
      · rw [if_neg hc]
        exact rl true (by omega) (by omega) (by unfold relB; rw [if_neg (by omega), if_pos rfl, decide_eq_false hc]; rfl)
    · rw [evC_rel eab2 hkL (by omega) (by omega), show eS (9, b) = 61 from rfl, if_neg (show ¬ nI 61 = (33 : Int32) by decide), if_neg (show ¬ nI 61 = (38 : Int32) by decide), if_neg (show ¬ nI 61 = (48 : Int32) by decide), if_neg (show ¬ nI 61 = (108 : Int32) by decide), if_neg (show ¬ nI 61 = (120 : Int32) by decide), if_neg (show ¬ nI 61 = (121 : Int32) by decide), if_neg (show ¬ nI 61 = (124 : Int32) by decide), x_reckon_eq hX.2.1 (bn (by omega) (by omega)).2.1 (bn (by omega) (by omega)).2.2 (gx (by omega) (by omega)).1 (gx (by omega) (by omega)).2, if_neg (show ¬ nI 61 = (42 : Int32) by decide), if_neg (show ¬ nI 61 = (43 : Int32) by decide), if_neg (show ¬ nI 61 = (45 : Int32) by decide), if_neg (show ¬ nI 61 = (60 : Int32) by decide), if_pos (show nI 61 = (61 : Int32) from rfl)]
      by_cases hc : g (n - 2) = g (n - 1)
      · rw [if_pos hc]
        exact rl true (by omega) (by omega) (by unfold relB; rw [if_neg (by omega), if_neg (by omega), decide_eq_true hc])
      · rw [if_neg hc]
        exact rl false (by omega) (by omega) (by unfold relB; rw [if_neg (by omega), if_neg (by omega), decide_eq_false hc])
    · rw [evC_not eab2 hkL, show eS (10, b) = 33 from rfl, if_pos (show nI 33 = (33 : Int32) from rfl), hX.2.2.1]
      have en : n = 0 := hn1 (by omega)
      cases tr with
      | false => exact ok_t rfl (nx _ n g true (k + 1) h2 (hX.tru true) (by omega) (by omega) q2 (fun _ => en) (fun e => by omega))
      | true => exact ok_f nbt (nx _ n g false (k + 1) h2 (hX.tru false) (by omega) (by omega) q2 (fun _ => en) (fun e => by omega))
    · have hj := jm (by omega)
      have en : n = 0 := hn1 (by omega)
      rw [evC_and eab2 hkL, show eS (11, b) = 38 from rfl, show eV K (11, b) = b from rfl, if_neg (show ¬ nI 38 = (33 : Int32) by decide), if_pos (show nI 38 = (38 : Int32) from rfl), hX.2.2.1]
      cases tr with
      | false =>
        refine ok_t rfl (ok_lt ?_)
        rw [mx b hj.1 (by omega)]
        exact nx s n g false b 100 hX hj.1 hj.2.1 hj.2.2 (fun _ => en) (fun e => by omega)
      | true => exact ok_f nbt (nx s n g true (k + 1) h2 hX (by omega) (by omega) q2 (fun _ => en) (fun e => by omega))
    · have hj := jm (by omega)
      have en : n = 0 := hn1 (by omega)
      rw [evC_or eab2 hkL, show eS (12, b) = 124 from rfl, show eV K (12, b) = b from rfl, if_neg (show ¬ nI 124 = (33 : Int32) by decide), if_neg (show ¬ nI 124 = (38 : Int32) by decide), if_neg (show ¬ nI 124 = (48 : Int32) by decide), if_neg (show ¬ nI 124 = (108 : Int32) by decide), if_neg (show ¬ nI 124 = (120 : Int32) by decide), if_neg (show ¬ nI 124 = (121 : Int32) by decide), if_pos (show nI 124 = (124 : Int32) from rfl), hX.2.2.1]
      cases tr with
      | false => exact ok_t rfl (nx s n g false (k + 1) h2 hX (by omega) (by omega) q2 (fun _ => en) (fun e => by omega))
      | true =>
        refine ok_f nbt (ok_lt ?_)
        rw [mx b hj.1 (by omega)]
        exact nx s n g true b 100 hX hj.1 hj.2.1 hj.2.2 (fun _ => en) (fun e => by omega)
