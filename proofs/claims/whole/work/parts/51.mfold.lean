/-! folding as a matter of numbers -/
abbrev Fq : Type := Nat × Nat × Nat × Nat
/-- one fold, slipping by sl: where a cell comes, and the wedge; none: beyond it -/
def cb (f sl : Nat) (q : Fq) : Option Fq :=
  if f = 104 then
    (if (if q.1 < q.2.2.1 / 2 then q.1 else q.2.2.1 - 1 - q.1 + sl) < q.2.2.1 / 2 then some (if q.1 < q.2.2.1 / 2 then q.1 else q.2.2.1 - 1 - q.1 + sl, q.2.1, q.2.2.1 / 2, q.2.2.2) else none)
  else if f = 118 then
    (if (if q.2.1 < q.2.2.2 / 2 then q.2.1 else q.2.2.2 - 1 - q.2.1 + sl) < q.2.2.2 / 2 then some (q.1, if q.2.1 < q.2.2.2 / 2 then q.2.1 else q.2.2.2 - 1 - q.2.1 + sl, q.2.2.1, q.2.2.2 / 2) else none)
  else if q.2.1 ≤ q.1 then some q else some (q.2.1, q.1 + sl, q.2.2.1, q.2.2.2)
def mB (st : Mm) (q : Fq) : Prop := st.1 58 13 = nI q.1 ∧ st.1 58 14 = nI q.2.1 ∧ st.1 58 15 = nI q.2.2.1 ∧ st.1 58 16 = nI q.2.2.2
def LB : List (Nat × Option Nat) := [(58, some 13), (58, some 14), (58, some 15), (58, some 16)]
theorem m_comesBy_ok {st : Mm} {q : Fq} {f sl : Nat} {P : Int32 × Mm → Prop} (hq : mB st q) (h3 : q.2.2.1 < 64) (h4 : q.2.2.2 < 64) (hx : q.1 < q.2.2.1) (hy : q.2.1 < q.2.2.2) (hf : f < 256) (hs : sl < 2)
    (h0 : cb f sl q = none → ∀ s2, Fr LB st s2 → P (0, s2)) (h1 : ∀ z, cb f sl q = some z → ∀ s2, Fr LB st s2 → mB s2 z → P (1, s2)) : Ok (f_m_comesBy (nI f) (nI sl) st) P := by
  obtain ⟨X, Y, W, H⟩ := q
  obtain ⟨e1, e2, e3, e4⟩ := hq
  simp only at e1 e2 e3 e4 h3 h4 hx hy
  have h5 : W / 2 < 64 := by omega
  have h6 : H / 2 < 64 := by omega
  have key : Ok (b_m_comesBy_9 (nI f) (nI sl) st) P := by
    unfold b_m_comesBy_9
    rw [e1, e2, e3, e4]
    simp (disch := omega) only [i_lit, nI_eq, pk_div, nI_ltI, nI_leI, pk_sub, nI_add]
    refine ok_if (fun c1 => ?_) (fun c1 => ok_if (fun c2 => ?_) (fun c2 => ?_))
    · subst c1
      refine ok_if (fun c2 => ?_) (fun c2 => ok_lt ?_)
      · unfold b_m_comesBy_46
        refine ok_lt ?_
        simp (disch := omega) only [i_lit, e1, e2, e3, e4, pk_div, sI_at, Nat.reduceEqDiff, reduceIte, and_true, true_and, and_false, false_and, nI_leI]
        refine ok_f (by omega) (ok_some (h1 (X, Y, W / 2, H) (by simp [cb, c2]) _ (Fr.rf.sI rfl) ?_))
        refine ⟨?_, ?_, ?_, ?_⟩ <;> simp [sI_at, e1, e2, e3, e4]
      · unfold b_m_comesBy_46
        refine ok_lt ?_
        simp (disch := omega) only [i_lit, e1, e2, e3, e4, pk_div, sI_at, Nat.reduceEqDiff, reduceIte, and_true, true_and, and_false, false_and, nI_leI]
        refine ok_if (fun c3 => ?_) (fun c3 => ?_)
        · exact ok_some (h0 (by simp [cb, c2]; omega) _ ((Fr.rf.sI rfl).sI rfl))
        · refine ok_some (h1 (W - 1 - X + sl, Y, W / 2, H) (by simp [cb, c2]; omega) _ ((Fr.rf.sI rfl).sI rfl) ?_)
          refine ⟨?_, ?_, ?_, ?_⟩ <;> simp [sI_at, e1, e2, e3, e4]
    · subst c2
      refine ok_if (fun c2 => ?_) (fun c2 => ok_lt ?_)
      · unfold b_m_comesBy_109
        refine ok_lt ?_
        simp (disch := omega) only [i_lit, e1, e2, e3, e4, pk_div, sI_at, Nat.reduceEqDiff, reduceIte, and_true, true_and, and_false, false_and, nI_leI]
        refine ok_f (by omega) (ok_some (h1 (X, Y, W, H / 2) (by simp [cb, c2]) _ (Fr.rf.sI rfl) ?_))
        refine ⟨?_, ?_, ?_, ?_⟩ <;> simp [sI_at, e1, e2, e3, e4]
      · unfold b_m_comesBy_109
        refine ok_lt ?_
        simp (disch := omega) only [i_lit, e1, e2, e3, e4, pk_div, sI_at, Nat.reduceEqDiff, reduceIte, and_true, true_and, and_false, false_and, nI_leI]
        refine ok_if (fun c3 => ?_) (fun c3 => ?_)
        · exact ok_some (h0 (by simp [cb, c2]; omega) _ ((Fr.rf.sI rfl).sI rfl))
        · refine ok_some (h1 (X, H - 1 - Y + sl, W, H / 2) (by simp [cb, c2]; omega) _ ((Fr.rf.sI rfl).sI rfl) ?_)
          refine ⟨?_, ?_, ?_, ?_⟩ <;> simp [sI_at, e1, e2, e3, e4]
    · refine ok_if (fun c3 => ?_) (fun c3 => ?_)
      · exact ok_some (h1 (X, Y, W, H) (by simp [cb, c1, c2, c3]) _ Fr.rf ⟨e1, e2, e3, e4⟩)
      · refine ok_lt (ok_lt (ok_lt (ok_some (h1 (Y, X + sl, W, H) (by simp [cb, c1, c2, c3]) _ ((Fr.rf.sI rfl).sI rfl) ?_))))
        refine ⟨?_, ?_, ?_, ?_⟩ <;> simp [sI_at, e1, e2, e3, e4, nI_add]
  unfold f_m_comesBy
  rcases (show sl = 0 ∨ sl = 1 by omega) with rfl | rfl
  · exact ok_t rfl key
  · exact ok_f (by decide) key
/-- all folds of a list, the slips by their bits -/
def cbs (sl : Nat → Nat) : List Nat → Nat → Fq → Option Fq
  | [], _, q => some q
  | f :: l, i, q => (cb f (sl i) q).bind (cbs sl l (i + 1))
def cbOk (q : Fq) : Prop := q.2.2.1 < 64 ∧ q.2.2.2 < 64 ∧ q.1 < q.2.2.1 ∧ q.2.1 < q.2.2.2
/-- the wedge under one fold: width, height, whether it is halved by d -/
abbrev Wd : Type := Nat × Nat × Nat
def fold1 (f : Nat) (w : Wd) : Option Wd :=
  if w.2.2 = 0 then
    (if f = 104 then (if w.1 % 2 = 1 then none else some (w.1 / 2, w.2.1, 0))
    else if f = 118 then (if w.2.1 % 2 = 1 then none else some (w.1, w.2.1 / 2, 0))
    else if w.1 = w.2.1 then (if 2 ≤ w.1 then some (w.1, w.2.1, 1) else none) else none)
  else none
def fds : List Nat → Wd → Option Wd
  | [], w => some w
  | f :: l, w => (fold1 f w).bind (fds l)
def mW (st : Mm) (w : Wd) : Prop := st.1 58 8 = nI w.1 ∧ st.1 58 9 = nI w.2.1 ∧ st.1 58 10 = nI w.2.2
def LW : List (Nat × Option Nat) := [(58, some 8), (58, some 9), (58, some 10)]
theorem m_foldsOnce_ok {st : Mm} {w : Wd} {f : Nat} {P : Int32 × Mm → Prop} (hw : mW st w) (h1 : w.1 < 64) (h2 : w.2.1 < 64) (h3 : w.2.2 < 64) (hf : f < 256)
    (hn : fold1 f w = none → P (0, st)) (hs : ∀ z, fold1 f w = some z → ∀ s2, Fr LW st s2 → mW s2 z → P (1, s2)) : Ok (f_m_foldsOnce (nI f) st) P := by
  obtain ⟨W, H, b⟩ := w
  obtain ⟨e1, e2, e3⟩ := hw
  simp only at e1 e2 e3 h1 h2 h3
  unfold f_m_foldsOnce
  rw [e1, e2, e3]
  simp (disch := omega) only [i_lit, nI_eq, pk_div, pk_mul, pk_sub, nI_ltI, nI_leI]
  refine ok_if (fun c0 => ?_) (fun c0 => ok_some (hn (by simp [fold1, c0])))
  subst c0
  refine ok_if (fun c1 => ?_) (fun c1 => ok_if (fun c2 => ?_) (fun c2 => ?_))
  · refine ok_if (fun c3 => ?_) (fun c3 => ?_)
    · have c4 : W % 2 = 1 := by omega
      exact ok_some (hn (by simp [fold1, c1, c4]))
    · have c4 : ¬ W % 2 = 1 := by omega
      refine ok_lt (ok_some (hs (W / 2, H, 0) (by simp [fold1, c1, c4]) _ (Fr.rf.sI rfl) ?_))
      refine ⟨?_, ?_, ?_⟩ <;> simp [sI_at, e1, e2, e3]
  · refine ok_if (fun c3 => ?_) (fun c3 => ?_)
    · have c4 : H % 2 = 1 := by omega
      exact ok_some (hn (by simp [fold1, c1, c2, c4]))
    · have c4 : ¬ H % 2 = 1 := by omega
      refine ok_lt (ok_some (hs (W, H / 2, 0) (by simp [fold1, c1, c2, c4]) _ (Fr.rf.sI rfl) ?_))
      refine ⟨?_, ?_, ?_⟩ <;> simp [sI_at, e1, e2, e3]
  · refine ok_if (fun c3 => ok_if (fun c4 => ok_some (hs (W, H, 1) (by simp [fold1, c1, c2, c3]; omega) _ (Fr.rf.sI rfl) ?_)) (fun c4 => ok_some (hn (by simp [fold1, c1, c2, c3]; omega)))) (fun c3 => ok_some (hn (by simp [fold1, c1, c2, c3])))
    refine ⟨?_, ?_, ?_⟩ <;> simp [sI_at, e1, e2, e3] <;> rfl
theorem m_startsWedge_eq (st : Mm) : f_m_startsWedge st = some ((), sI (sI (sI st 58 8 (st.1 58 0)) 58 9 (st.1 58 0)) 58 10 0) := by
  unfold f_m_startsWedge lt_
  simp [sI_at]
theorem fold1_le {f : Nat} {w z : Wd} (h : fold1 f w = some z) : z.1 ≤ w.1 ∧ z.2.1 ≤ w.2.1 ∧ z.2.2 ≤ 1 ∧ w.2.2 = 0 := by
  unfold fold1 at h
  repeat' split at h
  all_goals first | (cases h; done) | (cases h; simp_all; omega) | (cases h; simp_all)
theorem bit_of {x : Int32} {j : Nat} (hj : j < 32) : ((x >>> (nI j &&& 31)) &&& 1) = if bt x j then 1 else 0 := by
  apply b_ext
  intro i hi
  rw [b_and, b_sshr j hj x hi]
  have h1 : ∀ i, i < 32 → bt (1 : Int32) i = decide (i = 0) := by decide +kernel
  rw [h1 i hi]
  by_cases h0 : i = 0
  · subst h0
    rw [if_pos (by omega)]
    cases h : bt x j
    · simp [h, b_0]
    · simp [h, h1]
  · cases h : bt x j
    · simp [h0, h, b_0]
    · simp [h0, h, h1 i hi]
theorem m_has_eq {x : Int32} {j : Nat} (hj : j < 32) (st : Mm) : f_m_has x (nI j) st = some (if bt x j then 1 else 0, st) := by
  unfold f_m_has
  rw [bit_of hj]
  cases bt x j <;> rfl
/-- slips of a number by their bits -/
def slb (x : Int32) (j : Nat) : Nat := if bt x j then 1 else 0
theorem slb_lt (x : Int32) (j : Nat) : slb x j < 2 := by unfold slb; split <;> omega
theorem slb_I (x : Int32) (j : Nat) : (if bt x j then (1 : Int32) else 0) = nI (slb x j) := by unfold slb; split <;> rfl
/-- a cell in a wedge that more folds may change -/
def cW (q : Fq) (w : Wd) : Prop := q.2.2.1 = w.1 ∧ q.2.2.2 = w.2.1 ∧ q.1 < w.1 ∧ q.2.1 < w.2.1
theorem cb_cW {f sl : Nat} {q z : Fq} {w v : Wd} (hq : cW q w) (hf : fold1 f w = some v) (hz : cb f sl q = some z) (hs : sl < 2) : cW z v := by
  obtain ⟨X, Y, W, H⟩ := q
  obtain ⟨w1, w2, w3⟩ := w
  obtain ⟨a, b, c, d⟩ := hq
  simp only at a b c d
  subst a; subst b
  unfold fold1 at hf
  unfold cb at hz
  simp only at hf hz
  by_cases c1 : f = 104
  · simp only [c1, reduceIte] at hf hz
    repeat' split at hf
    all_goals try (cases hf; done)
    all_goals repeat' split at hz
    all_goals try (cases hz; done)
    all_goals (cases hf; cases hz; exact ⟨rfl, rfl, by omega, by omega⟩)
  · simp only [c1, reduceIte] at hf hz
    by_cases c2 : f = 118
    · simp only [c2, reduceIte] at hf hz
      repeat' split at hf
      all_goals try (cases hf; done)
      all_goals repeat' split at hz
      all_goals try (cases hz; done)
      all_goals (cases hf; cases hz; exact ⟨rfl, rfl, by omega, by omega⟩)
    · simp only [c2, reduceIte] at hf hz
      repeat' split at hf
      all_goals try (cases hf; done)
      all_goals repeat' split at hz
      all_goals try (cases hz; done)
      all_goals (cases hf; cases hz; refine ⟨rfl, rfl, ?_, ?_⟩ <;> simp only <;> omega)
