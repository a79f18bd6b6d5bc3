/-! folding as a matter of numbers -/
abbrev Fq : Type := Nat × Nat × Nat × Nat
/-- one fold, slipping by sl: where a cell comes, and the wedge; none: beyond it -/
def cb (f sl : Nat) (q : Fq) : Option Fq :=
  if f = 104 then
    (if (if q.1 < q.2.2.1 / 2 then q.1 else q.2.2.1 - 1 - q.1 + sl) < q.2.2.1 / 2 then some (if q.1 < q.2.2.1 / 2 then q.1 else q.2.2.1 - 1 - q.1 + sl, q.2.1, q.2.2.1 / 2, q.2.2.2) else none)
  else if f = 118 then
    (if (if q.2.1 < q.2.2.2 / 2 then q.2.1 else q.2.2.2 - 1 - q.2.1 + sl) < q.2.2.2 / 2 then some (q.1, if q.2.1 < q.2.2.2 / 2 then q.2.1 else q.2.2.2 - 1 - q.2.1 + sl, q.2.2.1, q.2.2.2 / 2) else none)
  else if q.2.1 ≤ q.1 then some q else some (q.2.1, q.1 + sl, q.2.2.1, q.2.2.2)
def mB (st : Mm) (q : Fq) : Prop := st.1 58 13 = nI q.1 ∧ st.1 58 14 = nI q.2.1 ∧ st.1 58 15 = nI q.2.2.1 ∧ st.1 58 16 = nI q.2.2.2
def LB : List (Nat × Option Nat) := [(58, some 13), (58, some 14), (58, some 15), (58, some 16)]
theorem m_comesBy_ok {st : Mm} {q : Fq} {f sl : Nat} {P : Int32 × Mm → Prop} (hq : mB st q) (h3 : q.2.2.1 < 64) (h4 : q.2.2.2 < 64) (hx : q.1 < q.2.2.1) (hy : q.2.1 < q.2.2.2) (hf : f < 256) (hs : sl < 2)
    (h0 : cb f sl q = none → ∀ s2, Fr LB st s2 → P (0, s2)) (h1 : ∀ z, cb f sl q = some z → ∀ s2, Fr LB st s2 → mB s2 z → P (1, s2)) : Ok (f_m_comesBy (nI f) (nI sl) st) P := by
  obtain ⟨X, Y, W, H⟩ := q
  obtain ⟨e1, e2, e3, e4⟩ := hq
  simp only at e1 e2 e3 e4 h3 h4 hx hy
  have h5 : W / 2 < 64 := by omega
  have h6 : H / 2 < 64 := by omega
  have key : Ok (b_m_comesBy_9 (nI f) (nI sl) st) P := by
    unfold b_m_comesBy_9
    rw [e1, e2, e3, e4]
    simp (disch := omega) only [i_lit, nI_eq, pk_div, nI_ltI, nI_leI, pk_sub, nI_add]
    refine ok_if (fun c1 => ?_) (fun c1 => ok_if (fun c2 => ?_) (fun c2 => ?_))
    · subst c1
      refine ok_if (fun c2 => ?_) (fun c2 => ok_lt ?_)
      · unfold b_m_comesBy_46
        refine ok_lt ?_
        simp (disch := omega) only [i_lit, e1, e2, e3, e4, pk_div, sI_at, Nat.reduceEqDiff, reduceIte, and_true, true_and, and_false, false_and, nI_leI]
        refine ok_f (by omega) (ok_some (h1 (X, Y, W / 2, H) (by simp [cb, c2]) _ (Fr.rf.sI rfl) ?_))
        refine ⟨?_, ?_, ?_, ?_⟩ <;> simp [sI_at, e1, e2, e3, e4]
      · unfold b_m_comesBy_46
        refine ok_lt ?_
        simp (disch := omega) only [i_lit, e1, e2, e3, e4, pk_div, sI_at, Nat.reduceEqDiff, reduceIte, and_true, true_and, and_false, false_and, nI_leI]
        refine ok_if (fun c3 => ?_) (fun c3 => ?_)
        · exact ok_some (h0 (by simp [cb, c2]; omega) _ ((Fr.rf.sI rfl).sI rfl))
        · refine ok_some (h1 (W - 1 - X + sl, Y, W / 2, H) (by simp [cb, c2]; omega) _ ((Fr.rf.sI rfl).sI rfl) ?_)
          refine ⟨?_, ?_, ?_, ?_⟩ <;> simp [sI_at, e1, e2, e3, e4]
    · subst c2
      refine ok_if (fun c2 => ?_) (fun c2 => ok_lt ?_)
      · unfold b_m_comesBy_109
        refine ok_lt ?_
        simp (disch := omega) only [i_lit, e1, e2, e3, e4, pk_div, sI_at, Nat.reduceEqDiff, reduceIte, and_true, true_and, and_false, false_and, nI_leI]
        refine ok_f (by omega) (ok_some (h1 (X, Y, W, H / 2) (by simp [cb, c2]) _ (Fr.rf.sI rfl) ?_))
        refine ⟨?_, ?_, ?_, ?_⟩ <;> simp [sI_at, e1, e2, e3, e4]
      · unfold b_m_comesBy_109
        refine ok_lt ?_
        simp (disch := omega) only [i_lit, e1, e2, e3, e4, pk_div, sI_at, Nat.reduceEqDiff, reduceIte, and_true, true_and, and_false, false_and, nI_leI]
        refine ok_if (fun c3 => ?_) (fun c3 => ?_)
        · exact ok_some (h0 (by simp [cb, c2]; omega) _ ((Fr.rf.sI rfl).sI rfl))
        · refine ok_some (h1 (X, H - 1 - Y + sl, W, H / 2) (by simp [cb, c2]; omega) _ ((Fr.rf.sI rfl).sI rfl) ?_)
          refine ⟨?_, ?_, ?_, ?_⟩ <;> simp [sI_at, e1, e2, e3, e4]
    · refine ok_if (fun c3 => ?_) (fun c3 => ?_)
      · exact ok_some (h1 (X, Y, W, H) (by simp [cb, c1, c2, c3]) _ Fr.rf ⟨e1, e2, e3, e4⟩)
      · refine ok_lt (ok_lt (ok_lt (ok_some (h1 (Y, X + sl, W, H) (by simp [cb, c1, c2, c3]) _ ((Fr.rf.sI rfl).sI rfl) ?_))))
        refine ⟨?_, ?_, ?_, ?_⟩ <;> simp [sI_at, e1, e2, e3, e4, nI_add]
  unfold f_m_comesBy
  rcases (show sl = 0 ∨ sl = 1 by omega) with rfl | rfl
  · exact ok_t rfl key
  · exact ok_f (by decide) key
/-- all folds of a list, the slips by their bits -/
def cbs (sl : Nat → Nat) : List Nat → Nat → Fq → Option Fq
  | [], _, q => some q
  | f :: l, i, q => (cb f (sl i) q).bind (cbs sl l (i + 1))
def cbOk (q : Fq) : Prop := q.2.2.1 < 64 ∧ q.2.2.2 < 64 ∧ q.1 < q.2.2.1 ∧ q.2.1 < q.2.2.2
