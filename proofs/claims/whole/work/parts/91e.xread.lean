/-! recipe: the class's reading state -/
def eS (x : Nat × Nat) : Nat := if x.1 = 0 then 48 else if x.1 = 1 then (if x.2 = 0 then 120 else if x.2 = 1 then 121 else if x.2 = 4 then 108 else 48) else if x.1 = 2 then 43 else if x.1 = 3 then 45 else if x.1 = 4 then 42 else if x.1 = 5 then 47 else if x.1 = 6 then 37 else if x.1 = 7 then 60 else if x.1 = 8 then 62 else if x.1 = 9 then 61 else if x.1 = 10 then 33 else if x.1 = 11 then 38 else 124
def eV (K : Nat → Nat) (x : Nat × Nat) : Nat := if x.1 = 0 then x.2 else if x.1 = 1 then (if x.2 = 2 then K 2 else if x.2 = 3 then K 3 else if x.2 = 5 then K 5 else if x.2 = 6 then K 6 else 0) else if x.1 = 11 then x.2 else if x.1 = 12 then x.2 else 0
def LRd : List (Nat × Option Nat) := [(13, some 6), (13, some 7), (13, some 8), (17, some 3), (18, none), (19, none)]
def EX (T : Txt) (K : Nat → Nat) (s0 : Mm) : Prop := s0.1 13 5 = nI T.1 ∧ (∀ j, j < T.1 → s0.1 21 j = nI (T.2 j)) ∧ TxO T ∧ s0.1 14 1 = nI (K 2) ∧ s0.1 14 2 = nI (K 3) ∧ s0.1 13 10 = nI (K 5) ∧ s0.1 14 0 = nI (K 6)
def XC (K : Nat → Nat) (s0 s : Mm) (p L : Nat) (f : Nat → Nat × Nat) : Prop := Fr LRd s0 s ∧ s.1 13 6 = nI p ∧ s.1 13 7 = 0 ∧ s.1 17 3 = nI L ∧ (∀ j, j < L → s.1 18 j = nI (eS (f j)) ∧ s.1 19 j = nI (eV K (f j))) ∧ p ≤ 160 ∧ L ≤ 160
def FX (s0 s : Mm) (q a : Nat) : Prop := Fr LRd s0 s ∧ (1 ≤ q ∧ q ≤ 6 ∧ a ≤ 160) ∧ s.1 13 7 = nI q ∧ s.1 13 8 = nI a ∧ ∃ L, L ≤ 160 ∧ s.1 17 3 = nI L
theorem XC.pos {K : Nat → Nat} {s0 s : Mm} {p L p2 : Nat} {f : Nat → Nat × Nat} (h : XC K s0 s p L f) (h2 : p2 ≤ 160) : XC K s0 (sI s 13 6 (nI p2)) p2 L f := by
  obtain ⟨a1, a2, a3, a4, a5, a6, a7⟩ := h
  exact ⟨a1.sI rfl, sI_self _ _ _ _, by rw [sI_col _ _ _ _ (by decide)]; exact a3, by rw [sI_row _ _ _ _ (by decide)]; exact a4, fun j hj => by rw [sI_row _ _ _ _ (by decide), sI_row _ _ _ _ (by decide)]; exact a5 j hj, h2, a7⟩
theorem XC.put {K : Nat → Nat} {s0 s : Mm} {p L : Nat} {x : Nat × Nat} {f : Nat → Nat × Nat} (h : XC K s0 s p L f) (h2 : L < 160) : XC K s0 (sI (sI (sI s 18 L (nI (eS x))) 19 L (nI (eV K x))) 17 3 (nI (L + 1))) p (L + 1) (uc f L x) := by
  obtain ⟨a1, a2, a3, a4, a5, a6, a7⟩ := h
  refine ⟨((a1.sI (by simp [inL, LRd])).sI (by simp [inL, LRd])).sI rfl, ?_, ?_, sI_self _ _ _ _, fun j hj => ?_, a6, by omega⟩
  · rw [sI_row _ _ _ _ (by decide), sI_row _ _ _ _ (by decide), sI_row _ _ _ _ (by decide)]; exact a2
  · rw [sI_row _ _ _ _ (by decide), sI_row _ _ _ _ (by decide), sI_row _ _ _ _ (by decide)]; exact a3
  · rw [sI_row _ _ _ _ (show 18 ≠ 17 by decide), sI_row _ _ _ _ (show 19 ≠ 17 by decide), sI_row _ _ _ _ (show 18 ≠ 19 by decide)]
    by_cases e : j = L
    · rw [e, sI_self, sI_self, uc_s]; exact ⟨rfl, rfl⟩
    · rw [sI_col _ _ _ _ e, sI_col _ _ _ _ e, sI_row _ _ _ _ (show 19 ≠ 18 by decide), uc_n _ _ e]; exact a5 j (by omega)
theorem XC.aim {K : Nat → Nat} {s0 s : Mm} {p L i a : Nat} {f : Nat → Nat × Nat} (h : XC K s0 s p L f) (ho : (f i).1 = a) (ha : a = 11 ∨ a = 12) : XC K s0 (sI s 19 i (nI L)) p L (uc f i (a, L)) := by
  obtain ⟨a1, a2, a3, a4, a5, a6, a7⟩ := h
  refine ⟨a1.sI (by simp [inL, LRd]), by rw [sI_row _ _ _ _ (by decide)]; exact a2, by rw [sI_row _ _ _ _ (by decide)]; exact a3, by rw [sI_row _ _ _ _ (by decide)]; exact a4, fun j hj => ?_, a6, a7⟩
  rw [sI_row _ _ _ _ (show 18 ≠ 19 by decide)]
  by_cases e : j = i
  · rw [e, sI_self, uc_s]
    have h5 := a5 i (by omega)
    refine ⟨?_, ?_⟩
    · rw [h5.1]
      unfold eS
      rw [ho]
      rcases ha with e2 | e2 <;> rw [e2] <;> rfl
    · rcases ha with e2 | e2 <;> rw [e2] <;> rfl
  · rw [sI_col _ _ _ _ e, uc_n _ _ e]; exact a5 j (by omega)
theorem XC.bad {K : Nat → Nat} {s0 s : Mm} {p L q a : Nat} {f : Nat → Nat × Nat} (h : XC K s0 s p L f) (hq : 1 ≤ q ∧ q ≤ 6 ∧ a ≤ 160) : FX s0 (sI (sI s 13 7 (nI q)) 13 8 (nI a)) q a := by
  obtain ⟨a1, a2, a3, a4, a5, a6, a7⟩ := h
  exact ⟨(a1.sI rfl).sI rfl, hq, by rw [sI_col _ _ _ _ (by decide), sI_self], sI_self _ _ _ _, L, a7, by rw [sI_row _ _ _ _ (by decide), sI_row _ _ _ _ (by decide)]; exact a4⟩
theorem x_lookT {T : Txt} {s : Mm} {p : Nat} (h5 : s.1 13 5 = nI T.1) (h6 : s.1 13 6 = nI p) (h21 : ∀ j, j < T.1 → s.1 21 j = nI (T.2 j)) (hT : TxO T) (hp : p ≤ 160) : f_Rdr_look s = some (chI T p, s) := by
  unfold f_Rdr_look chI
  have := hT.1
  rw [h5, h6, if_neg (nI_pos (by omega))]
  by_cases h : p < T.1
  · rw [if_neg (by rw [nI_leI (by omega) (by omega)]; omega), if_pos (inb_nI (by omega) (by omega)), cl_nI (by omega), h21 p h, if_pos h]
  · rw [if_pos (nI_le (by omega) (by omega)), if_neg h]
theorem XC.look {T : Txt} {K : Nat → Nat} {s0 s : Mm} {p L : Nat} {f : Nat → Nat × Nat} (hE : EX T K s0) (h : XC K s0 s p L f) : f_Rdr_look s = some (chI T p, s) :=
  x_lookT (by rw [h.1 13 5 rfl]; exact hE.1) h.2.1 (fun j hj => by rw [h.1 21 j rfl]; exact hE.2.1 j hj) hE.2.2.1 h.2.2.2.2.2.1
theorem x_sees (s : Mm) : f_Rdr_seesDigit s = (f_Rdr_look s).bind (fun q1 => if q1.1 < (48 : Int32) then (some ((0 : Int32), q1.2)) else (if (57 : Int32) < q1.1 then (some ((0 : Int32), q1.2)) else (some ((1 : Int32), q1.2)))) := by
  unfold f_Rdr_seesDigit f_Rdr_look
  by_cases h1 : s.1 13 6 < 0
  · rw [if_pos h1, if_pos h1, Option.bind_some]
    exact (if_pos (show (-1 : Int32) < 48 by decide)).symm
  · rw [if_neg h1, if_neg h1]
    by_cases h2 : s.1 13 5 ≤ s.1 13 6
    · rw [if_pos h2, if_pos h2, Option.bind_some]
      exact (if_pos (show (-1 : Int32) < 48 by decide)).symm
    · rw [if_neg h2, if_neg h2]
      by_cases h3 : inb (s.1 13 6) 160
      · rw [if_pos h3, if_pos h3, if_pos h3]
        all_goals rfl
      · rw [if_neg h3, if_neg h3]
        all_goals rfl
theorem x_digT {T : Txt} {s : Mm} {p : Nat} (hT : TxO T) (h : f_Rdr_look s = some (chI T p, s)) : f_Rdr_seesDigit s = some (bI (isD T p), s) := by
  rw [x_sees, h]
  simp only [Option.bind_some]
  rw [dig_cmp hT]
  cases isD T p <;> rfl
theorem XC.fail {K : Nat → Nat} {s0 s : Mm} {p L q : Nat} {f : Nat → Nat × Nat} (h : XC K s0 s p L f) (hq : 1 ≤ q ∧ q ≤ 6) (a : Nat) (ha : a ≤ p := by omega) : ∃ s2, f_Rdr_fail (nI q) (nI a) s = some ((), s2) ∧ FX s0 s2 q a := by
  refine ⟨_, ?_, h.bad ⟨hq.1, hq.2, by have := h.2.2.2.2.2.1; omega⟩⟩
  unfold f_Rdr_fail
  rw [h.2.2.1, if_pos rfl]
theorem XC.putE {K : Nat → Nat} {s0 s : Mm} {p L : Nat} {f : Nat → Nat × Nat} (x : Nat × Nat) (h : XC K s0 s p L f) (h2 : L < 160) : ∃ s2, f_Cond_put (nI (eS x)) (nI (eV K x)) s = some (nI L, s2) ∧ XC K s0 s2 p (L + 1) (uc f L x) := by
  refine ⟨_, ?_, h.put h2⟩
  unfold f_Cond_put
  rw [h.2.2.2.1, if_pos (show nI L < (160 : Int32) from show nI L < nI 160 by rw [nI_ltI (by omega) (by omega)]; omega), if_pos (inb_nI h2 (by omega)), cl_nI (by omega), sI_row _ _ _ _ (show 17 ≠ 18 by decide), h.2.2.2.1, if_pos (inb_nI h2 (by omega)), cl_nI (by omega), sI_row _ _ _ _ (show 17 ≠ 19 by decide), sI_row _ _ _ _ (show 17 ≠ 18 by decide), h.2.2.2.1, nI_1, lt_eq, sI_self, nI_pred]
theorem XC.aimE {K : Nat → Nat} {s0 s : Mm} {p L i a : Nat} {f : Nat → Nat × Nat} (h : XC K s0 s p L f) (hi : i < L) (ho : (f i).1 = a) (ha : a = 11 ∨ a = 12) : ∃ s2, f_Cond_aimHere (nI i) s = some ((), s2) ∧ XC K s0 s2 p L (uc f i (a, L)) := by
  have h7 := h.2.2.2.2.2.2
  refine ⟨_, ?_, h.aim ho ha⟩
  unfold f_Cond_aimHere
  rw [if_neg (nI_pos (by omega)), h.2.2.2.1, if_neg (by rw [nI_leI (by omega) (by omega)]; omega), lt_eq, if_pos (inb_nI (by omega) (by omega)), cl_nI (by omega)]
theorem x_aim_no (s : Mm) : f_Cond_aimHere (-1) s = some ((), s) := by
  unfold f_Cond_aimHere
  rw [if_pos (by decide)]
theorem XC.take {T : Txt} {K : Nat → Nat} {s0 s : Mm} {p L c : Nat} {f : Nat → Nat × Nat} (hE : EX T K s0) (h : XC K s0 s p L f) (hc : c < 256) : (chn T p = c → ∃ s2, f_Rdr_take (nI c) s = some ((), s2) ∧ XC K s0 s2 (p + 1) L f) ∧ (chn T p ≠ c → ∃ s2, f_Rdr_take (nI c) s = some ((), s2) ∧ FX s0 s2 1 p) := by
  have h160 := hE.2.2.1.1
  constructor
  · intro hp
    have hin := ch_in (show chn T p < 256 by omega)
    refine ⟨_, ?_, h.pos (p2 := p + 1) (by omega)⟩
    unfold f_Rdr_take
    rw [h.2.2.1, if_pos rfl, h.look hE]
    simp only [Option.bind_some]
    rw [if_pos ((chI_eq hE.2.2.1 hc).mpr hp), h.2.1, nI_1, lt_eq]
  · intro hp
    obtain ⟨s2, e2, h2⟩ := h.fail (q := 1) (by omega) p
    refine ⟨s2, ?_, h2⟩
    unfold f_Rdr_take
    rw [h.2.2.1, if_pos rfl, h.look hE]
    simp only [Option.bind_some]
    rw [if_neg (fun e => hp ((chI_eq hE.2.2.1 hc).mp e)), h.2.1, show f_Rdr_fail (1 : Int32) (nI p) s = _ from e2]
    rfl
/-! behind a fault -/
theorem FX.ne {s0 s : Mm} {q a : Nat} (h : FX s0 s q a) : ¬ s.1 13 7 = 0 := by
  rw [h.2.2.1]
  intro e
  have h2 := h.2.1
  have := (nI_eq (by omega) (by omega)).mp (show nI q = nI 0 from e)
  omega
theorem FX.at {s0 s : Mm} {q a : Nat} (h : FX s0 s q a) (w : Int32) : FX s0 (sI s 13 6 w) q a := by
  obtain ⟨a1, a2, a3, a4, L, a5, a6⟩ := h
  exact ⟨a1.sI rfl, a2, by rw [sI_col _ _ _ _ (by decide)]; exact a3, by rw [sI_col _ _ _ _ (by decide)]; exact a4, L, a5, by rw [sI_row _ _ _ _ (by decide)]; exact a6⟩
theorem FX.look {T : Txt} {K : Nat → Nat} {s0 s : Mm} {q a : Nat} (hE : EX T K s0) (h : FX s0 s q a) : ∃ r, f_Rdr_look s = some (r, s) := by
  have h160 := hE.2.2.1.1
  unfold f_Rdr_look
  by_cases h1 : s.1 13 6 < 0
  · exact ⟨-1, by rw [if_pos h1]⟩
  · rw [if_neg h1, h.1 13 5 rfl, hE.1]
    by_cases h2 : nI T.1 ≤ s.1 13 6
    · exact ⟨-1, by rw [if_pos h2]⟩
    · rw [if_neg h2]
      refine ⟨s.1 21 (s.1 13 6).toNatClampNeg, if_pos ?_⟩
      obtain ⟨k, k1, k2⟩ := nI_of h1
      rw [k2] at h2 ⊢
      rw [nI_leI (by omega) (by omega)] at h2
      exact inb_nI (by omega) (by omega)
theorem FX.fail {s0 s : Mm} {q a : Nat} (h : FX s0 s q a) (v w : Int32) : f_Rdr_fail v w s = some ((), s) := by
  unfold f_Rdr_fail
  rw [if_neg h.ne]
theorem FX.take {s0 s : Mm} {q a : Nat} (h : FX s0 s q a) (v : Int32) : f_Rdr_take v s = some ((), s) := by
  unfold f_Rdr_take
  rw [if_neg h.ne]
theorem FX.put {s0 s : Mm} {q a : Nat} (h : FX s0 s q a) (v w : Int32) : ∃ r s2, f_Cond_put v w s = some (r, s2) ∧ FX s0 s2 q a := by
  obtain ⟨a1, a2, a3, a4, L, a5, a6⟩ := h
  unfold f_Cond_put
  rw [a6]
  by_cases hL : L < 160
  · rw [if_pos (show nI L < (160 : Int32) from show nI L < nI 160 by rw [nI_ltI (by omega) (by omega)]; omega), if_pos (inb_nI hL (by omega)), cl_nI (by omega), sI_row _ _ _ _ (show 17 ≠ 18 by decide), a6, if_pos (inb_nI hL (by omega)), cl_nI (by omega), sI_row _ _ _ _ (show 17 ≠ 19 by decide), sI_row _ _ _ _ (show 17 ≠ 18 by decide), a6, nI_1, lt_eq]
    refine ⟨_, _, rfl, ((a1.sI (by simp [inL, LRd])).sI (by simp [inL, LRd])).sI rfl, a2, ?_, ?_, L + 1, by omega, sI_self _ _ _ _⟩
    · rw [sI_row _ _ _ _ (by decide), sI_row _ _ _ _ (by decide), sI_row _ _ _ _ (by decide)]; exact a3
    · rw [sI_row _ _ _ _ (by decide), sI_row _ _ _ _ (by decide), sI_row _ _ _ _ (by decide)]; exact a4
  · rw [if_neg (show ¬ nI L < (160 : Int32) from show ¬ nI L < nI 160 by rw [nI_ltI (by omega) (by omega)]; omega)]
    exact ⟨_, s, rfl, a1, a2, a3, a4, L, a5, a6⟩
theorem FX.aim {s0 s : Mm} {q a : Nat} (h : FX s0 s q a) (v : Int32) : ∃ s2, f_Cond_aimHere v s = some ((), s2) ∧ FX s0 s2 q a := by
  have h0 := h
  obtain ⟨a1, a2, a3, a4, L, a5, a6⟩ := h
  unfold f_Cond_aimHere
  by_cases h1 : v < 0
  · exact ⟨s, by rw [if_pos h1], h0⟩
  · rw [if_neg h1, a6]
    by_cases h2 : nI L ≤ v
    · exact ⟨s, by rw [if_pos h2], h0⟩
    · obtain ⟨k, k1, k2⟩ := nI_of h1
      rw [if_neg h2, lt_eq]
      rw [k2] at h2 ⊢
      rw [nI_leI (by omega) (by omega)] at h2
      refine ⟨_, if_pos (inb_nI (by omega) (by omega)), a1.sI (by simp [inL, LRd]), a2, ?_, ?_, L, a5, ?_⟩
      · rw [sI_row _ _ _ _ (by decide)]; exact a3
      · rw [sI_row _ _ _ _ (by decide)]; exact a4
      · rw [sI_row _ _ _ _ (by decide)]; exact a6
theorem FX.may {s0 s : Mm} {q a : Nat} (h : FX s0 s q a) (v : Int32) : f_Rdr_mayOpen v s = some (0, s) := by
  unfold f_Rdr_mayOpen b_Rdr_mayOpen_15
  rw [h.fail]
  simp only [Option.bind_some]
  rw [if_neg h.ne]
  split <;> rfl
def rdC (N : Nat) : Int32 → Mm → Option (Unit × Mm) := (R_Rd N).1
def rdP (N : Nat) : Int32 → Mm → Option (Unit × Mm) := (R_Rd N).2.1
def rdI (N : Nat) : Int32 → Mm → Option (Unit × Mm) := (R_Rd N).2.2.1
def rdS (N : Nat) : Int32 → Mm → Option (Unit × Mm) := (R_Rd N).2.2.2.1
def rdT (N : Nat) : Int32 → Mm → Option (Unit × Mm) := (R_Rd N).2.2.2.2.1
def rdF (N : Nat) : Int32 → Mm → Option (Unit × Mm) := (R_Rd N).2.2.2.2.2
theorem FX.fac {s0 s : Mm} {q a N : Nat} (h : FX s0 s q a) (v : Int32) : rdF (N + 1) v s = some ((), s) := by
  show f_Rdr_readFactor (rdC N) (rdP N) (rdI N) (rdS N) (rdT N) (rdF N) v s = _
  unfold f_Rdr_readFactor
  rw [if_neg h.ne]
theorem FX.trm7 {s0 s : Mm} {q a : Nat} {g1 g2 g3 g4 g5 g6 : Int32 → Mm → Option (Unit × Mm)} (h : FX s0 s q a) (m : Nat) (v w : Int32) : f_Rdr_readTerm_7 g1 g2 g3 g4 g5 g6 (m + 1) v w s = some ((), s) := by
  show b_Rdr_readTerm_7 _ _ _ _ _ _ _ v w s = _
  unfold b_Rdr_readTerm_7
  rw [if_neg h.ne]
  split <;> rfl
theorem FX.sum7 {s0 s : Mm} {q a : Nat} {g1 g2 g3 g4 g5 g6 : Int32 → Mm → Option (Unit × Mm)} (h : FX s0 s q a) (m : Nat) (v w : Int32) : f_Rdr_readSum_7 g1 g2 g3 g4 g5 g6 (m + 1) v w s = some ((), s) := by
  show b_Rdr_readSum_7 _ _ _ _ _ _ _ v w s = _
  unfold b_Rdr_readSum_7
  rw [if_neg h.ne]
  split <;> rfl
theorem FX.trm {s0 s : Mm} {q a N : Nat} (h : FX s0 s q a) (v : Int32) : rdT (N + 2) v s = some ((), s) := by
  show ((rdF (N + 1) v s).bind (fun q1 => f_Rdr_readTerm_7 _ _ _ _ _ _ 1000000 v (0 : Int32) q1.2)) = _
  rw [h.fac]
  exact h.trm7 999999 v 0
theorem FX.sum {s0 s : Mm} {q a N : Nat} (h : FX s0 s q a) (v : Int32) : rdS (N + 3) v s = some ((), s) := by
  show ((rdT (N + 2) v s).bind (fun q1 => f_Rdr_readSum_7 _ _ _ _ _ _ 1000000 v (0 : Int32) q1.2)) = _
  rw [h.trm]
  exact h.sum7 999999 v 0
theorem FX.prt4 {s0 s : Mm} {q a : Nat} {g1 g2 g3 g4 g5 g6 : Int32 → Mm → Option (Unit × Mm)} (h : FX s0 s q a) (m : Nat) (v j w : Int32) : f_Rdr_readPart_4 g1 g2 g3 g4 g5 g6 (m + 1) v j w s = some ((), s) := by
  show b_Rdr_readPart_4 _ _ _ _ _ _ _ v j w s = _
  unfold b_Rdr_readPart_4
  rw [if_neg h.ne]
  split <;> rfl
theorem FX.cnd4 {s0 s : Mm} {q a : Nat} {g1 g2 g3 g4 g5 g6 : Int32 → Mm → Option (Unit × Mm)} (h : FX s0 s q a) (m : Nat) (v j w : Int32) : f_Rdr_readCondition_4 g1 g2 g3 g4 g5 g6 (m + 1) v j w s = some ((), s) := by
  show b_Rdr_readCondition_4 _ _ _ _ _ _ _ v j w s = _
  unfold b_Rdr_readCondition_4
  rw [if_neg h.ne]
  split <;> rfl
/-! the code's heights: 100 stands for a truth -/
def stp (a h : Nat) : Option Nat := if a ≤ 1 then (if h < 40 then some (h + 1) else none) else if a ≤ 6 then (if 2 ≤ h ∧ h < 100 then some (h - 1) else none) else if a ≤ 9 then (if h = 2 then some 100 else none) else if a = 10 then (if h = 100 then some 100 else none) else (if h = 100 then some 0 else none)
def hts (f : Nat → Nat × Nat) : Nat → Option Nat
  | 0 => some 0
  | k + 1 => (hts f k).bind (stp (f k).1)
theorem hts_ops {f g : Nat → Nat × Nat} : ∀ k, (∀ j, j < k → (f j).1 = (g j).1) → hts f k = hts g k
  | 0, _ => rfl
  | k + 1, h => by
    show (hts f k).bind (stp (f k).1) = (hts g k).bind (stp (g k).1)
    rw [hts_ops k (fun j hj => h j (by omega)), h k (by omega)]
theorem hts_eq {f g : Nat → Nat × Nat} {k : Nat} (h : ∀ j, j < k → f j = g j) : hts f k = hts g k := hts_ops k (fun j hj => by rw [h j hj])
def vcd (x : Nat × Nat) : Prop := x.1 ≤ 12 ∧ x.2 < 1048576 ∧ (x.1 = 1 → x.2 ≤ 6)
def jmp (x : Nat × Nat) : Prop := x.1 = 11 ∨ x.1 = 12
def JOK (f : Nat → Nat × Nat) (a b : Nat) : Prop := ∀ j, a ≤ j → j < b → jmp (f j) → j < (f j).2 ∧ (f j).2 ≤ b ∧ hts f (f j).2 = some 100
def Ext (T : Txt) (p L : Nat) (f : Nat → Nat × Nat) (p2 L2 : Nat) (f2 : Nat → Nat × Nat) (h2 : Nat) : Prop := p < p2 ∧ p2 ≤ T.1 ∧ L ≤ L2 ∧ L2 + p ≤ L + p2 ∧ (∀ j, j < L → f2 j = f j) ∧ hts f2 L2 = some h2 ∧ (∀ j, L ≤ j → j < L2 → vcd (f2 j)) ∧ JOK f2 L L2
theorem Ext.tr {T : Txt} {p L p2 L2 p3 L3 h2 h3 : Nat} {f f2 f3 : Nat → Nat × Nat} (a : Ext T p L f p2 L2 f2 h2) (b : Ext T p2 L2 f2 p3 L3 f3 h3) : Ext T p L f p3 L3 f3 h3 := by
  obtain ⟨a1, a2, a3, a4, a5, a6, a7, a8⟩ := a
  obtain ⟨b1, b2, b3, b4, b5, b6, b7, b8⟩ := b
  refine ⟨by omega, b2, by omega, by omega, fun j hj => by rw [b5 j (by omega)]; exact a5 j hj, b6, fun j j1 j2 => ?_, fun j j1 j2 j3 => ?_⟩
  · rcases Nat.lt_or_ge j L2 with g | g
    · rw [b5 j g]; exact a7 j j1 g
    · exact b7 j g j2
  · rcases Nat.lt_or_ge j L2 with g | g
    · rw [b5 j g] at j3 ⊢
      have := a8 j j1 g j3
      exact ⟨this.1, by omega, by rw [hts_eq (g := f2) (fun i hi => b5 i (by omega))]; exact this.2.2⟩
    · exact b8 j g j2 j3
/-- one code behind a reading that began a sign later -/
theorem Ext.put {T : Txt} {p L p3 L3 h3 h4 a : Nat} {f f3 : Nat → Nat × Nat} (e : Ext T (p + 1) L f p3 L3 f3 h3) (hs : stp a h3 = some h4) (ha : a ≤ 10) (h1 : a ≠ 1) : Ext T p L f p3 (L3 + 1) (uc f3 L3 (a, 0)) h4 := by
  obtain ⟨b1, b2, b3, b4, b5, b6, b7, b8⟩ := e
  have ag : ∀ j, j < L3 → uc f3 L3 (a, 0) j = f3 j := fun j hj => uc_n _ _ (by omega)
  refine ⟨by omega, b2, by omega, by omega, fun j hj => by rw [ag j (by omega)]; exact b5 j hj, ?_, fun j j1 j2 => ?_, fun j j1 j2 j3 => ?_⟩
  · show (hts (uc f3 L3 (a, 0)) L3).bind (stp (uc f3 L3 (a, 0) L3).1) = some h4
    rw [hts_eq ag, b6, uc_s]
    exact hs
  · rcases Nat.lt_or_ge j L3 with g | g
    · rw [ag j g]; exact b7 j j1 g
    · rw [show j = L3 by omega, uc_s]; exact ⟨show a ≤ 12 by omega, show 0 < 1048576 by omega, fun e => absurd e h1⟩
  · rcases Nat.lt_or_ge j L3 with g | g
    · rw [ag j g] at j3 ⊢
      have := b8 j j1 g j3
      exact ⟨this.1, by omega, by rw [hts_eq (g := f3) (fun i hi => ag i (by omega))]; exact this.2.2⟩
    · rw [show j = L3 by omega, uc_s] at j3
      unfold jmp at j3
      have j4 : a = 11 ∨ a = 12 := j3
      omega
/-- a jump between two readings, aimed behind the second -/
theorem Ext.jump {T : Txt} {p L p2 L2 p3 L3 a : Nat} {f f2 f3 : Nat → Nat × Nat} (e : Ext T p L f p2 L2 f2 100) (b : Ext T (p2 + 1) (L2 + 1) (uc f2 L2 (a, 0)) p3 L3 f3 100) (ha : a = 11 ∨ a = 12) (h160 : L3 ≤ 160) : Ext T p L f p3 L3 (uc f3 L2 (a, L3)) 100 := by
  obtain ⟨a1, a2, a3, a4, a5, a6, a7, a8⟩ := e
  obtain ⟨b1, b2, b3, b4, b5, b6, b7, b8⟩ := b
  have lo : ∀ j, j < L2 → uc f3 L2 (a, L3) j = f2 j := fun j hj => by rw [uc_n _ _ (by omega), b5 j (by omega), uc_n _ _ (by omega)]
  have ops : ∀ j, (uc f3 L2 (a, L3) j).1 = (f3 j).1 := fun j => by
    by_cases g : j = L2
    · rw [g, uc_s, b5 L2 (by omega), uc_s]
    · rw [uc_n _ _ g]
  refine ⟨by omega, b2, by omega, by omega, fun j hj => by rw [lo j (by omega)]; exact a5 j hj, by rw [hts_ops L3 (fun j _ => ops j)]; exact b6, fun j j1 j2 => ?_, fun j j1 j2 j3 => ?_⟩
  · rcases Nat.lt_trichotomy j L2 with g | g | g
    · rw [lo j g]; exact a7 j j1 g
    · rw [g, uc_s]; exact ⟨show a ≤ 12 by omega, show L3 < 1048576 by omega, fun e => by have e2 : a = 1 := e; omega⟩
    · rw [uc_n _ _ (by omega)]; exact b7 j g j2
  · rcases Nat.lt_trichotomy j L2 with g | g | g
    · rw [lo j g] at j3 ⊢
      have := a8 j j1 g j3
      exact ⟨this.1, by omega, by rw [hts_eq (g := f2) (fun i hi => lo i (by omega))]; exact this.2.2⟩
    · rw [g, uc_s]
      exact ⟨show L2 < L3 by omega, Nat.le_refl _, by rw [hts_ops L3 (fun j _ => ops j)]; exact b6⟩
    · rw [uc_n _ _ (by omega)] at j3 ⊢
      have := b8 j g j2 j3
      exact ⟨this.1, this.2.1, by rw [hts_ops _ (fun j _ => ops j)]; exact this.2.2⟩
