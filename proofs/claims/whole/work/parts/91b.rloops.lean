/-! recipe: the reference's loops over what waits -/
def cloS (all : Bool) (a : Nat) : Bool := (decide (4 ≤ a) && decide (a ≤ 6)) || (all && (decide (a = 2) || decide (a = 3)))
def lan (all : Bool) (a : Nat) : Bool := decide (a = 11) || (all && decide (a = 12))
def topN (q : Nat → Bool) : List (Nat × Nat) → Prop
  | [] => True
  | x :: _ => q x.1 = false
def emit (f : Nat → Nat × Nat) (L : Nat) : List (Nat × Nat) → (Nat → Nat × Nat)
  | [] => f
  | x :: r => emit (uc f L (x.1, 0)) (L + 1) r
theorem emit_snoc : ∀ (pd : List (Nat × Nat)) (f : Nat → Nat × Nat) (L : Nat) (x : Nat × Nat), emit f L (pd ++ [x]) = uc (emit f L pd) (L + pd.length) (x.1, 0)
  | [], f, L, x => rfl
  | y :: r, f, L, x => by
    show emit (uc f L (y.1, 0)) (L + 1) (r ++ [x]) = uc (emit (uc f L (y.1, 0)) (L + 1) r) (L + (r.length + 1)) (x.1, 0)
    rw [emit_snoc r, show L + 1 + r.length = L + (r.length + 1) by omega]
theorem nI4 {a : Nat} (ha : a ≤ 14) : (nI a < (4 : Int32)) ↔ a < 4 := by rw [i_lit 4, nI_ltI (by omega) (by omega)]
theorem nIe {a c : Nat} (ha : a < 2 ^ 31) (hc : c < 2 ^ 31) : (nI a = nI c) ↔ a = c := nI_eq ha hc
theorem m_closes_no {s0 s : Mm} {p o L n : Nat} {all : Bool} {σ : List (Nat × Nat)} {f : Nat → Nat × Nat} (h : CM s0 s p o σ L f) (ht : topN (cloS all) σ) : f_m_closesSums_0 (n + 1) (bI all) s = some ((), s) := by
  show b_m_closesSums_0 (f_m_closesSums_0 n) (bI all) s = _
  unfold b_m_closesSums_0 b_m_closesSums_17
  cases σ with
  | nil =>
    rw [m_waitTop_nil h]
    simp only [Option.bind_some]
    rw [if_pos (by decide)]
    cases all with
    | false => rfl
    | true =>
      rw [if_neg (by decide), m_waitTop_nil h]
      simp only [Option.bind_some]
      rw [if_neg (by decide), m_waitTop_nil h]
      rfl
  | cons x r =>
    have hv := h.2.2.2.2.1.2.1.1
    have hx : cloS all x.1 = false := ht
    unfold cloS at hx
    rw [Bool.or_eq_false_iff] at hx
    have hw := m_waitTop_c h
    have b17 : (if bI all = 0 then some ((), s) else (f_m_waitTop s).bind (fun q2 => if q2.1 = (2 : Int32) then b_m_closesSums_37 (f_m_closesSums_0 n) (bI all) q2.2 else (f_m_waitTop q2.2).bind (fun q4 => if q4.1 = (3 : Int32) then b_m_closesSums_37 (f_m_closesSums_0 n) (bI all) q4.2 else some ((), q4.2)))) = some ((), s) := by
      cases all with
      | false => rfl
      | true =>
        have h2 := hx.2
        rw [Bool.true_and, Bool.or_eq_false_iff] at h2
        have e2 := of_decide_eq_false h2.1
        have e3 := of_decide_eq_false h2.2
        rw [if_neg (by decide), hw]
        simp only [Option.bind_some]
        rw [if_neg (show ¬ nI x.1 = (2 : Int32) from fun e => e2 ((nIe (by omega) (by omega)).mp (show nI x.1 = nI 2 from e))), hw]
        simp only [Option.bind_some]
        rw [if_neg (show ¬ nI x.1 = (3 : Int32) from fun e => e3 ((nIe (by omega) (by omega)).mp (show nI x.1 = nI 3 from e)))]
    rw [hw]
    simp only [Option.bind_some]
    by_cases h4 : x.1 < 4
    · rw [if_pos ((nI4 hv).mpr h4)]
      exact b17
    · rw [if_neg (fun e => h4 ((nI4 hv).mp e)), hw]
      simp only [Option.bind_some]
      have h6 : ¬ x.1 ≤ 6 := fun e => by
        have := hx.1
        rw [decide_eq_true (show 4 ≤ x.1 by omega), decide_eq_true e] at this
        cases this
      rw [if_neg (show ¬ nI x.1 ≤ (6 : Int32) from fun e => h6 ((nI_leI (by omega) (by omega)).mp (show nI x.1 ≤ nI 6 from e)))]
      exact b17
theorem m_closes_yes {s0 s : Mm} {p o L n : Nat} {all : Bool} {x : Nat × Nat} {σ : List (Nat × Nat)} {f : Nat → Nat × Nat} (h : CM s0 s p o (x :: σ) L f) (hx : cloS all x.1 = true) (hL : L < p) : ∃ s2, f_m_closesSums_0 (n + 1) (bI all) s = f_m_closesSums_0 n (bI all) s2 ∧ CM s0 s2 p o σ (L + 1) (uc f L (x.1, 0)) := by
  have hv := h.2.2.2.2.1.2.1.1
  have hp := h.2.2.2.2.2.2.2.2.2
  have hn := h.note (x := (x.1, 0)) hL ⟨hv, show 0 < 1048576 by omega⟩
  refine ⟨_, ?_, hn.pop⟩
  have hw := m_waitTop_c h
  have b37 : b_m_closesSums_37 (f_m_closesSums_0 n) (bI all) s = f_m_closesSums_0 n (bI all) (sI (sI (sI s 66 L (enw (x.1, 0))) 58 24 (nI (L + 1))) 58 25 (nI σ.length)) := by
    unfold b_m_closesSums_37
    rw [hw]
    simp only [Option.bind_some]
    rw [show f_m_notes (nI x.1) (0 : Int32) s = _ from m_notes_eq (a := x.1) (b := 0) h.2.2.2.2.2.1 (by omega)]
    simp only [Option.bind_some]
    rw [sI_col _ _ _ _ (by decide), sI_row _ _ _ _ (by decide), h.2.2.2.1, List.length_cons, nI_pred, lt_eq]
  show b_m_closesSums_0 (f_m_closesSums_0 n) (bI all) s = _
  unfold b_m_closesSums_0 b_m_closesSums_17
  rw [hw]
  simp only [Option.bind_some]
  unfold cloS at hx
  rw [Bool.or_eq_true] at hx
  by_cases h4 : x.1 < 4
  · rw [if_pos ((nI4 hv).mpr h4)]
    rcases hx with hx | hx
    · rw [Bool.and_eq_true, decide_eq_true_eq] at hx; omega
    · rw [Bool.and_eq_true, Bool.or_eq_true, decide_eq_true_eq, decide_eq_true_eq] at hx
      rw [hx.1] at b37 ⊢
      rw [if_neg (by decide), hw]
      simp only [Option.bind_some]
      by_cases e2 : x.1 = 2
      · rw [if_pos (show nI x.1 = (2 : Int32) by rw [e2]; rfl)]; exact b37
      · have e3 : x.1 = 3 := by omega
        rw [if_neg (show ¬ nI x.1 = (2 : Int32) from fun e => e2 ((nIe (by omega) (by omega)).mp (show nI x.1 = nI 2 from e))), hw]
        simp only [Option.bind_some]
        rw [if_pos (show nI x.1 = (3 : Int32) by rw [e3]; rfl)]; exact b37
  · rw [if_neg (fun e => h4 ((nI4 hv).mp e)), hw]
    simp only [Option.bind_some]
    have h6 : x.1 ≤ 6 := by
      rcases hx with hx | hx
      · rw [Bool.and_eq_true, decide_eq_true_eq, decide_eq_true_eq] at hx; omega
      · rw [Bool.and_eq_true, Bool.or_eq_true, decide_eq_true_eq, decide_eq_true_eq] at hx; omega
    rw [if_pos (show nI x.1 ≤ (6 : Int32) from show nI x.1 ≤ nI 6 from nI_le h6 (by omega))]
    exact b37
theorem m_closes_ok {s0 : Mm} {p o : Nat} {all : Bool} {σ : List (Nat × Nat)} (ht : topN (cloS all) σ) : ∀ (pd : List (Nat × Nat)) n s L f, CM s0 s p o (pd ++ σ) L f → (∀ x, x ∈ pd → cloS all x.1 = true) → L + pd.length ≤ p → pd.length + 1 ≤ n → ∃ s2, f_m_closesSums_0 n (bI all) s = some ((), s2) ∧ CM s0 s2 p o σ (L + pd.length) (emit f L pd)
  | [], n, s, L, f, h, _, _, hn => by
    obtain ⟨n, rfl⟩ := nat_suc hn
    exact ⟨s, m_closes_no h ht, h⟩
  | x :: r, n, s, L, f, h, hc, hL, hn => by
    obtain ⟨n, rfl⟩ := nat_suc hn
    rw [List.length_cons] at hL hn
    obtain ⟨s2, e, h2⟩ := m_closes_yes (n := n) h (hc x (List.mem_cons_self)) (by omega)
    obtain ⟨s3, e3, h3⟩ := m_closes_ok ht r n s2 (L + 1) _ h2 (fun y hy => hc y (List.mem_cons_of_mem _ hy)) (by omega) (by omega)
    refine ⟨s3, e.trans e3, ?_⟩
    rw [List.length_cons, show L + (r.length + 1) = L + 1 + r.length by omega]
    exact h3
/-! where jumps land -/
def land (f : Nat → Nat × Nat) (L : Nat) : List (Nat × Nat) → (Nat → Nat × Nat)
  | [] => f
  | x :: r => land (uc f x.2 (x.1, L)) L r
def lok (f : Nat → Nat × Nat) (L : Nat) (q : List (Nat × Nat)) : Prop := ∀ x, x ∈ q → x.2 < L ∧ (f x.2).1 = x.1
theorem land_snoc : ∀ (q : List (Nat × Nat)) (f : Nat → Nat × Nat) (L : Nat) (x : Nat × Nat), land f L (q ++ [x]) = uc (land f L q) x.2 (x.1, L)
  | [], f, L, x => rfl
  | y :: r, f, L, x => land_snoc r (uc f y.2 (y.1, L)) L x
theorem lok_uc {f : Nat → Nat × Nat} {L : Nat} {x : Nat × Nat} {r : List (Nat × Nat)} (h : lok f L (x :: r)) : lok (uc f x.2 (x.1, L)) L r := fun y hy => by
  have hy2 := h y (List.mem_cons_of_mem _ hy)
  refine ⟨hy2.1, ?_⟩
  by_cases e : y.2 = x.2
  · rw [e, uc_s]
    have hx := (h x (List.mem_cons_self)).2
    rw [← hy2.2, e, hx]
  · rw [uc_n _ _ e]; exact hy2.2
theorem m_lands_no {s0 s : Mm} {p o L n : Nat} {all : Bool} {σ : List (Nat × Nat)} {f : Nat → Nat × Nat} (h : CM s0 s p o σ L f) (ht : topN (lan all) σ) : f_m_lands_0 (n + 1) (bI all) s = some ((), s) := by
  show b_m_lands_0 (f_m_lands_0 n) (bI all) s = _
  unfold b_m_lands_0
  cases σ with
  | nil =>
    rw [m_waitTop_nil h]
    simp only [Option.bind_some]
    rw [if_neg (by decide)]
    cases all with
    | false => rfl
    | true =>
      rw [if_neg (by decide), m_waitTop_nil h]
      rfl
  | cons x r =>
    have hv := h.2.2.2.2.1.2.1.1
    have hx : lan all x.1 = false := ht
    unfold lan at hx
    rw [Bool.or_eq_false_iff] at hx
    have e11 := of_decide_eq_false hx.1
    have hw := m_waitTop_c h
    rw [hw]
    simp only [Option.bind_some]
    rw [if_neg (show ¬ nI x.1 = (11 : Int32) from fun e => e11 ((nIe (by omega) (by omega)).mp (show nI x.1 = nI 11 from e)))]
    cases all with
    | false => rfl
    | true =>
      have e12 := of_decide_eq_false (by have := hx.2; rwa [Bool.true_and] at this)
      rw [if_neg (by decide), hw]
      simp only [Option.bind_some]
      rw [if_neg (show ¬ nI x.1 = (12 : Int32) from fun e => e12 ((nIe (by omega) (by omega)).mp (show nI x.1 = nI 12 from e)))]
theorem m_lands_yes {s0 s : Mm} {p o L n : Nat} {all : Bool} {x : Nat × Nat} {σ : List (Nat × Nat)} {f : Nat → Nat × Nat} (h : CM s0 s p o (x :: σ) L f) (hx : lan all x.1 = true) (hl : x.2 < L) (ho : (f x.2).1 = x.1) : ∃ s2, f_m_lands_0 (n + 1) (bI all) s = f_m_lands_0 n (bI all) s2 ∧ CM s0 s2 p o σ L (uc f x.2 (x.1, L)) := by
  have hv := h.2.2.2.2.1.2.1
  have h8 := h.2.2.2.2.2.2.2.1
  have h9 := h.2.2.2.2.2.2.2.2.1
  have h10 := h.2.2.2.2.2.2.2.2.2
  rw [List.length_cons] at h8
  have hp := h.patch (i := x.2) (x := (x.1, L)) ⟨hv.1, show L < 1048576 by omega⟩
  refine ⟨_, ?_, hp.pop⟩
  have hw := m_waitTop_c h
  have b22 : b_m_lands_22 (f_m_lands_0 n) (bI all) s = f_m_lands_0 n (bI all) (sI (sI s 66 x.2 (enw (x.1, L))) 58 25 (nI σ.length)) := by
    unfold b_m_lands_22
    rw [h.2.2.2.1, List.length_cons, nI_pred, if_pos (inb_nI (by omega) (by omega)), cl_nI (show σ.length < 2147483648 by omega), h.2.2.2.2.1.1, lt_eq, enw_rem hv, if_pos (inb_nI (by omega) (by omega)), cl_nI (by omega), (h.2.2.2.2.2.2.1 x.2 hl).1, enw_div (h.2.2.2.2.2.2.1 x.2 hl).2, ho, h.2.2.2.2.2.1, enw_mk, lt_eq, if_pos (inb_nI (by omega) (by omega)), sI_row _ _ _ _ (by decide), h.2.2.2.1, List.length_cons, nI_pred, lt_eq]
  show b_m_lands_0 (f_m_lands_0 n) (bI all) s = _
  unfold b_m_lands_0
  rw [hw]
  simp only [Option.bind_some]
  by_cases e11 : x.1 = 11
  · rw [if_pos (show nI x.1 = (11 : Int32) by rw [e11]; rfl)]; exact b22
  · unfold lan at hx
    rw [decide_eq_false e11, Bool.false_or, Bool.and_eq_true, decide_eq_true_eq] at hx
    rw [if_neg (show ¬ nI x.1 = (11 : Int32) from fun e => e11 ((nIe (by have := hv.1; omega) (by omega)).mp (show nI x.1 = nI 11 from e)))]
    rw [hx.1] at b22 ⊢
    rw [if_neg (by decide), hw]
    simp only [Option.bind_some]
    rw [if_pos (show nI x.1 = (12 : Int32) by rw [hx.2]; rfl)]; exact b22
theorem m_lands_ok {s0 : Mm} {p o L : Nat} {all : Bool} {σ : List (Nat × Nat)} (ht : topN (lan all) σ) : ∀ (q : List (Nat × Nat)) n s f, CM s0 s p o (q ++ σ) L f → (∀ x, x ∈ q → lan all x.1 = true) → lok f L q → q.length + 1 ≤ n → ∃ s2, f_m_lands_0 n (bI all) s = some ((), s2) ∧ CM s0 s2 p o σ L (land f L q)
  | [], n, s, f, h, _, _, hn => by
    obtain ⟨n, rfl⟩ := nat_suc hn
    exact ⟨s, m_lands_no h ht, h⟩
  | x :: r, n, s, f, h, hc, hl, hn => by
    obtain ⟨n, rfl⟩ := nat_suc hn
    rw [List.length_cons] at hn
    have hx := hl x (List.mem_cons_self)
    obtain ⟨s2, e, h2⟩ := m_lands_yes (n := n) h (hc x (List.mem_cons_self)) hx.1 hx.2
    obtain ⟨s3, e3, h3⟩ := m_lands_ok ht r n s2 _ h2 (fun y hy => hc y (List.mem_cons_of_mem _ hy)) (lok_uc hl) (by omega)
    exact ⟨s3, e.trans e3, h3⟩
/-! NOTs at a piece's end -/
theorem m_ends_no {s0 s : Mm} {p o L n : Nat} {σ : List (Nat × Nat)} {f : Nat → Nat × Nat} (h : CM s0 s p o σ L f) (ht : topN (fun a => decide (a = 10)) σ) : f_m_endsPiece_0 (n + 1) s = some ((), s) := by
  show b_m_endsPiece_0 (f_m_endsPiece_0 n) s = _
  unfold b_m_endsPiece_0
  cases σ with
  | nil => rw [m_waitTop_nil h]; rfl
  | cons x r =>
    have hv := h.2.2.2.2.1.2.1.1
    have hx := of_decide_eq_false (show decide (x.1 = 10) = false from ht)
    rw [m_waitTop_c h]
    simp only [Option.bind_some]
    rw [if_neg (show ¬ nI x.1 = (10 : Int32) from fun e => hx ((nIe (by omega) (by omega)).mp (show nI x.1 = nI 10 from e)))]
theorem m_ends_yes {s0 s : Mm} {p o L n : Nat} {σ : List (Nat × Nat)} {f : Nat → Nat × Nat} (h : CM s0 s p (o + 1) ((10, 0) :: σ) L f) (hL : L < p) : ∃ s2, f_m_endsPiece_0 (n + 1) s = f_m_endsPiece_0 n s2 ∧ CM s0 s2 p o σ (L + 1) (uc f L (10, 0)) := by
  have hp := h.2.2.2.2.2.2.2.2.2
  have hn := h.note (x := (10, 0)) hL ⟨by decide, by decide⟩
  refine ⟨_, ?_, (hn.pop).opn (o2 := o)⟩
  show b_m_endsPiece_0 (f_m_endsPiece_0 n) s = _
  unfold b_m_endsPiece_0
  rw [m_waitTop_c h]
  simp only [Option.bind_some]
  rw [if_pos (show nI 10 = (10 : Int32) from rfl), show f_m_notes (10 : Int32) (0 : Int32) s = _ from m_notes_eq (a := 10) (b := 0) h.2.2.2.2.2.1 (by omega)]
  simp only [Option.bind_some]
  rw [sI_col _ _ _ _ (by decide), sI_row _ _ _ _ (by decide), h.2.2.2.1, List.length_cons, nI_pred, lt_eq, sI_col _ _ _ _ (by decide), sI_col _ _ _ _ (by decide), sI_row _ _ _ _ (by decide), h.2.2.1, nI_pred, lt_eq]
/-! whether a [ is open -/
def wsA : List (Nat × Nat) → Nat → Nat × Nat
  | [], _ => (0, 0)
  | x :: r, k => if k = r.length then x else wsA r k
theorem WS.at {s : Mm} : ∀ {σ : List (Nat × Nat)}, WS s σ → ∀ k, k < σ.length → s.1 67 k = enw (wsA σ k) ∧ vld (wsA σ k)
  | [], _, k, hk => by simp at hk
  | x :: r, h, k, hk => by
    rw [List.length_cons] at hk
    unfold wsA
    by_cases e : k = r.length
    · rw [if_pos e, e]; exact ⟨h.1, h.2.1⟩
    · rw [if_neg e]; exact WS.at h.2.2 k (by omega)
theorem wsA_mid : ∀ (pd : List (Nat × Nat)) (x : Nat × Nat) (σ : List (Nat × Nat)), wsA (pd ++ x :: σ) σ.length = x
  | [], x, σ => by show (if σ.length = σ.length then x else _) = x; rw [if_pos rfl]
  | y :: r, x, σ => by
    show (if σ.length = (r ++ x :: σ).length then y else wsA (r ++ x :: σ) σ.length) = x
    rw [if_neg (by rw [List.length_append, List.length_cons]; omega)]
    exact wsA_mid r x σ
theorem wsA_in : ∀ (pd σ : List (Nat × Nat)) (k : Nat), σ.length ≤ k → k < (pd ++ σ).length → wsA (pd ++ σ) k ∈ pd
  | [], σ, k, h1, h2 => by rw [List.nil_append] at h2; omega
  | y :: r, σ, k, h1, h2 => by
    show (if k = (r ++ σ).length then y else wsA (r ++ σ) k) ∈ y :: r
    have h3 : k < (r ++ σ).length + 1 := h2
    by_cases e : k = (r ++ σ).length
    · rw [if_pos e]; exact List.mem_cons_self
    · rw [if_neg e]; exact List.mem_cons_of_mem _ (wsA_in r σ k h1 (by omega))
theorem m_hos_f {s0 s : Mm} {p o L base : Nat} {σ : List (Nat × Nat)} {f : Nat → Nat × Nat} (h : CM s0 s p o σ L f) (hb : ∀ k, base ≤ k → k < σ.length → (wsA σ k).1 ≠ 14) (hbl : base ≤ σ.length) : f_m_hasOpenSum (nI base) s = some (0, s) := by
  have h8 := h.2.2.2.2.2.2.2.1
  have h10 := h.2.2.2.2.2.2.2.2.2
  have lp : ∀ r k N, k + r = σ.length → r + 1 ≤ N → base ≤ k → f_m_hasOpenSum_2 N (nI k) s = some (0, s) := by
    intro r
    induction r with
    | zero =>
      intro k N hk hN hbk
      obtain ⟨N, rfl⟩ := nat_suc hN
      show b_m_hasOpenSum_2 (f_m_hasOpenSum_2 N) (nI k) s = _
      unfold b_m_hasOpenSum_2
      rw [h.2.2.2.1, if_pos (nI_le (by omega) (by omega))]
    | succ r ih =>
      intro k N hk hN hbk
      obtain ⟨N, rfl⟩ := nat_suc hN
      have hw := h.2.2.2.2.1.at k (by omega)
      show b_m_hasOpenSum_2 (f_m_hasOpenSum_2 N) (nI k) s = _
      unfold b_m_hasOpenSum_2
      rw [h.2.2.2.1, if_neg (by rw [nI_leI (by omega) (by omega)]; omega), if_pos (inb_nI (by omega) (by omega)), cl_nI (by omega), hw.1, enw_div hw.2, if_neg (show ¬ nI (wsA σ k).1 = (14 : Int32) from fun e => hb k hbk (by omega) ((nIe (by have := hw.2.1; omega) (by omega)).mp (show nI (wsA σ k).1 = nI 14 from e))), nI_1, lt_eq]
      exact ih (k + 1) N (by omega) (by omega) (by omega)
  exact lp (σ.length - base) base 1000000 (by omega) (by omega) (Nat.le_refl _)
theorem m_hos_t {s0 s : Mm} {p o L base i : Nat} {σ : List (Nat × Nat)} {f : Nat → Nat × Nat} (h : CM s0 s p o σ L f) (hb : base ≤ i) (hi : i < σ.length) (hx : (wsA σ i).1 = 14) : f_m_hasOpenSum (nI base) s = some (1, s) := by
  have h8 := h.2.2.2.2.2.2.2.1
  have h10 := h.2.2.2.2.2.2.2.2.2
  have lp : ∀ r k N, k + r = i → r + 1 ≤ N → f_m_hasOpenSum_2 N (nI k) s = some (1, s) := by
    intro r
    induction r with
    | zero =>
      intro k N hk hN
      obtain ⟨N, rfl⟩ := nat_suc hN
      have e : k = i := by omega
      subst e
      have hw := h.2.2.2.2.1.at k hi
      show b_m_hasOpenSum_2 (f_m_hasOpenSum_2 N) (nI k) s = _
      unfold b_m_hasOpenSum_2
      rw [h.2.2.2.1, if_neg (by rw [nI_leI (by omega) (by omega)]; omega), if_pos (inb_nI (by omega) (by omega)), cl_nI (by omega), hw.1, enw_div hw.2, hx, if_pos (show nI 14 = (14 : Int32) from rfl)]
    | succ r ih =>
      intro k N hk hN
      obtain ⟨N, rfl⟩ := nat_suc hN
      have hw := h.2.2.2.2.1.at k (by omega)
      show b_m_hasOpenSum_2 (f_m_hasOpenSum_2 N) (nI k) s = _
      unfold b_m_hasOpenSum_2
      rw [h.2.2.2.1, if_neg (by rw [nI_leI (by omega) (by omega)]; omega), if_pos (inb_nI (by omega) (by omega)), cl_nI (by omega), hw.1, enw_div hw.2]
      by_cases e : (wsA σ k).1 = 14
      · rw [e, if_pos (show nI 14 = (14 : Int32) from rfl)]
      · rw [if_neg (show ¬ nI (wsA σ k).1 = (14 : Int32) from fun g => e ((nIe (by have := hw.2.1; omega) (by omega)).mp (show nI (wsA σ k).1 = nI 14 from g))), nI_1, lt_eq]
        exact ih (k + 1) N (by omega) (by omega)
  exact lp (i - base) base 1000000 (by omega) (by omega)
theorem m_jumps_ok {s0 s : Mm} {p o L a : Nat} {σ : List (Nat × Nat)} {f : Nat → Nat × Nat} (h : CM s0 s p o σ L f) (hp : p + 1 ≤ 160) (ha : a ≤ 14) : ∃ s2, f_m_jumps (nI a) s = some ((), s2) ∧ CM s0 s2 (p + 1) o ((a, L) :: σ) (L + 1) (uc f L (a, 0)) := by
  have h8 := h.2.2.2.2.2.2.2.1
  have h9 := h.2.2.2.2.2.2.2.2.1
  refine ⟨_, ?_, h.jump hp ha⟩
  unfold f_m_jumps
  rw [h.2.2.2.2.2.1, enw_mk, lt_eq, h.2.2.2.1, if_pos (inb_nI (by omega) (by omega)), cl_nI (by omega), sI_row _ _ _ _ (show 58 ≠ 67 by decide), h.2.2.2.1, lt_eq, nI_1, show f_m_notes (nI a) (0 : Int32) (sI (sI s 67 σ.length (enw (a, L))) 58 25 (nI (σ.length + 1))) = _ from m_notes_eq (a := a) (b := 0) (L := L) (by rw [sI_col _ _ _ _ (by decide), sI_row _ _ _ _ (by decide)]; exact h.2.2.2.2.2.1) (by omega)]
  simp only [Option.bind_some]
  rw [sI_col _ _ _ _ (show 20 ≠ 24 by decide), sI_row _ _ _ _ (show 58 ≠ 66 by decide), sI_col _ _ _ _ (show 20 ≠ 25 by decide), sI_row _ _ _ _ (show 58 ≠ 67 by decide), h.2.1, lt_eq, nI_1]
