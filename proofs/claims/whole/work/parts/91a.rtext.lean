/-! recipe: the text, and the reference's reading state -/
abbrev Txt : Type := Nat × (Nat → Nat)
def TxO (T : Txt) : Prop := T.1 ≤ 160 ∧ ∀ j, T.2 j < 256
def chn (T : Txt) (p : Nat) : Nat := if p < T.1 then T.2 p else 256
def chI (T : Txt) (p : Nat) : Int32 := if p < T.1 then nI (T.2 p) else -1
theorem chI_eq {T : Txt} (hT : TxO T) {p c : Nat} (hc : c < 256) : chI T p = nI c ↔ chn T p = c := by
  unfold chI chn
  by_cases h : p < T.1
  · rw [if_pos h, if_pos h, nI_eq (by have := hT.2 p; omega) (by omega)]
  · rw [if_neg h, if_neg h]
    exact ⟨fun e => absurd e.symm (nI_nm1 (by omega)), fun e => by omega⟩
theorem okc_ch {α : Type} {T : Txt} (hT : TxO T) {p : Nat} {a b : Option α} {P : α → Prop} (c : Nat) (h1 : chn T p = c → Ok a P) (h2 : chn T p ≠ c → Ok b P) {y : Int32} (hy : y = nI c := by rfl) (hc : c < 256 := by omega) : Ok (if chI T p = y then a else b) P := by
  subst hy
  exact ok_if (fun e => h1 ((chI_eq hT hc).mp e)) (fun e => h2 (fun g => e ((chI_eq hT hc).mpr g)))
theorem ch_in {T : Txt} {p : Nat} (h : chn T p < 256) : p < T.1 := by
  unfold chn at h
  by_cases g : p < T.1
  · exact g
  · rw [if_neg g] at h; omega
theorem ch_I {T : Txt} {p : Nat} (h : chn T p < 256) : chI T p = nI (chn T p) := by
  have := ch_in h
  unfold chI chn
  rw [if_pos this, if_pos this]
def isD (T : Txt) (p : Nat) : Bool := decide (48 ≤ chn T p) && decide (chn T p ≤ 57)
theorem isD_t {T : Txt} {p : Nat} (h : isD T p = true) : 48 ≤ chn T p ∧ chn T p ≤ 57 := by
  unfold isD at h
  rw [Bool.and_eq_true, decide_eq_true_eq, decide_eq_true_eq] at h
  exact h
theorem isD_f {T : Txt} {p : Nat} (h : isD T p = false) : chn T p < 48 ∨ 57 < chn T p := by
  unfold isD at h
  rcases Nat.lt_or_ge (chn T p) 48 with g | g
  · exact Or.inl g
  · rw [decide_eq_true g, Bool.true_and] at h
    have := of_decide_eq_false h
    exact Or.inr (by omega)
/-- the digit test, as both sides write it -/
theorem dig_cmp {α : Type} {T : Txt} (hT : TxO T) {p : Nat} (a b : Option α) : (if chI T p < (48 : Int32) then a else if (57 : Int32) < chI T p then a else b) = if isD T p = true then b else a := by
  unfold isD chI chn
  by_cases h : p < T.1
  · have hb := hT.2 p
    rw [if_pos h, if_pos h]
    by_cases h1 : T.2 p < 48
    · rw [if_pos (show nI (T.2 p) < (48 : Int32) from show nI (T.2 p) < nI 48 by rw [nI_ltI (by omega) (by omega)]; omega), decide_eq_false (show ¬ 48 ≤ T.2 p by omega)]; rfl
    · rw [if_neg (show ¬ nI (T.2 p) < (48 : Int32) from show ¬ nI (T.2 p) < nI 48 by rw [nI_ltI (by omega) (by omega)]; omega), decide_eq_true (show 48 ≤ T.2 p by omega)]
      by_cases h2 : T.2 p ≤ 57
      · rw [if_neg (show ¬ (57 : Int32) < nI (T.2 p) from show ¬ nI 57 < nI (T.2 p) by rw [nI_ltI (by omega) (by omega)]; omega), decide_eq_true h2]; rfl
      · rw [if_pos (show (57 : Int32) < nI (T.2 p) from show nI 57 < nI (T.2 p) by rw [nI_ltI (by omega) (by omega)]; omega), decide_eq_false h2]; rfl
  · rw [if_neg h, if_neg h, if_pos (by decide)]
    simp
def uc (f : Nat → Nat × Nat) (j : Nat) (x : Nat × Nat) : Nat → Nat × Nat := fun k => if k = j then x else f k
theorem uc_s (f : Nat → Nat × Nat) (j : Nat) (x : Nat × Nat) : uc f j x j = x := by unfold uc; rw [if_pos rfl]
theorem uc_n (f : Nat → Nat × Nat) {j k : Nat} (x : Nat × Nat) (h : k ≠ j) : uc f j x k = f k := by unfold uc; rw [if_neg h]
def enw (x : Nat × Nat) : Int32 := nI (1048576 * x.1 + x.2)
def vld (x : Nat × Nat) : Prop := x.1 ≤ 14 ∧ x.2 < 1048576
theorem enw_div {x : Nat × Nat} (h : vld x) : enw x / (1048576 : Int32) = nI x.1 := by
  unfold enw
  rw [i_lit 1048576, pk_div (by have := h.1; have := h.2; omega) (by omega) (by omega)]
  congr 1
  have := h.2
  omega
theorem enw_rem {x : Nat × Nat} (h : vld x) : enw x - enw x / (1048576 : Int32) * (1048576 : Int32) = nI x.2 := by
  unfold enw
  rw [i_lit 1048576, pk_rem (by have := h.1; have := h.2; omega) (by omega) (by omega)]
  congr 1
  have := h.2
  omega
theorem enw_mk (a b : Nat) : (1048576 : Int32) * nI a + nI b = enw (a, b) := by
  rw [i_lit 1048576, pk_mul, nI_add]; rfl
theorem enw_mk0 (a : Nat) : (1048576 : Int32) * nI a = enw (a, 0) := by
  rw [i_lit 1048576, pk_mul]; rfl
def WS (s : Mm) : List (Nat × Nat) → Prop
  | [] => True
  | x :: r => s.1 67 r.length = enw x ∧ vld x ∧ WS s r
theorem WS.keep {s s2 : Mm} : ∀ {σ : List (Nat × Nat)}, WS s σ → (∀ j, j < σ.length → s2.1 67 j = s.1 67 j) → WS s2 σ
  | [], _, _ => trivial
  | x :: r, h, hk => ⟨by rw [hk r.length (by simp)]; exact h.1, h.2.1, WS.keep h.2.2 (fun j hj => hk j (by simp; omega))⟩
def LRm : List (Nat × Option Nat) := [(58, some 20), (58, some 22), (58, some 23), (58, some 24), (58, some 25), (58, some 26), (66, none), (67, none)]
def EM (T : Txt) (s0 : Mm) : Prop := s0.1 58 21 = nI T.1 ∧ (∀ j, j < T.1 → s0.1 65 j &&& 255 = nI (T.2 j)) ∧ TxO T
def CM (s0 s : Mm) (p o : Nat) (σ : List (Nat × Nat)) (L : Nat) (f : Nat → Nat × Nat) : Prop := Fr LRm s0 s ∧ s.1 58 20 = nI p ∧ s.1 58 23 = nI o ∧ s.1 58 25 = nI σ.length ∧ WS s σ ∧ s.1 58 24 = nI L ∧ (∀ j, j < L → s.1 66 j = enw (f j) ∧ vld (f j)) ∧ σ.length ≤ p ∧ L ≤ p ∧ p ≤ 160
def FM (s0 s : Mm) (q a : Nat) : Prop := Fr LRm s0 s ∧ s.1 58 22 = (-1000 : Int32) * nI q - nI a
theorem CM.pos {s0 s : Mm} {p o L p2 : Nat} {σ : List (Nat × Nat)} {f : Nat → Nat × Nat} (h : CM s0 s p o σ L f) (h1 : p ≤ p2) (h2 : p2 ≤ 160) : CM s0 (sI s 58 20 (nI p2)) p2 o σ L f := by
  obtain ⟨a1, a2, a3, a4, a5, a6, a7, a8, a9, _⟩ := h
  exact ⟨a1.sI rfl, sI_self _ _ _ _, by rw [sI_col _ _ _ _ (by decide)]; exact a3, by rw [sI_col _ _ _ _ (by decide)]; exact a4, a5.keep (fun j _ => by rw [sI_row _ _ _ _ (by decide)]), by rw [sI_col _ _ _ _ (by decide)]; exact a6, fun j hj => by rw [sI_row _ _ _ _ (by decide)]; exact a7 j hj, by omega, by omega, h2⟩
theorem CM.opn {s0 s : Mm} {p o L o2 : Nat} {σ : List (Nat × Nat)} {f : Nat → Nat × Nat} (h : CM s0 s p o σ L f) : CM s0 (sI s 58 23 (nI o2)) p o2 σ L f := by
  obtain ⟨a1, a2, a3, a4, a5, a6, a7, a8, a9, a10⟩ := h
  exact ⟨a1.sI rfl, by rw [sI_col _ _ _ _ (by decide)]; exact a2, sI_self _ _ _ _, by rw [sI_col _ _ _ _ (by decide)]; exact a4, a5.keep (fun j _ => by rw [sI_row _ _ _ _ (by decide)]), by rw [sI_col _ _ _ _ (by decide)]; exact a6, fun j hj => by rw [sI_row _ _ _ _ (by decide)]; exact a7 j hj, a8, a9, a10⟩
theorem CM.num {s0 s : Mm} {p o L : Nat} {σ : List (Nat × Nat)} {f : Nat → Nat × Nat} {v : Int32} (h : CM s0 s p o σ L f) : CM s0 (sI s 58 26 v) p o σ L f := by
  obtain ⟨a1, a2, a3, a4, a5, a6, a7, a8, a9, a10⟩ := h
  exact ⟨a1.sI rfl, by rw [sI_col _ _ _ _ (by decide)]; exact a2, by rw [sI_col _ _ _ _ (by decide)]; exact a3, by rw [sI_col _ _ _ _ (by decide)]; exact a4, a5.keep (fun j _ => by rw [sI_row _ _ _ _ (by decide)]), by rw [sI_col _ _ _ _ (by decide)]; exact a6, fun j hj => by rw [sI_row _ _ _ _ (by decide)]; exact a7 j hj, a8, a9, a10⟩
theorem CM.pop {s0 s : Mm} {p o L : Nat} {x : Nat × Nat} {σ : List (Nat × Nat)} {f : Nat → Nat × Nat} (h : CM s0 s p o (x :: σ) L f) : CM s0 (sI s 58 25 (nI σ.length)) p o σ L f := by
  obtain ⟨a1, a2, a3, a4, a5, a6, a7, a8, a9, a10⟩ := h
  rw [List.length_cons] at a8
  exact ⟨a1.sI rfl, by rw [sI_col _ _ _ _ (by decide)]; exact a2, by rw [sI_col _ _ _ _ (by decide)]; exact a3, sI_self _ _ _ _, a5.2.2.keep (fun j _ => by rw [sI_row _ _ _ _ (by decide)]), by rw [sI_col _ _ _ _ (by decide)]; exact a6, fun j hj => by rw [sI_row _ _ _ _ (by decide)]; exact a7 j hj, by omega, a9, a10⟩
theorem CM.note {s0 s : Mm} {p o L : Nat} {x : Nat × Nat} {σ : List (Nat × Nat)} {f : Nat → Nat × Nat} (h : CM s0 s p o σ L f) (hL : L < p) (hx : vld x) : CM s0 (sI (sI s 66 L (enw x)) 58 24 (nI (L + 1))) p o σ (L + 1) (uc f L x) := by
  obtain ⟨a1, a2, a3, a4, a5, a6, a7, a8, a9, a10⟩ := h
  refine ⟨(a1.sI (by simp [inL, LRm])).sI rfl, by rw [sI_col _ _ _ _ (by decide), sI_row _ _ _ _ (by decide)]; exact a2, by rw [sI_col _ _ _ _ (by decide), sI_row _ _ _ _ (by decide)]; exact a3, by rw [sI_col _ _ _ _ (by decide), sI_row _ _ _ _ (by decide)]; exact a4, a5.keep (fun j _ => by rw [sI_row _ _ _ _ (by decide), sI_row _ _ _ _ (by decide)]), sI_self _ _ _ _, fun j hj => ?_, a8, hL, a10⟩
  rw [sI_row _ _ _ _ (by decide)]
  by_cases e : j = L
  · rw [e, sI_self, uc_s]; exact ⟨rfl, hx⟩
  · rw [sI_col _ _ _ _ e, uc_n _ _ e]; exact a7 j (by omega)
theorem CM.patch {s0 s : Mm} {p o L i : Nat} {x : Nat × Nat} {σ : List (Nat × Nat)} {f : Nat → Nat × Nat} (h : CM s0 s p o σ L f) (hx : vld x) : CM s0 (sI s 66 i (enw x)) p o σ L (uc f i x) := by
  obtain ⟨a1, a2, a3, a4, a5, a6, a7, a8, a9, a10⟩ := h
  refine ⟨a1.sI (by simp [inL, LRm]), by rw [sI_row _ _ _ _ (by decide)]; exact a2, by rw [sI_row _ _ _ _ (by decide)]; exact a3, by rw [sI_row _ _ _ _ (by decide)]; exact a4, a5.keep (fun j _ => by rw [sI_row _ _ _ _ (by decide)]), by rw [sI_row _ _ _ _ (by decide)]; exact a6, fun j hj => ?_, a8, a9, a10⟩
  by_cases e : j = i
  · rw [e, sI_self, uc_s]; exact ⟨rfl, hx⟩
  · rw [sI_col _ _ _ _ e, uc_n _ _ e]; exact a7 j (by omega)
theorem CM.push {s0 s : Mm} {p o L : Nat} {x : Nat × Nat} {σ : List (Nat × Nat)} {f : Nat → Nat × Nat} (h : CM s0 s p o σ L f) (hp : p + 1 ≤ 160) (hx : vld x) : CM s0 (sI (sI (sI s 67 σ.length (enw x)) 58 25 (nI (σ.length + 1))) 58 20 (nI (p + 1))) (p + 1) o (x :: σ) L f := by
  obtain ⟨a1, a2, a3, a4, a5, a6, a7, a8, a9, a10⟩ := h
  refine ⟨((a1.sI (by simp [inL, LRm])).sI rfl).sI rfl, sI_self _ _ _ _, by rw [sI_col _ _ _ _ (by decide), sI_col _ _ _ _ (by decide), sI_row _ _ _ _ (by decide)]; exact a3, by rw [sI_col _ _ _ _ (by decide), sI_self, List.length_cons], ⟨by rw [sI_row _ _ _ _ (by decide), sI_row _ _ _ _ (by decide), sI_self], hx, a5.keep (fun j hj => by rw [sI_row _ _ _ _ (by decide), sI_row _ _ _ _ (by decide), sI_col _ _ _ _ (by omega)])⟩, by rw [sI_col _ _ _ _ (by decide), sI_col _ _ _ _ (by decide), sI_row _ _ _ _ (by decide)]; exact a6, fun j hj => by rw [sI_row _ _ _ _ (by decide), sI_row _ _ _ _ (by decide), sI_row _ _ _ _ (by decide)]; exact a7 j hj, by rw [List.length_cons]; omega, by omega, hp⟩
theorem CM.jump {s0 s : Mm} {p o L a : Nat} {σ : List (Nat × Nat)} {f : Nat → Nat × Nat} (h : CM s0 s p o σ L f) (hp : p + 1 ≤ 160) (ha : a ≤ 14) : CM s0 (sI (sI (sI (sI (sI s 67 σ.length (enw (a, L))) 58 25 (nI (σ.length + 1))) 66 L (enw (a, 0))) 58 24 (nI (L + 1))) 58 20 (nI (p + 1))) (p + 1) o ((a, L) :: σ) (L + 1) (uc f L (a, 0)) := by
  obtain ⟨a1, a2, a3, a4, a5, a6, a7, a8, a9, a10⟩ := h
  refine ⟨((((a1.sI (by simp [inL, LRm])).sI rfl).sI (by simp [inL, LRm])).sI rfl).sI rfl, sI_self _ _ _ _, ?_, ?_, ⟨?_, ⟨ha, show L < 1048576 by omega⟩, a5.keep (fun j hj => ?_)⟩, ?_, fun j hj => ?_, by rw [List.length_cons]; omega, by omega, hp⟩
  · rw [sI_col _ _ _ _ (by decide), sI_col _ _ _ _ (by decide), sI_row _ _ _ _ (by decide), sI_col _ _ _ _ (by decide), sI_row _ _ _ _ (by decide)]; exact a3
  · rw [sI_col _ _ _ _ (by decide), sI_col _ _ _ _ (by decide), sI_row _ _ _ _ (by decide), sI_self, List.length_cons]
  · rw [sI_row _ _ _ _ (by decide), sI_row _ _ _ _ (by decide), sI_row _ _ _ _ (by decide), sI_row _ _ _ _ (by decide), sI_self]
  · rw [sI_row _ _ _ _ (by decide), sI_row _ _ _ _ (by decide), sI_row _ _ _ _ (by decide), sI_row _ _ _ _ (by decide), sI_col _ _ _ _ (by omega)]
  · rw [sI_col _ _ _ _ (by decide), sI_self]
  · rw [sI_row _ _ _ _ (by decide), sI_row _ _ _ _ (by decide)]
    by_cases e : j = L
    · rw [e, sI_self, uc_s]; exact ⟨rfl, ha, by show 0 < 1048576; omega⟩
    · rw [sI_col _ _ _ _ e, sI_row _ _ _ _ (by decide), sI_row _ _ _ _ (by decide), uc_n _ _ e]; exact a7 j (by omega)
/-! the reference's small steps -/
theorem m_hereT {T : Txt} {s : Mm} {p : Nat} (h1 : s.1 58 21 = nI T.1) (h2 : s.1 58 20 = nI p) (h3 : ∀ j, j < T.1 → s.1 65 j &&& 255 = nI (T.2 j)) (hT : TxO T) (hp : p ≤ 160) : f_m_here s = some (chI T p, s) := by
  unfold f_m_here chI
  have := hT.1
  rw [h1, h2]
  by_cases h : p < T.1
  · rw [if_neg (by rw [nI_leI (by omega) (by omega)]; omega), if_pos (inb_nI (by omega) (by omega)), cl_nI (by omega), h3 p h, if_pos h]
  · rw [if_pos (nI_le (by omega) (by omega)), if_neg h]
theorem CM.here {T : Txt} {s0 s : Mm} {p o L : Nat} {σ : List (Nat × Nat)} {f : Nat → Nat × Nat} (hE : EM T s0) (h : CM s0 s p o σ L f) : f_m_here s = some (chI T p, s) :=
  m_hereT (by rw [h.1 58 21 rfl]; exact hE.1) h.2.1 (fun j hj => by rw [h.1 65 j rfl]; exact hE.2.1 j hj) hE.2.2 h.2.2.2.2.2.2.2.2.2
theorem m_digT {T : Txt} {s : Mm} {p : Nat} (hT : TxO T) (h : f_m_here s = some (chI T p, s)) : f_m_isDigit s = some (bI (isD T p), s) := by
  unfold f_m_isDigit
  rw [h]
  simp only [Option.bind_some]
  rw [h]
  simp only [Option.bind_some]
  rw [dig_cmp hT]
  cases isD T p <;> rfl
theorem m_wrong_eq (v a : Int32) (s : Mm) : f_m_wrongAt v a s = some (0, sI s 58 22 ((-1000 : Int32) * v - a)) := rfl
theorem m_wrong_ok {s0 s : Mm} {q a : Nat} {p o L : Nat} {σ : List (Nat × Nat)} {f : Nat → Nat × Nat} (h : CM s0 s p o σ L f) : FM s0 (sI s 58 22 ((-1000 : Int32) * nI q - nI a)) q a := ⟨h.1.sI rfl, sI_self _ _ _ _⟩
theorem m_notes_eq {s : Mm} {L a b : Nat} (h : s.1 58 24 = nI L) (hL : L < 180) : f_m_notes (nI a) (nI b) s = some ((), sI (sI s 66 L (enw (a, b))) 58 24 (nI (L + 1))) := by
  unfold f_m_notes
  rw [lt_eq, h, if_pos (inb_nI hL (by omega)), cl_nI (by omega), sI_row _ _ _ _ (by decide), h, enw_mk, lt_eq, nI_1]
theorem m_waitTop_nil {s0 s : Mm} {p o L : Nat} {f : Nat → Nat × Nat} (h : CM s0 s p o [] L f) : f_m_waitTop s = some (-1, s) := by
  unfold f_m_waitTop
  rw [h.2.2.2.1]; rfl
theorem m_waitTop_c {s0 s : Mm} {p o L : Nat} {x : Nat × Nat} {σ : List (Nat × Nat)} {f : Nat → Nat × Nat} (h : CM s0 s p o (x :: σ) L f) : f_m_waitTop s = some (nI x.1, s) := by
  have h8 := h.2.2.2.2.2.2.2.1
  have h10 := h.2.2.2.2.2.2.2.2.2
  rw [List.length_cons] at h8
  unfold f_m_waitTop
  rw [h.2.2.2.1, List.length_cons, if_neg (show ¬ nI (σ.length + 1) = 0 from fun e => by have := (nI_eq (by omega) (by omega)).mp (show nI (σ.length + 1) = nI 0 from e); omega), nI_pred, if_pos (inb_nI (by omega) (by omega)), cl_nI (by omega), h.2.2.2.2.1.1, enw_div h.2.2.2.2.1.2.1]
theorem m_opens_f {s0 s : Mm} {p o L : Nat} {σ : List (Nat × Nat)} {f : Nat → Nat × Nat} (h : CM s0 s p o σ L f) (ho : o = 6) (v : Int32) : ∃ s2, f_m_opens v s = some (0, s2) ∧ FM s0 s2 5 p := by
  refine ⟨_, ?_, m_wrong_ok (q := 5) (a := p) h⟩
  unfold f_m_opens
  rw [h.2.2.1, ho, if_pos (show nI 6 = (6 : Int32) from rfl), h.2.1, m_wrong_eq]
  rfl
theorem m_opens_t {s0 s : Mm} {p o L a : Nat} {σ : List (Nat × Nat)} {f : Nat → Nat × Nat} (h : CM s0 s p o σ L f) (ho : o < 6) (hp : p + 1 ≤ 160) (ha : a ≤ 14) : ∃ s2, f_m_opens (nI a) s = some (1, s2) ∧ CM s0 s2 (p + 1) (o + 1) ((a, 0) :: σ) L f := by
  have h8 := h.2.2.2.2.2.2.2.1
  refine ⟨_, ?_, (h.opn (o2 := o + 1)).push (x := (a, 0)) hp ⟨ha, show 0 < 1048576 by omega⟩⟩
  unfold f_m_opens
  rw [h.2.2.1, if_neg (show ¬ nI o = (6 : Int32) from fun e => by have := (nI_eq (by omega) (by omega)).mp (show nI o = nI 6 from e); omega), lt_eq, lt_eq, enw_mk0, nI_1, sI_col _ _ _ _ (show 25 ≠ 23 by decide), h.2.2.2.1, if_pos (inb_nI (by omega) (by omega)), cl_nI (by omega), sI_row _ _ _ _ (show 58 ≠ 67 by decide), sI_col _ _ _ _ (show 25 ≠ 23 by decide), h.2.2.2.1, lt_eq, nI_1, sI_col _ _ _ _ (show 20 ≠ 25 by decide), sI_row _ _ _ _ (show 58 ≠ 67 by decide), sI_col _ _ _ _ (show 20 ≠ 23 by decide), h.2.1, lt_eq, nI_1]
