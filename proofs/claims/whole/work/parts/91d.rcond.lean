/-! recipe: conditions, as the reference reads them -/
theorem ok_bind_inv {α β : Type} {x : Option α} {f : α → Option β} {P : β → Prop} (h : Ok (x.bind f) P) : Ok x (fun q => Ok (f q) P) := by
  cases x with
  | none => obtain ⟨q, e, _⟩ := h; cases e
  | some a => exact ⟨a, rfl, h⟩
def mE (n t m : Nat) (s : Mm) : Option (Int32 × Mm) := (f_m_endsPiece_0 n s).bind (fun q => f_m_readsCondition_92 (f_m_readsCondition_40 m) t q.2)
def CT (P : Int32 × Mm → Prop) (p : Nat) (s : Mm) : Prop := ∀ t m, 1000 ≤ t + p → 1000 ≤ m + p → Ok (f_m_readsCondition_92 (f_m_readsCondition_40 m) t s) P
def CE (P : Int32 × Mm → Prop) (p L : Nat) (s : Mm) : Prop := ∀ n t m, 1000 ≤ n + L → 1000 ≤ t + p → 1000 ≤ m + p → Ok (mE n t m s) P
def CH (P : Int32 × Mm → Prop) (p : Nat) (s : Mm) : Prop := ∀ m, 1000 ≤ m + p → Ok (f_m_readsCondition_40 m s) P
def is10 (a : Nat) : Bool := decide (a = 10)
theorem ce_ct {s0 s : Mm} {p o L : Nat} {σ : List (Nat × Nat)} {f : Nat → Nat × Nat} {P : Int32 × Mm → Prop} (h : CM s0 s p o σ L f) (ht : topN is10 σ) (hc : CT P p s) : CE P p L s := fun n t m h1 h2 h3 => by
  have hL := h.2.2.2.2.2.2.2.2.1
  have hp := h.2.2.2.2.2.2.2.2.2
  obtain ⟨n, rfl⟩ := nat_suc (show 0 + 1 ≤ n by omega)
  unfold mE
  exact ok_bind (ok_eq (m_ends_no h ht) (hc t m h2 h3))
theorem top_app {q : Nat → Bool} {r σ : List (Nat × Nat)} (h1 : ∀ x, x ∈ r → q x.1 = false) (h2 : topN q σ) : topN q (r ++ σ) := by
  cases r with
  | nil => exact h2
  | cons x r => exact h1 x List.mem_cons_self
theorem lan_n10 {all : Bool} {a : Nat} (h : lan all a = true) : is10 a = false := by
  unfold lan at h
  unfold is10
  rw [Bool.or_eq_true, Bool.and_eq_true, decide_eq_true_eq, decide_eq_true_eq] at h
  exact decide_eq_false (by omega)
theorem lan_up {a : Nat} (h : lan false a = true) : lan true a = true := by
  unfold lan at h ⊢
  rw [Bool.or_eq_true] at h ⊢
  rcases h with h | h
  · exact Or.inl h
  · cases h
theorem ct_and {T : Txt} {s0 s : Mm} {p o L : Nat} {q σ : List (Nat × Nat)} {f : Nat → Nat × Nat} {P : Int32 × Mm → Prop} (hE : EM T s0) (h : CM s0 s p o (q ++ σ) L f) (hc : chn T p = 38) (hq : ∀ x, x ∈ q → lan false x.1 = true) (hl : lok f L q) (ht : topN (lan false) σ) (hk : ∀ s2, CM s0 s2 (p + 1) o ((11, L) :: σ) (L + 1) (uc (land f L q) L (11, 0)) → CH P (p + 1) s2) : CT P p s := fun t m ht1 hm1 => by
  have hlen := pd_le h
  have hp := h.2.2.2.2.2.2.2.2.2
  have hin := ch_in (show chn T p < 256 by omega)
  have h160 := hE.2.2.1
  obtain ⟨t, rfl⟩ := nat_suc (show 0 + 1 ≤ t by omega)
  obtain ⟨s2, e2, h2⟩ := m_lands_ok ht q 1000000 s f h hq hl (by omega)
  obtain ⟨s3, e3, h3⟩ := m_jumps_ok (a := 11) h2 (by omega) (by omega)
  show Ok (b_m_readsCondition_92 (f_m_readsCondition_40 m) (f_m_readsCondition_92 (f_m_readsCondition_40 m) t) s) P
  unfold b_m_readsCondition_92 b_m_readsCondition_152 b_m_readsCondition_180 b_m_readsCondition_195
  refine ok_bind (ok_eq (h.here hE) (okc_ch hE.2.2 41 (fun e => by omega) (fun _ => ?_)))
  refine ok_bind (ok_eq (h.here hE) (okc_ch hE.2.2 38 (fun _ => ?_) (fun e => absurd hc e)))
  refine ok_bind (ok_eq (h.here hE) (okc_ch hE.2.2 124 (fun e => by omega) (fun _ => ?_)))
  refine ok_bind (ok_eq (show f_m_lands (0 : Int32) s = _ from e2) ?_)
  refine ok_bind (ok_eq (h2.here hE) (okc_ch hE.2.2 38 (fun _ => ?_) (fun e => absurd hc e)))
  exact ok_bind (ok_eq (show f_m_jumps (11 : Int32) s2 = _ from e3) (hk s3 h3 m (by omega)))
theorem ct_or {T : Txt} {s0 s : Mm} {p o L : Nat} {q σ : List (Nat × Nat)} {f : Nat → Nat × Nat} {P : Int32 × Mm → Prop} (hE : EM T s0) (h : CM s0 s p o (q ++ σ) L f) (hc : chn T p = 124) (hq : ∀ x, x ∈ q → lan true x.1 = true) (hl : lok f L q) (ht : topN (lan true) σ) (hk : ∀ s2, CM s0 s2 (p + 1) o ((12, L) :: σ) (L + 1) (uc (land f L q) L (12, 0)) → CH P (p + 1) s2) : CT P p s := fun t m ht1 hm1 => by
  have hlen := pd_le h
  have hp := h.2.2.2.2.2.2.2.2.2
  have hin := ch_in (show chn T p < 256 by omega)
  have h160 := hE.2.2.1
  obtain ⟨t, rfl⟩ := nat_suc (show 0 + 1 ≤ t by omega)
  obtain ⟨s2, e2, h2⟩ := m_lands_ok ht q 1000000 s f h hq hl (by omega)
  obtain ⟨s3, e3, h3⟩ := m_jumps_ok (a := 12) h2 (by omega) (by omega)
  show Ok (b_m_readsCondition_92 (f_m_readsCondition_40 m) (f_m_readsCondition_92 (f_m_readsCondition_40 m) t) s) P
  unfold b_m_readsCondition_92 b_m_readsCondition_152 b_m_readsCondition_180 b_m_readsCondition_195
  refine ok_bind (ok_eq (h.here hE) (okc_ch hE.2.2 41 (fun e => by omega) (fun _ => ?_)))
  refine ok_bind (ok_eq (h.here hE) (okc_ch hE.2.2 38 (fun e => by omega) (fun _ => ?_)))
  refine ok_bind (ok_eq (h.here hE) (okc_ch hE.2.2 124 (fun _ => ?_) (fun e => absurd hc e)))
  refine ok_bind (ok_eq (h.here hE) (okc_ch hE.2.2 124 (fun _ => ?_) (fun e => absurd hc e)))
  refine ok_bind (ok_eq (show f_m_lands (1 : Int32) s = _ from e2) ?_)
  refine ok_bind (ok_eq (h2.here hE) (okc_ch hE.2.2 38 (fun e => by omega) (fun _ => ?_)))
  exact ok_bind (ok_eq (show f_m_jumps (12 : Int32) s2 = _ from e3) (hk s3 h3 m (by omega)))
theorem ct_bad {T : Txt} {s0 s : Mm} {p o L : Nat} {σ : List (Nat × Nat)} {f : Nat → Nat × Nat} {P : Int32 × Mm → Prop} (hE : EM T s0) (h : CM s0 s p o σ L f) (h1 : chn T p ≠ 41) (h2 : chn T p ≠ 38) (h3 : chn T p ≠ 124) (hk : ∀ s2, FM s0 s2 1 p → P (0, s2)) : CT P p s := fun t m ht1 hm1 => by
  have hp := h.2.2.2.2.2.2.2.2.2
  obtain ⟨t, rfl⟩ := nat_suc (show 0 + 1 ≤ t by omega)
  show Ok (b_m_readsCondition_92 (f_m_readsCondition_40 m) (f_m_readsCondition_92 (f_m_readsCondition_40 m) t) s) P
  unfold b_m_readsCondition_92 b_m_readsCondition_152 b_m_readsCondition_170
  refine ok_bind (ok_eq (h.here hE) (okc_ch hE.2.2 41 (fun e => absurd e h1) (fun _ => ?_)))
  refine ok_bind (ok_eq (h.here hE) (okc_ch hE.2.2 38 (fun e => absurd e h2) (fun _ => ?_)))
  refine ok_bind (ok_eq (h.here hE) (okc_ch hE.2.2 124 (fun e => absurd e h3) (fun _ => ?_)))
  show Ok ((f_m_wrongAt (1 : Int32) (s.1 58 20) s).bind _) P
  rw [h.2.1]
  exact ok_bind (ok_eq (m_wrong_eq _ _ _) (ok_t (Or.inl rfl) (ok_some (hk _ (m_wrong_ok (q := 1) (a := p) h)))))
theorem ct_close {T : Txt} {s0 s : Mm} {p o L : Nat} {q σ : List (Nat × Nat)} {f : Nat → Nat × Nat} {P : Int32 × Mm → Prop} (hE : EM T s0) (h : CM s0 s p (o + 1) (q ++ (13, 0) :: σ) L f) (hc : chn T p = 41) (hq : ∀ x, x ∈ q → lan true x.1 = true) (hl : lok f L q) (hk1 : σ ≠ [] → ∀ s2, CM s0 s2 (p + 1) o σ L (land f L q) → CE P (p + 1) L s2) (hk2 : σ = [] → ∀ s2, CM s0 s2 (p + 1) o σ L (land f L q) → P (1, s2)) : CT P p s := fun t m ht1 hm1 => by
  have hlen := pd_le h
  rw [List.length_cons] at hlen
  have hp := h.2.2.2.2.2.2.2.2.2
  have hin := ch_in (show chn T p < 256 by omega)
  have h160 := hE.2.2.1
  obtain ⟨t, rfl⟩ := nat_suc (show 0 + 1 ≤ t by omega)
  obtain ⟨s2, e2, h2⟩ := m_lands_ok (all := true) (σ := (13, 0) :: σ) rfl q 1000000 s f h hq hl (by omega)
  have h3 := (h2.pop.opn (o2 := o)).pos (p2 := p + 1) (by omega) (by omega)
  show Ok (b_m_readsCondition_92 (f_m_readsCondition_40 m) (f_m_readsCondition_92 (f_m_readsCondition_40 m) t) s) P
  unfold b_m_readsCondition_92
  refine ok_bind (ok_eq (h.here hE) (okc_ch hE.2.2 41 (fun _ => ?_) (fun e => absurd hc e)))
  refine ok_bind (ok_eq (show f_m_lands (1 : Int32) s = _ from e2) (ok_lt (ok_lt (ok_lt ?_))))
  rw [h2.2.2.2.1, List.length_cons, nI_pred, sI_col _ _ _ _ (show 23 ≠ 25 by decide), h2.2.2.1, nI_pred, sI_col _ _ _ _ (show 20 ≠ 23 by decide), sI_col _ _ _ _ (show 20 ≠ 25 by decide), h2.2.1, nI_1]
  rw [h3.2.2.2.1]
  refine okc_eq σ.length 0 (fun e => ok_some (hk2 (List.eq_nil_of_length_eq_zero e) _ h3)) (fun e => ?_)
  exact hk1 (fun e2 => e (by rw [e2]; rfl)) _ h3 1000000 t m (by omega) (by omega) (by omega)
theorem ch_open {T : Txt} {s0 s : Mm} {p o L a : Nat} {σ : List (Nat × Nat)} {f : Nat → Nat × Nat} {P : Int32 × Mm → Prop} (hE : EM T s0) (h : CM s0 s p o σ L f) (hc : (chn T p = 33 ∧ a = 10) ∨ (chn T p = 40 ∧ a = 13)) (ho : o < 6) (hk : ∀ s2, CM s0 s2 (p + 1) (o + 1) ((a, 0) :: σ) L f → CH P (p + 1) s2) : CH P p s := fun m hm => by
  have hp := h.2.2.2.2.2.2.2.2.2
  have hin := ch_in (show chn T p < 256 by omega)
  have h160 := hE.2.2.1
  obtain ⟨m, rfl⟩ := nat_suc (show 0 + 1 ≤ m by omega)
  obtain ⟨s2, e2, h2⟩ := m_opens_t (a := a) h ho (by omega) (by omega)
  have b75 : Ok (b_m_readsCondition_75 (f_m_readsCondition_40 m) (nI a) s) P := by
    unfold b_m_readsCondition_75
    exact ok_bind (ok_eq e2 (ok_f ne10 (hk s2 h2 m (by omega))))
  have b58 : Ok (b_m_readsCondition_58 (f_m_readsCondition_40 m) s) P := by
    unfold b_m_readsCondition_58
    refine ok_bind (ok_eq (h.here hE) (okc_ch hE.2.2 33 (fun e => ?_) (fun e => ?_)))
    · have ea : a = 10 := by omega
      subst ea; exact b75
    · have ea : a = 13 := by omega
      subst ea; exact b75
  show Ok (b_m_readsCondition_40 (f_m_readsCondition_40 m) s) P
  unfold b_m_readsCondition_40
  refine ok_bind (ok_eq (h.here hE) (okc_ch hE.2.2 33 (fun _ => b58) (fun e => ?_)))
  exact ok_bind (ok_eq (h.here hE) (okc_ch hE.2.2 40 (fun _ => b58) (fun e2 => by omega)))
theorem ch_open5 {T : Txt} {s0 s : Mm} {p o L : Nat} {σ : List (Nat × Nat)} {f : Nat → Nat × Nat} {P : Int32 × Mm → Prop} (hE : EM T s0) (h : CM s0 s p o σ L f) (hc : chn T p = 33 ∨ chn T p = 40) (ho : o = 6) (hk : ∀ s2, FM s0 s2 5 p → P (0, s2)) : CH P p s := fun m hm => by
  have hp := h.2.2.2.2.2.2.2.2.2
  obtain ⟨m, rfl⟩ := nat_suc (show 0 + 1 ≤ m by omega)
  have b75 : ∀ a : Int32, Ok (b_m_readsCondition_75 (f_m_readsCondition_40 m) a s) P := fun a => by
    obtain ⟨s2, e2, h2⟩ := m_opens_f h ho a
    unfold b_m_readsCondition_75
    exact ok_bind (ok_eq e2 (ok_t rfl (ok_some (hk s2 h2))))
  have b58 : Ok (b_m_readsCondition_58 (f_m_readsCondition_40 m) s) P := by
    unfold b_m_readsCondition_58
    exact ok_bind (ok_eq (h.here hE) (ok_if (fun _ => b75 _) (fun _ => b75 _)))
  show Ok (b_m_readsCondition_40 (f_m_readsCondition_40 m) s) P
  unfold b_m_readsCondition_40
  refine ok_bind (ok_eq (h.here hE) (okc_ch hE.2.2 33 (fun _ => b58) (fun e => ?_)))
  exact ok_bind (ok_eq (h.here hE) (okc_ch hE.2.2 40 (fun _ => b58) (fun e2 => by omega)))
def relS (c a : Nat) : Prop := (c = 60 ∧ a = 7) ∨ (c = 62 ∧ a = 8) ∨ (c = 61 ∧ a = 9)
theorem ch_cmp0 {T : Txt} {s0 s : Mm} {p o L m : Nat} {σ : List (Nat × Nat)} {f : Nat → Nat × Nat} {P : Int32 × Mm → Prop} (hE : EM T s0) (h : CM s0 s p o σ L f) (h1 : chn T p ≠ 33) (h2 : chn T p ≠ 40) (hk : Ok (f_m_readsCompared s) (fun q5 => Ok (if q5.1 = 0 then some ((0 : Int32), q5.2) else f_m_readsCondition_92 (f_m_readsCondition_40 m) 1000000 q5.2) P)) : Ok (f_m_readsCondition_40 (m + 1) s) P := by
  show Ok (b_m_readsCondition_40 (f_m_readsCondition_40 m) s) P
  unfold b_m_readsCondition_40
  refine ok_bind (ok_eq (h.here hE) (okc_ch hE.2.2 33 (fun e => absurd e h1) (fun _ => ?_)))
  refine ok_bind (ok_eq (h.here hE) (okc_ch hE.2.2 40 (fun e => absurd e h2) (fun _ => ?_)))
  exact ok_bind hk
theorem cmp_rel {T : Txt} {s0 s : Mm} {p o L a : Nat} {σ : List (Nat × Nat)} {f : Nat → Nat × Nat} {Q : Int32 × Mm → Prop} (hE : EM T s0) (h : CM s0 s p o σ L f) (hr : relS (chn T p) a) (hk : Ok (b_m_readsCompared_52 (nI a) s) Q) : Ok ((f_m_here s).bind (fun q3 => if q3.1 = (60 : Int32) then (b_m_readsCompared_52 (7 : Int32) q3.2) else ((f_m_here q3.2).bind (fun q5 => if q5.1 = (62 : Int32) then (b_m_readsCompared_52 (8 : Int32) q5.2) else ((f_m_here q5.2).bind (fun q7 => if q7.1 = (61 : Int32) then (b_m_readsCompared_52 (9 : Int32) q7.2) else (b_m_readsCompared_52 (-1 : Int32) q7.2))))))) Q := by
  unfold relS at hr
  refine ok_bind (ok_eq (h.here hE) (okc_ch hE.2.2 60 (fun e => ?_) (fun e => ?_)))
  · have ea : a = 7 := by omega
    subst ea; exact hk
  · refine ok_bind (ok_eq (h.here hE) (okc_ch hE.2.2 62 (fun e => ?_) (fun e => ?_)))
    · have ea : a = 8 := by omega
      subst ea; exact hk
    · refine ok_bind (ok_eq (h.here hE) (okc_ch hE.2.2 61 (fun e => ?_) (fun e => by omega)))
      have ea : a = 9 := by omega
      subst ea; exact hk
/-! what a piece, a part, a condition is to the reference -/
def RPce (s0 : Mm) (p L : Nat) (f : Nat → Nat × Nat) (o p2 L2 : Nat) (f2 : Nat → Nat × Nat) : Prop := ∀ σ s P, topN (cloS true) σ → σ ≠ [] → CM s0 s p o σ L f → (∀ s2, CM s0 s2 p2 o σ L2 f2 → CE P p2 L2 s2) → CH P p s
def RPceF (s0 : Mm) (p L : Nat) (f : Nat → Nat × Nat) (o q a : Nat) : Prop := ∀ σ s P, topN (cloS true) σ → σ ≠ [] → CM s0 s p o σ L f → (∀ s2, FM s0 s2 q a → P (0, s2)) → CH P p s
def topC : List (Nat × Nat) → Prop
  | [] => False
  | x :: _ => x.1 = 12 ∨ x.1 = 13
def RPrt (s0 : Mm) (p L : Nat) (f : Nat → Nat × Nat) (o p2 L2 : Nat) (f2 : Nat → Nat × Nat) : Prop := ∀ σ s P, topC σ → CM s0 s p o σ L f → (∀ s2 q f3, (∀ x, x ∈ q → lan false x.1 = true) → lok f3 L2 q → f2 = land f3 L2 q → CM s0 s2 p2 o (q ++ σ) L2 f3 → CE P p2 L2 s2) → CH P p s
def RPrtF (s0 : Mm) (p L : Nat) (f : Nat → Nat × Nat) (o q a : Nat) : Prop := ∀ σ s P, topC σ → CM s0 s p o σ L f → (∀ s2, FM s0 s2 q a → P (0, s2)) → CH P p s
def RCnd (s0 : Mm) (p L : Nat) (f : Nat → Nat × Nat) (o p2 L2 : Nat) (f2 : Nat → Nat × Nat) : Prop := ∀ σ s P, CM s0 s p o ((13, 0) :: σ) L f → (∀ s2 q f3, (∀ x, x ∈ q → lan true x.1 = true) → lok f3 L2 q → f2 = land f3 L2 q → CM s0 s2 p2 o (q ++ (13, 0) :: σ) L2 f3 → CE P p2 L2 s2) → CH P p s
def RCndF (s0 : Mm) (p L : Nat) (f : Nat → Nat × Nat) (o q a : Nat) : Prop := ∀ σ s P, CM s0 s p o ((13, 0) :: σ) L f → (∀ s2, FM s0 s2 q a → P (0, s2)) → CH P p s
theorem pce_cmp {T : Txt} {s0 : Mm} {p L o p2 L2 p3 L3 a : Nat} {f f2 f3 : Nat → Nat × Nat} (hE : EM T s0) (h1 : chn T p ≠ 33) (h2 : chn T p ≠ 40) (hs : RSum s0 p L f o p2 L2 f2) (hL2 : L2 ≤ p2) (hr : relS (chn T p2) a) (hs2 : RSum s0 (p2 + 1) L2 f2 o p3 L3 f3) (hL3 : L3 < p3) (hlt : p < p3) (hn : notSg (chn T p3)) : RPce s0 p L f o p3 (L3 + 1) (uc f3 L3 (a, 0)) := fun σ s P ht _ h hk m hm => by
  have hp := h.2.2.2.2.2.2.2.2.2
  have ha : a ≤ 9 ∧ 7 ≤ a := by unfold relS at hr; omega
  have c256 : chn T p2 < 256 := by unfold relS at hr; omega
  have hin := ch_in c256
  have h160 := hE.2.2.1
  obtain ⟨m, rfl⟩ := nat_suc (show 0 + 1 ≤ m by omega)
  refine ch_cmp0 hE h h1 h2 ?_
  unfold f_m_readsCompared
  refine ok_bind (m_sum_ok hE hs (by unfold relS at hr; unfold notSg; omega) hL2 h ht (fun s2 g2 => ok_f ne10 (cmp_rel hE g2 hr ?_)))
  unfold b_m_readsCompared_52
  refine ok_f (nI_nm1 (by omega)) (ok_lt ?_)
  rw [g2.2.1, nI_1]
  refine ok_bind (m_sum_ok hE hs2 hn (by omega) (g2.pos (p2 := p2 + 1) (by omega) (by omega)) ht (fun s3 g3 => ok_f ne10 ?_))
  have hp3 := g3.2.2.2.2.2.2.2.2.2
  refine ok_bind (ok_eq (show f_m_notes (nI a) (0 : Int32) s3 = _ from m_notes_eq (a := a) (b := 0) g3.2.2.2.2.2.1 (by omega)) ?_)
  have g4 := g3.note (x := (a, 0)) hL3 ⟨show a ≤ 14 by omega, show 0 < 1048576 by omega⟩
  have := hk _ g4 1000000 1000000 m (by omega) (by omega) (by omega)
  unfold mE at this
  refine ok_bind ?_
  exact ok_mono (ok_bind_inv this) (fun q hq => ok_some (ok_f ne10 hq))
theorem pce_cmpF1 {T : Txt} {s0 : Mm} {p L o q a : Nat} {f : Nat → Nat × Nat} (hE : EM T s0) (h1 : chn T p ≠ 33) (h2 : chn T p ≠ 40) (hs : RSumF s0 p L f o q a) : RPceF s0 p L f o q a := fun σ s P ht _ h hk m hm => by
  have hp := h.2.2.2.2.2.2.2.2.2
  obtain ⟨m, rfl⟩ := nat_suc (show 0 + 1 ≤ m by omega)
  refine ch_cmp0 hE h h1 h2 ?_
  unfold f_m_readsCompared
  exact ok_bind (m_sum_f hs h ht (fun s2 g2 => ok_t rfl (ok_some (ok_t rfl (ok_some (hk s2 g2))))))
theorem pce_cmpF2 {T : Txt} {s0 : Mm} {p L o p2 L2 : Nat} {f f2 : Nat → Nat × Nat} (hE : EM T s0) (h1 : chn T p ≠ 33) (h2 : chn T p ≠ 40) (hs : RSum s0 p L f o p2 L2 f2) (hL2 : L2 ≤ p2) (hn : notSg (chn T p2)) (n1 : chn T p2 ≠ 60) (n2 : chn T p2 ≠ 62) (n3 : chn T p2 ≠ 61) : RPceF s0 p L f o 1 p2 := fun σ s P ht _ h hk m hm => by
  have hp := h.2.2.2.2.2.2.2.2.2
  obtain ⟨m, rfl⟩ := nat_suc (show 0 + 1 ≤ m by omega)
  refine ch_cmp0 hE h h1 h2 ?_
  unfold f_m_readsCompared b_m_readsCompared_52
  refine ok_bind (m_sum_ok hE hs hn hL2 h ht (fun s2 g2 => ok_f ne10 ?_))
  refine ok_bind (ok_eq (g2.here hE) (okc_ch hE.2.2 60 (fun e => absurd e n1) (fun _ => ?_)))
  refine ok_bind (ok_eq (g2.here hE) (okc_ch hE.2.2 62 (fun e => absurd e n2) (fun _ => ?_)))
  refine ok_bind (ok_eq (g2.here hE) (okc_ch hE.2.2 61 (fun e => absurd e n3) (fun _ => ?_)))
  refine ok_t rfl ?_
  show Ok ((f_m_wrongAt (1 : Int32) (s2.1 58 20) s2).bind _) _
  rw [g2.2.1]
  exact ok_bind (ok_eq (m_wrong_eq _ _ _) (ok_t (Or.inl rfl) (ok_some (ok_t rfl (ok_some (hk _ (m_wrong_ok (q := 1) (a := p2) g2)))))))
theorem pce_cmpF3 {T : Txt} {s0 : Mm} {p L o p2 L2 q b a : Nat} {f f2 : Nat → Nat × Nat} (hE : EM T s0) (h1 : chn T p ≠ 33) (h2 : chn T p ≠ 40) (hs : RSum s0 p L f o p2 L2 f2) (hL2 : L2 ≤ p2) (hr : relS (chn T p2) a) (hs2 : RSumF s0 (p2 + 1) L2 f2 o q b) : RPceF s0 p L f o q b := fun σ s P ht _ h hk m hm => by
  have hp := h.2.2.2.2.2.2.2.2.2
  have ha : a ≤ 9 ∧ 7 ≤ a := by unfold relS at hr; omega
  have c256 : chn T p2 < 256 := by unfold relS at hr; omega
  have hin := ch_in c256
  have h160 := hE.2.2.1
  obtain ⟨m, rfl⟩ := nat_suc (show 0 + 1 ≤ m by omega)
  refine ch_cmp0 hE h h1 h2 ?_
  unfold f_m_readsCompared
  refine ok_bind (m_sum_ok hE hs (by unfold relS at hr; unfold notSg; omega) hL2 h ht (fun s2 g2 => ok_f ne10 (cmp_rel hE g2 hr ?_)))
  unfold b_m_readsCompared_52
  refine ok_f (nI_nm1 (by omega)) (ok_lt ?_)
  rw [g2.2.1, nI_1]
  exact ok_bind (m_sum_f hs2 (g2.pos (p2 := p2 + 1) (by omega) (by omega)) ht (fun s3 g3 => ok_t rfl (ok_some (ok_t rfl (ok_some (hk s3 g3))))))
theorem pce_not {T : Txt} {s0 : Mm} {p L o p2 L2 : Nat} {f f2 : Nat → Nat × Nat} (hE : EM T s0) (hc : chn T p = 33) (ho : o < 6) (h : RPce s0 (p + 1) L f (o + 1) p2 L2 f2) (hL : L2 < p2) : RPce s0 p L f o p2 (L2 + 1) (uc f2 L2 (10, 0)) := fun σ s P _ _ hm hk => ch_open hE hm (Or.inl ⟨hc, rfl⟩) ho (fun s2 h2 => h ((10, 0) :: σ) s2 P rfl (by intro e; cases e) h2 (fun s3 h3 n t m n1 n2 n3 => by
  have hp := h3.2.2.2.2.2.2.2.2.2
  obtain ⟨n, rfl⟩ := nat_suc (show 0 + 1 ≤ n by omega)
  obtain ⟨s4, e4, h4⟩ := m_ends_yes (n := n) h3 hL
  have := hk s4 h4 n t m (by omega) n2 n3
  unfold mE at this ⊢
  rw [e4]
  exact this))
theorem pce_notF {T : Txt} {s0 : Mm} {p L o q a : Nat} {f : Nat → Nat × Nat} (hE : EM T s0) (hc : chn T p = 33) (ho : o < 6) (h : RPceF s0 (p + 1) L f (o + 1) q a) : RPceF s0 p L f o q a := fun σ s P _ _ hm hk => ch_open hE hm (Or.inl ⟨hc, rfl⟩) ho (fun s2 h2 => h ((10, 0) :: σ) s2 P rfl (by intro e; cases e) h2 hk)
theorem pce_F5 {T : Txt} {s0 : Mm} {p L o : Nat} {f : Nat → Nat × Nat} (hE : EM T s0) (hc : chn T p = 33 ∨ chn T p = 40) (ho : o = 6) : RPceF s0 p L f o 5 p := fun σ s P _ _ hm hk => ch_open5 hE hm hc ho hk
theorem q13 {q : List (Nat × Nat)} {σ : List (Nat × Nat)} (hq : ∀ x, x ∈ q → lan true x.1 = true) : topN is10 (q ++ (13, 0) :: σ) := top_app (fun x hx => lan_n10 (hq x hx)) rfl
theorem pce_par {T : Txt} {s0 : Mm} {p L o p2 L2 : Nat} {f f2 : Nat → Nat × Nat} (hE : EM T s0) (hc : chn T p = 40) (ho : o < 6) (h : RCnd s0 (p + 1) L f (o + 1) p2 L2 f2) (hc2 : chn T p2 = 41) : RPce s0 p L f o (p2 + 1) L2 f2 := fun σ s P _ hne hm hk => ch_open hE hm (Or.inr ⟨hc, rfl⟩) ho (fun s2 h2 => h σ s2 P h2 (fun s3 q f3 q1 q2 q3 h3 => ce_ct h3 (q13 q1) (ct_close hE h3 hc2 q1 q2 (fun _ s4 h4 => hk s4 (by rw [q3]; exact h4)) (fun e => absurd e hne))))
theorem pce_parF {T : Txt} {s0 : Mm} {p L o q a : Nat} {f : Nat → Nat × Nat} (hE : EM T s0) (hc : chn T p = 40) (ho : o < 6) (h : RCndF s0 (p + 1) L f (o + 1) q a) : RPceF s0 p L f o q a := fun σ s P _ _ hm hk => ch_open hE hm (Or.inr ⟨hc, rfl⟩) ho (fun s2 h2 => h σ s2 P h2 hk)
theorem pce_parF1 {T : Txt} {s0 : Mm} {p L o p2 L2 : Nat} {f f2 : Nat → Nat × Nat} (hE : EM T s0) (hc : chn T p = 40) (ho : o < 6) (h : RCnd s0 (p + 1) L f (o + 1) p2 L2 f2) (n1 : chn T p2 ≠ 41) (n2 : chn T p2 ≠ 38) (n3 : chn T p2 ≠ 124) : RPceF s0 p L f o 1 p2 := fun σ s P _ _ hm hk => ch_open hE hm (Or.inr ⟨hc, rfl⟩) ho (fun s2 h2 => h σ s2 P h2 (fun s3 q f3 q1 q2 q3 h3 => ce_ct h3 (q13 q1) (ct_bad hE h3 n1 n2 n3 hk)))
theorem topC_cl {σ : List (Nat × Nat)} (h : topC σ) : topN (cloS true) σ ∧ σ ≠ [] ∧ topN is10 σ ∧ topN (lan false) σ := by
  cases σ with
  | nil => exact h.elim
  | cons x r =>
    have h2 : x.1 = 12 ∨ x.1 = 13 := h
    refine ⟨?_, (by intro e; cases e), ?_, ?_⟩
    · show cloS true x.1 = false
      rcases h2 with e | e <;> rw [e] <;> rfl
    · show is10 x.1 = false
      rcases h2 with e | e <;> rw [e] <;> rfl
    · show lan false x.1 = false
      rcases h2 with e | e <;> rw [e] <;> rfl
theorem prt_of {s0 : Mm} {p L o p2 L2 : Nat} {f f2 : Nat → Nat × Nat} (h : RPce s0 p L f o p2 L2 f2) : RPrt s0 p L f o p2 L2 f2 := fun σ s P ht hm hk => h σ s P (topC_cl ht).1 (topC_cl ht).2.1 hm (fun s2 h2 => hk s2 [] f2 (fun x hx => by cases hx) (fun x hx => by cases hx) rfl h2)
theorem prt_ofF {s0 : Mm} {p L o q a : Nat} {f : Nat → Nat × Nat} (h : RPceF s0 p L f o q a) : RPrtF s0 p L f o q a := fun σ s P ht hm hk => h σ s P (topC_cl ht).1 (topC_cl ht).2.1 hm hk
theorem prt_go {T : Txt} {s0 s : Mm} {p2 L2 o : Nat} {q σ : List (Nat × Nat)} {f2 f4 : Nat → Nat × Nat} {P : Int32 × Mm → Prop} (hE : EM T s0) (ht : topC σ) (hc : chn T p2 = 38) (q1 : ∀ x, x ∈ q → lan false x.1 = true) (q2 : lok f4 L2 q) (q3 : f2 = land f4 L2 q) (h3 : CM s0 s p2 o (q ++ σ) L2 f4) (hk : ∀ s2, CM s0 s2 (p2 + 1) o ((11, L2) :: σ) (L2 + 1) (uc f2 L2 (11, 0)) → CH P (p2 + 1) s2) : CE P p2 L2 s := ce_ct h3 (top_app (fun x hx => lan_n10 (q1 x hx)) (topC_cl ht).2.2.1) (ct_and hE h3 hc q1 q2 (topC_cl ht).2.2.2 (fun s4 h4 => hk s4 (by rw [q3]; exact h4)))
theorem prt_ext {T : Txt} {s0 : Mm} {p L o p2 L2 p3 L3 : Nat} {f f2 f3 : Nat → Nat × Nat} (hE : EM T s0) (h : RPrt s0 p L f o p2 L2 f2) (hc : chn T p2 = 38) (h2 : RPce s0 (p2 + 1) (L2 + 1) (uc f2 L2 (11, 0)) o p3 L3 f3) (hl : L2 < L3) (ho : (f3 L2).1 = 11) : RPrt s0 p L f o p3 L3 (uc f3 L2 (11, L3)) := fun σ s P ht hm hk => h σ s P ht hm (fun s2 q f4 q1 q2 q3 h3 => prt_go hE ht hc q1 q2 q3 h3 (fun s4 h4 => h2 ((11, L2) :: σ) s4 P rfl (by intro e; cases e) h4 (fun s5 h5 => hk s5 [(11, L2)] f3 (fun x hx => by rw [List.mem_singleton] at hx; rw [hx]; rfl) (fun x hx => by rw [List.mem_singleton] at hx; rw [hx]; exact ⟨hl, ho⟩) rfl h5)))
theorem prt_extF {T : Txt} {s0 : Mm} {p L o p2 L2 q a : Nat} {f f2 : Nat → Nat × Nat} (hE : EM T s0) (h : RPrt s0 p L f o p2 L2 f2) (hc : chn T p2 = 38) (h2 : RPceF s0 (p2 + 1) (L2 + 1) (uc f2 L2 (11, 0)) o q a) : RPrtF s0 p L f o q a := fun σ s P ht hm hk => h σ s P ht hm (fun s2 q f4 q1 q2 q3 h3 => prt_go hE ht hc q1 q2 q3 h3 (fun s4 h4 => h2 ((11, L2) :: σ) s4 P rfl (by intro e; cases e) h4 hk))
theorem cnd_of {s0 : Mm} {p L o p2 L2 : Nat} {f f2 : Nat → Nat × Nat} (h : RPrt s0 p L f o p2 L2 f2) : RCnd s0 p L f o p2 L2 f2 := fun σ s P hm hk => h ((13, 0) :: σ) s P (Or.inr rfl) hm (fun s2 q f4 q1 q2 q3 h3 => hk s2 q f4 (fun x hx => lan_up (q1 x hx)) q2 q3 h3)
theorem cnd_ofF {s0 : Mm} {p L o q a : Nat} {f : Nat → Nat × Nat} (h : RPrtF s0 p L f o q a) : RCndF s0 p L f o q a := fun σ s P hm hk => h ((13, 0) :: σ) s P (Or.inr rfl) hm hk
theorem cnd_go {T : Txt} {s0 s : Mm} {p2 L2 o : Nat} {q σ : List (Nat × Nat)} {f2 f4 : Nat → Nat × Nat} {P : Int32 × Mm → Prop} (hE : EM T s0) (hc : chn T p2 = 124) (q1 : ∀ x, x ∈ q → lan true x.1 = true) (q2 : lok f4 L2 q) (q3 : f2 = land f4 L2 q) (h3 : CM s0 s p2 o (q ++ (13, 0) :: σ) L2 f4) (hk : ∀ s2, CM s0 s2 (p2 + 1) o ((12, L2) :: (13, 0) :: σ) (L2 + 1) (uc f2 L2 (12, 0)) → CH P (p2 + 1) s2) : CE P p2 L2 s := ce_ct h3 (q13 q1) (ct_or hE h3 hc q1 q2 rfl (fun s4 h4 => hk s4 (by rw [q3]; exact h4)))
theorem land_op {L : Nat} : ∀ (q : List (Nat × Nat)) (f : Nat → Nat × Nat), lok f L q → ∀ j, (land f L q j).1 = (f j).1
  | [], f, _, j => rfl
  | x :: r, f, h, j => by
    show (land (uc f x.2 (x.1, L)) L r j).1 = (f j).1
    rw [land_op r _ (lok_uc h) j]
    by_cases e : j = x.2
    · rw [e, uc_s]; exact ((h x List.mem_cons_self).2).symm
    · rw [uc_n _ _ e]
theorem cnd_ext {T : Txt} {s0 : Mm} {p L o p2 L2 p3 L3 : Nat} {f f2 f3 : Nat → Nat × Nat} (hE : EM T s0) (h : RCnd s0 p L f o p2 L2 f2) (hc : chn T p2 = 124) (h2 : RPrt s0 (p2 + 1) (L2 + 1) (uc f2 L2 (12, 0)) o p3 L3 f3) (hl : L2 < L3) (ho : (f3 L2).1 = 12) : RCnd s0 p L f o p3 L3 (uc f3 L2 (12, L3)) := fun σ s P hm hk => h σ s P hm (fun s2 q f4 q1 q2 q3 h3 => cnd_go hE hc q1 q2 q3 h3 (fun s4 h4 => h2 ((12, L2) :: (13, 0) :: σ) s4 P (Or.inl rfl) h4 (fun s5 r f5 r1 r2 r3 h5 => hk s5 (r ++ [(12, L2)]) f5 (fun x hx => by
  rw [List.mem_append, List.mem_singleton] at hx
  rcases hx with hx | hx
  · exact lan_up (r1 x hx)
  · rw [hx]; rfl) (fun x hx => by
  rw [List.mem_append, List.mem_singleton] at hx
  rcases hx with hx | hx
  · exact r2 x hx
  · rw [hx]
    refine ⟨hl, ?_⟩
    rw [r3, land_op r f5 r2] at ho
    exact ho) (by rw [land_snoc, r3]) (by rw [List.append_assoc]; exact h5))))
theorem cnd_extF {T : Txt} {s0 : Mm} {p L o p2 L2 q a : Nat} {f f2 : Nat → Nat × Nat} (hE : EM T s0) (h : RCnd s0 p L f o p2 L2 f2) (hc : chn T p2 = 124) (h2 : RPrtF s0 (p2 + 1) (L2 + 1) (uc f2 L2 (12, 0)) o q a) : RCndF s0 p L f o q a := fun σ s P hm hk => h σ s P hm (fun s2 q f4 q1 q2 q3 h3 => cnd_go hE hc q1 q2 q3 h3 (fun s4 h4 => h2 ((12, L2) :: (13, 0) :: σ) s4 P (Or.inl rfl) h4 hk))
