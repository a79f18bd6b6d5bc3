/-! recipe: the snips' level -/
def LSn : List (Nat × Option Nat) := [(13, some 6), (13, some 7), (13, some 8), (13, some 10), (13, some 11), (13, some 12), (17, none), (18, none), (19, none), (20, none), (23, none)]
def BX (T : Txt) (n : Nat) (l : List Nat) (v : Wd) (sB : Mm) : Prop := sB.1 13 5 = nI T.1 ∧ (∀ j, j < T.1 → sB.1 21 j = nI (T.2 j)) ∧ TxO T ∧ FoS sB 14 15 16 n l (slb 0) v
def SXq (T : Txt) (sB s : Mm) (p cn : Nat) (cut : Nat → Bool) : Prop := Fr LSn sB s ∧ s.1 13 6 = nI p ∧ s.1 13 7 = 0 ∧ s.1 13 10 = nI cn ∧ Rw (s.1 23) cut ∧ p ≤ T.1
def GX (sB s : Mm) (k a : Nat) : Prop := Fr LSn sB s ∧ (1 ≤ k ∧ k ≤ 6 ∧ a ≤ 160) ∧ s.1 13 7 = nI k ∧ s.1 13 8 = nI a
def LSq : List (Nat × Option Nat) := [(58, some 20), (58, some 22), (58, some 23), (58, some 24), (58, some 25), (58, some 26), (58, some 27), (58, some 28), (58, some 29), (66, none), (67, none), (68, none), (69, none), (70, none), (71, none)]
def BM (T : Txt) (n : Nat) (l : List Nat) (v : Wd) (sB : Mm) : Prop := EM T sB ∧ mW sB v ∧ (v.1 ≤ 16 ∧ v.2.1 ≤ 16 ∧ v.2.2 ≤ 1) ∧ sB.1 58 0 = nI n ∧ ∀ k, k < 256 → pcv v k = true → sB.1 64 k = nI (layN v l (k % 16) (k / 16))
def SMq (T : Txt) (sB s : Mm) (p cn : Nat) (cut : Nat → Bool) : Prop := Fr LSq sB s ∧ s.1 58 20 = nI p ∧ s.1 58 27 = nI cn ∧ (∀ k, k < 256 → s.1 69 k = bI (cut k)) ∧ p ≤ T.1
def GM (sB s : Mm) (k a : Nat) : Prop := Fr LSq sB s ∧ s.1 58 22 = (-1000 : Int32) * nI k - nI a
theorem SXq.look {T : Txt} {n : Nat} {l : List Nat} {v : Wd} {sB s : Mm} {p cn : Nat} {cut : Nat → Bool} (hB : BX T n l v sB) (h : SXq T sB s p cn cut) : f_Rdr_look s = some (chI T p, s) :=
  x_lookT (by rw [h.1 13 5 rfl]; exact hB.1) h.2.1 (fun j hj => by rw [h.1 21 j rfl]; exact hB.2.1 j hj) hB.2.2.1 (by have := hB.2.2.1.1; have := h.2.2.2.2.2; omega)
theorem SXq.fo {T : Txt} {n : Nat} {l : List Nat} {v : Wd} {sB s : Mm} (hB : BX T n l v sB) (h : Fr LSn sB s) : FoS s 14 15 16 n l (slb 0) v := hB.2.2.2.same (fun j => h _ j rfl) (fun j => h _ j rfl) (fun j => h _ j rfl)
theorem SMq.here {T : Txt} {n : Nat} {l : List Nat} {v : Wd} {sB s : Mm} {p cn : Nat} {cut : Nat → Bool} (hB : BM T n l v sB) (h : SMq T sB s p cn cut) : f_m_here s = some (chI T p, s) :=
  m_hereT (by rw [h.1 58 21 rfl]; exact hB.1.1) h.2.1 (fun j hj => by rw [h.1 65 j rfl]; exact hB.1.2.1 j hj) hB.1.2.2 (by have := hB.1.2.2.1; have := h.2.2.2.2; omega)
theorem SXq.pos {T : Txt} {sB s : Mm} {p cn p2 : Nat} {cut : Nat → Bool} (h : SXq T sB s p cn cut) (hp : p2 ≤ T.1) : SXq T sB (sI s 13 6 (nI p2)) p2 cn cut := by
  obtain ⟨a1, a2, a3, a4, a5, a6⟩ := h
  exact ⟨a1.sI rfl, sI_self _ _ _ _, by rw [sI_col _ _ _ _ (by decide)]; exact a3, by rw [sI_col _ _ _ _ (by decide)]; exact a4, by rw [sI_row _ _ _ _ (by decide)]; exact a5, hp⟩
theorem SMq.pos {T : Txt} {sB s : Mm} {p cn p2 : Nat} {cut : Nat → Bool} (h : SMq T sB s p cn cut) (hp : p2 ≤ T.1) : SMq T sB (sI s 58 20 (nI p2)) p2 cn cut := by
  obtain ⟨a1, a2, a3, a4, a5⟩ := h
  exact ⟨a1.sI rfl, sI_self _ _ _ _, by rw [sI_col _ _ _ _ (by decide)]; exact a3, fun k hk => by rw [sI_row _ _ _ _ (by decide)]; exact a4 k hk, hp⟩
theorem SXq.bad {T : Txt} {sB s : Mm} {p cn : Nat} {cut : Nat → Bool} (h : SXq T sB s p cn cut) {q : Nat} (hq : 1 ≤ q ∧ q ≤ 6) (a : Nat) (ha : a ≤ p := by omega) (hT : T.1 ≤ 160 := by omega) : f_Rdr_fail (nI q) (nI a) s = some ((), sI (sI s 13 7 (nI q)) 13 8 (nI a)) ∧ GX sB (sI (sI s 13 7 (nI q)) 13 8 (nI a)) q a := by
  refine ⟨?_, (h.1.sI rfl).sI rfl, ⟨hq.1, hq.2, by have := h.2.2.2.2.2; omega⟩, by rw [sI_col _ _ _ _ (by decide), sI_self], sI_self _ _ _ _⟩
  unfold f_Rdr_fail
  rw [h.2.2.1, if_pos rfl]
theorem SMq.bad {T : Txt} {sB s : Mm} {p cn : Nat} {cut : Nat → Bool} (h : SMq T sB s p cn cut) (q a : Nat) : GM sB (sI s 58 22 ((-1000 : Int32) * nI q - nI a)) q a := ⟨h.1.sI rfl, sI_self _ _ _ _⟩
theorem GX.ne {sB s : Mm} {k a : Nat} (h : GX sB s k a) : ¬ s.1 13 7 = 0 := by
  rw [h.2.2.1]
  intro e
  have h2 := h.2.1
  have := (nI_eq (by omega) (by omega)).mp (show nI k = nI 0 from e)
  omega
theorem SXq.take {T : Txt} {n : Nat} {l : List Nat} {v : Wd} {sB s : Mm} {p cn c : Nat} {cut : Nat → Bool} (hB : BX T n l v sB) (h : SXq T sB s p cn cut) (hc : c < 256) : (chn T p = c → f_Rdr_take (nI c) s = some ((), sI s 13 6 (nI (p + 1))) ∧ p < T.1) ∧ (chn T p ≠ c → ∃ s2, f_Rdr_take (nI c) s = some ((), s2) ∧ GX sB s2 1 p) := by
  have h160 := hB.2.2.1.1
  constructor
  · intro hp
    refine ⟨?_, ch_in (by omega)⟩
    unfold f_Rdr_take
    rw [h.2.2.1, if_pos rfl, h.look hB]
    simp only [Option.bind_some]
    rw [if_pos ((chI_eq hB.2.2.1 hc).mpr hp), h.2.1, nI_1, lt_eq]
  · intro hp
    obtain ⟨e2, h2⟩ := h.bad (q := 1) (by omega) p
    refine ⟨_, ?_, h2⟩
    unfold f_Rdr_take
    rw [h.2.2.1, if_pos rfl, h.look hB]
    simp only [Option.bind_some]
    rw [if_neg (fun e => hp ((chI_eq hB.2.2.1 hc).mp e)), h.2.1, show f_Rdr_fail (1 : Int32) (nI p) s = _ from e2]
    rfl
theorem GX.take {sB s : Mm} {k a : Nat} (h : GX sB s k a) (v : Int32) : f_Rdr_take v s = some ((), s) := by
  unfold f_Rdr_take
  rw [if_neg h.ne]
theorem GX.fail {sB s : Mm} {k a : Nat} (h : GX sB s k a) (v w : Int32) : f_Rdr_fail v w s = some ((), s) := by
  unfold f_Rdr_fail
  rw [if_neg h.ne]
/-! a whole condition, by the reference -/
theorem m_cond_st {T : Txt} {s0 : Mm} {p : Nat} (h20 : s0.1 58 20 = nI p) (h24 : s0.1 58 24 = 0) (hp : p ≤ 160) (f : Nat → Nat × Nat) : CM s0 (sI (sI s0 58 23 0) 58 25 0) p 0 [] 0 f := by
  refine ⟨(Fr.rf.sI rfl).sI rfl, ?_, ?_, sI_self _ _ _ _, trivial, ?_, fun j hj => by omega, by show 0 ≤ p; omega, by omega, hp⟩
  · rw [sI_col _ _ _ _ (by decide), sI_col _ _ _ _ (by decide)]; exact h20
  · rw [sI_col _ _ _ _ (by decide), sI_self]; rfl
  · rw [sI_col _ _ _ _ (by decide), sI_col _ _ _ _ (by decide)]; exact h24
theorem m_cond_go {T : Txt} {s0 : Mm} {p : Nat} {f : Nat → Nat × Nat} {P : Int32 × Mm → Prop} (hE : EM T s0) (h20 : s0.1 58 20 = nI p) (h24 : s0.1 58 24 = 0) (hp : p ≤ 160) (hc : chn T p = 40) (hk : ∀ s2, CM s0 s2 (p + 1) 1 [(13, 0)] 0 f → CH P (p + 1) s2) : Ok (f_m_readsCondition s0) P := by
  have hin := ch_in (show chn T p < 256 by omega)
  have h160 := hE.2.2.1
  have h1 := m_cond_st (T := T) h20 h24 hp f
  obtain ⟨s2, e2, h2⟩ := m_opens_t (a := 13) h1 (by omega) (by omega) (by omega)
  unfold f_m_readsCondition
  refine ok_bind (ok_eq (m_hereT hE.1 h20 hE.2.1 hE.2.2 hp) (okc_ch hE.2.2 40 (fun _ => ?_) (fun e => absurd hc e)))
  exact ok_bind (ok_eq (show f_m_opens (13 : Int32) (sI (sI s0 58 23 0) 58 25 0) = _ from e2) (ok_f ne10 (hk s2 h2 1000000 (by omega))))
theorem m_cond_t {T : Txt} {s0 : Mm} {p p2 L2 : Nat} {f f2 : Nat → Nat × Nat} {P : Int32 × Mm → Prop} (hE : EM T s0) (h20 : s0.1 58 20 = nI p) (h24 : s0.1 58 24 = 0) (hp : p ≤ 160) (hc : chn T p = 40) (hR : RCnd s0 (p + 1) 0 f 1 p2 L2 f2) (hc2 : chn T p2 = 41) (hk : ∀ s2, CM s0 s2 (p2 + 1) 0 [] L2 f2 → P (1, s2)) : Ok (f_m_readsCondition s0) P :=
  m_cond_go hE h20 h24 hp hc (fun s2 h2 => hR [] s2 P h2 (fun s3 q f3 q1 q2 q3 h3 => ce_ct h3 (q13 q1) (ct_close hE h3 hc2 q1 q2 (fun e => absurd rfl e) (fun _ s4 h4 => hk s4 (by rw [q3]; exact h4)))))
theorem m_cond_f {T : Txt} {s0 : Mm} {p k a : Nat} {f : Nat → Nat × Nat} {P : Int32 × Mm → Prop} (hE : EM T s0) (h20 : s0.1 58 20 = nI p) (h24 : s0.1 58 24 = 0) (hp : p ≤ 160) (hc : chn T p = 40) (hR : RCndF s0 (p + 1) 0 f 1 k a) (hk : ∀ s2, FM s0 s2 k a → P (0, s2)) : Ok (f_m_readsCondition s0) P :=
  m_cond_go hE h20 h24 hp hc (fun s2 h2 => hR [] s2 P h2 hk)
theorem m_cond_f1 {T : Txt} {s0 : Mm} {p p2 L2 : Nat} {f f2 : Nat → Nat × Nat} {P : Int32 × Mm → Prop} (hE : EM T s0) (h20 : s0.1 58 20 = nI p) (h24 : s0.1 58 24 = 0) (hp : p ≤ 160) (hc : chn T p = 40) (hR : RCnd s0 (p + 1) 0 f 1 p2 L2 f2) (n1 : chn T p2 ≠ 41) (n2 : chn T p2 ≠ 38) (n3 : chn T p2 ≠ 124) (hk : ∀ s2, FM s0 s2 1 p2 → P (0, s2)) : Ok (f_m_readsCondition s0) P :=
  m_cond_go hE h20 h24 hp hc (fun s2 h2 => hR [] s2 P h2 (fun s3 q f3 q1 q2 q3 h3 => ce_ct h3 (q13 q1) (ct_bad hE h3 n1 n2 n3 hk)))
theorem m_cond_f0 {T : Txt} {s0 : Mm} {p : Nat} {P : Int32 × Mm → Prop} (hE : EM T s0) (h20 : s0.1 58 20 = nI p) (hp : p ≤ 160) (hc : chn T p ≠ 40) (hk : ∀ s2, FM s0 s2 1 p → P (0, s2)) : Ok (f_m_readsCondition s0) P := by
  unfold f_m_readsCondition
  refine ok_bind (ok_eq (m_hereT hE.1 h20 hE.2.1 hE.2.2 hp) (okc_ch hE.2.2 40 (fun e => absurd e hc) (fun _ => ?_)))
  show Ok ((f_m_wrongAt (1 : Int32) (s0.1 58 20) s0).bind _) _
  rw [h20]
  exact ok_bind (ok_eq (m_wrong_eq _ _ _) (ok_t (Or.inl rfl) (ok_some (hk _ ⟨Fr.rf.sI rfl, sI_self _ _ _ _⟩))))
/-! the snip c: both sides -/
def RWh (T : Txt) (n : Nat) (l : List Nat) (v : Wd) (p cn : Nat) (cut : Nat → Bool) (p2 : Nat) (cut2 : Nat → Bool) : Prop := ∀ sB s P, BM T n l v sB → SMq T sB s p cn cut → (∀ s2, SMq T sB s2 p2 cn cut2 → P ((1 : Int32), s2)) → Ok (f_m_readsLawful s) P
def RWhF (T : Txt) (n : Nat) (l : List Nat) (v : Wd) (p cn : Nat) (cut : Nat → Bool) (k a : Nat) : Prop := ∀ sB s P, BM T n l v sB → SMq T sB s p cn cut → (∀ s2, GM sB s2 k a → P ((0 : Int32), s2)) → Ok (f_m_readsLawful s) P
theorem em_law {T : Txt} {n : Nat} {l : List Nat} {v : Wd} {sB s : Mm} {p cn : Nat} {cut : Nat → Bool} (hB : BM T n l v sB) (h : SMq T sB s p cn cut) : EM T (sI s 58 24 0) := ⟨by rw [sI_col _ _ _ _ (by decide), h.1 58 21 rfl]; exact hB.1.1, fun j hj => by rw [sI_row _ _ _ _ (by decide), h.1 65 j rfl]; exact hB.1.2.1 j hj, hB.1.2.2⟩
theorem fm_gm {T : Txt} {sB s s2 : Mm} {p cn k a : Nat} {cut : Nat → Bool} (h : SMq T sB s p cn cut) (h2 : FM (sI s 58 24 0) s2 k a) : GM sB s2 k a := ⟨(h.1.sI (c := 58) (j := 24) rfl).tr (h2.1.wk (by decide)), h2.2⟩
theorem rwh_t {T : Txt} {n : Nat} {l : List Nat} {v : Wd} {p cn p2 L2 : Nat} {cut : Nat → Bool} {f f2 : Nat → Nat × Nat} (hc : chn T p = 40) (hR : ∀ sm, EM T sm → RCnd sm (p + 1) 0 f 1 p2 L2 f2) (hc2 : chn T p2 = 41) (hC : CdO f2 L2) : RWh T n l v p cn cut (p2 + 1) (fun k => cut k || askB v l n cn f2 L2 k) := fun sB s P hB h hk => by
  have h160 := hB.1.2.2.1
  have hin := ch_in (show chn T p2 < 256 by omega)
  have hE := em_law hB h
  unfold f_m_readsLawful
  refine ok_bind (m_cond_t hE (by rw [sI_col _ _ _ _ (by decide)]; exact h.2.1) (sI_self _ _ _ _) (by have := h.2.2.2.2; omega) hc (hR _ hE) hc2 (fun s2 h2 => ok_f ne10 ?_))
  have hF2 : Fr LSq sB s2 := (h.1.sI (c := 58) (j := 24) rfl).tr (h2.1.wk (by decide))
  have g : ∀ c j, inL LRm c j = false → ¬ (c = 58 ∧ j = 24) → s2.1 c j = s.1 c j := fun c j hc hne => by rw [h2.1 c j hc, sI_at, if_neg hne]
  refine m_ask_ok hC ⟨by rw [hF2 58 8 rfl]; exact hB.2.1.1, by rw [hF2 58 9 rfl]; exact hB.2.1.2.1, by rw [hF2 58 10 rfl]; exact hB.2.1.2.2⟩ hB.2.2.1.1 hB.2.2.1.2.1 hB.2.2.1.2.2 (by rw [hF2 58 0 rfl]; exact hB.2.2.2.1) (by rw [g 58 27 rfl (by omega)]; exact h.2.2.1) (fun k hk2 hp => by rw [hF2 64 k rfl]; exact hB.2.2.2.2 k hk2 hp) h2.2.2.2.2.2.1 (fun j hj => (h2.2.2.2.2.2.2.1 j hj).1) (fun k hk2 => by rw [g 69 k rfl (by omega)]; exact h.2.2.2.1 k hk2) (fun s3 hF3 h3 => hk s3 ⟨hF2.tr (hF3.wk (by decide)), ?_, ?_, h3, by omega⟩)
  · rw [hF3 58 20 rfl]; exact h2.2.1
  · rw [hF3 58 27 rfl, g 58 27 rfl (by omega)]; exact h.2.2.1
theorem rwh_f {T : Txt} {n : Nat} {l : List Nat} {v : Wd} {p cn k a : Nat} {cut : Nat → Bool} {f : Nat → Nat × Nat} (hc : chn T p = 40) (hR : ∀ sm, EM T sm → RCndF sm (p + 1) 0 f 1 k a) : RWhF T n l v p cn cut k a := fun sB s P hB h hk => by
  have h160 := hB.1.2.2.1
  have hE := em_law hB h
  unfold f_m_readsLawful
  exact ok_bind (m_cond_f hE (by rw [sI_col _ _ _ _ (by decide)]; exact h.2.1) (sI_self _ _ _ _) (by have := h.2.2.2.2; omega) hc (hR _ hE) (fun s2 h2 => ok_t rfl (ok_some (hk s2 (fm_gm h h2)))))
theorem rwh_f1 {T : Txt} {n : Nat} {l : List Nat} {v : Wd} {p cn p2 L2 : Nat} {cut : Nat → Bool} {f f2 : Nat → Nat × Nat} (hc : chn T p = 40) (hR : ∀ sm, EM T sm → RCnd sm (p + 1) 0 f 1 p2 L2 f2) (n1 : chn T p2 ≠ 41) (n2 : chn T p2 ≠ 38) (n3 : chn T p2 ≠ 124) : RWhF T n l v p cn cut 1 p2 := fun sB s P hB h hk => by
  have h160 := hB.1.2.2.1
  have hE := em_law hB h
  unfold f_m_readsLawful
  exact ok_bind (m_cond_f1 hE (by rw [sI_col _ _ _ _ (by decide)]; exact h.2.1) (sI_self _ _ _ _) (by have := h.2.2.2.2; omega) hc (hR _ hE) n1 n2 n3 (fun s2 h2 => ok_t rfl (ok_some (hk s2 (fm_gm h h2)))))
theorem rwh_f0 {T : Txt} {n : Nat} {l : List Nat} {v : Wd} {p cn : Nat} {cut : Nat → Bool} (hc : chn T p ≠ 40) : RWhF T n l v p cn cut 1 p := fun sB s P hB h hk => by
  have h160 := hB.1.2.2.1
  have hE := em_law hB h
  unfold f_m_readsLawful
  exact ok_bind (m_cond_f0 hE (by rw [sI_col _ _ _ _ (by decide)]; exact h.2.1) (by have := h.2.2.2.2; omega) hc (fun s2 h2 => ok_t rfl (ok_some (hk s2 (fm_gm h h2)))))
/-- a loop over no rows behind a fault -/
theorem where_dead {s : Mm} (h : ¬ s.1 13 7 = 0) (m : Nat) (y : Int32) : f_Rdr_readWhere_26 (m + 1) y s = some ((), s) := by
  show b_Rdr_readWhere_26 (f_Rdr_readWhere_26 m) y s = _
  unfold b_Rdr_readWhere_26
  rw [if_neg h]
  split <;> rfl
theorem x_where_ok {T : Txt} {n : Nat} {l : List Nat} {v : Wd} {sB s : Mm} {p cn : Nat} {cut : Nat → Bool} (hB : BX T n l v sB) (h : SXq T sB s p cn cut) : Ok (f_Rdr_readWhere s) (fun q => (∃ p2 cut2, SXq T sB q.2 p2 cn cut2 ∧ p < p2 ∧ RWh T n l v p cn cut p2 cut2) ∨ (∃ k a, GX sB q.2 k a ∧ q.2.1 13 10 = nI cn ∧ RWhF T n l v p cn cut k a)) := by
  have h160 := hB.2.2.1.1
  have hp := h.2.2.2.2.2
  unfold f_Rdr_readWhere f_Cond_clear
  by_cases hc : chn T p = 40
  · obtain ⟨e1, hin⟩ := (h.take hB (c := 40) (by omega)).1 hc
    have h1 := h.pos (p2 := p + 1) (by omega)
    refine ok_bind (ok_eq (show f_Rdr_take (40 : Int32) s = _ from e1) (ok_bind (ok_some ?_)))
    obtain ⟨s2, es2⟩ : ∃ z, z = sI (sI s 13 6 (nI (p + 1))) 17 3 (0 : Int32) := ⟨_, rfl⟩
    show Ok (((R_Rd 30).1 (1 : Int32) (sI (sI s 13 6 (nI (p + 1))) 17 3 (0 : Int32))).bind _) _
    rw [← es2]
    have hF2 : Fr LSn sB s2 := by rw [es2]; exact h1.1.sI (by simp [inL, LSn])
    have f2 : ∀ c j, ¬ (c = 17 ∧ j = 3) → ¬ (c = 13 ∧ j = 6) → s2.1 c j = s.1 c j := fun c j n1 n2 => by rw [es2, sI_at, if_neg n1, sI_at, if_neg n2]
    have hS2 := SXq.fo hB hF2
    have hE : EX T (kS v n cn) s2 := ⟨by rw [hF2 13 5 rfl]; exact hB.1, fun j hj => by rw [hF2 21 j rfl]; exact hB.2.1 j hj, hB.2.2.1, hS2.2.1, hS2.2.2.1, by rw [f2 13 10 (by omega) (by omega)]; exact h.2.2.2.1, hS2.1⟩
    have hX : XC (kS v n cn) s2 s2 (p + 1) 0 (fun _ => (0, 0)) := ⟨Fr.rf, by rw [es2, sI_row _ _ _ _ (by decide), sI_self], by rw [f2 13 7 (by omega) (by omega)]; exact h.2.2.1, by rw [es2, sI_self]; rfl, fun j hj => by omega, by omega, by omega⟩
    have fxg : ∀ s3 k a, FX s2 s3 k a → GX sB s3 k a ∧ s3.1 13 10 = nI cn := fun s3 k a h3 => ⟨⟨hF2.tr (h3.1.wk (by decide)), h3.2.1, h3.2.2.1, h3.2.2.2.1⟩, by rw [h3.1 13 10 rfl, f2 13 10 (by omega) (by omega)]; exact h.2.2.2.1⟩
    refine ok_bind (ok_mono (x_cond_ok hE s2 (p + 1) 0 (fun _ => (0, 0)) hX (by omega) rfl) ?_)
    rintro q (⟨p2, L2, g2, c2, x2, n2, r2⟩ | ⟨k, a, c2, r2⟩)
    · have xa := x2.1
      have xb := x2.2.1
      have xc := x2.2.2.2.1
      by_cases h41 : chn T p2 = 41
      · obtain ⟨s3, e3, h3⟩ := (c2.take hE (c := 41) (by omega)).1 h41
        have hin2 := ch_in (show chn T p2 < 256 by omega)
        refine ok_bind (ok_eq (show f_Rdr_take (41 : Int32) q.2 = _ from e3) ?_)
        have hC : CdO g2 L2 := ⟨by omega, x2.2.2.2.2.2.1, fun j hj => x2.2.2.2.2.2.2.1 j (by omega) hj, x2.2.2.2.2.2.2.2⟩
        have hF3 : Fr LSn sB s3 := hF2.tr (h3.1.wk (by decide))
        refine x_ask_ok hC (SXq.fo hB hF3) h3.2.2.2.1 h3.2.2.2.2.1 h3.2.2.1 (h.2.2.2.2.1.cg (fun y _ => by rw [h3.1 23 y rfl, f2 23 y (by omega) (by omega)])) (fun s4 hF4 h4 => Or.inl ⟨p2 + 1, _, ⟨hF3.tr (hF4.wk (by decide)), ?_, ?_, ?_, h4, by omega⟩, by omega, rwh_t hc r2 h41 hC⟩)
        · rw [hF4 13 6 rfl]; exact h3.2.1
        · rw [hF4 13 7 rfl]; exact h3.2.2.1
        · rw [hF4 13 10 rfl, h3.1 13 10 rfl, f2 13 10 (by omega) (by omega)]; exact h.2.2.2.1
      · obtain ⟨s3, e3, h3⟩ := (c2.take hE (c := 41) (by omega)).2 h41
        refine ok_bind (ok_eq (show f_Rdr_take (41 : Int32) q.2 = _ from e3) ?_)
        exact ok_eq (where_dead h3.ne 999999 0) (Or.inr ⟨1, p2, (fxg s3 1 p2 h3).1, (fxg s3 1 p2 h3).2, rwh_f1 hc r2 h41 n2.1 n2.2⟩)
    · refine ok_bind (ok_eq (c2.take 41) ?_)
      exact ok_eq (where_dead c2.ne 999999 0) (Or.inr ⟨k, a, (fxg q.2 k a c2).1, (fxg q.2 k a c2).2, rwh_f hc r2⟩)
  · -- no opening sign: all that follows is idle
    obtain ⟨s1, e1, h1⟩ := (h.take hB (c := 40) (by omega)).2 hc
    refine ok_bind (ok_eq (show f_Rdr_take (40 : Int32) s = _ from e1) (ok_bind (ok_some ?_)))
    obtain ⟨s2, es2⟩ : ∃ z, z = sI s1 17 3 (0 : Int32) := ⟨_, rfl⟩
    show Ok (((R_Rd 30).1 (1 : Int32) (sI s1 17 3 (0 : Int32))).bind _) _
    rw [← es2]
    have e10 : s1.1 13 10 = nI cn := by
      have := e1
      unfold f_Rdr_take at this
      rw [h.2.2.1, if_pos rfl, h.look hB] at this
      simp only [Option.bind_some] at this
      rw [if_neg (show ¬ chI T p = nI 40 from fun e => hc ((chI_eq hB.2.2.1 (by omega)).mp e)), h.2.1, show f_Rdr_fail (1 : Int32) (nI p) s = _ from (h.bad (q := 1) (by omega) p).1] at this
      have e2 : sI (sI s 13 7 (nI 1)) 13 8 (nI p) = s1 := (Prod.mk.inj (Option.some.inj this)).2
      rw [← e2, sI_col _ _ _ _ (by decide), sI_col _ _ _ _ (by decide)]
      exact h.2.2.2.1
    have h2 : GX sB s2 1 p := by
      rw [es2]
      exact ⟨h1.1.sI (by simp [inL, LSn]), h1.2.1, by rw [sI_row _ _ _ _ (by decide)]; exact h1.2.2.1, by rw [sI_row _ _ _ _ (by decide)]; exact h1.2.2.2⟩
    have hcd : (R_Rd 30).1 (1 : Int32) s2 = some ((), s2) := by
      show f_Rdr_readCondition_4 (rdC 29) (rdP 29) (rdI 29) (rdS 29) (rdT 29) (rdF 29) (999999 + 1) (1 : Int32) (-1) 0 s2 = _
      obtain ⟨m, em⟩ : ∃ m, m = 999999 := ⟨_, rfl⟩
      rw [← em]
      show b_Rdr_readCondition_4 _ _ _ _ _ _ _ (1 : Int32) (-1) 0 s2 = _
      unfold b_Rdr_readCondition_4
      rw [if_neg h2.ne, if_neg (by decide)]
    refine ok_bind (ok_eq hcd (ok_bind (ok_eq (h2.take 41) ?_)))
    refine ok_eq (where_dead h2.ne 999999 0) (Or.inr ⟨1, p, h2, ?_, rwh_f0 hc⟩)
    show s2.1 13 10 = nI cn
    rw [es2, sI_row _ _ _ _ (by decide)]
    exact e10
