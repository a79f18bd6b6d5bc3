/-! recipe: one snip -/
def RSnp (T : Txt) (n : Nat) (l : List Nat) (v : Wd) (p cn : Nat) (cut : Nat → Bool) (p2 : Nat) (cut2 : Nat → Bool) : Prop := ∀ sB s P, BM T n l v sB → SMq T sB s p cn cut → (∀ s2, SMq T sB s2 p2 (cn + 1) cut2 → P ((1 : Int32), s2)) → Ok (f_m_readsSnip s) P
def RSnpF (T : Txt) (n : Nat) (l : List Nat) (v : Wd) (p cn : Nat) (cut : Nat → Bool) (k a : Nat) : Prop := ∀ sB s P, BM T n l v sB → SMq T sB s p cn cut → (∀ s2, GM sB s2 k a → P ((0 : Int32), s2)) → Ok (f_m_readsSnip s) P
theorem isP_lt {v : Wd} {x y : Nat} (h : isP v x y = true) : x < v.1 ∧ y < v.2.1 := by
  unfold isP at h
  simp only [Bool.and_eq_true, decide_eq_true_eq] at h
  exact ⟨h.1, h.2.1⟩
theorem SXq.inc {T : Txt} {sB s : Mm} {p cn : Nat} {cut : Nat → Bool} (h : SXq T sB s p cn cut) : SXq T sB (sI s 13 10 (nI (cn + 1))) p (cn + 1) cut := by
  obtain ⟨a1, a2, a3, a4, a5, a6⟩ := h
  exact ⟨a1.sI rfl, by rw [sI_col _ _ _ _ (by decide)]; exact a2, by rw [sI_col _ _ _ _ (by decide)]; exact a3, sI_self _ _ _ _, by rw [sI_row _ _ _ _ (by decide)]; exact a5, a6⟩
theorem GX.inc {sB s : Mm} {k a : Nat} (h : GX sB s k a) (w : Int32) : GX sB (sI s 13 10 w) k a := ⟨h.1.sI rfl, h.2.1, by rw [sI_col _ _ _ _ (by decide)]; exact h.2.2.1, by rw [sI_col _ _ _ _ (by decide)]; exact h.2.2.2⟩
theorem SMq.inc {T : Txt} {sB s : Mm} {p cn : Nat} {cut : Nat → Bool} (h : SMq T sB s p cn cut) : SMq T sB (sI s 58 27 (nI (cn + 1))) p (cn + 1) cut := by
  obtain ⟨a1, a2, a3, a4, a5⟩ := h
  exact ⟨a1.sI rfl, by rw [sI_col _ _ _ _ (by decide)]; exact a2, sI_self _ _ _ _, fun k hk => by rw [sI_row _ _ _ _ (by decide)]; exact a4 k hk, a5⟩
theorem x_box32_ok {T : Txt} {n : Nat} {l : List Nat} {v : Wd} {sB s : Mm} {p cn x1 x2 y1 y2 : Nat} {cut : Nat → Bool} {P : Unit × Mm → Prop} (hB : BX T n l v sB) (h : SXq T sB s p cn cut) (hp : isP v x2 y2 = true) (hx : x1 ≤ x2) (hy : y1 ≤ y2) (h11 : s.1 13 11 = nI x2) (h12 : s.1 13 12 = nI y2) (hP : ∀ s2, SXq T sB s2 p cn (fun k => cut k || boxB v x1 x2 y1 y2 k) → P ((), s2)) : Ok (b_Rdr_readBox_32 (nI x1) (nI y1) s) P := by
  have hS := SXq.fo hB h.1
  obtain ⟨b1, b2, _⟩ := hS.b
  have hb := isP_lt hp
  unfold b_Rdr_readBox_32
  refine ok_t h.2.2.1 (x_box_ok hS (by omega) (by omega) hx hy h11 h12 h.2.2.2.2.1 (fun s2 hF hR => hP s2 ⟨h.1.tr (hF.wk (by decide)), ?_, ?_, ?_, hR, h.2.2.2.2.2⟩))
  · rw [hF 13 6 rfl]; exact h.2.1
  · rw [hF 13 7 rfl]; exact h.2.2.1
  · rw [hF 13 10 rfl]; exact h.2.2.2.1
theorem m_cutq_ok {T : Txt} {n : Nat} {l : List Nat} {v : Wd} {sB s : Mm} {p cn x1 x2 y1 y2 : Nat} {cut : Nat → Bool} {P : Unit × Mm → Prop} (hB : BM T n l v sB) (h : SMq T sB s p cn cut) (hp : isP v x2 y2 = true) (hx : x1 ≤ x2) (hy : y1 ≤ y2) (hP : ∀ s2, SMq T sB s2 p cn (fun k => cut k || boxB v x1 x2 y1 y2 k) → P ((), s2)) : Ok (f_m_cuts (nI x1) (nI y1) (nI x2) (nI y2) s) P := by
  have hb := isP_lt hp
  have hv := hB.2.2.1
  refine m_cuts_ok (h.w hB) hv.1 hv.2.1 hv.2.2 (by omega) (by omega) hx hy h.2.2.2.1 (fun s2 hF hR => hP s2 ⟨h.1.tr (hF.wk (by decide)), ?_, ?_, hR, h.2.2.2.2⟩)
  · rw [hF 58 20 rfl]; exact h.2.1
  · rw [hF 58 27 rfl]; exact h.2.2.1
/-! the reference -/
theorem rs_head {T : Txt} {n : Nat} {l : List Nat} {v : Wd} {sB s : Mm} {p cn c : Nat} {cut : Nat → Bool} (hB : BM T n l v sB) (h : SMq T sB s p cn cut) (hc : chn T p = c) (hl : c = 115 ∨ c = 114 ∨ c = 99) (hcn : cn < 12) : f_m_readsSnip s = (if nI c = (115 : Int32) then ((f_m_readsPlace (0 : Int32) (0 : Int32) (sI s 58 20 (nI (p + 1)))).bind (fun q6 => if q6.1 = 0 then (some ((0 : Int32), q6.2)) else ((f_m_cuts (q6.2.1 58 28) (q6.2.1 58 29) (q6.2.1 58 28) (q6.2.1 58 29) q6.2).bind (fun q8 => lt_ ((q8.2.1 58 27) + (1 : Int32)) (fun a9 => some ((1 : Int32), (sI q8.2 58 27 a9))))))) else (if nI c = (114 : Int32) then ((f_m_readsMany (sI s 58 20 (nI (p + 1)))).bind (fun q11 => if q11.1 = 0 then (some ((0 : Int32), q11.2)) else (lt_ ((q11.2.1 58 27) + (1 : Int32)) (fun a13 => some ((1 : Int32), (sI q11.2 58 27 a13)))))) else ((f_m_readsLawful (sI s 58 20 (nI (p + 1)))).bind (fun q14 => if q14.1 = 0 then (some ((0 : Int32), q14.2)) else (lt_ ((q14.2.1 58 27) + (1 : Int32)) (fun a16 => some ((1 : Int32), (sI q14.2 58 27 a16)))))))) := by
  have e : f_m_readsSnip s = b_m_readsSnip_33 (nI c) s := by
    unfold f_m_readsSnip
    rw [h.here hB, ch_I (by omega), hc]
    simp only [Option.bind_some]
    rcases hl with rfl | rfl | rfl
    · rw [if_pos (show nI 115 = (115 : Int32) from rfl)]
    · rw [if_neg (show ¬ nI 114 = (115 : Int32) by decide), if_pos (show nI 114 = (114 : Int32) from rfl)]
    · rw [if_neg (show ¬ nI 99 = (115 : Int32) by decide), if_neg (show ¬ nI 99 = (114 : Int32) by decide), if_pos (show nI 99 = (99 : Int32) from rfl)]
  rw [e]
  unfold b_m_readsSnip_33
  rw [h.2.2.1, if_neg (show ¬ nI cn = (12 : Int32) from fun e => by have := (nI_eq (by omega) (by omega)).mp (show nI cn = nI 12 from e); omega), h.2.1, nI_1, lt_eq]
theorem rs_4 {T : Txt} {n : Nat} {l : List Nat} {v : Wd} {p cn c : Nat} {cut : Nat → Bool} (hc : chn T p = c) (hl : c = 115 ∨ c = 114 ∨ c = 99) (hcn : cn = 12) : RSnpF T n l v p cn cut 4 p := fun sB s P hB h hk => by
  have e33 : b_m_readsSnip_33 (nI c) s = some (0, sI s 58 22 ((-1000 : Int32) * nI 4 - nI p)) := by
    unfold b_m_readsSnip_33
    rw [h.2.2.1, hcn, if_pos (show nI 12 = (12 : Int32) from rfl), h.2.1, m_wrong_eq]; rfl
  refine ok_eq ?_ (hk _ (h.bad 4 p))
  rw [← e33]
  unfold f_m_readsSnip
  rw [h.here hB, ch_I (by omega), hc]
  simp only [Option.bind_some]
  rcases hl with rfl | rfl | rfl
  · rw [if_pos (show nI 115 = (115 : Int32) from rfl)]
  · rw [if_neg (show ¬ nI 114 = (115 : Int32) by decide), if_pos (show nI 114 = (114 : Int32) from rfl)]
  · rw [if_neg (show ¬ nI 99 = (115 : Int32) by decide), if_neg (show ¬ nI 99 = (114 : Int32) by decide), if_pos (show nI 99 = (99 : Int32) from rfl)]
theorem rs_1 {T : Txt} {n : Nat} {l : List Nat} {v : Wd} {p cn : Nat} {cut : Nat → Bool} (n1 : chn T p ≠ 115) (n2 : chn T p ≠ 114) (n3 : chn T p ≠ 99) : RSnpF T n l v p cn cut 1 p := fun sB s P hB h hk => by
  unfold f_m_readsSnip
  refine ok_bind (ok_eq (h.here hB) (okc_ch hB.1.2.2 115 (fun e => absurd e n1) (fun _ => okc_ch hB.1.2.2 114 (fun e => absurd e n2) (fun _ => okc_ch hB.1.2.2 99 (fun e => absurd e n3) (fun _ => ?_)))))
  show Ok ((f_m_wrongAt (1 : Int32) (s.1 58 20) s).bind _) _
  rw [h.2.1]
  exact ok_bind (ok_eq (m_wrong_eq _ _ _) (ok_t (Or.inl rfl) (ok_some (hk _ (h.bad 1 p)))))
theorem rs_c {T : Txt} {n : Nat} {l : List Nat} {v : Wd} {p cn p2 : Nat} {cut cut2 : Nat → Bool} (hc : chn T p = 99) (hcn : cn < 12) (hR : RWh T n l v (p + 1) cn cut p2 cut2) : RSnp T n l v p cn cut p2 cut2 := fun sB s P hB h hk => by
  have hin := ch_in (show chn T p < 256 by omega)
  rw [rs_head hB h hc (by omega) hcn, if_neg (show ¬ nI 99 = (115 : Int32) by decide), if_neg (show ¬ nI 99 = (114 : Int32) by decide)]
  refine ok_bind (hR sB _ _ hB (h.pos (p2 := p + 1) (by omega)) (fun s2 h2 => ok_f ne10 (ok_lt (ok_some ?_))))
  show P (1, sI s2 58 27 (s2.1 58 27 + 1))
  rw [h2.2.2.1, nI_1]
  exact hk _ h2.inc
theorem rs_cF {T : Txt} {n : Nat} {l : List Nat} {v : Wd} {p cn k a : Nat} {cut : Nat → Bool} (hc : chn T p = 99) (hcn : cn < 12) (hR : RWhF T n l v (p + 1) cn cut k a) : RSnpF T n l v p cn cut k a := fun sB s P hB h hk => by
  have hin := ch_in (show chn T p < 256 by omega)
  rw [rs_head hB h hc (by omega) hcn, if_neg (show ¬ nI 99 = (115 : Int32) by decide), if_neg (show ¬ nI 99 = (114 : Int32) by decide)]
  exact ok_bind (hR sB _ _ hB (h.pos (p2 := p + 1) (by omega)) (fun s2 h2 => ok_t rfl (ok_some (hk s2 h2))))
theorem rs_sF {T : Txt} {n : Nat} {l : List Nat} {v : Wd} {p cn k a : Nat} {cut : Nat → Bool} (hc : chn T p = 115) (hcn : cn < 12) (hF : plF v T 0 0 (p + 1) k a) : RSnpF T n l v p cn cut k a := fun sB s P hB h hk => by
  have hin := ch_in (show chn T p < 256 by omega)
  obtain ⟨s2, e2, h2⟩ := m_place_f hB (h.pos (p2 := p + 1) (by omega)) (by omega) (by omega) hF
  rw [rs_head hB h hc (by omega) hcn, if_pos (show nI 115 = (115 : Int32) from rfl)]
  exact ok_bind (ok_eq (show f_m_readsPlace (0 : Int32) (0 : Int32) (sI s 58 20 (nI (p + 1))) = _ from e2) (ok_t rfl (ok_some (hk s2 h2))))
theorem rs_sD {T : Txt} {n : Nat} {l : List Nat} {v : Wd} {p cn : Nat} {cut : Nat → Bool} (hc : chn T p = 115) (hcn : cn < 12) (hT : plT v T 0 0 (p + 1)) (hd : isD T (plE T (p + 1)) = true) : RSnpF T n l v p cn cut 1 (plE T (p + 1)) := fun sB s P hB h hk => by
  have hin := ch_in (show chn T p < 256 by omega)
  obtain ⟨s2, e2, h2⟩ := m_place_d hB (h.pos (p2 := p + 1) (by omega)) (by omega) (by omega) hT hd
  rw [rs_head hB h hc (by omega) hcn, if_pos (show nI 115 = (115 : Int32) from rfl)]
  exact ok_bind (ok_eq (show f_m_readsPlace (0 : Int32) (0 : Int32) (sI s 58 20 (nI (p + 1))) = _ from e2) (ok_t rfl (ok_some (hk s2 h2))))
theorem rs_sT {T : Txt} {n : Nat} {l : List Nat} {v : Wd} {p cn : Nat} {cut : Nat → Bool} (hc : chn T p = 115) (hcn : cn < 12) (hT : plT v T 0 0 (p + 1)) (hd : isD T (plE T (p + 1)) = false) : RSnp T n l v p cn cut (plE T (p + 1)) (fun k => cut k || boxB v (plX T (p + 1)) (plX T (p + 1)) (plY T (p + 1)) (plY T (p + 1)) k) := fun sB s P hB h hk => by
  have hin := ch_in (show chn T p < 256 by omega)
  obtain ⟨s2, e2, h2, e28, e29⟩ := m_place_t hB (h.pos (p2 := p + 1) (by omega)) (by omega) (by omega) hT hd
  rw [rs_head hB h hc (by omega) hcn, if_pos (show nI 115 = (115 : Int32) from rfl)]
  refine ok_bind (ok_eq (show f_m_readsPlace (0 : Int32) (0 : Int32) (sI s 58 20 (nI (p + 1))) = _ from e2) (ok_f ne10 ?_))
  show Ok ((f_m_cuts (s2.1 58 28) (s2.1 58 29) (s2.1 58 28) (s2.1 58 29) s2).bind _) _
  rw [e28, e29]
  refine ok_bind (m_cutq_ok hB h2 hT.2.2.2.1 (Nat.le_refl _) (Nat.le_refl _) (fun s3 h3 => ok_lt (ok_some ?_)))
  show P (1, sI s3 58 27 (s3.1 58 27 + 1))
  rw [h3.2.2.1, nI_1]
  exact hk _ h3.inc
def MnF (T : Txt) (n : Nat) (l : List Nat) (v : Wd) (p cn : Nat) (cut : Nat → Bool) (k a : Nat) : Prop := ∀ sB s, BM T n l v sB → SMq T sB s p cn cut → Ok (f_m_readsMany s) (fun q => q.1 = 0 ∧ GM sB q.2 k a)
theorem rs_rF {T : Txt} {n : Nat} {l : List Nat} {v : Wd} {p cn k a : Nat} {cut : Nat → Bool} (hc : chn T p = 114) (hcn : cn < 12) (hM : MnF T n l v (p + 1) cn cut k a) : RSnpF T n l v p cn cut k a := fun sB s P hB h hk => by
  have hin := ch_in (show chn T p < 256 by omega)
  rw [rs_head hB h hc (by omega) hcn, if_neg (show ¬ nI 114 = (115 : Int32) by decide), if_pos (show nI 114 = (114 : Int32) from rfl)]
  exact ok_bind (ok_mono (hM sB _ hB (h.pos (p2 := p + 1) (by omega))) (fun q hq => ok_t hq.1 (ok_some (hk q.2 hq.2))))
theorem many_f1 {T : Txt} {n : Nat} {l : List Nat} {v : Wd} {p cn k a : Nat} {cut : Nat → Bool} (hF : plF v T 0 0 p k a) : MnF T n l v p cn cut k a := fun sB s hB h => by
  obtain ⟨s2, e2, h2⟩ := m_place_f hB h (by omega) (by omega) hF
  unfold f_m_readsMany
  exact ok_bind (ok_eq (show f_m_readsPlace (0 : Int32) (0 : Int32) s = _ from e2) (ok_t rfl (ok_some ⟨rfl, h2⟩)))
theorem many_f2 {T : Txt} {n : Nat} {l : List Nat} {v : Wd} {p cn : Nat} {cut : Nat → Bool} (hT : plT v T 0 0 p) (hc : chn T (plE T p) ≠ 45) : MnF T n l v p cn cut 1 (plE T p) := fun sB s hB h => by
  unfold f_m_readsMany
  cases hd : isD T (plE T p) with
  | true =>
    obtain ⟨s2, e2, h2⟩ := m_place_d hB h (by omega) (by omega) hT hd
    exact ok_bind (ok_eq (show f_m_readsPlace (0 : Int32) (0 : Int32) s = _ from e2) (ok_t rfl (ok_some ⟨rfl, h2⟩)))
  | false =>
    obtain ⟨s2, e2, h2, e28, e29⟩ := m_place_t hB h (by omega) (by omega) hT hd
    obtain ⟨s3, e3, h3⟩ := (h2.takes hB (c := 45) (by omega)).2 hc
    exact ok_bind (ok_eq (show f_m_readsPlace (0 : Int32) (0 : Int32) s = _ from e2) (ok_f ne10 (ok_lt (ok_lt (ok_bind (ok_eq (show f_m_takes (45 : Int32) s2 = _ from e3) (ok_t rfl (ok_some ⟨rfl, h3⟩))))))))
theorem many_go {T : Txt} {n : Nat} {l : List Nat} {v : Wd} {sB s : Mm} {p cn : Nat} {cut : Nat → Bool} {P : Int32 × Mm → Prop} (hB : BM T n l v sB) (h : SMq T sB s p cn cut) (hT : plT v T 0 0 p) (hc : chn T (plE T p) = 45) (hk : ∀ s3, SMq T sB s3 (plE T p + 1) cn cut → Ok ((f_m_readsPlace (nI (plX T p)) (nI (plY T p)) s3).bind (fun q7 => if q7.1 = 0 then (some ((0 : Int32), q7.2)) else ((f_m_cuts (nI (plX T p)) (nI (plY T p)) (q7.2.1 58 28) (q7.2.1 58 29) q7.2).bind (fun q9 => some ((1 : Int32), q9.2))))) P) : Ok (f_m_readsMany s) P := by
  have hd : isD T (plE T p) = false := by unfold isD; rw [hc]; rfl
  obtain ⟨s2, e2, h2, e28, e29⟩ := m_place_t hB h (by omega) (by omega) hT hd
  obtain ⟨s3, e3, h3, _⟩ := (h2.takes hB (c := 45) (by omega)).1 hc
  unfold f_m_readsMany
  refine ok_bind (ok_eq (show f_m_readsPlace (0 : Int32) (0 : Int32) s = _ from e2) (ok_f ne10 (ok_lt (ok_lt (ok_bind (ok_eq (show f_m_takes (45 : Int32) s2 = _ from e3) (ok_f ne10 ?_)))))))
  have := hk s3 h3
  rw [← e28, ← e29] at this
  exact this
theorem many_f3 {T : Txt} {n : Nat} {l : List Nat} {v : Wd} {p cn k a : Nat} {cut : Nat → Bool} (hT : plT v T 0 0 p) (hc : chn T (plE T p) = 45) (hF : plF v T (plX T p) (plY T p) (plE T p + 1) k a) : MnF T n l v p cn cut k a := fun sB s hB h => many_go hB h hT hc (fun s3 h3 => by
  have hlt := plX_lt (T := T) (p := p)
  obtain ⟨s4, e4, h4⟩ := m_place_f hB h3 hlt.1 hlt.2 hF
  exact ok_bind (ok_eq e4 (ok_t rfl (ok_some ⟨rfl, h4⟩))))
theorem many_f4 {T : Txt} {n : Nat} {l : List Nat} {v : Wd} {p cn : Nat} {cut : Nat → Bool} (hT : plT v T 0 0 p) (hc : chn T (plE T p) = 45) (hT2 : plT v T (plX T p) (plY T p) (plE T p + 1)) (hd : isD T (plE T (plE T p + 1)) = true) : MnF T n l v p cn cut 1 (plE T (plE T p + 1)) := fun sB s hB h => many_go hB h hT hc (fun s3 h3 => by
  have hlt := plX_lt (T := T) (p := p)
  obtain ⟨s4, e4, h4⟩ := m_place_d hB h3 hlt.1 hlt.2 hT2 hd
  exact ok_bind (ok_eq e4 (ok_t rfl (ok_some ⟨rfl, h4⟩))))
theorem rs_rT {T : Txt} {n : Nat} {l : List Nat} {v : Wd} {p cn : Nat} {cut : Nat → Bool} (hc : chn T p = 114) (hcn : cn < 12) (hT : plT v T 0 0 (p + 1)) (hc2 : chn T (plE T (p + 1)) = 45) (hT2 : plT v T (plX T (p + 1)) (plY T (p + 1)) (plE T (p + 1) + 1)) (hd : isD T (plE T (plE T (p + 1) + 1)) = false) : RSnp T n l v p cn cut (plE T (plE T (p + 1) + 1)) (fun k => cut k || boxB v (plX T (p + 1)) (plX T (plE T (p + 1) + 1)) (plY T (p + 1)) (plY T (plE T (p + 1) + 1)) k) := fun sB s P hB h hk => by
  have hin := ch_in (show chn T p < 256 by omega)
  have hlt := plX_lt (T := T) (p := p + 1)
  rw [rs_head hB h hc (by omega) hcn, if_neg (show ¬ nI 114 = (115 : Int32) by decide), if_pos (show nI 114 = (114 : Int32) from rfl)]
  refine ok_bind (many_go hB (h.pos (p2 := p + 1) (by omega)) hT hc2 (fun s3 h3 => ?_))
  obtain ⟨s4, e4, h4, e28, e29⟩ := m_place_t hB h3 hlt.1 hlt.2 hT2 hd
  refine ok_bind (ok_eq e4 (ok_f ne10 ?_))
  show Ok ((f_m_cuts (nI (plX T (p + 1))) (nI (plY T (p + 1))) (s4.1 58 28) (s4.1 58 29) s4).bind _) _
  rw [e28, e29]
  refine ok_bind (m_cutq_ok hB h4 hT2.2.2.2.1 hT2.2.2.2.2.1 hT2.2.2.2.2.2 (fun s5 h5 => ok_some (ok_f ne10 (ok_lt (ok_some ?_)))))
  show P (1, sI s5 58 27 (s5.1 58 27 + 1))
  rw [h5.2.2.1, nI_1]
  exact hk _ h5.inc
/-! the class -/
theorem GX.place {T : Txt} {n : Nat} {l : List Nat} {v : Wd} {sB s : Mm} {k a : Nat} (hB : BX T n l v sB) (h : GX sB s k a) (w1 w2 : Int32) : ∃ s2, f_Rdr_readPlace w1 w2 s = some ((), s2) ∧ GX sB s2 k a := by
  have h2 : GX sB (sI s 13 11 0) k a := ⟨h.1.sI rfl, h.2.1, by rw [sI_col _ _ _ _ (by decide)]; exact h.2.2.1, by rw [sI_col _ _ _ _ (by decide)]; exact h.2.2.2⟩
  obtain ⟨s3, e3, h3, _⟩ := x_place_dead hB h2 w1 w2 (s.1 13 6)
  refine ⟨s3, ?_, h3⟩
  unfold f_Rdr_readPlace
  rw [lt_eq, h.two hB]
  simp only [Option.bind_some]
  rw [h2.take]
  exact e3
theorem GX.box32 {sB s : Mm} {k a : Nat} (h : GX sB s k a) (w1 w2 : Int32) : b_Rdr_readBox_32 w1 w2 s = some ((), s) := by
  unfold b_Rdr_readBox_32
  rw [if_neg h.ne]
def SnP (T : Txt) (n : Nat) (l : List Nat) (v : Wd) (sB : Mm) (p cn : Nat) (cut : Nat → Bool) (s : Mm) : Prop := (∃ p2 cut2, SXq T sB s p2 (cn + 1) cut2 ∧ p < p2 ∧ cn < 12 ∧ (RSnp T n l v p cn cut p2 cut2 ∨ (isD T p2 = true ∧ RSnpF T n l v p cn cut 1 p2))) ∨ (∃ k a, GX sB s k a ∧ RSnpF T n l v p cn cut k a)
theorem x_snip_ok {T : Txt} {n : Nat} {l : List Nat} {v : Wd} {sB s : Mm} {p cn : Nat} {cut : Nat → Bool} (hB : BX T n l v sB) (h : SXq T sB s p cn cut) (hcn : cn ≤ 12) : Ok (f_Rdr_readSnip s) (fun q => SnP T n l v sB p cn cut q.2) := by
  have h160 := hB.2.2.1.1
  have hp := h.2.2.2.2.2
  have dead : ∀ s2 k a, GX sB s2 k a → RSnpF T n l v p cn cut k a → Ok (lt_ (s2.1 13 10 + (1 : Int32)) (fun a2 => some ((), sI s2 13 10 a2))) (fun q : Unit × Mm => SnP T n l v sB p cn cut q.2) := fun s2 k a h2 r2 => ok_lt (ok_some (Or.inr ⟨k, a, h2.inc _, r2⟩))
  have live : ∀ s2 p2 cut2, SXq T sB s2 p2 cn cut2 → p < p2 → cn < 12 → (RSnp T n l v p cn cut p2 cut2 ∨ (isD T p2 = true ∧ RSnpF T n l v p cn cut 1 p2)) → Ok (lt_ (s2.1 13 10 + (1 : Int32)) (fun a2 => some ((), sI s2 13 10 a2))) (fun q : Unit × Mm => SnP T n l v sB p cn cut q.2) := fun s2 p2 cut2 h2 u1 u2 r2 => ok_lt (ok_some (Or.inl ⟨p2, cut2, by rw [h2.2.2.2.1, nI_1]; exact h2.inc, u1, u2, r2⟩))
  have go : ∀ c, chn T p = c → (c = 115 ∨ c = 114 ∨ c = 99) → Ok (b_Rdr_readSnip_33 (chI T p) s) (fun q => SnP T n l v sB p cn cut q.2) := by
    intro c hc hl
    have hin := ch_in (show chn T p < 256 by omega)
    unfold b_Rdr_readSnip_33
    rw [h.2.2.2.1]
    refine okc_lt cn 12 (fun hlt => ok_lt ?_) (fun hge => ?_)
    · rw [h.2.1, nI_1]
      have h1 := h.pos (p2 := p + 1) (by omega)
      refine okc_ch hB.2.2.1 99 (fun hc2 => ?_) (fun nc => okc_ch hB.2.2.1 114 (fun hc2 => ?_) (fun nr => ?_))
      · refine ok_bind (ok_mono (x_where_ok hB h1) ?_)
        rintro q (⟨p2, cut2, g1, g2, g3⟩ | ⟨k, a, g1, _, g3⟩)
        · exact live q.2 p2 cut2 g1 (by omega) hlt (Or.inl (rs_c hc2 hlt g3))
        · exact dead q.2 k a g1 (rs_cF hc2 hlt g3)
      · -- r
        unfold b_Rdr_readSnip_87 f_Rdr_readBox
        rcases pl_dec v T 0 0 (p + 1) with hT | ⟨k, a, hF, _⟩
        · obtain ⟨s2, e2, h2, e11, e12⟩ := x_place_t hB h1 (by omega) (by omega) hT
          have hE := plE_in hT
          refine ok_bind (ok_bind (ok_eq (show f_Rdr_readPlace (0 : Int32) (0 : Int32) (sI s 13 6 (nI (p + 1))) = _ from e2) (ok_lt (ok_lt (ok_f ne10 ?_)))))
          have hlt2 := plX_lt (T := T) (p := p + 1)
          show Ok ((f_Rdr_take (45 : Int32) s2).bind (fun q5 => (f_Rdr_readPlace (s2.1 13 11) (s2.1 13 12) q5.2).bind (fun q6 => b_Rdr_readBox_32 (s2.1 13 11) (s2.1 13 12) q6.2))) _
          rw [e11, e12]
          by_cases hc3 : chn T (plE T (p + 1)) = 45
          · obtain ⟨e3, hin3⟩ := (h2.take hB (c := 45) (by omega)).1 hc3
            have h3 := h2.pos (p2 := plE T (p + 1) + 1) (by omega)
            refine ok_bind (ok_eq (show f_Rdr_take (45 : Int32) s2 = _ from e3) ?_)
            rcases pl_dec v T (plX T (p + 1)) (plY T (p + 1)) (plE T (p + 1) + 1) with hT2 | ⟨k, a, hF, _⟩
            · obtain ⟨s4, e4, h4, f11, f12⟩ := x_place_t hB h3 hlt2.1 hlt2.2 hT2
              have hE2 := plE_in hT2
              refine ok_bind (ok_eq e4 (x_box32_ok hB h4 hT2.2.2.2.1 hT2.2.2.2.2.1 hT2.2.2.2.2.2 f11 f12 (fun s5 h5 => ?_)))
              refine live s5 _ _ h5 (by omega) hlt ?_
              cases hd : isD T (plE T (plE T (p + 1) + 1)) with
              | false => exact Or.inl (rs_rT hc2 hlt hT hc3 hT2 hd)
              | true => exact Or.inr ⟨rfl, rs_rF hc2 hlt (many_f4 hT hc3 hT2 hd)⟩
            · obtain ⟨s4, e4, h4, _⟩ := x_place_f hB h3 hlt2.1 hlt2.2 hF
              exact ok_bind (ok_eq e4 (ok_eq (h4.box32 _ _) (dead s4 k a h4 (rs_rF hc2 hlt (many_f3 hT hc3 hF)))))
          · obtain ⟨s3, e3, h3⟩ := (h2.take hB (c := 45) (by omega)).2 hc3
            obtain ⟨s4, e4, h4⟩ := h3.place hB (nI (plX T (p + 1))) (nI (plY T (p + 1)))
            refine ok_bind (ok_eq (show f_Rdr_take (45 : Int32) s2 = _ from e3) (ok_bind (ok_eq e4 ?_)))
            exact ok_eq (h4.box32 _ _) (dead s4 _ _ h4 (rs_rF hc2 hlt (many_f2 hT hc3)))
        · obtain ⟨s2, e2, h2, _⟩ := x_place_f hB h1 (by omega) (by omega) hF
          refine ok_bind (ok_bind (ok_eq (show f_Rdr_readPlace (0 : Int32) (0 : Int32) (sI s 13 6 (nI (p + 1))) = _ from e2) (ok_lt (ok_lt (ok_f ne10 ?_)))))
          obtain ⟨s4, e4, h4⟩ := h2.place hB (s2.1 13 11) (s2.1 13 12)
          refine ok_bind (ok_eq (h2.take 45) (ok_bind (ok_eq e4 ?_)))
          exact ok_eq (h4.box32 _ _) (dead s4 k a h4 (rs_rF hc2 hlt (many_f1 hF)))
      · -- s
        have hc2 : chn T p = 115 := by omega
        unfold b_Rdr_readSnip_87 f_Rdr_readBox
        rcases pl_dec v T 0 0 (p + 1) with hT | ⟨k, a, hF, _⟩
        · obtain ⟨s2, e2, h2, e11, e12⟩ := x_place_t hB h1 (by omega) (by omega) hT
          have hE := plE_in hT
          refine ok_bind (ok_bind (ok_eq (show f_Rdr_readPlace (0 : Int32) (0 : Int32) (sI s 13 6 (nI (p + 1))) = _ from e2) (ok_lt (ok_lt (ok_t rfl ?_)))))
          show Ok (b_Rdr_readBox_32 (s2.1 13 11) (s2.1 13 12) s2) _
          rw [e11, e12]
          refine x_box32_ok hB h2 hT.2.2.2.1 (Nat.le_refl _) (Nat.le_refl _) e11 e12 (fun s5 h5 => ?_)
          refine live s5 _ _ h5 (by omega) hlt ?_
          cases hd : isD T (plE T (p + 1)) with
          | false => exact Or.inl (rs_sT hc2 hlt hT hd)
          | true => exact Or.inr ⟨rfl, rs_sD hc2 hlt hT hd⟩
        · obtain ⟨s2, e2, h2, _⟩ := x_place_f hB h1 (by omega) (by omega) hF
          refine ok_bind (ok_bind (ok_eq (show f_Rdr_readPlace (0 : Int32) (0 : Int32) (sI s 13 6 (nI (p + 1))) = _ from e2) (ok_lt (ok_lt (ok_t rfl ?_)))))
          exact ok_eq (h2.box32 _ _) (dead s2 k a h2 (rs_sF hc2 hlt hF))
    · obtain ⟨e4, h4⟩ := h.bad (q := 4) (by omega) p
      rw [h.2.1]
      exact ok_bind (ok_eq (show f_Rdr_fail (4 : Int32) (nI p) s = _ from e4) (ok_some (Or.inr ⟨4, p, h4, rs_4 hc hl (by omega)⟩)))
  unfold f_Rdr_readSnip
  refine ok_bind (ok_eq (h.look hB) (okc_ch hB.2.2.1 115 (fun e => go 115 e (by omega)) (fun n1 => okc_ch hB.2.2.1 114 (fun e => go 114 e (by omega)) (fun n2 => okc_ch hB.2.2.1 99 (fun e => go 99 e (by omega)) (fun n3 => ?_)))))
  obtain ⟨e1, h1⟩ := h.bad (q := 1) (by omega) p
  show Ok ((f_Rdr_fail (1 : Int32) (s.1 13 6) s).bind _) _
  rw [h.2.1]
  exact ok_bind (ok_eq (show f_Rdr_fail (1 : Int32) (nI p) s = _ from e1) (ok_some (Or.inr ⟨1, p, h1, rs_1 n1 n2 n3⟩)))
