/-! recipe: the folds read -/
def LFx : List (Nat × Option Nat) := [(13, some 6), (13, some 7), (13, some 8), (13, some 9), (14, none), (15, none), (16, none), (22, none)]
def FXst (n : Nat) (s0 s : Mm) (p : Nat) (l : List Nat) (u : Wd) : Prop := Fr LFx s0 s ∧ s.1 13 6 = nI p ∧ s.1 13 7 = 0 ∧ s.1 13 9 = nI l.length ∧ (∀ j, j < l.length → s.1 22 j = nI (l.getD j 0)) ∧ FoS s 14 15 16 n l (slb 0) u
def FXbd (s0 s : Mm) (k a : Nat) : Prop := Fr LFx s0 s ∧ (1 ≤ k ∧ k ≤ 6 ∧ a ≤ 160) ∧ s.1 13 7 = nI k ∧ s.1 13 8 = nI a
def LFd : List (Nat × Option Nat) := [(58, some 8), (58, some 9), (58, some 10), (58, some 12), (58, some 20), (58, some 22), (63, none)]
def FMst (s0 s : Mm) (p : Nat) (l : List Nat) (u : Wd) : Prop := Fr LFd s0 s ∧ s.1 58 20 = nI p ∧ s.1 58 12 = nI l.length ∧ (∀ j, j < l.length → s.1 63 j = nI (l.getD j 0)) ∧ mW s u
def FMbd (s0 s : Mm) (k a : Nat) : Prop := Fr LFd s0 s ∧ s.1 58 22 = (-1000 : Int32) * nI k - nI a
def okF (n : Nat) (l : List Nat) (u : Wd) : Prop := l.length ≤ 8 ∧ (∀ f ∈ l, f = 104 ∨ f = 118 ∨ f = 100) ∧ fds l (n, n, 0) = some u
def RFo (T : Txt) (l : List Nat) (u : Wd) (l2 : List Nat) (u2 : Wd) : Prop := ∀ s0 s P m, EM T s0 → FMst s0 s l.length l u → 1000 ≤ m + l.length → (∀ s2, FMst s0 s2 (l2.length + 1) l2 u2 → P ((1 : Int32), s2)) → Ok (f_m_readsFolds_9 m s) P
def RFoF (T : Txt) (l : List Nat) (u : Wd) (k a : Nat) : Prop := ∀ s0 s P m, EM T s0 → FMst s0 s l.length l u → 1000 ≤ m + l.length → (∀ s2, FMbd s0 s2 k a → P ((0 : Int32), s2)) → Ok (f_m_readsFolds_9 m s) P
theorem okF_b {n : Nat} {l : List Nat} {u : Wd} (hn : n ≤ 16) (h : okF n l u) : u.1 ≤ 16 ∧ u.2.1 ≤ 16 ∧ u.2.2 ≤ 1 := by
  have a := fds_le _ _ _ h.2.2
  have a1 : u.1 ≤ n ∧ u.2.1 ≤ n ∧ u.2.2 ≤ max 0 1 := a
  omega
theorem FMst.here {T : Txt} {s0 s : Mm} {p : Nat} {l : List Nat} {u : Wd} (hE : EM T s0) (h : FMst s0 s p l u) (hp : p ≤ 160) : f_m_here s = some (chI T p, s) := m_hereT (by rw [h.1 58 21 rfl]; exact hE.1) h.2.1 (fun j hj => by rw [h.1 65 j rfl]; exact hE.2.1 j hj) hE.2.2 hp
theorem getD_snoc (l : List Nat) (x j : Nat) : (l ++ [x]).getD j 0 = if j < l.length then l.getD j 0 else if j = l.length then x else 0 := by
  rw [List.getD_eq_getElem?_getD, List.getD_eq_getElem?_getD]
  by_cases h : j < l.length
  · rw [if_pos h, List.getElem?_append_left h]
  · rw [if_neg h, List.getElem?_append_right (by omega)]
    by_cases e : j = l.length
    · rw [if_pos e, e, Nat.sub_self]; rfl
    · rw [if_neg e, List.getElem?_eq_none (by rw [List.length_singleton]; omega)]; rfl
theorem okF_app {n f : Nat} {l : List Nat} {u z : Wd} (hn : n ≤ 16) (hn2 : 2 ≤ n) (h : okF n l u) (hf : f = 104 ∨ f = 118 ∨ f = 100) (hz : fold1 f u = some z) : okF n (l ++ [f]) z ∧ l.length < 8 := by
  have hl : l.length < 8 := by
    rcases Nat.lt_or_ge l.length 8 with g | g
    · exact g
    · rw [fold8 hn hn2 h.2.2 g] at hz; cases hz
  refine ⟨⟨by rw [List.length_append, List.length_singleton]; omega, fun g hg => ?_, by rw [fds_app l f _ u h.2.2]; exact hz⟩, hl⟩
  rw [List.mem_append, List.mem_singleton] at hg
  rcases hg with hg | hg
  · exact h.2.1 g hg
  · rw [hg]; exact hf
theorem fo_colon {T : Txt} {n : Nat} {l : List Nat} {u : Wd} (ho : okF n l u) (hc : chn T l.length = 58) : RFo T l u l u := fun s0 s P m hE h hm hk => by
  have hl := ho.1
  obtain ⟨m, rfl⟩ := nat_suc (show 0 + 1 ≤ m by omega)
  have he := h.here hE (by omega)
  show Ok (b_m_readsFolds_9 (f_m_readsFolds_9 m) s) P
  unfold b_m_readsFolds_9 f_m_takes
  refine ok_bind (ok_eq he (okc_ch hE.2.2 104 (fun e => by omega) (fun _ => ok_bind (ok_eq he (okc_ch hE.2.2 118 (fun e => by omega) (fun _ => ok_bind (ok_eq he (okc_ch hE.2.2 100 (fun e => by omega) (fun _ => ?_)))))))))
  refine ok_bind (ok_bind (ok_eq he ?_))
  refine okc_ch hE.2.2 58 (fun _ => ok_lt ?_) (fun e => absurd hc e)
  refine ok_some ?_
  refine ok_t (Or.inr rfl) (ok_some ?_)
  show P (1, sI s 58 20 (s.1 58 20 + 1))
  rw [h.2.1, nI_1]
  exact hk _ ⟨h.1.sI rfl, sI_self _ _ _ _, by rw [sI_col _ _ _ _ (by decide)]; exact h.2.2.1, fun j hj => by rw [sI_row _ _ _ _ (by decide)]; exact h.2.2.2.1 j hj, by rw [sI_col _ _ _ _ (by decide)]; exact h.2.2.2.2.1, by rw [sI_col _ _ _ _ (by decide)]; exact h.2.2.2.2.2.1, by rw [sI_col _ _ _ _ (by decide)]; exact h.2.2.2.2.2.2⟩
theorem fo_bad {T : Txt} {n : Nat} {l : List Nat} {u : Wd} (ho : okF n l u) (n1 : chn T l.length ≠ 58) (n2 : chn T l.length ≠ 104) (n3 : chn T l.length ≠ 118) (n4 : chn T l.length ≠ 100) : RFoF T l u 1 l.length := fun s0 s P m hE h hm hk => by
  have hl := ho.1
  obtain ⟨m, rfl⟩ := nat_suc (show 0 + 1 ≤ m by omega)
  have he := h.here hE (by omega)
  show Ok (b_m_readsFolds_9 (f_m_readsFolds_9 m) s) P
  unfold b_m_readsFolds_9 f_m_takes
  refine ok_bind (ok_eq he (okc_ch hE.2.2 104 (fun e => absurd e n2) (fun _ => ok_bind (ok_eq he (okc_ch hE.2.2 118 (fun e => absurd e n3) (fun _ => ok_bind (ok_eq he (okc_ch hE.2.2 100 (fun e => absurd e n4) (fun _ => ?_)))))))))
  refine ok_bind (ok_bind (ok_eq he (okc_ch hE.2.2 58 (fun e => absurd e n1) (fun _ => ?_))))
  show Ok ((f_m_wrongAt (1 : Int32) (s.1 58 20) s).bind _) _
  rw [h.2.1]
  exact ok_bind (ok_eq (m_wrong_eq _ _ _) (ok_t (Or.inl rfl) (ok_some (ok_t (Or.inl rfl) (ok_some (hk _ ⟨h.1.sI rfl, sI_self _ _ _ _⟩))))))
theorem fo_36 {T : Txt} {l : List Nat} {u : Wd} {s0 s : Mm} {m f : Nat} {P : Int32 × Mm → Prop} (hE : EM T s0) (h : FMst s0 s l.length l u) (hl : l.length ≤ 8) (hc : chn T l.length = f) (hf : f = 104 ∨ f = 118 ∨ f = 100) (hk : Ok (b_m_readsFolds_36 (f_m_readsFolds_9 m) s) P) : Ok (f_m_readsFolds_9 (m + 1) s) P := by
  have he := h.here hE (by omega)
  show Ok (b_m_readsFolds_9 (f_m_readsFolds_9 m) s) P
  unfold b_m_readsFolds_9
  exact ok_bind (ok_eq he (okc_ch hE.2.2 104 (fun _ => hk) (fun n1 => ok_bind (ok_eq he (okc_ch hE.2.2 118 (fun _ => hk) (fun n2 => ok_bind (ok_eq he (okc_ch hE.2.2 100 (fun _ => hk) (fun n3 => by omega)))))))))
theorem fo_ext {T : Txt} {n : Nat} {l l2 : List Nat} {u z u2 : Wd} {f : Nat} (hn : n ≤ 16) (hn2 : 2 ≤ n) (ho : okF n l u) (hc : chn T l.length = f) (hf : f = 104 ∨ f = 118 ∨ f = 100) (hz : fold1 f u = some z) (h2 : (∀ s0 s P m, EM T s0 → FMst s0 s (l ++ [f]).length (l ++ [f]) z → 1000 ≤ m + (l ++ [f]).length → (∀ s2, FMst s0 s2 (l2.length + 1) l2 u2 → P ((1 : Int32), s2)) → Ok (f_m_readsFolds_9 m s) P)) : RFo T l u l2 u2 := fun s0 s P m hE h hm hk => by
  obtain ⟨ho2, hl⟩ := okF_app hn hn2 ho hf hz
  have hb := okF_b hn ho
  obtain ⟨m, rfl⟩ := nat_suc (show 0 + 1 ≤ m by omega)
  have he := h.here hE (by omega)
  refine fo_36 hE h (by omega) hc hf ?_
  unfold b_m_readsFolds_36
  refine ok_bind (ok_eq he ?_)
  rw [ch_I (by omega), hc]
  refine ok_bind (m_foldsOnce_ok h.2.2.2.2 (by omega) (by omega) (by omega) (by omega) (fun e => by rw [hz] at e; cases e) (fun z2 hz2 s2 hF2 hW2 => ok_f ne10 ?_))
  have ez : z2 = z := by rw [hz] at hz2; exact (Option.some.inj hz2).symm
  subst ez
  have he2 : f_m_here s2 = some (chI T l.length, s2) := m_hereT (by rw [hF2 58 21 rfl, h.1 58 21 rfl]; exact hE.1) (by rw [hF2 58 20 rfl]; exact h.2.1) (fun j hj => by rw [hF2 65 j rfl, h.1 65 j rfl]; exact hE.2.1 j hj) hE.2.2 (by omega)
  refine ok_bind (ok_eq he2 ?_)
  show Ok (if inb (s2.1 58 12) 9 then _ else none) P
  have e12 : s2.1 58 12 = nI l.length := by rw [hF2 58 12 rfl]; exact h.2.2.1
  rw [e12]
  refine ok_t (inb_nI (by omega) (by omega)) (ok_lt (ok_lt ?_))
  rw [cl_nI (by omega), ch_I (by omega), hc, sI_row _ _ _ _ (show 58 ≠ 63 by decide), e12, nI_1, sI_col _ _ _ _ (show 20 ≠ 12 by decide), sI_row _ _ _ _ (show 58 ≠ 63 by decide), hF2 58 20 rfl, h.2.1, nI_1]
  have el : (l ++ [f]).length = l.length + 1 := by rw [List.length_append, List.length_singleton]
  refine h2 s0 _ P m hE ⟨(((h.1.tr (hF2.wk (by decide))).sI (by simp [inL, LFd])).sI rfl).sI rfl, by rw [sI_self, el], by rw [sI_col _ _ _ _ (by decide), sI_self, el], fun j hj => ?_, ?_⟩ (by omega) hk
  · rw [el] at hj
    rw [sI_row _ _ _ _ (by decide), sI_row _ _ _ _ (by decide), getD_snoc]
    by_cases e : j = l.length
    · rw [e, sI_self, if_neg (by omega), if_pos rfl]
    · rw [sI_col _ _ _ _ e, if_pos (by omega), hF2 63 j (by simp [inL, LW])]; exact h.2.2.2.1 j (by omega)
  · refine ⟨?_, ?_, ?_⟩
    · rw [sI_col _ _ _ _ (by decide), sI_col _ _ _ _ (by decide), sI_row _ _ _ _ (by decide)]; exact hW2.1
    · rw [sI_col _ _ _ _ (by decide), sI_col _ _ _ _ (by decide), sI_row _ _ _ _ (by decide)]; exact hW2.2.1
    · rw [sI_col _ _ _ _ (by decide), sI_col _ _ _ _ (by decide), sI_row _ _ _ _ (by decide)]; exact hW2.2.2
theorem fo_extF {T : Txt} {n : Nat} {l : List Nat} {u z : Wd} {f k a : Nat} (hn : n ≤ 16) (hn2 : 2 ≤ n) (ho : okF n l u) (hc : chn T l.length = f) (hf : f = 104 ∨ f = 118 ∨ f = 100) (hz : fold1 f u = some z) (h2 : RFoF T (l ++ [f]) z k a) : RFoF T l u k a := fun s0 s P m hE h hm hk => by
  obtain ⟨ho2, hl⟩ := okF_app hn hn2 ho hf hz
  have hb := okF_b hn ho
  obtain ⟨m, rfl⟩ := nat_suc (show 0 + 1 ≤ m by omega)
  have he := h.here hE (by omega)
  refine fo_36 hE h (by omega) hc hf ?_
  unfold b_m_readsFolds_36
  refine ok_bind (ok_eq he ?_)
  rw [ch_I (by omega), hc]
  refine ok_bind (m_foldsOnce_ok h.2.2.2.2 (by omega) (by omega) (by omega) (by omega) (fun e => by rw [hz] at e; cases e) (fun z2 hz2 s2 hF2 hW2 => ok_f ne10 ?_))
  have ez : z2 = z := by rw [hz] at hz2; exact (Option.some.inj hz2).symm
  subst ez
  have he2 : f_m_here s2 = some (chI T l.length, s2) := m_hereT (by rw [hF2 58 21 rfl, h.1 58 21 rfl]; exact hE.1) (by rw [hF2 58 20 rfl]; exact h.2.1) (fun j hj => by rw [hF2 65 j rfl, h.1 65 j rfl]; exact hE.2.1 j hj) hE.2.2 (by omega)
  refine ok_bind (ok_eq he2 ?_)
  show Ok (if inb (s2.1 58 12) 9 then _ else none) P
  have e12 : s2.1 58 12 = nI l.length := by rw [hF2 58 12 rfl]; exact h.2.2.1
  rw [e12]
  refine ok_t (inb_nI (by omega) (by omega)) (ok_lt (ok_lt ?_))
  rw [cl_nI (by omega), ch_I (by omega), hc, sI_row _ _ _ _ (show 58 ≠ 63 by decide), e12, nI_1, sI_col _ _ _ _ (show 20 ≠ 12 by decide), sI_row _ _ _ _ (show 58 ≠ 63 by decide), hF2 58 20 rfl, h.2.1, nI_1]
  have el : (l ++ [f]).length = l.length + 1 := by rw [List.length_append, List.length_singleton]
  refine h2 s0 _ P m hE ⟨(((h.1.tr (hF2.wk (by decide))).sI (by simp [inL, LFd])).sI rfl).sI rfl, by rw [sI_self, el], by rw [sI_col _ _ _ _ (by decide), sI_self, el], fun j hj => ?_, ?_⟩ (by omega) hk
  · rw [el] at hj
    rw [sI_row _ _ _ _ (by decide), sI_row _ _ _ _ (by decide), getD_snoc]
    by_cases e : j = l.length
    · rw [e, sI_self, if_neg (by omega), if_pos rfl]
    · rw [sI_col _ _ _ _ e, if_pos (by omega), hF2 63 j (by simp [inL, LW])]; exact h.2.2.2.1 j (by omega)
  · refine ⟨?_, ?_, ?_⟩
    · rw [sI_col _ _ _ _ (by decide), sI_col _ _ _ _ (by decide), sI_row _ _ _ _ (by decide)]; exact hW2.1
    · rw [sI_col _ _ _ _ (by decide), sI_col _ _ _ _ (by decide), sI_row _ _ _ _ (by decide)]; exact hW2.2.1
    · rw [sI_col _ _ _ _ (by decide), sI_col _ _ _ _ (by decide), sI_row _ _ _ _ (by decide)]; exact hW2.2.2
theorem fo_no {T : Txt} {n : Nat} {l : List Nat} {u : Wd} {f : Nat} (hn : n ≤ 16) (ho : okF n l u) (hc : chn T l.length = f) (hf : f = 104 ∨ f = 118 ∨ f = 100) (hz : fold1 f u = none) : RFoF T l u 3 l.length := fun s0 s P m hE h hm hk => by
  have hl := ho.1
  have hb := okF_b hn ho
  obtain ⟨m, rfl⟩ := nat_suc (show 0 + 1 ≤ m by omega)
  have he := h.here hE (by omega)
  refine fo_36 hE h (by omega) hc hf ?_
  unfold b_m_readsFolds_36 b_m_readsFolds_47
  refine ok_bind (ok_eq he ?_)
  rw [ch_I (by omega), hc]
  refine ok_bind (m_foldsOnce_ok h.2.2.2.2 (by omega) (by omega) (by omega) (by omega) (fun _ => ok_t rfl ?_) (fun z2 hz2 => by rw [hz] at hz2; cases hz2))
  show Ok ((f_m_wrongAt (3 : Int32) (s.1 58 20) s).bind _) _
  rw [h.2.1]
  exact ok_bind (ok_eq (m_wrong_eq _ _ _) (ok_t (Or.inl rfl) (ok_some (hk _ ⟨h.1.sI rfl, sI_self _ _ _ _⟩))))
/-! the class -/
theorem FXbd.ne {s0 s : Mm} {k a : Nat} (h : FXbd s0 s k a) : ¬ s.1 13 7 = 0 := by
  rw [h.2.2.1]
  intro e
  have h2 := h.2.1
  have := (nI_eq (by omega) (by omega)).mp (show nI k = nI 0 from e)
  omega
theorem FXbd.f2 {s0 s : Mm} {k a : Nat} (h : FXbd s0 s k a) (m : Nat) (w : Int32) : f_Rdr_readFolds_2 (m + 1) w s = some ((), s) := by
  show b_Rdr_readFolds_2 (f_Rdr_readFolds_2 m) w s = _
  unfold b_Rdr_readFolds_2
  rw [if_neg h.ne]
  split <;> rfl
theorem FXst.bad {n : Nat} {s0 s : Mm} {p : Nat} {l : List Nat} {u : Wd} (h : FXst n s0 s p l u) {q : Nat} (hq : 1 ≤ q ∧ q ≤ 6) (a : Nat) (ha : a ≤ 160 := by omega) : ∃ s2, f_Rdr_fail (nI q) (nI a) s = some ((), s2) ∧ FXbd s0 s2 q a := by
  refine ⟨sI (sI s 13 7 (nI q)) 13 8 (nI a), ?_, (h.1.sI rfl).sI rfl, ⟨hq.1, hq.2, ha⟩, by rw [sI_col _ _ _ _ (by decide), sI_self], sI_self _ _ _ _⟩
  unfold f_Rdr_fail
  rw [h.2.2.1, if_pos rfl]
def FoP (T : Txt) (n : Nat) (s0 : Mm) (l : List Nat) (u : Wd) (s : Mm) : Prop := (∃ l2 u2, FXst n s0 s (l2.length + 1) l2 u2 ∧ okF n l2 u2 ∧ l2.length < T.1 ∧ RFo T l u l2 u2) ∨ (∃ k a, FXbd s0 s k a ∧ RFoF T l u k a)
theorem x_folds_ok {T : Txt} {n : Nat} {s0 : Mm} (hn : n ≤ 16) (hn2 : 2 ≤ n) (hT : TxO T) (h5 : s0.1 13 5 = nI T.1) (h21 : ∀ j, j < T.1 → s0.1 21 j = nI (T.2 j)) : ∀ r l u m s, l.length + r = 9 → r + 2 ≤ m → okF n l u → FXst n s0 s l.length l u → Ok (f_Rdr_readFolds_2 m (nI l.length) s) (fun q => FoP T n s0 l u q.2) := by
  intro r
  induction r with
  | zero => intro l u m s hr hm ho h; have := ho.1; omega
  | succ r ih =>
    intro l u m s hr hm ho h
    have hl := ho.1
    obtain ⟨m, rfl⟩ := nat_suc (show 0 + 1 ≤ m by omega)
    have hlk : f_Rdr_look s = some (chI T l.length, s) := x_lookT (by rw [h.1 13 5 rfl]; exact h5) h.2.1 (fun j hj => by rw [h.1 21 j rfl]; exact h21 j hj) hT (by omega)
    have fail3 : ∀ s2, FXst n s0 s2 l.length l u → RFoF T l u 3 l.length → Ok (b_Rdr_readFolds_89 (f_Rdr_readFolds_2 m) (nI l.length) s2) (fun q => FoP T n s0 l u q.2) := by
      intro s2 h2 r2
      unfold b_Rdr_readFolds_89
      obtain ⟨s3, e3, h3⟩ := h2.bad (q := 3) (by omega) l.length
      rw [h2.2.1]
      refine ok_bind (ok_eq (show f_Rdr_fail (3 : Int32) (nI l.length) s2 = _ from e3) (ok_lt ?_))
      obtain ⟨m, rfl⟩ := nat_suc (show 0 + 1 ≤ m by omega)
      exact ok_eq (h3.f2 m _) (Or.inr ⟨3, l.length, h3, r2⟩)
    have go : ∀ f, chn T l.length = f → (f = 104 ∨ f = 118 ∨ f = 100) → Ok (b_Rdr_readFolds_68 (f_Rdr_readFolds_2 m) (nI l.length) (chI T l.length) s) (fun q => FoP T n s0 l u q.2) := by
      intro f hc hf
      unfold b_Rdr_readFolds_68
      rw [h.2.2.2.1, ch_I (by omega), hc]
      refine okc_le 8 l.length (fun h8 => fail3 s h (fo_no hn ho hc hf (fold8 hn hn2 ho.2.2 h8))) (fun h8 => ?_)
      have hx : Ok (f_Fold_fold 14 15 16 (nI f) (nI (slb 0 l.length)) s) (fun q2 => Ok (if q2.1 = 0 then (b_Rdr_readFolds_89 (f_Rdr_readFolds_2 m) (nI l.length) q2.2) else (if inb (q2.2.1 13 9) 8 then lt_ (((sI q2.2 22 (q2.2.1 13 9).toNatClampNeg (nI f)).1 13 9) + (1 : Int32)) (fun a5 => lt_ (((sI (sI q2.2 22 (q2.2.1 13 9).toNatClampNeg (nI f)) 13 9 a5).1 13 6) + (1 : Int32)) (fun a6 => lt_ (nI l.length + (1 : Int32)) (fun a7 => f_Rdr_readFolds_2 m a7 (sI (sI (sI q2.2 22 (q2.2.1 13 9).toNatClampNeg (nI f)) 13 9 a5) 13 6 a6)))) else none)) (fun q => FoP T n s0 l u q.2)) := by
        refine x_fold_ok (by decide) (by decide) (by decide) h.2.2.2.2.2 hf (slb_lt _ _) (fun e => ok_t rfl (fail3 s h (fo_no hn ho hc hf e))) (fun z hz s2 hF2 hS2 => ok_f ne10 ?_)
        obtain ⟨ho2, hl2⟩ := okF_app hn hn2 ho hf hz
        have e9 : s2.1 13 9 = nI l.length := by rw [hF2 13 9 rfl]; exact h.2.2.2.1
        show Ok (if inb (s2.1 13 9) 8 then _ else none) _
        rw [e9]
        refine ok_t (inb_nI (by omega) (by omega)) (ok_lt (ok_lt (ok_lt ?_)))
        rw [cl_nI (by omega), sI_row _ _ _ _ (show 13 ≠ 22 by decide), e9, nI_1, sI_col _ _ _ _ (show 6 ≠ 9 by decide), sI_row _ _ _ _ (show 13 ≠ 22 by decide), hF2 13 6 rfl, h.2.1, nI_1]
        have el : (l ++ [f]).length = l.length + 1 := by rw [List.length_append, List.length_singleton]
        have hst : FXst n s0 (sI (sI (sI s2 22 l.length (nI f)) 13 9 (nI (l.length + 1))) 13 6 (nI (l.length + 1))) (l ++ [f]).length (l ++ [f]) z := by
          refine ⟨(((h.1.tr (hF2.wk (by decide))).sI (by simp [inL, LFx])).sI rfl).sI rfl, by rw [sI_self, el], ?_, by rw [sI_col _ _ _ _ (by decide), sI_self, el], fun j hj => ?_, hS2.same (fun j => by rw [sI_row _ _ _ _ (by decide), sI_row _ _ _ _ (by decide), sI_row _ _ _ _ (by decide)]) (fun j => by rw [sI_row _ _ _ _ (by decide), sI_row _ _ _ _ (by decide), sI_row _ _ _ _ (by decide)]) (fun j => by rw [sI_row _ _ _ _ (by decide), sI_row _ _ _ _ (by decide), sI_row _ _ _ _ (by decide)])⟩
          · rw [sI_col _ _ _ _ (by decide), sI_col _ _ _ _ (by decide), sI_row _ _ _ _ (by decide), hF2 13 7 rfl]; exact h.2.2.1
          · rw [el] at hj
            rw [sI_row _ _ _ _ (by decide), sI_row _ _ _ _ (by decide), getD_snoc]
            by_cases e : j = l.length
            · rw [e, sI_self, if_neg (by omega), if_pos rfl]
            · rw [sI_col _ _ _ _ e, if_pos (by omega), hF2 22 j (by simp [inL])]; exact h.2.2.2.2.1 j (by omega)
        have := ih (l ++ [f]) z m _ (by omega) (by omega) ho2 hst
        rw [el] at this
        refine ok_mono this ?_
        rintro q (⟨l2, u2, g1, g2, g3, g4⟩ | ⟨k, a, g1, g2⟩)
        · exact Or.inl ⟨l2, u2, g1, g2, g3, fo_ext hn hn2 ho hc hf hz g4⟩
        · exact Or.inr ⟨k, a, g1, fo_extF hn hn2 ho hc hf hz g2⟩
      rw [slb0] at hx
      exact ok_bind hx
    show Ok (b_Rdr_readFolds_2 (f_Rdr_readFolds_2 m) (nI l.length) s) _
    unfold b_Rdr_readFolds_2
    refine okc_lt 160 l.length (fun hh => by omega) (fun _ => ok_t h.2.2.1 (ok_bind (ok_eq hlk ?_)))
    refine okc_ch hT 58 (fun hc => ok_lt (ok_some ?_)) (fun n1 => okc_ch hT 104 (fun e => go 104 e (by omega)) (fun n2 => okc_ch hT 118 (fun e => go 118 e (by omega)) (fun n3 => okc_ch hT 100 (fun e => go 100 e (by omega)) (fun n4 => ?_))))
    · show FoP T n s0 l u (sI s 13 6 (s.1 13 6 + 1))
      rw [h.2.1, nI_1]
      refine Or.inl ⟨l, u, ⟨h.1.sI rfl, sI_self _ _ _ _, by rw [sI_col _ _ _ _ (by decide)]; exact h.2.2.1, by rw [sI_col _ _ _ _ (by decide)]; exact h.2.2.2.1, fun j hj => by rw [sI_row _ _ _ _ (by decide)]; exact h.2.2.2.2.1 j hj, h.2.2.2.2.2.same (fun j => by rw [sI_row _ _ _ _ (by decide)]) (fun j => by rw [sI_row _ _ _ _ (by decide)]) (fun j => by rw [sI_row _ _ _ _ (by decide)])⟩, ho, ch_in (by omega), fo_colon ho hc⟩
    · obtain ⟨s3, e3, h3⟩ := h.bad (q := 1) (by omega) l.length
      show Ok ((f_Rdr_fail (1 : Int32) (s.1 13 6) s).bind _) _
      rw [h.2.1]
      refine ok_bind (ok_eq (show f_Rdr_fail (1 : Int32) (nI l.length) s = _ from e3) (ok_lt ?_))
      obtain ⟨m, rfl⟩ := nat_suc (show 0 + 1 ≤ m by omega)
      exact ok_eq (h3.f2 m _) (Or.inr ⟨1, l.length, h3, fo_bad ho n1 n2 n3 n4⟩)
