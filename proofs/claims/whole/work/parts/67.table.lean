/-! keep, undo, sheet, wantOpened -/
theorem TbX.kp {st : Mm} {k : Option Tt} (h : KpX st k) {s2 : Mm} (h0 : s2.1 0 12 = st.1 0 12) (hs : ∀ c j, 6 ≤ c → c ≤ 10 → s2.1 c j = st.1 c j) : KpX s2 k := by
  unfold KpX at h ⊢
  cases k with
  | none => simp only at h ⊢; rw [h0]; exact h
  | some t =>
    simp only at h ⊢
    exact ⟨by rw [h0]; exact h.1, h.2.same (fun j => hs _ j (by decide) (by decide)) (fun j => hs _ j (by decide) (by decide)) (fun j => hs _ j (by decide) (by decide)) (fun j => hs _ j (by decide) (by decide)) (fun j => hs _ j (by decide) (by decide))⟩
theorem TpX.same {st s2 : Mm} {tp : List Nat} (h : TpX st tp) (hs : ∀ c j, c = 11 ∨ c = 12 → s2.1 c j = st.1 c j) : TpX s2 tp := by
  unfold TpX at h ⊢
  rw [hs 11 0 (by decide), show s2.1 12 = st.1 12 from funext (fun j => hs _ j (by decide))]
  exact h
/-- behind a change of the table: all is opened anew -/
theorem x_reopen_inv {st : Mm} {t : Tt} {tp : List Nat} {k : Option Tt} {P : Unit × Mm → Prop} (hV : VT t) (hT : TbX st 1 2 3 4 5 t) (hP : TpX st tp) (hK : KpX st k) (h : ∀ s2, InvX (t, tp, k) s2 → (∀ c j, 58 ≤ c → s2.1 c j = st.1 c j) → P ((), s2)) : Ok (f_x_reopen st) P := by
  obtain ⟨g0, g1, g2, g3, g4, g5, g6, g7⟩ := hT
  obtain ⟨v1, v2, v3, v4, v5, v6, v7, ⟨v, hv⟩, v9, v10⟩ := hV
  refine x_reopen_ok g0 v2 v6 v7 g3 g4 hv g5 (fun s2 hF hS hp hr hw hh => ?_)
  have e : ∀ c j, 1 ≤ c → c ≤ 12 → s2.1 c j = st.1 c j := fun c j h1 h2 => hF c j (by
    cases hL : inL LXo c j with
    | false => rfl
    | true =>
      obtain ⟨e, he, h3, _⟩ := inL_ex hL
      simp only [LXo, List.mem_cons, List.not_mem_nil, or_false] at he
      rcases he with rfl | rfl | rfl | rfl | rfl | rfl | rfl <;> (simp only at h3; omega))
  refine h s2 ⟨TbX.same ⟨g0, g1, g2, g3, g4, g5, g6, g7⟩ (fun j => e _ j (by decide) (by decide)) (fun j => e _ j (by decide) (by decide)) (fun j => e _ j (by decide) (by decide)) (fun j => e _ j (by decide) (by decide)) (fun j => e _ j (by decide) (by decide)), hP.same (fun c j hc => e c j (by omega) (by omega)), ⟨v, hS⟩, hp, hr, Or.inl hw, Or.inl hh, TbX.kp hK (hF _ _ rfl) (fun c j h1 h2 => e c j (by omega) (by omega))⟩ (hF.lo rfl)
theorem cpy_t (t0 t1 t2 t3 t4 o0 o1 o2 o3 o4 : Nat) (hd : (t0 ≠ t1 ∧ t0 ≠ t2 ∧ t0 ≠ t3 ∧ t0 ≠ t4 ∧ t1 ≠ t2 ∧ t1 ≠ t3 ∧ t1 ≠ t4 ∧ t2 ≠ t3 ∧ t2 ≠ t4 ∧ t3 ≠ t4) ∧ (o0 ≠ t0 ∧ o1 ≠ t0 ∧ o2 ≠ t0 ∧ o3 ≠ t0 ∧ o4 ≠ t0) ∧ (o2 ≠ t1 ∧ o3 ≠ t1 ∧ o4 ≠ t1) ∧ (o3 ≠ t2 ∧ o4 ≠ t2) ∧ o4 ≠ t3) (st : Mm) {t : Tt} (hl : t.2.2.2.1.length ≤ 8) (h : TbX st o0 o1 o2 o3 o4 t) {P : Unit × Mm → Prop}
    (hP : ∀ s2, TbX s2 t0 t1 t2 t3 t4 t → (∀ c j, c ≠ t0 → c ≠ t1 → c ≠ t2 → c ≠ t3 → c ≠ t4 → s2.1 c j = st.1 c j) → P ((), s2)) : Ok (f_Tab_copyFrom t0 t1 t2 t3 t4 o0 o1 o2 o3 o4 st) P := by
  obtain ⟨⟨a1, a2, a3, a4, a5, a6, a7, a8, a9, a10⟩, ⟨b1, b2, b3, b4, b5⟩, ⟨c1, c2, c3⟩, ⟨d1, d2⟩, e1⟩ := hd
  obtain ⟨g0, g1, g2, g3, g4, g5, g6, g7⟩ := h
  unfold f_Tab_copyFrom
  refine ok_lt (ok_lt (ok_lt (ok_lt (ok_some ?_))))
  rw [sI_row _ _ _ _ b1, sI_row _ _ _ _ b1, sI_row _ _ _ _ b1, sI_row _ _ _ _ b1, sI_row _ _ _ _ b1, sI_row _ _ _ _ b1]
  obtain ⟨sa, hsa⟩ : ∃ sa, sa = sI (sI (sI (sI st t0 0 (st.1 o0 0)) t0 1 (st.1 o0 1)) t0 2 (st.1 o0 2)) t0 3 (st.1 o0 3) := ⟨_, rfl⟩
  have fa : ∀ c, c ≠ t0 → sa.1 c = st.1 c := fun c hc => by rw [hsa, sI_row _ _ _ _ hc, sI_row _ _ _ _ hc, sI_row _ _ _ _ hc, sI_row _ _ _ _ hc]
  have f0 : sa.1 t0 0 = st.1 o0 0 ∧ sa.1 t0 1 = st.1 o0 1 ∧ sa.1 t0 2 = st.1 o0 2 ∧ sa.1 t0 3 = st.1 o0 3 := by
    rw [hsa]
    refine ⟨?_, ?_, ?_, ?_⟩ <;> simp [sI_at]
  rw [← hsa]
  obtain ⟨sb, hsb⟩ : ∃ sb, sb = sR sa t1 (va_cpy (sa.1 o1) (sa.1 t1) (0 : Int32).toNatClampNeg (0 : Int32).toNatClampNeg (8 : Int32).toNatClampNeg) := ⟨_, rfl⟩
  rw [← hsb]
  have fb : ∀ c, c ≠ t1 → sb.1 c = sa.1 c := fun c hc => by rw [hsb, sR_row _ _ _ hc]
  have f1 : sb.1 t1 = va_cpy (st.1 o1) (st.1 t1) 0 0 8 := by rw [hsb, sR_own, fa _ b2, fa _ (Ne.symm a1)]; rfl
  obtain ⟨sc, hsc⟩ : ∃ sc, sc = sR sb t2 (va_cpy (sb.1 o2) (sb.1 t2) (0 : Int32).toNatClampNeg (0 : Int32).toNatClampNeg (16 : Int32).toNatClampNeg) := ⟨_, rfl⟩
  rw [← hsc]
  have fc : ∀ c, c ≠ t2 → sc.1 c = sb.1 c := fun c hc => by rw [hsc, sR_row _ _ _ hc]
  have f2 : sc.1 t2 = va_cpy (st.1 o2) (st.1 t2) 0 0 16 := by rw [hsc, sR_own, fb _ c1, fa _ b3, fb _ (Ne.symm a5), fa _ (Ne.symm a2)]; rfl
  obtain ⟨sd, hsd⟩ : ∃ sd, sd = sR sc t3 (va_cpy (sc.1 o3) (sc.1 t3) (0 : Int32).toNatClampNeg (0 : Int32).toNatClampNeg (16 : Int32).toNatClampNeg) := ⟨_, rfl⟩
  rw [← hsd]
  have fd : ∀ c, c ≠ t3 → sd.1 c = sc.1 c := fun c hc => by rw [hsd, sR_row _ _ _ hc]
  have f3 : sd.1 t3 = va_cpy (st.1 o3) (st.1 t3) 0 0 16 := by rw [hsd, sR_own, fc _ d1, fb _ c2, fa _ b4, fc _ (Ne.symm a8), fb _ (Ne.symm a6), fa _ (Ne.symm a3)]; rfl
  obtain ⟨se, hse⟩ : ∃ se, se = sR sd t4 (va_cpy (sd.1 o4) (sd.1 t4) (0 : Int32).toNatClampNeg (0 : Int32).toNatClampNeg (16 : Int32).toNatClampNeg) := ⟨_, rfl⟩
  rw [← hse]
  have fe : ∀ c, c ≠ t4 → se.1 c = sd.1 c := fun c hc => by rw [hse, sR_row _ _ _ hc]
  have f4 : se.1 t4 = va_cpy (st.1 o4) (st.1 t4) 0 0 16 := by rw [hse, sR_own, fd _ e1, fc _ d2, fb _ c3, fa _ b5, fd _ (Ne.symm a10), fc _ (Ne.symm a9), fb _ (Ne.symm a7), fa _ (Ne.symm a4)]; rfl
  have r0 : se.1 t0 = sa.1 t0 := by rw [fe _ a4, fd _ a3, fc _ a2, fb _ a1]
  have r1 : se.1 t1 = va_cpy (st.1 o1) (st.1 t1) 0 0 8 := by rw [fe _ a7, fd _ a6, fc _ a5, f1]
  have r2 : se.1 t2 = va_cpy (st.1 o2) (st.1 t2) 0 0 16 := by rw [fe _ a9, fd _ a8, f2]
  have r3 : se.1 t3 = va_cpy (st.1 o3) (st.1 t3) 0 0 16 := by rw [fe _ a10, f3]
  have rw16 : ∀ (f g : Nat → Int32) (c : Nat → Bool), Rw f c → Rw (va_cpy f g 0 0 16) c := fun f g c hR y hy b hb => by
    rw [pk_cpy_in (by omega) (by omega), show 0 + (y - 0) = y by omega]; exact hR y hy b hb
  refine hP se ⟨by rw [r0, f0.1]; exact g0, by rw [r0, f0.2.1]; exact g1, by rw [r0, f0.2.2.1]; exact g2, by rw [r0, f0.2.2.2]; exact g3, fun j hj => ?_, by rw [r2]; exact rw16 _ _ _ g5, by rw [r3]; exact rw16 _ _ _ g6, by rw [f4]; exact rw16 _ _ _ g7⟩ (fun c j h0 h1 h2 h3 h4 => by rw [fe _ h4, fd _ h3, fc _ h2, fb _ h1, fa _ h0])
  rw [r1, pk_cpy_in (by omega) (by omega), show 0 + (j - 0) = j by omega]
  exact g4 j hj
/-- the reference copies rows one by one -/
theorem m_cp1 {β : Type} (F : Nat → Int32 → Mm → Option β) (N d s : Nat) (hds : d ≠ s) (hN : N ≤ 256) {P : β → Prop} {st : Mm}
    (hs : ∀ n i a, i < N → F (n + 1) (nI i) a = F n (nI (i + 1)) (sI a d i (a.1 s i)))
    (hx : ∀ s2, (∀ i, i < N → s2.1 d i = st.1 s i) → (∀ c j, c ≠ d → s2.1 c j = st.1 c j) → ∀ n, Ok (F (n + 1) (nI N) s2) P) : Ok (F 1000000 0 st) P := by
  refine ok_upF F (fun i a => (∀ k, k < i → a.1 d k = st.1 s k) ∧ (∀ c j, c ≠ d → a.1 c j = st.1 c j)) P N (by omega) ⟨fun k hk => by omega, fun _ _ _ => rfl⟩ ?_ ?_
  · rintro n i a hi ⟨h1, h2⟩ ih
    rw [hs n i a hi]
    refine ih _ ⟨fun k hk => ?_, fun c j hc => by rw [sI_row _ _ _ _ hc]; exact h2 c j hc⟩
    rw [sI_at]
    by_cases e : k = i
    · subst e; simp only [and_self, reduceIte]; exact h2 s k (Ne.symm hds)
    · simp only [e, and_false, reduceIte]; exact h1 k (by omega)
  · rintro n a ⟨h1, h2⟩
    exact hx a h1 h2 n
theorem m_cp2 {β : Type} (F : Nat → Int32 → Mm → Option β) (d s d' s' : Nat) (h1 : d ≠ s) (h2 : d ≠ s') (h3 : d' ≠ s) (h4 : d' ≠ s') (h5 : d ≠ d') {P : β → Prop} {st : Mm} {p q : Nat → Bool} (hp : ∀ k, k < 256 → st.1 s k = bI (p k)) (hq : ∀ k, k < 256 → st.1 s' k = bI (q k))
    (hs : ∀ n i a, i < 256 → (a.1 s i = 0 ∨ a.1 s i = 1) → (a.1 s' i = 0 ∨ a.1 s' i = 1) → F (n + 1) (nI i) a = F n (nI (i + 1)) (sI (sI a d i (a.1 s i)) d' i (a.1 s' i)))
    (hx : ∀ s2, (∀ i, i < 256 → s2.1 d i = bI (p i)) → (∀ i, i < 256 → s2.1 d' i = bI (q i)) → (∀ c j, c ≠ d → c ≠ d' → s2.1 c j = st.1 c j) → ∀ n, Ok (F (n + 1) (nI 256) s2) P) : Ok (F 1000000 0 st) P := by
  refine ok_upF F (fun i a => (∀ k, k < i → a.1 d k = bI (p k)) ∧ (∀ k, k < i → a.1 d' k = bI (q k)) ∧ (∀ c j, c ≠ d → c ≠ d' → a.1 c j = st.1 c j)) P 256 (by omega) ⟨fun k hk => by omega, fun k hk => by omega, fun _ _ _ _ => rfl⟩ ?_ ?_
  · rintro n i a hi ⟨g1, g2, g3⟩ ih
    have e1 : a.1 s i = bI (p i) := by rw [g3 _ _ (Ne.symm h1) (Ne.symm h3)]; exact hp i hi
    have e2 : a.1 s' i = bI (q i) := by rw [g3 _ _ (Ne.symm h2) (Ne.symm h4)]; exact hq i hi
    have z : ∀ b, bI b = 0 ∨ bI b = 1 := fun b => by cases b <;> simp [bI]
    rw [hs n i a hi (by rw [e1]; exact z _) (by rw [e2]; exact z _)]
    refine ih _ ⟨fun k hk => ?_, fun k hk => ?_, fun c j hc hc' => by rw [sI_row _ _ _ _ hc', sI_row _ _ _ _ hc]; exact g3 c j hc hc'⟩
    · rw [sI_row _ _ _ _ h5, sI_at]
      by_cases e : k = i
      · subst e; simp only [and_self, reduceIte]; exact e1
      · simp only [e, and_false, reduceIte]; exact g1 k (by omega)
    · rw [sI_at]
      by_cases e : k = i
      · subst e; simp only [and_self, reduceIte]; exact e2
      · simp only [e, and_false, reduceIte]; rw [sI_row _ _ _ _ (Ne.symm h5)]; exact g2 k (by omega)
  · rintro n a ⟨g1, g2, g3⟩
    exact hx a g1 g2 g3 n
theorem n9 {i : Nat} (h : i < 9) : ¬ (9 : Int32) ≤ nI i := show ¬ nI 9 ≤ nI i by rw [nI_leI (by omega) (by omega)]; omega
theorem m_keep_39_s (n i : Nat) (a : Mm) (hi : i < 9) : f_m_keep_39 (n + 1) (nI i) a = f_m_keep_39 n (nI (i + 1)) (sI a 87 i (a.1 59 i)) := by
  show b_m_keep_39 (f_m_keep_39 n) (nI i) a = _
  unfold b_m_keep_39
  rw [if_neg (n9 hi), if_pos (inb_nI hi (by omega)), lt_eq, if_pos (inb_nI hi (by omega)), lt_eq, nI_1, cl_nI (by omega)]
theorem m_keep_65_s (n i : Nat) (a : Mm) (hi : i < 16) : f_m_keep_65 (n + 1) (nI i) a = f_m_keep_65 n (nI (i + 1)) (sI a 88 i (a.1 60 i)) := by
  show b_m_keep_65 (f_m_keep_65 n) (nI i) a = _
  unfold b_m_keep_65
  rw [if_neg (n16 hi), if_pos (inb_nI hi (by omega)), lt_eq, if_pos (inb_nI hi (by omega)), lt_eq, nI_1, cl_nI (by omega)]
theorem m_keep_91_s (n i : Nat) (a : Mm) (hi : i < 256) (h1 : a.1 61 i = 0 ∨ a.1 61 i = 1) (h2 : a.1 62 i = 0 ∨ a.1 62 i = 1) : f_m_keep_91 (n + 1) (nI i) a = f_m_keep_91 n (nI (i + 1)) (sI (sI a 89 i (a.1 61 i)) 90 i (a.1 62 i)) := by
  show b_m_keep_91 (f_m_keep_91 n) (nI i) a = _
  unfold b_m_keep_91
  have hb := inb_nI hi (show 256 < 2147483648 by omega)
  simp only [lt_eq, cl_nI (show i < 2147483648 by omega), sI_row _ _ _ _ (show 62 ≠ 89 by decide)]
  rw [if_neg (n256 hi), if_pos hb, if_pos hb, if_pos h1, if_pos hb, if_pos hb, if_pos h2, nI_1]
theorem m_undo_43_s (n i : Nat) (a : Mm) (hi : i < 9) : f_m_undo_43 (n + 1) (nI i) a = f_m_undo_43 n (nI (i + 1)) (sI a 59 i (a.1 87 i)) := by
  show b_m_undo_43 (f_m_undo_43 n) (nI i) a = _
  unfold b_m_undo_43
  rw [if_neg (n9 hi), if_pos (inb_nI hi (by omega)), lt_eq, if_pos (inb_nI hi (by omega)), lt_eq, nI_1, cl_nI (by omega)]
theorem m_undo_69_s (n i : Nat) (a : Mm) (hi : i < 16) : f_m_undo_69 (n + 1) (nI i) a = f_m_undo_69 n (nI (i + 1)) (sI a 60 i (a.1 88 i)) := by
  show b_m_undo_69 (f_m_undo_69 n) (nI i) a = _
  unfold b_m_undo_69
  rw [if_neg (n16 hi), if_pos (inb_nI hi (by omega)), lt_eq, if_pos (inb_nI hi (by omega)), lt_eq, nI_1, cl_nI (by omega)]
theorem m_undo_95_s (n i : Nat) (a : Mm) (hi : i < 256) (h1 : a.1 89 i = 0 ∨ a.1 89 i = 1) (h2 : a.1 90 i = 0 ∨ a.1 90 i = 1) : f_m_undo_95 (n + 1) (nI i) a = f_m_undo_95 n (nI (i + 1)) (sI (sI a 61 i (a.1 89 i)) 62 i (a.1 90 i)) := by
  show b_m_undo_95 (f_m_undo_95 n) (nI i) a = _
  unfold b_m_undo_95
  have hb := inb_nI hi (show 256 < 2147483648 by omega)
  simp only [lt_eq, cl_nI (show i < 2147483648 by omega), sI_row _ _ _ _ (show 90 ≠ 61 by decide)]
  rw [if_neg (n256 hi), if_pos hb, if_pos hb, if_pos h1, if_pos hb, if_pos hb, if_pos h2, nI_1]
theorem Rw.cg {f g : Nat → Int32} {c : Nat → Bool} (h : Rw f c) (he : ∀ y, y < 16 → g y = f y) : Rw g c := fun y hy b hb => by rw [he y hy]; exact h y hy b hb
theorem st_keep : Step1 Inv f_x_keep f_m_keep := step_of (fun A hA => by
  obtain ⟨v, hv, _⟩ := hA.v
  have h8 := hA.1.2.2.2.2.2.1
  refine ⟨(A.1, A.2.1, some A.1), nI (fb_ct (papT A.1) 256), ⟨hA.1, hA.2.1, hA.2.2.1, fun t ht => by cases ht; exact hA.1⟩, fun st hI => ?_, fun st hI => ?_⟩
  · unfold f_x_keep
    refine ok_bind (cpy_t _ _ _ _ _ _ _ _ _ _ (by decide) st h8 hI.1 (fun s2 hT hs => ?_))
    have e : ∀ c j, c ≠ 6 → c ≠ 7 → c ≠ 8 → c ≠ 9 → c ≠ 10 → c ≠ 0 → (sI s2 0 12 1).1 c j = st.1 c j := fun c j h0 h1 h2 h3 h4 h5 => by rw [sI_row _ _ _ _ h5]; exact hs c j h0 h1 h2 h3 h4
    refine ok_bind (ok_eq (x_bitsOf_eq (c := papT A.1) (by rw [show (sI s2 0 12 1).1 31 = st.1 31 from funext (fun j => e _ j (by decide) (by decide) (by decide) (by decide) (by decide) (by decide))]; exact hI.2.2.2.2.1)) ?_)
    refine ok_some ⟨rfl, ?_, fun c j hc => e c j (by omega) (by omega) (by omega) (by omega) (by omega) (by omega)⟩
    obtain ⟨h1, h2, ⟨u, h3⟩, h4, h5, h6, h7, h9⟩ := hI
    have er : ∀ c, c ≠ 6 → c ≠ 7 → c ≠ 8 → c ≠ 9 → c ≠ 10 → c ≠ 0 → (sI s2 0 12 1).1 c = st.1 c := fun c a1 a2 a3 a4 a5 a6 => funext (fun j => e c j a1 a2 a3 a4 a5 a6)
    have e0 : ∀ j, j ≠ 12 → (sI s2 0 12 1).1 0 j = st.1 0 j := fun j hj => by rw [sI_col _ _ _ _ hj]; exact hs 0 j (by decide) (by decide) (by decide) (by decide) (by decide)
    refine ⟨?_, ?_, ⟨u, ?_⟩, ?_, ?_, ?_, ?_, ?_⟩
    · exact h1.same (fun j => by rw [er _ (by decide) (by decide) (by decide) (by decide) (by decide) (by decide)]) (fun j => by rw [er _ (by decide) (by decide) (by decide) (by decide) (by decide) (by decide)]) (fun j => by rw [er _ (by decide) (by decide) (by decide) (by decide) (by decide) (by decide)]) (fun j => by rw [er _ (by decide) (by decide) (by decide) (by decide) (by decide) (by decide)]) (fun j => by rw [er _ (by decide) (by decide) (by decide) (by decide) (by decide) (by decide)])
    · exact h2.same (fun c j hc => e c j (by omega) (by omega) (by omega) (by omega) (by omega) (by omega))
    · exact h3.same (fun j => by rw [er _ (by decide) (by decide) (by decide) (by decide) (by decide) (by decide)]) (fun j => by rw [er _ (by decide) (by decide) (by decide) (by decide) (by decide) (by decide)]) (fun j => by rw [er _ (by decide) (by decide) (by decide) (by decide) (by decide) (by decide)])
    · rw [er 30 (by decide) (by decide) (by decide) (by decide) (by decide) (by decide)]; exact h4
    · rw [er 31 (by decide) (by decide) (by decide) (by decide) (by decide) (by decide)]; exact h5
    · unfold PcX at h6 ⊢
      rw [er 34 (by decide) (by decide) (by decide) (by decide) (by decide) (by decide), er 35 (by decide) (by decide) (by decide) (by decide) (by decide) (by decide), er 36 (by decide) (by decide) (by decide) (by decide) (by decide) (by decide), er 37 (by decide) (by decide) (by decide) (by decide) (by decide) (by decide)]
      exact h6
    · rw [e0 _ (by decide), e0 _ (by decide)]; exact h7
    · refine ⟨sI_self _ _ _ _, hT.same (fun j => by rw [sI_row _ _ _ _ (by decide)]) (fun j => by rw [sI_row _ _ _ _ (by decide)]) (fun j => by rw [sI_row _ _ _ _ (by decide)]) (fun j => by rw [sI_row _ _ _ _ (by decide)]) (fun j => by rw [sI_row _ _ _ _ (by decide)])⟩
  · obtain ⟨⟨g0, g1, g2, g3, g4, g5, g6, g7⟩, hP, hK⟩ := hI
    unfold f_m_keep
    refine ok_lt (ok_lt (ok_lt (ok_lt ?_)))
    simp only [sI_at, show ¬ (0 = 56) by decide, show ¬ (1 = 56) by decide, show ¬ (1 = 57) by decide, show ¬ (2 = 56) by decide, show ¬ (2 = 57) by decide, show ¬ (2 = 58) by decide, show ¬ (3 = 56) by decide, show ¬ (3 = 57) by decide, show ¬ (3 = 58) by decide, show ¬ (3 = 59) by decide, and_false, reduceIte]
    obtain ⟨sa, hsa⟩ : ∃ sa, sa = (sI (sI (sI (sI (sI st 58 56 1) 58 57 (st.1 58 0)) 58 58 (st.1 58 1)) 58 59 (st.1 58 2)) 58 60 (st.1 58 3)) := ⟨_, rfl⟩
    rw [← hsa]
    have fa : ∀ c, c ≠ 58 → sa.1 c = st.1 c := fun c hc => by rw [hsa, sI_row _ _ _ _ hc, sI_row _ _ _ _ hc, sI_row _ _ _ _ hc, sI_row _ _ _ _ hc, sI_row _ _ _ _ hc]
    have f0 : ∀ j, j < 56 → sa.1 58 j = st.1 58 j := fun j hj => by rw [hsa, sI_col _ _ _ _ (by omega), sI_col _ _ _ _ (by omega), sI_col _ _ _ _ (by omega), sI_col _ _ _ _ (by omega), sI_col _ _ _ _ (by omega)]
    have fk : sa.1 58 56 = 1 ∧ sa.1 58 57 = nI A.1.1 ∧ sa.1 58 60 = nI A.1.2.1 ∧ sa.1 58 59 = nI A.1.2.2.1 ∧ sa.1 58 58 = nI A.1.2.2.2.1.length := by
      rw [hsa, ← g0, ← g1, ← g2, ← g3]
      refine ⟨?_, ?_, ?_, ?_, ?_⟩ <;> simp [sI_at]
    refine m_cp1 (fun n i a => f_m_keep_39 n i a) 9 87 59 (by decide) (by omega) m_keep_39_s (fun sb hb1 hb2 n => ?_)
    show Ok (b_m_keep_39 (f_m_keep_39 n) (nI 9) sb) _
    unfold b_m_keep_39 b_m_keep_63
    refine ok_t (by decide) ?_
    refine m_cp1 (fun n i a => f_m_keep_65 n i a) 16 88 60 (by decide) (by omega) m_keep_65_s (fun sc hc1 hc2 n => ?_)
    show Ok (b_m_keep_65 (f_m_keep_65 n) (nI 16) sc) _
    unfold b_m_keep_65 b_m_keep_89
    refine ok_t (by decide) ?_
    refine m_cp2 (fun n i a => f_m_keep_91 n i a) 89 61 90 62 (by decide) (by decide) (by decide) (by decide) (by decide) (p := A.1.2.2.2.2.1) (q := A.1.2.2.2.2.2.2) (fun k hk => by rw [hc2 _ _ (by decide), hb2 _ _ (by decide), fa _ (by decide)]; exact g5 k hk) (fun k hk => by rw [hc2 _ _ (by decide), hb2 _ _ (by decide), fa _ (by decide)]; exact g7 k hk) m_keep_91_s (fun sd hd1 hd2 hd3 n => ?_)
    show Ok (b_m_keep_91 (f_m_keep_91 n) (nI 256) sd) _
    unfold b_m_keep_91 b_m_keep_128
    refine ok_t (by decide) ?_
    have all : ∀ c j, c ≠ 58 → c < 87 → sd.1 c j = st.1 c j := fun c j h1 h2 => by rw [hd3 _ _ (by omega) (by omega), hc2 _ _ (by omega), hb2 _ _ (by omega), fa _ h1]
    have all0 : ∀ j, sd.1 58 j = sa.1 58 j := fun j => by rw [hd3 _ _ (by decide) (by decide), hc2 _ _ (by decide), hb2 _ _ (by decide)]
    have hI2 : InvM (A.1, A.2.1, some A.1) sd := by
      refine ⟨⟨by rw [all0, f0 _ (by decide)]; exact g0, by rw [all0, f0 _ (by decide)]; exact g1, by rw [all0, f0 _ (by decide)]; exact g2, by rw [all0, f0 _ (by decide)]; exact g3, fun j hj => by rw [all _ _ (by decide) (by decide)]; exact g4 j hj, fun k hk => by rw [all _ _ (by decide) (by decide)]; exact g5 k hk, g6.cg (fun y _ => all _ _ (by decide) (by decide)), fun k hk => by rw [all _ _ (by decide) (by decide)]; exact g7 k hk⟩, ⟨by rw [all0, f0 _ (by decide)]; exact hP.1, fun j hj => by rw [all _ _ (by decide) (by decide)]; exact hP.2 j hj⟩, by rw [all0]; exact fk.1, by rw [all0]; exact fk.2.1, by rw [all0]; exact fk.2.2.1, by rw [all0]; exact fk.2.2.2.1, by rw [all0]; exact fk.2.2.2.2, fun j hj => ?_, fun k hk => hd1 k hk, g6.cg (fun y hy => ?_), fun k hk => hd2 k hk⟩
      · rw [hd3 _ _ (by decide) (by decide), hc2 _ _ (by decide), hb1 j (by omega), fa _ (by decide)]; exact g4 j hj
      · rw [hd3 _ _ (by decide) (by decide), hc1 y hy, hb2 _ _ (by decide), fa _ (by decide)]
    refine ok_bind (mI_opens (A := (A.1, A.2.1, some A.1)) ⟨hA.1, hA.2.1, hA.2.2.1, fun t ht => by cases ht; exact hA.1⟩ hI2 hv (fun s2 hF hr hp => ?_))
    refine ok_bind (ok_eq (m_paperMany_eq hp) (ok_some ⟨rfl, hI2.same (hF.okM rfl), fun c j hc => ?_⟩))
    rw [hF.hi rfl c j hc, hd3 _ _ (by omega) (by omega), hc2 _ _ (by omega), hb2 _ _ (by omega), fa _ (by omega)])
theorem st_undo : Step1 Inv f_x_undo f_m_undo := step_of (fun A hA => by
  obtain ⟨t0, tp, kp⟩ := A
  cases kp with
  | none =>
    refine ⟨(t0, tp, none), 0, hA, xok_fr [] rfl (fun st hI => ?_), mok_fr [] rfl (fun st hI => ?_)⟩
    · unfold f_x_undo
      exact ok_t hI.2.2.2.2.2.2.2 (ok_some ⟨rfl, Fr.rf⟩)
    · unfold f_m_undo
      exact ok_t hI.2.2 (ok_some ⟨rfl, Fr.rf⟩)
  | some t =>
    have hV : VT t := hA.2.2.2 t rfl
    have h8 := hV.2.2.2.2.2.1
    refine ⟨(t, tp, some t), 1, ⟨hV, hA.2.1, hA.2.2.1, hA.2.2.2⟩, fun st hI => ?_, fun st hI => ?_⟩
    · have hK : st.1 0 12 = 1 ∧ TbX st 6 7 8 9 10 t := hI.2.2.2.2.2.2.2
      unfold f_x_undo
      refine ok_f (by rw [hK.1]; decide) ?_
      refine ok_bind (cpy_t _ _ _ _ _ _ _ _ _ _ (by decide) st h8 hK.2 (fun s2 hT hs => ?_))
      have e : ∀ c j, c ≠ 1 → c ≠ 2 → c ≠ 3 → c ≠ 4 → c ≠ 5 → s2.1 c j = st.1 c j := hs
      refine ok_bind (x_reopen_inv hV hT (hI.2.1.same (fun c j hc => e c j (by omega) (by omega) (by omega) (by omega) (by omega))) (TbX.kp (k := some t) hK (e _ _ (by decide) (by decide) (by decide) (by decide) (by decide)) (fun c j h1 h2 => e c j (by omega) (by omega) (by omega) (by omega) (by omega))) (fun s3 hI3 hF3 => ok_some ⟨rfl, hI3, fun c j hc => ?_⟩))
      rw [hF3 c j hc]
      exact e c j (by omega) (by omega) (by omega) (by omega) (by omega)
    · obtain ⟨_, hP, hK⟩ := hI
      obtain ⟨k0, g0, g1, g2, g3, g4, g5, g6, g7⟩ : st.1 58 56 = 1 ∧ TbR st 57 60 59 58 87 89 88 90 t := hK
      unfold f_m_undo
      refine ok_f (by rw [k0]; decide) (ok_lt (ok_lt (ok_lt (ok_lt ?_))))
      simp only [sI_at, show ¬ (58 = 0) by decide, show ¬ (59 = 0) by decide, show ¬ (59 = 1) by decide, show ¬ (60 = 0) by decide, show ¬ (60 = 1) by decide, show ¬ (60 = 2) by decide, and_false, reduceIte]
      obtain ⟨sa, hsa⟩ : ∃ sa, sa = (sI (sI (sI (sI st 58 0 (st.1 58 57)) 58 1 (st.1 58 58)) 58 2 (st.1 58 59)) 58 3 (st.1 58 60)) := ⟨_, rfl⟩
      rw [← hsa]
      have fa : ∀ c, c ≠ 58 → sa.1 c = st.1 c := fun c hc => by rw [hsa, sI_row _ _ _ _ hc, sI_row _ _ _ _ hc, sI_row _ _ _ _ hc, sI_row _ _ _ _ hc]
      have f0 : ∀ j, 3 < j → sa.1 58 j = st.1 58 j := fun j hj => by rw [hsa, sI_col _ _ _ _ (by omega), sI_col _ _ _ _ (by omega), sI_col _ _ _ _ (by omega), sI_col _ _ _ _ (by omega)]
      have fk : sa.1 58 0 = nI t.1 ∧ sa.1 58 3 = nI t.2.1 ∧ sa.1 58 2 = nI t.2.2.1 ∧ sa.1 58 1 = nI t.2.2.2.1.length := by
        rw [hsa, ← g0, ← g1, ← g2, ← g3]
        refine ⟨?_, ?_, ?_, ?_⟩ <;> simp [sI_at]
      refine m_cp1 (fun n i a => f_m_undo_43 n i a) 9 59 87 (by decide) (by omega) m_undo_43_s (fun sb hb1 hb2 n => ?_)
      show Ok (b_m_undo_43 (f_m_undo_43 n) (nI 9) sb) _
      unfold b_m_undo_43 b_m_undo_67
      refine ok_t (by decide) ?_
      refine m_cp1 (fun n i a => f_m_undo_69 n i a) 16 60 88 (by decide) (by omega) m_undo_69_s (fun sc hc1 hc2 n => ?_)
      show Ok (b_m_undo_69 (f_m_undo_69 n) (nI 16) sc) _
      unfold b_m_undo_69 b_m_undo_93
      refine ok_t (by decide) ?_
      refine m_cp2 (fun n i a => f_m_undo_95 n i a) 61 89 62 90 (by decide) (by decide) (by decide) (by decide) (by decide) (p := t.2.2.2.2.1) (q := t.2.2.2.2.2.2) (fun k hk => by rw [hc2 _ _ (by decide), hb2 _ _ (by decide), fa _ (by decide)]; exact g5 k hk) (fun k hk => by rw [hc2 _ _ (by decide), hb2 _ _ (by decide), fa _ (by decide)]; exact g7 k hk) m_undo_95_s (fun sd hd1 hd2 hd3 n => ?_)
      show Ok (b_m_undo_95 (f_m_undo_95 n) (nI 256) sd) _
      unfold b_m_undo_95
      refine ok_t (by decide) (ok_some ⟨rfl, ?_, fun c j hc => by rw [hd3 _ _ (by omega) (by omega), hc2 _ _ (by omega), hb2 _ _ (by omega), fa _ (by omega)]⟩)
      have all : ∀ c j, c ≠ 58 → c ≠ 59 → c ≠ 60 → c ≠ 61 → c ≠ 62 → sd.1 c j = st.1 c j := fun c j h1 h2 h3 h4 h5 => by rw [hd3 _ _ h4 h5, hc2 _ _ h3, hb2 _ _ h2, fa _ h1]
      have all0 : ∀ j, sd.1 58 j = sa.1 58 j := fun j => by rw [hd3 _ _ (by decide) (by decide), hc2 _ _ (by decide), hb2 _ _ (by decide)]
      have ax : ∀ c j, c = 65 ∨ 87 ≤ c → sd.1 c j = st.1 c j := fun c j hc => all c j (by omega) (by omega) (by omega) (by omega) (by omega)
      refine ⟨⟨by rw [all0]; exact fk.1, by rw [all0]; exact fk.2.1, by rw [all0]; exact fk.2.2.1, by rw [all0]; exact fk.2.2.2, fun j hj => ?_, fun k hk => hd1 k hk, g6.cg (fun y hy => ?_), fun k hk => hd2 k hk⟩, ⟨by rw [all0, f0 _ (by decide)]; exact hP.1, fun j hj => by rw [ax _ _ (by decide)]; exact hP.2 j hj⟩, by rw [all0, f0 _ (by decide)]; exact k0, by rw [all0, f0 _ (by decide)]; exact g0, by rw [all0, f0 _ (by decide)]; exact g1, by rw [all0, f0 _ (by decide)]; exact g2, by rw [all0, f0 _ (by decide)]; exact g3, fun j hj => by rw [ax _ _ (by decide)]; exact g4 j hj, fun k hk => by rw [ax _ _ (by decide)]; exact g5 k hk, g6.cg (fun y _ => ax _ _ (by decide)), fun k hk => by rw [ax _ _ (by decide)]; exact g7 k hk⟩
      · simp only at hj
        rw [hd3 _ _ (by decide) (by decide), hc2 _ _ (by decide), hb1 j (by omega), fa _ (by decide)]; exact g4 j hj
      · rw [hd3 _ _ (by decide) (by decide), hc1 y hy, hb2 _ _ (by decide), fa _ (by decide)])
