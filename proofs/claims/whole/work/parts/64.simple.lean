theorem InvX.setT {A : Ab} {st s2 : Mm} {t2 : Tt} (h : InvX A st) (hT : TbX s2 1 2 3 4 5 t2) (hs : ∀ c j, kx c j = true → 5 < c → s2.1 c j = st.1 c j) (hk : s2.1 0 12 = st.1 0 12) (e1 : t2.1 = A.1.1) (e2 : t2.2.2.2.1 = A.1.2.2.2.1) (e3 : t2.2.2.2.2.1 = A.1.2.2.2.2.1)
    (hh : s2.1 0 13 = 0 ∨ (t2.2.2.2.2.2.2 = A.1.2.2.2.2.2.2 ∧ s2.1 0 13 = st.1 0 13 ∧ s2.1 0 14 = st.1 0 14)) : InvX (t2, A.2.1, A.2.2) s2 := by
  have row : ∀ c, kr c = true → 5 < c → ∀ j, s2.1 c j = st.1 c j := fun c hc h5 j => hs c j (by unfold kx; rw [hc]; rfl) h5
  have ep : papT t2 = papT A.1 := by unfold papT; rw [e1, e2, e3]
  obtain ⟨h1, h2, ⟨v, h3⟩, h4, h5, h6, h7, h8⟩ := h
  refine ⟨hT, ?_, ⟨v, ?_⟩, ?_, ?_, ?_, ?_, ?_⟩
  · unfold TpX
    rw [row 11 rfl (by decide), show s2.1 12 = st.1 12 from funext (row _ rfl (by decide))]
    exact h2
  · show FoS s2 _ _ _ t2.1 t2.2.2.2.1 _ v
    rw [e1, e2]
    exact h3.same (row _ rfl (by decide)) (row _ rfl (by decide)) (row _ rfl (by decide))
  · show s2.1 30 0 = nI t2.1
    rw [hs 30 0 rfl (by decide), e1]; exact h4
  · show Rw _ (papT t2)
    rw [ep, show s2.1 31 = st.1 31 from funext (row _ rfl (by decide))]; exact h5
  · show _ ∨ PcX s2 t2.1 (papT t2)
    rw [hs 34 0 rfl (by decide), ep, e1]
    refine h6.imp id (fun h => ?_)
    unfold PcX
    rw [hs 34 1 rfl (by decide), hs 34 2 rfl (by decide), show s2.1 35 = st.1 35 from funext (row _ rfl (by decide)), show s2.1 36 = st.1 36 from funext (row _ rfl (by decide)), show s2.1 37 = st.1 37 from funext (row _ rfl (by decide))]
    exact h
  · show _ ∨ s2.1 0 14 = hangI t2.1 (papT t2) t2.2.2.2.2.2.2
    rcases hh with hh | ⟨g1, g2, g3⟩
    · exact Or.inl hh
    · rw [ep, e1, g1, g2, g3]; exact h7
  · unfold KpX at h8 ⊢
    show (match A.2.2 with
      | none => s2.1 0 12 = 0
      | some t => s2.1 0 12 = 1 ∧ TbX s2 6 7 8 9 10 t)
    rw [hk]
    cases hq : A.2.2 with
    | none => rw [hq] at h8; exact h8
    | some t =>
      rw [hq] at h8
      exact ⟨h8.1, h8.2.same (row _ rfl (by decide)) (row _ rfl (by decide)) (row _ rfl (by decide)) (row _ rfl (by decide)) (row _ rfl (by decide))⟩
theorem InvX.setP {A : Ab} {st s2 : Mm} {tp : List Nat} (h : InvX A st) (hT : TpX s2 tp) (hs : ∀ c j, kx c j = true → c ≠ 11 → c ≠ 12 → s2.1 c j = st.1 c j) : InvX (A.1, tp, A.2.2) s2 := by
  have row : ∀ c, kr c = true → c ≠ 11 → c ≠ 12 → ∀ j, s2.1 c j = st.1 c j := fun c hc h1 h2 j => hs c j (by unfold kx; rw [hc]; rfl) h1 h2
  obtain ⟨h1, h2, ⟨v, h3⟩, h4, h5, h6, h7, h8⟩ := h
  refine ⟨h1.same (row _ rfl (by decide) (by decide)) (row _ rfl (by decide) (by decide)) (row _ rfl (by decide) (by decide)) (row _ rfl (by decide) (by decide)) (row _ rfl (by decide) (by decide)), hT, ⟨v, h3.same (row _ rfl (by decide) (by decide)) (row _ rfl (by decide) (by decide)) (row _ rfl (by decide) (by decide))⟩, ?_, ?_, ?_, ?_, ?_⟩
  · show s2.1 30 0 = nI A.1.1
    rw [hs 30 0 rfl (by decide) (by decide)]; exact h4
  · rw [show s2.1 31 = st.1 31 from funext (row _ rfl (by decide) (by decide))]; exact h5
  · rw [hs 34 0 rfl (by decide) (by decide)]
    refine h6.imp id (fun h => ?_)
    unfold PcX
    rw [hs 34 1 rfl (by decide) (by decide), hs 34 2 rfl (by decide) (by decide), show s2.1 35 = st.1 35 from funext (row _ rfl (by decide) (by decide)), show s2.1 36 = st.1 36 from funext (row _ rfl (by decide) (by decide)), show s2.1 37 = st.1 37 from funext (row _ rfl (by decide) (by decide))]
    exact h
  · rw [hs 0 13 rfl (by decide) (by decide), hs 0 14 rfl (by decide) (by decide)]; exact h7
  · unfold KpX at h8 ⊢
    show (match A.2.2 with
      | none => s2.1 0 12 = 0
      | some t => s2.1 0 12 = 1 ∧ TbX s2 6 7 8 9 10 t)
    rw [hs 0 12 rfl (by decide) (by decide)]
    cases hq : A.2.2 with
    | none => rw [hq] at h8; exact h8
    | some t =>
      rw [hq] at h8
      exact ⟨h8.1, h8.2.same (row _ rfl (by decide) (by decide)) (row _ rfl (by decide) (by decide)) (row _ rfl (by decide) (by decide)) (row _ rfl (by decide) (by decide)) (row _ rfl (by decide) (by decide))⟩
theorem InvM.setT {A : Ab} {st s2 : Mm} {t2 : Tt} (h : InvM A st) (hT : TbR s2 0 3 2 1 59 61 60 62 t2) (hs : ∀ c j, c = 65 ∨ 87 ≤ c ∨ (c = 58 ∧ (j = 19 ∨ 56 ≤ j)) → s2.1 c j = st.1 c j) : InvM (t2, A.2.1, A.2.2) s2 := by
  obtain ⟨h1, h2, h3⟩ := h
  refine ⟨hT, ?_, ?_⟩
  · unfold TpM
    rw [hs 58 19 (by decide), show s2.1 65 = st.1 65 from funext (fun j => hs _ j (Or.inl rfl))]
    exact h2
  · unfold KpM at h3 ⊢
    show (match A.2.2 with
      | none => s2.1 58 56 = 0
      | some t => s2.1 58 56 = 1 ∧ TbR s2 57 60 59 58 87 89 88 90 t)
    rw [hs 58 56 (by decide)]
    cases hk : A.2.2 with
    | none => rw [hk] at h3; exact h3
    | some t =>
      rw [hk] at h3
      exact ⟨h3.1, h3.2.same (hs _ _ (by decide)) (hs _ _ (by decide)) (hs _ _ (by decide)) (hs _ _ (by decide)) (fun j => hs _ _ (Or.inr (Or.inl (by decide)))) (fun j => hs _ _ (Or.inr (Or.inl (by decide)))) (fun j => hs _ _ (Or.inr (Or.inl (by decide)))) (fun j => hs _ _ (Or.inr (Or.inl (by decide))))⟩
theorem InvM.setP {A : Ab} {st s2 : Mm} {tp : List Nat} (h : InvM A st) (hT : TpM s2 tp) (hs : ∀ c j, mx c j = true → c ≠ 65 → (c = 58 → j ≠ 19) → s2.1 c j = st.1 c j) : InvM (A.1, tp, A.2.2) s2 := by
  obtain ⟨h1, h2, h3⟩ := h
  have row : ∀ c, mr c = true → c ≠ 65 → c ≠ 58 → ∀ j, s2.1 c j = st.1 c j := fun c hc h1 h2 j => hs c j (by unfold mx; rw [hc]; rfl) h1 (fun e => absurd e h2)
  have fld : ∀ j, mx 58 j = true → j ≠ 19 → s2.1 58 j = st.1 58 j := fun j h1 h2 => hs 58 j h1 (by decide) (fun _ => h2)
  refine ⟨h1.same (fld _ rfl (by decide)) (fld _ rfl (by decide)) (fld _ rfl (by decide)) (fld _ rfl (by decide)) (row _ rfl (by decide) (by decide)) (row _ rfl (by decide) (by decide)) (row _ rfl (by decide) (by decide)) (row _ rfl (by decide) (by decide)), hT, ?_⟩
  unfold KpM at h3 ⊢
  show (match A.2.2 with
    | none => s2.1 58 56 = 0
    | some t => s2.1 58 56 = 1 ∧ TbR s2 57 60 59 58 87 89 88 90 t)
  rw [fld 56 rfl (by decide)]
  cases hk : A.2.2 with
  | none => rw [hk] at h3; exact h3
  | some t =>
    rw [hk] at h3
    exact ⟨h3.1, h3.2.same (fld _ rfl (by decide)) (fld _ rfl (by decide)) (fld _ rfl (by decide)) (fld _ rfl (by decide)) (row _ rfl (by decide) (by decide)) (row _ rfl (by decide) (by decide)) (row _ rfl (by decide) (by decide)) (row _ rfl (by decide) (by decide))⟩
/-! the reference's folding and paper out of its invariant -/
theorem lt256 {l : List Nat} (h : ∀ f ∈ l, f = 104 ∨ f = 118 ∨ f = 100) : ∀ f ∈ l, f < 256 := fun f hf => by have := h f hf; omega
theorem mI_lays {A : Ab} (hA : VA A) {st : Mm} (hI : InvM A st) {v : Wd} (hv : fds A.1.2.2.2.1 (A.1.1, A.1.1, 0) = some v) {P : Unit × Mm → Prop} (h : ∀ s2, Fr LR st s2 → mRec s2 A.1.1 A.1.2.2.2.1 v → P ((), s2)) : Ok (f_m_laysRecipe st) P :=
  m_laysRecipe_ok hI.1.1 (by have := hA.1.2.1; omega) (by have := hA.1.2.2.2.2.2.1; omega) (lt256 hA.1.2.2.2.2.2.2.1) hI.1.2.2.2.1 hI.1.2.2.2.2.1 hv (fun s2 hF hw hb hm => h s2 hF ⟨by rw [hF 58 0 rfl]; exact hI.1.1, hA.1.2.1, by have := hA.1.2.2.2.2.2.1; omega, lt256 hA.1.2.2.2.2.2.2.1, hv, hm, hb, hw⟩)
theorem mI_opens {A : Ab} (hA : VA A) {st : Mm} (hI : InvM A st) {v : Wd} (hv : fds A.1.2.2.2.1 (A.1.1, A.1.1, 0) = some v) {s : Int32} {P : Unit × Mm → Prop} (h : ∀ s2, Fr LO st s2 → mRec s2 A.1.1 A.1.2.2.2.1 v → (∀ k, k < 256 → s2.1 72 k = bI (pap A.1.1 A.1.2.2.2.2.1 (slb s) A.1.2.2.2.1 k)) → P ((), s2)) : Ok (f_m_opens0 s st) P :=
  m_opens0_ok hI.1.1 hA.1.2.1 (by have := hA.1.2.2.2.2.2.1; omega) (lt256 hA.1.2.2.2.2.2.2.1) hI.1.2.2.2.1 hI.1.2.2.2.2.1 hv hI.1.2.2.2.2.2.1 (fun s2 hF hr hp => h s2 hF hr hp)
theorem VA.v {A : Ab} (hA : VA A) : ∃ v, fds A.1.2.2.2.1 (A.1.1, A.1.1, 0) = some v ∧ v.1 ≤ 16 ∧ v.2.1 ≤ 16 ∧ v.2.2 ≤ 1 ∧ (v.2.2 = 0 ∨ v.1 = v.2.1) := by
  obtain ⟨v, hv⟩ := hA.1.2.2.2.2.2.2.2.1
  have a := fds_le _ _ _ hv
  have b := fds_wh _ _ _ hv (Or.inl rfl)
  have c := hA.1.2.1
  simp only at a
  exact ⟨v, hv, by omega, by omega, by omega, b⟩
theorem InvX.fo {A : Ab} {st : Mm} (h : InvX A st) {v : Wd} (hv : fds A.1.2.2.2.1 (A.1.1, A.1.1, 0) = some v) : FoS st 24 25 26 A.1.1 A.1.2.2.2.1 (slb 0) v := by
  obtain ⟨_, _, ⟨u, h3⟩, _⟩ := h
  have := h3.2.2.2.2.2.1
  rw [hv] at this
  cases this
  exact h3
theorem mRec.w {st : Mm} {n : Nat} {l : List Nat} {v : Wd} (h : mRec st n l v) : mW st v := h.2.2.2.2.2.2.2
theorem bI_if {α : Type} {b : Bool} {x y : α} : (if bI b = 0 then x else y) = if b then y else x := by cases b <;> rfl
/-! opened, snipped -/
theorem st_opened (a0 a1 : Int32) : Step1 Inv (f_x_opened a0 a1) (f_m_opened a0 a1) := step_q (fun A hA => by
  have hn := hA.1.2.1
  obtain ⟨v, hv, _⟩ := hA.v
  rcases cell_cases A.1.1 a0 a1 with hc | ⟨a, b, ha, hb, rfl, rfl, hc⟩
  · refine ⟨-1, xok_fr [] rfl (fun st hI => ?_), mok_fr [] rfl (fun st hI => ?_)⟩
    · unfold f_x_opened
      refine ok_bind (ok_eq (x_isCell_gen hI.1.1 hn _ _) ?_)
      rw [hc]
      exact ok_t rfl (ok_some ⟨rfl, Fr.rf⟩)
    · unfold f_m_opened
      refine ok_bind (ok_eq (m_isCell_gen hI.1.1 hn _ _) ?_)
      rw [hc]
      exact ok_t rfl (ok_some ⟨rfl, Fr.rf⟩)
  · refine ⟨bI (papT A.1 (16 * b + a)), xok_fr [] rfl (fun st hI => ?_), mok_fr LO rfl (fun st hI => ?_)⟩
    · unfold f_x_opened
      refine ok_bind (ok_eq (x_isCell_gen hI.1.1 hn _ _) ?_)
      rw [hc]
      refine ok_f (show ¬ bI true = 0 by decide) ?_
      unfold f_x_cellAt
      refine ok_bind (ok_some ?_)
      simp only [cellI]
      refine ok_bind (ok_eq (x_hasBit_eq hI.2.2.2.2.1 (by omega)) ?_)
      refine okc_b (papT A.1 (16 * b + a)) (fun e => ok_some ⟨by rw [e]; rfl, Fr.rf⟩) (fun e => ok_some ⟨by rw [e]; rfl, Fr.rf⟩)
    · unfold f_m_opened
      refine ok_bind (ok_eq (m_isCell_gen hI.1.1 hn _ _) ?_)
      rw [hc]
      refine ok_f (show ¬ bI true = 0 by decide) ?_
      refine ok_bind (mI_opens hA hI hv (fun s2 hF hr hp => ?_))
      simp only [cellI]
      refine ok_t (inb_nI (by omega) (by omega)) ?_
      rw [cl_nI (by omega), hp _ (by omega)]
      refine okc_b (papT A.1 (16 * b + a)) (fun e => ok_some ⟨by rw [e]; rfl, hF⟩) (fun e => ok_some ⟨by rw [e]; rfl, hF⟩))
theorem st_snipped (a0 a1 : Int32) : Step1 Inv (f_x_snipped a0 a1) (f_m_snipped a0 a1) := step_q (fun A hA => by
  obtain ⟨v, hv, v1, v2, v3, _⟩ := hA.v
  rcases place_cases v a0 a1 with hc | ⟨a, b, ha, hb, rfl, rfl, hc, hp⟩
  · refine ⟨-1, xok_fr [] rfl (fun st hI => ?_), mok_fr LR rfl (fun st hI => ?_)⟩
    · unfold f_x_snipped
      refine ok_bind (ok_eq (x_holds_eq (hI.fo hv) _ _) ?_)
      rw [hc]
      exact ok_t rfl (ok_some ⟨rfl, Fr.rf⟩)
    · unfold f_m_snipped
      refine ok_bind (mI_lays hA hI hv (fun s2 hF hr => ?_))
      refine ok_bind (ok_eq (m_isPlace_gen hr.w v1 v2 v3 _ _) ?_)
      rw [hc]
      exact ok_t rfl (ok_some ⟨rfl, hF⟩)
  · refine ⟨bI (A.1.2.2.2.2.1 (16 * b + a)), xok_fr [] rfl (fun st hI => ?_), mok_fr LR rfl (fun st hI => ?_)⟩
    · unfold f_x_snipped
      refine ok_bind (ok_eq (x_holds_eq (hI.fo hv) _ _) ?_)
      rw [hc]
      refine ok_f (show ¬ bI true = 0 by decide) ?_
      unfold f_x_cellAt
      refine ok_bind (ok_some ?_)
      simp only [cellI]
      refine ok_bind (ok_eq (x_hasBit_eq hI.1.2.2.2.2.2.1 (by omega)) ?_)
      refine okc_b (A.1.2.2.2.2.1 (16 * b + a)) (fun e => ok_some ⟨by rw [e]; rfl, Fr.rf⟩) (fun e => ok_some ⟨by rw [e]; rfl, Fr.rf⟩)
    · unfold f_m_snipped
      refine ok_bind (mI_lays hA hI hv (fun s2 hF hr => ?_))
      refine ok_bind (ok_eq (m_isPlace_gen hr.w v1 v2 v3 _ _) ?_)
      rw [hc]
      refine ok_f (show ¬ bI true = 0 by decide) ?_
      simp only [cellI]
      refine ok_t (inb_nI (by omega) (by omega)) ?_
      rw [cl_nI (by omega), hF 61 _ (by simp [inL, LR]), hI.1.2.2.2.2.2.1 _ (by omega)]
      refine okc_b (A.1.2.2.2.2.1 (16 * b + a)) (fun e => ok_some ⟨by rw [e]; rfl, hF⟩) (fun e => ok_some ⟨by rw [e]; rfl, hF⟩))
/-! seed -/
theorem m_in_eq (x : Int32) (a b : Nat) (ha : a < 2 ^ 31) (hb : b < 2 ^ 31) (st : Mm) : f_m_in x (nI a) (nI b) st = some (bI (decide ((a : Int) ≤ x.toInt ∧ x.toInt ≤ b)), st) := by
  unfold f_m_in
  simp only [i_lt, nI_T ha, nI_T hb]
  repeat' split
  all_goals first | (rw [decide_eq_false (by omega)]; rfl) | (rw [decide_eq_true (by omega)]; rfl)
theorem in_cases (x : Int32) (a b : Nat) : decide ((a : Int) ≤ x.toInt ∧ x.toInt ≤ b) = false ∨ ∃ k, a ≤ k ∧ k ≤ b ∧ k < 2147483648 ∧ x = nI k ∧ decide ((a : Int) ≤ x.toInt ∧ x.toInt ≤ b) = true := by
  by_cases h : (a : Int) ≤ x.toInt ∧ x.toInt ≤ b
  · obtain ⟨k, hk, e⟩ := i_nat (x := x) (by omega)
    have e3 : x.toInt = (k : Int) := by rw [e, nI_T hk]
    exact Or.inr ⟨k, by omega, by omega, hk, e, decide_eq_true h⟩
  · exact Or.inl (decide_eq_false h)
theorem st_seed (a0 : Int32) : Step1 Inv (f_x_seed a0) (f_m_seed a0) := step_of (fun A hA => by
  rcases in_cases a0 0 65535 with hc | ⟨k, _, hk, _, rfl, hc⟩
  · refine ⟨A, 0, hA, xok_fr [] rfl (fun st hI => ?_), mok_fr [] rfl (fun st hI => ?_)⟩
    · have h2 := of_decide_eq_false hc
      unfold f_x_seed
      refine ok_if (fun _ => ok_some ⟨rfl, Fr.rf⟩) (fun c1 => ok_if (fun c2 => ?_) (fun _ => ok_some ⟨rfl, Fr.rf⟩))
      rw [i_lt, i_z] at c1
      have c3 : a0 ≤ nI 65535 := c2
      rw [i_le, nI_T (by omega)] at c3
      omega
    · unfold f_m_seed
      refine ok_bind (ok_eq (m_in_eq a0 0 65535 (by omega) (by omega) st) ?_)
      rw [hc]
      exact ok_t rfl (ok_some ⟨rfl, Fr.rf⟩)
  · obtain ⟨⟨n, x, s, l, c, w, d⟩, tp, kp⟩ := A
    refine ⟨((n, k, s, l, c, w, d), tp, kp), 1, ?_, fun st hI => ?_, fun st hI => ?_⟩
    · obtain ⟨⟨q1, q2, q3, q4, q5⟩, q6⟩ := hA
      exact ⟨⟨q1, q2, q3, show k < 65536 by omega, q5⟩, q6⟩
    · unfold f_x_seed
      refine ok_f (nI_pos (by omega)) (ok_t (show nI k ≤ nI 65535 from nI_le (by omega) (by omega)) (ok_some ⟨rfl, ?_, ?_⟩))
      · refine hI.setT ?_ (fun c j _ h5 => by rw [sI_row _ _ _ _ (by omega)]) (by rw [sI_row _ _ _ _ (by decide)]) rfl rfl rfl (Or.inr ⟨rfl, by rw [sI_row _ _ _ _ (by decide)], by rw [sI_row _ _ _ _ (by decide)]⟩)
        obtain ⟨⟨g0, g1, g2, g3, g4, g5, g6, g7⟩, _⟩ := hI
        refine ⟨by rw [sI_col _ _ _ _ (by decide)]; exact g0, by rw [sI_self], by rw [sI_col _ _ _ _ (by decide)]; exact g2, by rw [sI_col _ _ _ _ (by decide)]; exact g3, ?_, ?_, ?_, ?_⟩
        all_goals (rw [sI_row _ _ _ _ (by decide)]; assumption)
      · intro c j hcj
        rw [sI_row _ _ _ _ (by omega)]
    · unfold f_m_seed
      refine ok_bind (ok_eq (m_in_eq _ 0 65535 (by omega) (by omega) st) ?_)
      rw [hc]
      refine ok_f (show ¬ bI true = 0 by decide) (ok_some ⟨rfl, ?_, ?_⟩)
      · refine hI.setT ?_ (fun c j hcj => by
          rw [sI_at, if_neg]
          rintro ⟨rfl, rfl⟩
          omega)
        obtain ⟨⟨g0, g1, g2, g3, g4, g5, g6, g7⟩, _⟩ := hI
        refine ⟨by rw [sI_col _ _ _ _ (by decide)]; exact g0, by rw [sI_self], by rw [sI_col _ _ _ _ (by decide)]; exact g2, by rw [sI_col _ _ _ _ (by decide)]; exact g3, ?_, ?_, ?_, ?_⟩
        all_goals (rw [sI_row _ _ _ _ (by decide)]; assumption)
      · intro c j hcj
        rw [sI_row _ _ _ _ (by omega)])
