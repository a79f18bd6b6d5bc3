/-! sheet, wantOpened -/
theorem Rw.cg2 {f : Nat → Int32} {c d : Nat → Bool} (h : Rw f c) (he : ∀ k, k < 256 → d k = c k) : Rw f d := fun y hy b hb => by
  rw [h y hy b hb]
  rcases Nat.lt_or_ge b 16 with h1 | h1
  · rw [he _ (by omega)]
  · rw [decide_eq_false (by omega), Bool.false_and, Bool.false_and]
theorem Rw.orb {f : Nat → Int32} {c : Nat → Bool} (h : Rw f c) {y x : Nat} (hy : y < 16) (hx : x < 16) : Rw (upd f y (f y ||| ((1 : Int32) <<< (nI x &&& 31)))) (fun k => if k = 16 * y + x then true else c k) := by
  intro z hz b hb
  rw [upd_at]
  by_cases e : z = y
  · subst e
    rw [if_pos rfl, b_or, h z hz b hb, bt_shl1 (by omega) hb]
    rcases Nat.lt_or_ge b 16 with h1 | h1
    · by_cases h2 : b = x
      · subst h2; simp [h1]
      · simp [h1, h2, show ¬ (16 * z + b = 16 * z + x) by omega]
    · simp [show ¬ b < 16 by omega, show ¬ b = x by omega]
  · rw [if_neg e, h z hz b hb]
    rcases Nat.lt_or_ge b 16 with h1 | h1
    · simp [h1, show ¬ (16 * z + b = 16 * y + x) by omega]
    · simp [show ¬ b < 16 by omega]
def fullW (n k : Nat) : Bool := decide (k / 16 < n) && decide (k % 16 < n)
theorem Rw.zero {f : Nat → Int32} (h : ∀ y, y < 16 → f y = 0) : Rw f (fun _ => false) := fun y hy b hb => by rw [h y hy, b_0]; simp
theorem fullI {n : Nat} (hn : n ≤ 16) : ((1 : Int32) <<< (nI n &&& 31)) - (1 : Int32) = nI (2 ^ n - 1) := by
  have := Nat.two_pow_pos n
  rw [shl1n (by omega)]; exact pk_sub (b := 1) (by omega)
theorem Rw.full {f : Nat → Int32} {n : Nat} (hn : n ≤ 16) (h : ∀ y, y < 16 → f y = if y < n then nI (2 ^ n - 1) else 0) : Rw f (fullW n) := fun y hy b hb => by
  have hp : 2 ^ n ≤ 2 ^ 16 := Nat.pow_le_pow_right (by decide) hn
  rw [h y hy]
  unfold fullW
  by_cases h1 : y < n
  · rw [if_pos h1, bt_nI (by omega), Nat.testBit_two_pow_sub_one]
    rcases Nat.lt_or_ge b 16 with h2 | h2
    · simp [h2, h1, show (16 * y + b) / 16 = y by omega, show (16 * y + b) % 16 = b by omega]
    · rw [decide_eq_false (by omega), decide_eq_false (show ¬ b < 16 by omega)]; rfl
  · rw [if_neg h1, b_0]
    rcases Nat.lt_or_ge b 16 with h2 | h2
    · simp [h1, show (16 * y + b) / 16 = y by omega]
    · simp [show ¬ b < 16 by omega]
theorem x_begin_ok {t0 t1 t2 t3 t4 : Nat} (hd : t0 ≠ t2 ∧ t0 ≠ t3 ∧ t0 ≠ t4 ∧ t2 ≠ t3 ∧ t2 ≠ t4 ∧ t3 ≠ t4) {st : Mm} {n x : Nat} (hn : n ≤ 16) (hx : st.1 t0 1 = nI x) {P : Unit × Mm → Prop}
    (h : ∀ s2, TbX s2 t0 t1 t2 t3 t4 (n, x, 0, [], fun _ => false, fullW n, fun _ => false) → (∀ c j, c ≠ t0 → c ≠ t2 → c ≠ t3 → c ≠ t4 → s2.1 c j = st.1 c j) → P ((), s2)) : Ok (f_Tab_begin t0 t1 t2 t3 t4 (nI n) st) P := by
  obtain ⟨d1, d2, d3, d4, d5, d6⟩ := hd
  unfold f_Tab_begin
  obtain ⟨sa, hsa⟩ : ∃ sa, sa = sI (sI (sI st t0 0 (nI n)) t0 2 (0 : Int32)) t0 3 (0 : Int32) := ⟨_, rfl⟩
  rw [← hsa]
  have fa : ∀ c, c ≠ t0 → sa.1 c = st.1 c := fun c hc => by rw [hsa, sI_row _ _ _ _ hc, sI_row _ _ _ _ hc, sI_row _ _ _ _ hc]
  have f0 : sa.1 t0 0 = nI n ∧ sa.1 t0 1 = nI x ∧ sa.1 t0 2 = 0 ∧ sa.1 t0 3 = 0 := by
    rw [hsa, ← hx]
    refine ⟨?_, ?_, ?_, ?_⟩ <;> simp [sI_at]
  refine ok_upF (fun m i a => f_Tab_begin_17 t0 t1 t2 t3 t4 m (nI n) i a) (fun i a => (∀ k, k < i → a.1 t2 k = 0) ∧ (∀ k, k < i → a.1 t4 k = 0) ∧ (∀ k, k < i → a.1 t3 k = if k < n then nI (2 ^ n - 1) else 0) ∧ (∀ c j, c ≠ t2 → c ≠ t3 → c ≠ t4 → a.1 c j = sa.1 c j)) P 16 (by omega) ⟨fun k hk => by omega, fun k hk => by omega, fun k hk => by omega, fun _ _ _ _ _ => rfl⟩ ?_ ?_
  · rintro m i a hi ⟨g1, g2, g3, g4⟩ ih
    show Ok (b_Tab_begin_17 t0 t1 t2 t3 t4 (f_Tab_begin_17 t0 t1 t2 t3 t4 m) (nI n) (nI i) a) P
    unfold b_Tab_begin_17
    have hb := inb_nI hi (show 16 < 2147483648 by omega)
    have fin : ∀ z : Int32, z = (if i < n then nI (2 ^ n - 1) else 0) → Ok (f_Tab_begin_17 t0 t1 t2 t3 t4 m (nI n) (nI (i + 1)) (sI (sI (sI a t2 i 0) t4 i 0) t3 i z)) P := by
      intro z hz
      refine ih _ ⟨fun k hk => ?_, fun k hk => ?_, fun k hk => ?_, fun c j h1 h2 h3 => by rw [sI_row _ _ _ _ h2, sI_row _ _ _ _ h3, sI_row _ _ _ _ h1]; exact g4 c j h1 h2 h3⟩
      · rw [sI_row _ _ _ _ d4, sI_row _ _ _ _ d5, sI_at]
        by_cases e : k = i
        · simp [e]
        · simp only [e, and_false, reduceIte]; exact g1 k (by omega)
      · rw [sI_row _ _ _ _ (Ne.symm d6), sI_at]
        by_cases e : k = i
        · simp [e]
        · simp only [e, and_false, reduceIte]; rw [sI_row _ _ _ _ (Ne.symm d5)]; exact g2 k (by omega)
      · rw [sI_at]
        by_cases e : k = i
        · subst e; simp only [and_self, reduceIte]; exact hz
        · simp only [e, and_false, reduceIte]; rw [sI_row _ _ _ _ d6, sI_row _ _ _ _ (Ne.symm d4)]; exact g3 k (by omega)
    refine ok_f (n16 hi) (ok_t hb (ok_t hb ?_))
    rw [cl_nI (by omega), nI_1]
    refine okc_le n i (fun h1 => ok_t hb (ok_lt ?_)) (fun h1 => ok_lt (ok_t hb (ok_lt ?_)))
    · exact fin 0 (by rw [if_neg (by omega)])
    · rw [fullI hn]
      exact fin _ (by rw [if_pos h1])
  · rintro m a ⟨g1, g2, g3, g4⟩
    show Ok (b_Tab_begin_17 t0 t1 t2 t3 t4 (f_Tab_begin_17 t0 t1 t2 t3 t4 m) (nI n) (nI 16) a) P
    unfold b_Tab_begin_17
    refine ok_t (by decide) (ok_some (h a ⟨?_, ?_, ?_, ?_, fun j hj => by simp at hj, Rw.zero g1, Rw.full hn g3, Rw.zero g2⟩ (fun c j h1 h2 h3 h4 => by rw [g4 c j h2 h3 h4, fa c h1])))
    · rw [g4 _ _ d1 d2 d3]; exact f0.1
    · rw [g4 _ _ d1 d2 d3]; exact f0.2.1
    · rw [g4 _ _ d1 d2 d3]; exact f0.2.2.1
    · rw [g4 _ _ d1 d2 d3]; exact f0.2.2.2
def LBg : List (Nat × Option Nat) := [(58, some 0), (58, some 1), (58, some 2), (60, none), (61, none), (62, none)]
theorem m_begins_ok {st : Mm} {n x : Nat} (hn : n ≤ 16) (hx : st.1 58 3 = nI x) {P : Unit × Mm → Prop}
    (h : ∀ s2, TbR s2 0 3 2 1 59 61 60 62 (n, x, 0, [], fun _ => false, fullW n, fun _ => false) → Fr LBg st s2 → P ((), s2)) : Ok (f_m_begins (nI n) st) P := by
  unfold f_m_begins
  obtain ⟨sa, hsa⟩ : ∃ sa, sa = sI (sI (sI st 58 0 (nI n)) 58 1 (0 : Int32)) 58 2 (0 : Int32) := ⟨_, rfl⟩
  rw [← hsa]
  have fa : Fr LBg st sa := by rw [hsa]; exact ((Fr.rf.sI rfl).sI rfl).sI rfl
  have f0 : sa.1 58 0 = nI n ∧ sa.1 58 3 = nI x ∧ sa.1 58 2 = 0 ∧ sa.1 58 1 = 0 := by
    rw [hsa, ← hx]
    refine ⟨?_, ?_, ?_, ?_⟩ <;> simp [sI_at]
  refine ok_upF (fun m i a => f_m_begins_17 m (nI n) i a) (fun i a => (∀ k, k < i → a.1 61 k = 0) ∧ (∀ k, k < i → a.1 62 k = 0) ∧ (∀ c j, c ≠ 61 → c ≠ 62 → a.1 c j = sa.1 c j) ∧ Fr LBg st a) P 256 (by omega) ⟨fun k hk => by omega, fun k hk => by omega, fun _ _ _ _ => rfl, fa⟩ ?_ ?_
  · rintro m i a hi ⟨g1, g2, g3, g4⟩ ih
    show Ok (b_m_begins_17 (f_m_begins_17 m) (nI n) (nI i) a) P
    unfold b_m_begins_17
    have hb := inb_nI hi (show 256 < 2147483648 by omega)
    refine ok_f (n256 hi) (ok_t hb (ok_t hb (ok_lt ?_)))
    rw [cl_nI (by omega), nI_1]
    refine ih _ ⟨fun k hk => ?_, fun k hk => ?_, fun c j h1 h2 => by rw [sI_row _ _ _ _ h2, sI_row _ _ _ _ h1]; exact g3 c j h1 h2, (g4.sI rfl).sI rfl⟩
    · rw [sI_row _ _ _ _ (by decide), sI_at]
      by_cases e : k = i
      · simp [e]
      · simp only [e, and_false, reduceIte]; exact g1 k (by omega)
    · rw [sI_at]
      by_cases e : k = i
      · simp [e]
      · simp only [e, and_false, reduceIte]; rw [sI_row _ _ _ _ (by decide)]; exact g2 k (by omega)
  · rintro m a ⟨g1, g2, g3, g4⟩
    show Ok (b_m_begins_17 (f_m_begins_17 m) (nI n) (nI 256) a) P
    unfold b_m_begins_17 b_m_begins_44
    refine ok_t (by decide) ?_
    refine ok_upF (fun m i a => f_m_begins_46 m (nI n) i a) (fun i b => (∀ k, k < i → b.1 60 k = if k < n then nI (2 ^ n - 1) else 0) ∧ (∀ c j, c ≠ 60 → b.1 c j = a.1 c j) ∧ Fr LBg st b) P 16 (by omega) ⟨fun k hk => by omega, fun _ _ _ => rfl, g4⟩ ?_ ?_
    · rintro m i b hi ⟨e1, e2, e3⟩ ih
      show Ok (b_m_begins_46 (f_m_begins_46 m) (nI n) (nI i) b) P
      unfold b_m_begins_46
      have hb := inb_nI hi (show 16 < 2147483648 by omega)
      have fin : ∀ z : Int32, z = (if i < n then nI (2 ^ n - 1) else 0) → Ok (f_m_begins_46 m (nI n) (nI (i + 1)) (sI b 60 i z)) P := by
        intro z hz
        refine ih _ ⟨fun k hk => ?_, fun c j h1 => by rw [sI_row _ _ _ _ h1]; exact e2 c j h1, e3.sI rfl⟩
        rw [sI_at]
        by_cases e : k = i
        · subst e; simp only [and_self, reduceIte]; exact hz
        · simp only [e, and_false, reduceIte]; exact e1 k (by omega)
      refine ok_f (n16 hi) ?_
      rw [cl_nI (by omega), nI_1]
      refine okc_le n i (fun h1 => ok_t hb (ok_lt ?_)) (fun h1 => ok_lt (ok_t hb (ok_lt ?_)))
      · exact fin 0 (by rw [if_neg (by omega)])
      · rw [fullI hn]
        exact fin _ (by rw [if_pos h1])
    · rintro m b ⟨e1, e2, e3⟩
      show Ok (b_m_begins_46 (f_m_begins_46 m) (nI n) (nI 16) b) P
      unfold b_m_begins_46
      have e0 : ∀ j, b.1 58 j = sa.1 58 j := fun j => by rw [e2 _ _ (by decide), g3 _ _ (by decide) (by decide)]
      refine ok_t (by decide) (ok_some (h b ⟨by rw [e0]; exact f0.1, by rw [e0]; exact f0.2.1, by rw [e0]; exact f0.2.2.1, by rw [e0]; exact f0.2.2.2, fun j hj => by simp at hj, fun k hk => by rw [e2 _ _ (by decide)]; exact g1 k hk, Rw.full hn e1, fun k hk => by rw [e2 _ _ (by decide)]; exact g2 k hk⟩ e3))
theorem fullW_C {n k : Nat} (hn : n ≤ 16) (h : fullW n k = true) : isC n k := by
  unfold fullW at h
  simp only [Bool.and_eq_true, decide_eq_true_eq] at h
  exact ⟨by omega, h.2, h.1⟩
theorem st_sheet (a0 : Int32) : Step1 Inv (f_x_sheet a0) (f_m_sheet a0) := step_of (fun A hA => by
  have er : ∀ k, k < 65536 → nI k - nI k / (2 : Int32) * (2 : Int32) = nI (k % 2) := fun k hk => pk_rem (d := 2) (by omega) (by omega) (by omega)
  rcases in_cases a0 2 16 with hc | ⟨k, hk1, hk, _, rfl, hc⟩
  · refine ⟨A, 0, hA, xok_fr [] rfl (fun st hI => ?_), mok_fr [] rfl (fun st hI => ?_)⟩
    · have h2 := of_decide_eq_false hc
      unfold f_x_sheet
      refine ok_if (fun _ => ok_some ⟨rfl, Fr.rf⟩) (fun c1 => ok_if (fun _ => ok_some ⟨rfl, Fr.rf⟩) (fun c2 => ?_))
      rw [i_lt, show (2 : Int32).toInt = 2 from rfl] at c1
      rw [i_lt, show (16 : Int32).toInt = 16 from rfl] at c2
      omega
    · unfold f_m_sheet
      refine ok_bind (ok_eq (m_in_eq a0 2 16 (by omega) (by omega) st) ?_)
      rw [hc]
      exact ok_t rfl (ok_some ⟨rfl, Fr.rf⟩)
  · rcases Nat.mod_two_eq_zero_or_one k with h2 | h2
    · obtain ⟨⟨n, x, s, l, c, w, d⟩, tp, kp⟩ := A
      have hx : x < 65536 := hA.1.2.2.2.1
      have hV : VT (k, x, 0, [], fun _ => false, fullW k, fun _ => false) := ⟨hk1, hk, h2, hx, by simp, by simp, by simp, ⟨(k, k, 0), rfl⟩, fun j hj => fullW_C hk hj, fun j hj => by simp at hj⟩
      refine ⟨((k, x, 0, [], fun _ => false, fullW k, fun _ => false), tp, kp), 1, ⟨hV, hA.2⟩, fun st hI => ?_, fun st hI => ?_⟩
      · unfold f_x_sheet
        rw [an1 (by omega), h2]
        refine ok_f (show ¬ nI k < nI 2 by rw [nI_ltI (by omega) (by omega)]; omega) (ok_f (show ¬ nI 16 < nI k by rw [nI_ltI (by omega) (by omega)]; omega) (ok_t rfl ?_))
        refine ok_bind (x_begin_ok (by decide) hk hI.1.2.1 (fun s2 hT hs => ?_))
        have e : ∀ c j, 5 < c ∨ c = 0 → s2.1 c j = st.1 c j := fun c j hc => hs c j (by omega) (by omega) (by omega) (by omega)
        refine ok_bind (x_reopen_inv hV hT (hI.2.1.same (fun c j hc => e c j (by omega))) (TbX.kp hI.2.2.2.2.2.2.2 (e _ _ (by decide)) (fun c j h1 h2 => e c j (by omega))) (fun s3 hI3 hF3 => ok_some ⟨rfl, hI3, fun c j hc => ?_⟩))
        rw [hF3 c j hc]
        exact e c j (by omega)
      · unfold f_m_sheet
        refine ok_bind (ok_eq (m_in_eq _ 2 16 (by omega) (by omega) st) ?_)
        rw [hc, er k (by omega), h2]
        refine ok_f (show ¬ bI true = 0 by decide) (ok_f (by decide) ?_)
        refine ok_bind (m_begins_ok hk hI.1.2.1 (fun s2 hT hF => ok_some ⟨rfl, ?_, hF.hi rfl⟩))
        refine hI.setT hT (fun c j hcj => hF c j ?_)
        cases hL : inL LBg c j with
        | false => rfl
        | true =>
          obtain ⟨e, he, h3, h4⟩ := inL_ex hL
          simp only [LBg, List.mem_cons, List.not_mem_nil, or_false] at he
          rcases he with rfl | rfl | rfl | rfl | rfl | rfl
          all_goals simp only at h3 h4
          all_goals first | omega | exact h4.elim (fun h => by cases h) (fun h => by have := Option.some.inj h; omega)
    · refine ⟨A, 0, hA, xok_fr [] rfl (fun st hI => ?_), mok_fr [] rfl (fun st hI => ?_)⟩
      · unfold f_x_sheet
        rw [an1 (by omega), h2]
        exact ok_if (fun _ => ok_some ⟨rfl, Fr.rf⟩) (fun c1 => ok_if (fun _ => ok_some ⟨rfl, Fr.rf⟩) (fun c2 => ok_f (by decide) (ok_some ⟨rfl, Fr.rf⟩)))
      · unfold f_m_sheet
        refine ok_bind (ok_eq (m_in_eq _ 2 16 (by omega) (by omega) st) ?_)
        rw [hc, er k (by omega), h2]
        exact ok_f (show ¬ bI true = 0 by decide) (ok_t rfl (ok_some ⟨rfl, Fr.rf⟩)))
theorem pap_C {n : Nat} {c : Nat → Bool} {sl : Nat → Nat} {l : List Nat} {k : Nat} (hn : n ≤ 16) (h : pap n c sl l k = true) : isC n k := by
  unfold pap at h
  simp only [Bool.and_eq_true, decide_eq_true_eq] at h
  exact ⟨by omega, h.1.1, h.1.2⟩
theorem papT_in {t : Tt} (h : VT t) : pIn t.1 (papT t) := ⟨h.2.1, fun k hk => pap_C h.2.1 hk⟩
def LWo : List (Nat × Option Nat) := [(60, none)]
theorem st_wantOpened : Step1 Inv f_x_wantOpened f_m_wantOpened := step_of (fun A hA => by
  obtain ⟨v, hv, _⟩ := hA.v
  have hn := hA.1.2.1
  have hpin := papT_in hA.1
  have hwC := hA.1.2.2.2.2.2.2.2.2.1
  obtain ⟨⟨n, x, s, l, c, w, d⟩, tp, kp⟩ := A
  simp only at hn hwC hpin hv
  obtain ⟨p, hp⟩ : ∃ p, p = papT (n, x, s, l, c, w, d) := ⟨_, rfl⟩
  rw [← hp] at hpin
  have hp2 : papT (n, x, s, l, c, p, d) = p := by rw [hp]; rfl
  have hV2 : VA ((n, x, s, l, c, p, d), tp, kp) := by
    obtain ⟨⟨q1, q2, q3, q4, q5, q6, q7, q8, q9, q10⟩, q11⟩ := hA
    exact ⟨⟨q1, q2, q3, q4, q5, q6, q7, q8, fun k hk => hpin.2 k hk, q10⟩, q11⟩
  refine ⟨((n, x, s, l, c, p, d), tp, kp), nI (fb_ct p 256), hV2, fun st hI => ?_, fun st hI => ?_⟩
  · unfold f_x_wantOpened
    have e31 : (sR st 4 (va_cpy (st.1 31) (st.1 4) (0 : Int32).toNatClampNeg (0 : Int32).toNatClampNeg (16 : Int32).toNatClampNeg)).1 31 = st.1 31 := sR_row _ _ _ (by decide)
    refine ok_bind (ok_eq (x_bitsOf_eq (c := p) (by rw [e31, hp]; exact hI.2.2.2.2.1)) (ok_some ⟨rfl, ?_, fun c j hc => by rw [sR_row _ _ _ (by omega)]⟩))
    refine hI.setT ?_ (fun c j _ h5 => by rw [sR_row _ _ _ (by omega)]) (by rw [sR_row _ _ _ (by decide)]) rfl rfl rfl (Or.inr ⟨rfl, by rw [sR_row _ _ _ (by decide)], by rw [sR_row _ _ _ (by decide)]⟩)
    obtain ⟨⟨g0, g1, g2, g3, g4, g5, g6, g7⟩, h2, h3, h4, h5, _⟩ := hI
    refine ⟨?_, ?_, ?_, ?_, ?_, ?_, ?_, ?_⟩
    all_goals first | (rw [sR_row _ _ _ (by decide)]; assumption) | skip
    rw [sR_own]
    intro y hy b hb
    show bt (va_cpy (st.1 31) (st.1 4) 0 0 16 y) b = _
    rw [pk_cpy_in (by omega) (by omega), show 0 + (y - 0) = y by omega]
    have := h5 y hy b hb
    rw [← hp] at this
    exact this
  · unfold f_m_wantOpened
    refine ok_bind (mI_opens hA hI hv (fun s1 hF1 hr1 hp1 => ?_))
    have hr0 : s1.1 58 0 = nI n := hr1.1
    have hpp : ∀ k, k < 256 → s1.1 72 k = bI (p k) := fun k hk => by rw [hp1 k hk, hp]; rfl
    have hw1 : Rw (s1.1 60) w := by rw [show s1.1 60 = st.1 60 from funext (fun j => hF1 _ j (by simp [inL, LO]))]; exact hI.1.2.2.2.2.2.2.1
    refine ok_upF (fun m y a => f_m_wantOpened_7 m y a) (fun y a => Fr LWo s1 a ∧ Rw (a.1 60) (fun k => if k / 16 < y then p k else w k)) _ n (by omega) ⟨Fr.rf, hw1.cg2 (fun k _ => by simp)⟩ ?_ ?_
    · rintro m y a hy ⟨hF, hR⟩ ih
      show Ok (b_m_wantOpened_7 (f_m_wantOpened_7 m) (nI y) a) _
      unfold b_m_wantOpened_7
      rw [hF 58 0 rfl, hr0]
      refine ok_f (nI_ge hy (by omega)) (ok_t (inb_nI (show y < 16 by omega) (by omega)) ?_)
      rw [cl_nI (by omega)]
      refine ok_upF (fun m2 x b => f_m_wantOpened_24 (f_m_wantOpened_7 m) m2 (nI y) x b) (fun x b => Fr LWo s1 b ∧ Rw (b.1 60) (fun k => if k / 16 < y then p k else if k / 16 = y then (decide (k % 16 < x) && p k) else w k)) _ n (by omega) ⟨hF.sI rfl, ?_⟩ ?_ ?_
      · rw [sI_own, show (0 : Int32) = nI 0 from rfl]
        refine (hR.put (by omega) (by decide)).cg2 (fun k _ => ?_)
        by_cases e : k / 16 = y
        · simp [e]
        · simp [e]
      · rintro m2 x b hx ⟨hF2, hR2⟩ ih2
        show Ok (b_m_wantOpened_24 (f_m_wantOpened_7 m) (f_m_wantOpened_24 (f_m_wantOpened_7 m) m2) (nI y) (nI x) b) _
        unfold b_m_wantOpened_24
        rw [hF2 58 0 rfl, hr0, cellI]
        refine ok_f (nI_ge hx (by omega)) (ok_t (inb_nI (show 16 * y + x < 256 by omega) (by omega)) ?_)
        rw [cl_nI (by omega), hF2 72 _ (by simp [inL, LWo]), hpp _ (by omega), nI_1]
        refine okc_b (p (16 * y + x)) (fun e => ok_lt (ih2 b ⟨hF2, hR2.cg2 (fun k _ => ?_)⟩)) (fun e => ok_t (inb_nI (show y < 16 by omega) (by omega)) (ok_lt (ok_t (inb_nI (show y < 16 by omega) (by omega)) (ok_lt ?_))))
        · by_cases h1 : k / 16 = y
          · by_cases h2 : k % 16 = x
            · have : k = 16 * y + x := by omega
              subst this; simp [h1, e]
            · simp [h1, show (k % 16 < x + 1) = (k % 16 < x) from propext ⟨fun h => by omega, fun h => by omega⟩]
          · simp [h1]
        · rw [cl_nI (by omega)]
          refine ih2 _ ⟨hF2.sI rfl, ?_⟩
          rw [sI_own]
          refine (hR2.orb (y := y) (x := x) (by omega) (by omega)).cg2 (fun k _ => ?_)
          by_cases h1 : k / 16 = y
          · by_cases h2 : k % 16 = x
            · have : k = 16 * y + x := by omega
              subst this; simp [h1, e]; omega
            · have h3 : ¬ k = 16 * y + x := by omega
              simp [h1, h3, show (k % 16 < x + 1) = (k % 16 < x) from propext ⟨fun h => by omega, fun h => by omega⟩]
          · have h3 : ¬ k = 16 * y + x := by omega
            simp [h1, h3]
      · rintro m2 b ⟨hF2, hR2⟩
        show Ok (b_m_wantOpened_24 (f_m_wantOpened_7 m) (f_m_wantOpened_24 (f_m_wantOpened_7 m) m2) (nI y) (nI n) b) _
        unfold b_m_wantOpened_24 b_m_wantOpened_68
        rw [hF2 58 0 rfl, hr0]
        refine ok_t (Int32.le_refl _) (ok_lt ?_)
        rw [nI_1]
        refine ih b ⟨hF2, hR2.cg2 (fun k hk => ?_)⟩
        rcases Nat.lt_trichotomy (k / 16) y with h1 | h1 | h1
        · simp [h1, show k / 16 < y + 1 by omega]
        · have h2 : k / 16 < y + 1 := by omega
          simp only [h1, Nat.lt_irrefl, if_false, if_true, Nat.lt_succ_self]
          by_cases h3 : k % 16 < n
          · simp [h3]
          · simp only [h3, decide_false, Bool.false_and]
            cases hpk : p k with
            | false => rfl
            | true => exact absurd (hpin.2 k hpk).2.1 h3
        · simp [show ¬ k / 16 < y by omega, show ¬ k / 16 = y by omega, show ¬ k / 16 < y + 1 by omega]
    · rintro m a ⟨hF, hR⟩
      show Ok (b_m_wantOpened_7 (f_m_wantOpened_7 m) (nI n) a) _
      unfold b_m_wantOpened_7
      rw [hF 58 0 rfl, hr0]
      refine ok_t (Int32.le_refl _) ?_
      refine ok_bind (ok_eq (m_paperMany_eq (c := p) (fun k hk => by rw [hF 72 k (by simp [inL, LWo])]; exact hpp k hk)) (ok_some ⟨rfl, ?_, fun c j hc => by rw [hF.hi rfl c j hc, hF1.hi rfl c j hc]⟩))
      have hFx : ∀ c j, mx c j = true → c ≠ 60 → a.1 c j = st.1 c j := fun c j h1 h2 => by
        rw [hF c j (by simp [inL, LWo]; omega)]
        exact hF1.okM rfl c j h1
      have row : ∀ c, mr c = true → c ≠ 60 → ∀ j, a.1 c j = st.1 c j := fun c hc h2 j => hFx c j (by unfold mx; rw [hc]; rfl) h2
      obtain ⟨⟨g0, g1, g2, g3, g4, g5, g6, g7⟩, hP, hK⟩ := hI
      refine ⟨⟨by rw [hFx _ _ rfl (by decide)]; exact g0, by rw [hFx _ _ rfl (by decide)]; exact g1, by rw [hFx _ _ rfl (by decide)]; exact g2, by rw [hFx _ _ rfl (by decide)]; exact g3, fun j hj => by rw [row _ rfl (by decide)]; exact g4 j hj, fun k hk => by rw [row _ rfl (by decide)]; exact g5 k hk, hR.cg2 (fun k hk => ?_), fun k hk => by rw [row _ rfl (by decide)]; exact g7 k hk⟩, ⟨by rw [hFx _ _ rfl (by decide)]; exact hP.1, fun j hj => by rw [row _ rfl (by decide)]; exact hP.2 j hj⟩, ?_⟩
      · by_cases h1 : k / 16 < n
        · simp [h1]
        · simp only [h1, if_false]
          have e1 : w k = false := by
            cases hw : w k with
            | false => rfl
            | true => exact absurd (hwC k hw).2.2 h1
          have e2 : p k = false := by
            cases hw : p k with
            | false => rfl
            | true => exact absurd (hpin.2 k hw).2.2 h1
          rw [e1, e2]
      · unfold KpM at hK ⊢
        simp only at hK ⊢
        rw [hFx 58 56 rfl (by decide)]
        cases kp with
        | none => exact hK
        | some t => exact ⟨hK.1, hK.2.same (hFx _ _ rfl (by decide)) (hFx _ _ rfl (by decide)) (hFx _ _ rfl (by decide)) (hFx _ _ rfl (by decide)) (row _ rfl (by decide)) (row _ rfl (by decide)) (row _ rfl (by decide)) (row _ rfl (by decide))⟩)
