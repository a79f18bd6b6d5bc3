/-! want -/
theorem Rw.put {f : Nat → Int32} {w : Nat → Bool} (h : Rw f w) {y r : Nat} (hy : y < 16) (hr : r < 65536) : Rw (upd f y (nI r)) (fun k => if k / 16 = y then r.testBit (k % 16) else w k) := by
  intro z hz b hb
  rw [upd_at]
  by_cases e : z = y
  · subst e
    rw [if_pos rfl, bt_nI (by omega)]
    rcases Nat.lt_or_ge b 16 with h1 | h1
    · simp [h1, show (16 * z + b) / 16 = z by omega, show (16 * z + b) % 16 = b by omega]
    · rw [decide_eq_false (by omega), Bool.false_and]
      exact Nat.testBit_lt_two_pow (Nat.lt_of_lt_of_le hr (show 2 ^ 16 ≤ 2 ^ b from Nat.pow_le_pow_right (by decide) h1))
  · rw [if_neg e, h z hz b hb]
    rcases Nat.lt_or_ge b 16 with h1 | h1
    · simp [e, show (16 * z + b) / 16 = z by omega]
    · rw [decide_eq_false (by omega), Bool.false_and, Bool.false_and]
theorem st_want (a0 a1 : Int32) : Step1 Inv (f_x_want a0 a1) (f_m_want a0 a1) := step_of (fun A hA => by
  obtain ⟨hn1, hn, _⟩ := hA.1
  have hp : 2 ^ A.1.1 ≤ 2 ^ 16 := Nat.pow_le_pow_right (by decide) hn
  have hp1 : 0 < 2 ^ A.1.1 := Nat.two_pow_pos _
  have eN : ∀ st : Mm, st.1 58 0 = nI A.1.1 → (st.1 58 0) - (1 : Int32) = nI (A.1.1 - 1) := fun st h => by rw [h]; exact pk_sub (b := 1) (by omega)
  have eP : ∀ x : Int32, x = nI A.1.1 → ((1 : Int32) <<< (x &&& 31)) - (1 : Int32) = nI (2 ^ A.1.1 - 1) := fun x h => by rw [h, shl1n (by omega)]; exact pk_sub (b := 1) (by omega)
  have bad : (decide (((0 : Nat) : Int) ≤ a0.toInt ∧ a0.toInt ≤ ((A.1.1 - 1 : Nat) : Int)) = false ∨ decide (((0 : Nat) : Int) ≤ a1.toInt ∧ a1.toInt ≤ ((2 ^ A.1.1 - 1 : Nat) : Int)) = false) → XOk (f_x_want a0 a1) A A 0 := by
    intro hb
    refine xok_fr [] rfl (fun st hI => ?_)
    have g0 := hI.1.1
    unfold f_x_want
    rw [g0, shl1n (by omega)]
    refine ok_if (fun _ => ok_some ⟨rfl, Fr.rf⟩) (fun c1 => ok_if (fun _ => ok_some ⟨rfl, Fr.rf⟩) (fun c2 => ok_if (fun _ => ok_some ⟨rfl, Fr.rf⟩) (fun c3 => ok_if (fun c4 => ?_) (fun _ => ok_some ⟨rfl, Fr.rf⟩))))
    rw [i_lt, i_z] at c1 c3
    rw [i_le, nI_T (by omega)] at c2
    rw [i_lt, nI_T (by omega)] at c4
    rcases hb with hb | hb
    · have := of_decide_eq_false hb; omega
    · have := of_decide_eq_false hb; omega
  rcases in_cases a0 0 (A.1.1 - 1) with hc | ⟨y, _, hy, _, rfl, hc⟩
  · refine ⟨A, 0, hA, bad (Or.inl hc), mok_fr [] rfl (fun st hI => ?_)⟩
    unfold f_m_want
    rw [eN st hI.1.1]
    refine ok_bind (ok_eq (m_in_eq _ 0 (A.1.1 - 1) (by omega) (by omega) st) ?_)
    rw [hc]
    exact ok_t rfl (ok_some ⟨rfl, Fr.rf⟩)
  · rcases in_cases a1 0 (2 ^ A.1.1 - 1) with hc2 | ⟨r, _, hr, _, rfl, hc2⟩
    · refine ⟨A, 0, hA, bad (Or.inr hc2), mok_fr [] rfl (fun st hI => ?_)⟩
      unfold f_m_want
      rw [eN st hI.1.1]
      refine ok_bind (ok_eq (m_in_eq _ 0 (A.1.1 - 1) (by omega) (by omega) st) ?_)
      rw [hc]
      refine ok_f (show ¬ bI true = 0 by decide) ?_
      simp only [eP _ hI.1.1]
      refine ok_bind (ok_eq (m_in_eq _ 0 (2 ^ A.1.1 - 1) (by omega) (by omega) st) ?_)
      rw [hc2]
      exact ok_t rfl (ok_some ⟨rfl, Fr.rf⟩)
    · obtain ⟨⟨n, x, s, l, c, w, d⟩, tp, kp⟩ := A
      simp only at hy hr hn hn1 hp hp1 eN eP hc hc2
      refine ⟨((n, x, s, l, c, fun k => if k / 16 = y then r.testBit (k % 16) else w k, d), tp, kp), 1, ?_, fun st hI => ?_, fun st hI => ?_⟩
      · obtain ⟨⟨q1, q2, q3, q4, q5, q6, q7, q8, q9, q10⟩, q11⟩ := hA
        refine ⟨⟨q1, q2, q3, q4, q5, q6, q7, q8, fun k hk => ?_, q10⟩, q11⟩
        simp only at hk
        split at hk
        · rename_i h1
          refine ⟨by omega, ?_, by show k / 16 < n; omega⟩
          show k % 16 < n
          rcases Nat.lt_or_ge (k % 16) n with h2 | h2
          · exact h2
          · have := Nat.testBit_lt_two_pow (x := r) (i := k % 16) (Nat.lt_of_lt_of_le (show r < 2 ^ n by omega) (Nat.pow_le_pow_right (by decide) h2))
            rw [this] at hk; cases hk
        · exact q9 k hk
      · unfold f_x_want
        have g0 : st.1 1 0 = nI n := hI.1.1
        rw [g0, shl1n (by omega), cl_nI (by omega)]
        refine ok_f (nI_pos (by omega)) (ok_f (nI_ge (by omega) (by omega)) (ok_f (nI_pos (by omega)) (ok_t (nI_lt (by omega) (by omega)) (ok_t (inb_nI (by omega) (by omega)) (ok_some ⟨rfl, ?_, fun c j hcj => by rw [sI_row _ _ _ _ (by omega)]⟩)))))
        refine hI.setT ?_ (fun c j _ h5 => by rw [sI_row _ _ _ _ (by omega)]) (by rw [sI_row _ _ _ _ (by decide)]) rfl rfl rfl (Or.inr ⟨rfl, by rw [sI_row _ _ _ _ (by decide)], by rw [sI_row _ _ _ _ (by decide)]⟩)
        obtain ⟨⟨g0, g1, g2, g3, g4, g5, g6, g7⟩, _⟩ := hI
        refine ⟨?_, ?_, ?_, ?_, ?_, ?_, ?_, ?_⟩
        all_goals first | (rw [sI_own]; exact g6.put (by omega) (by omega)) | (rw [sI_row _ _ _ _ (by decide)]; assumption)
      · unfold f_m_want
        rw [eN st hI.1.1]
        refine ok_bind (ok_eq (m_in_eq _ 0 (n - 1) (by omega) (by omega) st) ?_)
        rw [hc]
        refine ok_f (show ¬ bI true = 0 by decide) ?_
        simp only [eP _ hI.1.1]
        refine ok_bind (ok_eq (m_in_eq _ 0 (2 ^ n - 1) (by omega) (by omega) st) ?_)
        rw [hc2]
        refine ok_f (show ¬ bI true = 0 by decide) (ok_t (inb_nI (by omega) (by omega)) (ok_some ⟨rfl, ?_, fun c j hcj => by rw [sI_row _ _ _ _ (by omega)]⟩))
        rw [cl_nI (by omega)]
        refine hI.setT ?_ (fun c j hcj => by rw [sI_row _ _ _ _ (by omega)])
        obtain ⟨⟨g0, g1, g2, g3, g4, g5, g6, g7⟩, _⟩ := hI
        refine ⟨?_, ?_, ?_, ?_, ?_, ?_, ?_, ?_⟩
        all_goals first | (rw [sI_own]; exact g6.put (by omega) (by omega)) | (rw [sI_row _ _ _ _ (by decide)]; assumption))
/-! deer -/
theorem Rw.flip {f : Nat → Int32} {d : Nat → Bool} (h : Rw f d) {a b : Nat} (ha : a < 16) (hb : b < 16) : Rw (upd f b (f b ^^^ ((1 : Int32) <<< (nI a &&& 31)))) (fun k => if k = 16 * b + a then !d k else d k) := by
  intro z hz i hi
  rw [upd_at]
  by_cases e : z = b
  · subst e
    rw [if_pos rfl, b_xor, h z hz i hi, bt_shl1 (by omega) hi]
    by_cases e2 : i = a
    · subst e2; simp [ha]
    · have : ¬ 16 * z + i = 16 * z + a := by omega
      simp [e2, this]
  · rw [if_neg e, h z hz i hi]
    rcases Nat.lt_or_ge i 16 with h1 | h1
    · simp [show ¬ 16 * z + i = 16 * b + a by omega]
    · rw [decide_eq_false (by omega), Bool.false_and, Bool.false_and]
theorem st_deer (a0 a1 a2 : Int32) (h2 : a2 = 0 ∨ a2 = 1) : Step1 Inv (f_x_deer a0 a1 a2) (f_m_deer a0 a1 a2) := step_of (fun A hA => by
  have hn := hA.1.2.1
  obtain ⟨z, rfl⟩ : ∃ z, a2 = bI z := by
    rcases h2 with h | h
    · exact ⟨false, h⟩
    · exact ⟨true, h⟩
  have bIi : ∀ {x y : Bool}, bI x = bI y → x = y := fun {x y} h => by cases x <;> cases y <;> first | rfl | exact absurd h (by decide)
  rcases cell_cases A.1.1 a0 a1 with hc | ⟨a, b, ha, hb, rfl, rfl, hc⟩
  · refine ⟨A, 0, hA, xok_fr [] rfl (fun st hI => ?_), mok_fr [] rfl (fun st hI => ?_)⟩
    · unfold f_x_deer
      refine ok_bind (ok_eq (x_isCell_gen hI.1.1 hn _ _) ?_)
      rw [hc]
      exact ok_t rfl (ok_some ⟨rfl, Fr.rf⟩)
    · unfold f_m_deer
      refine ok_bind (ok_eq (m_isCell_gen hI.1.1 hn _ _) ?_)
      rw [hc]
      exact ok_t rfl (ok_some ⟨rfl, Fr.rf⟩)
  · by_cases hd : A.1.2.2.2.2.2.2 (16 * b + a) = z
    · refine ⟨A, 0, hA, xok_fr [] rfl (fun st hI => ?_), mok_fr [] rfl (fun st hI => ?_)⟩
      · unfold f_x_deer
        refine ok_bind (ok_eq (x_isCell_gen hI.1.1 hn _ _) ?_)
        rw [hc]
        refine ok_f (show ¬ bI true = 0 by decide) ?_
        unfold f_x_cellAt
        refine ok_bind (ok_some ?_)
        simp only [cellI]
        refine ok_bind (ok_eq (x_hasBit_eq hI.1.2.2.2.2.2.2.2 (by omega)) ?_)
        rw [hd]
        exact ok_t rfl (ok_some ⟨rfl, Fr.rf⟩)
      · unfold f_m_deer
        refine ok_bind (ok_eq (m_isCell_gen hI.1.1 hn _ _) ?_)
        rw [hc]
        refine ok_f (show ¬ bI true = 0 by decide) ?_
        simp only [cellI]
        refine ok_t (inb_nI (by omega) (by omega)) ?_
        rw [cl_nI (by omega), hI.1.2.2.2.2.2.2.2 _ (by omega), hd]
        exact ok_t rfl (ok_some ⟨rfl, Fr.rf⟩)
    · obtain ⟨⟨n, x, s, l, c, w, d⟩, tp, kp⟩ := A
      simp only at ha hb hn hc hd
      have hz : z = !d (16 * b + a) := by
        cases h1 : z <;> cases h3 : d (16 * b + a) <;> first | rfl | (rw [h1, h3] at hd; exact absurd rfl hd)
      refine ⟨((n, x, s, l, c, w, fun k => if k = 16 * b + a then !d k else d k), tp, kp), 1, ?_, fun st hI => ?_, fun st hI => ?_⟩
      · obtain ⟨⟨q1, q2, q3, q4, q5, q6, q7, q8, q9, q10⟩, q11⟩ := hA
        refine ⟨⟨q1, q2, q3, q4, q5, q6, q7, q8, q9, fun k hk => ?_⟩, q11⟩
        simp only at hk
        split at hk
        · rename_i h1
          exact ⟨by omega, by show k % 16 < n; omega, by show k / 16 < n; omega⟩
        · exact q10 k hk
      · unfold f_x_deer
        refine ok_bind (ok_eq (x_isCell_gen hI.1.1 hn _ _) ?_)
        rw [hc]
        refine ok_f (show ¬ bI true = 0 by decide) ?_
        unfold f_x_cellAt
        refine ok_bind (ok_some ?_)
        simp only [cellI]
        refine ok_bind (ok_eq (x_hasBit_eq hI.1.2.2.2.2.2.2.2 (by omega)) ?_)
        refine ok_f (fun e => hd (bIi e)) (ok_t (inb_nI (by omega) (by omega)) (ok_lt (ok_t (inb_nI (by omega) (by omega)) (ok_some ⟨rfl, ?_, fun c j hcj => by rw [sI_row _ _ _ _ (by omega), sI_row _ _ _ _ (by omega)]⟩))))
        rw [cl_nI (by omega)]
        refine hI.setT ?_ (fun c j _ h5 => by rw [sI_row _ _ _ _ (by omega), sI_row _ _ _ _ (by omega)]) (by rw [sI_col _ _ _ _ (by decide), sI_row _ _ _ _ (by decide)]) rfl rfl rfl (Or.inl (sI_self _ _ _ _))
        obtain ⟨⟨g0, g1, g2, g3, g4, g5, g6, g7⟩, _⟩ := hI
        refine ⟨?_, ?_, ?_, ?_, ?_, ?_, ?_, ?_⟩
        all_goals first | (rw [sI_row _ _ _ _ (by decide), sI_own]; exact g7.flip (by omega) (by omega)) | (rw [sI_row _ _ _ _ (by decide), sI_row _ _ _ _ (by decide)]; assumption)
      · unfold f_m_deer
        refine ok_bind (ok_eq (m_isCell_gen hI.1.1 hn _ _) ?_)
        rw [hc]
        refine ok_f (show ¬ bI true = 0 by decide) ?_
        simp only [cellI]
        refine ok_t (inb_nI (by omega) (by omega)) ?_
        rw [cl_nI (by omega), hI.1.2.2.2.2.2.2.2 _ (by omega)]
        refine ok_f (fun e => hd (bIi e)) (ok_t (inb_nI (by omega) (by omega)) (ok_t h2 (ok_some ⟨rfl, ?_, fun c j hcj => by rw [sI_row _ _ _ _ (by omega)]⟩)))
        refine hI.setT ?_ (fun c j hcj => by rw [sI_row _ _ _ _ (by omega)])
        obtain ⟨⟨g0, g1, g2, g3, g4, g5, g6, g7⟩, _⟩ := hI
        refine ⟨?_, ?_, ?_, ?_, ?_, ?_, ?_, fun k hk => ?_⟩
        all_goals first | (rw [sI_row _ _ _ _ (by decide)]; assumption) | skip
        rw [sI_at]
        by_cases e : k = 16 * b + a
        · subst e; simp only [and_self, reduceIte]; rw [hz]
        · simp only [e, and_false, reduceIte]; exact g7 k hk)
/-! slips -/
theorem x_areSlips_eq {st : Mm} {m : Nat} (h : st.1 1 3 = nI m) (hm : m ≤ 8) (x : Int32) : f_x_areSlips x st = some (bI (decide (0 ≤ x.toInt ∧ x.toInt < (2 ^ m : Nat))), st) := by
  have hp : 2 ^ m ≤ 2 ^ 8 := Nat.pow_le_pow_right (by decide) hm
  unfold f_x_areSlips
  rw [h, shl1n (by omega)]
  simp only [i_lt, i_le, i_z, nI_T (show 2 ^ m < 2147483648 by omega)]
  repeat' split
  all_goals first | (rw [decide_eq_false (by omega)]; rfl) | (rw [decide_eq_true (by omega)]; rfl)
theorem m_areSlips_eq {st : Mm} {m : Nat} (h : st.1 58 1 = nI m) (hm : m ≤ 8) (x : Int32) : f_m_areSlips x st = some (bI (decide (0 ≤ x.toInt ∧ x.toInt < (2 ^ m : Nat))), st) := by
  have hp : 2 ^ m ≤ 2 ^ 8 := Nat.pow_le_pow_right (by decide) hm
  unfold f_m_areSlips
  rw [h, shl1n (by omega)]
  simp only [i_lt, i_le, i_z, nI_T (show 2 ^ m < 2147483648 by omega)]
  repeat' split
  all_goals first | (rw [decide_eq_false (by omega)]; rfl) | (rw [decide_eq_true (by omega)]; rfl)
def LXl : List (Nat × Option Nat) := [(27, none), (28, none), (29, none)]
theorem xI_lean {A : Ab} (hA : VA A) {st : Mm} (hI : InvX A st) {v : Wd} (hv : fds A.1.2.2.2.1 (A.1.1, A.1.1, 0) = some v) {s : Int32} {P : Unit × Mm → Prop} (h : ∀ s2, Fr LXl st s2 → FoS s2 27 28 29 A.1.1 A.1.2.2.2.1 (slb s) v → P ((), s2)) : Ok (f_x_refold 27 28 29 s st) P :=
  x_refold_ok (by decide) (by decide) (by decide) (by decide) hI.1.1 hA.1.2.1 hA.1.2.2.2.2.2.1 hA.1.2.2.2.2.2.2.1 hI.1.2.2.2.1 hI.1.2.2.2.2.1 hv h
theorem papS_pap {n a b : Nat} (ha : a < n) (hb : b < n) (hn : n ≤ 16) (c : Nat → Bool) (sl : Nat → Nat) (l : List Nat) : pap n c sl l (16 * b + a) = papS c sl l n a b := by
  unfold pap
  rw [show (16 * b + a) % 16 = a by omega, show (16 * b + a) / 16 = b by omega, decide_eq_true ⟨ha, hb⟩, Bool.true_and]
theorem st_slipped (a0 a1 a2 : Int32) : Step1 Inv (f_x_slipped a0 a1 a2) (f_m_slipped a0 a1 a2) := step_q (fun A hA => by
  have hn := hA.1.2.1
  have h8 := hA.1.2.2.2.2.2.1
  obtain ⟨v, hv, _⟩ := hA.v
  cases hs : decide (0 ≤ a0.toInt ∧ a0.toInt < (2 ^ A.1.2.2.2.1.length : Nat)) with
  | false =>
    refine ⟨-1, xok_fr [] rfl (fun st hI => ?_), mok_fr [] rfl (fun st hI => ?_)⟩
    · unfold f_x_slipped
      refine ok_bind (ok_eq (x_areSlips_eq hI.1.2.2.2.1 h8 _) ?_)
      rw [hs]
      exact ok_t rfl (ok_some ⟨rfl, Fr.rf⟩)
    · unfold f_m_slipped
      refine ok_bind (ok_eq (m_areSlips_eq hI.1.2.2.2.1 h8 _) ?_)
      rw [hs]
      exact ok_t rfl (ok_some ⟨rfl, Fr.rf⟩)
  | true =>
    rcases cell_cases A.1.1 a1 a2 with hc | ⟨a, b, ha, hb, rfl, rfl, hc⟩
    · refine ⟨-1, xok_fr [] rfl (fun st hI => ?_), mok_fr [] rfl (fun st hI => ?_)⟩
      · unfold f_x_slipped
        refine ok_bind (ok_eq (x_areSlips_eq hI.1.2.2.2.1 h8 _) ?_)
        rw [hs]
        refine ok_f (show ¬ bI true = 0 by decide) (ok_bind (ok_eq (x_isCell_gen hI.1.1 hn _ _) ?_))
        rw [hc]
        exact ok_t rfl (ok_some ⟨rfl, Fr.rf⟩)
      · unfold f_m_slipped
        refine ok_bind (ok_eq (m_areSlips_eq hI.1.2.2.2.1 h8 _) ?_)
        rw [hs]
        refine ok_f (show ¬ bI true = 0 by decide) (ok_bind (ok_eq (m_isCell_gen hI.1.1 hn _ _) ?_))
        rw [hc]
        exact ok_t rfl (ok_some ⟨rfl, Fr.rf⟩)
    · refine ⟨bI (papS A.1.2.2.2.2.1 (slb a0) A.1.2.2.2.1 A.1.1 a b), xok_fr LXl rfl (fun st hI => ?_), mok_fr LO rfl (fun st hI => ?_)⟩
      · unfold f_x_slipped
        refine ok_bind (ok_eq (x_areSlips_eq hI.1.2.2.2.1 h8 _) ?_)
        rw [hs]
        refine ok_f (show ¬ bI true = 0 by decide) (ok_bind (ok_eq (x_isCell_gen hI.1.1 hn _ _) ?_))
        rw [hc]
        refine ok_f (show ¬ bI true = 0 by decide) (ok_bind (xI_lean hA hI hv (fun s2 hF hS => ?_)))
        refine ok_bind (ok_eq (x_isCut_eq hS (c := A.1.2.2.2.2.1) (by rw [show s2.1 3 = st.1 3 from funext (fun j => hF _ j rfl)]; exact hI.1.2.2.2.2.2.1) ha hb) ?_)
        refine okc_b (!papS A.1.2.2.2.2.1 (slb a0) A.1.2.2.2.1 A.1.1 a b) (fun e => ok_some ⟨?_, hF⟩) (fun e => ok_some ⟨?_, hF⟩)
        · rw [show papS A.1.2.2.2.2.1 (slb a0) A.1.2.2.2.1 A.1.1 a b = true by simpa using e]; rfl
        · rw [show papS A.1.2.2.2.2.1 (slb a0) A.1.2.2.2.1 A.1.1 a b = false by simpa using e]; rfl
      · unfold f_m_slipped
        refine ok_bind (ok_eq (m_areSlips_eq hI.1.2.2.2.1 h8 _) ?_)
        rw [hs]
        refine ok_f (show ¬ bI true = 0 by decide) (ok_bind (ok_eq (m_isCell_gen hI.1.1 hn _ _) ?_))
        rw [hc]
        refine ok_f (show ¬ bI true = 0 by decide) (ok_bind (mI_opens hA hI hv (fun s2 hF hr hp => ?_)))
        simp only [cellI]
        refine ok_t (inb_nI (by omega) (by omega)) ?_
        rw [cl_nI (by omega), hp _ (by omega), papS_pap ha hb hn]
        refine okc_b (papS A.1.2.2.2.2.1 (slb a0) A.1.2.2.2.1 A.1.1 a b) (fun e => ok_some ⟨by rw [e]; rfl, hF⟩) (fun e => ok_some ⟨by rw [e]; rfl, hF⟩))
theorem cn2_le (q : Nat → Nat → Bool) {n y x : Nat} (hn : n ≤ 16) (hy : y ≤ 16) (hx : x ≤ 16) : cn2 q n y x ≤ 272 := by
  unfold cn2
  have h1 : fb_sm (fun y' => fb_ct (fun x' => q x' y') n) y ≤ y * 16 := fb_sm_bound (fun k _ => Nat.le_trans (fb_ct_le _ _) hn)
  have h2 := fb_ct_le (fun x' => q x' y) x
  omega
theorem st_spoilt (a0 : Int32) : Step1 Inv (f_x_spoilt a0) (f_m_spoilt a0) := step_q (fun A hA => by
  have hn := hA.1.2.1
  have h8 := hA.1.2.2.2.2.2.1
  obtain ⟨v, hv, _⟩ := hA.v
  cases hs : decide (0 ≤ a0.toInt ∧ a0.toInt < (2 ^ A.1.2.2.2.1.length : Nat)) with
  | false =>
    refine ⟨-1, xok_fr [] rfl (fun st hI => ?_), mok_fr [] rfl (fun st hI => ?_)⟩
    · unfold f_x_spoilt
      refine ok_bind (ok_eq (x_areSlips_eq hI.1.2.2.2.1 h8 _) ?_)
      rw [hs]
      exact ok_t rfl (ok_some ⟨rfl, Fr.rf⟩)
    · unfold f_m_spoilt
      refine ok_bind (ok_eq (m_areSlips_eq hI.1.2.2.2.1 h8 _) ?_)
      rw [hs]
      exact ok_t rfl (ok_some ⟨rfl, Fr.rf⟩)
  | true =>
    obtain ⟨q, hq⟩ : ∃ q : Nat → Nat → Bool, q = fun a b => (papS A.1.2.2.2.2.1 (slb a0) A.1.2.2.2.1 A.1.1 a b) != (papS A.1.2.2.2.2.1 (slb 0) A.1.2.2.2.1 A.1.1 a b) := ⟨_, rfl⟩
    refine ⟨nI (cn2 q A.1.1 A.1.1 0), xok_fr LXl rfl (fun st hI => ?_), mok_fr (LR ++ LB) rfl (fun st hI => ?_)⟩
    · unfold f_x_spoilt
      refine ok_bind (ok_eq (x_areSlips_eq hI.1.2.2.2.1 h8 _) ?_)
      rw [hs]
      refine ok_f (show ¬ bI true = 0 by decide) (ok_bind (xI_lean hA hI hv (fun s2 hF hS => ?_)))
      have hcut : Rw (s2.1 3) A.1.2.2.2.2.1 := by rw [show s2.1 3 = st.1 3 from funext (fun j => hF _ j rfl)]; exact hI.1.2.2.2.2.2.1
      have hpap : Rw (s2.1 31) (papT A.1) := by rw [show s2.1 31 = st.1 31 from funext (fun j => hF _ j rfl)]; exact hI.2.2.2.2.1
      have hn2 : s2.1 1 0 = nI A.1.1 := by rw [hF _ _ rfl]; exact hI.1.1
      refine ok_grid (α := Int32 × Mm) (fun m y a => f_x_spoilt_23 m a.1 y a.2) (fun k m y x a => f_x_spoilt_37 (fun v2 y2 st2 => k y2 (v2, st2)) m a.1 y x a.2) (fun y x a => a = (nI (cn2 q A.1.1 y x), s2)) _ A.1.1 A.1.1 ?_ ?_ ?_ ?_ (by omega) (by omega) (a := (0, s2)) rfl
      · rintro k m y x a hy hx rfl ih
        show Ok (b_x_spoilt_37 _ (f_x_spoilt_37 (fun v2 y2 st2 => k y2 (v2, st2)) m) _ (nI y) (nI x) s2) _
        unfold b_x_spoilt_37
        rw [hn2]
        refine ok_f (nI_ge hx (by omega)) (ok_bind (ok_eq (x_isCut_eq hS hcut hx hy) ?_))
        unfold f_x_cellAt
        refine ok_bind (ok_some ?_)
        simp only [cellI]
        refine ok_bind (ok_eq (x_hasBit_eq hpap (by omega)) ?_)
        have e0 : papT A.1 (16 * y + x) = papS A.1.2.2.2.2.1 (slb 0) A.1.2.2.2.1 A.1.1 x y := papS_pap hx hy hn _ _ _
        have := ih (nI (cn2 q A.1.1 y (x + 1)), s2) rfl
        rw [cn2_in, hq] at this
        simp only [e0]
        cases h1 : papS A.1.2.2.2.2.1 (slb a0) A.1.2.2.2.1 A.1.1 x y <;> cases h2 : papS A.1.2.2.2.2.1 (slb 0) A.1.2.2.2.1 A.1.1 x y
        all_goals (simp only [h1, h2] at this)
        · refine ok_f (by decide) (ok_lt ?_)
          rw [nI_1]; rw [hq]; exact this
        · refine ok_t rfl (ok_lt (ok_lt ?_))
          rw [nI_1, nI_1]; rw [hq]; exact this
        · refine ok_t rfl (ok_lt (ok_lt ?_))
          rw [nI_1, nI_1]; rw [hq]; exact this
        · refine ok_f (by decide) (ok_lt ?_)
          rw [nI_1]; rw [hq]; exact this
      · rintro k m y a hy rfl ih
        show Ok (b_x_spoilt_37 _ (f_x_spoilt_37 (fun v2 y2 st2 => k y2 (v2, st2)) m) _ (nI y) (nI A.1.1) s2) _
        unfold b_x_spoilt_37 b_x_spoilt_88
        rw [hn2]
        refine ok_t (Int32.le_refl _) (ok_lt ?_)
        rw [nI_1]
        exact ih _ (by rw [cn2_out])
      · rintro m y a hy rfl ih
        show Ok (b_x_spoilt_23 (f_x_spoilt_23 m) _ (nI y) s2) _
        unfold b_x_spoilt_23
        rw [hn2]
        exact ok_f (nI_ge hy (by omega)) ih
      · rintro m a rfl
        show Ok (b_x_spoilt_23 (f_x_spoilt_23 m) _ (nI A.1.1) s2) _
        unfold b_x_spoilt_23
        rw [hn2]
        exact ok_t (Int32.le_refl _) (ok_some ⟨rfl, hF⟩)
    · unfold f_m_spoilt
      refine ok_bind (ok_eq (m_areSlips_eq hI.1.2.2.2.1 h8 _) ?_)
      rw [hs]
      refine ok_f (show ¬ bI true = 0 by decide) (ok_bind (mI_lays hA hI hv (fun s1 hF1 hr1 => ?_)))
      have keep : ∀ a b : Mm, Fr LB a b → mRec a A.1.1 A.1.2.2.2.1 v → mRec b A.1.1 A.1.2.2.2.1 v := fun a b hF hr => by
        obtain ⟨r1, r2, r3, r4, r5, r6, r7, r8, r9, r10⟩ := hr
        exact ⟨by rw [hF 58 0 rfl]; exact r1, r2, r3, r4, r5, by rw [hF 58 12 rfl]; exact r6, fun j hj => by rw [hF 63 j (by simp [inL, LB])]; exact r7 j hj, by rw [hF 58 8 rfl]; exact r8, by rw [hF 58 9 rfl]; exact r9, by rw [hF 58 10 rfl]; exact r10⟩
      refine ok_grid (α := Int32 × Int32 × Mm) (fun m y a => f_m_spoilt_18 m a.1 a.2.1 y a.2.2) (fun k m y x a => f_m_spoilt_29 (fun v1 v2 y2 st2 => k y2 (v1, v2, st2)) m a.1 a.2.1 y x a.2.2) (fun y x a => a0 = a.1 ∧ a.2.1 = nI (cn2 q A.1.1 y x) ∧ Fr (LR ++ LB) st a.2.2 ∧ mRec a.2.2 A.1.1 A.1.2.2.2.1 v) _ A.1.1 A.1.1 ?_ ?_ ?_ ?_ (by omega) (by omega) (a := (a0, 0, s1)) ⟨rfl, rfl, hF1.wk (by decide), hr1⟩
      · rintro k m y x ⟨a0', acc, s⟩ hy hx ⟨rfl, rfl, hF, hr⟩ ih
        simp only at hF hr
        show Ok (b_m_spoilt_29 _ (f_m_spoilt_29 (fun v1 v2 y2 st2 => k y2 (v1, v2, st2)) m) _ _ (nI y) (nI x) s) _
        unfold b_m_spoilt_29
        rw [hr.1]
        refine ok_f (nI_ge hx (by omega)) ?_
        have hcs : ∀ k, k < 256 → s.1 61 k = bI (A.1.2.2.2.2.1 k) := fun k hk => by rw [hF 61 k (by simp [inL, LR, LB])]; exact hI.1.2.2.2.2.2.1 k hk
        refine ok_bind (m_hasPaper_ok hr hx hy hcs (fun s3 hF3 => ?_))
        have hr3 := keep _ _ hF3 hr
        refine ok_bind (m_hasPaper_ok hr3 hx hy (fun k hk => by rw [hF3 61 k (by simp [inL, LB])]; exact hcs k hk) (fun s4 hF4 => ?_))
        have hr4 := keep _ _ hF4 hr3
        have hF5 : Fr (LR ++ LB) st s4 := (hF.tr (hF3.wk (by decide))).tr (hF4.wk (by decide))
        have := ih (_, nI (cn2 q A.1.1 y (x + 1)), s4) ⟨rfl, rfl, hF5, hr4⟩
        rw [cn2_in, hq] at this
        cases h1 : papS A.1.2.2.2.2.1 (slb a0) A.1.2.2.2.1 A.1.1 x y <;> cases h2 : papS A.1.2.2.2.2.1 (slb 0) A.1.2.2.2.1 A.1.1 x y
        all_goals (simp only [h1, h2] at this)
        · refine ok_t rfl (ok_lt (ok_lt ?_))
          rw [nI_1, nI_z]; rw [hq]; exact this
        · refine ok_f (show ¬ bI false = bI true by decide) (ok_lt (ok_lt ?_))
          rw [nI_1, nI_1]; rw [hq]; exact this
        · refine ok_f (show ¬ bI true = bI false by decide) (ok_lt (ok_lt ?_))
          rw [nI_1, nI_1]; rw [hq]; exact this
        · refine ok_t rfl (ok_lt (ok_lt ?_))
          rw [nI_1, nI_z]; rw [hq]; exact this
      · rintro k m y ⟨a0', acc, s⟩ hy ⟨rfl, rfl, hF, hr⟩ ih
        show Ok (b_m_spoilt_29 _ (f_m_spoilt_29 (fun v1 v2 y2 st2 => k y2 (v1, v2, st2)) m) _ _ (nI y) (nI A.1.1) s) _
        unfold b_m_spoilt_29 b_m_spoilt_71
        rw [hr.1]
        refine ok_t (Int32.le_refl _) (ok_lt ?_)
        rw [nI_1]
        exact ih (_, _, s) ⟨rfl, by rw [cn2_out], hF, hr⟩
      · rintro m y ⟨a0', acc, s⟩ hy ⟨rfl, rfl, hF, hr⟩ ih
        show Ok (b_m_spoilt_18 (f_m_spoilt_18 m) _ _ (nI y) s) _
        unfold b_m_spoilt_18
        rw [hr.1]
        exact ok_f (nI_ge hy (by omega)) ih
      · rintro m ⟨a0', acc, s⟩ ⟨rfl, rfl, hF, hr⟩
        show Ok (b_m_spoilt_18 (f_m_spoilt_18 m) _ _ (nI A.1.1) s) _
        unfold b_m_spoilt_18
        rw [hr.1]
        exact ok_t (Int32.le_refl _) (ok_some ⟨rfl, hF⟩))
