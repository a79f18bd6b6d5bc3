/-! feed, check, draw, sheet -/
def byt (v s : Int32) : Nat := (v >>> (s &&& 31)).toBitVec.toNat % 256
theorem byt_eq (v s : Int32) : (v >>> (s &&& 31)) &&& (255 : Int32) = nI (byt v s) := pk_and _ 8 (by decide)
theorem byt_lt (v s : Int32) : byt v s < 256 := Nat.mod_lt _ (by decide)
theorem getD_app {l : List Nat} {b j : Nat} (h : j < l.length + 1) : (l ++ [b]).getD j 0 = if j = l.length then b else l.getD j 0 := by
  by_cases e : j = l.length
  · subst e; simp
  · rw [if_neg e]
    simp [List.getD_eq_getElem?_getD, List.getElem?_append_left (show j < l.length by omega)]
theorem TpX.put {st : Mm} {tp : List Nat} (h : TpX st tp) (b : Nat) : TpX (sI (sI st 12 tp.length (nI b)) 11 0 (nI (tp.length + 1))) (tp ++ [b]) := by
  refine ⟨by rw [sI_self, List.length_append]; rfl, fun j hj => ?_⟩
  rw [List.length_append] at hj
  simp only [List.length_cons, List.length_nil, Nat.zero_add] at hj
  rw [sI_row _ _ _ _ (by decide), sI_at, getD_app hj]
  by_cases e : j = tp.length
  · simp [e]
  · simp only [e, and_false, reduceIte]; exact h.2 j (by omega)
theorem TpM.put {st : Mm} {tp : List Nat} (h : TpM st tp) (b : Nat) (z : Int32) (hz : z &&& 255 = nI b) : TpM (sI (sI st 65 tp.length z) 58 19 (nI (tp.length + 1))) (tp ++ [b]) := by
  refine ⟨by rw [sI_self, List.length_append]; rfl, fun j hj => ?_⟩
  rw [List.length_append] at hj
  simp only [List.length_cons, List.length_nil, Nat.zero_add] at hj
  rw [sI_row _ _ _ _ (by decide), sI_at, getD_app hj]
  by_cases e : j = tp.length
  · simp only [e, and_self, reduceIte]; exact hz
  · simp only [e, and_false, reduceIte]; exact h.2 j (by omega)
def LTx : List (Nat × Option Nat) := [(11, none), (12, none)]
def LTm : List (Nat × Option Nat) := [(58, some 19), (65, none)]
theorem x_put1 {v s s' : Int32} {st : Mm} {tp : List Nat} {n : Nat} {P : Unit × Mm → Prop} (hs : ¬ s < 0) (e : s + (-8 : Int32) = s') (h : TpX st tp) (hl : tp.length < 200) (hk : ∀ s2, Fr LTx st s2 → TpX s2 (tp ++ [byt v s]) → Ok (f_Tape_putInt_3 n v s' s2) P) : Ok (f_Tape_putInt_3 (n + 1) v s st) P := by
  show Ok (b_Tape_putInt_3 (f_Tape_putInt_3 n) v s st) P
  unfold b_Tape_putInt_3
  rw [h.1]
  refine ok_f hs (ok_f (show ¬ nI 200 ≤ nI tp.length from nI_ge hl (by omega)) (ok_lt (ok_t (inb_nI hl (by omega)) (ok_lt (ok_lt ?_)))))
  rw [e, byt_eq, cl_nI (by omega), sI_row _ _ _ _ (by decide), h.1, nI_1]
  exact hk _ ((Fr.rf.sI rfl).sI rfl) (h.put _)
theorem x_putInt_ok {v : Int32} {st : Mm} {tp : List Nat} {P : Unit × Mm → Prop} (h : TpX st tp) (hl : tp.length + 4 ≤ 200) (hk : ∀ s2, Fr LTx st s2 → TpX s2 (tp ++ [byt v 24] ++ [byt v 16] ++ [byt v 8] ++ [byt v 0]) → P ((), s2)) : Ok (f_Tape_putInt v st) P := by
  unfold f_Tape_putInt
  refine x_put1 (n := 999999) (s' := 16) (by decide) (by decide) h (by omega) (fun s1 hF1 h1 => ?_)
  refine x_put1 (n := 999998) (s' := 8) (by decide) (by decide) h1 (by simp; omega) (fun s2 hF2 h2 => ?_)
  refine x_put1 (n := 999997) (s' := 0) (by decide) (by decide) h2 (by simp; omega) (fun s3 hF3 h3 => ?_)
  refine x_put1 (n := 999996) (s' := -8) (by decide) (by decide) h3 (by simp; omega) (fun s4 hF4 h4 => ?_)
  show Ok (b_Tape_putInt_3 (f_Tape_putInt_3 999995) v (-8) s4) P
  unfold b_Tape_putInt_3
  exact ok_t (by decide) (ok_some (hk s4 (((hF1.tr hF2).tr hF3).tr hF4) h4))
theorem m_put1 {v s s' : Int32} {st : Mm} {tp : List Nat} {n : Nat} {P : Unit × Mm → Prop} (hs : ¬ s < 0) (e : s + (-1 : Int32) = s') (h : TpM st tp) (hl : tp.length < 200) (hk : ∀ s2, Fr LTm st s2 → TpM s2 (tp ++ [byt v ((8 : Int32) * s)]) → Ok (f_m_types_2 n v s' s2) P) : Ok (f_m_types_2 (n + 1) v s st) P := by
  show Ok (b_m_types_2 (f_m_types_2 n) v s st) P
  unfold b_m_types_2
  rw [h.1]
  refine ok_f hs (ok_lt (ok_t (inb_nI hl (by omega)) (ok_lt (ok_lt ?_))))
  rw [e, cl_nI (by omega), sI_row _ _ _ _ (by decide), h.1, nI_1, pk_vb]
  exact hk _ ((Fr.rf.sI rfl).sI rfl) (h.put _ _ (by rw [bp_b, byt_eq]))
theorem m_types_ok {v : Int32} {st : Mm} {tp : List Nat} {P : Unit × Mm → Prop} (h : TpM st tp) (hl : tp.length + 4 ≤ 200) (hk : ∀ s2, Fr LTm st s2 → TpM s2 (tp ++ [byt v 24] ++ [byt v 16] ++ [byt v 8] ++ [byt v 0]) → P ((), s2)) : Ok (f_m_types v st) P := by
  unfold f_m_types
  refine m_put1 (n := 999999) (s' := 2) (by decide) (by decide) h (by omega) (fun s1 hF1 h1 => ?_)
  refine m_put1 (n := 999998) (s' := 1) (by decide) (by decide) h1 (by simp; omega) (fun s2 hF2 h2 => ?_)
  refine m_put1 (n := 999997) (s' := 0) (by decide) (by decide) h2 (by simp; omega) (fun s3 hF3 h3 => ?_)
  refine m_put1 (n := 999996) (s' := -1) (by decide) (by decide) h3 (by simp; omega) (fun s4 hF4 h4 => ?_)
  show Ok (b_m_types_2 (f_m_types_2 999995) v (-1) s4) P
  unfold b_m_types_2
  exact ok_t (by decide) (ok_some (hk s4 (((hF1.tr hF2).tr hF3).tr hF4) h4))
def b4 (v : Int32) : List Nat := [byt v 24, byt v 16, byt v 8, byt v 0]
theorem b4_eq (tp : List Nat) (v : Int32) : tp ++ [byt v 24] ++ [byt v 16] ++ [byt v 8] ++ [byt v 0] = tp ++ b4 v := by simp [b4]
theorem b4_lt {v : Int32} : ∀ b ∈ b4 v, b < 256 := by
  intro b hb
  simp only [b4, List.mem_cons, List.not_mem_nil, or_false] at hb
  rcases hb with rfl | rfl | rfl | rfl <;> exact byt_lt _ _
theorem InvX.tape {A : Ab} {st s2 : Mm} {tp : List Nat} (h : InvX A st) (hT : TpX s2 tp) (hF : Fr LTx st s2) : InvX (A.1, tp, A.2.2) s2 := h.setP hT (fun c j _ h1 h2 => hF c j (by
  cases hL : inL LTx c j with
  | false => rfl
  | true =>
    obtain ⟨e, he, h3, _⟩ := inL_ex hL
    simp only [LTx, List.mem_cons, List.not_mem_nil, or_false] at he
    rcases he with rfl | rfl <;> (simp only at h3; omega)))
theorem InvM.tape {A : Ab} {st s2 : Mm} {tp : List Nat} (h : InvM A st) (hT : TpM s2 tp) (hF : Fr LTm st s2) : InvM (A.1, tp, A.2.2) s2 := h.setP hT (fun c j _ h1 h2 => hF c j (by
  cases hL : inL LTm c j with
  | false => rfl
  | true =>
    obtain ⟨e, he, h3, h4⟩ := inL_ex hL
    simp only [LTm, List.mem_cons, List.not_mem_nil, or_false] at he
    rcases he with rfl | rfl
    · simp only at h3 h4
      rcases h4 with h4 | h4
      · cases h4
      · have := Option.some.inj h4
        exact absurd this.symm (h2 h3.symm)
    · simp only at h3; omega))
theorem st_feed (a0 a1 a2 a3 a4 : Int32) : Step1 Inv (f_x_feed a0 a1 a2 a3 a4) (f_m_feed a0 a1 a2 a3 a4) := step_of (fun A hA => by
  have hl := hA.2.1
  have e20 : ∀ x : Int32, x = nI A.2.1.length → x + (20 : Int32) = nI (A.2.1.length + 20) := fun x h => by rw [h]; exact nI_add _ 20
  rcases Nat.lt_or_ge 200 (A.2.1.length + 20) with h | h
  · refine ⟨A, -1, hA, xok_fr [] rfl (fun st hI => ?_), mok_fr [] rfl (fun st hI => ?_)⟩
    · unfold f_x_feed
      rw [e20 _ hI.2.1.1]
      exact ok_f (show ¬ nI (A.2.1.length + 20) ≤ nI 200 from nI_ge h (by omega)) (ok_some ⟨rfl, Fr.rf⟩)
    · unfold f_m_feed
      rw [e20 _ hI.2.1.1]
      exact ok_f (show ¬ nI (A.2.1.length + 20) ≤ nI 200 from nI_ge h (by omega)) (ok_some ⟨rfl, Fr.rf⟩)
  · refine ⟨(A.1, A.2.1 ++ b4 a0 ++ b4 a1 ++ b4 a2 ++ b4 a3 ++ b4 a4, A.2.2), nI (A.2.1.length + 20), ⟨hA.1, ?_, ?_, hA.2.2.2⟩, fun st hI => ?_, fun st hI => ?_⟩
    · simp [b4]; omega
    · intro b hb
      simp only [List.mem_append] at hb
      rcases hb with ((((hb | hb) | hb) | hb) | hb) | hb
      · exact hA.2.2.1 b hb
      all_goals exact b4_lt b hb
    · unfold f_x_feed
      rw [e20 _ hI.2.1.1]
      refine ok_t (show nI (A.2.1.length + 20) ≤ nI 200 from nI_le h (by omega)) ?_
      refine ok_bind (x_putInt_ok hI.2.1 (by omega) (fun s1 hF1 h1 => ?_))
      rw [b4_eq] at h1
      refine ok_bind (x_putInt_ok h1 (by simp [b4]; omega) (fun s2 hF2 h2 => ?_))
      rw [b4_eq] at h2
      refine ok_bind (x_putInt_ok h2 (by simp [b4]; omega) (fun s3 hF3 h3 => ?_))
      rw [b4_eq] at h3
      refine ok_bind (x_putInt_ok h3 (by simp [b4]; omega) (fun s4 hF4 h4 => ?_))
      rw [b4_eq] at h4
      refine ok_bind (x_putInt_ok h4 (by simp [b4]; omega) (fun s5 hF5 h5 => ?_))
      rw [b4_eq] at h5
      have hF := (((hF1.tr hF2).tr hF3).tr hF4).tr hF5
      refine ok_some ⟨?_, hI.tape h5 hF, hF.lo rfl⟩
      show s5.1 11 0 = _
      rw [h5.1]
      simp [b4]
    · unfold f_m_feed
      rw [e20 _ hI.2.1.1]
      refine ok_t (show nI (A.2.1.length + 20) ≤ nI 200 from nI_le h (by omega)) ?_
      refine ok_bind (m_types_ok hI.2.1 (by omega) (fun s1 hF1 h1 => ?_))
      rw [b4_eq] at h1
      refine ok_bind (m_types_ok h1 (by simp [b4]; omega) (fun s2 hF2 h2 => ?_))
      rw [b4_eq] at h2
      refine ok_bind (m_types_ok h2 (by simp [b4]; omega) (fun s3 hF3 h3 => ?_))
      rw [b4_eq] at h3
      refine ok_bind (m_types_ok h3 (by simp [b4]; omega) (fun s4 hF4 h4 => ?_))
      rw [b4_eq] at h4
      refine ok_bind (m_types_ok h4 (by simp [b4]; omega) (fun s5 hF5 h5 => ?_))
      rw [b4_eq] at h5
      have hF := (((hF1.tr hF2).tr hF3).tr hF4).tr hF5
      refine ok_some ⟨?_, hI.tape h5 hF, hF.hi rfl⟩
      show s5.1 58 19 = _
      rw [h5.1]
      simp [b4])
/-! check -/
def fstI (q : Nat → Bool) : Nat → Nat → Int32
  | 0, _ => -1
  | r + 1, i => if q i then nI i else fstI q r (i + 1)
def sh8 (v : Int32) (b : Nat) : Int32 := (v <<< ((8 : Int32) &&& 31)) ||| nI b
def tnm (tp : List Nat) (i : Nat) : Int32 := sh8 (sh8 (sh8 (sh8 0 (tp.getD i 0)) (tp.getD (i + 1) 0)) (tp.getD (i + 2) 0)) (tp.getD (i + 3) 0)
theorem x_int1 {st : Mm} {tp : List Nat} (h : TpX st tp) (v1 v2 : Int32) {i n e : Nat} (he : v1 + 4 = nI e) (hi : i < e) (he2 : e ≤ tp.length) (hl : tp.length ≤ 200) : f_Tape_intAt_4 (n + 1) v1 v2 (nI i) st = f_Tape_intAt_4 n v1 (sh8 v2 (tp.getD i 0)) (nI (i + 1)) st := by
  show b_Tape_intAt_4 (f_Tape_intAt_4 n) v1 v2 (nI i) st = _
  unfold b_Tape_intAt_4
  rw [he, if_neg (nI_ge hi (by omega)), if_neg (nI_pos (by omega)), if_neg (show ¬ (200 : Int32) ≤ nI i from show ¬ nI 200 ≤ nI i from nI_ge (by omega) (by omega)), if_pos (inb_nI (show i < 200 by omega) (by omega)), lt_eq, lt_eq, nI_1, cl_nI (by omega), h.2 i (by omega)]
  rfl
theorem x_intAt_eq {st : Mm} {tp : List Nat} (h : TpX st tp) {i : Nat} (hi : i + 4 ≤ tp.length) (hl : tp.length ≤ 200) : f_Tape_intAt (nI i) st = some (tnm tp i, st) := by
  unfold f_Tape_intAt
  have e4 : nI i + (4 : Int32) = nI (i + 4) := nI_add i 4
  rw [x_int1 (n := 999999) h (nI i) 0 e4 (by omega) hi hl, x_int1 (n := 999998) h (nI i) _ e4 (by omega) hi hl, x_int1 (n := 999997) h (nI i) _ e4 (by omega) hi hl, x_int1 (n := 999996) h (nI i) _ e4 (by omega) hi hl]
  show b_Tape_intAt_4 (f_Tape_intAt_4 999995) _ _ (nI (i + 4)) st = _
  unfold b_Tape_intAt_4
  rw [e4, if_pos (Int32.le_refl _)]
  rfl
theorem m_int1 {st : Mm} {tp : List Nat} (h : TpM st tp) (v1 v2 : Int32) {i n e : Nat} (he : (4 : Int32) * v1 + 4 = nI e) (hi : i < e) (he2 : e ≤ tp.length) (hl : tp.length ≤ 200) : f_m_tapeNumber_6 (n + 1) v1 v2 (nI i) st = f_m_tapeNumber_6 n v1 (sh8 v2 (tp.getD i 0)) (nI (i + 1)) st := by
  show b_m_tapeNumber_6 (f_m_tapeNumber_6 n) v1 v2 (nI i) st = _
  unfold b_m_tapeNumber_6
  rw [he, if_neg (nI_ge hi (by omega)), if_pos (inb_nI (show i < 200 by omega) (by omega)), lt_eq, lt_eq, nI_1, cl_nI (by omega), h.2 i (by omega)]
  rfl
theorem m_tapeNumber_eq {st : Mm} {tp : List Nat} (h : TpM st tp) {x : Nat} (hi : 4 * x + 4 ≤ tp.length) (hl : tp.length ≤ 200) : f_m_tapeNumber (nI x) st = some (tnm tp (4 * x), st) := by
  unfold f_m_tapeNumber
  have e1 : (4 : Int32) * nI x = nI (4 * x) := pk_mul 4 x
  have e4 : (4 : Int32) * nI x + 4 = nI (4 * x + 4) := by rw [e1]; exact nI_add _ 4
  rw [lt_eq, e1, m_int1 (n := 999999) h (nI x) 0 e4 (by omega) hi hl, m_int1 (n := 999998) h (nI x) _ e4 (by omega) hi hl, m_int1 (n := 999997) h (nI x) _ e4 (by omega) hi hl, m_int1 (n := 999996) h (nI x) _ e4 (by omega) hi hl]
  show b_m_tapeNumber_6 (f_m_tapeNumber_6 999995) _ _ (nI (4 * x + 4)) st = _
  unfold b_m_tapeNumber_6
  rw [e4, if_pos (Int32.le_refl _)]
  rfl
def chkW (n : Nat) (p : Nat → Bool) (tp : List Nat) (y x : Nat) : Bool := decide (n ≤ x) || !(decide (tnm tp (4 * x) = bI (p (16 * y + x))))
theorem x_check_loop {st : Mm} {tp : List Nat} {n y m : Nat} {p : Nat → Bool} (h : TpX st tp) (hn : st.1 1 0 = nI n) (hn2 : n ≤ 16) (hy : y < n) (hm : m ≤ 16) (hm2 : 4 * m ≤ tp.length) (hl : tp.length ≤ 200) (hp : Rw (st.1 31) p) : ∀ r x k, x + r = m → r + 2 ≤ k → f_x_check_46 k (nI y) (nI m) (-1) (nI x) st = some (fstI (chkW n p tp y) r x, sI st 11 0 0) := by
  intro r
  induction r with
  | zero =>
    intro x k h1 h2
    obtain ⟨k, rfl⟩ := nat_suc (show 0 + 1 ≤ k by omega)
    have e : x = m := by omega
    subst e
    show b_x_check_46 (f_x_check_46 k) _ _ _ _ st = _
    unfold b_x_check_46
    rw [if_pos (Int32.le_refl _)]
    rfl
  | succ r ih =>
    intro x k h1 h2
    obtain ⟨k, rfl⟩ := nat_suc (show 0 + 1 ≤ k by omega)
    have stop : ∀ s : Int32, f_x_check_46 k (nI y) (nI m) (nI x) s st = some (nI x, sI st 11 0 0) := by
      intro s
      obtain ⟨k, rfl⟩ := nat_suc (show 0 + 1 ≤ k by omega)
      show b_x_check_46 (f_x_check_46 k) _ _ _ _ st = _
      unfold b_x_check_46
      rw [if_neg (nI_nm1 (show x < 2147483648 by omega))]
      split <;> rfl
    show b_x_check_46 (f_x_check_46 k) _ _ _ _ st = _
    unfold b_x_check_46
    rw [if_neg (nI_ge (by omega) (by omega)), if_pos rfl]
    unfold f_x_cellAt
    simp only [Option.bind_some]
    rw [cellI, x_hasBit_eq hp (by omega)]
    simp only [Option.bind_some]
    have key : ∀ b : Bool, p (16 * y + x) = b → b_x_check_81 (f_x_check_46 k) (nI y) (nI m) (-1) (nI x) (bI b) st = some (fstI (chkW n p tp y) (r + 1) x, sI st 11 0 0) := by
      intro b hb
      unfold b_x_check_81
      rw [hn]
      by_cases h3 : n ≤ x
      · rw [if_pos (nI_le h3 (by omega)), lt_eq, stop]
        simp [fstI, chkW, h3]
      · rw [if_neg (nI_ge (by omega) (by omega)), show (4 : Int32) * nI x = nI (4 * x) from pk_mul 4 x, x_intAt_eq h (by omega) hl]
        simp only [Option.bind_some, lt_eq]
        by_cases h4 : tnm tp (4 * x) = bI b
        · rw [if_pos h4, nI_1, ih (x + 1) k (by omega) (by omega)]
          simp [fstI, chkW, h3, hb, h4]
        · rw [if_neg h4, stop]
          simp [fstI, chkW, hb, h4]
    cases hb : p (16 * y + x) with
    | false => exact key false hb
    | true => exact key true hb
theorem m_check_loop {st : Mm} {tp : List Nat} {n y m : Nat} {p : Nat → Bool} (h : ∀ j, j < tp.length → st.1 65 j &&& 255 = nI (tp.getD j 0)) (hn : st.1 58 0 = nI n) (hn2 : n ≤ 16) (hy : y < n) (hm : m ≤ 16) (hm2 : 4 * m ≤ tp.length) (hl : tp.length ≤ 200) (hp : ∀ k, k < 256 → st.1 72 k = bI (p k)) : ∀ r x k, x + r = m → r + 2 ≤ k → x ≤ n → f_m_check_49 k (nI y) (nI m) (nI x) st = some (fstI (chkW n p tp y) r x, st) := by
  have hT : TpM (sI st 58 19 (nI tp.length)) tp := ⟨sI_self _ _ _ _, fun j hj => by rw [sI_row _ _ _ _ (by decide)]; exact h j hj⟩
  have num : ∀ x, 4 * x + 4 ≤ tp.length → f_m_tapeNumber (nI x) st = some (tnm tp (4 * x), st) := by
    intro x hx
    have e1 : (4 : Int32) * nI x = nI (4 * x) := pk_mul 4 x
    have e4 : (4 : Int32) * nI x + 4 = nI (4 * x + 4) := by rw [e1]; exact nI_add _ 4
    have one : ∀ (i n : Nat) (v2 : Int32), i < 4 * x + 4 → f_m_tapeNumber_6 (n + 1) (nI x) v2 (nI i) st = f_m_tapeNumber_6 n (nI x) (sh8 v2 (tp.getD i 0)) (nI (i + 1)) st := by
      intro i n v2 hi
      show b_m_tapeNumber_6 (f_m_tapeNumber_6 n) _ v2 (nI i) st = _
      unfold b_m_tapeNumber_6
      rw [e4, if_neg (nI_ge hi (by omega)), if_pos (inb_nI (show i < 200 by omega) (by omega)), lt_eq, lt_eq, nI_1, cl_nI (by omega), h i (by omega)]
      rfl
    unfold f_m_tapeNumber
    rw [lt_eq, e1, one _ 999999 _ (by omega), one _ 999998 _ (by omega), one _ 999997 _ (by omega), one _ 999996 _ (by omega)]
    show b_m_tapeNumber_6 (f_m_tapeNumber_6 999995) _ _ (nI (4 * x + 4)) st = _
    unfold b_m_tapeNumber_6
    rw [e4, if_pos (Int32.le_refl _)]
    rfl
  intro r
  induction r with
  | zero =>
    intro x k h1 h2 _
    obtain ⟨k, rfl⟩ := nat_suc (show 0 + 1 ≤ k by omega)
    have e : x = m := by omega
    subst e
    show b_m_check_49 (f_m_check_49 k) _ _ _ st = _
    unfold b_m_check_49
    rw [if_pos (Int32.le_refl _)]
    rfl
  | succ r ih =>
    intro x k h1 h2 hxn
    obtain ⟨k, rfl⟩ := nat_suc (show 0 + 1 ≤ k by omega)
    show b_m_check_49 (f_m_check_49 k) _ _ _ st = _
    unfold b_m_check_49
    rw [if_neg (nI_ge (by omega) (by omega)), hn]
    by_cases h3 : x = n
    · rw [if_pos (by rw [h3])]
      simp [fstI, chkW, h3]
    · rw [if_neg (fun e => h3 (nI_inj (by omega) (by omega) e)), num x (by omega)]
      simp only [Option.bind_some]
      rw [cellI, if_pos (inb_nI (show 16 * y + x < 256 by omega) (by omega)), cl_nI (by omega), hp _ (by omega)]
      have key : ∀ b : Bool, p (16 * y + x) = b → b_m_check_86 (f_m_check_49 k) (nI y) (nI m) (nI x) (tnm tp (4 * x)) (bI b) st = some (fstI (chkW n p tp y) (r + 1) x, st) := by
        intro b hb
        unfold b_m_check_86
        by_cases h4 : tnm tp (4 * x) = bI b
        · rw [if_pos h4, lt_eq, nI_1, ih (x + 1) k (by omega) (by omega) (by omega)]
          simp [fstI, chkW, show ¬ n ≤ x by omega, hb, h4]
        · rw [if_neg h4]
          simp [fstI, chkW, hb, h4]
      cases hb : p (16 * y + x) with
      | false => exact key false hb
      | true => exact key true hb
theorem TpX.no {st : Mm} : TpX (sI st 11 0 0) [] := ⟨by rw [sI_self]; rfl, fun j hj => by simp at hj⟩
theorem st_check (a0 a1 : Int32) : Step1 Inv (f_x_check a0 a1) (f_m_check a0 a1) := step_of (fun A hA => by
  obtain ⟨hn1, hn, _⟩ := hA.1
  obtain ⟨v, hv, _⟩ := hA.v
  have hl := hA.2.1
  have eN : ∀ st : Mm, st.1 58 0 = nI A.1.1 → (st.1 58 0) - (1 : Int32) = nI (A.1.1 - 1) := fun st h => by rw [h]; exact pk_sub (b := 1) (by omega)
  have e4 : ∀ x : Int32, x = nI A.2.1.length → x / (4 : Int32) = nI (A.2.1.length / 4) := fun x h => by rw [h]; exact pk_div (d := 4) (by omega) (by omega) (by omega)
  by_cases hg : 0 ≤ a0.toInt ∧ a0.toInt < A.1.1 ∧ 0 ≤ a1.toInt ∧ a1.toInt ≤ 16 ∧ 4 * a1.toInt ≤ A.2.1.length
  · obtain ⟨y, hy, rfl⟩ := i_natLt (N := A.1.1) hg.1 hg.2.1
    obtain ⟨m, hm, rfl⟩ := i_natLt (N := 17) hg.2.2.1 (by omega)
    have hm2 : 4 * m ≤ A.2.1.length := by
      have := hg.2.2.2.2
      rw [nI_T (show m < 2147483648 by omega)] at this
      omega
    refine ⟨(A.1, [], A.2.2), fstI (chkW A.1.1 (papT A.1) A.2.1 y) m 0, ⟨hA.1, by simp, by simp, hA.2.2.2⟩, fun st hI => ?_, fun st hI => ?_⟩
    · unfold f_x_check
      rw [hI.1.1, hI.2.1.1, show (4 : Int32) * nI m = nI (4 * m) from pk_mul 4 m]
      refine ok_f (nI_pos (by omega)) (ok_f (nI_ge hy (by omega)) (ok_f (nI_pos (by omega)) (ok_f (show ¬ nI 16 < nI m by rw [nI_ltI (by omega) (by omega)]; omega) (ok_t (nI_le hm2 (by omega)) ?_))))
      refine ok_eq (x_check_loop hI.2.1 hI.1.1 hn hy (by omega) hm2 hl hI.2.2.2.2.1 m 0 1000000 (by omega) (by omega)) ⟨rfl, hI.tape TpX.no (Fr.rf.sI rfl), fun c j hc => by rw [sI_row _ _ _ _ (by omega)]⟩
    · unfold f_m_check
      rw [eN _ hI.1.1]
      refine ok_bind (ok_eq (m_in_eq _ 0 (A.1.1 - 1) (by omega) (by omega) st) ?_)
      rw [decide_eq_true (show (((0 : Nat) : Int) ≤ (nI y).toInt ∧ (nI y).toInt ≤ ((A.1.1 - 1 : Nat) : Int)) by rw [nI_T (by omega)]; omega)]
      refine ok_f (show ¬ bI true = 0 by decide) ?_
      refine ok_bind (ok_eq (m_in_eq _ 0 16 (by omega) (by omega) st) ?_)
      rw [decide_eq_true (show (((0 : Nat) : Int) ≤ (nI m).toInt ∧ (nI m).toInt ≤ ((16 : Nat) : Int)) by rw [nI_T (by omega)]; omega)]
      refine ok_f (show ¬ bI true = 0 by decide) ?_
      rw [e4 _ hI.2.1.1]
      refine ok_t (nI_le (by omega) (by omega)) ?_
      have hI2 : InvM (A.1, [], A.2.2) (sI st 58 19 0) := hI.tape ⟨by rw [sI_self]; rfl, fun j hj => by simp at hj⟩ (Fr.rf.sI rfl)
      refine ok_bind (mI_opens (A := (A.1, [], A.2.2)) ⟨hA.1, by simp, by simp, hA.2.2.2⟩ hI2 hv (fun s2 hF hr hp => ?_))
      refine ok_eq (m_check_loop (tp := A.2.1) (n := A.1.1) (fun j hj => by rw [hF 65 j (by simp [inL, LO]), sI_row _ _ _ _ (by decide)]; exact hI.2.1.2 j hj) hr.1 hn hy (by omega) hm2 hl hp m 0 1000000 (by omega) (by omega) (by omega)) ⟨rfl, hI2.same (hF.okM rfl), fun c j hc => ?_⟩
      rw [hF.hi rfl c j hc, sI_row _ _ _ _ (by omega)]
  · refine ⟨A, -2, hA, xok_fr [] rfl (fun st hI => ?_), mok_fr [] rfl (fun st hI => ?_)⟩
    · unfold f_x_check
      rw [hI.1.1, hI.2.1.1]
      refine ok_if (fun _ => ok_some ⟨rfl, Fr.rf⟩) (fun c1 => ok_if (fun _ => ok_some ⟨rfl, Fr.rf⟩) (fun c2 => ok_if (fun _ => ok_some ⟨rfl, Fr.rf⟩) (fun c3 => ok_if (fun _ => ok_some ⟨rfl, Fr.rf⟩) (fun c4 => ok_if (fun c5 => ?_) (fun _ => ok_some ⟨rfl, Fr.rf⟩)))))
      rw [i_lt, i_z] at c1 c3
      rw [i_le, nI_T (by omega)] at c2
      rw [i_lt, show (16 : Int32).toInt = 16 from rfl] at c4
      obtain ⟨m, hm, rfl⟩ := i_natLt (N := 17) (x := a1) (by omega) (by omega)
      rw [show (4 : Int32) * nI m = nI (4 * m) from pk_mul 4 m, nI_leI (by omega) (by omega)] at c5
      rw [nI_T (by omega)] at hg c3 c4
      omega
    · unfold f_m_check
      rw [eN _ hI.1.1]
      refine ok_bind (ok_eq (m_in_eq _ 0 (A.1.1 - 1) (by omega) (by omega) st) ?_)
      refine okc_b _ (fun _ => ok_some ⟨rfl, Fr.rf⟩) (fun c1 => ?_)
      refine ok_bind (ok_eq (m_in_eq _ 0 16 (by omega) (by omega) st) ?_)
      refine okc_b _ (fun _ => ok_some ⟨rfl, Fr.rf⟩) (fun c2 => ?_)
      have c1 := of_decide_eq_true c1
      have c2 := of_decide_eq_true c2
      rw [e4 _ hI.2.1.1]
      refine ok_f (fun c3 => ?_) (ok_some ⟨rfl, Fr.rf⟩)
      rw [i_le, nI_T (by omega)] at c3
      omega)
/-! draw -/
def drw (t : Nat) : Nat → Nat → Int32 × Nat
  | 0, x => (0, x)
  | i + 1, x => (if ((25173 * (drw t i x).2 + 13849) % 65536) % 10 < t then (drw t i x).1 ||| ((1 : Int32) <<< (nI i &&& 31)) else (drw t i x).1, (25173 * (drw t i x).2 + 13849) % 65536)
theorem drw_lt (t : Nat) : ∀ i x, x < 65536 → (drw t i x).2 < 65536
  | 0, x, h => h
  | i + 1, x, h => Nat.mod_lt _ (by decide)
theorem x_draw_loop {st : Mm} {m t X : Nat} (hm : st.1 1 3 = nI m) (hm8 : m ≤ 8) (ht : t ≤ 10) (hX : X < 65536) (h1 : st.1 1 1 = nI X) : ∀ r i k s, i + r = m → r + 1 ≤ k → s = sI st 1 1 (nI (drw t i X).2) → f_x_draw_16 k (nI t) (drw t i X).1 (nI i) s = some ((drw t m X).1, sI st 1 1 (nI (drw t m X).2)) := by
  intro r
  induction r with
  | zero =>
    intro i k s h2 h3 h4
    obtain ⟨k, rfl⟩ := nat_suc (show 0 + 1 ≤ k by omega)
    have e : i = m := by omega
    subst e
    show b_x_draw_16 (f_x_draw_16 k) _ _ _ s = _
    unfold b_x_draw_16
    rw [h4, sI_col _ _ _ _ (by decide), hm, if_pos (Int32.le_refl _)]
  | succ r ih =>
    intro i k s h2 h3 h4
    obtain ⟨k, rfl⟩ := nat_suc (show 0 + 1 ≤ k by omega)
    have hx := drw_lt t i X hX
    have e1 : ((25173 : Int32) * nI (drw t i X).2 + (13849 : Int32)) &&& (65535 : Int32) = nI ((25173 * (drw t i X).2 + 13849) % 65536) := by
      rw [show (25173 : Int32) * nI (drw t i X).2 = nI (25173 * (drw t i X).2) from pk_mul 25173 _, show nI (25173 * (drw t i X).2) + (13849 : Int32) = nI (25173 * (drw t i X).2 + 13849) from nI_add _ 13849]
      exact pk_andN (by omega) 16 (by decide)
    have e2 : ∀ y, y < 65536 → nI y - nI y / (10 : Int32) * (10 : Int32) = nI (y % 10) := fun y hy => pk_rem (d := 10) (by omega) (by omega) (by omega)
    have e3 : ∀ v, sI s 1 1 v = sI st 1 1 v := fun v => by
      rw [h4]
      refine Prod.ext (funext fun a => funext fun b => ?_) rfl
      rw [sI_at, sI_at, sI_at]
      split <;> rfl
    show b_x_draw_16 (f_x_draw_16 k) _ _ _ s = _
    unfold b_x_draw_16
    rw [show s.1 1 3 = nI m by rw [h4, sI_col _ _ _ _ (by decide), hm], if_neg (nI_ge (by omega) (by omega)), lt_eq, show s.1 1 1 = nI (drw t i X).2 by rw [h4, sI_self], e1, sI_self, e2 _ (Nat.mod_lt _ (by decide)), e3]
    have := ih (i + 1) k _ (by omega) (by omega) rfl
    by_cases hc : ((25173 * (drw t i X).2 + 13849) % 65536) % 10 < t
    · rw [if_neg (nI_ge hc (by omega)), lt_eq, lt_eq, nI_1]
      simp only [drw, hc, if_true] at this
      exact this
    · rw [if_pos (nI_le (by omega) (by omega)), lt_eq, nI_1]
      simp only [drw, hc, if_false] at this
      exact this
theorem m_draw_loop {st : Mm} {m t X : Nat} (hm : st.1 58 1 = nI m) (hm8 : m ≤ 8) (ht : t ≤ 10) (hX : X < 65536) (h1 : st.1 58 3 = nI X) : ∀ r i k s, i + r = m → r + 1 ≤ k → s = sI st 58 3 (nI (drw t i X).2) → f_m_draw_16 k (nI t) (drw t i X).1 (nI i) s = some ((drw t m X).1, sI st 58 3 (nI (drw t m X).2)) := by
  intro r
  induction r with
  | zero =>
    intro i k s h2 h3 h4
    obtain ⟨k, rfl⟩ := nat_suc (show 0 + 1 ≤ k by omega)
    have e : i = m := by omega
    subst e
    show b_m_draw_16 (f_m_draw_16 k) _ _ _ s = _
    unfold b_m_draw_16
    rw [h4, sI_col _ _ _ _ (by decide), hm, if_pos (Int32.le_refl _)]
  | succ r ih =>
    intro i k s h2 h3 h4
    obtain ⟨k, rfl⟩ := nat_suc (show 0 + 1 ≤ k by omega)
    have hx := drw_lt t i X hX
    have e0 : (25173 : Int32) * nI (drw t i X).2 + (13849 : Int32) = nI (25173 * (drw t i X).2 + 13849) := by
      rw [show (25173 : Int32) * nI (drw t i X).2 = nI (25173 * (drw t i X).2) from pk_mul 25173 _]
      exact nI_add _ 13849
    have e1 : nI (25173 * (drw t i X).2 + 13849) - nI (25173 * (drw t i X).2 + 13849) / (65536 : Int32) * (65536 : Int32) = nI ((25173 * (drw t i X).2 + 13849) % 65536) := pk_rem (d := 65536) (by omega) (by omega) (by omega)
    have e2 : ∀ y, y < 65536 → nI y - nI y / (10 : Int32) * (10 : Int32) = nI (y % 10) := fun y hy => pk_rem (d := 10) (by omega) (by omega) (by omega)
    have e3 : ∀ v, sI s 58 3 v = sI st 58 3 v := fun v => by
      rw [h4]
      refine Prod.ext (funext fun a => funext fun b => ?_) rfl
      rw [sI_at, sI_at, sI_at]
      split <;> rfl
    show b_m_draw_16 (f_m_draw_16 k) _ _ _ s = _
    unfold b_m_draw_16
    rw [show s.1 58 1 = nI m by rw [h4, sI_col _ _ _ _ (by decide), hm], if_neg (nI_ge (by omega) (by omega)), lt_eq, show s.1 58 3 = nI (drw t i X).2 by rw [h4, sI_self], e0, e1, sI_self, e2 _ (Nat.mod_lt _ (by decide)), e3]
    have := ih (i + 1) k _ (by omega) (by omega) rfl
    by_cases hc : ((25173 * (drw t i X).2 + 13849) % 65536) % 10 < t
    · rw [if_neg (nI_ge hc (by omega)), lt_eq, lt_eq, nI_1]
      simp only [drw, hc, if_true] at this
      exact this
    · rw [if_pos (nI_le (by omega) (by omega)), lt_eq, nI_1]
      simp only [drw, hc, if_false] at this
      exact this
theorem st_draw (a0 : Int32) : Step1 Inv (f_x_draw a0) (f_m_draw a0) := step_of (fun A hA => by
  rcases in_cases a0 0 10 with hc | ⟨k, _, hk, _, rfl, hc⟩
  · refine ⟨A, -1, hA, xok_fr [] rfl (fun st hI => ?_), mok_fr [] rfl (fun st hI => ?_)⟩
    · have h2 := of_decide_eq_false hc
      unfold f_x_draw
      refine ok_if (fun _ => ok_some ⟨rfl, Fr.rf⟩) (fun c1 => ok_if (fun c2 => ?_) (fun _ => ok_some ⟨rfl, Fr.rf⟩))
      rw [i_lt, i_z] at c1
      rw [i_le, show (10 : Int32).toInt = 10 from rfl] at c2
      omega
    · unfold f_m_draw
      refine ok_bind (ok_eq (m_in_eq a0 0 10 (by omega) (by omega) st) ?_)
      rw [hc]
      exact ok_t rfl (ok_some ⟨rfl, Fr.rf⟩)
  · obtain ⟨⟨n, x, s, l, c, w, d⟩, tp, kp⟩ := A
    obtain ⟨⟨q1, q2, q3, q4, q5, q6, q7⟩, q8⟩ := hA
    simp only at q4 q6
    refine ⟨((n, (drw k l.length x).2, s, l, c, w, d), tp, kp), (drw k l.length x).1, ⟨⟨q1, q2, q3, drw_lt _ _ _ q4, q5, q6, q7⟩, q8⟩, fun st hI => ?_, fun st hI => ?_⟩
    · unfold f_x_draw
      refine ok_f (nI_pos (by omega)) (ok_t (show nI k ≤ nI 10 from nI_le (by omega) (by omega)) ?_)
      refine ok_eq (x_draw_loop (m := l.length) (X := x) hI.1.2.2.2.1 q6 hk q4 hI.1.2.1 l.length 0 1000000 st (by omega) (by omega) (sI_idem hI.1.2.1).symm) ⟨rfl, ?_, fun c j hc => by rw [sI_row _ _ _ _ (by omega)]⟩
      refine hI.setT ?_ (fun c j _ h5 => by rw [sI_row _ _ _ _ (by omega)]) (by rw [sI_row _ _ _ _ (by decide)]) rfl rfl rfl (Or.inr ⟨rfl, by rw [sI_row _ _ _ _ (by decide)], by rw [sI_row _ _ _ _ (by decide)]⟩)
      obtain ⟨⟨g0, g1, g2, g3, g4, g5, g6, g7⟩, _⟩ := hI
      refine ⟨by rw [sI_col _ _ _ _ (by decide)]; exact g0, sI_self _ _ _ _, by rw [sI_col _ _ _ _ (by decide)]; exact g2, by rw [sI_col _ _ _ _ (by decide)]; exact g3, ?_, ?_, ?_, ?_⟩
      all_goals (rw [sI_row _ _ _ _ (by decide)]; assumption)
    · unfold f_m_draw
      refine ok_bind (ok_eq (m_in_eq _ 0 10 (by omega) (by omega) st) ?_)
      rw [hc]
      refine ok_f (show ¬ bI true = 0 by decide) ?_
      refine ok_eq (m_draw_loop (m := l.length) (X := x) hI.1.2.2.2.1 q6 hk q4 hI.1.2.1 l.length 0 1000000 st (by omega) (by omega) (sI_idem hI.1.2.1).symm) ⟨rfl, ?_, fun c j hc => by rw [sI_row _ _ _ _ (by omega)]⟩
      refine hI.setT ?_ (fun c j hcj => by
        by_cases e : c = 58
        · subst e; rw [sI_col _ _ _ _ (by omega)]
        · rw [sI_row _ _ _ _ e])
      obtain ⟨⟨g0, g1, g2, g3, g4, g5, g6, g7⟩, _⟩ := hI
      refine ⟨by rw [sI_col _ _ _ _ (by decide)]; exact g0, sI_self _ _ _ _, by rw [sI_col _ _ _ _ (by decide)]; exact g2, by rw [sI_col _ _ _ _ (by decide)]; exact g3, ?_, ?_, ?_, ?_⟩
      all_goals (rw [sI_row _ _ _ _ (by decide)]; assumption))
