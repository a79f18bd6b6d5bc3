/-- what is told of folding in a wedge of the reference: side, folds, and the folding laid out -/
def mRec (st : Mm) (n : Nat) (l : List Nat) (v : Wd) : Prop := st.1 58 0 = nI n ∧ n ≤ 16 ∧ l.length ≤ 9 ∧ (∀ f ∈ l, f < 256) ∧ fds l (n, n, 0) = some v ∧ st.1 58 12 = nI l.length ∧ (∀ j, j < l.length → st.1 63 j = nI (l.getD j 0)) ∧ mW st v
/-- whether a cell has paper: the cut places are told by c -/
def papS (c : Nat → Bool) (sl : Nat → Nat) (l : List Nat) (n x y : Nat) : Bool := match cbs sl l 0 (x, y, n, n) with
  | none => true
  | some z => !c (16 * z.2.1 + z.1)
def bI (b : Bool) : Int32 := if b then 1 else 0
theorem bI_0 {b : Bool} : bI b = 0 ↔ b = false := by cases b <;> simp [bI] <;> decide
theorem bI_1 {b : Bool} : bI b = 1 ↔ b = true := by cases b <;> simp [bI] <;> decide
theorem fds_le : ∀ (l : List Nat) (w v : Wd), fds l w = some v → v.1 ≤ w.1 ∧ v.2.1 ≤ w.2.1 ∧ v.2.2 ≤ max w.2.2 1 := by
  intro l
  induction l with
  | nil => intro w v h; cases h; exact ⟨Nat.le_refl _, Nat.le_refl _, by omega⟩
  | cons f l ih =>
    intro w v h
    simp only [fds] at h
    obtain ⟨u, h1, h2⟩ := Option.bind_eq_some_iff.mp h
    have a := fold1_le h1
    have b := ih u v h2
    exact ⟨by omega, by omega, by omega⟩
theorem m_hasPaper_ok {st : Mm} {n x y : Nat} {l : List Nat} {v : Wd} {s : Int32} {c : Nat → Bool} {P : Int32 × Mm → Prop} (hr : mRec st n l v) (hx : x < n) (hy : y < n) (hc : ∀ k, k < 256 → st.1 61 k = bI (c k)) (h : ∀ s2, Fr LB st s2 → P (bI (papS c (slb s) l n x y), s2)) : Ok (f_m_hasPaper (nI x) (nI y) s st) P := by
  obtain ⟨r1, r2, r3, r4, r5, r6, r7, r8⟩ := hr
  unfold f_m_hasPaper
  refine ok_bind (m_placeOf_ok r1 (by omega) hx hy r3 r6 r7 r4 r5 (fun h0 s2 hF => ?_) (fun z hz hcw s2 hF => ?_))
  · refine ok_t rfl (ok_some ?_)
    have := h s2 hF
    rw [papS, h0] at this
    exact this
  · have hle := fds_le l _ v r5
    simp only at hle
    obtain ⟨g1, g2, g3, g4⟩ := hcw
    have hz2 : 16 * z.2.1 + z.1 < 256 := by omega
    refine ok_f ?_ (ok_t (inb_nI hz2 (by omega)) ?_)
    · show ¬ nI (16 * z.2.1 + z.1) = -1
      intro e
      have := congrArg Int32.toInt e
      rw [nI_T (by omega)] at this
      have e2 : (-1 : Int32).toInt = -1 := rfl
      omega
    · have := h s2 hF
      simp only [papS, hz] at this
      simp only [cl_nI (show 16 * z.2.1 + z.1 < 2147483648 by omega)]
      rw [hF 61 _ (by simp [inL, LB]), hc _ hz2]
      cases hcc : c (16 * z.2.1 + z.1)
      · refine ok_t rfl (ok_some ?_)
        simp only [hcc] at this
        exact this
      · refine ok_f (by decide) (ok_some ?_)
        simp only [hcc] at this
        exact this
theorem i_z : (0 : Int32).toInt = 0 := rfl
theorem m_isCell_gen {st : Mm} {n : Nat} (hn : st.1 58 0 = nI n) (hn2 : n ≤ 16) (x y : Int32) : f_m_isCell x y st = some (bI (decide (0 ≤ x.toInt ∧ x.toInt < n ∧ 0 ≤ y.toInt ∧ y.toInt < n)), st) := by
  unfold f_m_isCell
  rw [hn]
  simp only [i_lt, i_le, i_z, nI_T (show n < 2147483648 by omega)]
  repeat' split
  all_goals first | (rw [decide_eq_false (by omega)]; rfl) | (rw [decide_eq_true (by omega)]; rfl)
theorem m_isCell_eq {st : Mm} {n : Nat} (hn : st.1 58 0 = nI n) (hn2 : n ≤ 16) {x y : Nat} (hx : x < 65536) (hy : y < 65536) : f_m_isCell (nI x) (nI y) st = some (bI (decide (x < n ∧ y < n)), st) := by
  rw [m_isCell_gen hn hn2, nI_T (by omega), nI_T (by omega)]
  congr 3
  exact decide_eq_decide.mpr (by omega)
def LO : List (Nat × Option Nat) := [(58, some 8), (58, some 9), (58, some 10), (58, some 12), (58, some 13), (58, some 14), (58, some 15), (58, some 16), (63, none), (72, none)]
/-- the reference's paper laid out, with slips -/
theorem m_opens0_ok {st : Mm} {n : Nat} {l : List Nat} {v : Wd} {s : Int32} {c : Nat → Bool} {P : Unit × Mm → Prop} (hn : st.1 58 0 = nI n) (hn2 : n ≤ 16) (k9 : l.length ≤ 9) (hl2 : ∀ f ∈ l, f < 256) (h0 : st.1 58 1 = nI l.length) (hF0 : ∀ j, j < l.length → st.1 59 j = nI (l.getD j 0)) (hf : fds l (n, n, 0) = some v) (hc : ∀ k, k < 256 → st.1 61 k = bI (c k))
    (hs : ∀ s2, Fr LO st s2 → mRec s2 n l v → (∀ k, k < 256 → s2.1 72 k = bI (decide (k % 16 < n ∧ k / 16 < n) && papS c (slb s) l n (k % 16) (k / 16))) → P ((), s2)) : Ok (f_m_opens0 s st) P := by
  unfold f_m_opens0
  refine ok_bind (m_laysRecipe_ok hn (by omega) k9 hl2 h0 hF0 hf (fun s1 hF1 hw1 hb1 hm1 => ?_))
  have hr1 : mRec s1 n l v := ⟨by rw [hF1 58 0 rfl]; exact hn, hn2, k9, hl2, hf, hm1, hb1, hw1⟩
  have hFL : Fr LO st s1 := hF1.wk (by decide)
  refine ok_up0 (fun m k a => f_m_opens0_6 m s k a) (fun i a => Fr LO st a ∧ mRec a n l v ∧ ∀ k, k < i → a.1 72 k = bI (decide (k % 16 < n ∧ k / 16 < n) && papS c (slb s) l n (k % 16) (k / 16))) P 256 (by omega) ⟨hFL, hr1, fun k hk => by omega⟩ ?_ ?_
  · intro m i a hi hI ih
    obtain ⟨hF, hr, hp⟩ := hI
    show Ok (b_m_opens0_6 (f_m_opens0_6 m) s (nI i) a) P
    unfold b_m_opens0_6
    refine ok_f (show ¬ nI 256 ≤ nI i by rw [nI_leI (by omega) (by omega)]; omega) ?_
    have e1 : nI i / (16 : Int32) = nI (i / 16) := pk_div (a := i) (d := 16) (by omega) (by omega) (by omega)
    have e2 : nI i - nI i / (16 : Int32) * (16 : Int32) = nI (i % 16) := pk_rem (a := i) (d := 16) (by omega) (by omega) (by omega)
    rw [e2, e1, m_isCell_eq hr.1 hn2 (by omega) (by omega)]
    refine ok_bind (ok_some ?_)
    have hib : inb (nI i) 256 := inb_nI hi (by omega)
    have fin : ∀ (b : Mm) (z : Bool), Fr LO st b → mRec b n l v → (∀ k, k < i → b.1 72 k = a.1 72 k) → z = (decide (i % 16 < n ∧ i / 16 < n) && papS c (slb s) l n (i % 16) (i / 16)) → Ok (f_m_opens0_6 m s (nI i + 1) (sI b 72 (nI i).toNatClampNeg (bI z))) P := by
      intro b z hFb hrb hpb hz
      rw [nI_1, cl_nI (by omega)]
      refine ih _ ⟨hFb.sI (by simp [inL, LO]), ?_, ?_⟩
      · obtain ⟨r1, r2, r3, r4, r5, r6, r7, r8, r9, r10⟩ := hrb
        exact ⟨by simp [sI_at, r1], r2, r3, r4, r5, by simp [sI_at, r6], fun j hj => by simp [sI_at, r7 j hj], by simp [sI_at, r8], by simp [sI_at, r9], by simp [sI_at, r10]⟩
      · intro k hk
        rw [sI_at]
        by_cases hki : k = i
        · subst hki; simp [hz]
        · simp only [hki, and_false, reduceIte]
          rw [hpb k (by omega)]
          exact hp k (by omega)
    by_cases hcell : i % 16 < n ∧ i / 16 < n
    · refine ok_f (by simp [hcell, bI]) ?_
      refine ok_bind (m_hasPaper_ok hr hcell.1 hcell.2 (fun k hk => by rw [hF 61 k (by simp [inL, LO])]; exact hc k hk) (fun s2 hF2 => ?_))
      have hr2 : mRec s2 n l v := by
        obtain ⟨r1, r2, r3, r4, r5, r6, r7, r8, r9, r10⟩ := hr
        exact ⟨by rw [hF2 58 0 rfl]; exact r1, r2, r3, r4, r5, by rw [hF2 58 12 rfl]; exact r6, fun j hj => by rw [hF2 63 j (by simp [inL, LB])]; exact r7 j hj, by rw [hF2 58 8 rfl]; exact r8, by rw [hF2 58 9 rfl]; exact r9, by rw [hF2 58 10 rfl]; exact r10⟩
      cases hpp : papS c (slb s) l n (i % 16) (i / 16)
      · refine ok_t rfl (ok_t hib (ok_lt ?_))
        exact fin s2 false (hF.tr (hF2.wk (by decide))) hr2 (fun k hk => hF2 72 k (by simp [inL, LB])) (by simp [hpp])
      · refine ok_f (show ¬ bI true = 0 by decide) (ok_t hib (ok_lt ?_))
        exact fin s2 true (hF.tr (hF2.wk (by decide))) hr2 (fun k hk => hF2 72 k (by simp [inL, LB])) (by simp [hpp, hcell])
    · refine ok_t (by simp [hcell, bI]) (ok_t hib (ok_lt ?_))
      exact fin a false hF hr (fun k hk => rfl) (by simp [hcell])
  · intro m a hI
    obtain ⟨hF, hr, hp⟩ := hI
    show Ok (b_m_opens0_6 (f_m_opens0_6 m) s (nI 256) a) P
    unfold b_m_opens0_6
    exact ok_t (by decide) (ok_some (hs a hF hr hp))
