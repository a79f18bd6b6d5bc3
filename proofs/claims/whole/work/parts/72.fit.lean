/-! folds a, b, d tried on what is wanted -/
theorem ne10 : ¬ (1 : Int32) = 0 := by decide
theorem nbt : ¬ bI true = 0 := by decide
theorem x_fill_ok {st : Mm} {ar N : Nat} {z : Int32} {P : Unit × Mm → Prop} (hN : N ≤ 9000) (h : ∀ s2, Fr [(ar, none)] st s2 → (∀ j, j < N → s2.1 ar j = z) → P ((), s2)) : Ok (f_Arr_fill ar N z st) P := by
  unfold f_Arr_fill
  refine ok_lt ?_
  refine ok_upF (fun m i a => f_Arr_fill_5 ar N m z i (Int32.ofNat N) a) (fun i a => Fr [(ar, none)] st a ∧ ∀ j, j < i → a.1 ar j = z) P N (by omega) ⟨Fr.rf, fun j hj => by omega⟩ ?_ ?_
  · rintro m i a hi ⟨hF, hz⟩ ih
    show Ok (b_Arr_fill_5 ar N (f_Arr_fill_5 ar N m) z (nI i) (nI N) a) P
    unfold b_Arr_fill_5
    refine ok_f (nI_ge hi (by omega)) (ok_t (inb_nI hi (by omega)) (ok_lt ?_))
    rw [nI_1, cl_nI (by omega)]
    refine ih _ ⟨hF.sI (by simp [inL]), fun j hj => ?_⟩
    rw [sI_at]
    by_cases e : j = i
    · simp [e]
    · simp only [e, and_false, reduceIte]; exact hz j (by omega)
  · rintro m a ⟨hF, hz⟩
    show Ok (b_Arr_fill_5 ar N (f_Arr_fill_5 ar N m) z (nI N) (nI N) a) P
    unfold b_Arr_fill_5
    exact ok_t (Int32.le_refl _) (ok_some (h a hF hz))
def fl (a b d : Nat) : List Nat := List.replicate a 104 ++ (List.replicate b 118 ++ List.replicate d 100)
theorem fl_mem {a b d : Nat} : ∀ f ∈ fl a b d, f = 104 ∨ f = 118 ∨ f = 100 := by
  intro f hf
  unfold fl at hf
  simp only [List.mem_append, List.mem_replicate] at hf
  rcases hf with h | h | h
  · exact Or.inl h.2
  · exact Or.inr (Or.inl h.2)
  · exact Or.inr (Or.inr h.2)
theorem fl_len (a b d : Nat) : (fl a b d).length = a + b + d := by unfold fl; simp; omega
def LFt : List (Nat × Option Nat) := [(46, none), (47, none), (48, none), (49, none), (50, none), (51, none)]
def LF3 : List (Nat × Option Nat) := [(47, none), (48, none), (49, none)]
theorem x_ff77_no (m : Nat) (v3 v4 v6 : Int32) (s : Mm) : f_Fit_fold_77 (m + 1) v3 v4 0 v6 s = some (0, s) := by
  show b_Fit_fold_77 (f_Fit_fold_77 m) v3 v4 0 v6 s = _
  unfold b_Fit_fold_77 b_Fit_fold_106
  split <;> rfl
theorem x_ff45_no (m : Nat) (v2 v3 v4 v6 : Int32) (s : Mm) : f_Fit_fold_45 (m + 1) v2 v3 v4 0 v6 s = some (0, s) := by
  show b_Fit_fold_45 (f_Fit_fold_45 m) v2 v3 v4 0 v6 s = _
  unfold b_Fit_fold_45 b_Fit_fold_74
  rw [show (1000000 : Nat) = 999999 + 1 from rfl, x_ff77_no]
  split <;> rfl
theorem x_ff77_ok {n a b d : Nat} {st : Mm} {P : Int32 × Mm → Prop} (hb : b ≤ 4) (hd : d ≤ 1)
    (h0 : fds (fl a b d) (n, n, 0) = none → ∀ s2, Fr LF3 st s2 → P (0, s2)) (h1 : ∀ v, fds (fl a b d) (n, n, 0) = some v → ∀ s2, Fr LF3 st s2 → FoS s2 47 48 49 n (fl a b d) (slb 0) v → P (1, s2)) :
    ∀ r m l s u, r ≤ b → r + 2 ≤ m → l ++ (List.replicate r 118 ++ List.replicate d 100) = fl a b d → FoS s 47 48 49 n l (slb 0) u → fds (List.replicate r 118 ++ List.replicate d 100) u = fds (fl a b d) (n, n, 0) → Fr LF3 st s → Ok (f_Fit_fold_77 m (nI b) (nI d) 1 (nI (b - r)) s) P := by
  intro r
  induction r with
  | zero =>
    intro m l s u _ hm hl hS hf hF
    obtain ⟨m, rfl⟩ := nat_suc (show 0 + 1 ≤ m by omega)
    show Ok (b_Fit_fold_77 (f_Fit_fold_77 m) _ _ _ _ s) P
    unfold b_Fit_fold_77 b_Fit_fold_106
    rw [Nat.sub_zero]
    refine ok_t (Int32.le_refl _) (ok_f (by decide) ?_)
    rw [List.replicate_zero, List.nil_append] at hl hf
    rcases Nat.lt_or_ge 0 d with h | h
    · have e : d = 1 := by omega
      subst e
      refine ok_f (by decide) ?_
      have hx : Ok (f_Fold_fold 47 48 49 (nI 100) (nI (slb 0 l.length)) s) (fun q => Ok (if q.1 = 0 then some ((0 : Int32), q.2) else some ((1 : Int32), q.2)) P) := by
        refine x_fold_ok (by decide) (by decide) (by decide) hS (by decide) (slb_lt _ _) (fun e => ok_t rfl (ok_some (h0 ?_ s hF))) (fun z hz s2 hF2 hS2 => ok_f ne10 (ok_some (h1 z ?_ s2 (hF.tr hF2) ?_)))
        · rw [← hf]; show (fold1 100 u).bind _ = none; rw [e]; rfl
        · rw [← hf]; show (fold1 100 u).bind (fds []) = some z; rw [hz]; rfl
        · rw [← hl]; exact hS2
      rw [slb0] at hx
      exact ok_bind hx
    · have e : d = 0 := by omega
      subst e
      refine ok_t rfl (ok_some (h1 u ?_ s hF ?_))
      · rw [← hf]; rfl
      · rw [← hl]; simpa using hS
  | succ r ih =>
    intro m l s u hr hm hl hS hf hF
    obtain ⟨m, rfl⟩ := nat_suc (show 0 + 1 ≤ m by omega)
    show Ok (b_Fit_fold_77 (f_Fit_fold_77 m) _ _ _ _ s) P
    unfold b_Fit_fold_77
    refine ok_f (nI_ge (by omega) (by omega)) (ok_f (by decide) ?_)
    have hx : Ok (f_Fold_fold 47 48 49 (nI 118) (nI (slb 0 l.length)) s) (fun q => Ok (lt_ (nI (b - (r + 1)) + (1 : Int32)) (fun a4 => f_Fit_fold_77 m (nI b) (nI d) q.1 a4 q.2)) P) := by
      refine x_fold_ok (by decide) (by decide) (by decide) hS (by decide) (slb_lt _ _) (fun e => ok_lt ?_) (fun z hz s2 hF2 hS2 => ok_lt ?_)
      · obtain ⟨m, rfl⟩ := nat_suc (show 0 + 1 ≤ m by omega)
        refine ok_eq (x_ff77_no m _ _ _ s) (h0 ?_ s hF)
        rw [← hf]; show (fold1 118 u).bind _ = none; rw [e]; rfl
      · rw [nI_1, show b - (r + 1) + 1 = b - r by omega]
        refine ih m (l ++ [118]) s2 z (by omega) (by omega) ?_ hS2 ?_ (hF.tr hF2)
        · rw [← hl, List.append_assoc]; rfl
        · rw [← hf]; show _ = (fold1 118 u).bind _; rw [hz]; rfl
    rw [slb0] at hx
    exact ok_bind hx
theorem x_ff45_ok {n a b d : Nat} {st : Mm} {P : Int32 × Mm → Prop} (ha : a ≤ 4) (hb : b ≤ 4) (hd : d ≤ 1)
    (h0 : fds (fl a b d) (n, n, 0) = none → ∀ s2, Fr LF3 st s2 → P (0, s2)) (h1 : ∀ v, fds (fl a b d) (n, n, 0) = some v → ∀ s2, Fr LF3 st s2 → FoS s2 47 48 49 n (fl a b d) (slb 0) v → P (1, s2)) :
    ∀ r m l s u, r ≤ a → r + 2 ≤ m → l ++ (List.replicate r 104 ++ (List.replicate b 118 ++ List.replicate d 100)) = fl a b d → FoS s 47 48 49 n l (slb 0) u → fds (List.replicate r 104 ++ (List.replicate b 118 ++ List.replicate d 100)) u = fds (fl a b d) (n, n, 0) → Fr LF3 st s → Ok (f_Fit_fold_45 m (nI a) (nI b) (nI d) 1 (nI (a - r)) s) P := by
  intro r
  induction r with
  | zero =>
    intro m l s u _ hm hl hS hf hF
    obtain ⟨m, rfl⟩ := nat_suc (show 0 + 1 ≤ m by omega)
    show Ok (b_Fit_fold_45 (f_Fit_fold_45 m) _ _ _ _ _ s) P
    unfold b_Fit_fold_45 b_Fit_fold_74
    rw [Nat.sub_zero]
    refine ok_t (Int32.le_refl _) ?_
    rw [List.replicate_zero, List.nil_append] at hl hf
    have := x_ff77_ok hb hd h0 h1 b 1000000 l s u (Nat.le_refl _) (by omega) hl hS hf hF
    rw [Nat.sub_self] at this
    exact this
  | succ r ih =>
    intro m l s u hr hm hl hS hf hF
    obtain ⟨m, rfl⟩ := nat_suc (show 0 + 1 ≤ m by omega)
    show Ok (b_Fit_fold_45 (f_Fit_fold_45 m) _ _ _ _ _ s) P
    unfold b_Fit_fold_45
    refine ok_f (nI_ge (by omega) (by omega)) (ok_f (by decide) ?_)
    have hx : Ok (f_Fold_fold 47 48 49 (nI 104) (nI (slb 0 l.length)) s) (fun q => Ok (lt_ (nI (a - (r + 1)) + (1 : Int32)) (fun a4 => f_Fit_fold_45 m (nI a) (nI b) (nI d) q.1 a4 q.2)) P) := by
      refine x_fold_ok (by decide) (by decide) (by decide) hS (by decide) (slb_lt _ _) (fun e => ok_lt ?_) (fun z hz s2 hF2 hS2 => ok_lt ?_)
      · obtain ⟨m, rfl⟩ := nat_suc (show 0 + 1 ≤ m by omega)
        refine ok_eq (x_ff45_no m _ _ _ _ s) (h0 ?_ s hF)
        rw [← hf]; show (fold1 104 u).bind _ = none; rw [e]; rfl
      · rw [nI_1, show a - (r + 1) + 1 = a - r by omega]
        refine ih m (l ++ [104]) s2 z (by omega) (by omega) ?_ hS2 ?_ (hF.tr hF2)
        · rw [← hl, List.append_assoc]; rfl
        · rw [← hf]; show _ = (fold1 104 u).bind _; rw [hz]; rfl
    rw [slb0] at hx
    exact ok_bind hx
/-- the numbers told are folds -/
def foA (a b d : Int32) : Prop := 0 ≤ a.toInt ∧ a.toInt ≤ 4 ∧ 0 ≤ b.toInt ∧ b.toInt ≤ 4 ∧ 0 ≤ d.toInt ∧ d.toInt ≤ 1
theorem foA_cases (a b d : Int32) : ¬ foA a b d ∨ ∃ x y z : Nat, x ≤ 4 ∧ y ≤ 4 ∧ z ≤ 1 ∧ a = nI x ∧ b = nI y ∧ d = nI z := by
  rcases Classical.em (foA a b d) with h | h
  · obtain ⟨h1, h2, h3, h4, h5, h6⟩ := h
    obtain ⟨x, hx, e1⟩ := i_natLt (N := 5) h1 (by omega)
    obtain ⟨y, hy, e2⟩ := i_natLt (N := 5) h3 (by omega)
    obtain ⟨z, hz, e3⟩ := i_natLt (N := 2) h5 (by omega)
    exact Or.inr ⟨x, y, z, by omega, by omega, by omega, e1, e2, e3⟩
  · exact Or.inl h
theorem x_ffold_no {a b d v : Int32} (h : ¬ foA a b d) (st : Mm) : f_Fit_fold v a b d st = some (0, st) := by
  unfold f_Fit_fold
  simp only [i_lt, i_le, i_z, show (4 : Int32).toInt = 4 from rfl, show (1 : Int32).toInt = 1 from rfl]
  repeat' split
  all_goals first | rfl | (unfold foA at h; omega)
theorem x_ffold_ok {n a b d : Nat} {st : Mm} {P : Int32 × Mm → Prop} (hn : n ≤ 16) (ha : a ≤ 4) (hb : b ≤ 4) (hd : d ≤ 1)
    (h0 : fds (fl a b d) (n, n, 0) = none → ∀ s2, Fr LF3 st s2 → P (0, s2)) (h1 : ∀ v, fds (fl a b d) (n, n, 0) = some v → ∀ s2, Fr LF3 st s2 → FoS s2 47 48 49 n (fl a b d) (slb 0) v → P (1, s2)) : Ok (f_Fit_fold (nI n) (nI a) (nI b) (nI d) st) P := by
  unfold f_Fit_fold
  refine ok_f (nI_pos (by omega)) (ok_f (show ¬ nI 4 < nI a by rw [nI_ltI (by omega) (by omega)]; omega) (ok_f (nI_pos (by omega)) (ok_f (show ¬ nI 4 < nI b by rw [nI_ltI (by omega) (by omega)]; omega) (ok_f (nI_pos (by omega)) (ok_t (show nI d ≤ nI 1 from nI_le hd (by omega)) ?_)))))
  refine ok_bind (x_start_ok (sl := slb 0) (by decide) (by decide) (by decide) hn (fun s2 hF hS => ?_))
  have := x_ff45_ok ha hb hd h0 h1 a 1000000 [] s2 (n, n, 0) (Nat.le_refl _) (by omega) rfl hS rfl hF
  rw [Nat.sub_self] at this
  exact this
/-! the reference's -/
def LFo : List (Nat × Option Nat) := [(58, some 8), (58, some 9), (58, some 10), (58, some 12), (63, none)]
theorem fl_getD {a b d k : Nat} (hk : k < a + b + d) : (fl a b d).getD k 0 = if k < a then 104 else if k < a + b then 118 else 100 := by
  unfold fl
  rw [List.getD_eq_getElem?_getD]
  by_cases h1 : k < a
  · rw [if_pos h1, List.getElem?_append_left (by simp; omega), List.getElem?_replicate, if_pos h1]; rfl
  · rw [if_neg h1, List.getElem?_append_right (by simp; omega), List.length_replicate]
    by_cases h2 : k < a + b
    · rw [if_pos h2, List.getElem?_append_left (by simp; omega), List.getElem?_replicate, if_pos (by omega)]; rfl
    · rw [if_neg h2, List.getElem?_append_right (by simp; omega), List.length_replicate, List.getElem?_replicate, if_pos (by omega)]; rfl
theorem drop_getD {l : List Nat} {k : Nat} (hk : k < l.length) : l.drop k = l.getD k 0 :: l.drop (k + 1) := by
  rw [List.drop_eq_getElem_cons hk, List.getD_eq_getElem?_getD, List.getElem?_eq_getElem hk]; rfl
theorem m_foldsSo_loop {n a b d : Nat} {st : Mm} {P : Int32 × Mm → Prop} (ha : a ≤ 4) (hb : b ≤ 4) (hd : d ≤ 1)
    (h0 : fds (fl a b d) (n, n, 0) = none → ∀ s2, Fr LFo st s2 → P (0, s2)) (h1 : ∀ v, fds (fl a b d) (n, n, 0) = some v → ∀ s2, Fr LFo st s2 → mW s2 v → s2.1 58 12 = nI (a + b + d) → (∀ j, j < a + b + d → s2.1 63 j = nI ((fl a b d).getD j 0)) → P (1, s2)) :
    ∀ r k m s u, k + r = a + b + d → r + 1 ≤ m → mW s u → u.1 < 64 → u.2.1 < 64 → u.2.2 ≤ 1 → fds ((fl a b d).drop k) u = fds (fl a b d) (n, n, 0) → Fr LFo st s → s.1 58 12 = nI k → (∀ j, j < k → s.1 63 j = nI ((fl a b d).getD j 0)) → Ok (f_m_foldsSo_41 m (nI a) (nI b) (nI d) (nI k) s) P := by
  intro r
  induction r with
  | zero =>
    intro k m s u hk hm hW _ _ _ hf hF h12 hby
    obtain ⟨m, rfl⟩ := nat_suc (show 0 + 1 ≤ m by omega)
    show Ok (b_m_foldsSo_41 (f_m_foldsSo_41 m) _ _ _ _ s) P
    unfold b_m_foldsSo_41
    rw [nI_add, nI_add]
    have e : k = a + b + d := by omega
    subst e
    refine ok_t (Int32.le_refl _) (ok_some (h1 u ?_ s hF hW h12 hby))
    rw [← hf, List.drop_of_length_le (by rw [fl_len]; exact Nat.le_refl _)]; rfl
  | succ r ih =>
    intro k m s u hk hm hW hu1 hu2 hu3 hf hF h12 hby
    obtain ⟨m, rfl⟩ := nat_suc (show 0 + 1 ≤ m by omega)
    have hgo : ∀ f : Nat, (fl a b d).getD k 0 = f → f < 256 → Ok (b_m_foldsSo_77 (f_m_foldsSo_41 m) (nI a) (nI b) (nI d) (nI k) (nI f) s) P := by
      intro f hfk hf2
      unfold b_m_foldsSo_77
      rw [drop_getD (by rw [fl_len]; omega), hfk] at hf
      refine ok_bind (m_foldsOnce_ok hW hu1 hu2 (by omega) hf2 (fun e => ok_t rfl (ok_some (h0 ?_ s hF))) (fun z hz s2 hF2 hW2 => ok_f ne10 ?_))
      · rw [← hf]; show (fold1 f u).bind _ = none; rw [e]; rfl
      · have hz1 := fold1_le hz
        have h12' : s2.1 58 12 = nI k := by rw [hF2 _ _ rfl]; exact h12
        rw [h12']
        refine ok_t (inb_nI (show k < 9 by omega) (by omega)) (ok_lt (ok_lt ?_))
        rw [cl_nI (by omega), sI_row _ _ _ _ (by decide), h12', nI_1]
        refine ih (k + 1) m _ z (by omega) (by omega) ?_ (by omega) (by omega) (by omega) ?_ (((hF.tr (hF2.wk (by decide))).sI rfl).sI rfl) (sI_self _ _ _ _) (fun j hj => ?_)
        · exact ⟨by rw [sI_col _ _ _ _ (by decide), sI_row _ _ _ _ (by decide)]; exact hW2.1, by rw [sI_col _ _ _ _ (by decide), sI_row _ _ _ _ (by decide)]; exact hW2.2.1, by rw [sI_col _ _ _ _ (by decide), sI_row _ _ _ _ (by decide)]; exact hW2.2.2⟩
        · rw [← hf]; show _ = (fold1 f u).bind _; rw [hz]; rfl
        · rw [sI_row _ _ _ _ (by decide), sI_at]
          by_cases e : j = k
          · subst e; simp only [and_self, reduceIte]; rw [hfk]
          · simp only [e, and_false, reduceIte]; rw [hF2 _ _ (by simp [inL, LW])]; exact hby j (by omega)
    have hg := fl_getD (a := a) (b := b) (d := d) (k := k) (by omega)
    show Ok (b_m_foldsSo_41 (f_m_foldsSo_41 m) _ _ _ _ s) P
    unfold b_m_foldsSo_41
    rw [nI_add, nI_add]
    refine ok_f (nI_ge (by omega) (by omega)) (okc_le a k (fun c1 => okc_le (a + b) k (fun c2 => ?_) (fun c2 => ?_)) (fun c1 => ?_))
    · exact hgo 100 (by rw [hg, if_neg (by omega), if_neg (by omega)]) (by decide)
    · exact hgo 118 (by rw [hg, if_neg (by omega), if_pos (by omega)]) (by decide)
    · exact hgo 104 (by rw [hg, if_pos (by omega)]) (by decide)
theorem m_foldsSo_no {a b d : Int32} (h : ¬ foA a b d) (st : Mm) : f_m_foldsSo a b d st = some (0, st) := by
  unfold f_m_foldsSo
  rw [show f_m_in a (0 : Int32) (4 : Int32) st = _ from m_in_eq a 0 4 (by omega) (by omega) st]
  simp only [Option.bind_some]
  by_cases h1 : ((0 : Nat) : Int) ≤ a.toInt ∧ a.toInt ≤ ((4 : Nat) : Int)
  · rw [decide_eq_true h1, if_neg (by decide), show f_m_in b (0 : Int32) (4 : Int32) st = _ from m_in_eq b 0 4 (by omega) (by omega) st]
    simp only [Option.bind_some]
    by_cases h2 : ((0 : Nat) : Int) ≤ b.toInt ∧ b.toInt ≤ ((4 : Nat) : Int)
    · rw [decide_eq_true h2, if_neg (by decide), show f_m_in d (0 : Int32) (1 : Int32) st = _ from m_in_eq d 0 1 (by omega) (by omega) st]
      simp only [Option.bind_some]
      rw [decide_eq_false (show ¬ (((0 : Nat) : Int) ≤ d.toInt ∧ d.toInt ≤ ((1 : Nat) : Int)) from fun h3 => h ⟨by omega, by omega, by omega, by omega, by omega, by omega⟩), if_pos (by decide)]
    · rw [decide_eq_false h2, if_pos (by decide)]
  · rw [decide_eq_false h1, if_pos (by decide)]
theorem m_foldsSo_ok {n a b d : Nat} {st : Mm} {P : Int32 × Mm → Prop} (hn : st.1 58 0 = nI n) (hn2 : n ≤ 16) (ha : a ≤ 4) (hb : b ≤ 4) (hd : d ≤ 1)
    (h0 : fds (fl a b d) (n, n, 0) = none → ∀ s2, Fr LFo st s2 → P (0, s2)) (h1 : ∀ v, fds (fl a b d) (n, n, 0) = some v → ∀ s2, Fr LFo st s2 → mRec s2 n (fl a b d) v → P (1, s2)) : Ok (f_m_foldsSo (nI a) (nI b) (nI d) st) P := by
  unfold f_m_foldsSo
  refine ok_bind (ok_eq (m_in_eq _ 0 4 (by omega) (by omega) st) ?_)
  rw [decide_eq_true (show (((0 : Nat) : Int) ≤ (nI a).toInt ∧ (nI a).toInt ≤ ((4 : Nat) : Int)) by rw [nI_T (by omega)]; omega)]
  refine ok_f nbt (ok_bind (ok_eq (m_in_eq _ 0 4 (by omega) (by omega) st) ?_))
  rw [decide_eq_true (show (((0 : Nat) : Int) ≤ (nI b).toInt ∧ (nI b).toInt ≤ ((4 : Nat) : Int)) by rw [nI_T (by omega)]; omega)]
  refine ok_f nbt (ok_bind (ok_eq (m_in_eq _ 0 1 (by omega) (by omega) st) ?_))
  rw [decide_eq_true (show (((0 : Nat) : Int) ≤ (nI d).toInt ∧ (nI d).toInt ≤ ((1 : Nat) : Int)) by rw [nI_T (by omega)]; omega)]
  refine ok_f nbt (ok_bind (ok_eq (m_startsWedge_eq st) ?_))
  simp only
  rw [hn]
  refine m_foldsSo_loop (n := n) ha hb hd h0 (fun v hv s2 hF hW h12 hby => h1 v hv s2 hF ⟨by rw [hF _ _ rfl]; exact hn, hn2, by rw [fl_len]; omega, lt256 fl_mem, hv, by rw [fl_len]; exact h12, fun j hj => hby j (by rw [fl_len] at hj; exact hj), hW⟩) (a + b + d) 0 1000000 _ (n, n, 0) (by omega) (by omega) ?_ (by simp only; omega) (by simp only; omega) (by simp) rfl ((((Fr.rf.sI rfl).sI rfl).sI rfl).sI rfl) (sI_self _ _ _ _) (fun j hj => by omega)
  refine ⟨?_, ?_, ?_⟩
  · simp [sI_at]
  · simp [sI_at]
  · simp [sI_at]; rfl
/-! matching -/
def isP0 (v : Wd) (k : Nat) : Prop := k % 16 < v.1 ∧ k / 16 < v.2.1
def plc (l : List Nat) (n c : Nat) : Option Nat := plO (slb 0) l n (c % 16) (c / 16)
def kn (l : List Nat) (n c k : Nat) : Prop := ∃ e, e < c ∧ isC n e ∧ plc l n e = some k
def ba (l : List Nat) (n : Nat) (w : Nat → Bool) (c k : Nat) : Prop := ∃ e, e < c ∧ isC n e ∧ plc l n e = some k ∧ w e = false
def unl (l : List Nat) (n : Nat) (w : Nat → Bool) (c : Nat) : Prop := isC n c ∧ ∃ e k, e < c ∧ isC n e ∧ plc l n e = some k ∧ plc l n c = some k ∧ w e ≠ w c
noncomputable def knB (l : List Nat) (n c k : Nat) : Bool := @decide (kn l n c k) (Classical.propDecidable _)
noncomputable def baB (l : List Nat) (n : Nat) (w : Nat → Bool) (c k : Nat) : Bool := @decide (ba l n w c k) (Classical.propDecidable _)
theorem knB_iff {l : List Nat} {n c k : Nat} : knB l n c k = true ↔ kn l n c k := @decide_eq_true_iff _ (Classical.propDecidable _)
theorem baB_iff {l : List Nat} {n : Nat} {w : Nat → Bool} {c k : Nat} : baB l n w c k = true ↔ ba l n w c k := @decide_eq_true_iff _ (Classical.propDecidable _)
theorem Bx {a b : Bool} {p q : Prop} (ha : a = true ↔ p) (hb : b = true ↔ q) (h : p ↔ q) : a = b := by rw [Bool.eq_iff_iff, ha, hb, h]
theorem kn_succ {l : List Nat} {n c k p : Nat} (hc : isC n c) (hp : plc l n c = some p) : kn l n (c + 1) k ↔ kn l n c k ∨ k = p := by
  constructor
  · rintro ⟨e, h1, h2, h3⟩
    rcases Nat.lt_or_ge e c with h4 | h4
    · exact Or.inl ⟨e, h4, h2, h3⟩
    · have e2 : e = c := by omega
      subst e2; rw [hp] at h3; cases h3; exact Or.inr rfl
  · rintro (⟨e, h1, h2, h3⟩ | rfl)
    · exact ⟨e, by omega, h2, h3⟩
    · exact ⟨c, by omega, hc, hp⟩
theorem ba_succ {l : List Nat} {n : Nat} {w : Nat → Bool} {c k p : Nat} (hc : isC n c) (hp : plc l n c = some p) : ba l n w (c + 1) k ↔ ba l n w c k ∨ (k = p ∧ w c = false) := by
  constructor
  · rintro ⟨e, h1, h2, h3, h4⟩
    rcases Nat.lt_or_ge e c with h5 | h5
    · exact Or.inl ⟨e, h5, h2, h3, h4⟩
    · have e2 : e = c := by omega
      subst e2; rw [hp] at h3; cases h3; exact Or.inr ⟨rfl, h4⟩
  · rintro (⟨e, h1, h2, h3, h4⟩ | ⟨rfl, h4⟩)
    · exact ⟨e, by omega, h2, h3, h4⟩
    · exact ⟨c, by omega, hc, hp, h4⟩
theorem kn_gap {l : List Nat} {n c d k : Nat} (h : c ≤ d) (hg : ∀ e, c ≤ e → e < d → ¬ isC n e) : kn l n d k ↔ kn l n c k := by
  constructor
  · rintro ⟨e, h1, h2, h3⟩
    rcases Nat.lt_or_ge e c with h4 | h4
    · exact ⟨e, h4, h2, h3⟩
    · exact absurd h2 (hg e h4 h1)
  · rintro ⟨e, h1, h2, h3⟩
    exact ⟨e, by omega, h2, h3⟩
theorem ba_gap {l : List Nat} {n : Nat} {w : Nat → Bool} {c d k : Nat} (h : c ≤ d) (hg : ∀ e, c ≤ e → e < d → ¬ isC n e) : ba l n w d k ↔ ba l n w c k := by
  constructor
  · rintro ⟨e, h1, h2, h3, h4⟩
    rcases Nat.lt_or_ge e c with h5 | h5
    · exact ⟨e, h5, h2, h3, h4⟩
    · exact absurd h2 (hg e h5 h1)
  · rintro ⟨e, h1, h2, h3, h4⟩
    exact ⟨e, by omega, h2, h3, h4⟩
theorem unl_known {l : List Nat} {n : Nat} {w : Nat → Bool} {c p : Nat} (hc : isC n c) (hp : plc l n c = some p) (hno : ∀ e, e < c → ¬ unl l n w e) (hk : kn l n c p) : (unl l n w c ↔ ¬ (ba l n w c p ↔ w c = false)) := by
  obtain ⟨e0, g1, g2, g3⟩ := hk
  have same : ∀ e, e < c → isC n e → plc l n e = some p → w e = w e0 := by
    intro e h1 h2 h3
    rcases Nat.lt_trichotomy e e0 with h | h | h
    · refine Classical.byContradiction (fun hh => hno e0 g1 ⟨g2, e, p, h, h2, h3, g3, hh⟩)
    · rw [h]
    · refine Classical.byContradiction (fun hh => hno e h1 ⟨h2, e0, p, h, g2, g3, h3, fun q => hh q.symm⟩)
  have hb : ba l n w c p ↔ w e0 = false := by
    constructor
    · rintro ⟨e, h1, h2, h3, h4⟩
      rw [← same e h1 h2 h3]; exact h4
    · intro h; exact ⟨e0, g1, g2, g3, h⟩
  rw [hb]
  constructor
  · rintro ⟨_, e, k, h1, h2, h3, h4, h5⟩
    rw [hp] at h4; cases h4
    rw [same e h1 h2 h3] at h5
    intro h6
    apply h5
    cases h7 : w e0 <;> cases h8 : w c <;> simp [h7, h8] at h6 ⊢
  · intro h
    refine ⟨hc, e0, p, g1, g2, g3, hp, fun h5 => h (by rw [h5])⟩
theorem unl_new {l : List Nat} {n : Nat} {w : Nat → Bool} {c p : Nat} (hp : plc l n c = some p) (hk : ¬ kn l n c p) : ¬ unl l n w c ∧ ¬ ba l n w c p := by
  refine ⟨?_, ?_⟩
  · rintro ⟨_, e, k, h1, h2, h3, h4, _⟩
    rw [hp] at h4; cases h4
    exact hk ⟨e, h1, h2, h3⟩
  · rintro ⟨e, h1, h2, h3, _⟩
    exact hk ⟨e, h1, h2, h3⟩
theorem plc_some {n : Nat} {l : List Nat} {v : Wd} (hn : n ≤ 16) (hf : fds l (n, n, 0) = some v) {x y : Nat} (hx : x < n) (hy : y < n) : ∃ k, k < 256 ∧ isP0 v k ∧ plc l n (16 * y + x) = some k ∧ plO (slb 0) l n x y = some k := by
  obtain ⟨z, hz, k1, k2, k3, k4⟩ := cbs_some l 0 (x, y, n, n) (n, n, 0) v ⟨rfl, rfl, hx, hy⟩ hf
  have hle := fds_le _ _ _ hf
  simp only at hle
  have e : plO (slb 0) l n x y = some (16 * z.2.1 + z.1) := by unfold plO; rw [hz]; rfl
  refine ⟨16 * z.2.1 + z.1, by omega, ⟨by omega, by omega⟩, ?_, e⟩
  unfold plc
  rw [show (16 * y + x) % 16 = x by omega, show (16 * y + x) / 16 = y by omega]
  exact e
