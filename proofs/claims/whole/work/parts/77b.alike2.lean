/-! alike: the reference's loops -/
theorem rotN_lt {n : Nat} (hn : 1 ≤ n) : ∀ r p, p.1 < n → p.2 < n → (rotN n r p).1 < n ∧ (rotN n r p).2 < n
  | 0, p, h1, h2 => ⟨h1, h2⟩
  | r + 1, p, h1, h2 => rotN_lt hn r (n - 1 - p.2, p.1) (by show n - 1 - p.2 < n; omega) h1
theorem m_turned_eq {n how q : Nat} (hn : 1 ≤ n) (hn7 : n ≤ 7) (hh : how < 8) (hq : q < n * n) (st : Mm) : f_m_turned (nI q) (nI n) (nI how) st = some (nI (trn n how q), st) := by
  have hnn : n * n ≤ 49 := Nat.mul_le_mul hn7 hn7
  have key : ∀ r j m p, j + r = how % 4 → r + 1 ≤ m → p.1 < n → p.2 < n → f_m_turned_23 m (nI n) (nI how) (nI p.1) (nI p.2) (nI j) st = some (nI (n * (rotN n r p).2 + (rotN n r p).1), st) := by
    intro r
    induction r with
    | zero =>
      intro j m p hj hm h1 h2
      obtain ⟨m, rfl⟩ := nat_suc (show 0 + 1 ≤ m by omega)
      show b_m_turned_23 (f_m_turned_23 m) _ _ _ _ (nI j) st = _
      unfold b_m_turned_23
      rw [show nI how - nI how / (4 : Int32) * (4 : Int32) = nI (how % 4) from pk_rem (d := 4) (by omega) (by omega) (by omega), show j = how % 4 by omega, if_pos (Int32.le_refl _), pk_mul, nI_add]
      rfl
    | succ r ih =>
      intro j m p hj hm h1 h2
      obtain ⟨m, rfl⟩ := nat_suc (show 0 + 1 ≤ m by omega)
      show b_m_turned_23 (f_m_turned_23 m) _ _ _ _ (nI j) st = _
      unfold b_m_turned_23
      rw [show nI how - nI how / (4 : Int32) * (4 : Int32) = nI (how % 4) from pk_rem (d := 4) (by omega) (by omega) (by omega), if_neg (nI_ge (by omega) (by omega)), lt_eq, lt_eq, show nI n - (1 : Int32) = nI (n - 1) from pk_sub (b := 1) hn, pk_sub (show p.2 ≤ n - 1 by omega), nI_1]
      exact ih (j + 1) m (n - 1 - p.2, p.1) (by omega) (by omega) (by show n - 1 - p.2 < n; omega) h1
  have hn0 : ¬ nI n = (0 : Int32) := fun e => by have := nI_inj (a := n) (b := 0) (by omega) (by omega) e; omega
  have hy : q / n < n := (Nat.div_lt_iff_lt_mul (by omega)).mpr hq
  have hx := Nat.mod_lt q (show 0 < n by omega)
  unfold f_m_turned trn
  rw [if_pos hn0, lt_eq, if_pos hn0, lt_eq, pk_rem (by omega) (by omega) (by omega), pk_div (by omega) (by omega) (by omega)]
  by_cases h3 : how ≤ 3
  · rw [if_pos (show nI how ≤ (3 : Int32) from show nI how ≤ nI 3 from nI_le h3 (by omega)), if_neg (show ¬ 3 < how by omega)]
    exact key (how % 4) 0 1000000 (q % n, q / n) (by omega) (by omega) hx hy
  · rw [if_neg (show ¬ nI how ≤ (3 : Int32) from show ¬ nI how ≤ nI 3 from nI_ge (by omega) (by omega)), if_pos (show 3 < how by omega), lt_eq, show nI n - (1 : Int32) = nI (n - 1) from pk_sub (b := 1) hn, pk_sub (show q % n ≤ n - 1 by omega)]
    exact key (how % 4) 0 1000000 (n - 1 - q % n, q / n) (by omega) (by omega) (by show n - 1 - q % n < n; omega) hy
theorem trn_lt {n how q : Nat} (hn : 1 ≤ n) (hq : q < n * n) : trn n how q < n * n := by
  have hy : q / n < n := (Nat.div_lt_iff_lt_mul (by omega)).mpr hq
  have hx := Nat.mod_lt q (show 0 < n by omega)
  unfold trn
  have h := rotN_lt hn (how % 4) (if 3 < how then n - 1 - q % n else q % n, q / n) (by show (if 3 < how then n - 1 - q % n else q % n) < n; split <;> omega) hy
  obtain ⟨a, b⟩ := h
  have : n * (rotN n (how % 4) (if 3 < how then n - 1 - q % n else q % n, q / n)).2 + n ≤ n * n := by
    rw [← Nat.mul_succ]; exact Nat.mul_le_mul_left n b
  omega
def isR (n : Nat) (R : List Bool) (s : Mm) : Prop := R.length = n * n ∧ ∀ q, q < n * n → s.1 84 q = bI (R.getD q false)
def isW (n : Nat) (w : List Nat) (s : Mm) : Prop := ∀ k, k < n * n + 1 → s.2 83 k = lN (w.getD k 0)
def LAl : List (Nat × Option Nat) := [(84, none)]
theorem getD_set {R : List Bool} {q k : Nat} (hq : q < R.length) : (R.set q true).getD k false = if k = q then true else R.getD k false := by
  rw [List.getD_eq_getElem?_getD, List.getD_eq_getElem?_getD, List.getElem?_set]
  by_cases e : q = k
  · subst e; simp [hq]
  · rw [if_neg e, if_neg (fun h => e h.symm)]
theorem m_wlk {n many how c : Nat} (hn : 1 ≤ n) (hn7 : n ≤ 7) (hh : how < 8) {kk : Int32 → Int32 → Int32 → Int32 → Mm → Option (Int64 × Mm)} {P : Int64 × Mm → Prop} {st : Mm} {R2 : List Bool} {s2 : Nat}
    (hP : ∀ s, Fr LAl st s → s.2 = st.2 → isR n R2 s → Ok (b_m_leaves_113 kk (nI n) (nI many) (nI how) (nI c) (nI s2) s) P) :
    ∀ f m R q sz s, f ≤ m → wlk n how f R q sz = some (R2, s2) → q < n * n → isR n R s → Fr LAl st s → s.2 = st.2 → Ok (f_m_leaves_77 kk m (nI n) (nI many) (nI how) (nI c) (nI sz) (nI q) s) P := by
  have hnn : n * n ≤ 49 := Nat.mul_le_mul hn7 hn7
  intro f
  induction f with
  | zero => intro m R q sz s _ h; cases h
  | succ f ih =>
    intro m R q sz s hm hw hq hR hF h2
    obtain ⟨m, rfl⟩ := nat_suc (show 0 + 1 ≤ m by omega)
    show Ok (b_m_leaves_77 kk (f_m_leaves_77 kk m) (nI n) (nI many) (nI how) (nI c) (nI sz) (nI q) s) P
    unfold b_m_leaves_77
    have hb := inb_nI (show q < 49 by omega) (show 49 < 2147483648 by omega)
    refine ok_t hb ?_
    rw [cl_nI (by omega), hR.2 q hq]
    simp only [wlk] at hw
    refine okc_b (R.getD q false) (fun e => ok_t hb (ok_lt ?_)) (fun e => ?_)
    · rw [e] at hw
      simp only [Bool.false_eq_true, if_false] at hw
      refine ok_bind (ok_eq (m_turned_eq hn hn7 hh hq _) ?_)
      simp only
      rw [nI_1]
      refine ih m (R.set q true) (trn n how q) (sz + 1) _ (by omega) hw (trn_lt hn hq) ⟨by rw [List.length_set]; exact hR.1, fun k hk => ?_⟩ (hF.sI rfl) h2
      rw [sI_at, getD_set (by rw [hR.1]; exact hq)]
      by_cases e2 : k = q
      · simp [e2, bI]
      · simp only [e2, and_false, reduceIte]; exact hR.2 k hk
    · rw [e] at hw
      simp only [if_true] at hw
      cases hw
      exact hP s hF h2 hR
theorem getD_mlp {N s : Nat} {w : List Nat} (hs : 0 < s) {k : Nat} (hk : k < N + 1) : (mlp N s w).getD k 0 = w.getD k 0 + if s ≤ k then w.getD (k - s) 0 else 0 := by
  unfold mlp
  rw [if_neg (by omega), List.getD_eq_getElem?_getD, List.getElem?_map, List.getElem?_range hk]
  rfl
theorem m_mlp {n many how c sz : Nat} (hn : 1 ≤ n) (hn7 : n ≤ 7) (hsz : sz < 60) {kk : Int32 → Int32 → Int32 → Int32 → Mm → Option (Int64 × Mm)} {P : Int64 × Mm → Prop} {st : Mm} {w : List Nat} (hw : isW n w st)
    (hP : ∀ s, s.1 = st.1 → isW n (mlp (n * n) sz w) s → Ok (kk (nI n) (nI many) (nI how) (nI (c + 1)) s) P) : Ok (b_m_leaves_113 kk (nI n) (nI many) (nI how) (nI c) (nI sz) st) P := by
  have hnn : n * n ≤ 49 := Nat.mul_le_mul hn7 hn7
  have fin : ∀ s, s.1 = st.1 → isW n (mlp (n * n) sz w) s → Ok (b_m_leaves_161 kk (nI n) (nI many) (nI how) (nI c) s) P := fun s h1 h2 => by
    unfold b_m_leaves_161
    refine ok_lt ?_
    rw [nI_1]
    exact hP s h1 h2
  unfold b_m_leaves_113
  refine ok_lt ?_
  rw [pk_mul]
  rcases Nat.eq_zero_or_pos sz with e | e
  · subst e
    show Ok (b_m_leaves_118 kk (f_m_leaves_118 kk 999999) (nI n) (nI many) (nI how) (nI c) (nI 0) (nI (n * n)) st) P
    unfold b_m_leaves_118
    have hm : mlp (n * n) 0 w = w := by unfold mlp; rw [if_pos rfl]
    refine ok_if (fun _ => fin st rfl (by rw [hm]; exact hw)) (fun _ => ok_t (by decide) (fin st rfl (by rw [hm]; exact hw)))
  · -- downwards from n n to sz
    have key : ∀ r m s, sz + r ≤ n * n + 1 → r + 1 ≤ m → s.1 = st.1 → (∀ k, k < sz + r → s.2 83 k = lN (w.getD k 0)) → (∀ k, sz + r ≤ k → k < n * n + 1 → s.2 83 k = lN ((mlp (n * n) sz w).getD k 0)) → Ok (f_m_leaves_118 kk m (nI n) (nI many) (nI how) (nI c) (nI sz) (nI (sz + r) - 1) s) P := by
      intro r
      induction r with
      | zero =>
        intro m s h1 h2 h3 h4 h5
        obtain ⟨m, rfl⟩ := nat_suc (show 0 + 1 ≤ m by omega)
        show Ok (b_m_leaves_118 kk (f_m_leaves_118 kk m) (nI n) (nI many) (nI how) (nI c) (nI sz) (nI (sz + 0) - 1) s) P
        unfold b_m_leaves_118
        refine ok_t (by rw [show nI (sz + 0) - (1 : Int32) = nI (sz - 1) from pk_sub (b := 1) (by omega), nI_ltI (by omega) (by omega)]; omega) (fin s h3 (fun k hk => ?_))
        rcases Nat.lt_or_ge k sz with h6 | h6
        · rw [h4 k (by omega), getD_mlp e (by omega), if_neg (by omega), Nat.add_zero]
        · exact h5 k (by omega) hk
      | succ r ih =>
        intro m s h1 h2 h3 h4 h5
        obtain ⟨m, rfl⟩ := nat_suc (show 0 + 1 ≤ m by omega)
        show Ok (b_m_leaves_118 kk (f_m_leaves_118 kk m) (nI n) (nI many) (nI how) (nI c) (nI sz) (nI (sz + (r + 1)) - 1) s) P
        unfold b_m_leaves_118
        rw [show nI (sz + (r + 1)) - (1 : Int32) = nI (sz + r) from pk_sub (b := 1) (by omega), pk_sub (show sz ≤ sz + r by omega), show sz + r - sz = r by omega]
        have hb := inb_nI (show sz + r < 50 by omega) (show 50 < 2147483648 by omega)
        refine ok_f (by rw [nI_ltI (by omega) (by omega)]; omega) (ok_f (show ¬ nI sz ≤ nI 0 from nI_ge e (by omega)) (ok_t hb (ok_t (inb_nI (show r < 50 by omega) (by omega)) (ok_lt (ok_t hb (ok_lt ?_))))))
        rw [am1, cl_nI (by omega), cl_nI (by omega)]
        refine ih m _ (by omega) (by omega) h3 (fun k hk => ?_) (fun k hk1 hk2 => ?_)
        · rw [sL_at, if_neg (by omega)]; exact h4 k (by omega)
        · rw [sL_at]
          by_cases e2 : k = sz + r
          · rw [if_pos e2, e2, h4 _ (by omega), h4 _ (by omega), lN_add, getD_mlp e (by omega), if_pos (by omega), show sz + r - sz = r by omega]
          · rw [if_neg e2]; exact h5 k (by omega) hk2
    rcases Nat.lt_or_ge (n * n) sz with h | h
    · show Ok (b_m_leaves_118 kk (f_m_leaves_118 kk 999999) (nI n) (nI many) (nI how) (nI c) (nI sz) (nI (n * n)) st) P
      unfold b_m_leaves_118
      refine ok_t (nI_lt h (by omega)) (fin st rfl (fun k hk => ?_))
      rw [hw k hk, getD_mlp e hk, if_neg (by omega), Nat.add_zero]
    · have := key (n * n + 1 - sz) 1000000 st (by omega) (by omega) rfl (fun k hk => hw k (by omega)) (fun k h1 h2 => by omega)
      rw [show sz + (n * n + 1 - sz) = n * n + 1 by omega, nI_pred] at this
      exact this
theorem wlk_sz {n how : Nat} : ∀ f R q s R2 s2, wlk n how f R q s = some (R2, s2) → s2 < s + f ∧ (R2.length = R.length)
  | 0, R, q, s, R2, s2, h => by cases h
  | f + 1, R, q, s, R2, s2, h => by
    simp only [wlk] at h
    split at h
    · cases h; exact ⟨by omega, rfl⟩
    · have := wlk_sz f _ _ _ _ _ h
      rw [List.length_set] at this
      exact ⟨by omega, this.2⟩
theorem m_lvs {n many how : Nat} (hn : 1 ≤ n) (hn7 : n ≤ 7) (hh : how < 8) (hm : many ≤ n * n) {P : Int64 × Mm → Prop} {st : Mm} {w2 : List Nat} (hP : ∀ s, Fr LAl st s → P (lN (w2.getD many 0), s)) :
    ∀ r c m R w s, c + r = n * n → r + 1 ≤ m → lvs n how r c R w = some w2 → isR n R s → isW n w s → Fr LAl st s → Ok (f_m_leaves_62 m (nI n) (nI many) (nI how) (nI c) s) P := by
  have hnn : n * n ≤ 49 := Nat.mul_le_mul hn7 hn7
  intro r
  induction r with
  | zero =>
    intro c m R w s hc hm2 hl hR hW hF
    obtain ⟨m, rfl⟩ := nat_suc (show 0 + 1 ≤ m by omega)
    show Ok (b_m_leaves_62 (f_m_leaves_62 m) (nI n) (nI many) (nI how) (nI c) s) P
    unfold b_m_leaves_62
    simp only [lvs, Option.some.injEq] at hl
    subst hl
    rw [pk_mul, show c = n * n by omega]
    refine ok_t (Int32.le_refl _) (ok_t (inb_nI (show many < 50 by omega) (by omega)) (ok_some ?_))
    rw [cl_nI (by omega), hW many (by omega)]
    exact hP s hF
  | succ r ih =>
    intro c m R w s hc hm2 hl hR hW hF
    obtain ⟨m, rfl⟩ := nat_suc (show 0 + 1 ≤ m by omega)
    show Ok (b_m_leaves_62 (f_m_leaves_62 m) (nI n) (nI many) (nI how) (nI c) s) P
    unfold b_m_leaves_62
    rw [pk_mul]
    refine ok_f (nI_ge (by omega) (by omega)) ?_
    simp only [lvs] at hl
    obtain ⟨⟨R2, s2⟩, hw, hl2⟩ := Option.bind_eq_some_iff.mp hl
    have hsz := wlk_sz _ _ _ _ _ _ hw
    refine m_wlk (st := s) (R2 := R2) (s2 := s2) hn hn7 hh (fun s3 hF3 h23 hR3 => ?_) 60 1000000 R c 0 s (by omega) hw (by omega) hR Fr.rf rfl
    refine m_mlp hn hn7 (by omega) (w := w) (fun k hk => by rw [h23]; exact hW k hk) (fun s4 h14 hW4 => ?_)
    exact ih (c + 1) m R2 _ s4 (by omega) (by omega) hl2 ⟨hR3.1, fun q hq => by rw [h14]; exact hR3.2 q hq⟩ hW4 (hF.tr (fun c j hcj => by rw [h14]; exact hF3 c j hcj))
theorem m_leaves_ok {n many how : Nat} (hn : 1 ≤ n) (hn7 : n ≤ 7) (hh : how < 8) (hm : many ≤ n * n) {P : Int64 × Mm → Prop} {st : Mm} {w2 : List Nat} (hl : lvL n how = some w2) (hP : ∀ s, Fr LAl st s → P (lN (w2.getD many 0), s)) : Ok (f_m_leaves (nI n) (nI many) (nI how) st) P := by
  have hnn : n * n ≤ 49 := Nat.mul_le_mul hn7 hn7
  unfold f_m_leaves
  have hw0 : ∀ k, k < n * n + 1 → (1 :: List.replicate (n * n) 0).getD k 0 = if k = 0 then 1 else 0 := fun k hk => by
    cases k with
    | zero => rfl
    | succ k =>
      rw [if_neg (by omega), List.getD_eq_getElem?_getD, List.getElem?_cons_succ, List.getElem?_replicate, if_pos (by omega)]; rfl
  refine ok_upF (fun m i a => f_m_leaves_3 m (nI n) (nI many) (nI how) i a) (fun i a => a.1 = st.1 ∧ ∀ k, k < i → a.2 83 k = lN ((1 :: List.replicate (n * n) 0).getD k 0)) P (n * n + 1) (by omega) ⟨rfl, fun k hk => by omega⟩ ?_ ?_
  · rintro m i a hi ⟨g1, g2⟩ ih
    show Ok (b_m_leaves_3 (f_m_leaves_3 m) (nI n) (nI many) (nI how) (nI i) a) P
    unfold b_m_leaves_3
    rw [pk_mul]
    have hb := inb_nI (show i < 50 by omega) (show 50 < 2147483648 by omega)
    have fin : ∀ z : Int64, z = lN (if i = 0 then 1 else 0) → Ok (lt_ (nI i + (1 : Int32)) (fun a4 => f_m_leaves_3 m (nI n) (nI many) (nI how) a4 (sL a 83 (nI i).toNatClampNeg z))) P := fun z hz => by
      refine ok_lt ?_
      rw [nI_1, cl_nI (by omega)]
      refine ih _ ⟨g1, fun k hk => ?_⟩
      rw [sL_at]
      by_cases e : k = i
      · rw [if_pos e, hz, e, hw0 i (by omega)]
      · rw [if_neg e]; exact g2 k (by omega)
    refine ok_f (by rw [nI_ltI (by omega) (by omega)]; omega) (okc_eq i 0 (fun e => ok_t hb (fin 1 (by rw [if_pos e]; rfl))) (fun e => ok_t hb (fin 0 (by rw [if_neg e]; rfl))))
  · rintro m a ⟨g1, g2⟩
    show Ok (b_m_leaves_3 (f_m_leaves_3 m) (nI n) (nI many) (nI how) (nI (n * n + 1)) a) P
    unfold b_m_leaves_3 b_m_leaves_34
    rw [pk_mul]
    refine ok_t (nI_lt (by omega) (by omega)) ?_
    refine ok_upF (fun m i b => f_m_leaves_37 m (nI n) (nI many) (nI how) i b) (fun i b => b.2 = a.2 ∧ Fr LAl st b ∧ ∀ q, q < i → b.1 84 q = 0) P (n * n) (by omega) ⟨rfl, fun c j _ => by rw [g1], fun q hq => by omega⟩ ?_ ?_
    · rintro m i b hi ⟨b1, b2, b3⟩ ih
      show Ok (b_m_leaves_37 (f_m_leaves_37 m) (nI n) (nI many) (nI how) (nI i) b) P
      unfold b_m_leaves_37
      rw [pk_mul]
      refine ok_f (nI_ge hi (by omega)) (ok_t (inb_nI (show i < 49 by omega) (by omega)) (ok_lt ?_))
      rw [nI_1, cl_nI (by omega)]
      refine ih _ ⟨b1, b2.sI rfl, fun q hq => ?_⟩
      rw [sI_at]
      by_cases e : q = i
      · simp [e]
      · simp only [e, and_false, reduceIte]; exact b3 q (by omega)
    · rintro m b ⟨b1, b2, b3⟩
      show Ok (b_m_leaves_37 (f_m_leaves_37 m) (nI n) (nI many) (nI how) (nI (n * n)) b) P
      unfold b_m_leaves_37 b_m_leaves_59
      rw [pk_mul]
      refine ok_t (Int32.le_refl _) ?_
      refine m_lvs (st := st) (w2 := w2) hn hn7 hh hm hP (n * n) 0 1000000 (List.replicate (n * n) false) (1 :: List.replicate (n * n) 0) b (by omega) (by omega) hl ⟨List.length_replicate, fun q hq => ?_⟩ (fun k hk => by rw [b1]; exact g2 k hk) b2
      rw [b3 q hq, List.getD_eq_getElem?_getD, List.getElem?_replicate, if_pos hq]; rfl
theorem addL_getD {a b : List Nat} {k : Nat} (ha : k < a.length) (hb : k < b.length) : (addL a b).getD k 0 = a.getD k 0 + b.getD k 0 := by
  unfold addL
  rw [List.getD_eq_getElem?_getD, List.getD_eq_getElem?_getD, List.getD_eq_getElem?_getD, List.getElem?_zipWith, List.getElem?_eq_getElem ha, List.getElem?_eq_getElem hb]
  rfl
theorem sumO_len {n : Nat} : ∀ h a, sumO n h = some a → a.length = n * n + 1
  | 0, a, e => by simp only [sumO, Option.some.injEq] at e; rw [← e, List.length_replicate]
  | h + 1, a, e => by
    simp only [sumO] at e
    obtain ⟨x, h1, h2⟩ := Option.bind_eq_some_iff.mp e
    obtain ⟨y, h3, h4⟩ := Option.bind_eq_some_iff.mp h2
    split at h4
    · rename_i hl
      cases h4
      unfold addL
      rw [List.length_zipWith, sumO_len h x h1, hl, Nat.min_self]
    · cases h4
theorem sumO_step {n h : Nat} {a : List Nat} (e : sumO n (h + 1) = some a) : ∃ x y, sumO n h = some x ∧ lvL n h = some y ∧ ∀ k, k < n * n + 1 → a.getD k 0 = x.getD k 0 + y.getD k 0 := by
  simp only [sumO] at e
  obtain ⟨x, h1, h2⟩ := Option.bind_eq_some_iff.mp e
  obtain ⟨y, h3, h4⟩ := Option.bind_eq_some_iff.mp h2
  split at h4
  · rename_i hl
    cases h4
    exact ⟨x, y, h1, h3, fun k hk => addL_getD (by rw [sumO_len h x h1]; exact hk) (by rw [hl]; exact hk)⟩
  · cases h4
theorem alk_ok {n : Nat} (hn : 1 ≤ n) (hn7 : n ≤ 7) : ∃ a, sumO n 8 = some a ∧ ∀ k, k < n * n + 1 → a.getD k 0 = numX n k := by
  have h : alkC n = true := by
    have : n = 1 ∨ n = 2 ∨ n = 3 ∨ n = 4 ∨ n = 5 ∨ n = 6 ∨ n = 7 := by omega
    rcases this with rfl | rfl | rfl | rfl | rfl | rfl | rfl
    · exact alk_1
    · exact alk_2
    · exact alk_3
    · exact alk_4
    · exact alk_5
    · exact alk_6
    · exact alk_7
  unfold alkC at h
  cases hs : sumO n 8 with
  | none => rw [hs] at h; cases h
  | some a =>
    rw [hs] at h
    refine ⟨a, rfl, fun k hk => ?_⟩
    rw [eq_of_beq h, List.getD_eq_getElem?_getD, List.getElem?_map, List.getElem?_range hk]
    rfl
theorem num_lt {n k : Nat} (hn7 : n ≤ 7) (hk : k < n * n + 1) : numX n k < 9223372036854775808 := by
  have h1 := List.all_eq_true.mp num_chk n (List.mem_range.mpr (by omega))
  exact of_decide_eq_true (List.all_eq_true.mp h1 k (List.mem_range.mpr hk))
theorem m_alike_ok {n k : Nat} (hn : 1 ≤ n) (hn7 : n ≤ 7) (hk : k ≤ n * n) {P : Int64 × Mm → Prop} {st : Mm} (hP : ∀ s, Fr LAl st s → P (lN (numX n k / 8), s)) : Ok (f_m_alike (nI n) (nI k) st) P := by
  have hnn : n * n ≤ 49 := Nat.mul_le_mul hn7 hn7
  obtain ⟨a8, h8, e8⟩ := alk_ok hn hn7
  unfold f_m_alike
  refine ok_bind (ok_eq (m_in_eq _ 1 7 (by omega) (by omega) st) ?_)
  rw [decide_eq_true (show (((1 : Nat) : Int) ≤ (nI n).toInt ∧ (nI n).toInt ≤ ((7 : Nat) : Int)) by rw [nI_T (by omega)]; omega)]
  refine ok_f nbt ?_
  rw [pk_mul]
  refine ok_bind (ok_eq (m_in_eq _ 0 (n * n) (by omega) (by omega) st) ?_)
  rw [decide_eq_true (show (((0 : Nat) : Int) ≤ (nI k).toInt ∧ (nI k).toInt ≤ ((n * n : Nat) : Int)) by rw [nI_T (by omega)]; omega)]
  refine ok_f nbt ?_
  have ex : ∀ r h, h + r = 8 → ∃ a, sumO n h = some a := by
    intro r
    induction r with
    | zero => intro h e; rw [show h = 8 by omega]; exact ⟨a8, h8⟩
    | succ r ih =>
      intro h e
      obtain ⟨a, ha⟩ := ih (h + 1) (by omega)
      obtain ⟨x, y, h1, _⟩ := sumO_step ha
      exact ⟨x, h1⟩
  simp only
  refine ok_upF (fun m i (a : Int64 × Mm) => f_m_alike_30 m (nI n) (nI k) a.1 i a.2) (fun i a => Fr LAl st a.2 ∧ ∀ x, sumO n i = some x → a.1 = lN (x.getD k 0)) P 8 (by omega) (a := (0, st)) ⟨Fr.rf, fun x hx => ?_⟩ ?_ ?_
  · simp only [sumO, Option.some.injEq] at hx
    rw [← hx, List.getD_eq_getElem?_getD, List.getElem?_replicate, if_pos (by omega)]; rfl
  · rintro m i ⟨z, a⟩ hi ⟨g1, g2⟩ ih
    simp only at g1 g2
    show Ok (b_m_alike_30 (f_m_alike_30 m) (nI n) (nI k) z (nI i) a) P
    unfold b_m_alike_30
    obtain ⟨a2, ha2⟩ := ex (8 - (i + 1)) (i + 1) (by omega)
    obtain ⟨x, y, h1, h2, h3⟩ := sumO_step ha2
    refine ok_f (show ¬ nI 8 ≤ nI i from nI_ge hi (by omega)) (ok_bind (m_leaves_ok hn hn7 hi hk h2 (fun s hF => ok_lt (ok_lt ?_))))
    simp only
    rw [nI_1, g2 x h1, lN_add, ← h3 k (by omega)]
    exact ih (_, s) ⟨g1.tr hF, fun x2 hx2 => by rw [ha2] at hx2; cases hx2; rfl⟩
  · rintro m ⟨z, a⟩ ⟨g1, g2⟩
    simp only at g1 g2
    show Ok (b_m_alike_30 (f_m_alike_30 m) (nI n) (nI k) z (nI 8) a) P
    unfold b_m_alike_30
    refine ok_t (by decide) (ok_some ?_)
    rw [g2 a8 h8, e8 k (by omega), show (8 : Int64) = lN 8 from rfl, pk_lDiv (num_lt hn7 (by omega)) (by decide) (by decide)]
    exact hP a g1
/-! the class's -/
theorem x_chU {n k : Nat} (hn : n < 50) (hk : k < 100) (st : Mm) : f_x_choose (nI n) (nI k) st = some (lN (chU n k), st) := by
  unfold chU
  by_cases h : k ≤ n
  · rw [if_pos h, x_choose_eq hn h]
  · rw [if_neg h, x_choose_no hn (by omega) hk]
theorem x_unmoved_eq {f r k c : Nat} (hf : f ≤ c) (hc : c < 50) (hr : 1 ≤ r) (hr2 : r ≤ 4) (hk : k < 50) (st : Mm) : f_x_unmoved (nI f) (nI r) (nI k) (nI c) st = some (lN (unm f r k c), st) := by
  have hr0 : ¬ nI r = (0 : Int32) := fun e => by have := nI_inj (a := r) (b := 0) (by omega) (by omega) e; omega
  have key : ∀ q a m, a + q = min f k + 1 → q + 1 ≤ m → f_x_unmoved_13 m (nI f) (nI r) (nI k) (nI c) (lN (unS f r k c a)) (nI a) st = some (lN (unm f r k c), st) := by
    intro q
    induction q with
    | zero =>
      intro a m ha hm
      obtain ⟨m, rfl⟩ := nat_suc (show 0 + 1 ≤ m by omega)
      show b_x_unmoved_13 (f_x_unmoved_13 m) _ _ _ _ _ (nI a) st = _
      unfold b_x_unmoved_13 unm
      rw [show a = min f k + 1 by omega]
      by_cases h : f < min f k + 1
      · rw [if_pos (nI_lt h (by omega))]
      · rw [if_neg (by rw [nI_ltI (by omega) (by omega)]; exact h), if_pos (nI_lt (by omega) (by omega))]
    | succ q ih =>
      intro a m ha hm
      obtain ⟨m, rfl⟩ := nat_suc (show 0 + 1 ≤ m by omega)
      show b_x_unmoved_13 (f_x_unmoved_13 m) _ _ _ _ _ (nI a) st = _
      unfold b_x_unmoved_13
      have hd : (c - f) / r ≤ c - f := Nat.div_le_self _ _
      have hd2 : (k - a) / r ≤ k - a := Nat.div_le_self _ _
      rw [if_neg (by rw [nI_ltI (by omega) (by omega)]; omega), if_neg (by rw [nI_ltI (by omega) (by omega)]; omega), if_pos hr0, pk_sub (show a ≤ k by omega), pk_rem (by omega) (by omega) (by omega)]
      have := ih (a + 1) m (by omega) (by omega)
      simp only [unS] at this
      by_cases h : (k - a) % r = 0
      · rw [if_pos (show nI ((k - a) % r) = (0 : Int32) by rw [h]; rfl), x_chU (by omega) (by omega)]
        simp only [Option.bind_some]
        rw [if_pos hr0, if_pos hr0, pk_sub hf, pk_div (by omega) (by omega) (by omega), pk_div (by omega) (by omega) (by omega), x_chU (by omega) (by omega)]
        simp only [Option.bind_some, lt_eq]
        rw [lN_mul, lN_add, nI_1]
        rw [if_pos h] at this
        exact this
      · have hml := Nat.mod_lt (k - a) (show 0 < r by omega)
        rw [if_neg (show ¬ nI ((k - a) % r) = (0 : Int32) from fun e => h (nI_inj (b := 0) (by omega) (by omega) e)), lt_eq, nI_1]
        rw [if_neg h, Nat.add_zero] at this
        exact this
  unfold f_x_unmoved
  rw [if_pos (show (1 : Int32) ≤ nI r from show nI 1 ≤ nI r from nI_le hr (by omega))]
  exact key (min f k + 1) 0 1000000 (by omega) (by omega)
theorem x_alike_eq {n k : Nat} (hn : 1 ≤ n) (hn7 : n ≤ 7) (hk : k ≤ n * n) (st : Mm) : f_x_alike (nI n) (nI k) st = some (lN (numX n k / 8), st) := by
  have hnn : n * n ≤ 49 := Nat.mul_le_mul hn7 hn7
  have hsq : n ≤ n * n := Nat.le_mul_of_pos_left n hn
  have tail : ∀ s0, s0 = (if n % 2 = 1 then n else 0) → b_x_alike_46 (nI n) (nI k) (nI (n * n)) (nI (n % 2)) (nI s0) st = some (lN (numX n k / 8), st) := by
    rintro s0 rfl
    have hs0 : (if n % 2 = 1 then n else 0) ≤ n * n := by split <;> omega
    unfold b_x_alike_46
    rw [x_chU (by omega) (by omega)]
    simp only [Option.bind_some]
    rw [show f_x_unmoved (nI (n % 2)) (4 : Int32) (nI k) (nI (n * n)) st = _ from x_unmoved_eq (r := 4) (by omega) (by omega) (by omega) (by omega) (by omega) st]
    simp only [Option.bind_some]
    rw [show f_x_unmoved (nI (n % 2)) (2 : Int32) (nI k) (nI (n * n)) st = _ from x_unmoved_eq (r := 2) (by omega) (by omega) (by omega) (by omega) (by omega) st]
    simp only [Option.bind_some]
    rw [show f_x_unmoved (nI (if n % 2 = 1 then n else 0)) (2 : Int32) (nI k) (nI (n * n)) st = _ from x_unmoved_eq (r := 2) hs0 (by omega) (by omega) (by omega) (by omega) st]
    simp only [Option.bind_some]
    rw [show f_x_unmoved (nI n) (2 : Int32) (nI k) (nI (n * n)) st = _ from x_unmoved_eq (r := 2) hsq (by omega) (by omega) (by omega) (by omega) st]
    simp only [Option.bind_some]
    rw [show (2 : Int64) = lN 2 from rfl, lN_mul, lN_mul, lN_mul, lN_add, lN_add, lN_add, lN_add, show (8 : Int64) = lN 8 from rfl]
    show some (lN (numX n k) / lN 8, st) = _
    rw [pk_lDiv (b := 8) (num_lt hn7 (show k < n * n + 1 by omega)) (by decide) (by decide)]
  unfold f_x_alike
  rw [if_neg (show ¬ nI n < (1 : Int32) from nltL (c := 1) hn (by omega)), if_neg (show ¬ (7 : Int32) < nI n from show ¬ nI 7 < nI n by rw [nI_ltI (by omega) (by omega)]; omega), if_neg (nI_pos (by omega)), pk_mul, if_pos (nI_le hk (by omega)), lt_eq, lt_eq, an1 (by omega)]
  by_cases h : n % 2 = 1
  · rw [if_pos (show nI (n % 2) = (1 : Int32) by rw [h]; rfl)]
    exact tail n (by rw [if_pos h])
  · rw [if_neg (show ¬ nI (n % 2) = (1 : Int32) from fun e => h (nI_inj (b := 1) (by omega) (by omega) e))]
    exact tail 0 (by rw [if_neg h])
theorem st_alike (a0 a1 : Int32) : Step1 Inv (f_x_alike a0 a1) (f_m_alike a0 a1) := step_q (fun A hA => by
  by_cases hg : 1 ≤ a0.toInt ∧ a0.toInt ≤ 7 ∧ 0 ≤ a1.toInt ∧ a1.toInt ≤ a0.toInt * a0.toInt
  · obtain ⟨n, hn, rfl⟩ := i_natLt (N := 8) (show 0 ≤ a0.toInt by omega) (by omega)
    rw [nI_T (by omega)] at hg
    have hnn : n * n ≤ 49 := Nat.mul_le_mul (show n ≤ 7 by omega) (show n ≤ 7 by omega)
    have e : ((n : Int) * (n : Int)) = ((n * n : Nat) : Int) := by simp
    rw [e] at hg
    obtain ⟨k, hk, rfl⟩ := i_natLt (N := n * n + 1) hg.2.2.1 (by omega)
    refine ⟨lN (numX n k / 8), xok_fr [] rfl (fun st hI => ?_), mok_fr LAl rfl (fun st hI => ?_)⟩
    · exact ok_eq (x_alike_eq (by omega) (by omega) (by omega) st) ⟨rfl, Fr.rf⟩
    · exact m_alike_ok (by omega) (by omega) (by omega) (fun s hF => ⟨rfl, hF⟩)
  · refine ⟨-1, xok_fr [] rfl (fun st hI => ?_), mok_fr [] rfl (fun st hI => ?_)⟩
    · unfold f_x_alike
      refine ok_if (fun _ => ok_some ⟨rfl, Fr.rf⟩) (fun c1 => ok_if (fun _ => ok_some ⟨rfl, Fr.rf⟩) (fun c2 => ok_if (fun _ => ok_some ⟨rfl, Fr.rf⟩) (fun c3 => ok_if (fun c4 => ?_) (fun _ => ok_some ⟨rfl, Fr.rf⟩))))
      rw [i_lt, show (1 : Int32).toInt = 1 from rfl] at c1
      rw [i_lt, show (7 : Int32).toInt = 7 from rfl] at c2
      rw [i_lt, i_z] at c3
      obtain ⟨n, hn, rfl⟩ := i_natLt (N := 8) (x := a0) (by omega) (by omega)
      rw [nI_T (by omega)] at hg c1 c2
      have hnn : n * n ≤ 49 := Nat.mul_le_mul (show n ≤ 7 by omega) (show n ≤ 7 by omega)
      have e : ((n : Int) * (n : Int)) = ((n * n : Nat) : Int) := by simp
      rw [e] at hg
      rw [pk_mul, i_le, nI_T (by omega)] at c4
      omega
    · unfold f_m_alike
      refine ok_bind (ok_eq (m_in_eq _ 1 7 (by omega) (by omega) st) ?_)
      refine okc_b _ (fun _ => ok_some ⟨rfl, Fr.rf⟩) (fun c1 => ?_)
      have c1 := of_decide_eq_true c1
      obtain ⟨n, hn, rfl⟩ := i_natLt (N := 8) (x := a0) (by omega) (by omega)
      rw [nI_T (by omega)] at hg c1
      have hnn : n * n ≤ 49 := Nat.mul_le_mul (show n ≤ 7 by omega) (show n ≤ 7 by omega)
      have e : ((n : Int) * (n : Int)) = ((n * n : Nat) : Int) := by simp
      rw [e] at hg
      rw [pk_mul]
      refine ok_bind (ok_eq (m_in_eq _ 0 (n * n) (by omega) (by omega) st) ?_)
      refine okc_b _ (fun _ => ok_some ⟨rfl, Fr.rf⟩) (fun c2 => ?_)
      have c2 := of_decide_eq_true c2
      omega)
