/-! numbers of ways -/
def chN (n k : Nat) : Nat → Nat
  | 0 => 1
  | i + 1 => chN n k i * (n - k + (i + 1)) / (i + 1)
theorem chN_chk : (List.range 50).all (fun n => (List.range (n + 1)).all (fun k => (List.range k).all (fun i => decide (chN n k i * (n - k + (i + 1)) < 9223372036854775808)))) = true := by decide +kernel
theorem chN_lt {n k i : Nat} (hn : n < 50) (hk : k ≤ n) (hi : i < k) : chN n k i * (n - k + (i + 1)) < 9223372036854775808 := by
  have h1 := List.all_eq_true.mp chN_chk n (List.mem_range.mpr hn)
  have h2 := List.all_eq_true.mp h1 k (List.mem_range.mpr (by omega))
  exact of_decide_eq_true (List.all_eq_true.mp h2 i (List.mem_range.mpr hi))
theorem lN_nz {b : Nat} (h : 0 < b) (hb : b < 2 ^ 63) : ¬ lN b = 0 := fun e => by
  have := (pk_lEQ hb (show 0 < 2 ^ 63 by decide)).mp (show lN b = lN 0 from e)
  omega
theorem x_choose_eq {n k : Nat} (hn : n < 50) (hk : k ≤ n) (st : Mm) : f_x_choose (nI n) (nI k) st = some (lN (chN n k k), st) := by
  have key : ∀ r i m, i + r = k → r + 1 ≤ m → f_x_choose_16 m (nI n) (nI k) (lN (chN n k i)) (nI (i + 1)) st = some (lN (chN n k k), st) := by
    intro r
    induction r with
    | zero =>
      intro i m hi hm
      obtain ⟨m, rfl⟩ := nat_suc (show 0 + 1 ≤ m by omega)
      show b_x_choose_16 (f_x_choose_16 m) _ _ _ (nI (i + 1)) st = _
      unfold b_x_choose_16
      rw [if_pos (nI_lt (by omega) (by omega)), show i = k by omega]
    | succ r ih =>
      intro i m hi hm
      obtain ⟨m, rfl⟩ := nat_suc (show 0 + 1 ≤ m by omega)
      show b_x_choose_16 (f_x_choose_16 m) _ _ _ (nI (i + 1)) st = _
      unfold b_x_choose_16
      have hlt := chN_lt hn hk (show i < k by omega)
      rw [if_neg (show ¬ nI k < nI (i + 1) by rw [nI_ltI (by omega) (by omega)]; omega), nI_l (by omega), if_pos (lN_nz (by omega) (by omega)), lt_eq, lt_eq, pk_sub hk, nI_add, nI_l (by omega), lN_mul, pk_lDiv hlt (by omega) (by omega), nI_1]
      exact ih (i + 1) m (by omega) (by omega)
  unfold f_x_choose
  rw [if_neg (nI_pos (by omega)), if_pos (nI_le hk (by omega))]
  exact key k 0 1000000 (by omega) (by omega)
theorem x_choose_no {n k : Nat} (hn : n < 50) (hk : n < k) (hk2 : k < 100) (st : Mm) : f_x_choose (nI n) (nI k) st = some (lN 0, st) := by
  unfold f_x_choose
  rw [if_neg (nI_pos (by omega)), if_neg (nI_ge hk (by omega))]
  rfl
theorem x_power_eq {b r : Nat} (hb : b < 100) (hr : r < 100) (st : Mm) : f_x_power (nI b) (nI r) st = some (lN (b ^ r), st) := by
  have key : ∀ q i m, i + q = r → q + 1 ≤ m → f_x_power_5 m (nI b) (nI r) (lN (b ^ i)) (nI i) st = some (lN (b ^ r), st) := by
    intro q
    induction q with
    | zero =>
      intro i m hi hm
      obtain ⟨m, rfl⟩ := nat_suc (show 0 + 1 ≤ m by omega)
      show b_x_power_5 (f_x_power_5 m) _ _ _ (nI i) st = _
      unfold b_x_power_5
      rw [show i = r by omega, if_pos (Int32.le_refl _)]
    | succ q ih =>
      intro i m hi hm
      obtain ⟨m, rfl⟩ := nat_suc (show 0 + 1 ≤ m by omega)
      show b_x_power_5 (f_x_power_5 m) _ _ _ (nI i) st = _
      unfold b_x_power_5
      rw [if_neg (nI_ge (by omega) (by omega)), lt_eq, lt_eq, nI_l (by omega), lN_mul, nI_1, ← Nat.pow_succ]
      exact ih (i + 1) m (by omega) (by omega)
  exact key r 0 1000000 (by omega) (by omega)
theorem x_power_neg (b : Int32) {z : Int32} (hz : z ≤ 0) (st : Mm) : f_x_power b z st = some (1, st) := by
  show b_x_power_5 (f_x_power_5 999999) b z 1 0 st = _
  unfold b_x_power_5
  rw [if_pos hz]
def euX : Nat → Nat → Nat → Nat
  | 0, a, _ => a
  | s + 1, a, b => if b = 0 then a else euX s b (a % b)
theorem x_cd_loop (st : Mm) : ∀ s i m a b, i + s = 100 → s + 1 ≤ m → a < 2 ^ 63 → b < 2 ^ 63 → f_x_commonDivisor_9 m (lN a) (lN b) (nI i) st = some (lN (euX s a b), st) := by
  intro s
  induction s with
  | zero =>
    intro i m a b hi hm ha hb
    obtain ⟨m, rfl⟩ := nat_suc (show 0 + 1 ≤ m by omega)
    have e : i = 100 := by omega
    subst e
    show b_x_commonDivisor_9 (f_x_commonDivisor_9 m) _ _ (nI 100) st = _
    unfold b_x_commonDivisor_9
    rw [if_pos (by decide)]
    rfl
  | succ s ih =>
    intro i m a b hi hm ha hb
    obtain ⟨m, rfl⟩ := nat_suc (show 0 + 1 ≤ m by omega)
    show b_x_commonDivisor_9 (f_x_commonDivisor_9 m) _ _ (nI i) st = _
    unfold b_x_commonDivisor_9
    rw [if_neg (show ¬ (100 : Int32) ≤ nI i from show ¬ nI 100 ≤ nI i from nI_ge (by omega) (by omega))]
    rcases Nat.eq_zero_or_pos b with e | e
    · subst e
      rw [if_pos (show lg_cmp (lN 0) 0 = 0 by decide)]
      rfl
    · rw [if_neg (show ¬ lg_cmp (lN b) 0 = 0 from fun h => lN_nz e hb ((lg_cmp_eq _ _).mp h)), if_pos (lN_nz e hb), lt_eq, lt_eq, pk_lRem ha e hb, nI_1, ih (i + 1) m b (a % b) (by omega) (by omega) hb (Nat.lt_trans (Nat.mod_lt _ e) hb)]
      show _ = some (lN (if b = 0 then a else euX s b (a % b)), st)
      rw [if_neg (show ¬ b = 0 by omega)]
theorem m_gcd_loop (st : Mm) : ∀ b m a, b < m → a < 2 ^ 63 → b < 2 ^ 63 → f_m_gcd_6 m (lN a) (lN b) st = some (lN (Nat.gcd a b), st) := by
  intro b
  induction b using Nat.strongRecOn with
  | ind b ih =>
    intro m a hm ha hb
    obtain ⟨m, rfl⟩ := nat_suc (show 0 + 1 ≤ m by omega)
    show b_m_gcd_6 (f_m_gcd_6 m) _ _ st = _
    unfold b_m_gcd_6
    rcases Nat.eq_zero_or_pos b with e | e
    · subst e
      rw [if_pos (show lg_cmp (lN 0) 0 = 0 by decide), Nat.gcd_zero_right]
    · have hlt := Nat.mod_lt a e
      rw [if_neg (show ¬ lg_cmp (lN b) 0 = 0 from fun h => lN_nz e hb ((lg_cmp_eq _ _).mp h)), if_pos (lN_nz e hb), lt_eq, pk_lRem ha e hb, ih (a % b) hlt m b (by omega) hb (by omega), Nat.gcd_comm b (a % b), ← Nat.gcd_rec, Nat.gcd_comm]
/-! odds -/
def wy (t : Nat) : Nat → Nat → Nat
  | 0, q => if q = 0 then 1 else 0
  | f + 1, q => wy t f q * (10 - t) + (if q = 0 then 0 else wy t f (q - 1) * t)
def abX (m t k : Nat) : Nat := if k ≤ m then chN m k k * t ^ k * (10 - t) ^ (m - k) else 0
theorem odds_chk : (List.range 9).all (fun m => (List.range 11).all (fun t => (List.range 9).all (fun k => decide (wy t m k = abX m t k ∧ abX m t k < 2 ^ 63 ∧ 10 ^ m < 2 ^ 63 ∧ euX 100 (10 ^ m) (abX m t k) = Nat.gcd (abX m t k) (10 ^ m) ∧ 1 ≤ Nat.gcd (abX m t k) (10 ^ m) ∧ Nat.gcd (abX m t k) (10 ^ m) < 2 ^ 63)))) = true := by decide +kernel
theorem odds_ok {m t k : Nat} (hm : m ≤ 8) (ht : t ≤ 10) (hk : k ≤ 8) : wy t m k = abX m t k ∧ abX m t k < 2 ^ 63 ∧ 10 ^ m < 2 ^ 63 ∧ euX 100 (10 ^ m) (abX m t k) = Nat.gcd (abX m t k) (10 ^ m) ∧ 1 ≤ Nat.gcd (abX m t k) (10 ^ m) ∧ Nat.gcd (abX m t k) (10 ^ m) < 2 ^ 63 := by
  have h1 := List.all_eq_true.mp odds_chk m (List.mem_range.mpr (by omega))
  have h2 := List.all_eq_true.mp h1 t (List.mem_range.mpr (by omega))
  exact of_decide_eq_true (List.all_eq_true.mp h2 k (List.mem_range.mpr (by omega)))
def oddA (m t k wh : Nat) : Int64 := lN ((if wh = 0 then abX m t k else 10 ^ m) / Nat.gcd (abX m t k) (10 ^ m))
theorem x_odds_eq {m t k wh : Nat} (hm : m ≤ 8) (ht : t ≤ 10) (hk : k ≤ 8) (hw : wh ≤ 1) {st : Mm} (h : st.1 1 3 = nI m) : f_x_odds (nI t) (nI k) (nI wh) st = some (oddA m t k wh, st) := by
  obtain ⟨o1, o2, o3, o4, o5, o6⟩ := odds_ok hm ht hk
  have e8 : ∀ a b : Nat, a ≤ b → b < 100 → ¬ nI b < nI a := fun a b h1 h2 => by rw [nI_ltI (by omega) (by omega)]; omega
  have tail : ∀ z : Int64, z = lN (abX m t k) → ((f_x_power (10 : Int32) (st.1 1 3) st).bind (fun q12 => (f_x_commonDivisor q12.1 z q12.2).bind (fun q13 => if 0 ≤ (lg_cmp q13.1 (1 : Int64)) then (if nI wh = 0 then (if ¬ q13.1 = 0 then some ((z / q13.1), q13.2) else none) else (if ¬ q13.1 = 0 then some ((q12.1 / q13.1), q13.2) else none)) else (some ((-1 : Int64), q13.2))))) = some (oddA m t k wh, st) := by
    rintro z rfl
    rw [h, show (10 : Int32) = nI 10 from rfl, x_power_eq (by omega) (by omega)]
    simp only [Option.bind_some]
    rw [show f_x_commonDivisor (lN (10 ^ m)) (lN (abX m t k)) st = _ from x_cd_loop st 100 0 1000000 _ _ (by omega) (by omega) o3 o2, o4]
    simp only [Option.bind_some]
    rw [if_pos (show 0 ≤ lg_cmp (lN (Nat.gcd (abX m t k) (10 ^ m))) (1 : Int64) from (lg_cmp_ge _ _).mpr (show lN 1 ≤ lN _ from (pk_lLE (by decide) o6).mpr o5)), if_pos (lN_nz o5 o6), if_pos (lN_nz o5 o6), pk_lDiv o2 o5 o6, pk_lDiv o3 o5 o6]
    unfold oddA
    rcases Nat.lt_or_ge 0 wh with hh | hh
    · rw [if_neg (show ¬ nI wh = (0 : Int32) from fun e => by have := nI_inj (a := wh) (b := 0) (by omega) (by omega) e; omega), if_neg (show ¬ wh = 0 by omega)]
    · rw [if_pos (show nI wh = (0 : Int32) by rw [show wh = 0 by omega]; rfl), if_pos (show wh = 0 by omega)]
  unfold f_x_odds
  rw [if_neg (nI_pos (by omega)), if_neg (show ¬ (10 : Int32) < nI t from e8 t 10 ht (by omega)), if_neg (nI_pos (by omega)), if_neg (show ¬ (8 : Int32) < nI k from e8 k 8 hk (by omega)), if_neg (nI_pos (by omega)), if_pos (show nI wh ≤ (1 : Int32) from show nI wh ≤ nI 1 from nI_le hw (by omega)), lt_eq]
  rw [h] at tail ⊢
  rcases Nat.lt_or_ge m k with hh | hh
  · rw [x_choose_no (by omega) hh (by omega)]
    simp only [Option.bind_some]
    rw [x_power_eq (by omega) (by omega)]
    simp only [Option.bind_some]
    rw [x_power_neg]
    · simp only [Option.bind_some, lt_eq]
      rw [h]
      refine tail _ ?_
      unfold abX
      rw [if_neg (show ¬ k ≤ m by omega), show (1 : Int64) = lN 1 from rfl, lN_mul, lN_mul]
      simp
    · rw [i_le, pk_sub_toInt (by omega) (by omega), i_z]; omega
  · rw [x_choose_eq (by omega) hh]
    simp only [Option.bind_some]
    rw [x_power_eq (by omega) (by omega)]
    simp only [Option.bind_some]
    rw [show (10 : Int32) = nI 10 from rfl, pk_sub ht, pk_sub hh, x_power_eq (by omega) (by omega)]
    simp only [Option.bind_some, lt_eq]
    rw [h]
    refine tail _ ?_
    unfold abX
    rw [if_pos hh, lN_mul, lN_mul]
theorem sL_at (st : Mm) (c j : Nat) (v : Int64) (k : Nat) : (sL st c j v).2 c k = if k = j then v else st.2 c k := by
  show (if c = c then vp_updL (st.2 c) j v else st.2 c) k = _
  rw [if_pos rfl]; rfl
theorem m_odds_eq {m t k wh : Nat} (hm : m ≤ 8) (ht : t ≤ 10) (hk : k ≤ 8) (hw : wh ≤ 1) {st : Mm} (h : st.1 58 1 = nI m) {P : Int64 × Mm → Prop} (hP : ∀ s2 : Mm, s2.1 = st.1 → P (oddA m t k wh, s2)) : Ok (f_m_odds (nI t) (nI k) (nI wh) st) P := by
  obtain ⟨o1, o2, o3, o4, o5, o6⟩ := odds_ok hm ht hk
  unfold f_m_odds
  refine ok_bind (ok_eq (m_in_eq _ 0 10 (by omega) (by omega) st) ?_)
  rw [decide_eq_true (show (((0 : Nat) : Int) ≤ (nI t).toInt ∧ (nI t).toInt ≤ ((10 : Nat) : Int)) by rw [nI_T (by omega)]; omega)]
  refine ok_f nbt (ok_bind (ok_eq (m_in_eq _ 0 8 (by omega) (by omega) st) ?_))
  rw [decide_eq_true (show (((0 : Nat) : Int) ≤ (nI k).toInt ∧ (nI k).toInt ≤ ((8 : Nat) : Int)) by rw [nI_T (by omega)]; omega)]
  refine ok_f nbt (ok_bind (ok_eq (m_in_eq _ 0 1 (by omega) (by omega) st) ?_))
  rw [decide_eq_true (show (((0 : Nat) : Int) ≤ (nI wh).toInt ∧ (nI wh).toInt ≤ ((1 : Nat) : Int)) by rw [nI_T (by omega)]; omega)]
  refine ok_f nbt ?_
  simp only
  refine ok_upF (fun n i a => f_m_odds_36 n (nI t) (nI k) (nI wh) i a) (fun i a => a.1 = st.1 ∧ ∀ q, q < i → a.2 83 q = lN (wy t 0 q)) P 10 (by omega) ⟨rfl, fun q hq => by omega⟩ ?_ ?_
  · rintro n i a hi ⟨g1, g2⟩ ih
    show Ok (b_m_odds_36 (f_m_odds_36 n) (nI t) (nI k) (nI wh) (nI i) a) P
    unfold b_m_odds_36
    refine ok_f (show ¬ nI 9 < nI i by rw [nI_ltI (by omega) (by omega)]; omega) ?_
    have hb := inb_nI (show i < 50 by omega) (show 50 < 2147483648 by omega)
    have fin : ∀ z : Int64, z = lN (wy t 0 i) → Ok (lt_ (nI i + (1 : Int32)) (fun a4 => f_m_odds_36 n (nI t) (nI k) (nI wh) a4 (sL a 83 (nI i).toNatClampNeg z))) P := fun z hz => by
      refine ok_lt ?_
      rw [nI_1, cl_nI (by omega)]
      refine ih _ ⟨g1, fun q hq => ?_⟩
      rw [sL_at]
      by_cases e : q = i
      · rw [if_pos e, hz, e]
      · rw [if_neg e]; exact g2 q (by omega)
    refine okc_eq i 0 (fun e => ok_t hb (fin 1 (by rw [e]; rfl))) (fun e => ok_t hb (fin 0 ?_))
    show (0 : Int64) = lN (if i = 0 then 1 else 0)
    rw [if_neg e]; rfl
  · rintro n a ⟨g1, g2⟩
    show Ok (b_m_odds_36 (f_m_odds_36 n) (nI t) (nI k) (nI wh) (nI 10) a) P
    unfold b_m_odds_36 b_m_odds_66
    refine ok_t (by decide) ?_
    refine ok_upF (fun n i (a : Int64 × Mm) => f_m_odds_72 n (nI t) (nI k) (nI wh) a.1 i a.2) (fun f a => a.1 = lN (10 ^ f) ∧ a.2.1 = st.1 ∧ ∀ q, q < 10 → a.2.2 83 q = lN (wy t f q)) P m (by omega) (a := (1, a)) ⟨rfl, g1, g2⟩ ?_ ?_
    · rintro n f ⟨z, a⟩ hf ⟨rfl, g1, g2⟩ ih
      simp only at g1 g2
      show Ok (b_m_odds_72 (f_m_odds_72 n) (nI t) (nI k) (nI wh) (lN (10 ^ f)) (nI f) a) P
      unfold b_m_odds_72
      rw [g1, h]
      refine ok_f (nI_ge hf (by omega)) ?_
      refine ok_dn (fun m2 q a => f_m_odds_85 (f_m_odds_72 n) m2 (nI t) (nI k) (nI wh) (lN (10 ^ f)) (nI f) q a) (fun j a => j ≤ 10 ∧ a.1 = st.1 ∧ (∀ q, q < j → a.2 83 q = lN (wy t f q)) ∧ (∀ q, j ≤ q → q < 10 → a.2 83 q = lN (wy t (f + 1) q))) P ?_ ?_ 9 1000000 a (by omega) ⟨by omega, g1, g2, fun q h1 h2 => by omega⟩
      · rintro m2 i b ⟨hi, b1, b2, b3⟩ ih2
        show Ok (b_m_odds_85 (f_m_odds_72 n) (f_m_odds_85 (f_m_odds_72 n) m2) (nI t) (nI k) (nI wh) (lN (10 ^ f)) (nI f) (nI i) b) P
        unfold b_m_odds_85
        have hb := inb_nI (show i < 50 by omega) (show 50 < 2147483648 by omega)
        have fin : ∀ z : Int64, z = lN (wy t (f + 1) i) → Ok (lt_ (nI i + (-1 : Int32)) (fun a6 => f_m_odds_85 (f_m_odds_72 n) m2 (nI t) (nI k) (nI wh) (lN (10 ^ f)) (nI f) a6 (sL b 83 (nI i).toNatClampNeg z))) P := fun z hz => by
          refine ok_lt ?_
          rw [am1, cl_nI (by omega)]
          refine ih2 _ ⟨by omega, b1, fun q hq => ?_, fun q h1 h2 => ?_⟩
          · rw [sL_at, if_neg (by omega)]; exact b2 q (by omega)
          · rw [sL_at]
            by_cases e : q = i
            · rw [if_pos e, hz, e]
            · rw [if_neg e]; exact b3 q (by omega) h2
        refine ok_f (nI_pos (by omega)) (ok_t hb ?_)
        rw [show (10 : Int32) = nI 10 from rfl, pk_sub ht, nI_l (by omega), nI_l (by omega)]
        refine okc_eq i 0 (fun e => ok_lt (ok_t hb (fin _ ?_))) (fun e => ?_)
        · rw [cl_nI (by omega), b2 i (by omega), lN_mul, show (0 : Int64) = lN 0 from rfl, lN_add, e]; rfl
        · have e1 : nI i - (1 : Int32) = nI (i - 1) := pk_sub (b := 1) (by omega)
          rw [e1]
          refine ok_t (inb_nI (show i - 1 < 50 by omega) (by omega)) (ok_lt (ok_t hb (fin _ ?_)))
          rw [cl_nI (by omega), cl_nI (by omega), b2 i (by omega), b2 (i - 1) (by omega), lN_mul, lN_mul, lN_add]
          show _ = lN (wy t f i * (10 - t) + (if i = 0 then 0 else wy t f (i - 1) * t))
          rw [if_neg e]
      · rintro m2 b ⟨hi, b1, b2, b3⟩
        show Ok (b_m_odds_85 (f_m_odds_72 n) (f_m_odds_85 (f_m_odds_72 n) m2) (nI t) (nI k) (nI wh) (lN (10 ^ f)) (nI f) (-1) b) P
        unfold b_m_odds_85 b_m_odds_138
        refine ok_t (by decide) (ok_lt (ok_lt ?_))
        rw [nI_1]
        refine ih (_, b) ⟨?_, b1, fun q hq => b3 q (by omega) hq⟩
        show lN (10 ^ f) * (10 : Int64) = _
        rw [show (10 : Int64) = lN 10 from rfl, lN_mul]; rfl
    · rintro n ⟨z, a⟩ ⟨rfl, g1, g2⟩
      simp only at g1 g2
      show Ok (b_m_odds_72 (f_m_odds_72 n) (nI t) (nI k) (nI wh) (lN (10 ^ m)) (nI m) a) P
      unfold b_m_odds_72 b_m_odds_152
      rw [g1, h]
      refine ok_t (Int32.le_refl _) (ok_t (inb_nI (show k < 50 by omega) (by omega)) (ok_lt ?_))
      rw [cl_nI (by omega), g2 k (by omega), o1]
      refine ok_bind (ok_eq (m_gcd_loop a (10 ^ m) 100000000000000000000 (abX m t k) (by omega) o2 o3) ?_)
      have hf := hP a g1
      unfold oddA at hf
      refine okc_eq wh 0 (fun e => ok_t (lN_nz o5 o6) (ok_some ?_)) (fun e => ok_t (lN_nz o5 o6) (ok_some ?_))
      · rw [if_pos e] at hf
        simp only
        rw [pk_lDiv o2 o5 o6]; exact hf
      · rw [if_neg e] at hf
        simp only
        rw [pk_lDiv o3 o5 o6]; exact hf
theorem Fr.of1 {st s2 : Mm} (h : s2.1 = st.1) : Fr [] st s2 := fun c j _ => by rw [h]
theorem st_odds (a0 a1 a2 : Int32) : Step1 Inv (f_x_odds a0 a1 a2) (f_m_odds a0 a1 a2) := step_q (fun A hA => by
  have h8 := hA.1.2.2.2.2.2.1
  by_cases hg : 0 ≤ a0.toInt ∧ a0.toInt ≤ 10 ∧ 0 ≤ a1.toInt ∧ a1.toInt ≤ 8 ∧ 0 ≤ a2.toInt ∧ a2.toInt ≤ 1
  · obtain ⟨t, ht, rfl⟩ := i_natLt (N := 11) hg.1 (by omega)
    obtain ⟨k, hk, rfl⟩ := i_natLt (N := 9) hg.2.2.1 (by omega)
    obtain ⟨wh, hw, rfl⟩ := i_natLt (N := 2) hg.2.2.2.2.1 (by omega)
    refine ⟨oddA A.1.2.2.2.1.length t k wh, xok_fr [] rfl (fun st hI => ?_), mok_fr [] rfl (fun st hI => ?_)⟩
    · exact ok_eq (x_odds_eq h8 (by omega) (by omega) (by omega) hI.1.2.2.2.1) ⟨rfl, Fr.rf⟩
    · exact m_odds_eq h8 (by omega) (by omega) (by omega) hI.1.2.2.2.1 (fun s2 h => ⟨rfl, Fr.of1 h⟩)
  · refine ⟨-1, xok_fr [] rfl (fun st hI => ?_), mok_fr [] rfl (fun st hI => ?_)⟩
    · unfold f_x_odds
      refine ok_if (fun _ => ok_some ⟨rfl, Fr.rf⟩) (fun c1 => ok_if (fun _ => ok_some ⟨rfl, Fr.rf⟩) (fun c2 => ok_if (fun _ => ok_some ⟨rfl, Fr.rf⟩) (fun c3 => ok_if (fun _ => ok_some ⟨rfl, Fr.rf⟩) (fun c4 => ok_if (fun _ => ok_some ⟨rfl, Fr.rf⟩) (fun c5 => ok_if (fun c6 => ?_) (fun _ => ok_some ⟨rfl, Fr.rf⟩))))))
      rw [i_lt, i_z] at c1 c3 c5
      rw [i_lt, show (10 : Int32).toInt = 10 from rfl] at c2
      rw [i_lt, show (8 : Int32).toInt = 8 from rfl] at c4
      rw [i_le, show (1 : Int32).toInt = 1 from rfl] at c6
      omega
    · unfold f_m_odds
      refine ok_bind (ok_eq (m_in_eq _ 0 10 (by omega) (by omega) st) ?_)
      refine okc_b _ (fun _ => ok_some ⟨rfl, Fr.rf⟩) (fun c1 => ?_)
      refine ok_bind (ok_eq (m_in_eq _ 0 8 (by omega) (by omega) st) ?_)
      refine okc_b _ (fun _ => ok_some ⟨rfl, Fr.rf⟩) (fun c2 => ?_)
      refine ok_bind (ok_eq (m_in_eq _ 0 1 (by omega) (by omega) st) ?_)
      refine okc_b _ (fun _ => ok_some ⟨rfl, Fr.rf⟩) (fun c3 => ?_)
      have c1 := of_decide_eq_true c1
      have c2 := of_decide_eq_true c2
      have c3 := of_decide_eq_true c3
      omega)
