/-! the edge, counted -/
theorem ct_sm (q : Nat → Bool) : ∀ m, fb_ct q m = fb_sm (fun k => if q k then 1 else 0) m
  | 0 => rfl
  | m + 1 => by rw [fb_ct_succ, fb_sm_succ, ct_sm q m]
theorem sm_rows (g : Nat → Nat) : ∀ m, fb_sm g (16 * m) = fb_sm (fun y => fb_sm (fun x => g (16 * y + x)) 16) m
  | 0 => rfl
  | m + 1 => by rw [show 16 * (m + 1) = 16 * m + 16 by omega, fb_sm_split, sm_rows g m]; rfl
theorem ct_rows (q : Nat → Bool) : fb_ct q 256 = fb_sm (fun y => fb_ct (fun x => q (16 * y + x)) 16) 16 := by
  rw [ct_sm, show 256 = 16 * 16 from rfl, sm_rows]
  exact fb_sm_cong (fun y _ => (ct_sm _ _).symm)
theorem ct_xor (a c : Nat → Bool) (m : Nat) : fb_ct (fun b => a b ^^ c b) m = fb_ct (fun b => a b && !c b) m + fb_ct (fun b => !a b && c b) m := by
  rw [← fb_ct_or (p := fun b => a b && !c b) (q := fun b => !a b && c b)]
  · exact fb_ct_cong (fun b _ => by cases a b <;> cases c b <;> rfl)
  · intro k _ h
    cases h1 : a k <;> cases h2 : c k <;> simp [h1, h2] at h
def eo (n : Nat) (p : Nat → Bool) (c k : Nat) : Bool := p c && (match nbr n c k with
  | none => true
  | some w => !p w)
def eR (p : Nat → Bool) (c : Nat) : Bool := p c && !(decide (c % 16 + 1 < 16) && p (c + 1))
def eL (p : Nat → Bool) (c : Nat) : Bool := p c && !(decide (1 ≤ c % 16) && p (c - 1))
def eD (p : Nat → Bool) (c : Nat) : Bool := p c && !p (c + 16)
def eU (p : Nat → Bool) (c : Nat) : Bool := p c && !(decide (1 ≤ c / 16) && p (c - 16))
theorem eo_ct {n : Nat} {p : Nat → Bool} (hp : pIn n p) (c : Nat) : fb_ct (eo n p c) 4 = (if eR p c then 1 else 0) + (if eL p c then 1 else 0) + (if eD p c then 1 else 0) + (if eU p c then 1 else 0) := by
  have h0 : eo n p c 0 = eR p c := by
    unfold eo eR
    cases hpc : p c with
    | false => rfl
    | true =>
      have hC := hp.2 c hpc
      simp only [nbr, if_true, Bool.true_and]
      by_cases h : c % 16 + 1 < n
      · rw [if_pos h]; simp only; rw [decide_eq_true (show c % 16 + 1 < 16 by have := hp.1; omega), Bool.true_and]
      · rw [if_neg h]; simp only
        by_cases h2 : c % 16 + 1 < 16
        · rw [decide_eq_true h2, Bool.true_and]
          cases h3 : p (c + 1) with
          | false => rfl
          | true => have := (hp.2 _ h3).2.1; omega
        · rw [decide_eq_false h2]; rfl
  have h1 : eo n p c 1 = eL p c := by
    unfold eo eL
    simp only [nbr, show ¬ (1 = 0) by decide, if_false, if_true]
    by_cases h : 1 ≤ c % 16
    · rw [if_pos h]; simp [h]
    · rw [if_neg h]; simp [h]
  have h2 : eo n p c 2 = eD p c := by
    unfold eo eD
    cases hpc : p c with
    | false => rfl
    | true =>
      have hC := hp.2 c hpc
      simp only [nbr, show ¬ (2 = 0) by decide, show ¬ (2 = 1) by decide, if_false, if_true, Bool.true_and]
      by_cases h : c / 16 + 1 < n
      · rw [if_pos h]
      · rw [if_neg h]; simp only
        cases h3 : p (c + 16) with
        | false => rfl
        | true => have := (hp.2 _ h3).2.2; omega
  have h3 : eo n p c 3 = eU p c := by
    unfold eo eU
    simp only [nbr, show ¬ (3 = 0) by decide, show ¬ (3 = 1) by decide, show ¬ (3 = 2) by decide, if_false]
    by_cases h : 1 ≤ c / 16
    · rw [if_pos h]; simp [h]
    · rw [if_neg h]; simp [h]
  rw [fb_ct_succ, fb_ct_succ, fb_ct_succ, fb_ct_succ, h0, h1, h2, h3]
  show 0 + _ + _ + _ + _ = _
  omega
theorem edge_sum {n : Nat} {p : Nat → Bool} (hp : pIn n p) : fb_sm (fun c => fb_ct (eo n p c) 4) 256 = fb_ct (eR p) 256 + fb_ct (eL p) 256 + fb_ct (eD p) 256 + fb_ct (eU p) 256 := by
  rw [fb_sm_cong (fun c _ => eo_ct hp c), fb_sm_add (fun c => (if eR p c then 1 else 0) + (if eL p c then 1 else 0) + (if eD p c then 1 else 0)), fb_sm_add (fun c => (if eR p c then 1 else 0) + (if eL p c then 1 else 0)), fb_sm_add, ct_sm, ct_sm, ct_sm, ct_sm]
def hF (p : Nat → Bool) (y b : Nat) : Bool := decide (b < 16) && p (16 * y + b)
theorem edge_h {p : Nat → Bool} {y : Nat} : fb_ct (fun b => hF p y b ^^ (decide (1 ≤ b) && hF p y (b - 1))) 17 = fb_ct (fun x => eR p (16 * y + x)) 16 + fb_ct (fun x => eL p (16 * y + x)) 16 := by
  rw [ct_xor, Nat.add_comm]
  congr 1
  · rw [show 17 = 1 + 16 from rfl, fb_ct_split]
    rw [show fb_ct (fun b => !hF p y b && (decide (1 ≤ b) && hF p y (b - 1))) 1 = 0 from fb_ct_zero.mpr (fun k hk => by simp [show k = 0 by omega]), Nat.zero_add]
    refine fb_ct_cong (fun x hx => ?_)
    unfold hF eR
    rw [show 1 + x - 1 = x by omega, decide_eq_true (show 1 ≤ 1 + x by omega), decide_eq_true hx, show (16 * y + x) % 16 = x by omega, show 16 * y + (1 + x) = 16 * y + x + 1 by omega, Nat.add_comm 1 x]
    cases p (16 * y + x) <;> cases decide (x + 1 < 16) <;> cases p (16 * y + x + 1) <;> rfl
  · rw [fb_ct_succ]
    rw [show (hF p y 16 && !(decide (1 ≤ 16) && hF p y (16 - 1))) = false by unfold hF; simp]
    show _ + 0 = _
    rw [Nat.add_zero]
    refine fb_ct_cong (fun x hx => ?_)
    unfold hF eL
    rw [decide_eq_true hx, show (16 * y + x) % 16 = x by omega]
    by_cases h : 1 ≤ x
    · rw [decide_eq_true h, decide_eq_true (show x - 1 < 16 by omega), show 16 * y + (x - 1) = 16 * y + x - 1 by omega]; rfl
    · rw [decide_eq_false h]; rfl
theorem edge_v {n : Nat} {p : Nat → Bool} (hp : pIn n p) : fb_sm (fun y => fb_ct (fun b => p (16 * y + b) ^^ (decide (1 ≤ y) && p (16 * (y - 1) + b))) 16) 16 + fb_ct (fun b => p (240 + b)) 16 = fb_ct (eD p) 256 + fb_ct (eU p) 256 := by
  have e1 : fb_sm (fun y => fb_ct (fun b => p (16 * y + b) ^^ (decide (1 ≤ y) && p (16 * (y - 1) + b))) 16) 16 = fb_sm (fun y => fb_ct (fun b => p (16 * y + b) && !(decide (1 ≤ y) && p (16 * (y - 1) + b))) 16) 16 + fb_sm (fun y => fb_ct (fun b => !p (16 * y + b) && (decide (1 ≤ y) && p (16 * (y - 1) + b))) 16) 16 := by
    rw [← fb_sm_add]
    exact fb_sm_cong (fun y _ => ct_xor _ _ _)
  have e2 : fb_sm (fun y => fb_ct (fun b => p (16 * y + b) && !(decide (1 ≤ y) && p (16 * (y - 1) + b))) 16) 16 = fb_ct (eU p) 256 := by
    rw [ct_rows]
    refine fb_sm_cong (fun y _ => fb_ct_cong (fun x hx => ?_))
    unfold eU
    rw [show (16 * y + x) / 16 = y by omega]
    by_cases h : 1 ≤ y
    · rw [decide_eq_true h, show 16 * (y - 1) + x = 16 * y + x - 16 by omega]
    · rw [decide_eq_false h]; rfl
  have e3 : fb_sm (fun y => fb_ct (fun b => !p (16 * y + b) && (decide (1 ≤ y) && p (16 * (y - 1) + b))) 16) 16 + fb_ct (fun b => p (240 + b)) 16 = fb_ct (eD p) 256 := by
    have h17 : fb_sm (fun y => fb_ct (fun b => !p (16 * y + b) && (decide (1 ≤ y) && p (16 * (y - 1) + b))) 16) 17 = fb_sm (fun y => fb_ct (fun b => !p (16 * y + b) && (decide (1 ≤ y) && p (16 * (y - 1) + b))) 16) 16 + fb_ct (fun b => p (240 + b)) 16 := by
      rw [fb_sm_succ]
      congr 1
      refine fb_ct_cong (fun x hx => ?_)
      have : p (16 * 16 + x) = false := by
        cases h : p (16 * 16 + x) with
        | false => rfl
        | true => have := (hp.2 _ h).1; omega
      rw [this, decide_eq_true (by omega), show 16 * (16 - 1) + x = 240 + x by omega]; rfl
    rw [← h17, show 17 = 1 + 16 from rfl, fb_sm_split]
    rw [show fb_sm (fun y => fb_ct (fun b => !p (16 * y + b) && (decide (1 ≤ y) && p (16 * (y - 1) + b))) 16) 1 = 0 by
      show 0 + fb_ct _ 16 = 0
      rw [Nat.zero_add]
      exact fb_ct_zero.mpr (fun k _ => by simp), Nat.zero_add, ct_rows]
    refine fb_sm_cong (fun y _ => fb_ct_cong (fun x hx => ?_))
    unfold eD
    rw [decide_eq_true (by omega), show 16 * (1 + y) + x = 16 * y + x + 16 by omega, show 1 + y - 1 = y by omega]
    cases p (16 * y + x) <;> cases p (16 * y + x + 16) <;> rfl
  omega
theorem x_sides_eq {n : Nat} {p : Nat → Bool} {st : Mm} (hpin : pIn n p) (hp : Rw (st.1 31) p) : f_Pap_sides st = some (nI (fb_sm (fun c => fb_ct (eo n p c) 4) 256), st) := by
  obtain ⟨T, hT⟩ : ∃ T : Nat → Nat, T = fun y => fb_ct (fun b => hF p y b ^^ (decide (1 ≤ b) && hF p y (b - 1))) 17 + fb_ct (fun b => p (16 * y + b) ^^ (decide (1 ≤ y) && p (16 * (y - 1) + b))) 16 := ⟨_, rfl⟩
  have hfin : fb_sm T 16 + fb_ct (fun b => p (240 + b)) 16 = fb_sm (fun c => fb_ct (eo n p c) 4) 256 := by
    rw [edge_sum hpin, hT, fb_sm_add]
    have h1 := edge_v hpin
    have h2 : fb_sm (fun y => fb_ct (fun b => hF p y b ^^ (decide (1 ≤ b) && hF p y (b - 1))) 17) 16 = fb_ct (eR p) 256 + fb_ct (eL p) 256 := by
      rw [fb_sm_cong (fun y _ => edge_h), fb_sm_add, ← ct_rows, ← ct_rows]
    omega
  have rowb : ∀ y, y < 16 → ∀ b, b < 32 → bt (st.1 31 y) b = hF p y b := fun y hy b hb => by rw [hp y hy b hb]; rfl
  have abv : ∀ y, y ≤ 16 → (if y = 0 then (0 : Int32) else st.1 31 (y - 1)) = (if y = 0 then (0 : Int32) else st.1 31 (y - 1)) := fun _ _ => rfl
  have key : ∀ r y m, y + r = 16 → r + 1 ≤ m → f_Pap_sides_6 m (nI (fb_sm T y)) (if y = 0 then (0 : Int32) else st.1 31 (y - 1)) (nI y) st = some (nI (fb_sm (fun c => fb_ct (eo n p c) 4) 256), st) := by
    intro r
    induction r with
    | zero =>
      intro y m hy hm
      obtain ⟨m, rfl⟩ := nat_suc (show 0 + 1 ≤ m by omega)
      have e : y = 16 := by omega
      subst e
      show b_Pap_sides_6 (f_Pap_sides_6 m) _ _ (nI 16) st = _
      unfold b_Pap_sides_6 b_Pap_sides_60
      rw [if_pos (by decide), if_neg (by decide), x_rowCount hp (by omega)]
      simp only [Option.bind_some]
      rw [nI_add, show 16 * (16 - 1) = 240 from rfl, hfin]
    | succ r ih =>
      intro y m hy hm
      obtain ⟨m, rfl⟩ := nat_suc (show 0 + 1 ≤ m by omega)
      show b_Pap_sides_6 (f_Pap_sides_6 m) _ _ (nI y) st = _
      unfold b_Pap_sides_6
      have hb := inb_nI (show y < 16 by omega) (show 16 < 2147483648 by omega)
      have c1 : ∀ b, b < 32 → bt (st.1 31 y ^^^ (st.1 31 y <<< ((1 : Int32) &&& 31))) b = (hF p y b ^^ (decide (1 ≤ b) && hF p y (b - 1))) := fun b hb => by
        rw [b_xor, show (1 : Int32) = nI 1 from rfl, b_shl 1 (by omega) _ hb, rowb y (by omega) b hb, rowb y (by omega) (b - 1) (by omega)]
      have c2 : ∀ b, b < 32 → bt (st.1 31 y ^^^ (if y = 0 then (0 : Int32) else st.1 31 (y - 1))) b = (hF p y b ^^ (decide (1 ≤ y) && hF p (y - 1) b)) := fun b hb => by
        rw [b_xor, rowb y (by omega) b hb]
        by_cases e : y = 0
        · rw [if_pos e, b_0, decide_eq_false (by omega)]; rfl
        · rw [if_neg e, rowb (y - 1) (by omega) b hb, decide_eq_true (by omega)]; rfl
      have d1 : f_Int_bitCount (st.1 31 y ^^^ (st.1 31 y <<< ((1 : Int32) &&& 31))) st = some (nI (fb_ct (fun b => hF p y b ^^ (decide (1 ≤ b) && hF p y (b - 1))) 17), st) := by
        rw [x_bitCount_eq (fun b h1 h2 => by
          rw [c1 b h2]
          unfold hF
          rw [decide_eq_false (show ¬ b < 16 by omega), decide_eq_false (show ¬ b - 1 < 16 by omega)]; simp)]
        rw [fb_ct_cong (fun b hb => c1 b (by omega))]
      have d2 : f_Int_bitCount (st.1 31 y ^^^ (if y = 0 then (0 : Int32) else st.1 31 (y - 1))) st = some (nI (fb_ct (fun b => p (16 * y + b) ^^ (decide (1 ≤ y) && p (16 * (y - 1) + b))) 16), st) := by
        rw [x_bitCount_eq (fun b h1 h2 => by
          rw [c2 b h2]
          unfold hF
          rw [decide_eq_false (show ¬ b < 16 by omega)]; simp)]
        have : fb_ct (bt (st.1 31 y ^^^ (if y = 0 then (0 : Int32) else st.1 31 (y - 1)))) 17 = fb_ct (fun b => p (16 * y + b) ^^ (decide (1 ≤ y) && p (16 * (y - 1) + b))) 16 := by
          rw [fb_ct_succ, c2 16 (by omega)]
          rw [show (hF p y 16 ^^ (decide (1 ≤ y) && hF p (y - 1) 16)) = false by unfold hF; simp]
          refine fb_ct_cong (fun b hb => ?_)
          rw [c2 b (by omega)]
          unfold hF
          rw [decide_eq_true hb]; rfl
        rw [this]
      rw [if_neg (n16 (show y < 16 by omega)), if_pos hb, if_pos hb, cl_nI (by omega), d1]
      simp only [Option.bind_some, lt_eq]
      rw [if_pos hb, d2]
      simp only [Option.bind_some, lt_eq]
      rw [if_pos hb, nI_add, nI_add, nI_1]
      have nx := ih (y + 1) m (by omega) (by omega)
      rw [if_neg (show ¬ y + 1 = 0 by omega), show y + 1 - 1 = y by omega, fb_sm_succ] at nx
      rw [show fb_sm T y + fb_ct (fun b => hF p y b ^^ (decide (1 ≤ b) && hF p y (b - 1))) 17 + fb_ct (fun b => p (16 * y + b) ^^ (decide (1 ≤ y) && p (16 * (y - 1) + b))) 16 = fb_sm T y + T y by rw [hT]; simp only; omega]
      exact nx
  exact key 16 0 1000000 (by omega) (by omega)
theorem m_edgeMany_eq {n : Nat} {p : Nat → Bool} {st : Mm} (hpin : pIn n p) (hn : st.1 58 0 = nI n) (hp : ∀ c, c < 256 → st.1 72 c = bI (p c)) {P : Int32 × Mm → Prop} (hP : P (nI (fb_sm (fun c => fb_ct (eo n p c) 4) 256), st)) : Ok (f_m_edgeMany st) P := by
  unfold f_m_edgeMany
  refine ok_grid (α := Int32 × Mm) (fun m c a => f_m_edgeMany_4 m a.1 c a.2) (fun k m c j a => f_m_edgeMany_13 (fun v1 v2 st2 => k v2 (v1, st2)) m a.1 c j a.2) (fun c j a => a = (nI (cn2 (fun k c => eo n p c k) 4 c j), st)) P 256 4 ?_ ?_ ?_ ?_ (by omega) (by omega) (a := (0, st)) rfl
  · rintro k m c j a hc hj rfl ih
    show Ok (b_m_edgeMany_13 _ (f_m_edgeMany_13 (fun v1 v2 st2 => k v2 (v1, st2)) m) _ (nI c) (nI j) st) P
    unfold b_m_edgeMany_13
    have nx := ih (nI (cn2 (fun k c => eo n p c k) 4 c (j + 1)), st) rfl
    rw [cn2_in] at nx
    refine ok_f (show ¬ nI 4 ≤ nI j from nI_ge hj (by omega)) (ok_t (inb_nI hc (by omega)) ?_)
    rw [cl_nI (by omega), hp c hc, nI_1, nI_1]
    cases hpc : p c with
    | false =>
      have e : eo n p c j = false := by unfold eo; rw [hpc]; rfl
      rw [e] at nx
      exact ok_t rfl (ok_lt nx)
    | true =>
      have hC := hpin.2 c hpc
      refine ok_f nbt (ok_bind (ok_eq (m_beside_eq hn hpin.1 hC hj) ?_))
      cases hnb : nbr n c j with
      | none =>
        have e : eo n p c j = true := by unfold eo; rw [hpc, hnb]; rfl
        rw [e] at nx
        refine ok_t rfl (ok_lt (ok_lt ?_))
        exact nx
      | some w =>
        have hw := (nbr_C hpin.1 hC hnb).1
        refine ok_f (show ¬ nI w = (-1 : Int32) from nI_nm1 (by omega)) (ok_bind (ok_eq (m_beside_eq hn hpin.1 hC hj) ?_))
        rw [hnb]
        refine ok_t (inb_nI hw (by omega)) ?_
        simp only
        rw [show (oI (some w)).toNatClampNeg = w from cl_nI (by omega), hp w hw]
        have e : eo n p c j = !p w := by unfold eo; rw [hpc, hnb]; rfl
        rw [e] at nx
        refine okc_b (p w) (fun h => ok_lt (ok_lt ?_)) (fun h => ok_lt ?_)
        · rw [h] at nx; exact nx
        · rw [h] at nx; exact nx
  · rintro k m c a hc rfl ih
    show Ok (b_m_edgeMany_13 _ (f_m_edgeMany_13 (fun v1 v2 st2 => k v2 (v1, st2)) m) _ (nI c) (nI 4) st) P
    unfold b_m_edgeMany_13 b_m_edgeMany_61
    refine ok_t (by decide) (ok_lt ?_)
    rw [nI_1]
    exact ih (nI (cn2 (fun k c => eo n p c k) 4 c 4), st) (by rw [cn2_out])
  · rintro m c a hc rfl ih
    show Ok (b_m_edgeMany_4 (f_m_edgeMany_4 m) _ (nI c) st) P
    unfold b_m_edgeMany_4
    exact ok_f (n256 hc) ih
  · rintro m a rfl
    show Ok (b_m_edgeMany_4 (f_m_edgeMany_4 m) _ (nI 256) st) P
    unfold b_m_edgeMany_4
    refine ok_t (by decide) (ok_some ?_)
    have e : cn2 (fun k c => eo n p c k) 4 256 0 = fb_sm (fun c => fb_ct (eo n p c) 4) 256 := by
      unfold cn2
      rw [show ∀ q : Nat → Bool, fb_ct q 0 = 0 from fun _ => rfl, Nat.add_zero]
    rw [e]
    exact hP
theorem m_threadMany_ok {n : Nat} {p : Nat → Bool} {st : Mm} (hpin : pIn n p) (hn : st.1 58 0 = nI n) (hp : ∀ c, c < 256 → st.1 72 c = bI (p c)) {P : Int32 × Mm → Prop} (hP : ∀ s2, Fr LFl st s2 → P (nI (fb_ct (fun c => p c && thB n p c) 256), s2)) : Ok (f_m_threadMany st) P := by
  unfold f_m_threadMany
  refine ok_upF (fun m c (a : Int32 × Mm) => f_m_threadMany_4 m a.1 c a.2) (fun c a => a.1 = nI (fb_ct (fun c => p c && thB n p c) c) ∧ Fr LFl st a.2) P 256 (by omega) (a := (0, st)) ⟨rfl, Fr.rf⟩ ?_ ?_
  · rintro m c ⟨z, a⟩ hc ⟨rfl, hF⟩ ih
    simp only at hF
    show Ok (b_m_threadMany_4 (f_m_threadMany_4 m) _ (nI c) a) P
    unfold b_m_threadMany_4
    have hpa : ∀ c, c < 256 → a.1 72 c = bI (p c) := fun c hc => by rw [hF _ _ (by simp [inL, LFl])]; exact hp c hc
    have nx : ∀ s, Fr LFl st s → Ok (f_m_threadMany_4 m (nI (fb_ct (fun c => p c && thB n p c) c + if p c && thB n p c then 1 else 0)) (nI (c + 1)) s) P := fun s hs => by
      have := ih (nI (fb_ct (fun c => p c && thB n p c) (c + 1)), s) ⟨rfl, hs⟩
      rw [fb_ct_succ] at this
      exact this
    refine ok_f (n256 hc) (ok_t (inb_nI hc (by omega)) ?_)
    rw [cl_nI (by omega), hpa c hc, nI_z, nI_1, nI_1]
    cases hpc : p c with
    | false =>
      rw [hpc] at nx
      exact ok_t rfl (ok_lt (ok_lt (nx a hF)))
    | true =>
      rw [hpc] at nx
      refine ok_f nbt (ok_bind (m_isThread_ok (by rw [hF _ _ rfl]; exact hn) hpin hpa (hpin.2 c hpc) (fun s2 hF2 => ?_)))
      refine okc_b (thB n p c) (fun e => ok_lt (ok_lt ?_)) (fun e => ok_lt (ok_lt ?_))
      · rw [e] at nx; exact nx s2 (hF.tr hF2)
      · rw [e] at nx; exact nx s2 (hF.tr hF2)
  · rintro m ⟨z, a⟩ ⟨rfl, hF⟩
    show Ok (b_m_threadMany_4 (f_m_threadMany_4 m) _ (nI 256) a) P
    unfold b_m_threadMany_4
    exact ok_t (by decide) (ok_some (hP a hF))
