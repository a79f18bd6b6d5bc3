/-! strips: the class's loops -/
theorem nI_and {a b : Nat} (ha : a < 2 ^ 32) (hb : b < 2 ^ 32) : nI a &&& nI b = nI (a &&& b) := by
  have hab : a &&& b < 2 ^ 32 := Nat.lt_of_le_of_lt Nat.and_le_right hb
  refine b_ext (fun i _ => ?_)
  rw [b_and, bt_nI ha, bt_nI hb, bt_nI hab, Nat.testBit_and]
theorem gmn_mx {L : Nat} {o tab : Nat → Nat} {s : Nat} : ∀ m, gmn L o tab s m ≤ 2147483647
  | 0 => Nat.le_refl _
  | m + 1 => by
    show (if s.testBit m then _ else _) ≤ _
    split
    · exact Nat.le_trans (Nat.min_le_left _ _) (gmn_mx m)
    · exact gmn_mx m
def LPk : List (Nat × Option Nat) := [(56, none), (57, none)]
theorem x_leastOf_eq {n L s : Nat} {o : Nat → Nat} {st : Mm} (hn : n ≤ 10) (hL : L ≤ 255) (ho : ∀ i, i < n → o i ≤ 255) (hs : s < 2 ^ n) (hb : ∀ i, i < n → st.1 12 i = nI (o i)) (hg : ∀ q, q < s → st.1 57 q = nI (gG n L o q)) : f_Pack_leastOf (nI s) (nI n) (nI L) st = some (nI (gmn L o (gG n L o) s n), st) := by
  have hp : 2 ^ n ≤ 2 ^ 10 := Nat.pow_le_pow_right (by decide) hn
  have key : ∀ r i m, i + r = n → r + 1 ≤ m → f_Pack_leastOf_7 m (nI s) (nI n) (nI L) (nI (gmn L o (gG n L o) s i)) (nI i) st = some (nI (gmn L o (gG n L o) s n), st) := by
    intro r
    induction r with
    | zero =>
      intro i m hi hm
      obtain ⟨m, rfl⟩ := nat_suc (show 0 + 1 ≤ m by omega)
      show b_Pack_leastOf_7 (f_Pack_leastOf_7 m) _ _ _ _ (nI i) st = _
      unfold b_Pack_leastOf_7
      rw [show i = n by omega, if_pos (Int32.le_refl _)]
    | succ r ih =>
      intro i m hi hm
      obtain ⟨m, rfl⟩ := nat_suc (show 0 + 1 ≤ m by omega)
      show b_Pack_leastOf_7 (f_Pack_leastOf_7 m) _ _ _ _ (nI i) st = _
      unfold b_Pack_leastOf_7
      rw [if_neg (nI_ge (by omega) (by omega)), bit_of (by omega), bt_nI (by omega)]
      have nx := ih (i + 1) m (by omega) (by omega)
      have e0 : gmn L o (gG n L o) s (i + 1) = if s.testBit i then min (gmn L o (gG n L o) s i) (stpN L (gG n L o (s ^^^ 2 ^ i)) (o i)) else gmn L o (gG n L o) s i := rfl
      by_cases hbit : s.testBit i = true
      · have hlt := xor_lt (bit_sub hbit) (Nat.two_pow_pos i)
        have hbd := gG_bd (L := L) hn ho (s ^^^ 2 ^ i) (by omega)
        have hoi := ho i (by omega)
        have hmx := gmn_mx (L := L) (o := o) (tab := gG n L o) (s := s) i
        rw [e0, if_pos hbit] at nx
        rw [if_pos hbit, if_pos rfl, shl1n (by omega), fb_xorI, if_pos (inb_nI (show s ^^^ 2 ^ i < 1024 by omega) (by omega)), lt_eq, if_pos (inb_nI (show i < 200 by omega) (by omega)), lt_eq, lt_eq, cl_nI (by omega), cl_nI (by omega), hg _ hlt, hb i (by omega)]
        generalize gG n L o (s ^^^ 2 ^ i) = b at nx hbd
        rw [show nI b - nI b / (256 : Int32) * (256 : Int32) = nI (b % 256) from pk_rem (d := 256) (by omega) (by omega) (by omega), nI_add]
        have fin : ∀ z, z = stpN L b (o i) → z < 2147483648 → b_Pack_leastOf_87 (f_Pack_leastOf_7 m) (nI s) (nI n) (nI L) (nI (gmn L o (gG n L o) s i)) (nI i) (nI z) st = some (nI (gmn L o (gG n L o) s n), st) := by
          intro z hz hz2
          unfold b_Pack_leastOf_87
          rw [lt_eq, lt_eq, nI_1]
          have em : (if nI z < nI (gmn L o (gG n L o) s i) then nI z else nI (gmn L o (gG n L o) s i)) = nI (min (gmn L o (gG n L o) s i) (stpN L b (o i))) := by
            rw [← hz]
            by_cases h : z < gmn L o (gG n L o) s i
            · rw [if_pos (nI_lt h (by omega)), Nat.min_eq_right (by omega)]
            · rw [if_neg (by rw [nI_ltI (by omega) (by omega)]; exact h), Nat.min_eq_left (by omega)]
          rw [em]
          exact nx
        by_cases hf : b % 256 + o i ≤ L
        · rw [if_neg (by rw [nI_ltI (by omega) (by omega)]; omega), nI_add]
          exact fin _ (by unfold stpN; rw [if_pos hf]) (by omega)
        · rw [if_pos (nI_lt (by omega) (by omega)), pk_sub (Nat.mod_le _ _), show (256 : Int32) = nI 256 from rfl, nI_add, nI_add]
          exact fin _ (by unfold stpN; rw [if_neg hf]) (by have := Nat.mod_le b 256; omega)
      · rw [e0, if_neg hbit] at nx
        rw [if_neg hbit, if_neg (by decide), lt_eq, nI_1]
        exact nx
  exact key n 0 1000000 (by omega) (by omega)
theorem x_pack_sets {n L : Nat} {o : Nat → Nat} {st : Mm} {P : Int32 × Mm → Prop} (hn : n ≤ 10) (hL : L ≤ 255) (ho : ∀ i, i < n → o i ≤ 255) (hb : ∀ i, i < n → st.1 12 i = nI (o i))
    (hP : ∀ s2, Fr [(57, none)] st s2 → P (nI (gG n L o (2 ^ n - 1) / 256 + 1), s2)) : Ok (b_Pack_pack_55 (nI n) (nI L) st) P := by
  have hp : 2 ^ n ≤ 2 ^ 10 := Nat.pow_le_pow_right (by decide) hn
  have hp0 := Nat.two_pow_pos n
  unfold b_Pack_pack_55
  have key : ∀ r s m a, s + r = 2 ^ n → r + 1 ≤ m → Fr [(57, none)] st a → (∀ q, q < s → a.1 57 q = nI (gG n L o q)) → 0 < s → Ok (f_Pack_pack_65 m (nI n) (nI L) (nI s) a) P := by
    intro r
    induction r with
    | zero =>
      intro s m a hs hm hF hg h0
      obtain ⟨m, rfl⟩ := nat_suc (show 0 + 1 ≤ m by omega)
      show Ok (b_Pack_pack_65 (f_Pack_pack_65 m) (nI n) (nI L) (nI s) a) P
      unfold b_Pack_pack_65 b_Pack_pack_95
      rw [shl1n (by omega), show nI (2 ^ n) - (1 : Int32) = nI (2 ^ n - 1) from pk_sub (b := 1) (by omega)]
      have hbd := gG_bd (L := L) hn ho (2 ^ n - 1) (by omega)
      refine ok_t (nI_le (by omega) (by omega)) (ok_t (inb_nI (by omega) (by omega)) (ok_some ?_))
      rw [cl_nI (by omega), hg _ (by omega), show nI (gG n L o (2 ^ n - 1)) / (256 : Int32) = nI (gG n L o (2 ^ n - 1) / 256) from pk_div (d := 256) (by omega) (by omega) (by omega), nI_1]
      exact hP a hF
    | succ r ih =>
      intro s m a hs hm hF hg h0
      obtain ⟨m, rfl⟩ := nat_suc (show 0 + 1 ≤ m by omega)
      show Ok (b_Pack_pack_65 (f_Pack_pack_65 m) (nI n) (nI L) (nI s) a) P
      unfold b_Pack_pack_65
      rw [shl1n (by omega)]
      refine ok_f (nI_ge (by omega) (by omega)) ?_
      refine ok_bind (ok_eq (x_leastOf_eq hn hL ho (by omega) (fun i hi => by rw [hF _ _ (by simp [inL])]; exact hb i hi) hg) ?_)
      refine ok_t (inb_nI (show s < 1024 by omega) (by omega)) (ok_lt ?_)
      rw [nI_1, cl_nI (by omega)]
      refine ih (s + 1) m _ (by omega) (by omega) (hF.sI (by simp [inL])) (fun q hq => ?_) (by omega)
      rw [sI_at]
      by_cases e : q = s
      · subst e; simp only [and_self, reduceIte]; rw [gG_pos h0]
      · simp only [e, and_false, reduceIte]; exact hg q (by omega)
  refine key (2 ^ n - 1) 1 1000000 _ (by omega) (by omega) (Fr.rf.sI (by simp [inL])) (fun q hq => ?_) (by omega)
  rw [show q = 0 by omega]
  rw [show (0 : Int32).toNatClampNeg = 0 from rfl, sI_self]; rfl
theorem x_pack_ok {n L : Nat} {o : Nat → Nat} {st : Mm} {P : Int32 × Mm → Prop} (hn : n ≤ 10) (hL : L ≤ 255) (ho : ∀ i, i < n → o i ≤ 255) (hb : ∀ i, i < n → st.1 12 i = nI (o i))
    (hno : (∃ i, i < n ∧ ¬ (1 ≤ o i ∧ o i ≤ L)) → ∀ s2, Fr LPk st s2 → P (-2, s2)) (hyes : (∀ i, i < n → 1 ≤ o i ∧ o i ≤ L) → ∀ s2, Fr LPk st s2 → s2.1 56 0 = nI (fb_sm o n) → P (nI (gG n L o (2 ^ n - 1) / 256 + 1), s2)) : Ok (f_Pack_pack (nI n) (nI L) st) P := by
  unfold f_Pack_pack
  refine ok_upF (fun m i a => f_Pack_pack_8 m (nI n) (nI L) i a) (fun i a => Fr [(56, none)] st a ∧ a.1 56 0 = nI (fb_sm o i) ∧ ∀ j, j < i → 1 ≤ o j ∧ o j ≤ L) P n (by omega) ⟨Fr.rf.sI (by simp [inL]), sI_self _ _ _ _, fun j hj => by omega⟩ ?_ ?_
  · rintro m i a hi ⟨hF, h56, hv⟩ ih
    show Ok (b_Pack_pack_8 (f_Pack_pack_8 m) (nI n) (nI L) (nI i) a) P
    unfold b_Pack_pack_8
    have hoi := ho i hi
    refine ok_f (nI_ge hi (by omega)) (ok_t (inb_nI (show i < 200 by omega) (by omega)) (ok_lt ?_))
    rw [cl_nI (by omega), hF 12 i (by simp [inL]), hb i hi]
    refine okc_lt (o i) 1 (fun c => ok_some (hno ⟨i, hi, by omega⟩ a (hF.wk (by decide)))) (fun c1 => okc_le (o i) L (fun c2 => ok_lt (ok_lt ?_)) (fun c2 => ok_some (hno ⟨i, hi, by omega⟩ a (hF.wk (by decide)))))
    rw [h56, nI_add, nI_1]
    refine ih _ ⟨hF.sI (by simp [inL]), by rw [sI_self]; rfl, fun j hj => ?_⟩
    rcases Nat.lt_or_ge j i with h | h
    · exact hv j h
    · rw [show j = i by omega]; omega
  · rintro m a ⟨hF, h56, hv⟩
    show Ok (b_Pack_pack_8 (f_Pack_pack_8 m) (nI n) (nI L) (nI n) a) P
    unfold b_Pack_pack_8
    refine ok_t (Int32.le_refl _) ?_
    refine x_pack_sets hn hL ho (fun i hi => by rw [hF _ _ (by simp [inL])]; exact hb i hi) (fun s2 hF2 => hyes hv s2 ((hF.wk (by decide)).tr (hF2.wk (by decide))) ?_)
    rw [hF2 _ _ (by simp [inL])]; exact h56
/-! the reference's -/
theorem m_lengthOf_eq {o : Nat → Nat} {T : Nat} {st : Mm} (hT : T < 1024) (hb : ∀ i, i < 10 → st.1 85 i = nI (o i)) : f_m_lengthOf (nI T) st = some (nI (smN o T), st) := by
  have key : ∀ r i m, i + r = 10 → r + 1 ≤ m → f_m_lengthOf_4 m (nI T) (nI (fb_sm (fun k => if T.testBit k then o k else 0) i)) (nI i) st = some (nI (smN o T), st) := by
    intro r
    induction r with
    | zero =>
      intro i m hi hm
      obtain ⟨m, rfl⟩ := nat_suc (show 0 + 1 ≤ m by omega)
      show b_m_lengthOf_4 (f_m_lengthOf_4 m) _ _ (nI i) st = _
      unfold b_m_lengthOf_4
      have e : i = 10 := by omega
      subst e
      rw [if_pos (by decide)]
      rfl
    | succ r ih =>
      intro i m hi hm
      obtain ⟨m, rfl⟩ := nat_suc (show 0 + 1 ≤ m by omega)
      show b_m_lengthOf_4 (f_m_lengthOf_4 m) _ _ (nI i) st = _
      unfold b_m_lengthOf_4
      rw [if_neg (show ¬ (10 : Int32) ≤ nI i from show ¬ nI 10 ≤ nI i from nI_ge (by omega) (by omega)), m_has_eq (by omega), bt_nI (by omega)]
      have nx := ih (i + 1) m (by omega) (by omega)
      rw [fb_sm_succ] at nx
      simp only [Option.bind_some, lt_eq]
      by_cases h : T.testBit i = true
      · rw [if_pos h] at nx
        rw [if_pos h, if_neg (by decide), if_pos (inb_nI (show i < 10 by omega) (by omega)), cl_nI (by omega), hb i (by omega), nI_add, nI_1]
        exact nx
      · rw [if_neg h, Nat.add_zero] at nx
        rw [if_neg h, if_pos rfl, nI_p0, nI_1]
        exact nx
  exact key 10 0 1000000 (by omega) (by omega)
theorem andn_eq {S p : Nat} (hS : S < 1024) (hp : p &&& S = p) : nI S &&& (nI p ^^^ (-1 : Int32)) = nI (S ^^^ p) := by
  have hpS : p ≤ S := by rw [← hp]; exact Nat.and_le_right
  have hx : S ^^^ p < 2 ^ 32 := Nat.lt_trans (Nat.xor_lt_two_pow (n := 10) (by omega) (by omega)) (by decide)
  refine b_ext (fun i hi => ?_)
  rw [b_and, b_xor, b_m1 i hi, bt_nI (by omega), bt_nI (by omega), bt_nI hx, Nat.testBit_xor]
  cases h1 : p.testBit i with
  | false => cases S.testBit i <;> rfl
  | true => rw [sub_bit hp h1]; rfl
def vT (L : Nat) (o : Nat → Nat) (S T : Nat) : Prop := 0 < T ∧ T &&& S = T ∧ smN o T ≤ L
def LMs : List (Nat × Option Nat) := [(86, none)]
theorem m_part_loop {L S all wh : Nat} {o F : Nat → Nat} {st : Mm} {kk : Int32 → Int32 → Int32 → Int32 → Mm → Option (Int32 × Mm)} {P : Int32 × Mm → Prop} (hS : S < 1024) (hL : L ≤ 255) (hb : ∀ i, i < 10 → st.1 85 i = nI (o i)) (hsm : ∀ T, smN o T < 100000) (hF1 : ∀ q, q < S → st.1 86 q = nI (F q)) (hF2 : ∀ q, q < S → F q ≤ q)
    (hP : ∀ v s2, Fr LMs st s2 → (∀ q, q ≠ S → s2.1 86 q = st.1 86 q) → s2.1 86 S = nI v → v ≤ 1000000000 → (∀ T, vT L o S T → v ≤ F (S ^^^ T) + 1) → ((0 < S ∧ v = 1000000000) ∨ (S = 0 ∧ v = 0) ∨ ∃ T, vT L o S T ∧ v = F (S ^^^ T) + 1) → Ok (kk (nI L) (nI wh) (nI all) (nI (S + 1)) s2) P) :
    ∀ p m v s, p < m → p &&& S = p → Fr LMs st s → (∀ q, q ≠ S → s.1 86 q = st.1 86 q) → s.1 86 S = nI v → v ≤ 1000000000 → (∀ T, vT L o S T → p < T → v ≤ F (S ^^^ T) + 1) → ((0 < S ∧ v = 1000000000) ∨ (S = 0 ∧ v = 0) ∨ ∃ T, vT L o S T ∧ v = F (S ^^^ T) + 1) → Ok (f_m_strips_169 kk m (nI L) (nI wh) (nI all) (nI S) (nI p) s) P := by
  intro p
  induction p using Nat.strongRecOn with
  | ind p ih =>
    intro m v s hm hp hF hq hv hvb hle hat
    obtain ⟨m, rfl⟩ := nat_suc (show 0 + 1 ≤ m by omega)
    show Ok (b_m_strips_169 kk (f_m_strips_169 kk m) (nI L) (nI wh) (nI all) (nI S) (nI p) s) P
    unfold b_m_strips_169
    have hpS : p ≤ S := by rw [← hp]; exact Nat.and_le_right
    rcases Nat.eq_zero_or_pos p with h0 | h0
    · subst h0
      refine ok_t (by decide) ?_
      unfold b_m_strips_227
      refine ok_lt ?_
      rw [nI_1]
      exact hP v s hF hq hv hvb (fun T hT => hle T hT hT.1) hat
    · have hsp := hsm p
      refine ok_f (show ¬ nI p ≤ nI 0 from nI_ge h0 (by omega)) (ok_bind (ok_eq (m_lengthOf_eq (o := o) (by omega) (fun i hi => by rw [hF _ _ (by simp [inL, LMs])]; exact hb i hi)) ?_))
      simp only
      rw [show nI p - (1 : Int32) = nI (p - 1) from pk_sub (b := 1) h0, nI_and (by omega) (by omega)]
      have hnp : (p - 1) &&& S < p := by
        have : (p - 1) &&& S ≤ p - 1 := Nat.and_le_left
        omega
      have hnS : ((p - 1) &&& S) &&& S = (p - 1) &&& S := by rw [Nat.and_assoc, Nat.and_self]
      refine okc_lt L (smN o p) (fun c => ok_lt ?_) (fun c => ?_) rfl rfl (by omega) (by omega)
      · refine ih _ hnp m v s (by omega) hnS hF hq hv hvb (fun T hT hlt => ?_) hat
        rcases Nat.lt_trichotomy T p with h | h | h
        · have := sub_next hp hT.2.1 h; omega
        · rw [h] at hT; have := hT.2.2; omega
        · exact hle T hT h
      · have hxl := xor_lt hp h0
        have hFx := hF2 _ hxl
        refine ok_t (inb_nI (show S < 1024 by omega) (by omega)) ?_
        rw [andn_eq hS hp]
        refine ok_t (inb_nI (show S ^^^ p < 1024 by omega) (by omega)) ?_
        rw [cl_nI (by omega), cl_nI (by omega), hv, hq _ (by omega), hF1 _ hxl, nI_1]
        have fin : ∀ v2, v2 = min v (F (S ^^^ p) + 1) → Ok (if inb (nI S) 1024 then lt_ (nI ((p - 1) &&& S)) (fun a9 => f_m_strips_169 kk m (nI L) (nI wh) (nI all) (nI S) a9 (sI s 86 S (nI v2))) else none) P := by
          intro v2 hv2
          refine ok_t (inb_nI (show S < 1024 by omega) (by omega)) (ok_lt ?_)
          refine ih _ hnp m v2 _ (by omega) hnS (hF.sI rfl) (fun q hqS => by rw [sI_col _ _ _ _ hqS]; exact hq q hqS) (sI_self _ _ _ _) (by omega) (fun T hT hlt => ?_) ?_
          · rcases Nat.lt_trichotomy T p with h | h | h
            · have := sub_next hp hT.2.1 h; omega
            · rw [h]; omega
            · have := hle T hT h; omega
          · rcases Nat.le_total v (F (S ^^^ p) + 1) with h | h
            · rw [show v2 = v by omega]; exact hat
            · exact Or.inr (Or.inr ⟨p, ⟨h0, hp, c⟩, by omega⟩)
        unfold f_m_min
        refine ok_bind (okc_le (F (S ^^^ p) + 1) v (fun c2 => ok_some ?_) (fun c2 => ok_some ?_) rfl rfl (by omega) (by omega))
        · exact fin _ (by omega)
        · exact fin _ (by omega)
def FSp0 (S L : Nat) (o F : Nat → Nat) : Prop := (0 < S → F 0 = 0) ∧ (∀ q, q < S → F q ≤ q) ∧ (∀ q T, q < S → vT L o q T → F q ≤ F (q ^^^ T) + 1) ∧ (∀ q, 0 < q → q < S → ∃ T, vT L o q T ∧ F q = F (q ^^^ T) + 1)
theorem FSp0_nx {S L v n : Nat} {o F : Nat → Nat} (h : FSp0 S L o F) (hSn : S < 2 ^ n) (hn : n ≤ 10) (ho : ∀ i, i < n → 1 ≤ o i ∧ o i ≤ L) (h1 : S = 0 → v = 0) (h2 : ∀ T, vT L o S T → v ≤ F (S ^^^ T) + 1) (h3 : (0 < S ∧ v = 1000000000) ∨ (S = 0 ∧ v = 0) ∨ ∃ T, vT L o S T ∧ v = F (S ^^^ T) + 1) : FSp0 (S + 1) L o (fun q => if q = S then v else F q) := by
  have hp : 2 ^ n ≤ 2 ^ 10 := Nat.pow_le_pow_right (by decide) hn
  obtain ⟨a, b, c, d⟩ := h
  have hvb : v ≤ S := by
    rcases Nat.eq_zero_or_pos S with h0 | h0
    · rw [h1 h0]; omega
    · obtain ⟨i, hin, hi, _⟩ := lowB_ex n S h0 hSn
      have hs2 : smN o (2 ^ i) = o i := by
        have := smN_bit o (T := 2 ^ i) (i := i) (by rw [Nat.testBit_two_pow]; simp) (by omega)
        rw [this, Nat.xor_self, smN_0, Nat.zero_add]
      have hlt := xor_lt (bit_sub hi) (Nat.two_pow_pos i)
      have e1 := h2 (2 ^ i) ⟨Nat.two_pow_pos i, bit_sub hi, by rw [hs2]; exact (ho i hin).2⟩
      have e2 := b _ hlt
      omega
  have low : ∀ q T, q < S + 1 → vT L o q T → ¬ (q ^^^ T = S) := fun q T hq hT e => by
    have := xor_lt hT.2.1 hT.1; omega
  refine ⟨fun _ => ?_, fun q hq => ?_, fun q T hq hT => ?_, fun q h0 hq => ?_⟩
  · simp only
    by_cases e : 0 = S
    · rw [if_pos e]; exact h1 e.symm
    · rw [if_neg e]; exact a (by omega)
  · simp only
    by_cases e : q = S
    · rw [if_pos e, e]; exact hvb
    · rw [if_neg e]; exact b q (by omega)
  · simp only
    rw [if_neg (low q T hq hT)]
    by_cases e : q = S
    · subst e; rw [if_pos rfl]; exact h2 T hT
    · rw [if_neg e]; exact c q T (by omega) hT
  · simp only
    by_cases e : q = S
    · subst e
      rcases h3 with h | ⟨h, _⟩ | ⟨T, hT, h⟩
      · omega
      · omega
      · exact ⟨T, hT, by rw [if_pos rfl, if_neg (low q T hq hT)]; exact h⟩
    · obtain ⟨T, hT, h⟩ := d q h0 (by omega)
      exact ⟨T, hT, by rw [if_neg e, if_neg (low q T hq hT)]; exact h⟩
theorem m_sets_loop {n L wh : Nat} {o : Nat → Nat} {st : Mm} {P : Int32 × Mm → Prop} (hn : n ≤ 10) (hn1 : 1 ≤ n) (hL : L ≤ 255) (ho : ∀ i, i < n → 1 ≤ o i ∧ o i ≤ L) (hb : ∀ i, i < 10 → st.1 85 i = nI (o i)) (hsm : ∀ T, smN o T < 100000)
    (hP : ∀ F s2, Fr LMs st s2 → FSp n L o F → F (2 ^ n - 1) ≤ 1023 → s2.1 86 (2 ^ n - 1) = nI (F (2 ^ n - 1)) → Ok (b_m_strips_233 (nI L) (nI wh) (nI (2 ^ n - 1)) s2) P) :
    ∀ r S m F s, S + r = 2 ^ n → r + 1 ≤ m → Fr LMs st s → FSp0 S L o F → (∀ q, q < S → s.1 86 q = nI (F q)) → Ok (f_m_strips_139 m (nI L) (nI wh) (nI (2 ^ n - 1)) (nI S) s) P := by
  have hp : 2 ^ n ≤ 2 ^ 10 := Nat.pow_le_pow_right (by decide) hn
  have hp0 := Nat.two_pow_pos n
  intro r
  induction r with
  | zero =>
    intro S m F s hS hm hF hsp hq
    obtain ⟨m, rfl⟩ := nat_suc (show 0 + 1 ≤ m by omega)
    show Ok (b_m_strips_139 (f_m_strips_139 m) _ _ _ (nI S) s) P
    unfold b_m_strips_139
    have hS2 : S = 2 ^ n := by omega
    rw [hS2] at hsp hq ⊢
    refine ok_t (nI_lt (by omega) (by omega)) (hP F s hF ⟨hsp.1 (by omega), fun S T h1 h2 h3 h4 => hsp.2.2.1 S T h1 ⟨h2, h3, h4⟩, fun S h1 h2 => ?_⟩ ?_ (hq _ (by omega)))
    · obtain ⟨T, ⟨a, b, c⟩, d⟩ := hsp.2.2.2 S h1 h2
      exact ⟨T, a, b, c, d⟩
    · have := hsp.2.1 (2 ^ n - 1) (by omega); omega
  | succ r ih =>
    intro S m F s hS hm hF hsp hq
    obtain ⟨m, rfl⟩ := nat_suc (show 0 + 1 ≤ m by omega)
    show Ok (b_m_strips_139 (f_m_strips_139 m) _ _ _ (nI S) s) P
    unfold b_m_strips_139
    refine ok_f (by rw [nI_ltI (by omega) (by omega)]; omega) ?_
    have hib := inb_nI (show S < 1024 by omega) (show 1024 < 2147483648 by omega)
    have go : ∀ v0, v0 ≤ 1000000000 → (S = 0 → v0 = 0) → (0 < S → v0 = 1000000000) → Ok (f_m_strips_169 (f_m_strips_139 m) 1000000 (nI L) (nI wh) (nI (2 ^ n - 1)) (nI S) (nI S) (sI s 86 S (nI v0))) P := by
      intro v0 hv0 hz hnz
      refine m_part_loop (st := sI s 86 S (nI v0)) (F := F) (o := o) (by omega) hL (fun i hi => by rw [sI_row _ _ _ _ (by decide), hF _ _ (by simp [inL, LMs])]; exact hb i hi) hsm (fun q hq2 => by rw [sI_col _ _ _ _ (by omega)]; exact hq q hq2) hsp.2.1 (fun v s2 hF2 hq2 hv hvb hle hat => ?_) S 1000000 v0 _ (by omega) (Nat.and_self S) Fr.rf (fun _ _ => rfl) (sI_self _ _ _ _) hv0 (fun T hT hlt => ?_) ?_
      · refine ih (S + 1) m (fun q => if q = S then v else F q) s2 (by omega) (by omega) ((hF.sI rfl).tr hF2) (FSp0_nx hsp (n := n) (by omega) hn ho (fun e => ?_) hle hat) (fun q hq3 => ?_)
        · rcases hat with ⟨h, _⟩ | ⟨_, h⟩ | ⟨T, hT, _⟩
          · omega
          · exact h
          · have := xor_lt hT.2.1 hT.1; omega
        · by_cases e : q = S
          · rw [if_pos e, e]; exact hv
          · rw [if_neg e, hq2 q e, sI_col _ _ _ _ e]; exact hq q (by omega)
      · have : T ≤ S := by rw [← hT.2.1]; exact Nat.and_le_right
        omega
      · rcases Nat.eq_zero_or_pos S with h | h
        · exact Or.inr (Or.inl ⟨h, hz h⟩)
        · exact Or.inl ⟨h, hnz h⟩
    refine okc_eq S 0 (fun e => ok_t hib ?_) (fun e => ok_t hib ?_)
    · rw [cl_nI (by omega)]
      exact go 0 (by omega) (fun _ => rfl) (fun h => by omega)
    · rw [cl_nI (by omega)]
      exact go 1000000000 (by omega) (fun h => absurd h e) (fun _ => rfl)
/-! strips -/
def ord (n : Nat) (tp : List Nat) (k : Nat) : Nat := if k < n then tp.getD k 0 else 0
theorem ord_le {n : Nat} {tp : List Nat} (h : ∀ b ∈ tp, b < 256) (k : Nat) : ord n tp k ≤ 255 := by
  unfold ord
  split
  · rcases Nat.lt_or_ge k tp.length with h2 | h2
    · rw [List.getD_eq_getElem?_getD, List.getElem?_eq_getElem h2, Option.getD_some]
      have := h _ (List.getElem_mem h2); omega
    · rw [List.getD_eq_getElem?_getD, List.getElem?_eq_none h2]; simp
  · omega
theorem smN_bd {o : Nat → Nat} (h : ∀ k, o k ≤ 255) (T : Nat) : smN o T < 100000 := by
  have : smN o T ≤ 10 * 255 := fb_sm_bound (fun k _ => by
    have := h k
    split <;> omega)
  omega
theorem sm_all {o : Nat → Nat} {n : Nat} (hn : n ≤ 10) (h : ∀ k, n ≤ k → o k = 0) : smN o (2 ^ n - 1) = fb_sm o n := by
  unfold smN
  rw [show 10 = n + (10 - n) by omega, fb_sm_split]
  rw [fb_sm_cong (g := o) (fun k hk => by rw [Nat.testBit_two_pow_sub_one, decide_eq_true hk]; rfl), fb_sm_cong (g := fun _ => 0) (n := 10 - n) (fun k _ => by rw [Nat.testBit_two_pow_sub_one, decide_eq_false (by omega)]; rfl), fb_sm_const, Nat.mul_zero, Nat.add_zero]
def strI (L n wh : Nat) (o : Nat → Nat) : Int32 := if wh = 0 then nI (gG n L o (2 ^ n - 1) / 256 + 1) else nI (gG n L o (2 ^ n - 1) / 256 + 1) * nI L - nI (fb_sm o n)
theorem InvX.tape0 {A : Ab} {st s2 : Mm} (h : InvX A st) (hF : Fr LPk st s2) : InvX (A.1, [], A.2.2) (sI s2 11 0 0) := (h.same (hF.okX rfl)).tape TpX.no (Fr.rf.sI rfl)
theorem x_strips_ok {A : Ab} (hA : VA A) {L n wh : Nat} (hL1 : 1 ≤ L) (hL : L ≤ 255) (hn1 : 1 ≤ n) (hn : n ≤ 10) (hw : wh ≤ 1) (hln : n ≤ A.2.1.length) {st : Mm} (hI : InvX A st) {P : Int32 × Mm → Prop}
    (hno : (∃ i, i < n ∧ ¬ (1 ≤ ord n A.2.1 i ∧ ord n A.2.1 i ≤ L)) → ∀ s2, Fr LPk st s2 → P (-2, sI s2 11 0 0)) (hyes : (∀ i, i < n → 1 ≤ ord n A.2.1 i ∧ ord n A.2.1 i ≤ L) → ∀ s2, Fr LPk st s2 → P (strI L n wh (ord n A.2.1), sI s2 11 0 0)) : Ok (f_x_strips (nI L) (nI n) (nI wh) st) P := by
  have hl := hA.2.1
  unfold f_x_strips
  rw [hI.2.1.1]
  refine ok_f (show ¬ nI L < (1 : Int32) from nltL (c := 1) hL1 (by omega)) (ok_f (show ¬ nI 255 < nI L by rw [nI_ltI (by omega) (by omega)]; omega) (ok_f (show ¬ nI n < (1 : Int32) from nltL (c := 1) hn1 (by omega)) (ok_f (show ¬ nI 10 < nI n by rw [nI_ltI (by omega) (by omega)]; omega) (ok_f (nI_pos (by omega)) (ok_f (show ¬ nI 1 < nI wh by rw [nI_ltI (by omega) (by omega)]; omega) (ok_t (nI_le hln (by omega)) ?_))))))
  have hp : 2 ^ n ≤ 2 ^ 10 := Nat.pow_le_pow_right (by decide) hn
  have hp0 := Nat.two_pow_pos n
  refine ok_bind (x_pack_ok (o := ord n A.2.1) hn hL (fun i _ => ord_le hA.2.2.1 i) (fun i hi => by rw [hI.2.1.2 i (by omega)]; unfold ord; rw [if_pos hi]) (fun h s2 hF => ok_f (show ¬ (0 : Int32) ≤ -2 by decide) (ok_some (hno h s2 hF))) (fun h s2 hF h56 => ?_))
  have hbd := gG_bd (L := L) (o := ord n A.2.1) hn (fun i _ => ord_le hA.2.2.1 i) (2 ^ n - 1) (by omega)
  refine ok_t (nI_pos' (by omega)) ?_
  have hf := hyes h s2 hF
  unfold strI at hf
  refine okc_eq wh 0 (fun e => ok_some ?_) (fun e => ok_some ?_)
  · rw [if_pos e] at hf; exact hf
  · rw [if_neg e] at hf
    simp only
    rw [sI_row _ _ _ _ (show 56 ≠ 11 by decide), h56]
    exact hf
def LMt2 : List (Nat × Option Nat) := [(85, none), (86, none)]
theorem m_strips_ok {A : Ab} (hA : VA A) {L n wh : Nat} (hL1 : 1 ≤ L) (hL : L ≤ 255) (hn1 : 1 ≤ n) (hn : n ≤ 10) (hw : wh ≤ 1) (hln : n ≤ A.2.1.length) {st : Mm} (hI : InvM A st) {P : Int32 × Mm → Prop}
    (hno : (∃ i, i < n ∧ ¬ (1 ≤ ord n A.2.1 i ∧ ord n A.2.1 i ≤ L)) → ∀ s2, Fr LMt2 (sI st 58 19 0) s2 → P (-2, s2)) (hyes : (∀ i, i < n → 1 ≤ ord n A.2.1 i ∧ ord n A.2.1 i ≤ L) → ∀ s2, Fr LMt2 (sI st 58 19 0) s2 → P (strI L n wh (ord n A.2.1), s2)) : Ok (f_m_strips (nI L) (nI n) (nI wh) st) P := by
  have hl := hA.2.1
  have hp : 2 ^ n ≤ 2 ^ 10 := Nat.pow_le_pow_right (by decide) hn
  have hp0 := Nat.two_pow_pos n
  obtain ⟨o, ho⟩ : ∃ o, o = ord n A.2.1 := ⟨_, rfl⟩
  have hob : ∀ k, o k ≤ 255 := fun k => by rw [ho]; exact ord_le hA.2.2.1 k
  rw [← ho] at hno hyes
  unfold f_m_strips
  refine ok_bind (ok_eq (m_in_eq _ 1 255 (by omega) (by omega) st) ?_)
  rw [decide_eq_true (show (((1 : Nat) : Int) ≤ (nI L).toInt ∧ (nI L).toInt ≤ ((255 : Nat) : Int)) by rw [nI_T (by omega)]; omega)]
  refine ok_f nbt (ok_bind (ok_eq (m_in_eq _ 1 10 (by omega) (by omega) st) ?_))
  rw [decide_eq_true (show (((1 : Nat) : Int) ≤ (nI n).toInt ∧ (nI n).toInt ≤ ((10 : Nat) : Int)) by rw [nI_T (by omega)]; omega)]
  refine ok_f nbt (ok_bind (ok_eq (m_in_eq _ 0 1 (by omega) (by omega) st) ?_))
  rw [decide_eq_true (show (((0 : Nat) : Int) ≤ (nI wh).toInt ∧ (nI wh).toInt ≤ ((1 : Nat) : Int)) by rw [nI_T (by omega)]; omega)]
  refine ok_f nbt ?_
  simp only
  rw [hI.2.1.1]
  refine ok_t (nI_le hln (by omega)) ?_
  obtain ⟨sa, hsa⟩ : ∃ sa, sa = sI st 58 19 0 := ⟨_, rfl⟩
  rw [← hsa] at hno hyes ⊢
  have htp : ∀ j, j < A.2.1.length → sa.1 65 j &&& 255 = nI (A.2.1.getD j 0) := fun j hj => by rw [hsa, sI_row _ _ _ _ (by decide)]; exact hI.2.1.2 j hj
  refine ok_upF (fun m i a => f_m_strips_48 m (nI L) (nI n) (nI wh) i a) (fun i a => Fr [(85, none)] sa a ∧ ∀ j, j < i → a.1 85 j = nI (o j)) P 10 (by omega) ⟨Fr.rf, fun j hj => by omega⟩ ?_ ?_
  · rintro m i a hi ⟨hF, hv⟩ ih
    show Ok (b_m_strips_48 (f_m_strips_48 m) (nI L) (nI n) (nI wh) (nI i) a) P
    unfold b_m_strips_48
    refine ok_f (show ¬ nI 10 ≤ nI i from nI_ge hi (by omega)) ?_
    have fin : ∀ z : Int32, z = nI (o i) → Ok (f_m_strips_48 m (nI L) (nI n) (nI wh) (nI (i + 1)) (sI a 85 i z)) P := fun z hz => by
      refine ih _ ⟨hF.sI (by simp [inL]), fun j hj => ?_⟩
      rw [sI_at]
      by_cases e : j = i
      · subst e; simp only [and_self, reduceIte]; exact hz
      · simp only [e, and_false, reduceIte]; exact hv j (by omega)
    rw [cl_nI (by omega), nI_1]
    refine okc_le n i (fun c => ok_t (inb_nI hi (by omega)) (ok_lt (fin 0 ?_))) (fun c => ok_t (inb_nI (show i < 200 by omega) (by omega)) (ok_lt (ok_t (inb_nI hi (by omega)) (ok_lt (fin _ ?_)))))
    · rw [ho]; unfold ord; rw [if_neg (by omega)]; rfl
    · rw [hF _ _ (by simp [inL]), htp i (by omega), ho]; unfold ord; rw [if_pos (by omega)]
  · rintro m a ⟨hF, hv⟩
    show Ok (b_m_strips_48 (f_m_strips_48 m) (nI L) (nI n) (nI wh) (nI 10) a) P
    unfold b_m_strips_48 b_m_strips_89
    refine ok_t (by decide) ?_
    refine ok_upF (fun m i b => f_m_strips_92 m (nI L) (nI n) (nI wh) i b) (fun i b => b = a ∧ ∀ j, j < i → 1 ≤ o j ∧ o j ≤ L) P n (by omega) ⟨rfl, fun j hj => by omega⟩ ?_ ?_
    · rintro m i b hi ⟨rfl, hg⟩ ih
      show Ok (b_m_strips_92 (f_m_strips_92 m) (nI L) (nI n) (nI wh) (nI i) b) P
      unfold b_m_strips_92
      have hoi := hob i
      have hib := inb_nI (show i < 10 by omega) (show 10 < 2147483648 by omega)
      refine ok_f (nI_ge hi (by omega)) (ok_t hib ?_)
      rw [cl_nI (by omega), hv i (by omega)]
      refine okc_lt (o i) 1 (fun c => ok_some (hno ⟨i, hi, by omega⟩ b (hF.wk (by decide)))) (fun c1 => ok_t hib (okc_le (o i) L (fun c2 => ok_lt ?_) (fun c2 => ok_some (hno ⟨i, hi, by omega⟩ b (hF.wk (by decide))))))
      rw [nI_1]
      refine ih b ⟨rfl, fun j hj => ?_⟩
      rcases Nat.lt_or_ge j i with h | h
      · exact hg j h
      · rw [show j = i by omega]; omega
    · rintro m b ⟨rfl, hg⟩
      show Ok (b_m_strips_92 (f_m_strips_92 m) (nI L) (nI n) (nI wh) (nI n) b) P
      unfold b_m_strips_92 b_m_strips_129
      rw [shl1n (by omega), show nI (2 ^ n) - (1 : Int32) = nI (2 ^ n - 1) from pk_sub (b := 1) (by omega)]
      refine ok_t (Int32.le_refl _) (ok_lt ?_)
      refine m_sets_loop (st := b) hn hn1 hL hg hv (smN_bd hob) (fun F s2 hF2 hsp hbd hfe => ?_) (2 ^ n) 0 1000000 (fun _ => 0) b (by omega) (by omega) Fr.rf ⟨fun h => by omega, fun q hq => by omega, fun q T hq => by omega, fun q h1 h2 => by omega⟩ (fun q hq => by omega)
      have e1 := pack_eq hn hL hg (gG_sp (L := L) hn (fun i _ => hob i)) hsp (S := 2 ^ n - 1) (by
        have : 2 ^ 1 ≤ 2 ^ n := Nat.pow_le_pow_right (by decide) hn1
        omega) (by omega)
      have hf := hyes hg s2 ((hF.wk (by decide)).tr (hF2.wk (by decide)))
      unfold strI at hf
      unfold b_m_strips_233
      have hib := inb_nI (show 2 ^ n - 1 < 1024 by omega) (show 1024 < 2147483648 by omega)
      refine okc_eq wh 0 (fun e => ok_t hib (ok_some ?_)) (fun e => ok_t hib ?_)
      · rw [if_pos e] at hf
        rw [cl_nI (by omega), hfe, e1]; exact hf
      · rw [if_neg e] at hf
        refine ok_bind (ok_eq (m_lengthOf_eq (o := o) (by omega) (fun i hi => by rw [hF2 _ _ (by simp [inL, LMs])]; exact hv i hi)) (ok_some ?_))
        rw [cl_nI (by omega), hfe, e1, sm_all hn (fun k hk => by rw [ho]; unfold ord; rw [if_neg (by omega)])]; exact hf
theorem st_strips (a0 a1 a2 : Int32) : Step1 Inv (f_x_strips a0 a1 a2) (f_m_strips a0 a1 a2) := step_of (fun A hA => by
  have hl := hA.2.1
  by_cases hg : 1 ≤ a0.toInt ∧ a0.toInt ≤ 255 ∧ 1 ≤ a1.toInt ∧ a1.toInt ≤ 10 ∧ 0 ≤ a2.toInt ∧ a2.toInt ≤ 1 ∧ a1.toInt ≤ A.2.1.length
  · obtain ⟨L, hL, rfl⟩ := i_natLt (N := 256) (x := a0) (by omega) (by omega)
    obtain ⟨n, hn, rfl⟩ := i_natLt (N := 11) (x := a1) (by omega) (by omega)
    obtain ⟨wh, hw, rfl⟩ := i_natLt (N := 2) (x := a2) (by omega) (by omega)
    rw [nI_T (by omega), nI_T (by omega), nI_T (by omega)] at hg
    have hVA : VA (A.1, [], A.2.2) := ⟨hA.1, by simp, by simp, hA.2.2.2⟩
    have mI : ∀ st s2, InvM A st → Fr LMt2 (sI st 58 19 0) s2 → InvM (A.1, [], A.2.2) s2 ∧ ∀ c j, c < 58 → s2.1 c j = st.1 c j := fun st s2 hI hF => by
      refine ⟨InvM.same (st := sI st 58 19 0) (hI.tape ⟨by rw [sI_self]; rfl, fun j hj => by simp at hj⟩ (Fr.rf.sI rfl)) (hF.okM rfl), fun c j hc => ?_⟩
      rw [hF.hi rfl c j hc, sI_row _ _ _ _ (by omega)]
    have xI : ∀ st s2, InvX A st → Fr LPk st s2 → InvX (A.1, [], A.2.2) (sI s2 11 0 0) ∧ ∀ c j, 58 ≤ c → (sI s2 11 0 0).1 c j = st.1 c j := fun st s2 hI hF => by
      refine ⟨hI.tape0 hF, fun c j hc => ?_⟩
      rw [sI_row _ _ _ _ (by omega), hF.lo rfl c j hc]
    rcases Classical.em (∃ i, i < n ∧ ¬ (1 ≤ ord n A.2.1 i ∧ ord n A.2.1 i ≤ L)) with hb | hb
    · have hbn : ¬ ∀ i, i < n → 1 ≤ ord n A.2.1 i ∧ ord n A.2.1 i ≤ L := fun h => by
        obtain ⟨i, h1, h2⟩ := hb
        exact h2 (h i h1)
      refine ⟨(A.1, [], A.2.2), -2, hVA, fun st hI => ?_, fun st hI => ?_⟩
      · exact x_strips_ok hA (by omega) (by omega) (by omega) (by omega) (by omega) (by omega) hI (fun _ s2 hF => ⟨rfl, xI st s2 hI hF⟩) (fun h => absurd h hbn)
      · exact m_strips_ok hA (by omega) (by omega) (by omega) (by omega) (by omega) (by omega) hI (fun _ s2 hF => ⟨rfl, mI st s2 hI hF⟩) (fun h => absurd h hbn)
    · refine ⟨(A.1, [], A.2.2), strI L n wh (ord n A.2.1), hVA, fun st hI => ?_, fun st hI => ?_⟩
      · exact x_strips_ok hA (by omega) (by omega) (by omega) (by omega) (by omega) (by omega) hI (fun h => absurd h hb) (fun _ s2 hF => ⟨rfl, xI st s2 hI hF⟩)
      · exact m_strips_ok hA (by omega) (by omega) (by omega) (by omega) (by omega) (by omega) hI (fun h => absurd h hb) (fun _ s2 hF => ⟨rfl, mI st s2 hI hF⟩)
  · refine ⟨A, -1, hA, xok_fr [] rfl (fun st hI => ?_), mok_fr [] rfl (fun st hI => ?_)⟩
    · unfold f_x_strips
      rw [hI.2.1.1]
      refine ok_if (fun _ => ok_some ⟨rfl, Fr.rf⟩) (fun c1 => ok_if (fun _ => ok_some ⟨rfl, Fr.rf⟩) (fun c2 => ok_if (fun _ => ok_some ⟨rfl, Fr.rf⟩) (fun c3 => ok_if (fun _ => ok_some ⟨rfl, Fr.rf⟩) (fun c4 => ok_if (fun _ => ok_some ⟨rfl, Fr.rf⟩) (fun c5 => ok_if (fun _ => ok_some ⟨rfl, Fr.rf⟩) (fun c6 => ok_if (fun c7 => ?_) (fun _ => ok_some ⟨rfl, Fr.rf⟩)))))))
      rw [i_lt, show (1 : Int32).toInt = 1 from rfl] at c1 c3 c6
      rw [i_lt, show (255 : Int32).toInt = 255 from rfl] at c2
      rw [i_lt, show (10 : Int32).toInt = 10 from rfl] at c4
      rw [i_lt, i_z] at c5
      rw [i_le, nI_T (by omega)] at c7
      omega
    · unfold f_m_strips
      refine ok_bind (ok_eq (m_in_eq _ 1 255 (by omega) (by omega) st) ?_)
      refine okc_b _ (fun _ => ok_some ⟨rfl, Fr.rf⟩) (fun c1 => ?_)
      refine ok_bind (ok_eq (m_in_eq _ 1 10 (by omega) (by omega) st) ?_)
      refine okc_b _ (fun _ => ok_some ⟨rfl, Fr.rf⟩) (fun c2 => ?_)
      refine ok_bind (ok_eq (m_in_eq _ 0 1 (by omega) (by omega) st) ?_)
      refine okc_b _ (fun _ => ok_some ⟨rfl, Fr.rf⟩) (fun c3 => ?_)
      have c1 := of_decide_eq_true c1
      have c2 := of_decide_eq_true c2
      have c3 := of_decide_eq_true c3
      simp only
      rw [hI.2.1.1]
      refine ok_f (fun c4 => ?_) (ok_some ⟨rfl, Fr.rf⟩)
      rw [i_le, nI_T (by omega)] at c4
      omega)
