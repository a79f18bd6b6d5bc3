/-! strips: orders packed -/
def smN (o : Nat → Nat) (S : Nat) : Nat := fb_sm (fun k => if S.testBit k then o k else 0) 10
def stpN (L b o : Nat) : Nat := if b % 256 + o ≤ L then b + o else b - b % 256 + 256 + o
theorem flip_set {S i : Nat} (h : S.testBit i = true) : (S ^^^ 2 ^ i).testBit i = false := by rw [fb_bit_flip, h]; simp
theorem smN_bit (o : Nat → Nat) {T i : Nat} (h : T.testBit i = true) (hi : i < 10) : smN o T = smN o (T ^^^ 2 ^ i) + o i := by
  unfold smN
  have e := fb_sm_upd (fun k => if T.testBit k then o k else 0) 0 (i := i) (n := 10) hi
  simp only [h, if_true, Nat.add_zero] at e
  rw [← e]
  congr 1
  refine fb_sm_cong (fun k _ => ?_)
  rw [fb_bit_flip]
  by_cases hk : k = i
  · subst hk; simp [h]
  · simp [hk]
theorem smN_0 (o : Nat → Nat) : smN o 0 = 0 := by
  unfold smN
  rw [fb_sm_cong (g := fun _ => 0) (fun k _ => by simp), fb_sm_const]
theorem sub_bit {T S : Nat} (h : T &&& S = T) {i : Nat} (hi : T.testBit i = true) : S.testBit i = true := by
  rw [← h, Nat.testBit_and] at hi
  simp only [Bool.and_eq_true] at hi
  exact hi.2
theorem sub_of {T S : Nat} (h : ∀ i, T.testBit i = true → S.testBit i = true) : T &&& S = T := Nat.eq_of_testBit_eq (fun i => by
  rw [Nat.testBit_and]
  have := h i
  cases h1 : T.testBit i <;> simp_all)
theorem smN_mono (o : Nat → Nat) {T S : Nat} (h : T &&& S = T) : smN o T ≤ smN o S := fb_sm_le (fun k _ => by
  by_cases h1 : T.testBit k = true
  · rw [if_pos h1, if_pos (sub_bit h h1)]; exact Nat.le_refl _
  · rw [if_neg h1]; exact Nat.zero_le _)
theorem xor_lt {S T : Nat} (h : T &&& S = T) (h0 : 0 < T) : S ^^^ T < S := by
  have h1 : (S ^^^ T) &&& S = S ^^^ T := sub_of (fun i hi => by
    rw [Nat.testBit_xor] at hi
    cases h2 : S.testBit i with
    | true => rfl
    | false =>
      rw [h2] at hi
      have h3 : T.testBit i = true := by simpa using hi
      have := sub_bit h h3
      rw [h2] at this; cases this)
  have h2 : S ^^^ T ≤ S := by
    have : (S ^^^ T) &&& S ≤ S := Nat.and_le_right
    rw [h1] at this; exact this
  rcases Nat.lt_or_ge (S ^^^ T) S with h3 | h3
  · exact h3
  · exfalso
    have h4 : S ^^^ T = S := Nat.le_antisymm h2 h3
    have h5 : T = 0 := Nat.eq_of_testBit_eq (fun i => by
      have h6 : (S ^^^ T).testBit i = S.testBit i := by rw [h4]
      rw [Nat.testBit_xor] at h6
      rw [Nat.zero_testBit]
      cases h7 : S.testBit i <;> cases h8 : T.testBit i <;> simp_all)
    omega
theorem bit_sub {S i : Nat} (h : S.testBit i = true) : 2 ^ i &&& S = 2 ^ i := sub_of (fun j hj => by
  rw [Nat.testBit_two_pow] at hj
  have : i = j := by simpa using hj
  rw [← this]; exact h)
theorem bit_lt10 {S n i : Nat} (hS : S < 2 ^ n) (h : S.testBit i = true) : i < n := by
  rcases Nat.lt_or_ge i n with h1 | h1
  · exact h1
  · have := Nat.testBit_lt_two_pow (Nat.lt_of_lt_of_le hS (Nat.pow_le_pow_right (by decide) h1))
    rw [h] at this; cases this
theorem xor_flip {a b : Nat} : a ^^^ b ^^^ b = a := by rw [Nat.xor_assoc, Nat.xor_self, Nat.xor_zero]
def GSp (n L : Nat) (o G : Nat → Nat) : Prop := G 0 = 0 ∧ (∀ S i, S < 2 ^ n → S.testBit i = true → G S ≤ stpN L (G (S ^^^ 2 ^ i)) (o i)) ∧ (∀ S, 0 < S → S < 2 ^ n → ∃ i, S.testBit i = true ∧ G S = stpN L (G (S ^^^ 2 ^ i)) (o i))
def FSp (n L : Nat) (o F : Nat → Nat) : Prop := F 0 = 0 ∧ (∀ S T, S < 2 ^ n → 0 < T → T &&& S = T → smN o T ≤ L → F S ≤ F (S ^^^ T) + 1) ∧ (∀ S, 0 < S → S < 2 ^ n → ∃ T, 0 < T ∧ T &&& S = T ∧ smN o T ≤ L ∧ F S = F (S ^^^ T) + 1)
theorem pack_A {n L : Nat} {o F G : Nat → Nat} (hn : n ≤ 10) (hL : L ≤ 255) (ho : ∀ i, i < n → 1 ≤ o i ∧ o i ≤ L) (hG : GSp n L o G) (hF : FSp n L o F) : ∀ S, 0 < S → S < 2 ^ n → ∃ T, 0 < T ∧ T &&& S = T ∧ smN o T = G S % 256 ∧ smN o T ≤ L ∧ F (S ^^^ T) ≤ G S / 256 := by
  intro S
  induction S using Nat.strongRecOn with
  | ind S ih =>
    intro h0 hS
    obtain ⟨i, hi, e⟩ := hG.2.2 S h0 hS
    have hin := bit_lt10 hS hi
    obtain ⟨o1, o2⟩ := ho i hin
    have hsub := bit_sub hi
    have hlt := xor_lt hsub (Nat.two_pow_pos i)
    have s2i : smN o (2 ^ i) = o i := by
      have := smN_bit o (T := 2 ^ i) (i := i) (by rw [Nat.testBit_two_pow]; simp) (by omega)
      rw [this, Nat.xor_self, smN_0, Nat.zero_add]
    rcases Nat.eq_zero_or_pos (S ^^^ 2 ^ i) with hz | hz
    · rw [hz, hG.1] at e
      unfold stpN at e
      rw [if_pos (by omega), Nat.zero_add] at e
      refine ⟨2 ^ i, Nat.two_pow_pos i, hsub, by rw [s2i, e]; omega, by rw [s2i]; exact o2, ?_⟩
      rw [hz, hF.1]; exact Nat.zero_le _
    · obtain ⟨T, t1, t2, t3, t4, t5⟩ := ih (S ^^^ 2 ^ i) hlt hz (by omega)
      unfold stpN at e
      by_cases hc : G (S ^^^ 2 ^ i) % 256 + o i ≤ L
      · rw [if_pos hc] at e
        have hTi : T.testBit i = false := by
          cases h : T.testBit i with
          | false => rfl
          | true =>
            have := sub_bit t2 h
            rw [flip_set hi] at this; cases this
        have hTi2 : (T ^^^ 2 ^ i).testBit i = true := by rw [fb_bit_flip, hTi]; simp
        have hsm : smN o (T ^^^ 2 ^ i) = smN o T + o i := by
          rw [smN_bit o hTi2 (by omega), xor_flip]
        refine ⟨T ^^^ 2 ^ i, ?_, sub_of (fun j hj => ?_), by rw [hsm, t3, e]; omega, by rw [hsm, t3]; exact hc, ?_⟩
        · rcases Nat.eq_zero_or_pos (T ^^^ 2 ^ i) with h | h
          · rw [h] at hTi2; simp at hTi2
          · exact h
        · rw [fb_bit_flip] at hj
          by_cases hji : j = i
          · rw [hji]; exact hi
          · have hTj : T.testBit j = true := by simpa [hji] using hj
            have := sub_bit t2 hTj
            rw [fb_bit_flip] at this
            simpa [hji] using this
        · rw [show S ^^^ (T ^^^ 2 ^ i) = S ^^^ 2 ^ i ^^^ T by rw [Nat.xor_comm T, Nat.xor_assoc], e]
          omega
      · rw [if_neg hc] at e
        refine ⟨2 ^ i, Nat.two_pow_pos i, hsub, by rw [s2i, e]; omega, by rw [s2i]; exact o2, ?_⟩
        have := hF.2.1 (S ^^^ 2 ^ i) T (by omega) t1 t2 t4
        rw [e]
        omega
theorem pack_B {n L : Nat} {o F G : Nat → Nat} (hn : n ≤ 10) (hL : L ≤ 255) (ho : ∀ i, i < n → 1 ≤ o i ∧ o i ≤ L) (hG : GSp n L o G) (hF : FSp n L o F) : ∀ S, S < 2 ^ n → S = 0 ∨ G S < 256 * F S := by
  intro S
  induction S using Nat.strongRecOn with
  | ind S ih =>
    intro hS
    rcases Nat.eq_zero_or_pos S with h0 | h0
    · exact Or.inl h0
    · right
      obtain ⟨T, t1, t2, t3, t4⟩ := hF.2.2 S h0 hS
      have hlt := xor_lt t2 t1
      have hc : G (S ^^^ T) ≤ 256 * F (S ^^^ T) := by
        rcases ih (S ^^^ T) hlt (by omega) with h | h
        · rw [h, hG.1]; exact Nat.zero_le _
        · omega
      have key : ∀ U, U &&& T = U → G (S ^^^ T ^^^ U) ≤ 256 * F (S ^^^ T) + smN o U := by
        intro U
        induction U using Nat.strongRecOn with
        | ind U ihU =>
          intro hU
          rcases Nat.eq_zero_or_pos U with hu | hu
          · subst hu
            rw [Nat.xor_zero]; omega
          · have hUS : U < 2 ^ n := by
              have a : U ≤ T := by rw [← hU]; exact Nat.and_le_right
              have b : T ≤ S := by rw [← t2]; exact Nat.and_le_right
              omega
            obtain ⟨i, hin, hi, _⟩ := lowB_ex n U hu hUS
            obtain ⟨o1, o2⟩ := ho i hin
            have hTi := sub_bit hU hi
            have hSi := sub_bit t2 hTi
            have hsm := smN_bit o hi (show i < 10 by omega)
            have hle := smN_mono o hU
            have hUlt := xor_lt (bit_sub hi) (Nat.two_pow_pos i)
            have hI := ihU (U ^^^ 2 ^ i) hUlt (sub_of (fun j hj => by
              rw [fb_bit_flip] at hj
              by_cases hji : j = i
              · rw [hji]; exact hTi
              · exact sub_bit hU (by simpa [hji] using hj)))
            have hbit : (S ^^^ T ^^^ U).testBit i = true := by rw [Nat.testBit_xor, Nat.testBit_xor, hSi, hTi, hi]; rfl
            have hlt2 : S ^^^ T ^^^ U < 2 ^ n := by
              refine Nat.lt_pow_two_of_testBit _ (fun j hj => ?_)
              have hb : ∀ X, X < 2 ^ n → X.testBit j = false := fun X hX => Nat.testBit_lt_two_pow (Nat.lt_of_lt_of_le hX (Nat.pow_le_pow_right (by decide) hj))
              have hT : T < 2 ^ n := by have b : T ≤ S := by (rw [← t2]; exact Nat.and_le_right)
                                        omega
              rw [Nat.testBit_xor, Nat.testBit_xor, hb S hS, hb T hT, hb U hUS]; rfl
            have hg := hG.2.1 (S ^^^ T ^^^ U) i hlt2 hbit
            rw [Nat.xor_assoc (S ^^^ T)] at hg
            generalize G (S ^^^ T ^^^ (U ^^^ 2 ^ i)) = b at hg hI
            unfold stpN at hg
            split at hg
            · omega
            · rename_i hcc
              rcases Nat.lt_or_ge b (256 * F (S ^^^ T)) with h1 | h1
              · omega
              · exfalso
                apply hcc
                omega
      have := key T (by rw [Nat.and_self])
      rw [xor_flip] at this
      omega
theorem pack_eq {n L : Nat} {o F G : Nat → Nat} (hn : n ≤ 10) (hL : L ≤ 255) (ho : ∀ i, i < n → 1 ≤ o i ∧ o i ≤ L) (hG : GSp n L o G) (hF : FSp n L o F) {S : Nat} (h0 : 0 < S) (hS : S < 2 ^ n) : F S = G S / 256 + 1 := by
  obtain ⟨T, t1, t2, t3, t4, t5⟩ := pack_A hn hL ho hG hF S h0 hS
  have h1 := hF.2.1 S T hS t1 t2 t4
  have h2 := pack_B hn hL ho hG hF S hS
  omega
/-- the next part below one -/
theorem sub_next {S p T : Nat} (hp : p &&& S = p) (hT : T &&& S = T) (hlt : T < p) : T ≤ (p - 1) &&& S := by
  have hp0 : 0 < p := by omega
  obtain ⟨t, _, ht⟩ := lowB_ex p p hp0 Nat.lt_two_pow_self
  have hm := Nat.two_pow_pos t
  have hpm : p % 2 ^ t = 0 := by
    refine Nat.eq_of_testBit_eq (fun j => ?_)
    rw [Nat.testBit_mod_two_pow, Nat.zero_testBit]
    by_cases e : j < t
    · rw [ht.2 j e]; simp
    · simp [e]
  have hN : ((p - 1) &&& S) / 2 ^ t = p / 2 ^ t - 1 := by
    refine Nat.eq_of_testBit_eq (fun j => ?_)
    rw [Nat.testBit_div_two_pow, Nat.testBit_and, low_pred ht]
    have hq : lowB (p / 2 ^ t) 0 := ⟨by rw [Nat.testBit_div_two_pow, Nat.zero_add]; exact ht.1, fun j hj => by omega⟩
    rw [low_pred hq, Nat.testBit_div_two_pow]
    cases j with
    | zero => simp
    | succ j =>
      rw [if_neg (by omega), if_neg (by omega), if_neg (by omega), if_neg (by omega)]
      cases h1 : p.testBit (j + 1 + t) with
      | false => rfl
      | true => rw [sub_bit hp h1]; rfl
  have hNm : ((p - 1) &&& S) % 2 ^ t = S % 2 ^ t := by
    refine Nat.eq_of_testBit_eq (fun j => ?_)
    rw [Nat.testBit_mod_two_pow, Nat.testBit_mod_two_pow, Nat.testBit_and, low_pred ht]
    by_cases e : j < t
    · simp [e]
    · simp [e]
  have hTm : T % 2 ^ t ≤ S % 2 ^ t := by
    have : T % 2 ^ t &&& S % 2 ^ t = T % 2 ^ t := sub_of (fun j hj => by
      rw [Nat.testBit_mod_two_pow] at hj ⊢
      simp only [Bool.and_eq_true] at hj ⊢
      exact ⟨hj.1, sub_bit hT hj.2⟩)
    rw [← this]; exact Nat.and_le_right
  have hTd : T / 2 ^ t ≤ p / 2 ^ t - 1 := by
    have : T / 2 ^ t < p / 2 ^ t := (Nat.div_lt_iff_lt_mul hm).mpr (by
      have := Nat.div_add_mod p (2 ^ t)
      rw [hpm, Nat.add_zero] at this
      rw [Nat.mul_comm, this]; exact hlt)
    omega
  have e1 := Nat.div_add_mod T (2 ^ t)
  have e2 := Nat.div_add_mod ((p - 1) &&& S) (2 ^ t)
  rw [hN, hNm] at e2
  have e3 := Nat.mul_le_mul_left (2 ^ t) hTd
  omega
/-! the class's table -/
def gmn (L : Nat) (o tab : Nat → Nat) (s : Nat) : Nat → Nat
  | 0 => 2147483647
  | i + 1 => if s.testBit i then min (gmn L o tab s i) (stpN L (tab (s ^^^ 2 ^ i)) (o i)) else gmn L o tab s i
def gtb (n L : Nat) (o : Nat → Nat) : Nat → Nat → Nat
  | 0 => fun _ => 0
  | s + 1 => fun q => if q = s then (if s = 0 then 0 else gmn L o (gtb n L o s) s n) else gtb n L o s q
def gG (n L : Nat) (o : Nat → Nat) (s : Nat) : Nat := gtb n L o (s + 1) s
theorem gtb_lt (n L : Nat) (o : Nat → Nat) : ∀ m q, q < m → gtb n L o m q = gG n L o q
  | 0, q, h => by omega
  | m + 1, q, h => by
    by_cases e : q = m
    · subst e; rfl
    · show (if q = m then _ else gtb n L o m q) = _
      rw [if_neg e]
      exact gtb_lt n L o m q (by omega)
theorem gmn_cg {L : Nat} {o t1 t2 : Nat → Nat} {s : Nat} (h : ∀ i, s.testBit i = true → t1 (s ^^^ 2 ^ i) = t2 (s ^^^ 2 ^ i)) : ∀ i, gmn L o t1 s i = gmn L o t2 s i
  | 0 => rfl
  | i + 1 => by
    show (if s.testBit i then _ else _) = (if s.testBit i then _ else _)
    by_cases e : s.testBit i = true
    · rw [if_pos e, if_pos e, gmn_cg h i, h i e]
    · rw [if_neg e, if_neg e, gmn_cg h i]
theorem gG_pos {n L : Nat} {o : Nat → Nat} {s : Nat} (h : 0 < s) : gG n L o s = gmn L o (gG n L o) s n := by
  show (if s = s then (if s = 0 then 0 else gmn L o (gtb n L o s) s n) else gtb n L o s s) = _
  rw [if_pos rfl, if_neg (by omega)]
  exact gmn_cg (fun i hi => gtb_lt n L o s _ (xor_lt (bit_sub hi) (Nat.two_pow_pos i))) n
theorem gmn_le {L : Nat} {o tab : Nat → Nat} {s : Nat} : ∀ {m i}, i < m → s.testBit i = true → gmn L o tab s m ≤ stpN L (tab (s ^^^ 2 ^ i)) (o i)
  | 0, i, h, _ => by omega
  | m + 1, i, h, hi => by
    show (if s.testBit m then _ else _) ≤ _
    by_cases e : i = m
    · subst e; rw [if_pos hi]; exact Nat.min_le_right _ _
    · have ih := gmn_le (L := L) (o := o) (tab := tab) (s := s) (m := m) (i := i) (by omega) hi
      split
      · exact Nat.le_trans (Nat.min_le_left _ _) ih
      · exact ih
theorem gmn_at {L : Nat} {o tab : Nat → Nat} {s : Nat} : ∀ m, gmn L o tab s m = 2147483647 ∨ ∃ i, i < m ∧ s.testBit i = true ∧ gmn L o tab s m = stpN L (tab (s ^^^ 2 ^ i)) (o i)
  | 0 => Or.inl rfl
  | m + 1 => by
    have e : gmn L o tab s (m + 1) = if s.testBit m then min (gmn L o tab s m) (stpN L (tab (s ^^^ 2 ^ m)) (o m)) else gmn L o tab s m := rfl
    rw [e]
    by_cases h : s.testBit m = true
    · rw [if_pos h]
      rcases Nat.le_total (gmn L o tab s m) (stpN L (tab (s ^^^ 2 ^ m)) (o m)) with h2 | h2
      · rw [Nat.min_eq_left h2]
        rcases gmn_at (L := L) (o := o) (tab := tab) (s := s) m with h3 | ⟨i, h3, h4, h5⟩
        · exact Or.inl h3
        · exact Or.inr ⟨i, by omega, h4, h5⟩
      · rw [Nat.min_eq_right h2]
        exact Or.inr ⟨m, by omega, h, rfl⟩
    · rw [if_neg h]
      rcases gmn_at (L := L) (o := o) (tab := tab) (s := s) m with h3 | ⟨i, h3, h4, h5⟩
      · exact Or.inl h3
      · exact Or.inr ⟨i, by omega, h4, h5⟩
theorem gG_bd {n L : Nat} {o : Nat → Nat} (hn : n ≤ 10) (ho : ∀ i, i < n → o i ≤ 255) : ∀ s, s < 2 ^ n → gG n L o s ≤ 511 * s := by
  intro s
  induction s using Nat.strongRecOn with
  | ind s ih =>
    intro hs
    rcases Nat.eq_zero_or_pos s with h | h
    · subst h; exact Nat.le_refl _
    · obtain ⟨i, hin, hi, _⟩ := lowB_ex n s h hs
      have hlt := xor_lt (bit_sub hi) (Nat.two_pow_pos i)
      have h1 := gmn_le (L := L) (o := o) (tab := gG n L o) (s := s) hin hi
      have h2 := ih _ hlt (by omega)
      have h3 := ho i hin
      rw [gG_pos h]
      unfold stpN at h1
      split at h1 <;> omega
theorem gG_sp {n L : Nat} {o : Nat → Nat} (hn : n ≤ 10) (ho : ∀ i, i < n → o i ≤ 255) : GSp n L o (gG n L o) := by
  refine ⟨rfl, fun S i hS hi => ?_, fun S h0 hS => ?_⟩
  · have h0 : 0 < S := by
      rcases Nat.eq_zero_or_pos S with h | h
      · subst h; simp at hi
      · exact h
    rw [gG_pos h0]
    exact gmn_le (bit_lt10 hS hi) hi
  · rcases gmn_at (L := L) (o := o) (tab := gG n L o) (s := S) n with h | ⟨i, h1, h2, h3⟩
    · have := gG_bd (L := L) hn ho S hS
      have hp : 2 ^ n ≤ 2 ^ 10 := Nat.pow_le_pow_right (by decide) hn
      rw [gG_pos h0, h] at this
      omega
    · exact ⟨i, h2, by rw [← h3]; exact gG_pos h0⟩
