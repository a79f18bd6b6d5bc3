/-! snips: the reference's list of boxes -/
def tri (N : Nat) : Nat → Nat
  | 0 => 0
  | p + 1 => tri N p + (N - p)
theorem tri_le : ∀ N, N < 65 → ∀ p, p < 65 → tri N p ≤ 2080 := by decide +kernel
theorem pcv_num {v : Wd} {k : Nat} (hk : k < 256) (hp : pcv v k = true) : fb_ct (pcv v) k < fb_ct (pcv v) 256 := by
  have a := fb_ct_succ (pcv v) k
  rw [hp] at a
  simp only [if_true] at a
  have b := ct_upl (pcv v) (show k + 1 ≤ 256 by omega)
  omega
theorem pcv_inj {v : Wd} {a b : Nat} (ha : pcv v a = true) (hb : pcv v b = true) (h : fb_ct (pcv v) a = fb_ct (pcv v) b) : a = b := by
  have ea := fb_ct_succ (pcv v) a
  have eb := fb_ct_succ (pcv v) b
  rw [ha] at ea
  rw [hb] at eb
  simp only [if_true] at ea eb
  rcases Nat.lt_trichotomy a b with q | q | q
  · have := ct_upl (pcv v) (show a + 1 ≤ b by omega)
    omega
  · exact q
  · have := ct_upl (pcv v) (show b + 1 ≤ a by omega)
    omega
def OkR (v : Wd) (wc : Nat → Bool) (a b : Nat) : Prop := a < 256 ∧ b < 256 ∧ pcv v a = true ∧ pcv v b = true ∧ a % 16 ≤ b % 16 ∧ a / 16 ≤ b / 16 ∧ ∀ k, k < 256 → inR a b k → pcv v k = true → wc k = true
def Dom (v : Wd) (R : Nat → Prop) (z : Int64) : Prop := ∀ k, k < 256 → R k → pcv v k = true → lb z (fb_ct (pcv v) k) = true
theorem obl_dom {v : Wd} {wc : Nat → Bool} {R : Nat → Prop} {z : Int64} (hle : fb_ct (pcv v) 256 ≤ 64) (h : OblO v wc R z) : Dom v R z := fun k hk hr hp => (h.2 _ (by have := pcv_num hk hp; omega)).mpr ⟨k, hk, hr, hp, rfl⟩
theorem dom_up {v : Wd} {R : Nat → Prop} {z y : Int64} (h : Dom v R z) (hs : ∀ x, lb z x = true → lb y x = true) : Dom v R y := fun k hk hr hp => hs _ (h k hk hr hp)
/-- what the list holds while the pairs are gone through -/
def LoI (v : Wd) (wc : Nat → Bool) (s0 : Mm) (p q : Nat) (s : Mm) : Prop := (∀ a j, ¬ (a = 58 ∧ j = 49) → s.1 a j = s0.1 a j) ∧ ∃ c, c ≤ tri (fb_ct (pcv v) 256) p + (q - p) ∧ s.1 58 49 = nI c ∧ (∀ i, i < c → ∃ a b, OkR v wc a b ∧ OblO v wc (inR a b) (s.2 80 i)) ∧ ∀ a b, OkR v wc a b → (fb_ct (pcv v) a < p ∨ (fb_ct (pcv v) a = p ∧ fb_ct (pcv v) b < q)) → ∃ i, i < c ∧ Dom v (inR a b) (s.2 80 i)
theorem LoI.skip {v : Wd} {wc : Nat → Bool} {s0 s : Mm} {p q : Nat} (h : LoI v wc s0 p q s) (hno : ∀ a b, OkR v wc a b → fb_ct (pcv v) a = p → fb_ct (pcv v) b = q → False) : LoI v wc s0 p (q + 1) s := by
  obtain ⟨h1, c, h2, h3, h4, h5⟩ := h
  refine ⟨h1, c, by omega, h3, h4, fun a b hab hd => ?_⟩
  rcases Nat.lt_or_ge (fb_ct (pcv v) a) p with g | g
  · exact h5 a b hab (Or.inl g)
  · rcases Nat.lt_or_ge (fb_ct (pcv v) b) q with g2 | g2
    · exact h5 a b hab (Or.inr ⟨by omega, g2⟩)
    · exact (hno a b hab (by omega) (by omega)).elim
theorem m_layO_ok {v : Wd} {s0 : Mm} {wc : Nat → Bool} {P : Unit × Mm → Prop} (hv : mW s0 v) (h1 : v.1 ≤ 16) (h2 : v.2.1 ≤ 16) (h3 : v.2.2 ≤ 1) (hN : s0.1 58 48 = nI (fb_ct (pcv v) 256)) (hle : fb_ct (pcv v) 256 ≤ 64) (hL : PlL v 256 s0) (hwc : ∀ k, k < 256 → s0.1 78 k = bI (wc k))
    (hP : ∀ s c, c ≤ 2200 → (∀ a j, ¬ (a = 58 ∧ j = 49) → s.1 a j = s0.1 a j) → s.1 58 49 = nI c → (∀ i, i < c → ∃ a b, OkR v wc a b ∧ OblO v wc (inR a b) (s.2 80 i)) → (∀ a b, OkR v wc a b → ∃ i, i < c ∧ Dom v (inR a b) (s.2 80 i)) → P ((), s)) : Ok (b_m_laysOblongs_58 s0) P := by
  have hpl : ∀ i, i < fb_ct (pcv v) 256 → ∃ k, k < 256 ∧ pcv v k = true ∧ fb_ct (pcv v) k = i := fun i hi => ct_at (pcv v) 256 i hi
  have rows : ∀ r p M s, p + r = fb_ct (pcv v) 256 → r + 1 ≤ M → LoI v wc s0 p 0 s → Ok (f_m_laysOblongs_65 M (nI p) s) P := by
    intro r
    induction r with
    | zero =>
      intro p M s hp hM hI
      obtain ⟨M, rfl⟩ := nat_suc hM
      show Ok (b_m_laysOblongs_65 (f_m_laysOblongs_65 M) (nI p) s) P
      unfold b_m_laysOblongs_65
      obtain ⟨g1, c, g2, g3, g4, g5⟩ := hI
      rw [g1 58 48 (by omega), hN]
      have ht := tri_le (fb_ct (pcv v) 256) (by omega) p (by omega)
      exact okc_le (fb_ct (pcv v) 256) p (fun _ => ok_some (hP s c (by omega) g1 g3 g4 (fun a b hab => g5 a b hab (Or.inl (by have := pcv_num hab.1 hab.2.2.1; omega))))) (fun hh => by omega)
    | succ r ih =>
      intro p M s hp hM hI
      obtain ⟨M, rfl⟩ := nat_suc hM
      have cols : ∀ t q K s, q + t = fb_ct (pcv v) 256 → t + 1 ≤ K → LoI v wc s0 p q s → Ok (f_m_laysOblongs_75 (f_m_laysOblongs_65 M) K (nI p) (nI q) s) P := by
        intro t
        induction t with
        | zero =>
          intro q K s hq hK hI
          obtain ⟨K, rfl⟩ := nat_suc hK
          show Ok (b_m_laysOblongs_75 (f_m_laysOblongs_65 M) (f_m_laysOblongs_75 (f_m_laysOblongs_65 M) K) (nI p) (nI q) s) P
          unfold b_m_laysOblongs_75 b_m_laysOblongs_153
          rw [hI.1 58 48 (by omega), hN]
          refine okc_le (fb_ct (pcv v) 256) q (fun _ => ok_lt ?_) (fun hh => by omega)
          rw [nI_1]
          refine ih (p + 1) M s (by omega) (by omega) ?_
          obtain ⟨g1, c, g2, g3, g4, g5⟩ := hI
          have et : tri (fb_ct (pcv v) 256) (p + 1) = tri (fb_ct (pcv v) 256) p + (fb_ct (pcv v) 256 - p) := rfl
          refine ⟨g1, c, by omega, g3, g4, fun a b hab hd => g5 a b hab ?_⟩
          have := pcv_num hab.2.1 hab.2.2.2.1
          omega
        | succ t iht =>
          intro q K s hq hK hI
          obtain ⟨K, rfl⟩ := nat_suc hK
          show Ok (b_m_laysOblongs_75 (f_m_laysOblongs_65 M) (f_m_laysOblongs_75 (f_m_laysOblongs_65 M) K) (nI p) (nI q) s) P
          unfold b_m_laysOblongs_75
          have hF := hI.1
          rw [hF 58 48 (by omega), hN]
          obtain ⟨a, a1, a2, a3⟩ := hpl p (by omega)
          obtain ⟨b, b1, b2, b3⟩ := hpl q (by omega)
          have ea := hL a a1 a2
          have eb := hL b b1 b2
          rw [a3] at ea
          rw [b3] at eb
          refine okc_le (fb_ct (pcv v) 256) q (fun hh => by omega) (fun _ => ok_t (inb_nI (by omega) (by omega)) (ok_lt (ok_t (inb_nI (by omega) (by omega)) (ok_lt ?_))))
          rw [cl_nI (show p < 2147483648 by omega), cl_nI (show q < 2147483648 by omega), hF 79 p (by omega), hF 79 q (by omega), ea, eb, r16 (by omega), r16 (by omega), d16 (by omega), d16 (by omega)]
          have skp : ¬ OkR v wc a b → Ok (f_m_laysOblongs_75 (f_m_laysOblongs_65 M) K (nI p) (nI (q + 1)) s) P := fun hn => iht (q + 1) K s (by omega) (by omega) (hI.skip (fun a2' b2' hab e1 e2 => by
            have x1 := pcv_inj hab.2.2.1 a2 (by omega)
            have x2 := pcv_inj hab.2.2.2.1 b2 (by omega)
            rw [x1, x2] at hab
            exact hn hab))
          refine okc_lt (b % 16) (a % 16) (fun hh => ok_lt ?_) (fun c1 => okc_le (a / 16) (b / 16) (fun c2 => ?_) (fun hh => ok_lt ?_))
          · rw [nI_1]; exact skp (fun h => by have := h.2.2.2.2.1; omega)
          · have hW : mW s v := ⟨by rw [hF 58 8 (by omega)]; exact hv.1, by rw [hF 58 9 (by omega)]; exact hv.2.1, by rw [hF 58 10 (by omega)]; exact hv.2.2⟩
            have hLs : PlL v 256 s := fun k hk hp2 => by rw [hF 79 _ (by omega)]; exact hL k hk hp2
            refine ok_bind (m_oblong_ok (wc := wc) hW h1 h2 h3 (by rw [hF 58 48 (by omega)]; exact hN) hle hLs (fun k hk => by rw [hF 78 k (by omega)]; exact hwc k hk) a1 b1 (fun hnb => ok_t ((lg_cmp_eq _ _).mpr rfl) (ok_lt ?_)) (fun z hz => ?_))
            · rw [nI_1]
              obtain ⟨k, k1, k2, k3, k4⟩ := hnb
              exact skp (fun h => by have := h.2.2.2.2.2.2 k k1 k2 k3; rw [k4] at this; cases this)
            · have hok : OkR v wc a b := ⟨a1, b1, a2, b2, c1, c2, hz.1⟩
              have hdz := obl_dom hle hz
              have hia : inR a b a := ⟨Nat.le_refl _, c1, Nat.le_refl _, c2⟩
              refine ok_f (fun e => by
                have e2 : z = 0 := (lg_cmp_eq _ _).mp e
                have e3 := hdz a a1 hia a2
                rw [e2, lb_0] at e3
                cases e3) ?_
              have hab2 : a ≤ b := by omega
              have hpq := ct_upl (pcv v) hab2
              rw [a3, b3] at hpq
              obtain ⟨_, c, g2, g3, g4, g5⟩ := hI
              have ht := tri_le (fb_ct (pcv v) 256) (by omega) (p + 1) (by omega)
              have et : tri (fb_ct (pcv v) 256) (p + 1) = tri (fb_ct (pcv v) 256) p + (fb_ct (pcv v) 256 - p) := rfl
              refine ok_bind (m_keeps_ok (cnt := c) (by omega) g3 (fun c2 s2 k1 k2 _ k4 k5 k6 k7 => ok_lt ?_))
              rw [nI_1]
              refine iht (q + 1) K s2 (by omega) (by omega) ⟨fun a j hj => by rw [k2 a j hj]; exact hF a j hj, c2, by omega, k4, fun i hi => ?_, fun a' b' hab hd => ?_⟩
              · rcases k5 i hi with ⟨j, j1, j2⟩ | h
                · rw [j2]; exact g4 j j1
                · rw [h]; exact ⟨a, b, hok, hz⟩
              · by_cases hnew : fb_ct (pcv v) a' = p ∧ fb_ct (pcv v) b' = q
                · have x1 := pcv_inj hab.2.2.1 a2 (by omega)
                  have x2 := pcv_inj hab.2.2.2.1 b2 (by omega)
                  rw [x1, x2]
                  obtain ⟨i, i1, i2⟩ := k7
                  exact ⟨i, i1, dom_up hdz i2⟩
                · obtain ⟨j, j1, j2⟩ := g5 a' b' hab (by omega)
                  obtain ⟨i, i1, i2⟩ := k6 j j1
                  exact ⟨i, i1, dom_up j2 i2⟩
          · rw [nI_1]; exact skp (fun h => by have := h.2.2.2.2.2.1; omega)
      show Ok (b_m_laysOblongs_65 (f_m_laysOblongs_65 M) (nI p) s) P
      unfold b_m_laysOblongs_65
      rw [hI.1 58 48 (by omega), hN]
      exact okc_le (fb_ct (pcv v) 256) p (fun hh => by omega) (fun _ => cols (fb_ct (pcv v) 256) 0 1000000 s (by omega) (by omega) hI)
  unfold b_m_laysOblongs_58
  refine rows (fb_ct (pcv v) 256) 0 1000000 _ (by omega) (by omega) ⟨fun a j hj => by rw [sI_at, if_neg hj], 0, by omega, sI_self _ _ _ _, fun i hi => by omega, fun a b hab hd => by omega⟩
/-! the set of the bare places -/
def BareL (v : Wd) (wc : Nat → Bool) (c : Nat) (z : Int64) : Prop := ∀ i, i < 64 → (lb z i = true ↔ ∃ k, k < c ∧ pcv v k = true ∧ wc k = true ∧ fb_ct (pcv v) k = i)
theorem m_bare_ok {v : Wd} {s : Mm} {wc : Nat → Bool} {P : Int32 × Mm → Prop} (hN : s.1 58 48 = nI (fb_ct (pcv v) 256)) (hle : fb_ct (pcv v) 256 ≤ 64) (hL : PlL v 256 s) (hwc : ∀ k, k < 256 → s.1 78 k = bI (wc k)) (hP : ∀ z, BareL v wc 256 z → Ok (f_m_snips_87 1000000 z 0 s) P) : Ok (f_m_snips_45 1000000 0 0 s) P := by
  have lp : ∀ r i M z, i + r = fb_ct (pcv v) 256 → r + 1 ≤ M → (∀ j, j < 64 → (lb z j = true ↔ j < i ∧ ∃ k, k < 256 ∧ pcv v k = true ∧ wc k = true ∧ fb_ct (pcv v) k = j)) → Ok (f_m_snips_45 M z (nI i) s) P := by
    intro r
    induction r with
    | zero =>
      intro i M z hi hM hz
      obtain ⟨M, rfl⟩ := nat_suc hM
      show Ok (b_m_snips_45 (f_m_snips_45 M) z (nI i) s) P
      unfold b_m_snips_45 b_m_snips_84
      rw [hN]
      refine okc_le (fb_ct (pcv v) 256) i (fun _ => hP z (fun j hj => ?_)) (fun hh => by omega)
      rw [hz j hj]
      constructor
      · exact fun h => h.2
      · intro h
        refine ⟨?_, h⟩
        obtain ⟨k, k1, k2, k3, k4⟩ := h
        have := pcv_num k1 k2
        omega
    | succ r ih =>
      intro i M z hi hM hz
      obtain ⟨M, rfl⟩ := nat_suc hM
      show Ok (b_m_snips_45 (f_m_snips_45 M) z (nI i) s) P
      unfold b_m_snips_45
      rw [hN]
      obtain ⟨k, k1, k2, k3⟩ := ct_at (pcv v) 256 i (by omega)
      have ek := hL k k1 k2
      rw [k3] at ek
      refine okc_le (fb_ct (pcv v) 256) i (fun hh => by omega) (fun _ => ok_t (inb_nI (by omega) (by omega)) ?_)
      rw [cl_nI (show i < 2147483648 by omega), ek]
      refine ok_t (inb_nI k1 (by omega)) ?_
      rw [cl_nI (show k < 2147483648 by omega), hwc k k1]
      refine okc_b (wc k) (fun hb => ok_lt ?_) (fun hb => ok_lt (ok_lt ?_)) rfl
      · rw [nI_1]
        refine ih (i + 1) M z (by omega) (by omega) (fun j hj => ?_)
        rw [hz j hj]
        constructor
        · exact fun h => ⟨by omega, h.2⟩
        · rintro ⟨h1, q, q1, q2, q3, q4⟩
          refine ⟨?_, q, q1, q2, q3, q4⟩
          have : j ≠ i := fun e => by
            have := pcv_inj q2 k2 (by omega)
            rw [this, hb] at q3; cases q3
          omega
      · rw [nI_1]
        refine ih (i + 1) M _ (by omega) (by omega) (fun j hj => ?_)
        rw [lb_or, lb_bit (show i < 64 by omega) j hj, Bool.or_eq_true, hz j hj, decide_eq_true_eq]
        constructor
        · rintro (h | h)
          · exact ⟨by omega, h.2⟩
          · exact ⟨by omega, k, k1, k2, hb, by omega⟩
        · rintro ⟨h1, h2⟩
          by_cases e : j = i
          · exact Or.inr e
          · exact Or.inl ⟨by omega, h2⟩
  exact lp (fb_ct (pcv v) 256) 0 1000000 0 (by omega) (by omega) (fun j hj => by
    rw [lb_0]
    exact ⟨fun h => (by cases h), fun h => by omega⟩)
/-! the covers that both lists tell -/
noncomputable def bxA (v : Wd) (R : Nat → Prop) (i : Nat) : Bool := @decide (∃ k, k < 256 ∧ R k ∧ pcv v k = true ∧ fb_ct (pcv v) k = i) (Classical.propDecidable _)
theorem bxA_iff {v : Wd} {R : Nat → Prop} {i : Nat} : bxA v R i = true ↔ ∃ k, k < 256 ∧ R k ∧ pcv v k = true ∧ fb_ct (pcv v) k = i := by
  unfold bxA
  exact @decide_eq_true_iff _ (Classical.propDecidable _)
def BxA (v : Wd) (wc : Nat → Bool) (b : Nat → Bool) : Prop := ∃ a c, OkR v wc a c ∧ b = bxA v (inR a c)
noncomputable def snA (v : Wd) (wc : Nat → Bool) : Int32 := snI (fun u => Cvs (BxA v wc) u (bxA v (fun k => wc k = true)))
theorem cvs_both {B : (Nat → Bool) → Prop} {v : Wd} {wc : Nat → Bool} (h1 : ∀ b, B b → ∃ a c, OkR v wc a c ∧ ∀ i, b i = true → bxA v (inR a c) i = true) (h2 : ∀ a c, OkR v wc a c → ∃ b, B b ∧ ∀ i, bxA v (inR a c) i = true → b i = true) (u : Nat) (L : Nat → Bool) : Cvs B u L ↔ Cvs (BxA v wc) u L :=
  ⟨cvs_dom (fun b hb => by
    obtain ⟨a, c, k1, k2⟩ := h1 b hb
    exact ⟨_, ⟨a, c, k1, rfl⟩, k2⟩) u L, cvs_dom (fun b hb => by
    obtain ⟨a, c, k1, rfl⟩ := hb
    exact h2 a c k1) u L⟩
theorem bare_lb {v : Wd} {wc : Nat → Bool} {z : Int64} (hle : fb_ct (pcv v) 256 ≤ 64) (h : BareL v wc 256 z) : lb z = bxA v (fun k => wc k = true) := funext (fun i => by
  rw [Bool.eq_iff_iff, bxA_iff]
  rcases Nat.lt_or_ge i 64 with hi | hi
  · rw [h i hi]
    constructor
    · rintro ⟨k, k1, k2, k3, k4⟩; exact ⟨k, k1, k3, k2, k4⟩
    · rintro ⟨k, k1, k2, k3, k4⟩; exact ⟨k, k1, k3, k2, k4⟩
  · rw [lb_hi z hi]
    refine ⟨fun h => (by cases h), fun ⟨k, k1, k2, k3, k4⟩ => ?_⟩
    have := pcv_num k1 k3
    omega)
theorem obl_bxA {v : Wd} {wc : Nat → Bool} {R : Nat → Prop} {z : Int64} (h : OblO v wc R z) (i : Nat) (hi : lb z i = true) : bxA v R i = true := by
  rcases Nat.lt_or_ge i 64 with h2 | h2
  · exact bxA_iff.mpr ((h.2 i h2).mp hi)
  · rw [lb_hi z h2] at hi; cases hi
theorem dom_bxA {v : Wd} {R : Nat → Prop} {z : Int64} (h : Dom v R z) (i : Nat) (hi : bxA v R i = true) : lb z i = true := by
  obtain ⟨k, k1, k2, k3, k4⟩ := bxA_iff.mp hi
  rw [← k4]
  exact h k k1 k2 k3
theorem sn_same {p q : Nat → Prop} (h : ∀ u, p u ↔ q u) : snI p = snI q := by
  have : p = q := funext (fun u => propext (h u))
  rw [this]
/-- the reference's search of fewest boxes -/
theorem m_snF_ok {v : Wd} {s0 : Mm} {wc : Nat → Bool} {P : Int32 × Mm → Prop} (hv : mW s0 v) (h1 : v.1 ≤ 16) (h2 : v.2.1 ≤ 16) (h3 : v.2.2 ≤ 1) (hle : fb_ct (pcv v) 256 ≤ 64) (hwc : ∀ k, k < 256 → s0.1 78 k = bI (wc k))
    (hP : ∀ s, Fr [(79, none), (58, some 48), (58, some 49), (81, none)] s0 s → P (snA v wc, s)) : Ok ((f_m_laysOblongs s0).bind (fun q => f_m_snips_45 1000000 0 0 q.2)) P := by
  refine ok_bind ?_
  unfold f_m_laysOblongs
  have hWk : ∀ s, Fr LPl (sI s0 58 48 0) s → mW s v := fun s hF => ⟨by rw [hF 58 8 rfl, sI_col _ _ _ _ (by decide)]; exact hv.1, by rw [hF 58 9 rfl, sI_col _ _ _ _ (by decide)]; exact hv.2.1, by rw [hF 58 10 rfl, sI_col _ _ _ _ (by decide)]; exact hv.2.2⟩
  refine m_plist_ok (hWk _ Fr.rf) h1 h2 h3 hle (sI_self _ _ _ _) hWk (fun s hF hN hL => ?_)
  have hF0 : Fr [(79, none), (58, some 48), (58, some 49), (81, none)] s0 s := (Fr.rf.sI rfl).tr (hF.wk (by decide))
  have hwc2 : ∀ k, k < 256 → s.1 78 k = bI (wc k) := fun k hk => by rw [hF0 78 k rfl]; exact hwc k hk
  refine m_layO_ok (hWk s hF) h1 h2 h3 hN hle hL hwc2 (fun s2 c hc hs hcn hS hC => ?_)
  have hF2 : Fr [(79, none), (58, some 48), (58, some 49), (81, none)] s0 s2 := hF0.tr (fun a j hj => hs a j (fun e => by rw [e.1, e.2] at hj; cases hj))
  refine m_bare_ok (v := v) (wc := wc) (by rw [hs 58 48 (by omega)]; exact hN) hle (fun k hk hp => by rw [hs 79 _ (by omega)]; exact hL k hk hp) (fun k hk => by rw [hs 78 k (by omega)]; exact hwc2 k hk) (fun z hz => ?_)
  refine m_snips_87_ok hc hcn (fun s3 hF3 => ?_)
  have hF4 : Fr [(79, none), (58, some 48), (58, some 49), (81, none)] s0 s3 := hF2.tr (fun a j hj => hF3.1 a j (fun e => by
    rw [e] at hj
    rw [inL_row (c := 81) rfl j] at hj
    cases hj))
  have := hP s3 hF4
  unfold snA at this
  rw [sn_same (q := fun u => Cvs (BxA v wc) u (bxA v (fun k => wc k = true))) (fun u => by
    rw [bare_lb hle hz]
    exact cvs_both (fun b ⟨i, i1, i2⟩ => by
      obtain ⟨a, c2, k1, k2⟩ := hS i i1
      exact ⟨a, c2, k1, fun x hx => obl_bxA k2 x (by rw [← i2]; exact hx)⟩) (fun a c2 k1 => by
      obtain ⟨i, i1, i2⟩ := hC a c2 k1
      exact ⟨_, ⟨i, i1, rfl⟩, fun x hx => dom_bxA i2 x hx⟩) u _)]
  exact this
