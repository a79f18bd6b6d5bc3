/-! runs of ones -/
theorem b_neg (x : Int32) (i : Nat) (h : i < 32) : bt (-x) i = (bt x i ^^ decide (∃ j, j < i ∧ bt x j = true)) := by
  unfold bt
  rw [Int32.toBitVec_neg, BitVec.getLsbD_neg]
  simp [h]
theorem b_low {x : Int32} {t : Nat} (h2 : bt x t = true) (h3 : ∀ j, j < t → bt x j = false) (i : Nat) (hi : i < 32) : bt (x &&& (-x)) i = decide (i = t) := by
  rw [b_and, b_neg x i hi]
  rcases Nat.lt_trichotomy i t with h | h | h
  · rw [h3 i h, decide_eq_false (show ¬ i = t by omega)]; rfl
  · subst h
    rw [h2, decide_eq_true (rfl : i = i), decide_eq_false (fun ⟨j, j1, j2⟩ => by rw [h3 j j1] at j2; cases j2)]; rfl
  · rw [decide_eq_true (⟨t, h, h2⟩ : ∃ j, j < i ∧ bt x j = true), decide_eq_false (show ¬ i = t by omega)]
    cases bt x i <;> rfl
theorem run_nat {K t e : Nat} (hte : t < e) (h0 : ∀ i, i < t → K.testBit i = false) (h1 : ∀ i, t ≤ i → i < e → K.testBit i = true) (h2 : K.testBit e = false) (i : Nat) : (K.testBit i && !(K + 2 ^ t).testBit i) = (decide (t ≤ i) && decide (i < e)) := by
  have em : K % 2 ^ e = 2 ^ t * (2 ^ (e - t) - 1) := by
    refine Nat.eq_of_testBit_eq (fun j => ?_)
    rw [Nat.testBit_mod_two_pow, Nat.testBit_two_pow_mul, Nat.testBit_two_pow_sub_one]
    rcases Nat.lt_or_ge j e with g | g
    · rcases Nat.lt_or_ge j t with g2 | g2
      · simp [g, h0 j g2, show ¬ t ≤ j by omega]
      · simp [g, h1 j g2 g, g2]; omega
    · simp [show ¬ j < e by omega]; intro _; omega
  have ep : 2 ^ t * 2 ^ (e - t) = 2 ^ e := by rw [← Nat.pow_add]; congr 1; omega
  have hpos := Nat.two_pow_pos t
  have hpos2 := Nat.two_pow_pos (e - t)
  have es : K + 2 ^ t = 2 ^ e * (K / 2 ^ e + 1) := by
    have hd := Nat.div_add_mod K (2 ^ e)
    rw [em, Nat.mul_sub, ep, Nat.mul_one] at hd
    have hle : 2 ^ t ≤ 2 ^ e := Nat.pow_le_pow_right (by decide) (by omega)
    rw [Nat.mul_add, Nat.mul_one]
    omega
  rw [es, Nat.testBit_two_pow_mul]
  rcases Nat.lt_trichotomy i e with g | g | g
  · rw [decide_eq_false (show ¬ i ≥ e by omega), decide_eq_true g]
    rcases Nat.lt_or_ge i t with g2 | g2
    · rw [h0 i g2, decide_eq_false (show ¬ t ≤ i by omega)]; rfl
    · rw [h1 i g2 g, decide_eq_true g2]; rfl
  · rw [g, h2, decide_eq_false (show ¬ e < e by omega), Bool.and_false]; rfl
  · have hev : (K / 2 ^ e) % 2 = 0 := by
      have : (K / 2 ^ e).testBit 0 = K.testBit (0 + e) := Nat.testBit_div_two_pow K 0
      rw [Nat.zero_add, h2, Nat.testBit_zero] at this
      have := of_decide_eq_false this
      omega
    obtain ⟨d, rfl⟩ : ∃ d, i = e + (d + 1) := ⟨i - e - 1, by omega⟩
    rw [show e + (d + 1) - e = d + 1 by omega, Nat.testBit_succ, show (K / 2 ^ e + 1) / 2 = K / 2 ^ e / 2 by omega, ← Nat.testBit_succ, Nat.testBit_div_two_pow, decide_eq_true (show e + (d + 1) ≥ e by omega), decide_eq_false (show ¬ e + (d + 1) < e by omega), Bool.true_and, Bool.and_false]
    rw [show e + (d + 1) = d + 1 + e by omega]
    show (K.testBit (d + 1 + e) && !K.testBit (d + 1 + e)) = false
    cases K.testBit (d + 1 + e) <;> rfl
theorem run_bits {x : Int32} {t e : Nat} (hte : t < e) (he : e ≤ 16) (hhi : ∀ i, 16 ≤ i → i < 32 → bt x i = false) (h0 : ∀ i, i < t → bt x i = false) (h1 : ∀ i, t ≤ i → i < e → bt x i = true) (h2 : bt x e = false) (i : Nat) (hi : i < 32) : bt (x &&& ((x + (x &&& (-x))) ^^^ (-1 : Int32))) i = (decide (t ≤ i) && decide (i < e)) := by
  obtain ⟨K, k1, k2, k3, k4⟩ := row_nat x 16 hhi
  have hp : 2 ^ t ≤ 2 ^ 16 := Nat.pow_le_pow_right (by decide) (by omega)
  have el : x &&& (-x) = nI (2 ^ t) := b_ext (fun j hj => by
    rw [b_low (h1 t (Nat.le_refl _) hte) h0 j hj, bt_nI (by omega), Nat.testBit_two_pow]
    by_cases e : j = t
    · simp [e]
    · rw [decide_eq_false e, decide_eq_false (fun h => e h.symm)])
  have e2 : (x + (x &&& (-x))) = nI (K + 2 ^ t) := by rw [el, k2, nI_add]
  rw [b_and, b_xor, b_m1 i hi, e2, bt_nI (by omega), ← k4 i, Bool.xor_true]
  exact run_nat hte (fun j hj => by rw [k4]; exact h0 j hj) (fun j hj hj2 => by rw [k4]; exact h1 j hj hj2) (by rw [k4]; exact h2) i
theorem run_ex {x : Int32} (hhi : ∀ i, 16 ≤ i → i < 32 → bt x i = false) (hx : x ≠ 0) : ∃ t e, t < e ∧ e ≤ 16 ∧ (∀ i, i < t → bt x i = false) ∧ (∀ i, t ≤ i → i < e → bt x i = true) ∧ bt x e = false := by
  have ex : ∃ t, bt x t = true := Classical.byContradiction (fun hh => hx (b_ext (fun i hi => by
    rw [b_0]
    cases hb : bt x i with
    | false => rfl
    | true => exact absurd ⟨i, hb⟩ hh)))
  obtain ⟨t, t1, t2⟩ := pk_least (fun t => bt x t = true) ex
  have tl : t < 16 := by
    rcases Nat.lt_or_ge t 16 with h | h
    · exact h
    · rcases Nat.lt_or_ge t 32 with h2 | h2
      · rw [hhi t h h2] at t1; cases t1
      · rw [b_big h2] at t1; cases t1
  obtain ⟨e, ⟨e1, e2⟩, e3⟩ := pk_least (fun e => t < e ∧ bt x e = false) ⟨16, tl, hhi 16 (by omega) (by omega)⟩
  have el : e ≤ 16 := by
    rcases Nat.lt_or_ge 16 e with h | h
    · exact absurd ⟨tl, hhi 16 (by omega) (by omega)⟩ (e3 16 h)
    · exact h
  refine ⟨t, e, e1, el, fun i hi => ?_, fun i h1 h2 => ?_, e2⟩
  · cases hb : bt x i with
    | false => rfl
    | true => exact absurd hb (t2 i hi)
  · cases hb : bt x i with
    | true => rfl
    | false =>
      rcases Nat.lt_or_ge t i with h | h
      · exact absurd ⟨h, hb⟩ (e3 i h2)
      · rw [show i = t by omega, t1] at hb; cases hb
/-! what the class's list holds -/
def rcA (x1 x2 y1 y2 k : Nat) : Prop := x1 ≤ k % 16 ∧ k % 16 ≤ x2 ∧ y1 ≤ k / 16 ∧ k / 16 ≤ y2
def RcT (v : Wd) (B : Nat → Bool) (x1 x2 y1 y2 : Nat) : Prop := x1 ≤ x2 ∧ x2 < v.1 ∧ y1 ≤ y2 ∧ y2 < v.2.1 ∧ ∀ x y, x1 ≤ x → x ≤ x2 → y1 ≤ y → y ≤ y2 → rwC v B (16 * y + x) = true
def HasP (v : Wd) (R : Nat → Prop) : Prop := ∃ k, k < 256 ∧ R k ∧ pcv v k = true
def GrU (v : Wd) (B : Nat → Bool) (x1 x2 y1 : Nat) : Prop := 0 < y1 ∧ ∀ x, x1 ≤ x → x ≤ x2 → rwC v B (16 * (y1 - 1) + x) = true
def GrD (v : Wd) (B : Nat → Bool) (x1 x2 y2 : Nat) : Prop := y2 + 1 < v.2.1 ∧ ∀ x, x1 ≤ x → x ≤ x2 → rwC v B (16 * (y2 + 1) + x) = true
def UT (v : Wd) (B : Nat → Bool) (t e x : Nat) : Prop := t ≤ e ∧ (∀ y, t ≤ y → y ≤ e → rwC v B (16 * y + x) = true) ∧ (t = 0 ∨ rwC v B (16 * (t - 1) + x) = false)
def CnU (v : Wd) (B : Nat → Bool) (top en b c : Nat) : Prop := ∃ U : Nat → Bool, c ≤ fb_ct U 256 ∧ ∀ e x, e < 16 → x < 16 → U (16 * e + x) = true → ∃ t, UT v B t e x ∧ (t < top ∨ (t = top ∧ (e < en ∨ (e = en ∧ x < b))))
def SnB (v : Wd) (B : Nat → Bool) (z : Int64) : Prop := ∃ x1 x2 y1 y2, RcT v B x1 x2 y1 y2 ∧ OblO v B (rcA x1 x2 y1 y2) z ∧ z ≠ 0
def HdB (v : Wd) (B : Nat → Bool) (s : Mm) (c x1 x2 y1 y2 : Nat) : Prop := GrU v B x1 x2 y1 ∨ GrD v B x1 x2 y2 ∨ ∃ i, i < c ∧ Dom v (rcA x1 x2 y1 y2) (s.2 55 i)
def BoI (v : Wd) (B : Nat → Bool) (s0 : Mm) (top en b : Nat) (s : Mm) : Prop := (∀ a j, ¬ (a = 52 ∧ j = 3) → s.1 a j = s0.1 a j) ∧ ∃ c, s.1 52 3 = nI c ∧ CnU v B top en b c ∧ (∀ i, i < c → SnB v B (s.2 55 i)) ∧ ∀ x1 x2 y1 y2, RcT v B x1 x2 y1 y2 → HasP v (rcA x1 x2 y1 y2) → (y1 < top ∨ (y1 = top ∧ (y2 < en ∨ (y2 = en ∧ x2 < b)))) → HdB v B s c x1 x2 y1 y2
theorem CnU.le {v : Wd} {B : Nat → Bool} {top en b c : Nat} (h : CnU v B top en b c) : c ≤ 256 := by
  obtain ⟨U, h1, _⟩ := h
  have := fb_ct_le U 256
  omega
theorem CnU.mono {v : Wd} {B : Nat → Bool} {top en b top2 en2 b2 c : Nat} (h : CnU v B top en b c) (hm : ∀ t e x, x < 16 → t ≤ e → (t < top ∨ (t = top ∧ (e < en ∨ (e = en ∧ x < b)))) → (t < top2 ∨ (t = top2 ∧ (e < en2 ∨ (e = en2 ∧ x < b2))))) : CnU v B top2 en2 b2 c := by
  obtain ⟨U, h1, h2⟩ := h
  refine ⟨U, h1, fun e x he hx hu => ?_⟩
  obtain ⟨t, t1, t2⟩ := h2 e x he hx hu
  exact ⟨t, t1, hm t e x hx t1.1 t2⟩
theorem CnU.add {v : Wd} {B : Nat → Bool} {top en b b2 c x : Nat} (h : CnU v B top en b c) (hx : x < 16) (he : en < 16) (hb : b ≤ x) (hb2 : x < b2) (hu : UT v B top en x) : CnU v B top en b2 (c + 1) := by
  obtain ⟨U, h1, h2⟩ := h
  have hf : U (16 * en + x) = false := by
    cases hU : U (16 * en + x) with
    | false => rfl
    | true =>
      obtain ⟨t, t1, t2⟩ := h2 en x he hx hU
      exfalso
      rcases t2 with g | ⟨g, g2⟩
      · rcases hu.2.2 with q | q
        · omega
        · have := t1.2.1 (top - 1) (by omega) (by have := hu.1; omega)
          rw [this] at q; cases q
      · omega
  refine ⟨fun k => if k = 16 * en + x then true else U k, ?_, fun e y he2 hy hU => ?_⟩
  · rw [ct_add (p := U) (k := 16 * en + x) (by omega) hf (fun j _ => rfl)]
    omega
  · by_cases e1 : 16 * e + y = 16 * en + x
    · have e2 : e = en := by omega
      have e3 : y = x := by omega
      rw [e2, e3]
      exact ⟨top, hu, Or.inr ⟨rfl, Or.inr ⟨rfl, hb2⟩⟩⟩
    · have hU2 : U (16 * e + y) = true := by
        have := hU
        simp only [e1, if_false] at this
        exact this
      obtain ⟨t, t1, t2⟩ := h2 e y he2 hy hU2
      exact ⟨t, t1, by omega⟩
theorem HdB.keep {v : Wd} {B : Nat → Bool} {s s2 : Mm} {c c2 x1 x2 y1 y2 : Nat} (h : HdB v B s c x1 x2 y1 y2) (hc : c ≤ c2) (hs : ∀ i, i < c → s2.2 55 i = s.2 55 i) : HdB v B s2 c2 x1 x2 y1 y2 := by
  rcases h with h | h | ⟨i, i1, i2⟩
  · exact Or.inl h
  · exact Or.inr (Or.inl h)
  · exact Or.inr (Or.inr ⟨i, by omega, by rw [hs i i1]; exact i2⟩)
theorem rw_place {v : Wd} {B : Nat → Bool} {k : Nat} (h : rwC v B k = true) (hp : pcv v k = true) : B k = true := by
  unfold rwC at h
  rw [Bool.or_eq_true] at h
  rcases h with h | h
  · exact h
  · rw [Bool.and_eq_true, decide_eq_true_eq, decide_eq_true_eq] at h
    have := pcv_lt hp
    omega
theorem and_run {r run : Int32} {t e : Nat} (he : e ≤ 16) (hr : ∀ i, i < 32 → bt run i = (decide (t ≤ i) && decide (i < e))) : r &&& run = run ↔ ∀ x, t ≤ x → x < e → bt r x = true := by
  constructor
  · intro h x h1 h2
    have := congrArg (fun z => bt z x) h
    simp only [b_and] at this
    rw [hr x (by omega), decide_eq_true h1, decide_eq_true h2] at this
    simpa using this
  · intro h
    refine b_ext (fun i hi => ?_)
    rw [b_and, hr i hi]
    by_cases g : t ≤ i ∧ i < e
    · rw [h i g.1 g.2]; simp
    · have : (decide (t ≤ i) && decide (i < e)) = false := by simp; omega
      rw [this, Bool.and_false]
theorem x_listRuns_ok {s0 : Mm} {n : Nat} {l : List Nat} {sl : Nat → Nat} {v : Wd} {B : Nat → Bool} {top en : Nat} {com : Int32} {P : Unit × Mm → Prop} (hS : FoS s0 47 48 49 n l sl v) (hle : fb_ct (pcv v) 256 ≤ 64) (hT : BtX s0 v 256) (hR : RhX s0 v B v.2.1) (ht : top ≤ en) (he : en < v.2.1)
    (hcom : ∀ j, j < 32 → (bt com j = true ↔ j < v.1 ∧ ∀ y, top ≤ y → y ≤ en → rwC v B (16 * y + j) = true)) (hP : ∀ s, BoI v B s0 top en 16 s → P ((), s)) {s1 : Mm} (h1 : BoI v B s0 top en 0 s1) : Ok (f_Cov_listRuns com (nI top) (nI en) s1) P := by
  obtain ⟨b1, b2, b3, _⟩ := hS.b
  have chi : ∀ j, v.1 ≤ j → j < 32 → bt com j = false := fun j g1 g2 => by
    cases hb : bt com j with
    | false => rfl
    | true => have := ((hcom j g2).mp hb).1; omega
  have lp : ∀ r i M left b s, i + r = 16 → r + 1 ≤ M → i ≤ b → (∀ j, j < 32 → bt left j = (decide (b ≤ j) && bt com j)) → (b = 0 ∨ bt com (b - 1) = false) → BoI v B s0 top en b s → Ok (f_Cov_listRuns_6 M (nI top) (nI en) left (nI i) s) P := by
    intro r
    induction r with
    | zero =>
      intro i M left b s hi hM hib hl hb hI
      obtain ⟨M, rfl⟩ := nat_suc hM
      show Ok (b_Cov_listRuns_6 (f_Cov_listRuns_6 M) (nI top) (nI en) left (nI i) s) P
      unfold b_Cov_listRuns_6
      refine okc_le 16 i (fun _ => ok_some (hP s ?_)) (fun hh => by omega)
      obtain ⟨g1, c, g2, g3, g4, g5⟩ := hI
      exact ⟨g1, c, g2, g3.mono (fun t e x hx hte h => by omega), g4, fun x1 x2 y1 y2 k1 k2 k3 => g5 x1 x2 y1 y2 k1 k2 (by have := k1.2.1; omega)⟩
    | succ r ih =>
      intro i M left b s hi hM hib hl hb hI
      obtain ⟨M, rfl⟩ := nat_suc hM
      show Ok (b_Cov_listRuns_6 (f_Cov_listRuns_6 M) (nI top) (nI en) left (nI i) s) P
      unfold b_Cov_listRuns_6
      have comx : ∀ {x1 x2 : Nat}, RcT v B x1 x2 top en → ∀ x, x1 ≤ x → x ≤ x2 → bt com x = true := fun {x1 x2} hr x g1 g2 => (hcom x (by have := hr.2.1; omega)).mpr ⟨by have := hr.2.1; omega, fun y g3 g4 => hr.2.2.2.2 x y g1 g2 g3 g4⟩
      refine okc_le 16 i (fun hh => by omega) (fun _ => ok_if (fun hz => ok_some (hP s ?_)) (fun hz => ok_lt (ok_lt (ok_lt ?_))))
      · obtain ⟨g1, c, g2, g3, g4, g5⟩ := hI
        refine ⟨g1, c, g2, g3.mono (fun t e x hx hte h => ?_), g4, fun x1 x2 y1 y2 k1 k2 k3 => g5 x1 x2 y1 y2 k1 k2 ?_⟩
        · rcases Nat.lt_or_ge b 17 with q | q <;> omega
        · rcases Nat.lt_or_ge x2 b with q | q
          · omega
          · rcases k3 with k3 | ⟨k5, k3 | ⟨k3, k4⟩⟩
            · exact Or.inl k3
            · exact Or.inr ⟨k5, Or.inl k3⟩
            · exfalso
              rw [k3, k5] at k1
              have c1 := comx k1 x2 k1.1 (Nat.le_refl _)
              have c2 := hl x2 (by have := k1.2.1; omega)
              rw [hz, b_0, c1, decide_eq_true q] at c2
              cases c2
      · have lhi : ∀ j, 16 ≤ j → j < 32 → bt left j = false := fun j g1 g2 => by rw [hl j g2, chi j (by omega) g2, Bool.and_false]
        obtain ⟨t, e, te, e16, q0, q1, q2⟩ := run_ex lhi hz
        have hrun := run_bits te e16 lhi q0 q1 q2
        obtain ⟨run, erun⟩ : ∃ run, run = left &&& ((left + (left &&& (-left))) ^^^ (-1 : Int32)) := ⟨_, rfl⟩
        rw [← erun] at hrun
        show Ok (if nI top ≤ 0 then b_Cov_listRuns_72 (f_Cov_listRuns_6 M) (nI top) (nI en) (left &&& ((left &&& ((left + (left &&& (-left))) ^^^ (-1 : Int32))) ^^^ (-1 : Int32))) (nI i) (left &&& ((left + (left &&& (-left))) ^^^ (-1 : Int32))) 0 s else _) P
        rw [← erun]
        have tb : b ≤ t ∧ bt com t = true := by
          have := hl t (by omega)
          rw [q1 t (Nat.le_refl _) te] at this
          have := this.symm
          rw [Bool.and_eq_true, decide_eq_true_eq] at this
          exact this
        have ce : bt com e = false := by
          have := hl e (by omega)
          rw [q2, decide_eq_true (show b ≤ e by omega), Bool.true_and] at this
          exact this.symm
        have crun : ∀ x, t ≤ x → x < e → bt com x = true := fun x g1 g2 => by
          have := hl x (by omega)
          rw [q1 x g1 g2] at this
          have := this.symm
          rw [Bool.and_eq_true] at this
          exact this.2
        have ew : e ≤ v.1 := by
          have := ((hcom (e - 1) (by omega)).mp (crun (e - 1) (by omega) (by omega))).1
          omega
        have hRc : RcT v B t (e - 1) top en := ⟨by omega, by omega, ht, he, fun x y g1 g2 g3 g4 => ((hcom x (by omega)).mp (crun x g1 (by omega))).2 y g3 g4⟩
        -- a rectangle that comes now lies in the run
        have inrun : ∀ {x1 x2 : Nat}, RcT v B x1 x2 top en → b ≤ x2 → x2 < e + 1 → t ≤ x1 ∧ x2 < e := fun {x1 x2} hr g1 g2 => by
          have a1 : b ≤ x1 := by
            rcases Nat.lt_or_ge x1 b with g | g
            · exfalso
              rcases hb with g3 | g3
              · omega
              · rw [comx hr (b - 1) (by omega) (by omega)] at g3; cases g3
            · exact g
          have a2 : t ≤ x1 := by
            rcases Nat.lt_or_ge x1 t with g | g
            · exfalso
              have g3 := q0 x1 g
              rw [hl x1 (by have := hr.2.1; have := hr.1; omega), decide_eq_true a1, comx hr x1 (Nat.le_refl _) hr.1] at g3
              cases g3
            · exact g
          refine ⟨a2, ?_⟩
          rcases Nat.lt_or_ge x2 e with g | g
          · exact g
          · exfalso
            have := hr.1
            rw [comx hr e (by omega) (by omega)] at ce; cases ce
        have nxt : ∀ s2, BoI v B s0 top en (e + 1) s2 → Ok (f_Cov_listRuns_6 M (nI top) (nI en) (left &&& (run ^^^ (-1 : Int32))) (nI (i + 1)) s2) P := fun s2 hI2 =>
          ih (i + 1) M _ (e + 1) s2 (by omega) (by omega) (by omega) (fun j hj => by
            rw [b_and, b_xor, b_m1 j hj, hl j hj, hrun j hj, Bool.xor_true]
            rcases Nat.lt_trichotomy j e with g | g | g
            · rw [decide_eq_false (show ¬ e + 1 ≤ j by omega), decide_eq_true g]
              rcases Nat.lt_or_ge j t with g2 | g2
              · have := q0 j g2
                rw [hl j hj] at this
                rw [this]; rfl
              · rw [decide_eq_true g2]; simp
            · rw [g, ce]; simp
            · rw [decide_eq_true (show e + 1 ≤ j by omega), decide_eq_true (show b ≤ j by omega), decide_eq_false (show ¬ j < e by omega)]; simp) (Or.inr (by rw [Nat.add_sub_cancel]; exact ce)) hI2
        have hF := hI.1
        have row : ∀ y, y < v.2.1 → ∀ x, x < 16 → bt (s.1 53 y) x = rwC v B (16 * y + x) := fun y hy x hx => by rw [hF 53 y (by omega), hR y hy x (by omega), decide_eq_true hx, Bool.true_and]
        -- nothing is added where the run grows
        have skp : (GrU v B t (e - 1) top ∨ GrD v B t (e - 1) en) → Ok (f_Cov_listRuns_6 M (nI top) (nI en) (left &&& (run ^^^ (-1 : Int32))) (nI (i + 1)) s) P := fun hg => nxt s (by
          obtain ⟨g1, c, g2, g3, g4, g5⟩ := hI
          refine ⟨g1, c, g2, g3.mono (fun t e x hx hte h => by omega), g4, fun x1 x2 y1 y2 k1 k2 k3 => ?_⟩
          by_cases k4 : y1 = top ∧ y2 = en ∧ b ≤ x2
          · rw [k4.1, k4.2.1] at k1
            have hin := inrun k1 k4.2.2 (by omega)
            rw [k4.1, k4.2.1]
            rcases hg with hg | hg
            · exact Or.inl ⟨hg.1, fun x a1 a2 => hg.2 x (by omega) (by omega)⟩
            · exact Or.inr (Or.inl ⟨hg.1, fun x a1 a2 => hg.2 x (by omega) (by omega)⟩)
          · exact g5 x1 x2 y1 y2 k1 k2 (by omega))
        -- a run that can't grow is added
        have add : ¬ GrU v B t (e - 1) top → Ok ((f_Cov_addBox run (nI top) (nI en) s).bind (fun q3 => lt_ (nI i + (1 : Int32)) (fun a4 => f_Cov_listRuns_6 M (nI top) (nI en) (left &&& (run ^^^ (-1 : Int32))) a4 q3.2))) P := fun hg => by
          obtain ⟨g1, c, g2, g3, g4, g5⟩ := hI
          have c256 := g3.le
          have hrn : ∀ k, k < 256 → (rnR run top en k ↔ rcA t (e - 1) top en k) := fun k hk => by
            unfold rnR rcA
            rw [hrun (k % 16) (by omega), Bool.and_eq_true, decide_eq_true_eq, decide_eq_true_eq]
            omega
          have hU : ∃ x, t ≤ x ∧ x < e ∧ UT v B top en x := by
            have up : ∀ x, t ≤ x → x < e → ∀ y, top ≤ y → y ≤ en → rwC v B (16 * y + x) = true := fun x a1 a2 y a3 a4 => hRc.2.2.2.2 x y a1 (by omega) a3 a4
            rcases Nat.eq_zero_or_pos top with z | z
            · exact ⟨t, Nat.le_refl _, te, ht, up t (Nat.le_refl _) te, Or.inl z⟩
            · refine Classical.byContradiction (fun hh => hg ⟨z, fun x a1 a2 => ?_⟩)
              cases hw : rwC v B (16 * (top - 1) + x) with
              | true => rfl
              | false => exact absurd ⟨x, a1, by omega, ht, up x a1 (by omega), Or.inr hw⟩ hh
          obtain ⟨x, xa, xb, xu⟩ := hU
          have cn2 := g3.add (b2 := e + 1) (by omega) (by omega) (show b ≤ x by omega) (by omega) xu
          refine ok_bind (x_addBox_ok (B := B) (cnt := c) (hS.same (fun j => hF _ j (by omega)) (fun j => hF _ j (by omega)) (fun j => hF _ j (by omega))) hle (fun k k1 k2 => by rw [hF 54 k (by omega)]; exact hT k k1 k2) g2 (by omega) ht he (fun k hk hr hp => ?_) (fun hz => ok_lt ?_) (fun z hz hz0 => ok_lt ?_))
          · have hr2 := (hrn k hk).mp hr
            refine rw_place (v := v) ?_ hp
            have := hRc.2.2.2.2 (k % 16) (k / 16) hr2.1 hr2.2.1 hr2.2.2.1 hr2.2.2.2
            rw [show 16 * (k / 16) + k % 16 = k by omega] at this
            exact this
          · rw [nI_1]
            refine nxt s ⟨g1, c, g2, g3.mono (fun t e x hx hte h => by omega), g4, fun x1 x2 y1 y2 k1 k2 k3 => ?_⟩
            by_cases k4 : y1 = top ∧ y2 = en ∧ b ≤ x2
            · exfalso
              rw [k4.1, k4.2.1] at k1 k2
              have hin := inrun k1 k4.2.2 (by omega)
              obtain ⟨k, ka, kb, kc⟩ := k2
              have hd := obl_dom hle hz k ka ((hrn k ka).mpr (by unfold rcA at kb ⊢; omega)) kc
              rw [lb_0] at hd; cases hd
            · exact g5 x1 x2 y1 y2 k1 k2 (by omega)
          · rw [nI_1]
            have hz2 : OblO v B (rcA t (e - 1) top en) z := obl_skip hz (fun j hj _ => (hrn j hj).symm)
            have bx : ∀ i, (sI (sL s 55 c z) 52 3 (nI (c + 1))).2 55 i = if i = c then z else s.2 55 i := fun i => by rw [sI_l, sL_at]
            refine nxt _ ⟨fun a j hj => by rw [sI_at, if_neg hj]; exact g1 a j hj, c + 1, sI_self _ _ _ _, cn2, fun i hi => ?_, fun x1 x2 y1 y2 k1 k2 k3 => ?_⟩
            · rw [bx]
              by_cases ei : i = c
              · rw [if_pos ei]; exact ⟨_, _, _, _, hRc, hz2, hz0⟩
              · rw [if_neg ei]; exact g4 i (by omega)
            · by_cases k4 : y1 = top ∧ y2 = en ∧ b ≤ x2
              · rw [k4.1, k4.2.1] at k1 ⊢
                have hin := inrun k1 k4.2.2 (by omega)
                refine Or.inr (Or.inr ⟨c, by omega, ?_⟩)
                rw [bx, if_pos rfl]
                exact fun k ka kb kc => obl_dom hle hz2 k ka (by unfold rcA at kb ⊢; omega) kc
              · exact (g5 x1 x2 y1 y2 k1 k2 (by omega)).keep (by omega) (fun i hi => by rw [bx, if_neg (by omega)])
        have e47 : s.1 47 2 = nI v.2.1 := by rw [hF 47 2 (by omega)]; exact hS.2.2.1
        have down : ∀ gu : Bool, (gu = true ↔ GrU v B t (e - 1) top) → Ok (b_Cov_listRuns_72 (f_Cov_listRuns_6 M) (nI top) (nI en) (left &&& (run ^^^ (-1 : Int32))) (nI i) run (bI gu) s) P := fun gu hgu => by
          unfold b_Cov_listRuns_72
          have fin : ∀ gd : Bool, (gd = true ↔ GrD v B t (e - 1) en) → Ok (b_Cov_listRuns_106 (f_Cov_listRuns_6 M) (nI top) (nI en) (left &&& (run ^^^ (-1 : Int32))) (nI i) run (bI gu) (bI gd) s) P := fun gd hgd => by
            unfold b_Cov_listRuns_106
            refine okc_b gu (fun hu => okc_b gd (fun hd => add (fun h => by rw [hgu.mpr h] at hu; cases hu)) (fun hd => ok_lt ?_) rfl) (fun hu => ok_lt ?_) rfl
            · rw [nI_1]; exact skp (Or.inr (hgd.mp hd))
            · rw [nI_1]; exact skp (Or.inl (hgu.mp hu))
          rw [e47, show nI v.2.1 - (1 : Int32) = nI (v.2.1 - 1) from pk_sub (b := 1) (by omega)]
          refine okc_le (v.2.1 - 1) en (fun hh => fin false ⟨fun h => (by cases h), fun h => by have := h.1; omega⟩) (fun hh => ?_)
          rw [nI_1]
          refine ok_t (inb_nI (by omega) (by omega)) ?_
          rw [cl_nI (by omega)]
          refine ok_if (fun hb => fin true ⟨fun _ => ⟨by omega, fun x a1 a2 => ?_⟩, fun _ => rfl⟩) (fun hb => fin false ⟨fun h => (by cases h), fun h => absurd ((and_run e16 hrun).mpr (fun x a1 a2 => ?_)) hb⟩)
          · rw [← row (en + 1) (by omega) x (by omega)]
            exact (and_run e16 hrun).mp hb x a1 (by omega)
          · rw [row (en + 1) (by omega) x (by omega)]
            exact h.2 x a1 (by omega)
        refine okc_le top 0 (fun hh => down false ⟨fun h => (by cases h), fun h => by have := h.1; omega⟩) (fun hh => ?_)
        rw [show nI top - (1 : Int32) = nI (top - 1) from pk_sub (b := 1) (by omega)]
        refine ok_t (inb_nI (by omega) (by omega)) ?_
        rw [cl_nI (by omega)]
        refine ok_if (fun hb => down true ⟨fun _ => ⟨by omega, fun x a1 a2 => ?_⟩, fun _ => rfl⟩) (fun hb => down false ⟨fun h => (by cases h), fun h => absurd ((and_run e16 hrun).mpr (fun x a1 a2 => ?_)) hb⟩)
        · rw [← row (top - 1) (by omega) x (by omega)]
          exact (and_run e16 hrun).mp hb x a1 (by omega)
        · rw [row (top - 1) (by omega) x (by omega)]
          exact h.2 x a1 (by omega)
  unfold f_Cov_listRuns
  exact lp 16 0 1000000 com 0 s1 (by omega) (by omega) (by omega) (fun j hj => by simp) (Or.inl rfl) h1
