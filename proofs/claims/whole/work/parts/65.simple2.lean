theorem ok_grid {α β : Type} (F : Nat → Int32 → α → Option β) (G : (Int32 → α → Option β) → Nat → Int32 → Int32 → α → Option β) (I : Nat → Nat → α → Prop) (P : β → Prop) (M N : Nat)
    (hin : ∀ k m y x a, y < M → x < N → I y x a → (∀ a2, I y (x + 1) a2 → Ok (G k m (nI y) (nI (x + 1)) a2) P) → Ok (G k (m + 1) (nI y) (nI x) a) P)
    (hout : ∀ k m y a, y < M → I y N a → (∀ a2, I (y + 1) 0 a2 → Ok (k (nI (y + 1)) a2) P) → Ok (G k (m + 1) (nI y) (nI N) a) P)
    (hs : ∀ n y a, y < M → I y 0 a → Ok (G (F n) 1000000 (nI y) 0 a) P → Ok (F (n + 1) (nI y) a) P)
    (hx : ∀ n a, I M 0 a → Ok (F (n + 1) (nI M) a) P) (hN : N + 1 ≤ 1000000) {fu : Nat} (hM : M + 1 ≤ fu) {a : α} (h0 : I 0 0 a) : Ok (F fu 0 a) P := by
  refine ok_upF F (fun y a => I y 0 a) P M hM h0 (fun n y a hy hI ih => hs n y a hy hI ?_) hx
  have key : ∀ (q x k : Nat) (a : α), x + q = N → q + 1 ≤ k → I y x a → Ok (G (F n) k (nI y) (nI x) a) P := by
    intro q
    induction q with
    | zero =>
      intro x k a hx hk hI
      obtain ⟨k, rfl⟩ := nat_suc hk
      have e : x = N := by omega
      subst e
      exact hout (F n) k y a hy hI ih
    | succ q ihq =>
      intro x k a hx hk hI
      obtain ⟨k, rfl⟩ := nat_suc hk
      exact hin (F n) k y x a hy (by omega) hI (fun a2 h2 => ihq (x + 1) k a2 (by omega) (by omega) h2)
  exact key N 0 1000000 a (by omega) (by omega) hI
def cn2 (q : Nat → Nat → Bool) (n y x : Nat) : Nat := fb_sm (fun y' => fb_ct (fun x' => q x' y') n) y + fb_ct (fun x' => q x' y) x
theorem cn2_in (q : Nat → Nat → Bool) (n y x : Nat) : cn2 q n y (x + 1) = cn2 q n y x + (if q x y then 1 else 0) := by
  unfold cn2; rw [fb_ct_succ]; omega
theorem cn2_out (q : Nat → Nat → Bool) (n y : Nat) : cn2 q n (y + 1) 0 = cn2 q n y n := by
  unfold cn2; rw [fb_sm_succ]; rfl
theorem shl1n {n : Nat} (h : n ≤ 30) : (1 : Int32) <<< (nI n &&& 31) = nI (2 ^ n) := by
  have h2 : 2 ^ n ≤ 2 ^ 30 := Nat.pow_le_pow_right (by decide) h
  have := pk_shlN (n := 1) (nI n &&& 31) n (s_l n (by omega)) (by omega)
  rw [Nat.one_mul] at this
  exact this
/-! wedge -/
theorem plc_chk : (List.range 17).all (fun W => (List.range 17).all (fun H => fb_ct (fun k => isP (W, H, 0) (k % 16) (k / 16)) 256 == W * H) && fb_ct (fun k => isP (W, W, 1) (k % 16) (k / 16)) 256 == W * (W + 1) / 2) = true := by decide +kernel
def nPl (v : Wd) : Nat := if v.2.2 = 0 then v.1 * v.2.1 else v.1 * (v.1 + 1) / 2
theorem plc_ct {v : Wd} (h1 : v.1 ≤ 16) (h2 : v.2.1 ≤ 16) (h3 : v.2.2 ≤ 1) (h4 : v.2.2 = 0 ∨ v.1 = v.2.1) : fb_ct (fun k => isP v (k % 16) (k / 16)) 256 = nPl v := by
  obtain ⟨W, H, b⟩ := v
  simp only at h1 h2 h3 h4
  have q := List.all_eq_true.mp plc_chk W (List.mem_range.mpr (by omega))
  rw [Bool.and_eq_true] at q
  unfold nPl
  rcases (show b = 0 ∨ b = 1 by omega) with rfl | rfl
  · have := List.all_eq_true.mp q.1 H (List.mem_range.mpr (by omega))
    simpa using this
  · have e : W = H := by omega
    subst e
    simpa using q.2
theorem nPl_lt {v : Wd} (h1 : v.1 ≤ 16) (h2 : v.2.1 ≤ 16) : nPl v ≤ 256 := by
  unfold nPl
  split
  · have := Nat.mul_le_mul h1 h2; omega
  · have := Nat.mul_le_mul h1 (show v.1 + 1 ≤ 17 by omega); omega
theorem x_places_eq {st : Mm} {f0 f1 f2 n : Nat} {l : List Nat} {sl : Nat → Nat} {v : Wd} (h : FoS st f0 f1 f2 n l sl v) : f_Fold_places f0 f1 f2 st = some (nI (nPl v), st) := by
  obtain ⟨b1, b2, b3, b4⟩ := h.b
  obtain ⟨e0, e1, e2, e3, _⟩ := h
  obtain ⟨W, H, b⟩ := v
  simp only at b1 b2 b3 b4 e1 e2 e3
  unfold f_Fold_places nPl
  rw [e1, e2, e3]
  rcases (show b = 0 ∨ b = 1 by omega) with rfl | rfl
  · rw [if_pos (show nI 0 = 0 from rfl), pk_mul]; rfl
  · have : W * (W + 1) ≤ 16 * 17 := Nat.mul_le_mul b1 (by omega)
    rw [if_neg (show ¬ nI 1 = 0 by decide), nI_1, pk_mul, show (2 : Int32) = nI 2 from rfl, pk_div (by omega) (by omega) (by omega)]; rfl
theorem st_wedge (a0 : Int32) : Step1 Inv (f_x_wedge a0) (f_m_wedge a0) := step_q (fun A hA => by
  obtain ⟨v, hv, v1, v2, v3, v4⟩ := hA.v
  refine ⟨if a0 = 0 then nI v.1 else if a0 = 1 then nI v.2.1 else if a0 = 2 then nI (nPl v) else if a0 = 3 then nI (fb_ct A.1.2.2.2.2.1 256) else if a0 = 4 then nI A.1.2.2.2.1.length else if a0 = 5 then nI v.2.2 else -1, xok_fr [] rfl (fun st hI => ?_), mok_fr LR rfl (fun st hI => ?_)⟩
  · have hS := hI.fo hv
    unfold f_x_wedge
    refine ok_if (fun c => ok_some ⟨by rw [if_pos c]; exact hS.2.1, Fr.rf⟩) (fun c => ?_)
    rw [if_neg c]
    refine ok_if (fun c => ok_some ⟨by rw [if_pos c]; exact hS.2.2.1, Fr.rf⟩) (fun c => ?_)
    rw [if_neg c]
    refine ok_if (fun c => ok_bind (ok_eq (x_places_eq hS) (ok_some ⟨by rw [if_pos c], Fr.rf⟩))) (fun c => ?_)
    rw [if_neg c]
    refine ok_if (fun c => ok_bind (ok_eq (x_bitsOf_eq hI.1.2.2.2.2.2.1) (ok_some ⟨by rw [if_pos c], Fr.rf⟩))) (fun c => ?_)
    rw [if_neg c]
    refine ok_if (fun c => ok_some ⟨by rw [if_pos c]; exact hI.1.2.2.2.1, Fr.rf⟩) (fun c => ?_)
    rw [if_neg c]
    refine ok_if (fun c => ?_) (fun c => ok_some ⟨by rw [if_neg c], Fr.rf⟩)
    rw [if_pos c]
    refine okc_eq v.2.2 0 (fun c2 => ok_some ⟨by rw [c2]; rfl, Fr.rf⟩) (fun c2 => ok_some ⟨by rw [show v.2.2 = 1 by omega]; rfl, Fr.rf⟩) hS.2.2.2.1 rfl (by omega)
  · unfold f_m_wedge
    refine ok_bind (mI_lays hA hI hv (fun s2 hF hr => ?_))
    have hw := hr.w
    refine ok_if (fun c => ok_some ⟨by rw [if_pos c]; exact hw.1, hF⟩) (fun c => ?_)
    rw [if_neg c]
    refine ok_if (fun c => ok_some ⟨by rw [if_pos c]; exact hw.2.1, hF⟩) (fun c => ?_)
    rw [if_neg c]
    refine ok_if (fun c => ok_bind (ok_eq (m_placeMany_eq hw v1 v2 v3) (ok_some ⟨by rw [if_pos c, plc_ct v1 v2 v3 v4], hF⟩))) (fun c => ?_)
    rw [if_neg c]
    refine ok_if (fun c => ok_bind (ok_eq (m_cutMany_eq (c := A.1.2.2.2.2.1) (fun k hk => by rw [hF 61 k (by simp [inL, LR])]; exact hI.1.2.2.2.2.2.1 k hk)) (ok_some ⟨by rw [if_pos c], hF⟩))) (fun c => ?_)
    rw [if_neg c]
    refine ok_if (fun c => ok_some ⟨by rw [if_pos c, hF 58 1 rfl]; exact hI.1.2.2.2.1, hF⟩) (fun c => ?_)
    rw [if_neg c]
    refine ok_if (fun c => ?_) (fun c => ok_some ⟨by rw [if_neg c], hF⟩)
    rw [if_pos c]
    refine okc_eq v.2.2 0 (fun c2 => ok_some ⟨by rw [c2]; rfl, hF⟩) (fun c2 => ok_some ⟨by rw [show v.2.2 = 1 by omega]; rfl, hF⟩) hw.2.2 rfl (by omega))
/-! count -/
theorem m_bits_eq (x : Int32) (st : Mm) : f_m_bits x st = some (nI (fb_ct (bt x) 16), st) := by
  have key : ∀ r i n, i + r = 16 → r + 1 ≤ n → f_m_bits_4 n x (nI (fb_ct (bt x) i)) (nI i) st = some (nI (fb_ct (bt x) 16), st) := by
    intro r
    induction r with
    | zero =>
      intro i n h1 h2
      obtain ⟨m, rfl⟩ := nat_suc h2
      have e : i = 16 := by omega
      subst e
      show b_m_bits_4 (f_m_bits_4 m) x _ (nI 16) st = _
      unfold b_m_bits_4
      exact if_pos (by decide)
    | succ r ih =>
      intro i n h1 h2
      obtain ⟨m, rfl⟩ := nat_suc h2
      show b_m_bits_4 (f_m_bits_4 m) x _ (nI i) st = _
      unfold b_m_bits_4
      rw [if_neg (n16 (by omega)), lt_eq, lt_eq, bit_of (by omega), slb_I, nI_add, nI_1, show fb_ct (bt x) i + slb x i = fb_ct (bt x) (i + 1) from rfl]
      exact ih (i + 1) m (by omega) (by omega)
  exact key 16 0 1000000 (by omega) (by omega)
theorem ct_tail {p : Nat → Bool} {m : Nat} : ∀ r, (∀ k, m ≤ k → p k = false) → fb_ct p (m + r) = fb_ct p m := by
  intro r h
  induction r with
  | zero => rfl
  | succ r ih => rw [show m + (r + 1) = (m + r) + 1 by omega, fb_ct_succ, h (m + r) (by omega), ih]; rfl
theorem m_wantedMany_eq {st : Mm} {n : Nat} {w : Nat → Bool} (hn : st.1 58 0 = nI n) (hn2 : n ≤ 16) (hw : Rw (st.1 60) w) (hC : ∀ k, w k = true → isC n k) : f_m_wantedMany st = some (nI (fb_ct w 256), st) := by
  have e256 : fb_ct w 256 = fb_ct w (16 * n) := by
    rw [show 256 = 16 * n + (256 - 16 * n) by omega]
    refine ct_tail _ (fun k hk => ?_)
    cases h : w k with
    | false => rfl
    | true => have := (hC k h).2.2; omega
  have key : ∀ r i m, i + r = n → r + 1 ≤ m → f_m_wantedMany_4 m (nI (fb_ct w (16 * i))) (nI i) st = some (nI (fb_ct w (16 * n)), st) := by
    intro r
    induction r with
    | zero =>
      intro i m h1 h2
      obtain ⟨m, rfl⟩ := nat_suc h2
      have e : i = n := by omega
      subst e
      show b_m_wantedMany_4 (f_m_wantedMany_4 m) _ (nI i) st = _
      unfold b_m_wantedMany_4
      rw [hn]
      exact if_pos (Int32.le_refl _)
    | succ r ih =>
      intro i m h1 h2
      obtain ⟨m, rfl⟩ := nat_suc h2
      show b_m_wantedMany_4 (f_m_wantedMany_4 m) _ (nI i) st = _
      unfold b_m_wantedMany_4
      rw [hn, if_neg (nI_ge (by omega) (by omega)), if_pos (inb_nI (show i < 16 by omega) (by omega)), cl_nI (by omega), m_bits_eq]
      simp only [Option.bind_some, lt_eq]
      rw [nI_add, nI_1, fb_ct_cong (p := bt (st.1 60 i)) (q := fun k => w (16 * i + k)) (fun b hb => hw.lo (by omega) hb), ← fb_ct_split, show 16 * i + 16 = 16 * (i + 1) by omega]
      exact ih (i + 1) m (by omega) (by omega)
  rw [e256]
  exact key n 0 1000000 (by omega) (by omega)
theorem Rw.eq {f g : Nat → Int32} {c : Nat → Bool} (h1 : Rw f c) (h2 : Rw g c) {y : Nat} (hy : y < 16) : f y = g y := b_ext (fun b hb => by rw [h1 y hy b hb, h2 y hy b hb])
noncomputable def rowI (w : Nat → Bool) (y : Nat) : Int32 := nI (fb_sm (fun b => if w (16 * y + b) then 2 ^ b else 0) 16)
theorem sum_bits (q : Nat → Bool) : ∀ m, fb_sm (fun b => if q b then 2 ^ b else 0) m < 2 ^ m ∧ ∀ i, (fb_sm (fun b => if q b then 2 ^ b else 0) m).testBit i = (decide (i < m) && q i) := by
  intro m
  induction m with
  | zero => exact ⟨Nat.one_pos, fun i => by simp [fb_sm]⟩
  | succ m ih =>
    have e : fb_sm (fun b => if q b then 2 ^ b else 0) (m + 1) = 2 ^ m * (if q m then 1 else 0) + fb_sm (fun b => if q b then 2 ^ b else 0) m := by
      rw [fb_sm_succ]
      cases q m <;> simp <;> omega
    refine ⟨?_, fun i => ?_⟩
    · have := ih.1
      rw [Nat.pow_succ, fb_sm_succ]
      cases q m <;> simp <;> omega
    · rw [e, Nat.testBit_two_pow_mul_add _ ih.1]
      by_cases hi : i < m
      · rw [if_pos hi, ih.2 i]
        simp [hi, show i < m + 1 by omega]
      · rw [if_neg hi]
        by_cases hi2 : i = m
        · subst hi2
          cases q i <;> simp
        · rw [decide_eq_false (show ¬ i < m + 1 by omega), Bool.false_and]
          cases q m
          · simp
          · rw [if_pos rfl]
            exact Nat.testBit_lt_two_pow (Nat.one_lt_two_pow (by omega))
theorem Rw.row {f : Nat → Int32} {w : Nat → Bool} (h : Rw f w) {y : Nat} (hy : y < 16) : f y = rowI w y := b_ext (fun b hb => by
  have := sum_bits (fun b => w (16 * y + b)) 16
  unfold rowI
  rw [h y hy b hb, bt_nI (by have := this.1; omega), this.2 b])
theorem st_count (a0 : Int32) : Step1 Inv (f_x_count a0) (f_m_count a0) := step_q (fun A hA => by
  have hn := hA.1.2.1
  refine ⟨if a0 = 0 then nI A.1.1 else if a0 = 1 then nI A.1.2.2.1 else if a0 = 2 then nI A.1.2.2.2.1.length else if a0 = 3 then nI A.2.1.length else if a0 = 4 then nI A.1.2.1 else if a0 = 5 then nI (fb_ct A.1.2.2.2.2.2.2 256) else if a0 = 6 then nI (fb_ct A.1.2.2.2.2.2.1 256) else if 20 ≤ a0.toInt ∧ a0.toInt < 20 + A.1.1 then rowI A.1.2.2.2.2.2.1 (a0 - 20).toNatClampNeg else -1, xok_fr [] rfl (fun st hI => ?_), mok_fr [] rfl (fun st hI => ?_)⟩
  · obtain ⟨⟨g0, g1, g2, g3, g4, g5, g6, g7⟩, hT, _⟩ := hI
    have b33 : ¬ (20 ≤ a0.toInt ∧ a0.toInt < 20 + A.1.1) → Ok (b_x_count_33 a0 st) (fun q => q.1 = (if a0 = 0 then nI A.1.1 else if a0 = 1 then nI A.1.2.2.1 else if a0 = 2 then nI A.1.2.2.2.1.length else if a0 = 3 then nI A.2.1.length else if a0 = 4 then nI A.1.2.1 else if a0 = 5 then nI (fb_ct A.1.2.2.2.2.2.2 256) else if a0 = 6 then nI (fb_ct A.1.2.2.2.2.2.1 256) else if 20 ≤ a0.toInt ∧ a0.toInt < 20 + A.1.1 then rowI A.1.2.2.2.2.2.1 (a0 - 20).toNatClampNeg else -1) ∧ Fr [] st q.2) := by
      intro hno
      unfold b_x_count_33
      refine ok_if (fun c => ok_some ⟨by rw [if_pos c]; exact g0, Fr.rf⟩) (fun c => ?_)
      rw [if_neg c]
      refine ok_if (fun c => ok_some ⟨by rw [if_pos c]; exact g2, Fr.rf⟩) (fun c => ?_)
      rw [if_neg c]
      refine ok_if (fun c => ok_some ⟨by rw [if_pos c]; exact g3, Fr.rf⟩) (fun c => ?_)
      rw [if_neg c]
      refine ok_if (fun c => ok_some ⟨by rw [if_pos c]; exact hT.1, Fr.rf⟩) (fun c => ?_)
      rw [if_neg c]
      refine ok_if (fun c => ok_some ⟨by rw [if_pos c]; exact g1, Fr.rf⟩) (fun c => ?_)
      rw [if_neg c]
      refine ok_if (fun c => ok_bind (ok_eq (x_bitsOf_eq g7) (ok_some ⟨by rw [if_pos c], Fr.rf⟩))) (fun c => ?_)
      rw [if_neg c]
      refine ok_if (fun c => ok_bind (ok_eq (x_bitsOf_eq g6) (ok_some ⟨by rw [if_pos c], Fr.rf⟩))) (fun c => ?_)
      rw [if_neg c, if_neg hno]
      exact ok_some ⟨rfl, Fr.rf⟩
    unfold f_x_count
    have t20 : (20 : Int32).toInt = 20 := rfl
    refine ok_if (fun c => b33 (by rw [i_lt, t20] at c; omega)) (fun c => ?_)
    rw [g0, show (20 : Int32) + nI A.1.1 = nI (20 + A.1.1) from nI_add 20 _]
    refine ok_if (fun c2 => b33 (by rw [i_le, nI_T (by omega)] at c2; omega)) (fun c2 => ?_)
    rw [i_lt, t20] at c
    rw [i_le, nI_T (by omega)] at c2
    obtain ⟨k, hk, rfl⟩ := i_nat (x := a0) (by omega)
    rw [nI_T hk] at c c2
    have ne : ∀ m, m < 20 → ¬ nI k = nI m := fun m hm z => by have := (nI_eq (by omega) (by omega)).mp z; omega
    rw [show nI k - (20 : Int32) = nI (k - 20) from pk_sub (b := 20) (by omega), cl_nI (by omega)]
    refine ok_t (inb_nI (by omega) (by omega)) (ok_some ⟨?_, Fr.rf⟩)
    rw [if_neg (show ¬ nI k = 0 from ne 0 (by omega)), if_neg (show ¬ nI k = 1 from ne 1 (by omega)), if_neg (show ¬ nI k = 2 from ne 2 (by omega)), if_neg (show ¬ nI k = 3 from ne 3 (by omega)), if_neg (show ¬ nI k = 4 from ne 4 (by omega)), if_neg (show ¬ nI k = 5 from ne 5 (by omega)), if_neg (show ¬ nI k = 6 from ne 6 (by omega)), nI_T hk, if_pos (by omega)]
    exact g6.row (by omega)
  · obtain ⟨⟨g0, g1, g2, g3, g4, g5, g6, g7⟩, hT, _⟩ := hI
    unfold f_m_count
    refine ok_if (fun c => ok_some ⟨by rw [if_pos c]; exact g0, Fr.rf⟩) (fun c0 => ?_)
    rw [if_neg c0]
    refine ok_if (fun c => ok_some ⟨by rw [if_pos c]; exact g2, Fr.rf⟩) (fun c1 => ?_)
    rw [if_neg c1]
    refine ok_if (fun c => ok_some ⟨by rw [if_pos c]; exact g3, Fr.rf⟩) (fun c2 => ?_)
    rw [if_neg c2]
    refine ok_if (fun c => ok_some ⟨by rw [if_pos c]; exact hT.1, Fr.rf⟩) (fun c3 => ?_)
    rw [if_neg c3]
    refine ok_if (fun c => ok_some ⟨by rw [if_pos c]; exact g1, Fr.rf⟩) (fun c4 => ?_)
    rw [if_neg c4]
    refine ok_if (fun c => ok_bind (ok_eq (m_deerMany_eq g7) (ok_some ⟨by rw [if_pos c], Fr.rf⟩))) (fun c5 => ?_)
    rw [if_neg c5]
    refine ok_if (fun c => ok_bind (ok_eq (m_wantedMany_eq g0 hn g6 hA.1.2.2.2.2.2.2.2.2.1) (ok_some ⟨by rw [if_pos c], Fr.rf⟩))) (fun c6 => ?_)
    rw [if_neg c6, g0, show (19 : Int32) + nI A.1.1 = nI (19 + A.1.1) from nI_add 19 _]
    refine ok_bind (ok_eq (m_in_eq a0 20 (19 + A.1.1) (by omega) (by omega) st) ?_)
    rcases in_cases a0 20 (19 + A.1.1) with hc | ⟨k, hk1, hk2, hk3, rfl, hc⟩
    · have h2 := of_decide_eq_false hc
      rw [hc]
      exact ok_t rfl (ok_some ⟨(if_neg (by omega)).symm, Fr.rf⟩)
    · rw [hc, show nI k - (20 : Int32) = nI (k - 20) from pk_sub (b := 20) (by omega), cl_nI (by omega)]
      refine ok_f (show ¬ bI true = 0 by decide) (ok_t (inb_nI (by omega) (by omega)) (ok_some ⟨?_, Fr.rf⟩))
      rw [nI_T hk3, if_pos (by omega)]
      exact g6.row (by omega))
