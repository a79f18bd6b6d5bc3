theorem swar_ct : ∀ m, m ≤ 17 → ∀ k, k < 2 ^ m → swar k = fb_ct k.testBit m := by
  intro m
  induction m with
  | zero => intro _ k hk; have : k = 0 := by omega
            subst this; decide
  | succ m ih =>
    intro hm k hk
    have h1 := chkR_ok _ 16 0 swar_chk (k / 2) (by
      have : k < 2 ^ 17 := Nat.lt_of_lt_of_le hk (Nat.pow_le_pow_right (by decide) hm)
      omega)
    simp only [Nat.zero_add, Bool.and_eq_true, beq_iff_eq] at h1
    have h2 := ih (by omega) (k / 2) (by rw [Nat.pow_succ] at hk; omega)
    have h3 : fb_ct k.testBit (m + 1) = (if k.testBit 0 then 1 else 0) + fb_ct (k / 2).testBit m := by
      rw [show m + 1 = 1 + m by omega, fb_ct_split]
      congr 1
      · simp [fb_ct]
      · refine fb_ct_cong (fun j _ => ?_)
        rw [show 1 + j = j + 1 by omega, Nat.testBit_succ]
    rw [h3, ← h2, Nat.testBit_zero]
    rcases Nat.mod_two_eq_zero_or_one k with e | e
    · rw [← h1.1, show 2 * (k / 2) = k by omega]
      simp [e]
    · rw [show (if decide (k % 2 = 1) = true then 1 else 0) = 1 by simp [e], Nat.add_comm, ← h1.2, show 2 * (k / 2) + 1 = k by omega]
theorem x_bitCount_nI {k : Nat} (h : k < 131072) (st : Mm) : f_Int_bitCount (nI k) st = some (nI (swar k), st) := by
  have a1 : (k / 2) &&& 1431655765 ≤ k / 2 := Nat.and_le_left
  have a2 : sw1 k ≤ k := Nat.sub_le _ _
  have a3 : sw2 (sw1 k) ≤ 2 * k := by
    have : (sw1 k &&& 858993459) ≤ sw1 k := Nat.and_le_left
    have : ((sw1 k / 4) &&& 858993459) ≤ sw1 k / 4 := Nat.and_le_left
    unfold sw2; omega
  have a4 : sw3 (sw2 (sw1 k)) ≤ 4 * k := by
    have : (sw2 (sw1 k) + sw2 (sw1 k) / 16) &&& 252645135 ≤ sw2 (sw1 k) + sw2 (sw1 k) / 16 := Nat.and_le_left
    unfold sw3; omega
  have a5 : sw4 (sw3 (sw2 (sw1 k))) ≤ 8 * k := by unfold sw4; omega
  have e1 : nI k - ((((nI k).toUInt32 >>> ((1 : Int32).toUInt32 &&& Int32.toUInt32 31)).toInt32) &&& (1431655765 : Int32)) = nI (sw1 k) := by
    rw [pk_ushrN (by omega) 1 1 (by decide), show k / 2 ^ 1 = k / 2 from rfl, i_lit 1431655765, fa_and, pk_sub (by omega)]; rfl
  have e2 : (nI (sw1 k) &&& (858993459 : Int32)) + ((((nI (sw1 k)).toUInt32 >>> ((2 : Int32).toUInt32 &&& Int32.toUInt32 31)).toInt32) &&& (858993459 : Int32)) = nI (sw2 (sw1 k)) := by
    rw [pk_ushrN (by omega) 2 2 (by decide), i_lit 858993459, fa_and, fa_and, nI_add]; rfl
  have e3 : (nI (sw2 (sw1 k)) + (((nI (sw2 (sw1 k))).toUInt32 >>> ((4 : Int32).toUInt32 &&& Int32.toUInt32 31)).toInt32)) &&& (252645135 : Int32) = nI (sw3 (sw2 (sw1 k))) := by
    rw [pk_ushrN (by omega) 4 4 (by decide), nI_add, i_lit 252645135, fa_and]; rfl
  have e4 : nI (sw3 (sw2 (sw1 k))) + (((nI (sw3 (sw2 (sw1 k)))).toUInt32 >>> ((8 : Int32).toUInt32 &&& Int32.toUInt32 31)).toInt32) = nI (sw4 (sw3 (sw2 (sw1 k)))) := by
    rw [pk_ushrN (by omega) 8 8 (by decide), nI_add]; rfl
  have e5 : nI (sw4 (sw3 (sw2 (sw1 k)))) + (((nI (sw4 (sw3 (sw2 (sw1 k))))).toUInt32 >>> ((16 : Int32).toUInt32 &&& Int32.toUInt32 31)).toInt32) = nI (sw5 (sw4 (sw3 (sw2 (sw1 k))))) := by
    rw [pk_ushrN (by omega) 16 16 (by decide), nI_add]; rfl
  unfold f_Int_bitCount
  rw [lt_eq, e1, lt_eq, e2, lt_eq, e3, lt_eq, e4, lt_eq, e5, i_lit 63, fa_and]
  rfl
theorem x_bitCount_eq {x : Int32} (h : ∀ b, 17 ≤ b → b < 32 → bt x b = false) (st : Mm) : f_Int_bitCount x st = some (nI (fb_ct (bt x) 17), st) := by
  obtain ⟨k, h1, rfl, h2, h3⟩ := row_nat x 17 h
  rw [x_bitCount_nI h1, swar_ct 17 (by omega) k h1, fb_ct_cong (fun b _ => h3 b)]
theorem Rw.hi {f : Nat → Int32} {c : Nat → Bool} (h : Rw f c) {y b : Nat} (hy : y < 16) (hb : 16 ≤ b) (hb2 : b < 32) : bt (f y) b = false := by
  rw [h y hy b hb2, decide_eq_false (by omega)]; rfl
theorem Rw.lo {f : Nat → Int32} {c : Nat → Bool} (h : Rw f c) {y b : Nat} (hy : y < 16) (hb : b < 16) : bt (f y) b = c (16 * y + b) := by
  rw [h y hy b (by omega), decide_eq_true hb]; rfl
theorem x_bitsOf_eq {st : Mm} {ar : Nat} {c : Nat → Bool} (hr : Rw (st.1 ar) c) : f_x_bitsOf ar st = some (nI (fb_ct c 256), st) := by
  have key : ∀ r i n, i + r = 16 → r + 1 ≤ n → f_x_bitsOf_4 ar n (nI (fb_ct c (16 * i))) (nI i) st = some (nI (fb_ct c 256), st) := by
    intro r
    induction r with
    | zero =>
      intro i n h1 h2
      obtain ⟨m, rfl⟩ := nat_suc h2
      have e : i = 16 := by omega
      subst e
      show b_x_bitsOf_4 ar (f_x_bitsOf_4 ar m) _ (nI 16) st = _
      unfold b_x_bitsOf_4
      exact if_pos (by decide)
    | succ r ih =>
      intro i n h1 h2
      obtain ⟨m, rfl⟩ := nat_suc h2
      show b_x_bitsOf_4 ar (f_x_bitsOf_4 ar m) _ (nI i) st = _
      unfold b_x_bitsOf_4
      rw [if_neg (n16 (by omega)), if_pos (inb_nI (show i < 16 by omega) (by omega)), cl_nI (by omega), x_bitCount_eq (fun b h3 h4 => hr.hi (by omega) (by omega) h4)]
      simp only [Option.bind_some, lt_eq]
      have e : fb_ct (bt (st.1 ar i)) 17 = fb_ct (fun k => c (16 * i + k)) 16 := by
        rw [fb_ct_succ, hr.hi (by omega) (by omega) (by omega)]
        exact fb_ct_cong (fun b hb => hr.lo (by omega) hb)
      rw [nI_1, nI_add, e, ← fb_ct_split, show 16 * i + 16 = 16 * (i + 1) by omega]
      exact ih (i + 1) m (by omega) (by omega)
  exact key 16 0 1000000 (by omega) (by omega)
