/-! rows of bits, the class's side -/
theorem okc_le {α : Type} {x y : Int32} {a b : Option α} {P : α → Prop} (i j : Nat) (h1 : i ≤ j → Ok a P) (h2 : j < i → Ok b P) (hx : x = nI i := by rfl) (hy : y = nI j := by rfl) (hi : i < 2 ^ 31 := by omega) (hj : j < 2 ^ 31 := by omega) : Ok (if x ≤ y then a else b) P :=
  ok_if (pk_le i j h1 h2 hx hy hi hj).1 (pk_le i j h1 h2 hx hy hi hj).2
theorem okc_lt {α : Type} {x y : Int32} {a b : Option α} {P : α → Prop} (i j : Nat) (h1 : i < j → Ok a P) (h2 : j ≤ i → Ok b P) (hx : x = nI i := by rfl) (hy : y = nI j := by rfl) (hi : i < 2 ^ 31 := by omega) (hj : j < 2 ^ 31 := by omega) : Ok (if x < y then a else b) P :=
  ok_if (pk_lt i j h1 h2 hx hy hi hj).1 (pk_lt i j h1 h2 hx hy hi hj).2
theorem okc_eq {α : Type} {x y : Int32} {a b : Option α} {P : α → Prop} (i j : Nat) (h1 : i = j → Ok a P) (h2 : i ≠ j → Ok b P) (hx : x = nI i := by rfl) (hy : y = nI j := by rfl) (hi : i < 2 ^ 31 := by omega) (hj : j < 2 ^ 31 := by omega) : Ok (if x = y then a else b) P :=
  ok_if (pk_eq i j h1 h2 hx hy hi hj).1 (pk_eq i j h1 h2 hx hy hi hj).2
theorem okc_b {α : Type} {x : Int32} {a b : Option α} {P : α → Prop} (z : Bool) (h1 : z = false → Ok a P) (h2 : z = true → Ok b P) (hx : x = bI z := by rfl) : Ok (if x = 0 then a else b) P := by
  subst hx
  cases z with
  | false => exact ok_t rfl (h1 rfl)
  | true => exact ok_f (by decide) (h2 rfl)
theorem ok_upF {α β : Type} (F : Nat → Int32 → α → Option β) (I : Nat → α → Prop) (P : β → Prop) (N : Nat) {fu : Nat} (hN : N + 1 ≤ fu) {a : α} (h0 : I 0 a)
    (hs : ∀ n i a, i < N → I i a → (∀ a2, I (i + 1) a2 → Ok (F n (nI (i + 1)) a2) P) → Ok (F (n + 1) (nI i) a) P)
    (hx : ∀ n a, I N a → Ok (F (n + 1) (nI N) a) P) : Ok (F fu 0 a) P := ok_up F I P N hs hx fu 0 a (Nat.zero_le _) hN h0
/-- counting down to -1 -/
theorem ok_dn {α β : Type} (F : Nat → Int32 → α → Option β) (I : Nat → α → Prop) (P : β → Prop)
    (hs : ∀ n i a, I (i + 1) a → (∀ a2, I i a2 → Ok (F n (nI i - 1) a2) P) → Ok (F (n + 1) (nI i) a) P)
    (hx : ∀ n a, I 0 a → Ok (F (n + 1) (-1) a) P) : ∀ i n a, i + 2 ≤ n → I (i + 1) a → Ok (F n (nI i) a) P := by
  intro i
  induction i with
  | zero =>
    intro n a hn h
    obtain ⟨m, rfl⟩ := nat_suc (show 0 + 1 ≤ n by omega)
    refine hs m 0 a h (fun a2 h2 => ?_)
    obtain ⟨k, rfl⟩ := nat_suc (show 0 + 1 ≤ m by omega)
    exact hx k a2 h2
  | succ i ih =>
    intro n a hn h
    obtain ⟨m, rfl⟩ := nat_suc (show 0 + 1 ≤ n by omega)
    refine hs m (i + 1) a h (fun a2 h2 => ?_)
    rw [nI_pred]
    exact ih m a2 (by omega) h2
def Rw (f : Nat → Int32) (c : Nat → Bool) : Prop := ∀ y, y < 16 → ∀ b, b < 32 → bt (f y) b = (decide (b < 16) && c (16 * y + b))
theorem sh4 {k : Nat} (h : k < 65536) : nI k >>> ((4 : Int32) &&& 31) = nI (k / 16) := pk_shrN (by omega) _ 4 (by decide)
theorem sh1 {k : Nat} (h : k < 65536) : nI k >>> ((1 : Int32) &&& 31) = nI (k / 2) := pk_shrN (by omega) _ 1 (by decide)
theorem an15 {k : Nat} (h : k < 65536) : nI k &&& (15 : Int32) = nI (k % 16) := pk_andN (by omega) 4 (by decide)
theorem an1 {k : Nat} (h : k < 65536) : nI k &&& (1 : Int32) = nI (k % 2) := pk_andN (by omega) 1 (by decide)
theorem x_hasBit_eq {st : Mm} {ar : Nat} {c : Nat → Bool} (hr : Rw (st.1 ar) c) {k : Nat} (hk : k < 256) : f_x_hasBit ar (nI k) st = some (bI (c k), st) := by
  unfold f_x_hasBit
  rw [if_neg (nI_pos (by omega)), if_neg (n256 hk), sh4 (by omega), if_pos (inb_nI (show k / 16 < 16 by omega) (by omega)), cl_nI (by omega), an15 (by omega), bit_of (show k % 16 < 32 by omega), hr (k / 16) (by omega) (k % 16) (by omega)]
  have e : 16 * (k / 16) + k % 16 = k := by omega
  rw [e, decide_eq_true (show k % 16 < 16 by omega), Bool.true_and]
  cases c k <;> rfl
theorem x_hasBit_no (st : Mm) (ar : Nat) {x : Int32} (h : x < 0) : f_x_hasBit ar x st = some (bI false, st) := by
  unfold f_x_hasBit
  rw [if_pos h]; rfl
theorem bt_nat (x : Int32) (i : Nat) : bt x i = x.toBitVec.toNat.testBit i := rfl
theorem bt_nI {k : Nat} (h : k < 2 ^ 32) (i : Nat) : bt (nI k) i = k.testBit i := by
  rw [bt_nat, pk_tn h]
/-- a row as a number -/
theorem row_nat (x : Int32) (m : Nat) (h : ∀ b, m ≤ b → b < 32 → bt x b = false) : ∃ k, k < 2 ^ m ∧ x = nI k ∧ k < 2 ^ 32 ∧ ∀ b, k.testBit b = bt x b := by
  refine ⟨x.toBitVec.toNat, ?_, ?_, x.toBitVec.isLt, fun b => rfl⟩
  · refine Nat.lt_pow_two_of_testBit _ (fun i hi => ?_)
    rcases Nat.lt_or_ge i 32 with h2 | h2
    · exact h i hi h2
    · exact b_big h2
  · refine Int32.toBitVec_inj.mp (BitVec.eq_of_toNat_eq ?_)
    rw [pk_tn x.toBitVec.isLt]
def chkR (f : Nat → Bool) : Nat → Nat → Bool
  | 0, b => f b
  | d + 1, b => chkR f d b && chkR f d (b + 2 ^ d)
theorem chkR_ok (f : Nat → Bool) : ∀ d b, chkR f d b = true → ∀ k, k < 2 ^ d → f (b + k) = true := by
  intro d
  induction d with
  | zero => intro b h k hk; have : k = 0 := by omega
            subst this; exact h
  | succ d ih =>
    intro b h k hk
    rw [chkR, Bool.and_eq_true] at h
    rcases Nat.lt_or_ge k (2 ^ d) with h2 | h2
    · exact ih b h.1 k h2
    · have := ih (b + 2 ^ d) h.2 (k - 2 ^ d) (by rw [Nat.pow_succ] at hk; omega)
      rw [show b + 2 ^ d + (k - 2 ^ d) = b + k by omega] at this
      exact this
def sw1 (x : Nat) : Nat := x - ((x / 2) &&& 1431655765)
def sw2 (x : Nat) : Nat := (x &&& 858993459) + ((x / 4) &&& 858993459)
def sw3 (x : Nat) : Nat := (x + x / 16) &&& 252645135
def sw4 (x : Nat) : Nat := x + x / 256
def sw5 (x : Nat) : Nat := x + x / 65536
def swar (x : Nat) : Nat := sw5 (sw4 (sw3 (sw2 (sw1 x)))) &&& 63
theorem swar_chk : chkR (fun k => swar (2 * k) == swar k && swar (2 * k + 1) == swar k + 1) 16 0 = true := by decide +kernel
