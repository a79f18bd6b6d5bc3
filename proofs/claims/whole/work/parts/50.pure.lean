/-! pure level: what a function over the memory answers -/
def Ok {α : Type} (x : Option α) (P : α → Prop) : Prop := ∃ q, x = some q ∧ P q
theorem ok_some {α : Type} {a : α} {P : α → Prop} (h : P a) : Ok (some a) P := ⟨a, rfl, h⟩
theorem ok_bind {α β : Type} {x : Option α} {f : α → Option β} {P : β → Prop} (h : Ok x (fun q => Ok (f q) P)) : Ok (x.bind f) P := by
  obtain ⟨q, rfl, h2⟩ := h
  exact h2
theorem ok_if {α : Type} {c : Prop} [Decidable c] {a b : Option α} {P : α → Prop} (h1 : c → Ok a P) (h2 : ¬ c → Ok b P) : Ok (if c then a else b) P := by
  by_cases h : c
  · rw [if_pos h]; exact h1 h
  · rw [if_neg h]; exact h2 h
theorem ok_t {α : Type} {c : Prop} [Decidable c] {a b : Option α} {P : α → Prop} (h : c) (h1 : Ok a P) : Ok (if c then a else b) P := by rw [if_pos h]; exact h1
theorem ok_f {α : Type} {c : Prop} [Decidable c] {a b : Option α} {P : α → Prop} (h : ¬ c) (h1 : Ok b P) : Ok (if c then a else b) P := by rw [if_neg h]; exact h1
theorem ok_lt {α β : Type} {e : α} {b : α → Option β} {P : β → Prop} (h : Ok (b e) P) : Ok (lt_ e b) P := h
theorem ok_eq {α : Type} {x : Option α} {a : α} {P : α → Prop} (e : x = some a) (h : P a) : Ok x P := ⟨a, e, h⟩
theorem ok_mono {α : Type} {x : Option α} {P Q : α → Prop} (h : Ok x P) (hPQ : ∀ q, P q → Q q) : Ok x Q := by
  obtain ⟨q, e, h2⟩ := h
  exact ⟨q, e, hPQ q h2⟩
theorem ok_up {α β : Type} (F : Nat → Int32 → α → Option β) (I : Nat → α → Prop) (P : β → Prop) (N : Nat)
    (hs : ∀ n i a, i < N → I i a → (∀ a2, I (i + 1) a2 → Ok (F n (nI (i + 1)) a2) P) → Ok (F (n + 1) (nI i) a) P)
    (hx : ∀ n a, I N a → Ok (F (n + 1) (nI N) a) P) : ∀ n i a, i ≤ N → N + 1 ≤ n + i → I i a → Ok (F n (nI i) a) P := by
  intro n
  induction n with
  | zero => intro i a h1 h2; omega
  | succ n ih =>
    intro i a h1 h2 hI
    rcases Nat.lt_or_ge i N with h | h
    · exact hs n i a h hI (fun a2 h3 => ih (i + 1) a2 (by omega) (by omega) h3)
    · have e : i = N := by omega
      subst e
      exact hx n a hI
theorem ok_up0 {α β : Type} (F : Nat → Int32 → α → Option β) (I : Nat → α → Prop) (P : β → Prop) (N : Nat) (hN : N + 1 ≤ 1000000) {a : α} (h0 : I 0 a)
    (hs : ∀ n i a, i < N → I i a → (∀ a2, I (i + 1) a2 → Ok (F n (nI (i + 1)) a2) P) → Ok (F (n + 1) (nI i) a) P)
    (hx : ∀ n a, I N a → Ok (F (n + 1) (nI N) a) P) : Ok (F 1000000 0 a) P := ok_up F I P N hs hx 1000000 0 a (Nat.zero_le _) hN h0
theorem sI_at (st : Mm) (c j : Nat) (v : Int32) (a b : Nat) : (sI st c j v).1 a b = if a = c ∧ b = j then v else st.1 a b := by
  simp only [sI, sR]
  by_cases h : a = c
  · subst h
    simp only [if_true, true_and, upd]
  · simp [h]
theorem sI_self (st : Mm) (c j : Nat) (v : Int32) : (sI st c j v).1 c j = v := by rw [sI_at]; simp
theorem sI_col (st : Mm) (c j : Nat) (v : Int32) {b : Nat} (h : b ≠ j) : (sI st c j v).1 c b = st.1 c b := by rw [sI_at]; simp [h]
theorem sI_row (st : Mm) (c j : Nat) (v : Int32) {a : Nat} (h : a ≠ c) : (sI st c j v).1 a = st.1 a := by simp [sI, sR, h]
theorem sI_own (st : Mm) (c j : Nat) (v : Int32) : (sI st c j v).1 c = upd (st.1 c) j v := by simp [sI, sR]
theorem sI_l (st : Mm) (c j : Nat) (v : Int32) : (sI st c j v).2 = st.2 := rfl
theorem sR_own (st : Mm) (c : Nat) (f : Nat → Int32) : (sR st c f).1 c = f := by simp [sR]
theorem sR_row (st : Mm) (c : Nat) (f : Nat → Int32) {a : Nat} (h : a ≠ c) : (sR st c f).1 a = st.1 a := by simp [sR, h]
theorem sL_l (st : Mm) (c j : Nat) (v : Int64) : (sL st c j v).1 = st.1 := rfl
theorem upd_at (f : Nat → Int32) (j : Nat) (v : Int32) (b : Nat) : upd f j v b = if b = j then v else f b := rfl
theorem i_lt (a b : Int32) : a < b ↔ a.toInt < b.toInt := fa_lt a b
theorem i_le (a b : Int32) : a ≤ b ↔ a.toInt ≤ b.toInt := fa_le a b
theorem i_eq (a b : Int32) : a = b ↔ a.toInt = b.toInt := fa_eq a b
theorem nI_T {n : Nat} (h : n < 2147483648) : (nI n).toInt = (n : Int) := nI_toInt h
/-- an index that is told as a number -/
theorem inb_nI {k N : Nat} (h : k < N) (hN : N < 2147483648) : inb (nI k) N := by
  show 0 ≤ (nI k).toInt ∧ (nI k).toInt < (N : Int)
  rw [nI_T (by omega)]; omega
theorem cl_nI {k : Nat} (h : k < 2147483648) : (nI k).toNatClampNeg = k := nI_clamp h
theorem i_lit (n : Nat) : (OfNat.ofNat n : Int32) = nI n := fa_lit n
/-- a number of the machine that isn't below 0 is a number -/
theorem i_nat {x : Int32} (h : 0 ≤ x.toInt) : ∃ k : Nat, k < 2147483648 ∧ x = nI k := by
  obtain ⟨j, h1, h2⟩ := nI_of (x := x) (by rw [i_lt]; show ¬ x.toInt < 0; omega)
  exact ⟨j, h1, h2⟩
theorem i_natLt {x : Int32} {N : Nat} (h : 0 ≤ x.toInt) (h2 : x.toInt < N) : ∃ k : Nat, k < N ∧ x = nI k := by
  obtain ⟨j, h1, rfl⟩ := i_nat h
  rw [nI_T h1] at h2
  exact ⟨j, by omega, rfl⟩
/-- where two memories are the same but for the cells told -/
def inL (L : List (Nat × Option Nat)) (c j : Nat) : Bool := L.any (fun e => e.1 == c && (match e.2 with
  | none => true
  | some k => k == j))
def Fr (L : List (Nat × Option Nat)) (st st2 : Mm) : Prop := ∀ c j, inL L c j = false → st2.1 c j = st.1 c j
theorem Fr.rf {L : List (Nat × Option Nat)} {st : Mm} : Fr L st st := fun _ _ _ => rfl
theorem Fr.tr {L : List (Nat × Option Nat)} {a b c : Mm} (h1 : Fr L a b) (h2 : Fr L b c) : Fr L a c := fun x y h => (h2 x y h).trans (h1 x y h)
theorem Fr.sI {L : List (Nat × Option Nat)} {a st : Mm} {c j : Nat} {v : Int32} (h : Fr L a st) (hc : inL L c j = true) : Fr L a (sI st c j v) := fun x y hx => by
  rw [sI_at]
  rw [if_neg]
  · exact h x y hx
  · rintro ⟨rfl, rfl⟩
    rw [hc] at hx; cases hx
theorem inL_row {L : List (Nat × Option Nat)} {c : Nat} (h : L.any (fun e => e.1 == c && e.2.isNone) = true) (j : Nat) : inL L c j = true := by
  obtain ⟨e, he, h2⟩ := List.any_eq_true.mp h
  refine List.any_eq_true.mpr ⟨e, he, ?_⟩
  obtain ⟨c1, o⟩ := e
  cases o with
  | none => simpa using h2
  | some k => simp at h2
theorem Fr.wk {L M : List (Nat × Option Nat)} {a b : Mm} (h : Fr L a b) (hs : L.all (fun e => M.any (fun f => f.1 == e.1 && (f.2.isNone || f.2 == e.2))) = true) : Fr M a b := fun c j hc => by
  refine h c j ?_
  cases hL : inL L c j with
  | false => rfl
  | true =>
    obtain ⟨e, he, h2⟩ := List.any_eq_true.mp hL
    obtain ⟨f, hf, h3⟩ := List.any_eq_true.mp (List.all_eq_true.mp hs e he)
    have : inL M c j = true := by
      refine List.any_eq_true.mpr ⟨f, hf, ?_⟩
      obtain ⟨e1, e2⟩ := e
      obtain ⟨f1, f2⟩ := f
      simp only [Bool.and_eq_true, beq_iff_eq, Bool.or_eq_true] at h2 h3 ⊢
      refine ⟨h3.1.trans h2.1, ?_⟩
      cases f2 with
      | none => rfl
      | some k =>
        rcases h3.2 with h4 | h4
        · cases h4
        · subst h4
          exact h2.2
    rw [this] at hc; cases hc
