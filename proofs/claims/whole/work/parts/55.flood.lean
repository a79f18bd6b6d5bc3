/-- the cell beside a cell, on one of four sides -/
def nbr (n k j : Nat) : Option Nat :=
  if j = 0 then (if k % 16 + 1 < n then some (k + 1) else none)
  else if j = 1 then (if 1 ≤ k % 16 then some (k - 1) else none)
  else if j = 2 then (if k / 16 + 1 < n then some (k + 16) else none)
  else (if 1 ≤ k / 16 then some (k - 16) else none)
def isC (n k : Nat) : Prop := k < 256 ∧ k % 16 < n ∧ k / 16 < n
def oI (o : Option Nat) : Int32 := match o with
  | none => -1
  | some c => nI c
theorem nbr_C {n k j c : Nat} (hn : n ≤ 16) (hk : isC n k) (h : nbr n k j = some c) : isC n c := by
  obtain ⟨h1, h2, h3⟩ := hk
  unfold nbr at h
  repeat' split at h
  all_goals first | (cases h; done) | (cases h; refine ⟨?_, ?_, ?_⟩ <;> omega)
theorem i_m1 : (-1 : Int32).toInt = -1 := rfl
theorem lt_eq {α β : Type} (e : α) (b : α → β) : lt_ e b = b e := rfl
theorem nI_pm1 {z : Nat} (hz : z < 100) : (nI z + (-1 : Int32)).toInt = (z : Int) - 1 := by
  rw [fb_addI (by rw [nI_T (by omega), i_m1]; omega) (by rw [nI_T (by omega), i_m1]; omega), nI_T (by omega), i_m1]
  omega
theorem nI_pm2 {z : Nat} (hz : 1 ≤ z) : nI z + (-1 : Int32) = nI (z - 1) := by
  obtain ⟨w, rfl⟩ := nat_suc hz
  exact pk_m1 w
theorem nI_p0 (z : Nat) : nI z + (0 : Int32) = nI z := nI_z z
theorem m_beside_key {st : Mm} {n : Nat} (hn : st.1 58 0 = nI n) (hn2 : n ≤ 16) : ∀ (a b : Int32) (x y : Nat) (o : Option Nat), (o = none → ¬ (0 ≤ a.toInt ∧ a.toInt < n ∧ 0 ≤ b.toInt ∧ b.toInt < n)) → (∀ c, o = some c → a = nI x ∧ b = nI y ∧ x < n ∧ y < n ∧ c = 16 * y + x) → ((f_m_isCell a b st).bind (fun q2 => if q2.1 = 0 then (some ((-1 : Int32), q2.2)) else (some ((((16 : Int32) * b) + a), q2.2)))) = some (oI o, st) := by
  intro a b x y o ho hs
  rw [m_isCell_gen hn hn2]
  simp only [Option.bind_some]
  cases o with
  | none =>
    rw [decide_eq_false (ho rfl)]
    rfl
  | some c =>
    obtain ⟨rfl, rfl, hx, hy, rfl⟩ := hs c rfl
    rw [nI_T (by omega), nI_T (by omega), decide_eq_true (by omega), if_neg (show ¬ bI true = 0 by decide)]
    have e : (16 : Int32) * nI y + nI x = nI (16 * y + x) := by
      rw [show (16 : Int32) = nI 16 from rfl, pk_mul, nI_add]
    simp only [e, oI]
theorem m_beside_0 {st : Mm} {n k : Nat} (hn : st.1 58 0 = nI n) (hn2 : n ≤ 16) (h1 : k < 256) (h2 : k % 16 < n) (h3 : k / 16 < n) : f_m_beside (nI k) (nI 0) st = some (oI (nbr n k 0), st) := by
  have hN : nbr n k 0 = if k % 16 + 1 < n then some (k + 1) else none := by simp [nbr]
  unfold f_m_beside
  rw [r16 (show k < 65536 by omega)]
  rw [if_pos (show nI 0 = (0 : Int32) from rfl)]
  unfold b_m_beside_22
  rw [lt_eq]
  rw [d16 (show k < 65536 by omega)]
  rw [if_neg (show ¬ nI 0 = (2 : Int32) by decide), if_neg (show ¬ nI 0 = (3 : Int32) by decide)]
  unfold b_m_beside_47
  rw [lt_eq]
  refine m_beside_key hn hn2 _ _ (k % 16 + 1) (k / 16) _ ?_ ?_
  · intro ho
    rw [hN] at ho
    rw [nI_1, nI_T (by omega), nI_p0, nI_T (by omega)]
    split at ho
    · cases ho
    · omega
  · intro c hc
    rw [hN] at hc
    split at hc
    · cases hc
      exact ⟨nI_1 _, nI_p0 _, by omega, by omega, by omega⟩
    · cases hc
theorem m_beside_1 {st : Mm} {n k : Nat} (hn : st.1 58 0 = nI n) (hn2 : n ≤ 16) (h1 : k < 256) (h2 : k % 16 < n) (h3 : k / 16 < n) : f_m_beside (nI k) (nI 1) st = some (oI (nbr n k 1), st) := by
  have hN : nbr n k 1 = if 1 ≤ k % 16 then some (k - 1) else none := by simp [nbr]
  unfold f_m_beside
  rw [r16 (show k < 65536 by omega)]
  rw [if_neg (show ¬ nI 1 = (0 : Int32) by decide), if_pos (show nI 1 = (1 : Int32) from rfl)]
  unfold b_m_beside_22
  rw [lt_eq]
  rw [d16 (show k < 65536 by omega)]
  rw [if_neg (show ¬ nI 1 = (2 : Int32) by decide), if_neg (show ¬ nI 1 = (3 : Int32) by decide)]
  unfold b_m_beside_47
  rw [lt_eq]
  refine m_beside_key hn hn2 _ _ (k % 16 - 1) (k / 16) _ ?_ ?_
  · intro ho
    rw [hN] at ho
    rw [nI_pm1 (by omega), nI_p0, nI_T (by omega)]
    split at ho
    · cases ho
    · omega
  · intro c hc
    rw [hN] at hc
    split at hc
    · cases hc
      exact ⟨nI_pm2 (by omega), nI_p0 _, by omega, by omega, by omega⟩
    · cases hc
theorem m_beside_2 {st : Mm} {n k : Nat} (hn : st.1 58 0 = nI n) (hn2 : n ≤ 16) (h1 : k < 256) (h2 : k % 16 < n) (h3 : k / 16 < n) : f_m_beside (nI k) (nI 2) st = some (oI (nbr n k 2), st) := by
  have hN : nbr n k 2 = if k / 16 + 1 < n then some (k + 16) else none := by simp [nbr]
  unfold f_m_beside
  rw [r16 (show k < 65536 by omega)]
  rw [if_neg (show ¬ nI 2 = (0 : Int32) by decide), if_neg (show ¬ nI 2 = (1 : Int32) by decide)]
  unfold b_m_beside_22
  rw [lt_eq]
  rw [d16 (show k < 65536 by omega)]
  rw [if_pos (show nI 2 = (2 : Int32) from rfl)]
  unfold b_m_beside_47
  rw [lt_eq]
  refine m_beside_key hn hn2 _ _ (k % 16) (k / 16 + 1) _ ?_ ?_
  · intro ho
    rw [hN] at ho
    rw [nI_p0, nI_T (by omega), nI_1, nI_T (by omega)]
    split at ho
    · cases ho
    · omega
  · intro c hc
    rw [hN] at hc
    split at hc
    · cases hc
      exact ⟨nI_p0 _, nI_1 _, by omega, by omega, by omega⟩
    · cases hc
theorem m_beside_3 {st : Mm} {n k : Nat} (hn : st.1 58 0 = nI n) (hn2 : n ≤ 16) (h1 : k < 256) (h2 : k % 16 < n) (h3 : k / 16 < n) : f_m_beside (nI k) (nI 3) st = some (oI (nbr n k 3), st) := by
  have hN : nbr n k 3 = if 1 ≤ k / 16 then some (k - 16) else none := by simp [nbr]
  unfold f_m_beside
  rw [r16 (show k < 65536 by omega)]
  rw [if_neg (show ¬ nI 3 = (0 : Int32) by decide), if_neg (show ¬ nI 3 = (1 : Int32) by decide)]
  unfold b_m_beside_22
  rw [lt_eq]
  rw [d16 (show k < 65536 by omega)]
  rw [if_neg (show ¬ nI 3 = (2 : Int32) by decide), if_pos (show nI 3 = (3 : Int32) from rfl)]
  unfold b_m_beside_47
  rw [lt_eq]
  refine m_beside_key hn hn2 _ _ (k % 16) (k / 16 - 1) _ ?_ ?_
  · intro ho
    rw [hN] at ho
    rw [nI_p0, nI_T (by omega), nI_pm1 (by omega)]
    split at ho
    · cases ho
    · omega
  · intro c hc
    rw [hN] at hc
    split at hc
    · cases hc
      exact ⟨nI_p0 _, nI_pm2 (by omega), by omega, by omega, by omega⟩
    · cases hc
theorem m_beside_eq {st : Mm} {n k j : Nat} (hn : st.1 58 0 = nI n) (hn2 : n ≤ 16) (hk : isC n k) (hj : j < 4) : f_m_beside (nI k) (nI j) st = some (oI (nbr n k j), st) := by
  obtain ⟨h1, h2, h3⟩ := hk
  rcases (show j = 0 ∨ j = 1 ∨ j = 2 ∨ j = 3 by omega) with rfl | rfl | rfl | rfl
  · exact m_beside_0 hn hn2 h1 h2 h3
  · exact m_beside_1 hn hn2 h1 h2 h3
  · exact m_beside_2 hn hn2 h1 h2 h3
  · exact m_beside_3 hn hn2 h1 h2 h3
