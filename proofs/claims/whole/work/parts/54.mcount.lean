theorem n256 {i : Nat} (h : i < 256) : ¬ (256 : Int32) ≤ nI i := show ¬ nI 256 ≤ nI i by rw [nI_leI (by omega) (by omega)]; omega
theorem n16 {i : Nat} (h : i < 16) : ¬ (16 : Int32) ≤ nI i := show ¬ nI 16 ≤ nI i by rw [nI_leI (by omega) (by omega)]; omega
theorem d16 {i : Nat} (h : i < 65536) : nI i / (16 : Int32) = nI (i / 16) := pk_div (a := i) (d := 16) (by omega) (by omega) (by omega)
theorem r16 {i : Nat} (h : i < 65536) : nI i - nI i / (16 : Int32) * (16 : Int32) = nI (i % 16) := pk_rem (a := i) (d := 16) (by omega) (by omega) (by omega)
theorem cnt_eq {F : Nat → Int32 → Int32 → Mm → Option (Int32 × Mm)} {st : Mm} {p : Nat → Bool} {N : Nat} (hs : ∀ n a i, i < N → F (n + 1) (nI a) (nI i) st = F n (nI (a + if p i then 1 else 0)) (nI (i + 1)) st) (he : ∀ n a, F (n + 1) (nI a) (nI N) st = some (nI a, st)) : ∀ r i n, i + r = N → r + 1 ≤ n → F n (nI (fb_ct p i)) (nI i) st = some (nI (fb_ct p N), st) := by
  intro r
  induction r with
  | zero =>
    intro i n h1 h2
    obtain ⟨m, rfl⟩ := nat_suc h2
    have e : i = N := by omega
    subst e
    exact he m _
  | succ r ih =>
    intro i n h1 h2
    obtain ⟨m, rfl⟩ := nat_suc h2
    rw [hs m _ i (by omega), ← fb_ct_succ]
    exact ih (i + 1) m (by omega) (by omega)
theorem cnt_eq0 {F : Nat → Int32 → Int32 → Mm → Option (Int32 × Mm)} {st : Mm} {p : Nat → Bool} {N : Nat} (hN : N < 999999) (hs : ∀ n a i, i < N → F (n + 1) (nI a) (nI i) st = F n (nI (a + if p i then 1 else 0)) (nI (i + 1)) st) (he : ∀ n a, F (n + 1) (nI a) (nI N) st = some (nI a, st)) : F 1000000 0 0 st = some (nI (fb_ct p N), st) := cnt_eq hs he N 0 1000000 (by omega) (by omega)
theorem nI_z (a : Nat) : nI a + 0 = nI (a + 0) := nI_add a 0
theorem m_cutMany_eq {st : Mm} {c : Nat → Bool} (hc : ∀ k, k < 256 → st.1 61 k = bI (c k)) : f_m_cutMany st = some (nI (fb_ct c 256), st) := by
  unfold f_m_cutMany
  refine cnt_eq0 (by omega) ?_ ?_
  · intro n a i hi
    show b_m_cutMany_4 (f_m_cutMany_4 n) (nI a) (nI i) st = _
    unfold b_m_cutMany_4
    rw [if_neg (n256 hi), if_pos (inb_nI hi (by omega)), cl_nI (by omega), hc i hi, nI_1]
    cases c i
    · rw [if_pos (show bI false = 0 from rfl)]; unfold lt_; rw [nI_z]; rfl
    · rw [if_neg (show ¬ bI true = 0 by decide)]; unfold lt_; rw [nI_1]; rfl
  · intro n a
    show b_m_cutMany_4 (f_m_cutMany_4 n) (nI a) (nI 256) st = _
    unfold b_m_cutMany_4
    exact if_pos (by decide)
theorem m_paperMany_eq {st : Mm} {c : Nat → Bool} (hc : ∀ k, k < 256 → st.1 72 k = bI (c k)) : f_m_paperMany st = some (nI (fb_ct c 256), st) := by
  unfold f_m_paperMany
  refine cnt_eq0 (by omega) ?_ ?_
  · intro n a i hi
    show b_m_paperMany_4 (f_m_paperMany_4 n) (nI a) (nI i) st = _
    unfold b_m_paperMany_4
    rw [if_neg (n256 hi), if_pos (inb_nI hi (by omega)), cl_nI (by omega), hc i hi, nI_1]
    cases c i
    · rw [if_pos (show bI false = 0 from rfl)]; unfold lt_; rw [nI_z]; rfl
    · rw [if_neg (show ¬ bI true = 0 by decide)]; unfold lt_; rw [nI_1]; rfl
  · intro n a
    show b_m_paperMany_4 (f_m_paperMany_4 n) (nI a) (nI 256) st = _
    unfold b_m_paperMany_4
    exact if_pos (by decide)
theorem m_deerMany_eq {st : Mm} {c : Nat → Bool} (hc : ∀ k, k < 256 → st.1 62 k = bI (c k)) : f_m_deerMany st = some (nI (fb_ct c 256), st) := by
  unfold f_m_deerMany
  refine cnt_eq0 (by omega) ?_ ?_
  · intro n a i hi
    show b_m_deerMany_4 (f_m_deerMany_4 n) (nI a) (nI i) st = _
    unfold b_m_deerMany_4
    rw [if_neg (n256 hi), if_pos (inb_nI hi (by omega)), cl_nI (by omega), hc i hi, nI_1]
    cases c i
    · rw [if_pos (show bI false = 0 from rfl)]; unfold lt_; rw [nI_z]; rfl
    · rw [if_neg (show ¬ bI true = 0 by decide)]; unfold lt_; rw [nI_1]; rfl
  · intro n a
    show b_m_deerMany_4 (f_m_deerMany_4 n) (nI a) (nI 256) st = _
    unfold b_m_deerMany_4
    exact if_pos (by decide)
theorem m_wantsCutMany_eq {st : Mm} {c : Nat → Bool} (hc : ∀ k, k < 256 → st.1 78 k = bI (c k)) : f_m_wantsCutMany st = some (nI (fb_ct c 256), st) := by
  unfold f_m_wantsCutMany
  refine cnt_eq0 (by omega) ?_ ?_
  · intro n a i hi
    show b_m_wantsCutMany_4 (f_m_wantsCutMany_4 n) (nI a) (nI i) st = _
    unfold b_m_wantsCutMany_4
    rw [if_neg (n256 hi), if_pos (inb_nI hi (by omega)), cl_nI (by omega), hc i hi, nI_1]
    cases c i
    · rw [if_pos (show bI false = 0 from rfl)]; unfold lt_; rw [nI_z]; rfl
    · rw [if_neg (show ¬ bI true = 0 by decide)]; unfold lt_; rw [nI_1]; rfl
  · intro n a
    show b_m_wantsCutMany_4 (f_m_wantsCutMany_4 n) (nI a) (nI 256) st = _
    unfold b_m_wantsCutMany_4
    exact if_pos (by decide)
/-- a place of the wedge -/
def isP (v : Wd) (x y : Nat) : Bool := decide (x < v.1) && (decide (y < v.2.1) && (decide (v.2.2 = 0) || decide (y ≤ x)))
def isPI (v : Wd) (x y : Int) : Bool := decide (0 ≤ x) && (decide (x < v.1) && (decide (0 ≤ y) && (decide (y < v.2.1) && (decide (v.2.2 = 0) || decide (y ≤ x)))))
theorem isPI_nat (v : Wd) (x y : Nat) : isPI v x y = isP v x y := by
  unfold isPI isP
  simp
theorem m_isPlace_gen {st : Mm} {v : Wd} (hv : mW st v) (h1 : v.1 ≤ 16) (h2 : v.2.1 ≤ 16) (h3 : v.2.2 ≤ 1) (x y : Int32) : f_m_isPlace x y st = some (bI (isPI v x.toInt y.toInt), st) := by
  obtain ⟨W, H, b⟩ := v
  obtain ⟨e1, e2, e3⟩ := hv
  simp only at e1 e2 e3 h1 h2 h3
  unfold f_m_isPlace isPI
  rw [e1, e2, e3]
  simp only [i_lt, i_le, i_z, i_eq (nI b) 0, nI_T (show W < 2147483648 by omega), nI_T (show H < 2147483648 by omega), nI_T (show b < 2147483648 by omega)]
  repeat' split
  all_goals (simp only [Option.some.injEq, Prod.mk.injEq, and_true])
  all_goals first | (rw [decide_eq_true (show 0 ≤ x.toInt by omega), decide_eq_true (show x.toInt < W by omega), decide_eq_true (show 0 ≤ y.toInt by omega), decide_eq_true (show y.toInt < H by omega), decide_eq_true (show b = 0 by omega)]; rfl) | (rw [decide_eq_true (show 0 ≤ x.toInt by omega), decide_eq_true (show x.toInt < W by omega), decide_eq_true (show 0 ≤ y.toInt by omega), decide_eq_true (show y.toInt < H by omega), decide_eq_false (show ¬ b = 0 by omega), decide_eq_false (show ¬ y.toInt ≤ x.toInt by omega)]; rfl) | (rw [decide_eq_true (show 0 ≤ x.toInt by omega), decide_eq_true (show x.toInt < W by omega), decide_eq_true (show 0 ≤ y.toInt by omega), decide_eq_true (show y.toInt < H by omega), decide_eq_false (show ¬ b = 0 by omega), decide_eq_true (show y.toInt ≤ x.toInt by omega)]; rfl) | (rw [decide_eq_false (show ¬ 0 ≤ x.toInt by omega)]; rfl) | (rw [decide_eq_true (show 0 ≤ x.toInt by omega), decide_eq_false (show ¬ x.toInt < W by omega)]; rfl) | (rw [decide_eq_true (show 0 ≤ x.toInt by omega), decide_eq_true (show x.toInt < W by omega), decide_eq_false (show ¬ 0 ≤ y.toInt by omega)]; rfl) | (rw [decide_eq_true (show 0 ≤ x.toInt by omega), decide_eq_true (show x.toInt < W by omega), decide_eq_true (show 0 ≤ y.toInt by omega), decide_eq_false (show ¬ y.toInt < H by omega)]; rfl)
theorem m_isPlace_eq {st : Mm} {v : Wd} (hv : mW st v) (h1 : v.1 ≤ 16) (h2 : v.2.1 ≤ 16) (h3 : v.2.2 ≤ 1) {x y : Nat} (hx : x < 65536) (hy : y < 65536) : f_m_isPlace (nI x) (nI y) st = some (bI (isP v x y), st) := by
  rw [m_isPlace_gen hv h1 h2 h3, nI_T (by omega), nI_T (by omega), isPI_nat]
theorem m_placeMany_eq {st : Mm} {v : Wd} (hv : mW st v) (h1 : v.1 ≤ 16) (h2 : v.2.1 ≤ 16) (h3 : v.2.2 ≤ 1) : f_m_placeMany st = some (nI (fb_ct (fun k => isP v (k % 16) (k / 16)) 256), st) := by
  unfold f_m_placeMany
  refine cnt_eq0 (by omega) ?_ ?_
  · intro n a i hi
    show b_m_placeMany_4 (f_m_placeMany_4 n) (nI a) (nI i) st = _
    unfold b_m_placeMany_4
    have e1 : nI i / (16 : Int32) = nI (i / 16) := pk_div (a := i) (d := 16) (by omega) (by omega) (by omega)
    have e2 : nI i - nI i / (16 : Int32) * (16 : Int32) = nI (i % 16) := pk_rem (a := i) (d := 16) (by omega) (by omega) (by omega)
    rw [if_neg (n256 hi), e2, e1, m_isPlace_eq hv h1 h2 h3 (by omega) (by omega), nI_1]
    simp only [Option.bind_some]
    cases isP v (i % 16) (i / 16)
    · rw [if_pos (show bI false = 0 from rfl)]; unfold lt_; rw [nI_z]; rfl
    · rw [if_neg (show ¬ bI true = 0 by decide)]; unfold lt_; rw [nI_1]; rfl
  · intro n a
    show b_m_placeMany_4 (f_m_placeMany_4 n) (nI a) (nI 256) st = _
    unfold b_m_placeMany_4
    exact if_pos (by decide)
