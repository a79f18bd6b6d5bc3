theorem fds_wh : ∀ (l : List Nat) (w v : Wd), fds l w = some v → (w.2.2 = 0 ∨ w.1 = w.2.1) → (v.2.2 = 0 ∨ v.1 = v.2.1) := by
  intro l
  induction l with
  | nil => intro w v h h2; cases h; exact h2
  | cons f l ih =>
    intro w v h h2
    simp only [fds] at h
    obtain ⟨u, h3, h4⟩ := Option.bind_eq_some_iff.mp h
    refine ih u v h4 ?_
    unfold fold1 at h3
    repeat' split at h3
    all_goals first | (cases h3; done) | (cases h3; simp_all)
theorem fds_cat : ∀ (a b : List Nat) (w : Wd), fds (a ++ b) w = (fds a w).bind (fds b) := by
  intro a
  induction a with
  | nil => intro b w; rfl
  | cons f a ih =>
    intro b w
    simp only [List.cons_append, fds]
    cases fold1 f w with
    | none => rfl
    | some u => exact ih b u
theorem fds_take {l : List Nat} {w v : Wd} (h : fds l w = some v) (i : Nat) : ∃ u, fds (l.take i) w = some u ∧ fds (l.drop i) u = some v := by
  rw [← List.take_append_drop i l, fds_cat] at h
  obtain ⟨u, h1, h2⟩ := Option.bind_eq_some_iff.mp h
  exact ⟨u, h1, h2⟩
theorem take_succ_getD {l : List Nat} {i : Nat} (h : i < l.length) : l.take (i + 1) = l.take i ++ [l.getD i 0] := by
  rw [List.take_succ, List.getElem?_eq_getElem h, List.getD_eq_getElem?_getD, List.getElem?_eq_getElem h]; rfl
/-- the place of a cell -/
def plO (sl : Nat → Nat) (l : List Nat) (n x y : Nat) : Option Nat := (cbs sl l 0 (x, y, n, n)).map (fun z => 16 * z.2.1 + z.1)
theorem x_holds_gen {st : Mm} {f0 f1 f2 : Nat} {v : Wd} (e1 : st.1 f0 1 = nI v.1) (e2 : st.1 f0 2 = nI v.2.1) (e3 : st.1 f0 3 = nI v.2.2) (h1 : v.1 ≤ 16) (h2 : v.2.1 ≤ 16) (h3 : v.2.2 ≤ 1) (x y : Int32) : f_Fold_holds f0 f1 f2 x y st = some (bI (isPI v x.toInt y.toInt), st) := by
  obtain ⟨W, H, b⟩ := v
  simp only at e1 e2 e3 h1 h2 h3
  unfold f_Fold_holds isPI
  rw [e1, e2, e3]
  simp only [i_lt, i_le, i_z, i_eq (nI b) 0, nI_T (show W < 2147483648 by omega), nI_T (show H < 2147483648 by omega), nI_T (show b < 2147483648 by omega)]
  repeat' split
  all_goals (simp only [Option.some.injEq, Prod.mk.injEq, and_true])
  all_goals first | (rw [decide_eq_true (show 0 ≤ x.toInt by omega), decide_eq_true (show x.toInt < W by omega), decide_eq_true (show 0 ≤ y.toInt by omega), decide_eq_true (show y.toInt < H by omega), decide_eq_true (show b = 0 by omega)]; rfl) | (rw [decide_eq_true (show 0 ≤ x.toInt by omega), decide_eq_true (show x.toInt < W by omega), decide_eq_true (show 0 ≤ y.toInt by omega), decide_eq_true (show y.toInt < H by omega), decide_eq_false (show ¬ b = 0 by omega), decide_eq_false (show ¬ y.toInt ≤ x.toInt by omega)]; rfl) | (rw [decide_eq_true (show 0 ≤ x.toInt by omega), decide_eq_true (show x.toInt < W by omega), decide_eq_true (show 0 ≤ y.toInt by omega), decide_eq_true (show y.toInt < H by omega), decide_eq_false (show ¬ b = 0 by omega), decide_eq_true (show y.toInt ≤ x.toInt by omega)]; rfl) | (rw [decide_eq_false (show ¬ 0 ≤ x.toInt by omega)]; rfl) | (rw [decide_eq_true (show 0 ≤ x.toInt by omega), decide_eq_false (show ¬ x.toInt < W by omega)]; rfl) | (rw [decide_eq_true (show 0 ≤ x.toInt by omega), decide_eq_true (show x.toInt < W by omega), decide_eq_false (show ¬ 0 ≤ y.toInt by omega)]; rfl) | (rw [decide_eq_true (show 0 ≤ x.toInt by omega), decide_eq_true (show x.toInt < W by omega), decide_eq_true (show 0 ≤ y.toInt by omega), decide_eq_false (show ¬ y.toInt < H by omega)]; rfl)
theorem FoS.b {st : Mm} {f0 f1 f2 n : Nat} {l : List Nat} {sl : Nat → Nat} {v : Wd} (h : FoS st f0 f1 f2 n l sl v) : v.1 ≤ 16 ∧ v.2.1 ≤ 16 ∧ v.2.2 ≤ 1 ∧ (v.2.2 = 0 ∨ v.1 = v.2.1) := by
  obtain ⟨_, _, _, _, _, hf, hn, _⟩ := h
  have a := fds_le l _ _ hf
  have b := fds_wh l _ _ hf (Or.inl rfl)
  simp only at a
  exact ⟨by omega, by omega, by omega, b⟩
theorem x_holds_eq {st : Mm} {f0 f1 f2 n : Nat} {l : List Nat} {sl : Nat → Nat} {v : Wd} (h : FoS st f0 f1 f2 n l sl v) (x y : Int32) : f_Fold_holds f0 f1 f2 x y st = some (bI (isPI v x.toInt y.toInt), st) :=
  x_holds_gen h.2.1 h.2.2.1 h.2.2.2.1 h.b.1 h.b.2.1 h.b.2.2.1 x y
theorem x_holds_nat {st : Mm} {f0 f1 f2 n : Nat} {l : List Nat} {sl : Nat → Nat} {v : Wd} (h : FoS st f0 f1 f2 n l sl v) {x y : Nat} (hx : x < 65536) (hy : y < 65536) : f_Fold_holds f0 f1 f2 (nI x) (nI y) st = some (bI (isP v x y), st) := by
  rw [x_holds_eq h, nI_T (by omega), nI_T (by omega), isPI_nat]
theorem x_place80 {st : Mm} {f0 f1 f2 n : Nat} {l : List Nat} {sl : Nat → Nat} {v : Wd} (h : FoS st f0 f1 f2 n l sl v) {a c : Nat} (hp : isP v a c = true) (ha : a < 65536) (hc : c < 65536) : b_Fold_placeOf_80 f0 f1 f2 (nI a) (nI c) st = some (nI (16 * c + a), st) := by
  unfold b_Fold_placeOf_80
  rw [x_holds_nat h ha hc, hp]
  simp only [Option.bind_some]
  rw [if_neg (show ¬ bI true = 0 by decide)]
  unfold f_x_cellAt
  simp only [Option.bind_some]
  rw [show (16 : Int32) = nI 16 from rfl, pk_mul, nI_add]
theorem x_placeOf_eq {st : Mm} {f0 f1 f2 n : Nat} {l : List Nat} {sl : Nat → Nat} {v : Wd} (h : FoS st f0 f1 f2 n l sl v) {x y : Nat} (hx : x < n) (hy : y < n) : f_Fold_placeOf f0 f1 f2 (nI x) (nI y) st = some (oI (plO sl l n x y), st) := by
  obtain ⟨e0, e1, e2, e3, e5, hfd, hn, ds, gx, gy, hds, e4, hgx, hgy, lx, ly, hcb⟩ := id h
  obtain ⟨b1, b2, b3, b4⟩ := h.b
  unfold f_Fold_placeOf plO
  rw [e0, if_neg (nI_pos (by omega)), if_neg (nI_ge hx (by omega)), if_neg (nI_pos (by omega)), if_pos (nI_lt hy (by omega)), if_pos (inb_nI (show x < 16 by omega) (by omega)), lt_eq, if_pos (inb_nI (show y < 16 by omega) (by omega)), lt_eq, cl_nI (by omega), cl_nI (by omega), hgx x hx, hgy y hy, hcb x y hx hy]
  cases hgxx : gx x with
  | none => rw [if_pos (show oI none < 0 by decide)]; rfl
  | some a =>
    have ha := lx x hx a hgxx
    rw [show oI (some a) = nI a from rfl, if_neg (nI_pos (by omega))]
    cases hgyy : gy y with
    | none => rw [if_neg (show ¬ (0 : Int32) ≤ oI none by decide)]; rfl
    | some c =>
      have hc := ly y hy c hgyy
      obtain ⟨W, H, b⟩ := v
      simp only at ha hc b1 b2 b3 b4 e3
      rw [show oI (some c) = nI c from rfl, if_pos (nI_pos' (by omega)), e3]
      simp only [zp, Option.bind_some]
      rcases (show b = 0 ∨ b = 1 by omega) with rfl | rfl
      · rw [if_pos (show nI 0 = 0 from rfl), x_place80 h (by simp [isP, ha, hc]) (by omega) (by omega)]
        rfl
      · have hWH : W = H := by omega
        rw [if_neg (show ¬ nI 1 = 0 by decide)]
        by_cases hca : c ≤ a
        · rw [if_pos ((nI_leI (by omega) (by omega)).mpr hca), x_place80 h (by simp [isP, ha, hc, hca]) (by omega) (by omega)]
          simp [dg, cb, hca, oI]
        · rw [if_neg (fun z => hca ((nI_leI (by omega) (by omega)).mp z)), lt_eq, e4, nI_add, x_place80 h (by simp [isP]; omega) (by omega) (by omega)]
          simp [dg, cb, hca, oI]
theorem plO_lt {st : Mm} {f0 f1 f2 n : Nat} {l : List Nat} {sl : Nat → Nat} {v : Wd} (h : FoS st f0 f1 f2 n l sl v) {x y k : Nat} (hx : x < n) (hy : y < n) (hk : plO sl l n x y = some k) : k < 256 ∧ isP v (k % 16) (k / 16) = true := by
  obtain ⟨e0, e1, e2, e3, e5, hfd, hn, ds, gx, gy, hds, e4, hgx, hgy, lx, ly, hcb⟩ := id h
  obtain ⟨b1, b2, b3, b4⟩ := h.b
  unfold plO at hk
  rw [hcb x y hx hy] at hk
  cases hgxx : gx x with
  | none => rw [hgxx] at hk; cases hk
  | some a =>
    have ha := lx x hx a hgxx
    cases hgyy : gy y with
    | none => rw [hgxx, hgyy] at hk; cases hk
    | some c =>
      have hc := ly y hy c hgyy
      rw [hgxx, hgyy] at hk
      obtain ⟨W, H, b⟩ := v
      simp only at ha hc b1 b2 b3 b4 e3
      simp only [zp, Option.bind_some] at hk
      have fin : ∀ p q : Nat, p < W → q < H → (b = 0 ∨ q ≤ p) → 16 * q + p < 256 ∧ isP (W, H, b) ((16 * q + p) % 16) ((16 * q + p) / 16) = true := by
        intro p q hp hq hb
        have m1 : (16 * q + p) % 16 = p := by omega
        have m2 : (16 * q + p) / 16 = q := by omega
        refine ⟨by omega, ?_⟩
        rw [m1, m2]
        simp only [isP, hp, hq, decide_true, Bool.true_and]
        rcases hb with h1 | h1
        · simp [h1]
        · simp [h1]
      rcases (show b = 0 ∨ b = 1 by omega) with rfl | rfl
      · simp only [dg, reduceIte, Option.map_some, Option.some.injEq] at hk
        rw [← hk]
        exact fin a c ha hc (Or.inl rfl)
      · by_cases hca : c ≤ a
        · simp [dg, cb, hca] at hk
          rw [← hk]
          exact fin a c ha hc (Or.inr hca)
        · simp [dg, cb, hca] at hk
          rw [← hk]
          exact fin c (a + ds) (by omega) (by omega) (Or.inr (by omega))
theorem papS_plO (c : Nat → Bool) (sl : Nat → Nat) (l : List Nat) (n x y : Nat) : papS c sl l n x y = match plO sl l n x y with
  | none => true
  | some k => !c k := by
  unfold papS plO
  cases cbs sl l 0 (x, y, n, n) <;> rfl
theorem x_isCut_eq {st : Mm} {f0 f1 f2 n : Nat} {l : List Nat} {sl : Nat → Nat} {v : Wd} {c : Nat → Bool} (h : FoS st f0 f1 f2 n l sl v) (hc : Rw (st.1 3) c) {x y : Nat} (hx : x < n) (hy : y < n) : f_x_isCut f0 f1 f2 (nI x) (nI y) st = some (bI (!papS c sl l n x y), st) := by
  unfold f_x_isCut
  rw [x_placeOf_eq h hx hy, papS_plO]
  simp only [Option.bind_some]
  cases hk : plO sl l n x y with
  | none => rw [if_pos (show oI none < 0 by decide)]; rfl
  | some k =>
    have hk2 := (plO_lt h hx hy hk).1
    rw [show oI (some k) = nI k from rfl, if_neg (nI_pos (by omega)), x_hasBit_eq hc hk2]
    simp only [Option.bind_some, Bool.not_not]
    cases c k <;> rfl
theorem x_refold_ok {st : Mm} {f0 f1 f2 n : Nat} {l : List Nat} {s : Int32} {v : Wd} {P : Unit × Mm → Prop} (h01 : f0 ≠ f1) (h02 : f0 ≠ f2) (h12 : f1 ≠ f2) (hq : 2 < f0 ∧ 2 < f1 ∧ 2 < f2) (hn : st.1 1 0 = nI n) (hn2 : n ≤ 16) (k8 : l.length ≤ 8) (hl : ∀ f ∈ l, f = 104 ∨ f = 118 ∨ f = 100) (h0 : st.1 1 3 = nI l.length) (hF0 : ∀ j, j < l.length → st.1 2 j = nI (l.getD j 0)) (hf : fds l (n, n, 0) = some v)
    (h : ∀ s2, Fr [(f0, none), (f1, none), (f2, none)] st s2 → FoS s2 f0 f1 f2 n l (slb s) v → P ((), s2)) : Ok (f_x_refold f0 f1 f2 s st) P := by
  unfold f_x_refold
  rw [hn]
  refine ok_bind (x_start_ok (sl := slb s) h01 h02 h12 hn2 (fun s0 hG0 hS0 => ?_))
  have fr : ∀ a, Fr [(f0, none), (f1, none), (f2, none)] st a → (∀ j, a.1 1 j = st.1 1 j) ∧ (∀ j, a.1 2 j = st.1 2 j) := fun a hG =>
    ⟨fun j => hG _ j (by simp [inL]; omega), fun j => hG _ j (by simp [inL]; omega)⟩
  refine ok_upF (fun m i a => f_x_refold_13 f0 f1 f2 m s i a) (fun i a => Fr [(f0, none), (f1, none), (f2, none)] st a ∧ ∃ u, FoS a f0 f1 f2 n (l.take i) (slb s) u) P l.length (by omega) ⟨hG0, (n, n, 0), by simpa using hS0⟩ ?_ ?_
  · intro m i a hi hI ih
    obtain ⟨hG, u, hS⟩ := hI
    show Ok (b_x_refold_13 f0 f1 f2 (f_x_refold_13 f0 f1 f2 m) s (nI i) a) P
    unfold b_x_refold_13
    rw [(fr a hG).1, h0]
    refine ok_f (nI_ge hi (by omega)) (ok_f (show ¬ nI 8 ≤ nI i from nI_ge (by omega) (by omega)) (ok_t (inb_nI (by omega) (by omega)) ?_))
    rw [cl_nI (by omega), (fr a hG).2, hF0 i hi, bit_of (by omega), slb_I]
    have hlen : (l.take i).length = i := by rw [List.length_take]; omega
    have hmem : l.getD i 0 ∈ l := by
      rw [List.getD_eq_getElem?_getD, List.getElem?_eq_getElem hi]; exact List.getElem_mem _
    have hx := x_fold_ok (P := fun q2 => Ok (lt_ (nI i + (1 : Int32)) (fun a5 => f_x_refold_13 f0 f1 f2 m s a5 q2.2)) P) h01 h02 h12 hS (hl _ hmem) (slb_lt _ _) (fun hno => by
      obtain ⟨u2, g1, g2⟩ := fds_take hf (i + 1)
      rw [take_succ_getD hi, fds_app _ _ _ _ hS.2.2.2.2.2.1] at g1
      rw [g1] at hno; cases hno) (fun z hz s2 hG2 hS2 => by
      refine ok_lt ?_
      rw [nI_1]
      refine ih s2 ⟨hG.tr hG2, z, ?_⟩
      rw [take_succ_getD hi]
      exact hS2)
    rw [hlen] at hx
    exact ok_bind hx
  · intro m a hI
    obtain ⟨hG, u, hS⟩ := hI
    show Ok (b_x_refold_13 f0 f1 f2 (f_x_refold_13 f0 f1 f2 m) s (nI l.length) a) P
    unfold b_x_refold_13
    rw [(fr a hG).1, h0]
    refine ok_t (Int32.le_refl _) (ok_some (h a hG ?_))
    rw [List.take_length] at hS
    have := hS.2.2.2.2.2.1
    rw [hf] at this
    cases this
    exact hS
theorem bt_shl1 {x b : Nat} (hx : x < 32) (hb : b < 32) : bt ((1 : Int32) <<< (nI x &&& 31)) b = decide (b = x) := by
  rw [b_shl x hx 1 hb]
  have h1 : ∀ i, i < 32 → bt (1 : Int32) i = decide (i = 0) := by decide +kernel
  rw [h1 (b - x) (by omega)]
  by_cases e : b = x
  · subst e; simp
  · rw [decide_eq_false e]
    by_cases e2 : x ≤ b
    · rw [decide_eq_false (show ¬ b - x = 0 by omega), Bool.and_false]
    · rw [decide_eq_false e2, Bool.false_and]
/-- what is opened, as cells of the sheet -/
def pap (n : Nat) (c : Nat → Bool) (sl : Nat → Nat) (l : List Nat) (k : Nat) : Bool := decide (k % 16 < n ∧ k / 16 < n) && papS c sl l n (k % 16) (k / 16)
def LXo : List (Nat × Option Nat) := [(24, none), (25, none), (26, none), (30, some 0), (31, none), (34, some 0), (0, some 13)]
theorem x_reopen_ok {st : Mm} {n : Nat} {l : List Nat} {v : Wd} {c : Nat → Bool} {P : Unit × Mm → Prop} (hn : st.1 1 0 = nI n) (hn2 : n ≤ 16) (k8 : l.length ≤ 8) (hl : ∀ f ∈ l, f = 104 ∨ f = 118 ∨ f = 100) (h0 : st.1 1 3 = nI l.length) (hF0 : ∀ j, j < l.length → st.1 2 j = nI (l.getD j 0)) (hf : fds l (n, n, 0) = some v) (hc : Rw (st.1 3) c)
    (h : ∀ s2, Fr LXo st s2 → FoS s2 24 25 26 n l (slb 0) v → s2.1 30 0 = nI n → Rw (s2.1 31) (pap n c (slb 0) l) → s2.1 34 0 = 0 → s2.1 0 13 = 0 → P ((), s2)) : Ok (f_x_reopen st) P := by
  unfold f_x_reopen
  refine ok_bind (x_refold_ok (by decide) (by decide) (by decide) (by decide) hn hn2 k8 hl h0 hF0 hf (fun s1 hG1 hS1 => ok_lt ?_))
  have hF1 : Fr LXo st s1 := hG1.wk (by decide)
  rw [hF1 1 0 rfl, hn]
  obtain ⟨s2, hs2⟩ : ∃ z, z = sI s1 30 0 (nI n) := ⟨_, rfl⟩
  rw [← hs2]
  have hS2 : FoS s2 24 25 26 n l (slb 0) v := by
    rw [hs2]
    exact hS1.same (fun j => by rw [sI_row _ _ _ _ (by decide)]) (fun j => by rw [sI_row _ _ _ _ (by decide)]) (fun j => by rw [sI_row _ _ _ _ (by decide)])
  have hF2 : Fr LXo st s2 := by rw [hs2]; exact hF1.sI rfl
  have hp2 : s2.1 30 0 = nI n := by rw [hs2]; exact sI_self _ _ _ _
  refine ok_upF f_x_reopen_25 (fun i a => Fr LXo st a ∧ (∀ cc j, cc ≠ 31 → a.1 cc j = s2.1 cc j) ∧ ∀ y, y < i → ∀ b, b < 32 → bt (a.1 31 y) b = (decide (b < 16) && pap n c (slb 0) l (16 * y + b))) P 16 (by omega) ⟨hF2, fun _ _ _ => rfl, fun y hy => by omega⟩ ?_ ?_
  · intro m y a hy hI ih
    obtain ⟨hF, hsm, hR⟩ := hI
    show Ok (b_x_reopen_25 (f_x_reopen_25 m) (nI y) a) P
    unfold b_x_reopen_25
    refine ok_f (n16 hy) ?_
    have hna : a.1 1 0 = nI n := by rw [hF 1 0 rfl]; exact hn
    have hSa : FoS a 24 25 26 n l (slb 0) v := hS2.same (fun j => hsm _ j (by decide)) (fun j => hsm _ j (by decide)) (fun j => hsm _ j (by decide))
    have hca : Rw (a.1 3) c := by
      have : a.1 3 = st.1 3 := funext (fun j => hF _ j rfl)
      rw [this]; exact hc
    have fin : ∀ r : Int32, (∀ b, b < 32 → bt r b = (decide (b < 16) && pap n c (slb 0) l (16 * y + b))) → Ok (b_x_reopen_82 (f_x_reopen_25 m) (nI y) r a) P := by
      intro r hr
      unfold b_x_reopen_82
      refine ok_t (inb_nI hy (by omega)) (ok_lt ?_)
      rw [nI_1, cl_nI (by omega)]
      refine ih _ ⟨hF.sI (by simp [inL, LXo]), fun cc j hcc => by rw [sI_row _ _ _ _ hcc]; exact hsm cc j hcc, fun z hz b hb => ?_⟩
      rw [sI_at]
      by_cases e : z = y
      · subst e; simp only [and_self, reduceIte]; exact hr b hb
      · simp only [e, and_false, reduceIte]; exact hR z (by omega) b hb
    rcases Nat.lt_or_ge y n with hyn | hyn
    · have key : ∀ (q x k : Nat) (r : Int32), x + q = n → q + 1 ≤ k → (∀ b, b < 32 → bt r b = (decide (b < x) && papS c (slb 0) l n b y)) → Ok (f_x_reopen_35 (f_x_reopen_25 m) k (nI y) r (nI x) a) P := by
        intro q
        induction q with
        | zero =>
          intro x k r hx hk hr
          obtain ⟨k, rfl⟩ := nat_suc hk
          show Ok (b_x_reopen_35 (f_x_reopen_25 m) (f_x_reopen_35 (f_x_reopen_25 m) k) (nI y) r (nI x) a) P
          unfold b_x_reopen_35
          rw [hna]
          have e : x = n := by omega
          subst e
          refine ok_t (Int32.le_refl _) (fin r (fun b hb => ?_))
          rw [hr b hb]
          unfold pap
          rcases Nat.lt_or_ge b 16 with hb16 | hb16
          · rw [show (16 * y + b) % 16 = b by omega, show (16 * y + b) / 16 = y by omega, decide_eq_true hb16, Bool.true_and]
            by_cases hbx : b < x
            · simp [hbx, hyn]
            · simp [hbx]
          · rw [decide_eq_false (show ¬ b < x by omega), decide_eq_false (show ¬ b < 16 by omega)]; rfl
        | succ q ihq =>
          intro x k r hx hk hr
          obtain ⟨k, rfl⟩ := nat_suc hk
          show Ok (b_x_reopen_35 (f_x_reopen_25 m) (f_x_reopen_35 (f_x_reopen_25 m) k) (nI y) r (nI x) a) P
          unfold b_x_reopen_35
          rw [hna]
          refine ok_f (nI_ge (by omega) (by omega)) (ok_f (nI_ge hyn (by omega)) ?_)
          rw [x_isCut_eq hSa hca (show x < n by omega) hyn]
          refine ok_bind (ok_some ?_)
          refine okc_b (!papS c (slb 0) l n x y) (fun c1 => ok_lt (ok_lt ?_)) (fun c1 => ok_lt ?_)
          · rw [nI_1]
            refine ihq (x + 1) k _ (by omega) (by omega) (fun b hb => ?_)
            rw [b_or, hr b hb, bt_shl1 (by omega) hb]
            have c2 : papS c (slb 0) l n x y = true := by simpa using c1
            by_cases e : b = x
            · subst e; simp [c2]
            · by_cases e2 : b < x
              · simp [e, e2, show b < x + 1 by omega]
              · simp [e, e2, show ¬ b < x + 1 by omega]
          · rw [nI_1]
            refine ihq (x + 1) k _ (by omega) (by omega) (fun b hb => ?_)
            rw [hr b hb]
            have c2 : papS c (slb 0) l n x y = false := by simpa using c1
            by_cases e : b = x
            · subst e; simp [c2]
            · by_cases e2 : b < x
              · simp [e2, show b < x + 1 by omega]
              · simp [e2, show ¬ b < x + 1 by omega]
      exact key n 0 1000000 0 (by omega) (by omega) (fun b hb => by rw [b_0]; simp)
    · show Ok (b_x_reopen_35 (f_x_reopen_25 m) (f_x_reopen_35 (f_x_reopen_25 m) 999999) (nI y) 0 0 a) P
      have hz : ∀ b, b < 32 → bt (0 : Int32) b = (decide (b < 16) && pap n c (slb 0) l (16 * y + b)) := by
        intro b hb
        rw [b_0]
        unfold pap
        rcases Nat.lt_or_ge b 16 with hb16 | hb16
        · rw [show (16 * y + b) / 16 = y by omega, decide_eq_false (show ¬ (_ ∧ y < n) by omega)]; simp
        · rw [decide_eq_false (show ¬ b < 16 by omega)]; rfl
      unfold b_x_reopen_35
      rw [hna]
      exact ok_if (fun _ => fin 0 hz) (fun _ => ok_t (nI_le hyn (by omega)) (fin 0 hz))
  · intro m a hI
    obtain ⟨hF, hsm, hR⟩ := hI
    show Ok (b_x_reopen_25 (f_x_reopen_25 m) (nI 16) a) P
    unfold b_x_reopen_25
    refine ok_t (by decide) (ok_some (h _ ((hF.sI rfl).sI rfl) ?_ ?_ ?_ ?_ ?_))
    · refine hS2.same (fun j => ?_) (fun j => ?_) (fun j => ?_)
      all_goals (rw [sI_row _ _ _ _ (by decide), sI_row _ _ _ _ (by decide)]; exact hsm _ j (by decide))
    · rw [sI_row _ _ _ _ (by decide), sI_row _ _ _ _ (by decide), hsm _ _ (by decide)]; exact hp2
    · rw [sI_row _ _ _ _ (by decide), sI_row _ _ _ _ (by decide)]; exact hR
    · rw [sI_row _ _ _ _ (by decide), sI_self]
    · rw [sI_self]
