/-! the state behind both constructors -/
theorem sZ_row (st : Mm) (c : Nat) {a : Nat} (h : a ≠ c) : (sZ st c).1 a = st.1 a := by simp [sZ, h]
theorem init_ok : InitOK Inv := by
  have hV : VT (16, 1, 0, [], fun _ => false, fullW 16, fun _ => false) := ⟨by decide, by decide, by decide, by decide, by decide, by decide, by simp, ⟨(16, 16, 0), rfl⟩, fun j hj => fullW_C (by decide) hj, fun j hj => by simp at hj⟩
  unfold InitOK
  obtain ⟨q0, e0, hT0⟩ := x_begin_ok (t0 := 1) (t1 := 2) (t2 := 3) (t3 := 4) (t4 := 5) (by decide) (st := sZ (sZ (sZ (sZ (sI (sZ (sZ st00 0) 1) 1 1 1) 2) 3) 4) 5) (n := 16) (x := 1) (by decide) rfl (P := fun q => TbX q.2 1 2 3 4 5 (16, 1, 0, [], fun _ => false, fullW 16, fun _ => false)) (fun s2 h _ => h)
  refine ⟨q0, ?_⟩
  obtain ⟨q1, e1, hT1, hs1⟩ := x_begin_ok (t0 := 6) (t1 := 7) (t2 := 8) (t3 := 9) (t4 := 10) (by decide) (st := sZ (sZ (sZ (sZ (sI (sZ q0.2 6) 6 1 1) 7) 8) 9) 10) (n := 16) (x := 1) (by decide) rfl (P := fun q => TbX q.2 6 7 8 9 10 (16, 1, 0, [], fun _ => false, fullW 16, fun _ => false) ∧ ∀ c j, c < 6 → q.2.1 c j = q0.2.1 c j) (fun s2 h hs => ⟨h, fun c j hc => by
    rw [hs c j (by omega) (by omega) (by omega) (by omega), sZ_row _ _ (by omega), sZ_row _ _ (by omega), sZ_row _ _ (by omega), sZ_row _ _ (by omega), sI_row _ _ _ _ (by omega), sZ_row _ _ (by omega)]⟩)
  refine ⟨q1, ?_⟩
  have hT : TbX q1.2 1 2 3 4 5 (16, 1, 0, [], fun _ => false, fullW 16, fun _ => false) := hT0.same (fun j => hs1 _ j (by decide)) (fun j => hs1 _ j (by decide)) (fun j => hs1 _ j (by decide)) (fun j => hs1 _ j (by decide)) (fun j => hs1 _ j (by decide))
  have hi : Ok (f_x_reopen (sI (sI (sI (sZ (sZ (sZ (sZ (sZ (sZ (sZ (sZ (sZ (sZ (sZ (sZ (sZ (sZ (sZ (sZ (sZ (sZ (sZ (sZ (sZ (sZ (sZ (sI (sZ (sZ (sZ (sZ (sZ (sZ (sZ (sZ (sZ (sZ (sZ (sZ (sZ (sZ (sZ (sZ (sZ (sZ (sZ (sZ (sZ (sZ (sZ (sI (sZ q1.2 11) 11 0 0) 12) 13) 14) 15) 16) 17) 18) 19) 20) 21) 22) 23) 24) 25) 26) 27) 28) 29) 30) 31) 32) 33) 34) 34 0 0) 35) 36) 37) 38) 39) 40) 41) 42) 43) 44) 45) 46) 47) 48) 49) 50) 51) 52) 53) 54) 55) 56) 57) 0 12 0) 0 13 0) 0 14 0)) (fun q => InvX ((16, 1, 0, [], fun _ => false, fullW 16, fun _ => false), [], none) q.2) := by
    refine x_reopen_inv hV (tp := []) (k := none) (hT.same (fun j => rfl) (fun j => rfl) (fun j => rfl) (fun j => rfl) (fun j => rfl)) ⟨rfl, fun j hj => by simp at hj⟩ rfl (fun s2 h _ => h)
  obtain ⟨q2, e2, hI2⟩ := hi
  refine ⟨q2, ?_⟩
  have hm : Ok (f_m_begins 16 (sI (sZ (sZ (sZ (sZ (sZ (sZ (sZ (sZ (sZ (sZ (sZ (sZ (sZ (sZ (sZ (sZ (sZ (sZ (sZ (sZ (sZ (sZ (sZ (sZ (sZ (sZ (sZ (sZ (sZ (sZ (sZ (sZ (sZ q2.2 58) 59) 60) 61) 62) 63) 64) 65) 66) 67) 68) 69) 70) 71) 72) 73) 74) 75) 76) 77) 78) 79) 80) 81) 82) 83) 84) 85) 86) 87) 88) 89) 90) 58 3 1)) (fun q => Inv q.2) := by
    refine m_begins_ok (n := 16) (x := 1) (by decide) rfl (fun s2 hT hF => ?_)
    refine ⟨((16, 1, 0, [], fun _ => false, fullW 16, fun _ => false), [], none), ⟨hV, by simp, by simp, by simp⟩, hI2.same (fun c j hc => ?_), hT, ⟨by rw [hF _ _ rfl]; rfl, fun j hj => by simp at hj⟩, show s2.1 58 56 = 0 by rw [hF _ _ rfl]; rfl⟩
    have hc := kx_lo hc
    rw [hF.hi rfl c j hc, sI_row _ _ _ _ (by omega)]
    repeat rw [sZ_row _ _ (by omega)]
  obtain ⟨p0, e3, hI⟩ := hm
  exact ⟨p0, e0, e1, e2, e3, hI⟩
/-! layers -/
theorem slb0 (j : Nat) : slb 0 j = 0 := by unfold slb; rw [b_0]; rfl
theorem cbs_cW {sl : Nat → Nat} (hs : ∀ i, sl i < 2) : ∀ (l : List Nat) (i : Nat) (q z : Fq) (w v : Wd), cW q w → fds l w = some v → cbs sl l i q = some z → cW z v
  | [], i, q, z, w, v, hq, hf, hz => by
    simp only [fds, cbs, Option.some.injEq] at hf hz
    subst hf; subst hz; exact hq
  | f :: l, i, q, z, w, v, hq, hf, hz => by
    simp only [fds, cbs] at hf hz
    obtain ⟨u, h1, h2⟩ := Option.bind_eq_some_iff.mp hf
    obtain ⟨r, h3, h4⟩ := Option.bind_eq_some_iff.mp hz
    exact cbs_cW hs l (i + 1) r z u v (cb_cW hq h1 h3 (hs i)) h2 h4
theorem cb_some {f : Nat} {q : Fq} {w v : Wd} (hq : cW q w) (hf : fold1 f w = some v) : ∃ z, cb f 0 q = some z := by
  obtain ⟨a, b, W, H⟩ := q
  obtain ⟨w1, w2, w3⟩ := w
  obtain ⟨e1, e2, e3, e4⟩ := hq
  simp only at e1 e2 e3 e4
  subst e1; subst e2
  unfold fold1 at hf
  simp only at hf
  by_cases h1 : w3 = 0
  · rw [if_pos h1] at hf
    by_cases h2 : f = 104
    · rw [if_pos h2] at hf
      subst h2
      by_cases h3 : W % 2 = 1
      · rw [if_pos h3] at hf; cases hf
      · refine ⟨(if a < W / 2 then a else W - 1 - a + 0, b, W / 2, H), ?_⟩
        unfold cb
        simp only [if_true]
        rw [if_pos (by split <;> omega)]
    · rw [if_neg h2] at hf
      by_cases h3 : f = 118
      · rw [if_pos h3] at hf
        subst h3
        by_cases h4 : H % 2 = 1
        · rw [if_pos h4] at hf; cases hf
        · refine ⟨(a, if b < H / 2 then b else H - 1 - b + 0, W, H / 2), ?_⟩
          unfold cb
          simp only [show ¬ (118 = 104) by decide, if_false, if_true]
          rw [if_pos (by split <;> omega)]
      · unfold cb
        simp only [h2, h3, if_false]
        split
        · exact ⟨_, rfl⟩
        · exact ⟨_, rfl⟩
  · rw [if_neg h1] at hf; cases hf
theorem cbs_some : ∀ (l : List Nat) (i : Nat) (q : Fq) (w v : Wd), cW q w → fds l w = some v → ∃ z, cbs (slb 0) l i q = some z ∧ cW z v
  | [], i, q, w, v, hq, hf => by
    simp only [fds, Option.some.injEq] at hf
    subst hf; exact ⟨q, rfl, hq⟩
  | f :: l, i, q, w, v, hq, hf => by
    simp only [fds] at hf
    obtain ⟨u, h1, h2⟩ := Option.bind_eq_some_iff.mp hf
    obtain ⟨r, h3⟩ := cb_some hq h1
    obtain ⟨z, h4, h5⟩ := cbs_some l (i + 1) r u v (cb_cW hq h1 h3 (by decide)) h2
    refine ⟨z, ?_, h5⟩
    simp only [cbs]
    rw [slb0, h3]
    exact h4
def tot2 (q : Nat → Nat → Bool) (n : Nat) : Nat := fb_sm (fun y => fb_ct (fun x => q x y) n) n
theorem tot2_or {q r : Nat → Nat → Bool} {n : Nat} (h : ∀ x y, x < n → y < n → ¬ (q x y = true ∧ r x y = true)) : tot2 (fun x y => q x y || r x y) n = tot2 q n + tot2 r n := by
  unfold tot2
  rw [← fb_sm_add]
  exact fb_sm_cong (fun y hy => fb_ct_or (fun x hx => h x y hx hy))
theorem tot2_cg {q r : Nat → Nat → Bool} {n : Nat} (h : ∀ x y, x < n → y < n → q x y = r x y) : tot2 q n = tot2 r n := fb_sm_cong (fun y hy => fb_ct_cong (fun x hx => h x y hx hy))
theorem ct_one {a : Nat} : ∀ n, fb_ct (fun x => decide (x = a)) n = if a < n then 1 else 0
  | 0 => by simp [fb_ct]
  | n + 1 => by
    rw [fb_ct_succ, ct_one n]
    rcases Nat.lt_trichotomy a n with h | h | h
    · simp [h, show ¬ n = a by omega, show a < n + 1 by omega]
    · simp [h]
    · simp [show ¬ a < n by omega, show ¬ n = a by omega, show ¬ a < n + 1 by omega]
theorem sm_one {b c : Nat} : ∀ n, fb_sm (fun y => if y = b then c else 0) n = if b < n then c else 0
  | 0 => by simp [fb_sm]
  | n + 1 => by
    rw [fb_sm_succ, sm_one n]
    rcases Nat.lt_trichotomy b n with h | h | h
    · simp [h, show ¬ n = b by omega, show b < n + 1 by omega]
    · simp [h]
    · simp [show ¬ b < n by omega, show ¬ n = b by omega, show ¬ b < n + 1 by omega]
def fib (l : List Nat) (n : Nat) (z : Fq) (x y : Nat) : Bool := decide (cbs (slb 0) l 0 (x, y, n, n) = some z)
theorem fib_app {l : List Nat} {n f : Nat} {z : Fq} {v : Wd} (hf : fds l (n, n, 0) = some v) {x y : Nat} (hx : x < n) (hy : y < n) : (fib (l ++ [f]) n z x y = true ↔ ∃ q, cW q v ∧ fib l n q x y = true ∧ cb f 0 q = some z) := by
  unfold fib
  rw [decide_eq_true_eq, cbs_app, slb0]
  obtain ⟨q, hq, hw⟩ := cbs_some l 0 (x, y, n, n) (n, n, 0) v ⟨rfl, rfl, hx, hy⟩ hf
  rw [hq, Option.bind_some]
  constructor
  · intro h
    exact ⟨q, hw, by rw [decide_eq_true_eq], h⟩
  · rintro ⟨r, h1, h2, h3⟩
    rw [decide_eq_true_eq] at h2
    cases h2
    exact h3
theorem lay_ct {n : Nat} {l : List Nat} {v : Wd} (hl : ∀ f ∈ l, f = 104 ∨ f = 118 ∨ f = 100) (hf : fds l (n, n, 0) = some v) : ∀ i u, i ≤ l.length → fds (l.take i) (n, n, 0) = some u → ∀ a b, isP u a b = true → tot2 (fib (l.take i) n (a, b, u.1, u.2.1)) n = if u.2.2 = 0 then 2 ^ hv (l.take i) else if a = b then 2 ^ hv (l.take i) else 2 * 2 ^ hv (l.take i) := by
  intro i
  induction i with
  | zero =>
    intro u _ hu a b hp
    simp only [List.take_zero, fds, Option.some.injEq] at hu ⊢
    subst hu
    unfold isP at hp
    simp only [Bool.and_eq_true, decide_eq_true_eq] at hp
    have e : tot2 (fib [] n (a, b, n, n)) n = fb_sm (fun y => if y = b then 1 else 0) n := by
      unfold tot2
      refine fb_sm_cong (fun y hy => ?_)
      by_cases h : y = b
      · subst h
        rw [if_pos rfl, fb_ct_cong (q := fun x => decide (x = a)) (fun x hx => by simp [fib, cbs]), ct_one, if_pos hp.1]
      · rw [if_neg h]
        refine fb_ct_zero.mpr (fun x hx => ?_)
        simp [fib, cbs, h]
    rw [e, sm_one, if_pos hp.2.1]
    rfl
  | succ i ih =>
    intro w hi hw a b hp
    have htk := take_succ_getD (l := l) (i := i) (by omega)
    obtain ⟨u, hu, _⟩ := fds_take hf i
    rw [htk] at hw ⊢
    rw [fds_app _ _ _ _ hu] at hw
    have hin : l.getD i 0 ∈ l := by
      rw [List.getD_eq_getElem?_getD, List.getElem?_eq_getElem (by omega), Option.getD_some]
      exact List.getElem_mem _
    have hfl := hl _ hin
    generalize hg : l.getD i 0 = f at hw hfl ⊢
    have IH := ih u (by omega) hu
    obtain ⟨W, H, D⟩ := u
    have hD : D = 0 := (fold1_le hw).2.2.2
    subst hD
    have IH : ∀ a b, a < W → b < H → tot2 (fib (l.take i) n (a, b, W, H)) n = 2 ^ hv (l.take i) := fun a b h1 h2 => by
      have := IH a b (by unfold isP; simp [h1, h2])
      simpa using this
    unfold fold1 at hw
    simp only [if_true] at hw
    rw [hv_app]
    rcases hfl with rfl | rfl | rfl
    · simp only [if_true] at hw
      by_cases h3 : W % 2 = 1
      · rw [if_pos h3] at hw; cases hw
      · rw [if_neg h3] at hw
        cases hw
        unfold isP at hp
        simp only [Bool.and_eq_true, decide_eq_true_eq] at hp
        have e : tot2 (fib (l.take i ++ [104]) n (a, b, W / 2, H)) n = tot2 (fun x y => fib (l.take i) n (a, b, W, H) x y || fib (l.take i) n (W - 1 - a, b, W, H) x y) n := by
          refine tot2_cg (fun x y hx hy => ?_)
          rw [Bool.eq_iff_iff, fib_app hu hx hy, Bool.or_eq_true]
          constructor
          · rintro ⟨⟨q1, q2, q3, q4⟩, ⟨k1, k2, k3, k4⟩, h1, h2⟩
            simp only at k1 k2 k3 k4
            obtain rfl : W = q3 := k1.symm
            obtain rfl : H = q4 := k2.symm
            rw [cb_h] at h2
            obtain ⟨z, hz, h4⟩ := Option.map_eq_some_iff.mp h2
            cases h4
            unfold fo1 at hz
            by_cases h5 : q1 < W / 2
            · rw [if_pos h5] at hz; cases hz; exact Or.inl h1
            · rw [if_neg h5] at hz
              by_cases h6 : W - 1 - q1 + 0 < W / 2
              · rw [if_pos h6] at hz
                have := Option.some.inj hz
                rw [show W - 1 - a = q1 by omega]; exact Or.inr h1
              · rw [if_neg h6] at hz; cases hz
          · rintro (h1 | h1)
            · refine ⟨_, ⟨rfl, rfl, by show a < W; omega, hp.2.1⟩, h1, ?_⟩
              rw [cb_h]; unfold fo1; rw [if_pos hp.1]; rfl
            · refine ⟨_, ⟨rfl, rfl, by show W - 1 - a < W; omega, hp.2.1⟩, h1, ?_⟩
              rw [cb_h]; unfold fo1; rw [if_neg (by omega), if_pos (by omega), show W - 1 - (W - 1 - a) + 0 = a by omega]; rfl
        rw [e, tot2_or, IH a b (by omega) hp.2.1, IH (W - 1 - a) b (by omega) hp.2.1]
        · simp only [if_true, show hv [104] = 1 from rfl, Nat.pow_succ]
          omega
        · intro x y _ _ ⟨h1, h2⟩
          unfold fib at h1 h2
          rw [decide_eq_true_eq] at h1 h2
          rw [h1] at h2
          have := (Prod.mk.inj (Option.some.inj h2)).1
          omega
    · simp only [show ¬ (118 = 104) by decide, if_false, if_true] at hw
      by_cases h3 : H % 2 = 1
      · rw [if_pos h3] at hw; cases hw
      · rw [if_neg h3] at hw
        cases hw
        unfold isP at hp
        simp only [Bool.and_eq_true, decide_eq_true_eq] at hp
        have e : tot2 (fib (l.take i ++ [118]) n (a, b, W, H / 2)) n = tot2 (fun x y => fib (l.take i) n (a, b, W, H) x y || fib (l.take i) n (a, H - 1 - b, W, H) x y) n := by
          refine tot2_cg (fun x y hx hy => ?_)
          rw [Bool.eq_iff_iff, fib_app hu hx hy, Bool.or_eq_true]
          constructor
          · rintro ⟨⟨q1, q2, q3, q4⟩, ⟨k1, k2, k3, k4⟩, h1, h2⟩
            simp only at k1 k2 k3 k4
            obtain rfl : W = q3 := k1.symm
            obtain rfl : H = q4 := k2.symm
            rw [cb_v] at h2
            obtain ⟨z, hz, h4⟩ := Option.map_eq_some_iff.mp h2
            cases h4
            unfold fo1 at hz
            by_cases h5 : q2 < H / 2
            · rw [if_pos h5] at hz; cases hz; exact Or.inl h1
            · rw [if_neg h5] at hz
              by_cases h6 : H - 1 - q2 + 0 < H / 2
              · rw [if_pos h6] at hz
                have := Option.some.inj hz
                rw [show H - 1 - b = q2 by omega]; exact Or.inr h1
              · rw [if_neg h6] at hz; cases hz
          · rintro (h1 | h1)
            · refine ⟨_, ⟨rfl, rfl, hp.1, by show b < H; omega⟩, h1, ?_⟩
              rw [cb_v]; unfold fo1; rw [if_pos hp.2.1]; rfl
            · refine ⟨_, ⟨rfl, rfl, hp.1, by show H - 1 - b < H; omega⟩, h1, ?_⟩
              rw [cb_v]; unfold fo1; rw [if_neg (by omega), if_pos (by omega), show H - 1 - (H - 1 - b) + 0 = b by omega]; rfl
        rw [e, tot2_or, IH a b hp.1 (by omega), IH a (H - 1 - b) hp.1 (by omega)]
        · simp only [if_true, show hv [118] = 1 from rfl, Nat.pow_succ]
          omega
        · intro x y _ _ ⟨h1, h2⟩
          unfold fib at h1 h2
          rw [decide_eq_true_eq] at h1 h2
          rw [h1] at h2
          have := (Prod.mk.inj (Prod.mk.inj (Option.some.inj h2)).2).1
          omega
    · simp only [show ¬ (100 = 104) by decide, show ¬ (100 = 118) by decide, if_false] at hw
      by_cases h3 : W = H
      · rw [if_pos h3] at hw
        by_cases h4 : 2 ≤ W
        · rw [if_pos h4] at hw
          cases hw
          subst h3
          unfold isP at hp
          simp only [Bool.and_eq_true, decide_eq_true_eq, Bool.or_eq_true, show ¬ (1 = 0) by decide, false_or] at hp
          have c1 : ∀ p q : Nat, cb 100 0 (p, q, W, W) = if q ≤ p then some (p, q, W, W) else some (q, p, W, W) := fun p q => by unfold cb; simp
          by_cases hab : a = b
          · subst hab
            have e : tot2 (fib (l.take i ++ [100]) n (a, a, W, W)) n = tot2 (fib (l.take i) n (a, a, W, W)) n := by
              refine tot2_cg (fun x y hx hy => ?_)
              rw [Bool.eq_iff_iff, fib_app hu hx hy]
              constructor
              · rintro ⟨⟨q1, q2, q3, q4⟩, ⟨k1, k2, k3, k4⟩, h1, h2⟩
                simp only at k1 k2 k3 k4
                obtain rfl : W = q3 := k1.symm
                obtain rfl : W = q4 := k2.symm
                rw [c1] at h2
                split at h2 <;> (cases h2; exact h1)
              · intro h1
                exact ⟨_, ⟨rfl, rfl, hp.1, hp.1⟩, h1, by rw [c1, if_pos (Nat.le_refl _)]⟩
            rw [e, IH a a hp.1 hp.1]
            simp [show hv [100] = 0 from rfl]
          · have e : tot2 (fib (l.take i ++ [100]) n (a, b, W, W)) n = tot2 (fun x y => fib (l.take i) n (a, b, W, W) x y || fib (l.take i) n (b, a, W, W) x y) n := by
              refine tot2_cg (fun x y hx hy => ?_)
              rw [Bool.eq_iff_iff, fib_app hu hx hy, Bool.or_eq_true]
              constructor
              · rintro ⟨⟨q1, q2, q3, q4⟩, ⟨k1, k2, k3, k4⟩, h1, h2⟩
                simp only at k1 k2 k3 k4
                obtain rfl : W = q3 := k1.symm
                obtain rfl : W = q4 := k2.symm
                rw [c1] at h2
                split at h2
                · cases h2; exact Or.inl h1
                · cases h2; exact Or.inr h1
              · rintro (h1 | h1)
                · exact ⟨_, ⟨rfl, rfl, hp.1, hp.2.1⟩, h1, by rw [c1, if_pos (by omega)]⟩
                · exact ⟨_, ⟨rfl, rfl, hp.2.1, hp.1⟩, h1, by rw [c1, if_neg (by omega)]⟩
            rw [e, tot2_or, IH a b hp.1 hp.2.1, IH b a hp.2.1 hp.1]
            · simp only [show ¬ (1 = 0) by decide, if_false, hab, show hv [100] = 0 from rfl, Nat.add_zero]
              omega
            · intro x y _ _ ⟨h1, h2⟩
              unfold fib at h1 h2
              rw [decide_eq_true_eq] at h1 h2
              rw [h1] at h2
              have := (Prod.mk.inj (Option.some.inj h2)).1
              omega
        · rw [if_neg h4] at hw; cases hw
      · rw [if_neg h3] at hw; cases hw
def layN (v : Wd) (l : List Nat) (a b : Nat) : Nat := if v.2.2 = 0 then 2 ^ hv l else if a = b then 2 ^ hv l else 2 * 2 ^ hv l
def onP (l : List Nat) (n k : Nat) (x y : Nat) : Bool := decide (plO (slb 0) l n x y = some k)
theorem onP_ct {n : Nat} {l : List Nat} {v : Wd} (hn : n ≤ 16) (hl : ∀ f ∈ l, f = 104 ∨ f = 118 ∨ f = 100) (hf : fds l (n, n, 0) = some v) {a b : Nat} (hp : isP v a b = true) : tot2 (onP l n (16 * b + a)) n = layN v l a b := by
  have h1 := lay_ct hl hf l.length v (Nat.le_refl _) (by rw [List.take_length]; exact hf) a b hp
  rw [List.take_length] at h1
  have hle := fds_le _ _ _ hf
  simp only at hle
  unfold isP at hp
  simp only [Bool.and_eq_true, decide_eq_true_eq] at hp
  unfold layN
  rw [← h1]
  refine tot2_cg (fun x y hx hy => ?_)
  obtain ⟨⟨q1, q2, q3, q4⟩, hq, k1, k2, k3, k4⟩ := cbs_some l 0 (x, y, n, n) (n, n, 0) v ⟨rfl, rfl, hx, hy⟩ hf
  simp only at k1 k2 k3 k4
  unfold onP fib plO
  rw [hq, Bool.eq_iff_iff, decide_eq_true_eq, decide_eq_true_eq, Option.map_some, Option.some.injEq, Option.some.injEq]
  simp only [Prod.mk.injEq]
  constructor
  · intro h; exact ⟨by omega, by omega, k1, k2⟩
  · rintro ⟨rfl, rfl, _, _⟩; rfl
theorem tot2_cn2 (q : Nat → Nat → Bool) (n : Nat) : cn2 q n n 0 = tot2 q n := rfl
def LLy : List (Nat × Option Nat) := [(58, some 13), (58, some 14), (58, some 15), (58, some 16), (64, none)]
theorem mRec.keep {a b : Mm} {n : Nat} {l : List Nat} {v : Wd} (hr : mRec a n l v) (h0 : b.1 58 0 = a.1 58 0) (h8 : b.1 58 8 = a.1 58 8) (h9 : b.1 58 9 = a.1 58 9) (h10 : b.1 58 10 = a.1 58 10) (h12 : b.1 58 12 = a.1 58 12) (hb : ∀ j, b.1 63 j = a.1 63 j) : mRec b n l v := by
  obtain ⟨r1, r2, r3, r4, r5, r6, r7, r8, r9, r10⟩ := hr
  exact ⟨by rw [h0]; exact r1, r2, r3, r4, r5, by rw [h12]; exact r6, fun j hj => by rw [hb j]; exact r7 j hj, by rw [h8]; exact r8, by rw [h9]; exact r9, by rw [h10]; exact r10⟩
theorem m_laysLayers_ok {st : Mm} {n : Nat} {l : List Nat} {v : Wd} {P : Unit × Mm → Prop} (hr : mRec st n l v) (h : ∀ s2, Fr LLy st s2 → mRec s2 n l v → (∀ k, k < 256 → s2.1 64 k = nI (tot2 (onP l n k) n)) → P ((), s2)) : Ok (f_m_laysLayers st) P := by
  have hn := hr.2.1
  have kp : ∀ a : Mm, Fr LLy st a → mRec a n l v := fun a hF => hr.keep (hF _ _ rfl) (hF _ _ rfl) (hF _ _ rfl) (hF _ _ rfl) (hF _ _ rfl) (fun j => hF _ _ (by simp [inL, LLy]))
  unfold f_m_laysLayers
  refine ok_upF (fun m i a => f_m_laysLayers_2 m i a) (fun i a => (∀ k, k < i → a.1 64 k = 0) ∧ Fr LLy st a) P 256 (by omega) ⟨fun k hk => by omega, Fr.rf⟩ ?_ ?_
  · rintro m i a hi ⟨g1, g2⟩ ih
    show Ok (b_m_laysLayers_2 (f_m_laysLayers_2 m) (nI i) a) P
    unfold b_m_laysLayers_2
    refine ok_f (n256 hi) (ok_t (inb_nI hi (by omega)) (ok_lt ?_))
    rw [cl_nI (by omega), nI_1]
    refine ih _ ⟨fun k hk => ?_, g2.sI (inL_row (by decide) _)⟩
    rw [sI_at]
    by_cases e : k = i
    · simp [e]
    · simp only [e, and_false, reduceIte]; exact g1 k (by omega)
  · rintro m a ⟨g1, g2⟩
    show Ok (b_m_laysLayers_2 (f_m_laysLayers_2 m) (nI 256) a) P
    unfold b_m_laysLayers_2 b_m_laysLayers_22
    refine ok_t (by decide) ?_
    refine ok_grid (α := Mm) (fun m y a => f_m_laysLayers_24 m y a) (fun k m y x a => f_m_laysLayers_34 k m y x a) (fun y x a => Fr LLy st a ∧ ∀ k, k < 256 → a.1 64 k = nI (cn2 (onP l n k) n y x)) P n n ?_ ?_ ?_ ?_ (by omega) (by omega) (a := a) ⟨g2, fun k hk => g1 k hk⟩
    · rintro k m y x a hy hx ⟨hF, hc⟩ ih
      show Ok (b_m_laysLayers_34 k (f_m_laysLayers_34 k m) (nI y) (nI x) a) P
      unfold b_m_laysLayers_34
      have hra := kp a hF
      rw [hra.1]
      refine ok_f (nI_ge hx (by omega)) ?_
      obtain ⟨z, hz, k1, k2, k3, k4⟩ := cbs_some l 0 (x, y, n, n) (n, n, 0) v ⟨rfl, rfl, hx, hy⟩ hr.2.2.2.2.1
      have hle := fds_le _ _ _ hr.2.2.2.2.1
      simp only at hle
      refine ok_bind (m_placeOf_ok hra.1 (by omega) hx hy hra.2.2.1 hra.2.2.2.2.2.1 hra.2.2.2.2.2.2.1 hra.2.2.2.1 hra.2.2.2.2.1 (fun e => by rw [hz] at e; cases e) (fun z2 hz2 _ s2 hF2 => ?_))
      rw [hz] at hz2
      cases hz2
      have hFs2 : Fr LLy st s2 := hF.tr (hF2.wk (by decide))
      have hrb := kp s2 hFs2
      refine ok_bind (m_placeOf_ok hrb.1 (by omega) hx hy hrb.2.2.1 hrb.2.2.2.2.2.1 hrb.2.2.2.2.2.2.1 hrb.2.2.2.1 hrb.2.2.2.2.1 (fun e => by rw [hz] at e; cases e) (fun z2 hz2 _ s3 hF3 => ?_))
      rw [hz] at hz2
      cases hz2
      have hFs3 : Fr LLy st s3 := hFs2.tr (hF3.wk (by decide))
      have hlt : 16 * z.2.1 + z.1 < 256 := by omega
      refine ok_t (inb_nI hlt (by omega)) (ok_lt (ok_t (inb_nI hlt (by omega)) (ok_lt ?_)))
      rw [cl_nI (by omega), nI_1 x]
      refine ih _ ⟨hFs3.sI (inL_row (by decide) _), fun k hk => ?_⟩
      have e3 : ∀ k, s3.1 64 k = a.1 64 k := fun k => by rw [hF3 _ _ (by simp [inL, LB]), hF2 _ _ (by simp [inL, LB])]
      have hpl : plO (slb 0) l n x y = some (16 * z.2.1 + z.1) := by unfold plO; rw [hz]; rfl
      rw [sI_at, e3, e3, hc _ hlt, hc k hk, cn2_in]
      by_cases e : k = 16 * z.2.1 + z.1
      · subst e
        simp only [and_self, reduceIte]
        rw [nI_1, show onP l n (16 * z.2.1 + z.1) x y = true by unfold onP; rw [hpl]; simp]; rfl
      · simp only [e, and_false, reduceIte]
        rw [show onP l n k x y = false by unfold onP; rw [hpl]; simp; omega]; rfl
    · rintro k m y a hy ⟨hF, hc⟩ ih
      show Ok (b_m_laysLayers_34 k (f_m_laysLayers_34 k m) (nI y) (nI n) a) P
      unfold b_m_laysLayers_34 b_m_laysLayers_74
      rw [(kp a hF).1]
      refine ok_t (Int32.le_refl _) (ok_lt ?_)
      rw [nI_1]
      exact ih a ⟨hF, fun k hk => by rw [cn2_out]; exact hc k hk⟩
    · rintro m y a hy ⟨hF, hc⟩ ih
      show Ok (b_m_laysLayers_24 (f_m_laysLayers_24 m) (nI y) a) P
      unfold b_m_laysLayers_24
      rw [(kp a hF).1]
      exact ok_f (nI_ge hy (by omega)) ih
    · rintro m a ⟨hF, hc⟩
      show Ok (b_m_laysLayers_24 (f_m_laysLayers_24 m) (nI n) a) P
      unfold b_m_laysLayers_24
      rw [(kp a hF).1]
      exact ok_t (Int32.le_refl _) (ok_some (h a hF (kp a hF) (fun k hk => by rw [hc k hk, tot2_cn2])))
theorem x_thick_eq {st : Mm} {f0 f1 f2 n : Nat} {l : List Nat} {sl : Nat → Nat} {v : Wd} (h : FoS st f0 f1 f2 n l sl v) {a b : Nat} (ha : a < 65536) (hb : b < 65536) : f_Fold_thickness f0 f1 f2 (nI a) (nI b) st = some (nI (layN v l a b), st) := by
  have hb := h.b
  obtain ⟨_, _, _, h3, h5, _⟩ := h
  unfold f_Fold_thickness layN
  rw [h3, h5]
  by_cases e : v.2.2 = 0
  · rw [if_pos (show nI v.2.2 = (0 : Int32) by rw [e]; rfl), if_pos e]
  · rw [if_neg (show ¬ nI v.2.2 = (0 : Int32) from fun h => e (nI_inj (a := v.2.2) (b := 0) (by omega) (by omega) h)), if_neg e]
    by_cases e2 : a = b
    · rw [if_pos (by rw [e2]), if_pos e2]
    · rw [if_neg (fun h => e2 (nI_inj (by omega) (by omega) h)), if_neg e2, show (2 : Int32) = nI 2 from rfl, pk_mul]
theorem st_layers (a0 a1 : Int32) : Step1 Inv (f_x_layers a0 a1) (f_m_layers a0 a1) := step_q (fun A hA => by
  have hn := hA.1.2.1
  obtain ⟨v, hv, v1, v2, v3, _⟩ := hA.v
  rcases place_cases v a0 a1 with hc | ⟨a, b, ha, hb, rfl, rfl, hc, hp⟩
  · refine ⟨-1, xok_fr [] rfl (fun st hI => ?_), mok_fr LR rfl (fun st hI => ?_)⟩
    · unfold f_x_layers
      refine ok_bind (ok_eq (x_holds_eq (hI.fo hv) _ _) ?_)
      rw [hc]
      exact ok_t rfl (ok_some ⟨rfl, Fr.rf⟩)
    · unfold f_m_layers
      refine ok_bind (mI_lays hA hI hv (fun s2 hF hr => ?_))
      refine ok_bind (ok_eq (m_isPlace_gen hr.w v1 v2 v3 _ _) ?_)
      rw [hc]
      exact ok_t rfl (ok_some ⟨rfl, hF⟩)
  · refine ⟨nI (layN v A.1.2.2.2.1 a b), xok_fr [] rfl (fun st hI => ?_), mok_fr (LR ++ LLy) rfl (fun st hI => ?_)⟩
    · unfold f_x_layers
      refine ok_bind (ok_eq (x_holds_eq (hI.fo hv) _ _) ?_)
      rw [hc]
      refine ok_f (show ¬ bI true = 0 by decide) ?_
      exact ok_bind (ok_eq (x_thick_eq (hI.fo hv) (by omega) (by omega)) (ok_some ⟨rfl, Fr.rf⟩))
    · unfold f_m_layers
      refine ok_bind (mI_lays hA hI hv (fun s2 hF hr => ?_))
      refine ok_bind (ok_eq (m_isPlace_gen hr.w v1 v2 v3 _ _) ?_)
      rw [hc]
      refine ok_f (show ¬ bI true = 0 by decide) ?_
      refine ok_bind (m_laysLayers_ok hr (fun s3 hF3 hr3 hk => ?_))
      simp only [cellI]
      refine ok_t (inb_nI (by omega) (by omega)) (ok_some ⟨?_, (hF.wk (by decide)).tr (hF3.wk (by decide))⟩)
      rw [cl_nI (by omega)]
      show s3.1 64 (16 * b + a) = _
      rw [hk _ (by omega), onP_ct hn hA.1.2.2.2.2.2.2.1 hv hp])
