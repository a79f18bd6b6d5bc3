/-! the class's folding -/
/-- what turning over brings to a place -/
def tvI (W half : Int32) (sl t : Int32) : Int32 := if t < half then t else if (W - 1 - t + sl) < 0 then -1 else if half ≤ (W - 1 - t + sl) then -1 else (W - 1 - t + sl)
theorem sI_idem {st : Mm} {c j : Nat} {v : Int32} (h : st.1 c j = v) : sI st c j v = st := by
  have : (sI st c j v).1 = st.1 := by
    funext a b
    rw [sI_at]
    split
    · rename_i h2; rw [h2.1, h2.2, h]
    · rfl
  exact Prod.ext this rfl
theorem x_turnOver_ok {st : Mm} {ar : Nat} {W sl half : Int32} {P : Unit × Mm → Prop} (hW : W >>> ((1 : Int32) &&& 31) = half) (h : ∀ s2, Fr [(ar, none)] st s2 → (∀ x, x < 16 → s2.1 ar x = tvI W half sl (st.1 ar x)) → P ((), s2)) : Ok (f_Fold_turnOver ar W sl st) P := by
  unfold f_Fold_turnOver
  refine ok_lt ?_
  rw [hW]
  refine ok_upF (fun n i a => f_Fold_turnOver_7 ar n W sl half i a) (fun i a => Fr [(ar, none)] st a ∧ (∀ x, x < i → a.1 ar x = tvI W half sl (st.1 ar x)) ∧ (∀ x, i ≤ x → a.1 ar x = st.1 ar x)) P 16 (by omega) ⟨Fr.rf, fun x hx => by omega, fun x _ => rfl⟩ ?_ ?_
  · intro n i a hi hI ih
    obtain ⟨hF, h1, h2⟩ := hI
    have nxt : ∀ v, v = tvI W half sl (st.1 ar i) → Ok (f_Fold_turnOver_7 ar n W sl half (nI i + 1) (sI a ar i v)) P := by
      intro v hv
      rw [nI_1]
      refine ih _ ⟨hF.sI (by simp [inL]), fun x hx => ?_, fun x hx => ?_⟩
      · rw [sI_at]
        by_cases e : x = i
        · subst e; simp [hv]
        · simp only [e, and_false, reduceIte]; exact h1 x (by omega)
      · rw [sI_col _ _ _ _ (by omega)]; exact h2 x (by omega)
    show Ok (b_Fold_turnOver_7 ar (f_Fold_turnOver_7 ar n) W sl half (nI i) a) P
    unfold b_Fold_turnOver_7
    have hib : inb (nI i) 16 := inb_nI hi (by omega)
    refine ok_f (n16 hi) (ok_t hib ?_)
    rw [cl_nI (by omega), h2 i (Nat.le_refl _)]
    refine ok_if (fun c1 => ok_lt ?_) (fun c1 => ok_t hib (ok_lt (ok_if (fun c2 => ok_t hib (ok_lt ?_)) (fun c2 => ok_if (fun c3 => ok_t hib (ok_lt ?_)) (fun c3 => ok_t hib (ok_lt ?_))))))
    · have := nxt (st.1 ar i) (by unfold tvI; rw [if_pos c1])
      rw [sI_idem (h2 i (Nat.le_refl _))] at this
      exact this
    · exact nxt _ (by unfold tvI; rw [if_neg c1, if_pos c2])
    · exact nxt _ (by unfold tvI; rw [if_neg c1, if_neg c2, if_pos c3])
    · exact nxt _ (by unfold tvI; rw [if_neg c1, if_neg c2, if_neg c3])
  · intro n a hI
    show Ok (b_Fold_turnOver_7 ar (f_Fold_turnOver_7 ar n) W sl half (nI 16) a) P
    unfold b_Fold_turnOver_7
    exact ok_t (by decide) (ok_some (h a hI.1 hI.2.1))
/-- one side under one fold -/
def fo1 (W sl : Nat) (a : Nat) : Option Nat := if a < W / 2 then some a else if W - 1 - a + sl < W / 2 then some (W - 1 - a + sl) else none
theorem tvI_o {W sl : Nat} (hW : W ≤ 16) (hs : sl < 2) (o : Option Nat) (ho : ∀ a, o = some a → a < W) : tvI (nI W) (nI (W / 2)) (nI sl) (oI o) = oI (o.bind (fo1 W sl)) := by
  unfold tvI
  cases o with
  | none =>
    have : oI none < nI (W / 2) := by
      rw [i_lt, nI_T (by omega)]
      show (-1 : Int) < _
      omega
    rw [if_pos this]
    rfl
  | some a =>
    have ha := ho a rfl
    have e : nI W - 1 - oI (some a) + nI sl = nI (W - 1 - a + sl) := by
      show nI W - nI 1 - nI a + nI sl = _
      rw [pk_sub (by omega), pk_sub (by omega), nI_add]
    rw [e]
    show _ = oI (fo1 W sl a)
    unfold fo1 oI
    simp only
    rw [if_neg (nI_pos (by omega))]
    by_cases h1 : a < W / 2
    · rw [if_pos ((nI_ltI (by omega) (by omega)).mpr h1), if_pos h1]
    · rw [if_neg (fun z => h1 ((nI_ltI (by omega) (by omega)).mp z)), if_neg h1]
      by_cases h2 : W - 1 - a + sl < W / 2
      · rw [if_neg (fun z => by have := (nI_leI (by omega) (by omega)).mp z; omega), if_pos h2]
      · rw [if_pos ((nI_leI (by omega) (by omega)).mpr (by omega)), if_neg h2]
def hv : List Nat → Nat
  | [] => 0
  | f :: l => (if f = 100 then 0 else 1) + hv l
theorem hv_app : ∀ (l m : List Nat), hv (l ++ m) = hv l + hv m := by
  intro l
  induction l with
  | nil => intro m; simp [hv]
  | cons f l ih => intro m; simp only [List.cons_append, hv, ih]; omega
def zp (v : Wd) (a b : Option Nat) : Option Fq := a.bind (fun x => b.bind (fun y => some (x, y, v.1, v.2.1)))
def dg (b ds : Nat) (q : Fq) : Option Fq := if b = 0 then some q else cb 100 ds q
/-- what the class's folding holds behind folds l -/
def FoS (st : Mm) (f0 f1 f2 n : Nat) (l : List Nat) (sl : Nat → Nat) (v : Wd) : Prop :=
  st.1 f0 0 = nI n ∧ st.1 f0 1 = nI v.1 ∧ st.1 f0 2 = nI v.2.1 ∧ st.1 f0 3 = nI v.2.2 ∧ st.1 f0 5 = nI (2 ^ hv l) ∧ fds l (n, n, 0) = some v ∧ n ≤ 16 ∧ ∃ (ds : Nat) (gx gy : Nat → Option Nat), ds < 2 ∧ st.1 f0 4 = nI ds ∧ (∀ x, x < n → st.1 f1 x = oI (gx x)) ∧ (∀ x, x < n → st.1 f2 x = oI (gy x)) ∧ (∀ x, x < n → ∀ a, gx x = some a → a < v.1) ∧ (∀ x, x < n → ∀ a, gy x = some a → a < v.2.1) ∧ (∀ x y, x < n → y < n → cbs sl l 0 (x, y, n, n) = (zp v (gx x) (gy y)).bind (dg v.2.2 ds))
theorem FoS.same {st s2 : Mm} {f0 f1 f2 n : Nat} {l : List Nat} {sl : Nat → Nat} {v : Wd} (h : FoS st f0 f1 f2 n l sl v) (h0 : ∀ j, s2.1 f0 j = st.1 f0 j) (h1 : ∀ j, s2.1 f1 j = st.1 f1 j) (h2 : ∀ j, s2.1 f2 j = st.1 f2 j) : FoS s2 f0 f1 f2 n l sl v := by
  unfold FoS
  have e1 : s2.1 f1 = st.1 f1 := funext h1
  have e2 : s2.1 f2 = st.1 f2 := funext h2
  rw [h0, h0, h0, h0, h0, e1, e2]
  obtain ⟨a1, a2, a3, a4, a5, a6, a7, ds, gx, gy, b⟩ := h
  exact ⟨a1, a2, a3, a4, a5, a6, a7, ds, gx, gy, by rw [h0]; exact b⟩
theorem x_start_ok {st : Mm} {f0 f1 f2 n : Nat} {sl : Nat → Nat} {P : Unit × Mm → Prop} (h01 : f0 ≠ f1) (h02 : f0 ≠ f2) (h12 : f1 ≠ f2) (hn : n ≤ 16) (h : ∀ s2, Fr [(f0, none), (f1, none), (f2, none)] st s2 → FoS s2 f0 f1 f2 n [] sl (n, n, 0) → P ((), s2)) : Ok (f_Fold_start f0 f1 f2 (nI n) st) P := by
  unfold f_Fold_start
  obtain ⟨s0, hs0⟩ : ∃ z, z = (sI (sI (sI (sI (sI (sI st f0 0 (nI n)) f0 1 (nI n)) f0 2 (nI n)) f0 3 (0 : Int32)) f0 4 (0 : Int32)) f0 5 (1 : Int32)) := ⟨_, rfl⟩
  rw [← hs0]
  have hF0 : Fr [(f0, none), (f1, none), (f2, none)] st s0 := by
    rw [hs0]
    exact (((((Fr.rf.sI (by simp [inL])).sI (by simp [inL])).sI (by simp [inL])).sI (by simp [inL])).sI (by simp [inL])).sI (by simp [inL])
  refine ok_upF (f_Fold_start_32 f0 f1 f2) (fun i a => Fr [(f0, none), (f1, none), (f2, none)] st a ∧ (∀ j, a.1 f0 j = s0.1 f0 j) ∧ (∀ x, x < i → a.1 f1 x = nI x) ∧ (∀ x, x < i → a.1 f2 x = nI x)) P 16 (by omega) ⟨hF0, fun j => rfl, fun x hx => by omega, fun x hx => by omega⟩ ?_ ?_
  · intro m i a hi hI ih
    obtain ⟨hF, h1, h2, h3⟩ := hI
    show Ok (b_Fold_start_32 f0 f1 f2 (f_Fold_start_32 f0 f1 f2 m) (nI i) a) P
    unfold b_Fold_start_32
    have hib : inb (nI i) 16 := inb_nI hi (by omega)
    refine ok_f (n16 hi) (ok_t hib (ok_t hib (ok_lt ?_)))
    rw [nI_1, cl_nI (by omega)]
    refine ih _ ⟨(hF.sI (by simp [inL])).sI (by simp [inL]), fun j => ?_, fun x hx => ?_, fun x hx => ?_⟩
    · rw [sI_row _ _ _ _ h02, sI_row _ _ _ _ h01]; exact h1 j
    · rw [sI_row _ _ _ _ h12, sI_at]
      by_cases e : x = i
      · simp [e]
      · simp only [e, and_false, reduceIte]; exact h2 x (by omega)
    · rw [sI_at]
      by_cases e : x = i
      · simp [e]
      · simp only [e, and_false, reduceIte]; rw [sI_row _ _ _ _ h12.symm]; exact h3 x (by omega)
  · intro m a hI
    obtain ⟨hF, h1, h2, h3⟩ := hI
    show Ok (b_Fold_start_32 f0 f1 f2 (f_Fold_start_32 f0 f1 f2 m) (nI 16) a) P
    unfold b_Fold_start_32
    refine ok_t (by decide) (ok_some (h a hF ?_))
    have e : ∀ j, a.1 f0 j = if j = 5 then 1 else if j = 4 then 0 else if j = 3 then 0 else if j = 2 then nI n else if j = 1 then nI n else if j = 0 then nI n else st.1 f0 j := by
      intro j
      rw [h1, hs0]
      simp only [sI_at, true_and]
    refine ⟨by rw [e]; rfl, by rw [e]; rfl, by rw [e]; rfl, by rw [e]; rfl, by rw [e]; rfl, rfl, hn, 0, some, some, by omega, by rw [e]; rfl, fun x hx => ?_, fun x hx => ?_, fun x hx a ha => ?_, fun x hx a ha => ?_, fun x y hx hy => ?_⟩
    · exact h2 x (by omega)
    · exact h3 x (by omega)
    · cases ha; exact hx
    · cases ha; exact hx
    · rfl
theorem cbs_app (sl : Nat → Nat) (f : Nat) : ∀ (l : List Nat) (i : Nat) (q : Fq), cbs sl (l ++ [f]) i q = (cbs sl l i q).bind (cb f (sl (i + l.length))) := by
  intro l
  induction l with
  | nil =>
    intro i q
    simp only [List.nil_append, cbs, Option.bind_some, List.length_nil, Nat.add_zero]
    cases cb f (sl i) q <;> rfl
  | cons g l ih =>
    intro i q
    simp only [List.cons_append, cbs, List.length_cons]
    cases h : cb g (sl i) q with
    | none => rfl
    | some z =>
      simp only [Option.bind_some]
      rw [ih, show i + 1 + l.length = i + (l.length + 1) by omega]
theorem fds_app : ∀ (l : List Nat) (f : Nat) (w v : Wd), fds l w = some v → fds (l ++ [f]) w = fold1 f v := by
  intro l
  induction l with
  | nil =>
    intro f w v h
    cases h
    simp only [List.nil_append, fds]
    cases fold1 f w <;> rfl
  | cons g l ih =>
    intro f w v h
    simp only [fds] at h
    obtain ⟨u, h1, h2⟩ := Option.bind_eq_some_iff.mp h
    simp only [List.cons_append, fds, h1, Option.bind_some]
    exact ih f u v h2
theorem cb_h {sl a b W H : Nat} : cb 104 sl (a, b, W, H) = (fo1 W sl a).map (fun x => (x, b, W / 2, H)) := by
  unfold cb fo1
  simp only [reduceIte]
  by_cases h1 : a < W / 2
  · simp [h1]
  · simp only [h1, reduceIte]
    by_cases h2 : W - 1 - a + sl < W / 2
    · simp [h2]
    · simp [h2]
theorem cb_v {sl a b W H : Nat} : cb 118 sl (a, b, W, H) = (fo1 H sl b).map (fun y => (a, y, W, H / 2)) := by
  unfold cb fo1
  simp only [Nat.reduceEqDiff, reduceIte]
  by_cases h1 : b < H / 2
  · simp [h1]
  · simp only [h1, reduceIte]
    by_cases h2 : H - 1 - b + sl < H / 2
    · simp [h2]
    · simp [h2]
theorem fo1_lt {W sl a b : Nat} (h : fo1 W sl a = some b) : b < W / 2 := by
  unfold fo1 at h
  repeat' split at h
  all_goals first | (cases h; done) | (cases h; assumption)
theorem zp_h (W H ds sl : Nat) (o p : Option Nat) : ((zp (W, H, 0) o p).bind (dg 0 ds)).bind (cb 104 sl) = (zp (W / 2, H, 0) (o.bind (fo1 W sl)) p).bind (dg 0 ds) := by
  cases o with
  | none => rfl
  | some a =>
    cases p with
    | none => simp only [zp, Option.bind_some, Option.bind_none]; cases fo1 W sl a <;> rfl
    | some c =>
      simp only [zp, Option.bind_some, dg, reduceIte, cb_h]
      cases fo1 W sl a <;> rfl
theorem zp_v (W H ds sl : Nat) (o p : Option Nat) : ((zp (W, H, 0) o p).bind (dg 0 ds)).bind (cb 118 sl) = (zp (W, H / 2, 0) o (p.bind (fo1 H sl))).bind (dg 0 ds) := by
  cases o with
  | none => rfl
  | some a =>
    cases p with
    | none => rfl
    | some c =>
      simp only [zp, Option.bind_some, dg, reduceIte, cb_v]
      cases fo1 H sl c <;> rfl
theorem x_fold_ok {st : Mm} {f0 f1 f2 n : Nat} {l : List Nat} {sl : Nat → Nat} {v : Wd} {f : Nat} {P : Int32 × Mm → Prop} (h01 : f0 ≠ f1) (h02 : f0 ≠ f2) (h12 : f1 ≠ f2) (hS : FoS st f0 f1 f2 n l sl v) (hf : f = 104 ∨ f = 118 ∨ f = 100) (hs : sl l.length < 2)
    (h0 : fold1 f v = none → P (0, st)) (h1 : ∀ z, fold1 f v = some z → ∀ s2, Fr [(f0, none), (f1, none), (f2, none)] st s2 → FoS s2 f0 f1 f2 n (l ++ [f]) sl z → P (1, s2)) : Ok (f_Fold_fold f0 f1 f2 (nI f) (nI (sl l.length)) st) P := by
  obtain ⟨e0, e1, e2, e3, e5, hfd, hn, ds, gx, gy, hds, e4, hgx, hgy, lx, ly, hcb⟩ := hS
  obtain ⟨W, H, b⟩ := v
  simp only at e1 e2 e3 lx ly hcb
  have hle := fds_le l _ _ hfd
  simp only at hle
  have hb1 : b ≤ 1 := by omega
  have e1' : st.1 f0 1 = nI W := e1
  unfold f_Fold_fold
  refine okc_eq b 0 (fun cb0 => ?_) (fun cb0 => ?_) e3 rfl (by omega)
  · subst cb0
    rcases hf with rfl | rfl | rfl
    · refine ok_t rfl ?_
      refine okc_eq (W % 2) 0 (fun c1 => ?_) (fun c1 => ?_) (by rw [e1, an1 (by omega)]) rfl (by omega)
      · have hz : fold1 104 (W, H, 0) = some (W / 2, H, 0) := by simp [fold1, c1]
        refine ok_bind (x_turnOver_ok (half := nI (W / 2)) (by rw [e1, sh1 (by omega)]) (fun s1 hF1 hr1 => ?_))
        refine ok_lt (ok_lt (ok_some ?_))
        rw [hF1 f0 1 (by simp [inL, h01.symm]), e1, sh1 (by omega), sI_col _ _ _ _ (by decide), hF1 f0 5 (by simp [inL, h01.symm]), e5]
        refine h1 _ hz _ (((hF1.wk (by simp)).sI (by simp [inL])).sI (by simp [inL])) ?_
        have q0 : ∀ j, j ≠ 1 → j ≠ 5 → (sI (sI s1 f0 1 (nI (W / 2))) f0 5 (nI (2 ^ hv l) * 2)).1 f0 j = st.1 f0 j := fun j j1 j5 => by
          rw [sI_col _ _ _ _ j5, sI_col _ _ _ _ j1, hF1 f0 j (by simp [inL, h01.symm])]
        refine ⟨by rw [q0 0 (by decide) (by decide), e0], by rw [sI_col _ _ _ _ (by decide), sI_self], by rw [q0 2 (by decide) (by decide), e2], by rw [q0 3 (by decide) (by decide), e3], ?_, by rw [fds_app l 104 _ _ hfd, hz], hn, ds, fun x => (gx x).bind (fo1 W (sl l.length)), gy, hds, by rw [q0 4 (by decide) (by decide), e4], fun x hx => ?_, fun x hx => ?_, fun x hx a ha => ?_, ly, fun x y hx hy => ?_⟩
        · rw [sI_self, hv_app, show (2 : Int32) = nI 2 from rfl, pk_mul]; rfl
        · rw [sI_row _ _ _ _ h01.symm, sI_row _ _ _ _ h01.symm, hr1 x (by omega), hgx x hx, e1]
          exact tvI_o (by omega) hs _ (lx x hx)
        · rw [sI_row _ _ _ _ h02.symm, sI_row _ _ _ _ h02.symm, hF1 f2 x (by simp [inL, h12])]; exact hgy x hx
        · obtain ⟨a0, _, q2⟩ := Option.bind_eq_some_iff.mp ha
          exact fo1_lt q2
        · rw [cbs_app, hcb x y hx hy, Nat.zero_add]
          exact zp_h _ _ _ _ _ _
      · have hz : fold1 104 (W, H, 0) = none := by simp [fold1, show W % 2 = 1 by omega]
        unfold b_Fold_fold_58 b_Fold_fold_107
        exact ok_f (by decide) (ok_f (by decide) (ok_some (h0 hz)))
    · refine ok_f (by decide) ?_
      unfold b_Fold_fold_58
      refine ok_t rfl ?_
      refine okc_eq (H % 2) 0 (fun c1 => ?_) (fun c1 => ?_) (by rw [e2, an1 (by omega)]) rfl (by omega)
      · have hz : fold1 118 (W, H, 0) = some (W, H / 2, 0) := by simp [fold1, c1]
        refine ok_bind (x_turnOver_ok (half := nI (H / 2)) (by rw [e2, sh1 (by omega)]) (fun s1 hF1 hr1 => ?_))
        refine ok_lt (ok_lt (ok_some ?_))
        rw [hF1 f0 2 (by simp [inL, h02.symm]), e2, sh1 (by omega), sI_col _ _ _ _ (by decide), hF1 f0 5 (by simp [inL, h02.symm]), e5]
        refine h1 _ hz _ (((hF1.wk (by simp)).sI (by simp [inL])).sI (by simp [inL])) ?_
        have q0 : ∀ j, j ≠ 2 → j ≠ 5 → (sI (sI s1 f0 2 (nI (H / 2))) f0 5 (nI (2 ^ hv l) * 2)).1 f0 j = st.1 f0 j := fun j j1 j5 => by
          rw [sI_col _ _ _ _ j5, sI_col _ _ _ _ j1, hF1 f0 j (by simp [inL, h02.symm])]
        refine ⟨by rw [q0 0 (by decide) (by decide), e0], by rw [q0 1 (by decide) (by decide), e1'], by rw [sI_col _ _ _ _ (by decide), sI_self], by rw [q0 3 (by decide) (by decide), e3], ?_, by rw [fds_app l 118 _ _ hfd, hz], hn, ds, gx, fun y => (gy y).bind (fo1 H (sl l.length)), hds, by rw [q0 4 (by decide) (by decide), e4], fun x hx => ?_, fun x hx => ?_, lx, fun x hx a ha => ?_, fun x y hx hy => ?_⟩
        · rw [sI_self, hv_app, show (2 : Int32) = nI 2 from rfl, pk_mul]; rfl
        · rw [sI_row _ _ _ _ h01.symm, sI_row _ _ _ _ h01.symm, hF1 f1 x (by simp [inL, h12.symm])]; exact hgx x hx
        · rw [sI_row _ _ _ _ h02.symm, sI_row _ _ _ _ h02.symm, hr1 x (by omega), hgy x hx, e2]
          exact tvI_o (by omega) hs _ (ly x hx)
        · obtain ⟨a0, _, q2⟩ := Option.bind_eq_some_iff.mp ha
          exact fo1_lt q2
        · rw [cbs_app, hcb x y hx hy, Nat.zero_add]
          exact zp_v _ _ _ _ _ _
      · have hz : fold1 118 (W, H, 0) = none := by simp [fold1, show H % 2 = 1 by omega]
        unfold b_Fold_fold_107
        exact ok_f (by decide) (ok_some (h0 hz))
    · refine ok_f (by decide) ?_
      unfold b_Fold_fold_58
      refine ok_f (by decide) ?_
      unfold b_Fold_fold_107
      refine ok_t rfl ?_
      refine okc_eq W H (fun c1 => okc_lt W 2 (fun c2 => ok_some (h0 ?_)) (fun c2 => ok_some (h1 (W, H, 1) ?_ _ ((Fr.rf.sI (by simp [inL])).sI (by simp [inL])) ?_)) e1 rfl (by omega)) (fun c1 => ok_some (h0 ?_)) e1 e2 (by omega) (by omega)
      · simp [fold1, c1]; omega
      · simp [fold1, c1]; omega
      · have q0 : ∀ j, j ≠ 3 → j ≠ 4 → (sI (sI st f0 3 1) f0 4 (nI (sl l.length))).1 f0 j = st.1 f0 j := fun j j1 j5 => by
          rw [sI_col _ _ _ _ j5, sI_col _ _ _ _ j1]
        have hz : fold1 100 (W, H, 0) = some (W, H, 1) := by simp [fold1, c1]; omega
        refine ⟨by rw [q0 0 (by decide) (by decide), e0], by rw [q0 1 (by decide) (by decide), e1'], by rw [q0 2 (by decide) (by decide), e2], by rw [sI_col _ _ _ _ (by decide), sI_self]; rfl, ?_, by rw [fds_app l 100 _ _ hfd, hz], hn, sl l.length, gx, gy, hs, by rw [sI_self], fun x hx => ?_, fun x hx => ?_, lx, ly, fun x y hx hy => ?_⟩
        · rw [q0 5 (by decide) (by decide), e5, hv_app]; rfl
        · rw [sI_row _ _ _ _ h01.symm, sI_row _ _ _ _ h01.symm]; exact hgx x hx
        · rw [sI_row _ _ _ _ h02.symm, sI_row _ _ _ _ h02.symm]; exact hgy x hx
        · rw [cbs_app, hcb x y hx hy, Nat.zero_add]
          cases gx x with
          | none => rfl
          | some a =>
            cases gy y with
            | none => rfl
            | some c => rfl
      · simp [fold1, c1]
  · exact ok_some (h0 (by simp [fold1, cb0]))
