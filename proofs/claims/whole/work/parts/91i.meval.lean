/-! recipe: a condition asked by the reference -/
def csB (k16 : Int32 → Int32 → Int32 → Int32 → Mm → Option (Int32 × Mm)) (v2 v3 v4 a3 a5 a6 : Int32) (st : Mm) : Option (Int32 × Mm) :=
  if a3 = 0 then (b_m_comesTo_63 k16 v2 v3 v4 a6 a3 a5 st) else (if a3 = (1 : Int32) then (b_m_comesTo_63 k16 v2 v3 v4 a6 a3 a5 st) else (if a3 = (10 : Int32) then (if inb (v3 - (1 : Int32)) 180 then lt_ ((1 : Int32) - (st.1 70 (v3 - (1 : Int32)).toNatClampNeg)) (fun a11 => if inb (v3 - (1 : Int32)) 180 then k16 v2 v3 v4 a6 (sI st 70 (v3 - (1 : Int32)).toNatClampNeg a11) else none) else none) else (if a3 = (11 : Int32) then (b_m_comesTo_135 k16 v2 v3 v4 a6 a3 a5 st) else (if a3 = (12 : Int32) then (b_m_comesTo_135 k16 v2 v3 v4 a6 a3 a5 st) else (lt_ (v3 - (1 : Int32)) (fun a15 => if a3 = (5 : Int32) then (b_m_comesTo_192 k16 v2 a15 v4 a6 a3 st) else (if a3 = (6 : Int32) then (b_m_comesTo_192 k16 v2 a15 v4 a6 a3 st) else (b_m_comesTo_203 k16 v2 a15 v4 a6 a3 st))))))))
theorem cs_step {s : Mm} {f : Nat → Nat × Nat} {k L m : Nat} {v3 v4 : Int32} (hk : k < L) (hL : L ≤ 160) (h : s.1 68 k = enw (f k)) (hv : vld (f k)) : f_m_comesTo_16 (m + 1) (nI L) v3 v4 (nI k) s = csB (f_m_comesTo_16 m) (nI L) v3 v4 (nI (f k).1) (nI (f k).2) (nI (k + 1)) s := by
  show b_m_comesTo_16 (f_m_comesTo_16 m) (nI L) v3 v4 (nI k) s = _
  unfold b_m_comesTo_16
  rw [if_neg (by rw [nI_leI (by omega) (by omega)]; omega), if_pos (inb_nI (by omega) (by omega)), cl_nI (by omega), h, enw_div hv, lt_eq, if_pos (inb_nI (by omega) (by omega)), ← enw_div hv, enw_rem hv, lt_eq, nI_1, lt_eq, enw_div hv]
  rfl
def nrf (h n : Nat) : Nat := if h = 100 then 1 else n
/-- the reference's asking state -/
def HM (s0 s : Mm) (h n : Nat) (g : Nat → Int32) (tr : Bool) : Prop := Fr [(70, none)] s0 s ∧ (h ≠ 100 → ∀ j, j < n → s.1 70 j = g j) ∧ (h = 100 → s.1 70 0 = bI tr)
theorem m_evC_ok {f : Nat → Nat × Nat} {L : Nat} {s0 : Mm} {fc : Nat → Int32} (hC : CdO f L) (h68 : ∀ j, j < L → s0.1 68 j = enw (f j)) (hfc : ∀ j, j < 7 → s0.1 71 j = fc j) : ∀ r k n g tr m s h, L + 1 ≤ k + r → k ≤ L → hts f k = some h → (h = 100 → n = 0) → (h ≠ 100 → n = h) → HM s0 s h n g tr → r ≤ m → Ok (f_m_comesTo_16 m (nI L) (nI (nrf h n)) 0 (nI k) s) (fun q => q.1 = bI (evC f fc L r k n g tr) ∧ Fr [(70, none)] s0 q.2) := by
  have hL := hC.1
  intro r
  induction r with
  | zero => intro k n g tr m s h hr hk; omega
  | succ r ih =>
    intro k n g tr m s h hr hk hh hn1 hn2 hX hm
    obtain ⟨m, rfl⟩ := nat_suc (show 0 + 1 ≤ m by omega)
    by_cases hkL : L ≤ k
    · rw [evC_end hkL]
      have ek : k = L := by omega
      have e100 : h = 100 := by rw [ek, hC.2.1] at hh; exact (Option.some.inj hh).symm
      show Ok (b_m_comesTo_16 (f_m_comesTo_16 m) (nI L) _ 0 (nI k) s) _
      unfold b_m_comesTo_16
      exact ok_t (nI_le hkL (by omega)) (ok_some ⟨hX.2.2 e100, hX.1⟩)
    obtain ⟨h1, h2, q1, q2, q3⟩ := hC.at (show k < L by omega)
    have e1 : h1 = h := by rw [hh] at q1; exact (Option.some.inj q1).symm
    subst e1
    have hst := stp_inv q3
    have hle := hts_le q1
    have hle2 := hts_le q2
    have hv := hC.2.2.1 k (by omega)
    have e68 : s.1 68 k = enw (f k) := by rw [hX.1 68 k rfl]; exact h68 k (by omega)
    rw [cs_step (f := f) (by omega) hL e68 ⟨by have := hv.1; omega, hv.2.1⟩]
    obtain ⟨⟨a, b⟩, eab⟩ : ∃ x : Nat × Nat, x = f k := ⟨_, rfl⟩
    rw [← eab] at hst hv q3 ⊢
    have eab2 := eab.symm
    have hv1 : a ≤ 12 := hv.1
    have hv3 : a = 1 → b ≤ 6 := hv.2.2
    have hst : (a ≤ 1 ∧ h1 < 40 ∧ h2 = h1 + 1) ∨ (2 ≤ a ∧ a ≤ 6 ∧ 2 ≤ h1 ∧ h1 < 100 ∧ h2 = h1 - 1) ∨ (7 ≤ a ∧ a ≤ 9 ∧ h1 = 2 ∧ h2 = 100) ∨ (a = 10 ∧ h1 = 100 ∧ h2 = 100) ∨ (11 ≤ a ∧ h1 = 100 ∧ h2 = 0) := hst
    have nx : ∀ s2 n2 g2 tr2 k2 h3 x, x = nrf h3 n2 → HM s0 s2 h3 n2 g2 tr2 → k < k2 → k2 ≤ L → hts f k2 = some h3 → (h3 = 100 → n2 = 0) → (h3 ≠ 100 → n2 = h3) → Ok (f_m_comesTo_16 m (nI L) (nI x) 0 (nI k2) s2) (fun q => q.1 = bI (evC f fc L r k2 n2 g2 tr2) ∧ Fr [(70, none)] s0 q.2) := by
      intro s2 n2 g2 tr2 k2 h3 x ex hX2 u1 u2 u3 u4 u5
      rw [ex]
      exact ih k2 n2 g2 tr2 m s2 h3 (by omega) u2 u3 u4 u5 hX2 (by omega)
    have jm : 11 ≤ a → k < b ∧ b ≤ L ∧ hts f b = some 100 := fun ha => by
      have := hC.2.2.2 k (by omega) (by omega) (by unfold jmp; rw [← eab]; show a = 11 ∨ a = 12; omega)
      rw [← eab] at this
      exact this
    have nr1 : h1 = 100 → nrf h1 n = 1 := fun e => by unfold nrf; rw [if_pos e]
    have nrn : h1 ≠ 100 → nrf h1 n = n := fun e => by unfold nrf; rw [if_neg e]
    have pu : ∀ v, a ≤ 1 → lvI fc (a, b) = v → Ok (f_m_comesTo_16 m (nI L) (nI (n + 1)) 0 (nI (k + 1)) (sI s 70 n v)) (fun q => q.1 = bI (evC f fc L r (k + 1) (n + 1) (upd g n (lvI fc (a, b))) tr) ∧ Fr [(70, none)] s0 q.2) := by
      intro v ha ev
      have en : n = h1 := hn2 (by omega)
      refine nx _ (n + 1) _ tr (k + 1) h2 _ (by unfold nrf; rw [if_neg (by omega)]) ⟨hX.1.sI (by simp [inL]), fun _ j hj => ?_, fun e => by omega⟩ (by omega) (by omega) q2 (fun e => by omega) (fun e => by omega)
      rw [ev, upd_at]
      by_cases e : j = n
      · rw [e, sI_self, if_pos rfl]
      · rw [sI_col _ _ _ _ e, if_neg e]; exact hX.2.1 (by omega) j (by omega)
    have bn : 2 ≤ a → a ≤ 9 → n = h1 ∧ 2 ≤ n ∧ n ≤ 40 ∧ h1 ≠ 100 := fun u1 u2 => by
      have en : n = h1 := hn2 (by omega)
      omega
    have rk : 2 ≤ a → a ≤ 6 → f_m_reckon (nI a) (g (n - 2)) (g (n - 1)) s = some (rknI a (g (n - 2)) (g (n - 1)), s) → Ok (b_m_comesTo_203 (f_m_comesTo_16 m) (nI L) (nI (n - 1)) 0 (nI (k + 1)) (nI a) s) (fun q => q.1 = bI (evC f fc L r (k + 1) (n - 1) (upd g (n - 2) (rknI a (g (n - 2)) (g (n - 1)))) tr) ∧ Fr [(70, none)] s0 q.2) := by
      intro u1 u2 er
      have bb := bn u1 (by omega)
      unfold b_m_comesTo_203
      rw [show nI (n - 1) - (1 : Int32) = nI (n - 2) from by rw [show nI (n - 1) - (1 : Int32) = nI (n - 1 - 1) from pk_sub (b := 1) (by omega), show n - 1 - 1 = n - 2 by omega]]
      refine ok_t (inb_nI (by omega) (by omega)) (ok_t (inb_nI (by omega) (by omega)) ?_)
      rw [cl_nI (show n - 2 < 2147483648 by omega), cl_nI (show n - 1 < 2147483648 by omega), hX.2.1 bb.2.2.2 _ (by omega), hX.2.1 bb.2.2.2 _ (by omega)]
      refine ok_bind (ok_eq er (ok_t (inb_nI (by omega) (by omega)) ?_))
      refine nx _ (n - 1) _ tr (k + 1) h2 _ (by unfold nrf; rw [if_neg (by omega)]) ⟨hX.1.sI (by simp [inL]), fun _ j hj => ?_, fun e => by omega⟩ (by omega) (by omega) q2 (fun e => by omega) (fun e => by omega)
      rw [upd_at]
      by_cases e : j = n - 2
      · rw [e, sI_self, if_pos rfl]
      · rw [sI_col _ _ _ _ e, if_neg e]; exact hX.2.1 bb.2.2.2 j (by omega)
    have rl : 7 ≤ a → a ≤ 9 → f_m_reckon (nI a) (g (n - 2)) (g (n - 1)) s = some (bI (relB a (g (n - 2)) (g (n - 1))), s) → Ok (b_m_comesTo_203 (f_m_comesTo_16 m) (nI L) (nI (n - 1)) 0 (nI (k + 1)) (nI a) s) (fun q => q.1 = bI (evC f fc L r (k + 1) (n - 2) g (relB a (g (n - 2)) (g (n - 1)))) ∧ Fr [(70, none)] s0 q.2) := by
      intro u1 u2 er
      have bb := bn (by omega) u2
      have e2 : n = 2 := by omega
      unfold b_m_comesTo_203
      rw [show nI (n - 1) - (1 : Int32) = nI (n - 2) from by rw [show nI (n - 1) - (1 : Int32) = nI (n - 1 - 1) from pk_sub (b := 1) (by omega), show n - 1 - 1 = n - 2 by omega]]
      refine ok_t (inb_nI (by omega) (by omega)) (ok_t (inb_nI (by omega) (by omega)) ?_)
      rw [cl_nI (show n - 2 < 2147483648 by omega), cl_nI (show n - 1 < 2147483648 by omega), hX.2.1 bb.2.2.2 _ (by omega), hX.2.1 bb.2.2.2 _ (by omega)]
      refine ok_bind (ok_eq er (ok_t (inb_nI (by omega) (by omega)) ?_))
      refine nx _ (n - 2) g _ (k + 1) h2 _ (by unfold nrf; rw [if_pos (by omega)]; omega) ⟨hX.1.sI (by simp [inL]), fun e => by omega, fun _ => ?_⟩ (by omega) (by omega) q2 (fun e => by omega) (fun e => by omega)
      rw [show n - 2 = 0 by omega, sI_self]
    unfold csB
    rcases (show a = 0 ∨ a = 1 ∨ a = 2 ∨ a = 3 ∨ a = 4 ∨ a = 5 ∨ a = 6 ∨ a = 7 ∨ a = 8 ∨ a = 9 ∨ a = 10 ∨ a = 11 ∨ a = 12 by omega) with rfl | rfl | rfl | rfl | rfl | rfl | rfl | rfl | rfl | rfl | rfl | rfl | rfl
    · rw [evC_push eab2 hkL (by omega), if_pos (show nI 0 = (0 : Int32) from rfl)]
      have en : n = h1 := hn2 (by omega)
      unfold b_m_comesTo_63
      rw [nrn (by omega), if_pos (show nI 0 = (0 : Int32) from rfl), if_pos (inb_nI (by omega) (by omega)), cl_nI (by omega), nI_1, lt_eq]
      exact pu _ (by omega) rfl
    · rw [evC_push eab2 hkL (by omega), if_neg (show ¬ nI 1 = (0 : Int32) by decide), if_pos (show nI 1 = (1 : Int32) from rfl)]
      have en : n = h1 := hn2 (by omega)
      have hb := hv3 rfl
      unfold b_m_comesTo_63
      rw [nrn (by omega), if_neg (show ¬ nI 1 = (0 : Int32) by decide), if_pos (inb_nI (show b < 7 by omega) (by omega)), cl_nI (show b < 2147483648 by omega), hX.1 71 b rfl, hfc b (by omega), lt_eq, if_pos (inb_nI (by omega) (by omega)), cl_nI (by omega), nI_1, lt_eq]
      exact pu _ (by omega) rfl
    · rw [evC_op eab2 hkL (by omega) (by omega) (fun e => by omega), if_neg (show ¬ nI 2 = (0 : Int32) by decide), if_neg (show ¬ nI 2 = (1 : Int32) by decide), if_neg (show ¬ nI 2 = (10 : Int32) by decide), if_neg (show ¬ nI 2 = (11 : Int32) by decide), if_neg (show ¬ nI 2 = (12 : Int32) by decide), lt_eq, if_neg (show ¬ nI 2 = (5 : Int32) by decide), if_neg (show ¬ nI 2 = (6 : Int32) by decide), nrn (bn (by omega) (by omega)).2.2.2, show nI n - (1 : Int32) = nI (n - 1) from pk_sub (b := 1) (by have := bn (by omega) (by omega); omega)]
      exact rk (by omega) (by omega) rfl
    · rw [evC_op eab2 hkL (by omega) (by omega) (fun e => by omega), if_neg (show ¬ nI 3 = (0 : Int32) by decide), if_neg (show ¬ nI 3 = (1 : Int32) by decide), if_neg (show ¬ nI 3 = (10 : Int32) by decide), if_neg (show ¬ nI 3 = (11 : Int32) by decide), if_neg (show ¬ nI 3 = (12 : Int32) by decide), lt_eq, if_neg (show ¬ nI 3 = (5 : Int32) by decide), if_neg (show ¬ nI 3 = (6 : Int32) by decide), nrn (bn (by omega) (by omega)).2.2.2, show nI n - (1 : Int32) = nI (n - 1) from pk_sub (b := 1) (by have := bn (by omega) (by omega); omega)]
      exact rk (by omega) (by omega) rfl
    · rw [evC_op eab2 hkL (by omega) (by omega) (fun e => by omega), if_neg (show ¬ nI 4 = (0 : Int32) by decide), if_neg (show ¬ nI 4 = (1 : Int32) by decide), if_neg (show ¬ nI 4 = (10 : Int32) by decide), if_neg (show ¬ nI 4 = (11 : Int32) by decide), if_neg (show ¬ nI 4 = (12 : Int32) by decide), lt_eq, if_neg (show ¬ nI 4 = (5 : Int32) by decide), if_neg (show ¬ nI 4 = (6 : Int32) by decide), nrn (bn (by omega) (by omega)).2.2.2, show nI n - (1 : Int32) = nI (n - 1) from pk_sub (b := 1) (by have := bn (by omega) (by omega); omega)]
      exact rk (by omega) (by omega) rfl
    · have bb := bn (by omega) (by omega)
      rw [if_neg (show ¬ nI 5 = (0 : Int32) by decide), if_neg (show ¬ nI 5 = (1 : Int32) by decide), if_neg (show ¬ nI 5 = (10 : Int32) by decide), if_neg (show ¬ nI 5 = (11 : Int32) by decide), if_neg (show ¬ nI 5 = (12 : Int32) by decide), lt_eq, if_pos (show nI 5 = (5 : Int32) from rfl), nrn bb.2.2.2, show nI n - (1 : Int32) = nI (n - 1) from pk_sub (b := 1) (by omega)]
      unfold b_m_comesTo_192
      refine ok_t (inb_nI (by omega) (by omega)) ?_
      rw [cl_nI (by omega), hX.2.1 bb.2.2.2 _ (by omega)]
      by_cases hz : g (n - 1) = 0
      · rw [evC_op0 eab2 hkL (by omega) (by omega) hz]
        exact ok_t hz (ok_some ⟨rfl, hX.1⟩)
      · rw [evC_op eab2 hkL (by omega) (by omega) (fun e => hz e.2)]
        refine ok_f hz (rk (by omega) (by omega) ?_)
        unfold f_m_reckon
        rw [if_neg (show ¬ nI 5 = (2 : Int32) by decide), if_neg (show ¬ nI 5 = (3 : Int32) by decide), if_neg (show ¬ nI 5 = (4 : Int32) by decide), if_pos (show nI 5 = (5 : Int32) from rfl), if_pos hz]
        rfl
    · have bb := bn (by omega) (by omega)
      rw [if_neg (show ¬ nI 6 = (0 : Int32) by decide), if_neg (show ¬ nI 6 = (1 : Int32) by decide), if_neg (show ¬ nI 6 = (10 : Int32) by decide), if_neg (show ¬ nI 6 = (11 : Int32) by decide), if_neg (show ¬ nI 6 = (12 : Int32) by decide), lt_eq, if_neg (show ¬ nI 6 = (5 : Int32) by decide), if_pos (show nI 6 = (6 : Int32) from rfl), nrn bb.2.2.2, show nI n - (1 : Int32) = nI (n - 1) from pk_sub (b := 1) (by omega)]
      unfold b_m_comesTo_192
      refine ok_t (inb_nI (by omega) (by omega)) ?_
      rw [cl_nI (by omega), hX.2.1 bb.2.2.2 _ (by omega)]
      by_cases hz : g (n - 1) = 0
      · rw [evC_op0 eab2 hkL (by omega) (by omega) hz]
        exact ok_t hz (ok_some ⟨rfl, hX.1⟩)
      · rw [evC_op eab2 hkL (by omega) (by omega) (fun e => hz e.2)]
        refine ok_f hz (rk (by omega) (by omega) ?_)
        unfold f_m_reckon
        rw [if_neg (show ¬ nI 6 = (2 : Int32) by decide), if_neg (show ¬ nI 6 = (3 : Int32) by decide), if_neg (show ¬ nI 6 = (4 : Int32) by decide), if_neg (show ¬ nI 6 = (5 : Int32) by decide), if_pos (show nI 6 = (6 : Int32) from rfl), if_pos hz]
        rfl
    · rw [evC_rel eab2 hkL (by omega) (by omega), if_neg (show ¬ nI 7 = (0 : Int32) by decide), if_neg (show ¬ nI 7 = (1 : Int32) by decide), if_neg (show ¬ nI 7 = (10 : Int32) by decide), if_neg (show ¬ nI 7 = (11 : Int32) by decide), if_neg (show ¬ nI 7 = (12 : Int32) by decide), lt_eq, if_neg (show ¬ nI 7 = (5 : Int32) by decide), if_neg (show ¬ nI 7 = (6 : Int32) by decide), nrn (bn (by omega) (by omega)).2.2.2, show nI n - (1 : Int32) = nI (n - 1) from pk_sub (b := 1) (by have := bn (by omega) (by omega); omega)]
      refine rl (by omega) (by omega) ?_
      unfold f_m_reckon relB
      rw [if_neg (show ¬ nI 7 = (2 : Int32) by decide), if_neg (show ¬ nI 7 = (3 : Int32) by decide), if_neg (show ¬ nI 7 = (4 : Int32) by decide), if_neg (show ¬ nI 7 = (5 : Int32) by decide), if_neg (show ¬ nI 7 = (6 : Int32) by decide), if_pos (show nI 7 = (7 : Int32) from rfl), if_pos (show 7 = 7 from rfl)]
      by_cases hc : g (n - 1) ≤ g (n - 2)
      · rw [if_pos hc, decide_eq_true hc]; rfl
      · rw [if_neg hc, decide_eq_false hc]; rfl
    · rw [evC_rel eab2 hkL (by omega) (by omega), if_neg (show ¬ nI 8 = (0 : Int32) by decide), if_neg (show ¬ nI 8 = (1 : Int32) by decide), if_neg (show ¬ nI 8 = (10 : Int32) by decide), if_neg (show ¬ nI 8 = (11 : Int32) by decide), if_neg (show ¬ nI 8 = (12 : Int32) by decide), lt_eq, if_neg (show ¬ nI 8 = (5 : Int32) by decide), if_neg (show ¬ nI 8 = (6 : Int32) by decide), nrn (bn (by omega) (by omega)).2.2.2, show nI n - (1 : Int32) = nI (n - 1) from pk_sub (b := 1) (by have := bn (by omega) (by omega); omega)]
      refine rl (by omega) (by omega) ?_
      unfold f_m_reckon relB
      rw [if_neg (show ¬ nI 8 = (2 : Int32) by decide), if_neg (show ¬ nI 8 = (3 : Int32) by decide), if_neg (show ¬ nI 8 = (4 : Int32) by decide), if_neg (show ¬ nI 8 = (5 : Int32) by decide), if_neg (show ¬ nI 8 = (6 : Int32) by decide), if_neg (show ¬ nI 8 = (7 : Int32) by decide), if_pos (show nI 8 = (8 : Int32) from rfl), if_neg (show ¬ 8 = 7 by omega), if_pos (show 8 = 8 from rfl)]
      by_cases hc : g (n - 2) ≤ g (n - 1)
      · rw [if_pos hc, decide_eq_true hc]; rfl
      · rw [if_neg hc, decide_eq_false hc]; rfl
    · rw [evC_rel eab2 hkL (by omega) (by omega), if_neg (show ¬ nI 9 = (0 : Int32) by decide), if_neg (show ¬ nI 9 = (1 : Int32) by decide), if_neg (show ¬ nI 9 = (10 : Int32) by decide), if_neg (show ¬ nI 9 = (11 : Int32) by decide), if_neg (show ¬ nI 9 = (12 : Int32) by decide), lt_eq, if_neg (show ¬ nI 9 = (5 : Int32) by decide), if_neg (show ¬ nI 9 = (6 : Int32) by decide), nrn (bn (by omega) (by omega)).2.2.2, show nI n - (1 : Int32) = nI (n - 1) from pk_sub (b := 1) (by have := bn (by omega) (by omega); omega)]
      refine rl (by omega) (by omega) ?_
      unfold f_m_reckon relB
      rw [if_neg (show ¬ nI 9 = (2 : Int32) by decide), if_neg (show ¬ nI 9 = (3 : Int32) by decide), if_neg (show ¬ nI 9 = (4 : Int32) by decide), if_neg (show ¬ nI 9 = (5 : Int32) by decide), if_neg (show ¬ nI 9 = (6 : Int32) by decide), if_neg (show ¬ nI 9 = (7 : Int32) by decide), if_neg (show ¬ nI 9 = (8 : Int32) by decide), if_neg (show ¬ 9 = 7 by omega), if_neg (show ¬ 9 = 8 by omega)]
      by_cases hc : g (n - 2) = g (n - 1)
      · rw [if_pos hc, decide_eq_true hc]; rfl
      · rw [if_neg hc, decide_eq_false hc]; rfl
    · rw [evC_not eab2 hkL, if_neg (show ¬ nI 10 = (0 : Int32) by decide), if_neg (show ¬ nI 10 = (1 : Int32) by decide), if_pos (show nI 10 = (10 : Int32) from rfl), nr1 (by omega)]
      refine ok_t (show inb (nI 0) 180 from inb_nI (by omega) (by omega)) (ok_lt (ok_t (show inb (nI 0) 180 from inb_nI (by omega) (by omega)) ?_))
      show Ok (f_m_comesTo_16 m (nI L) (nI 1) 0 (nI (k + 1)) (sI s 70 0 (1 - s.1 70 0))) _
      rw [hX.2.2 (by omega), show (1 : Int32) - bI tr = bI (!tr) from by cases tr <;> rfl]
      exact nx _ n g (!tr) (k + 1) h2 _ (by unfold nrf; rw [if_pos (by omega)]) ⟨hX.1.sI (by simp [inL]), fun e => by omega, fun _ => sI_self _ _ _ _⟩ (by omega) (by omega) q2 (fun _ => hn1 (by omega)) (fun e => by omega)
    · have hj := jm (by omega)
      have en : n = 0 := hn1 (by omega)
      rw [evC_and eab2 hkL, if_neg (show ¬ nI 11 = (0 : Int32) by decide), if_neg (show ¬ nI 11 = (1 : Int32) by decide), if_neg (show ¬ nI 11 = (10 : Int32) by decide), if_pos (show nI 11 = (11 : Int32) from rfl), nr1 (by omega)]
      unfold b_m_comesTo_135 b_m_comesTo_155
      refine ok_t (show inb (nI 0) 180 from inb_nI (by omega) (by omega)) (ok_f (show ¬ nI 11 = (12 : Int32) by decide) ?_)
      show Ok (if s.1 70 0 = 0 then lt_ (0 + nI b) (fun a2 => f_m_comesTo_16 m (nI L) (nI 1) 0 a2 s) else lt_ (nI 1 - 1) (fun a3 => f_m_comesTo_16 m (nI L) a3 0 (nI (k + 1)) s)) _
      rw [hX.2.2 (by omega), Int32.zero_add, show nI 1 - (1 : Int32) = nI 0 from rfl, lt_eq, lt_eq]
      cases tr with
      | false => exact ok_t rfl (nx s n g false b 100 _ rfl ⟨hX.1, fun e => by omega, fun _ => hX.2.2 (by omega)⟩ hj.1 hj.2.1 hj.2.2 (fun _ => en) (fun e => by omega))
      | true => exact ok_f nbt (nx s n g true (k + 1) h2 _ (by unfold nrf; rw [if_neg (by omega)]; omega) ⟨hX.1, fun _ j hj => by omega, fun e => by omega⟩ (by omega) (by omega) q2 (fun e => by omega) (fun e => by omega))
    · have hj := jm (by omega)
      have en : n = 0 := hn1 (by omega)
      rw [evC_or eab2 hkL, if_neg (show ¬ nI 12 = (0 : Int32) by decide), if_neg (show ¬ nI 12 = (1 : Int32) by decide), if_neg (show ¬ nI 12 = (10 : Int32) by decide), if_neg (show ¬ nI 12 = (11 : Int32) by decide), if_pos (show nI 12 = (12 : Int32) from rfl), nr1 (by omega)]
      unfold b_m_comesTo_135 b_m_comesTo_155
      refine ok_t (show inb (nI 0) 180 from inb_nI (by omega) (by omega)) (ok_t rfl ?_)
      show Ok (if s.1 70 0 = 1 then lt_ (0 + nI b) (fun a2 => f_m_comesTo_16 m (nI L) (nI 1) 0 a2 s) else lt_ (nI 1 - 1) (fun a3 => f_m_comesTo_16 m (nI L) a3 0 (nI (k + 1)) s)) _
      rw [hX.2.2 (by omega), Int32.zero_add, show nI 1 - (1 : Int32) = nI 0 from rfl, lt_eq, lt_eq]
      cases tr with
      | false => exact ok_f (by decide) (nx s n g false (k + 1) h2 _ (by unfold nrf; rw [if_neg (by omega)]; omega) ⟨hX.1, fun _ j hj => by omega, fun e => by omega⟩ (by omega) (by omega) q2 (fun e => by omega) (fun e => by omega))
      | true => exact ok_t rfl (nx s n g true b 100 _ rfl ⟨hX.1, fun e => by omega, fun _ => hX.2.2 (by omega)⟩ hj.1 hj.2.1 hj.2.2 (fun _ => en) (fun e => by omega))
