/-! recipe: sums, as the reference reads them -/
def facG (v : Int32) : Int32 := if v = 104 then (3 : Int32) else if v = 105 then (-1 : Int32) else if v = 106 then (-1 : Int32) else if v = 107 then (-1 : Int32) else if v = 108 then (4 : Int32) else if v = 109 then (-1 : Int32) else if v = 110 then (5 : Int32) else if v = 111 then (-1 : Int32) else if v = 112 then (-1 : Int32) else if v = 113 then (-1 : Int32) else if v = 114 then (-1 : Int32) else if v = 115 then (-1 : Int32) else if v = 116 then (-1 : Int32) else if v = 117 then (-1 : Int32) else if v = 118 then (-1 : Int32) else if v = 119 then (2 : Int32) else if v = 120 then (0 : Int32) else if v = 121 then (1 : Int32) else if v = 122 then (6 : Int32) else -1
theorem m_factOf_eq (v : Int32) (s : Mm) : f_m_factOf v s = some (facG v, s) := by
  unfold f_m_factOf facG
  by_cases h104 : v = 104
  · rw [if_pos h104, if_pos h104]
  rw [if_neg h104, if_neg h104]
  by_cases h105 : v = 105
  · rw [if_pos h105, if_pos h105]
  rw [if_neg h105, if_neg h105]
  by_cases h106 : v = 106
  · rw [if_pos h106, if_pos h106]
  rw [if_neg h106, if_neg h106]
  by_cases h107 : v = 107
  · rw [if_pos h107, if_pos h107]
  rw [if_neg h107, if_neg h107]
  by_cases h108 : v = 108
  · rw [if_pos h108, if_pos h108]
  rw [if_neg h108, if_neg h108]
  by_cases h109 : v = 109
  · rw [if_pos h109, if_pos h109]
  rw [if_neg h109, if_neg h109]
  by_cases h110 : v = 110
  · rw [if_pos h110, if_pos h110]
  rw [if_neg h110, if_neg h110]
  by_cases h111 : v = 111
  · rw [if_pos h111, if_pos h111]
  rw [if_neg h111, if_neg h111]
  by_cases h112 : v = 112
  · rw [if_pos h112, if_pos h112]
  rw [if_neg h112, if_neg h112]
  by_cases h113 : v = 113
  · rw [if_pos h113, if_pos h113]
  rw [if_neg h113, if_neg h113]
  by_cases h114 : v = 114
  · rw [if_pos h114, if_pos h114]
  rw [if_neg h114, if_neg h114]
  by_cases h115 : v = 115
  · rw [if_pos h115, if_pos h115]
  rw [if_neg h115, if_neg h115]
  by_cases h116 : v = 116
  · rw [if_pos h116, if_pos h116]
  rw [if_neg h116, if_neg h116]
  by_cases h117 : v = 117
  · rw [if_pos h117, if_pos h117]
  rw [if_neg h117, if_neg h117]
  by_cases h118 : v = 118
  · rw [if_pos h118, if_pos h118]
  rw [if_neg h118, if_neg h118]
  by_cases h119 : v = 119
  · rw [if_pos h119, if_pos h119]
  rw [if_neg h119, if_neg h119]
  by_cases h120 : v = 120
  · rw [if_pos h120, if_pos h120]
  rw [if_neg h120, if_neg h120]
  by_cases h121 : v = 121
  · rw [if_pos h121, if_pos h121]
  rw [if_neg h121, if_neg h121]
  by_cases h122 : v = 122
  · rw [if_pos h122, if_pos h122]
  rw [if_neg h122, if_neg h122]
def fctN (c : Nat) : Option Nat := if c = 120 then some 0 else if c = 121 then some 1 else if c = 119 then some 2 else if c = 104 then some 3 else if c = 108 then some 4 else if c = 110 then some 5 else if c = 122 then some 6 else none
theorem facG_N : ∀ c, c < 256 → facG (nI c) = oI (fctN c) := by decide +kernel
theorem facG_ch {T : Txt} (p : Nat) (hT : TxO T) : facG (chI T p) = oI (fctN (chn T p)) := by
  unfold chI chn
  by_cases h : p < T.1
  · rw [if_pos h, if_pos h]; exact facG_N _ (hT.2 p)
  · rw [if_neg h, if_neg h]; decide
theorem fctN_le {c k : Nat} (h : fctN c = some k) : k ≤ 6 ∧ c < 256 ∧ 91 < c := by
  unfold fctN at h
  repeat' split at h
  all_goals first | (cases h; omega) | cases h
def CL (P : Int32 × Mm → Prop) (base p : Nat) (s : Mm) : Prop := ∀ m, 1000 ≤ m + p → Ok (f_m_readsSum_14 m (nI base) s) P
def CF (P : Int32 × Mm → Prop) (base p : Nat) (s : Mm) : Prop := ∀ n m, 1000 ≤ n + p → 1000 ≤ m + p → Ok ((f_m_readsFactor_0 n s).bind (fun q => if q.1 = 0 then some ((0 : Int32), q.2) else f_m_readsSum_14 m (nI base) q.2)) P
theorem CM.note2 {s0 s : Mm} {p o L : Nat} {x : Nat × Nat} {σ : List (Nat × Nat)} {f : Nat → Nat × Nat} (h : CM s0 s p o σ L f) (hp : p + 1 ≤ 160) (hx : vld x) : CM s0 (sI (sI (sI s 66 L (enw x)) 58 24 (nI (L + 1))) 58 20 (nI (p + 1))) (p + 1) o σ (L + 1) (uc f L x) := by
  obtain ⟨a1, a2, a3, a4, a5, a6, a7, a8, a9, a10⟩ := h
  refine ⟨((a1.sI (by simp [inL, LRm])).sI rfl).sI rfl, sI_self _ _ _ _, by rw [sI_col _ _ _ _ (by decide), sI_col _ _ _ _ (by decide), sI_row _ _ _ _ (by decide)]; exact a3, by rw [sI_col _ _ _ _ (by decide), sI_col _ _ _ _ (by decide), sI_row _ _ _ _ (by decide)]; exact a4, a5.keep (fun j _ => by rw [sI_row _ _ _ _ (by decide), sI_row _ _ _ _ (by decide), sI_row _ _ _ _ (by decide)]), by rw [sI_col _ _ _ _ (by decide), sI_self], fun j hj => ?_, by omega, by omega, hp⟩
  rw [sI_row _ _ _ _ (by decide), sI_row _ _ _ _ (by decide)]
  by_cases e : j = L
  · rw [e, sI_self, uc_s]; exact ⟨rfl, hx⟩
  · rw [sI_col _ _ _ _ e, uc_n _ _ e]; exact a7 j (by omega)
/-! digits -/
def numV (T : Txt) (p : Nat) : Nat → Nat
  | 0 => 0
  | k + 1 => 10 * numV T p k + (chn T (p + k) - 48)
def dRun (T : Txt) (p k : Nat) : Prop := ∀ i, i < k → isD T (p + i) = true
theorem numV_lt {T : Txt} {p : Nat} : ∀ k, dRun T p k → numV T p k < 10 ^ k
  | 0, _ => by show 0 < 1; omega
  | k + 1, h => by
    have h1 := numV_lt k (fun i hi => h i (by omega))
    have h2 := isD_t (h k (by omega))
    show 10 * numV T p k + (chn T (p + k) - 48) < 10 ^ (k + 1)
    rw [Nat.pow_succ]
    omega
theorem dig_step {T : Txt} {p k : Nat} (h : isD T (p + k) = true) : (10 : Int32) * nI (numV T p k) + nI (chn T (p + k)) - (48 : Int32) = nI (numV T p (k + 1)) := by
  have h2 := isD_t h
  rw [i_lit 10, i_lit 48, pk_mul, nI_add, pk_sub (by omega)]
  congr 1
  show _ = 10 * numV T p k + (chn T (p + k) - 48)
  omega
theorem m_num_t {T : Txt} {s0 s : Mm} {p o L k : Nat} {σ : List (Nat × Nat)} {f : Nat → Nat × Nat} (hE : EM T s0) (h : CM s0 s p o σ L f) (hd : dRun T p k) (hk : k ≤ 5) (hn : isD T (p + k) = false) : ∃ s2, f_m_readsNumber s = some (1, s2) ∧ CM s0 s2 (p + k) o σ L f ∧ s2.1 58 26 = nI (numV T p k) := by
  have hp0 := h.2.2.2.2.2.2.2.2.2
  have lp : ∀ r i N s, i + r = k → r + 1 ≤ N → CM s0 s (p + i) o σ L f → s.1 58 26 = nI (numV T p i) → ∃ s2, f_m_readsNumber_10 N (nI p) s = some (1, s2) ∧ CM s0 s2 (p + k) o σ L f ∧ s2.1 58 26 = nI (numV T p k) := by
    intro r
    induction r with
    | zero =>
      intro i N s hi hN h h26
      obtain ⟨N, rfl⟩ := nat_suc hN
      have e : i = k := by omega
      subst e
      refine ⟨s, ?_, h, h26⟩
      show b_m_readsNumber_10 (f_m_readsNumber_10 N) (nI p) s = _
      unfold b_m_readsNumber_10
      rw [m_digT hE.2.2 (h.here hE), hn]
      rfl
    | succ r ih =>
      intro i N s hi hN h h26
      obtain ⟨N, rfl⟩ := nat_suc hN
      have hdi := hd i (by omega)
      have hd2 := isD_t hdi
      have hin := ch_in (show chn T (p + i) < 256 by omega)
      have h160 := hE.2.2.1
      have h2 := (h.num (v := nI (numV T p (i + 1)))).pos (p2 := p + (i + 1)) (by omega) (by omega)
      obtain ⟨s3, e3, h3, h4⟩ := ih (i + 1) N _ (by omega) (by omega) h2 (by rw [sI_col _ _ _ _ (by decide), sI_self])
      refine ⟨s3, ?_, h3, h4⟩
      rw [← e3]
      show b_m_readsNumber_10 (f_m_readsNumber_10 N) (nI p) s = _
      unfold b_m_readsNumber_10
      rw [m_digT hE.2.2 (h.here hE), hdi]
      simp only [Option.bind_some]
      rw [if_neg (by decide), h.2.1, i_lit 5, nI_add, if_neg (by rw [nI_eq (by omega) (by omega)]; omega), h.here hE]
      simp only [Option.bind_some]
      rw [ch_I (by omega), h26, dig_step hdi, lt_eq, sI_col _ _ _ _ (show 20 ≠ 26 by decide), h.2.1, nI_1, lt_eq]
      rfl
  unfold f_m_readsNumber
  rw [lt_eq, h.2.1]
  exact lp k 0 1000000 _ (by omega) (by omega) h.num (sI_self _ _ _ _)
theorem m_num_f {T : Txt} {s0 s : Mm} {p o L : Nat} {σ : List (Nat × Nat)} {f : Nat → Nat × Nat} (hE : EM T s0) (h : CM s0 s p o σ L f) (hd : dRun T p 6) : ∃ s2, f_m_readsNumber s = some (0, s2) ∧ FM s0 s2 2 (p + 5) := by
  have hp0 := h.2.2.2.2.2.2.2.2.2
  have lp : ∀ r i N s, i + r = 5 → r + 1 ≤ N → CM s0 s (p + i) o σ L f → s.1 58 26 = nI (numV T p i) → ∃ s2, f_m_readsNumber_10 N (nI p) s = some (0, s2) ∧ FM s0 s2 2 (p + 5) := by
    intro r
    induction r with
    | zero =>
      intro i N s hi hN h h26
      obtain ⟨N, rfl⟩ := nat_suc hN
      have e : i = 5 := by omega
      subst e
      refine ⟨_, ?_, m_wrong_ok (q := 2) (a := p + 5) h⟩
      show b_m_readsNumber_10 (f_m_readsNumber_10 N) (nI p) s = _
      unfold b_m_readsNumber_10 b_m_readsNumber_27
      rw [m_digT hE.2.2 (h.here hE), hd 5 (by omega)]
      simp only [Option.bind_some]
      rw [if_neg (by decide), h.2.1, i_lit 5, nI_add, if_pos rfl, m_wrong_eq]
      rfl
    | succ r ih =>
      intro i N s hi hN h h26
      obtain ⟨N, rfl⟩ := nat_suc hN
      have hdi := hd i (by omega)
      have hd2 := isD_t hdi
      have hin := ch_in (show chn T (p + i) < 256 by omega)
      have h160 := hE.2.2.1
      have h2 := (h.num (v := nI (numV T p (i + 1)))).pos (p2 := p + (i + 1)) (by omega) (by omega)
      obtain ⟨s3, e3, h3⟩ := ih (i + 1) N _ (by omega) (by omega) h2 (by rw [sI_col _ _ _ _ (by decide), sI_self])
      refine ⟨s3, ?_, h3⟩
      rw [← e3]
      show b_m_readsNumber_10 (f_m_readsNumber_10 N) (nI p) s = _
      unfold b_m_readsNumber_10
      rw [m_digT hE.2.2 (h.here hE), hdi]
      simp only [Option.bind_some]
      rw [if_neg (by decide), h.2.1, i_lit 5, nI_add, if_neg (by rw [nI_eq (by omega) (by omega)]; omega), h.here hE]
      simp only [Option.bind_some]
      rw [ch_I (by omega), h26, dig_step hdi, lt_eq, sI_col _ _ _ _ (show 20 ≠ 26 by decide), h.2.1, nI_1, lt_eq]
      rfl
  unfold f_m_readsNumber
  rw [lt_eq, h.2.1]
  exact lp 5 0 1000000 _ (by omega) (by omega) h.num (sI_self _ _ _ _)
/-! what a factor, a term, a sum is to the reference -/
def RFac (s0 : Mm) (p L : Nat) (f : Nat → Nat × Nat) (o p2 L2 : Nat) (f2 : Nat → Nat × Nat) : Prop := ∀ base σ s P, base ≤ σ.length → CM s0 s p o σ L f → (∀ s2, CM s0 s2 p2 o σ L2 f2 → CL P base p2 s2) → CF P base p s
def RFacF (s0 : Mm) (p L : Nat) (f : Nat → Nat × Nat) (o q a : Nat) : Prop := ∀ base σ s P, base ≤ σ.length → CM s0 s p o σ L f → (∀ s2, FM s0 s2 q a → P (0, s2)) → CF P base p s
def RTrm (s0 : Mm) (p L : Nat) (f : Nat → Nat × Nat) (o p2 L2 : Nat) (f2 : Nat → Nat × Nat) : Prop := ∀ base σ s P, base ≤ σ.length → topN (cloS false) σ → CM s0 s p o σ L f → (∀ s2 pt L3 f3, (∀ x, x ∈ pt → cloS false x.1 = true) → L2 = L3 + pt.length → f2 = emit f3 L3 pt → CM s0 s2 p2 o (pt ++ σ) L3 f3 → CL P base p2 s2) → CF P base p s
def RTrmF (s0 : Mm) (p L : Nat) (f : Nat → Nat × Nat) (o q a : Nat) : Prop := ∀ base σ s P, base ≤ σ.length → topN (cloS false) σ → CM s0 s p o σ L f → (∀ s2, FM s0 s2 q a → P (0, s2)) → CF P base p s
def RSum (s0 : Mm) (p L : Nat) (f : Nat → Nat × Nat) (o p2 L2 : Nat) (f2 : Nat → Nat × Nat) : Prop := ∀ base σ s P, base ≤ σ.length → topN (cloS true) σ → CM s0 s p o σ L f → (∀ s2 pd L3 f3, (∀ x, x ∈ pd → cloS true x.1 = true) → L2 = L3 + pd.length → f2 = emit f3 L3 pd → CM s0 s2 p2 o (pd ++ σ) L3 f3 → CL P base p2 s2) → CF P base p s
def RSumF (s0 : Mm) (p L : Nat) (f : Nat → Nat × Nat) (o q a : Nat) : Prop := ∀ base σ s P, base ≤ σ.length → topN (cloS true) σ → CM s0 s p o σ L f → (∀ s2, FM s0 s2 q a → P (0, s2)) → CF P base p s
def opS (c a : Nat) : Prop := (c = 43 ∧ a = 2) ∨ (c = 45 ∧ a = 3) ∨ (c = 42 ∧ a = 4) ∨ (c = 47 ∧ a = 5) ∨ (c = 37 ∧ a = 6)
def notSg (c : Nat) : Prop := c ≠ 43 ∧ c ≠ 45 ∧ c ≠ 42 ∧ c ≠ 47 ∧ c ≠ 37
theorem m_sign_t {c a : Nat} (h : opS c a) (s : Mm) : f_m_sumSign (nI c) s = some (nI a, s) := by
  rcases h with ⟨rfl, rfl⟩ | ⟨rfl, rfl⟩ | ⟨rfl, rfl⟩ | ⟨rfl, rfl⟩ | ⟨rfl, rfl⟩ <;> rfl
theorem m_sign_f {T : Txt} {p : Nat} (hT : TxO T) (h : notSg (chn T p)) (s : Mm) : f_m_sumSign (chI T p) s = some (-1, s) := by
  unfold f_m_sumSign
  rw [if_neg (show ¬ chI T p = (43 : Int32) from fun e => h.1 ((chI_eq hT (by omega)).mp (show chI T p = nI 43 from e))), if_neg (show ¬ chI T p = (45 : Int32) from fun e => h.2.1 ((chI_eq hT (by omega)).mp (show chI T p = nI 45 from e))), if_neg (show ¬ chI T p = (42 : Int32) from fun e => h.2.2.1 ((chI_eq hT (by omega)).mp (show chI T p = nI 42 from e))), if_neg (show ¬ chI T p = (47 : Int32) from fun e => h.2.2.2.1 ((chI_eq hT (by omega)).mp (show chI T p = nI 47 from e))), if_neg (show ¬ chI T p = (37 : Int32) from fun e => h.2.2.2.2 ((chI_eq hT (by omega)).mp (show chI T p = nI 37 from e)))]
theorem pd_le {s0 s : Mm} {p o L : Nat} {pd σ : List (Nat × Nat)} {f : Nat → Nat × Nat} (h : CM s0 s p o (pd ++ σ) L f) : pd.length + σ.length ≤ 160 := by
  have h8 := h.2.2.2.2.2.2.2.1
  have h10 := h.2.2.2.2.2.2.2.2.2
  rw [List.length_append] at h8
  omega
theorem cl_sign {T : Txt} {s0 s : Mm} {p o L a base : Nat} {pd σ : List (Nat × Nat)} {f : Nat → Nat × Nat} {P : Int32 × Mm → Prop} (hE : EM T s0) (h : CM s0 s p o (pd ++ σ) L f) (hc : opS (chn T p) a) (hpd : ∀ x, x ∈ pd → cloS (decide (a < 4)) x.1 = true) (ht : topN (cloS (decide (a < 4))) σ) (hL : L + pd.length ≤ p) (hk : ∀ s2, CM s0 s2 (p + 1) o ((a, 0) :: σ) (L + pd.length) (emit f L pd) → CF P base (p + 1) s2) : CL P base p s := by
  intro m hm
  have hlen := pd_le h
  have hp := h.2.2.2.2.2.2.2.2.2
  obtain ⟨m, rfl⟩ := nat_suc (show 0 + 1 ≤ m by omega)
  have c256 : chn T p < 256 := by unfold opS at hc; omega
  have ha : 2 ≤ a ∧ a ≤ 6 := by unfold opS at hc; omega
  have hin := ch_in c256
  have h160 := hE.2.2.1
  show Ok (b_m_readsSum_14 (f_m_readsSum_14 m) (nI base) s) P
  unfold b_m_readsSum_14
  refine ok_bind (ok_eq (h.here hE) ?_)
  rw [ch_I c256]
  refine ok_bind (ok_eq (m_sign_t hc s) (ok_f (nI_nm1 (by omega)) ?_))
  obtain ⟨s2, e2, h2⟩ := m_closes_ok ht pd 1000000 s L f h hpd hL (by omega)
  have go : Ok (b_m_readsSum_38 (f_m_readsSum_14 m) (nI base) (nI a) (bI (decide (a < 4))) s) P := by
    unfold b_m_readsSum_38
    refine ok_bind (ok_eq e2 (ok_lt ?_))
    have h8 := h2.2.2.2.2.2.2.2.1
    rw [enw_mk0, h2.2.2.2.1]
    refine ok_t (inb_nI (by omega) (by omega)) (ok_lt (ok_lt ?_))
    rw [cl_nI (by omega), sI_row _ _ _ _ (show 58 ≠ 67 by decide), h2.2.2.2.1, nI_1, sI_col _ _ _ _ (show 20 ≠ 25 by decide), sI_row _ _ _ _ (show 58 ≠ 67 by decide), h2.2.1, nI_1]
    exact hk _ (h2.push (x := (a, 0)) (by omega) ⟨show a ≤ 14 by omega, show 0 < 1048576 by omega⟩) 1000000 m (by omega) (by omega)
  refine okc_le 4 a (fun h4 => ?_) (fun h4 => ?_)
  · rw [decide_eq_false (show ¬ a < 4 by omega)] at go; exact go
  · rw [decide_eq_true h4] at go; exact go
theorem cl_close {T : Txt} {s0 s : Mm} {p o L base : Nat} {pd σ : List (Nat × Nat)} {f : Nat → Nat × Nat} {P : Int32 × Mm → Prop} (hE : EM T s0) (h : CM s0 s p (o + 1) (pd ++ (14, 0) :: σ) L f) (hc : chn T p = 93) (hpd : ∀ x, x ∈ pd → cloS true x.1 = true) (hb : base ≤ σ.length) (hL : L + pd.length ≤ p) (hk : ∀ s2, CM s0 s2 (p + 1) o σ (L + pd.length) (emit f L pd) → CL P base (p + 1) s2) : CL P base p s := by
  intro m hm
  have hlen := pd_le h
  rw [List.length_cons] at hlen
  have hp := h.2.2.2.2.2.2.2.2.2
  obtain ⟨m, rfl⟩ := nat_suc (show 0 + 1 ≤ m by omega)
  have hin := ch_in (show chn T p < 256 by omega)
  have h160 := hE.2.2.1
  show Ok (b_m_readsSum_14 (f_m_readsSum_14 m) (nI base) s) P
  unfold b_m_readsSum_14
  refine ok_bind (ok_eq (h.here hE) ?_)
  refine ok_bind (ok_eq (m_sign_f hE.2.2 (by unfold notSg; omega) s) (ok_t rfl ?_))
  refine ok_bind (ok_eq (h.here hE) (okc_ch hE.2.2 93 (fun _ => ?_) (fun e => absurd hc e)))
  refine ok_bind (ok_eq (m_hos_t h hb (by rw [List.length_append, List.length_cons]; omega) (by rw [wsA_mid])) (ok_f ne10 ?_))
  obtain ⟨s2, e2, h2⟩ := m_closes_ok (all := true) (σ := (14, 0) :: σ) rfl pd 1000000 s L f h hpd hL (by omega)
  refine ok_bind (ok_eq e2 (ok_lt (ok_lt (ok_lt ?_))))
  rw [h2.2.2.2.1, List.length_cons, nI_pred, sI_col _ _ _ _ (show 23 ≠ 25 by decide), h2.2.2.1, nI_pred, sI_col _ _ _ _ (show 20 ≠ 23 by decide), sI_col _ _ _ _ (show 20 ≠ 25 by decide), h2.2.1, nI_1]
  exact hk _ ((h2.pop.opn (o2 := o)).pos (by omega) (by omega)) m (by omega)
theorem cl_bad {T : Txt} {s0 s : Mm} {p o L base : Nat} {pd σ : List (Nat × Nat)} {f : Nat → Nat × Nat} {P : Int32 × Mm → Prop} (hE : EM T s0) (h : CM s0 s p o (pd ++ (14, 0) :: σ) L f) (hc : notSg (chn T p)) (hc2 : chn T p ≠ 93) (hb : base ≤ σ.length) (hk : ∀ s2, FM s0 s2 1 p → P (0, s2)) : CL P base p s := by
  intro m hm
  have hp := h.2.2.2.2.2.2.2.2.2
  obtain ⟨m, rfl⟩ := nat_suc (show 0 + 1 ≤ m by omega)
  show Ok (b_m_readsSum_14 (f_m_readsSum_14 m) (nI base) s) P
  unfold b_m_readsSum_14 b_m_readsSum_138
  refine ok_bind (ok_eq (h.here hE) ?_)
  refine ok_bind (ok_eq (m_sign_f hE.2.2 hc s) (ok_t rfl ?_))
  refine ok_bind (ok_eq (h.here hE) (okc_ch hE.2.2 93 (fun e => absurd e hc2) (fun _ => ?_)))
  refine ok_bind (ok_eq (m_hos_t h hb (by rw [List.length_append, List.length_cons]; omega) (by rw [wsA_mid])) (ok_f ne10 ?_))
  rw [h.2.1]
  exact ok_bind (ok_eq (m_wrong_eq _ _ _) (ok_t (Or.inl rfl) (ok_some (hk _ (m_wrong_ok (q := 1) (a := p) h)))))
theorem cl_end {T : Txt} {s0 s : Mm} {p o L : Nat} {pd σ : List (Nat × Nat)} {f : Nat → Nat × Nat} {P : Int32 × Mm → Prop} (hE : EM T s0) (h : CM s0 s p o (pd ++ σ) L f) (hc : notSg (chn T p)) (hpd : ∀ x, x ∈ pd → cloS true x.1 = true) (ht : topN (cloS true) σ) (hL : L + pd.length ≤ p) (hk : ∀ s2, CM s0 s2 p o σ (L + pd.length) (emit f L pd) → P (1, s2)) : CL P σ.length p s := by
  intro m hm
  have hlen := pd_le h
  have hp := h.2.2.2.2.2.2.2.2.2
  obtain ⟨m, rfl⟩ := nat_suc (show 0 + 1 ≤ m by omega)
  have hh : f_m_hasOpenSum (nI σ.length) s = some (0, s) := m_hos_f h (fun k k1 k2 e => by
    have := hpd _ (wsA_in pd σ k k1 k2)
    rw [e] at this
    cases this) (by rw [List.length_append]; omega)
  obtain ⟨s2, e2, h2⟩ := m_closes_ok ht pd 1000000 s L f h hpd hL (by omega)
  have last : Ok (b_m_readsSum_138 (nI σ.length) s) P := by
    unfold b_m_readsSum_138
    refine ok_bind (ok_eq hh (ok_t rfl ?_))
    exact ok_bind (ok_eq e2 (ok_some (hk _ h2)))
  show Ok (b_m_readsSum_14 (f_m_readsSum_14 m) (nI σ.length) s) P
  unfold b_m_readsSum_14
  refine ok_bind (ok_eq (h.here hE) ?_)
  refine ok_bind (ok_eq (m_sign_f hE.2.2 hc s) (ok_t rfl ?_))
  refine ok_bind (ok_eq (h.here hE) (okc_ch hE.2.2 93 (fun _ => ?_) (fun _ => last)))
  exact ok_bind (ok_eq hh (ok_t rfl last))
/-! factors -/
theorem fac_num {T : Txt} {s0 : Mm} {p L o k : Nat} {f : Nat → Nat × Nat} (hE : EM T s0) (hk0 : 0 < k) (hd : dRun T p k) (hk : k ≤ 5) (hn : isD T (p + k) = false) : RFac s0 p L f o (p + k) (L + 1) (uc f L (0, numV T p k)) := fun base σ s P hb h hc n m hn1 hm1 => by
  have hp := h.2.2.2.2.2.2.2.2.2
  have hL := h.2.2.2.2.2.2.2.2.1
  have hd0 := hd 0 hk0
  have hd2 := isD_t hd0
  rw [Nat.add_zero] at hd0 hd2
  obtain ⟨n, rfl⟩ := nat_suc (show 0 + 1 ≤ n by omega)
  obtain ⟨s2, e2, h2, h3⟩ := m_num_t hE h hd hk hn
  have hv := numV_lt k hd
  have hv2 : 10 ^ k ≤ 10 ^ 5 := Nat.pow_le_pow_right (by decide) hk
  show Ok ((b_m_readsFactor_0 (f_m_readsFactor_0 n) s).bind _) P
  unfold b_m_readsFactor_0 b_m_readsFactor_20
  refine ok_bind (ok_bind (ok_eq (h.here hE) (okc_ch hE.2.2 91 (fun e => by omega) (fun _ => ?_))))
  refine ok_bind (ok_eq (m_digT hE.2.2 (h.here hE)) ?_)
  rw [hd0]
  refine ok_f nbt (ok_bind (ok_eq e2 (ok_f ne10 ?_)))
  rw [h3]
  refine ok_bind (ok_eq (m_notes_eq (a := 0) (b := numV T p k) (L := L) h2.2.2.2.2.2.1 (by omega)) (ok_some (ok_f ne10 ?_)))
  exact hc _ (h2.note (x := (0, numV T p k)) (by omega) ⟨show 0 ≤ 14 by omega, show numV T p k < 1048576 by omega⟩) m (by omega)
theorem fac_numF {T : Txt} {s0 : Mm} {p L o : Nat} {f : Nat → Nat × Nat} (hE : EM T s0) (hd : dRun T p 6) : RFacF s0 p L f o 2 (p + 5) := fun base σ s P hb h hc n m hn1 hm1 => by
  have hp := h.2.2.2.2.2.2.2.2.2
  have hd0 := hd 0 (by omega)
  have hd2 := isD_t hd0
  rw [Nat.add_zero] at hd0 hd2
  obtain ⟨n, rfl⟩ := nat_suc (show 0 + 1 ≤ n by omega)
  obtain ⟨s2, e2, h2⟩ := m_num_f hE h hd
  show Ok ((b_m_readsFactor_0 (f_m_readsFactor_0 n) s).bind _) P
  unfold b_m_readsFactor_0 b_m_readsFactor_20
  refine ok_bind (ok_bind (ok_eq (h.here hE) (okc_ch hE.2.2 91 (fun e => by omega) (fun _ => ?_))))
  refine ok_bind (ok_eq (m_digT hE.2.2 (h.here hE)) ?_)
  rw [hd0]
  exact ok_f nbt (ok_bind (ok_eq e2 (ok_t rfl (ok_some (ok_t rfl (ok_some (hc _ h2)))))))
theorem fac_let {T : Txt} {s0 : Mm} {p L o k : Nat} {f : Nat → Nat × Nat} (hE : EM T s0) (hk : fctN (chn T p) = some k) : RFac s0 p L f o (p + 1) (L + 1) (uc f L (1, k)) := fun base σ s P hb h hc n m hn1 hm1 => by
  have hp := h.2.2.2.2.2.2.2.2.2
  have hL := h.2.2.2.2.2.2.2.2.1
  have hk2 := fctN_le hk
  have hin := ch_in hk2.2.1
  have h160 := hE.2.2.1
  obtain ⟨n, rfl⟩ := nat_suc (show 0 + 1 ≤ n by omega)
  have hnd : isD T p = false := by
    unfold isD
    rw [decide_eq_false (show ¬ chn T p ≤ 57 by omega), Bool.and_false]
  show Ok ((b_m_readsFactor_0 (f_m_readsFactor_0 n) s).bind _) P
  unfold b_m_readsFactor_0 b_m_readsFactor_20
  refine ok_bind (ok_bind (ok_eq (h.here hE) (okc_ch hE.2.2 91 (fun e => by omega) (fun _ => ?_))))
  refine ok_bind (ok_eq (m_digT hE.2.2 (h.here hE)) ?_)
  rw [hnd]
  refine ok_t rfl (ok_bind (ok_eq (h.here hE) ?_))
  refine ok_bind (ok_eq (m_factOf_eq _ _) ?_)
  rw [facG_ch p hE.2.2, hk]
  refine ok_f (nI_nm1 (by omega)) ?_
  refine ok_bind (ok_eq (m_notes_eq (a := 1) (b := k) (L := L) h.2.2.2.2.2.1 (by omega)) (ok_lt (ok_some (ok_f ne10 ?_))))
  show Ok (f_m_readsSum_14 m (nI base) _) P
  rw [sI_col _ _ _ _ (show 20 ≠ 24 by decide), sI_row _ _ _ _ (show 58 ≠ 66 by decide), h.2.1, nI_1]
  have hn := h.note2 (x := (1, k)) (by omega) ⟨show 1 ≤ 14 by omega, show k < 1048576 by omega⟩
  exact hc _ hn m (by omega)
theorem fac_letF {T : Txt} {s0 : Mm} {p L o : Nat} {f : Nat → Nat × Nat} (hE : EM T s0) (hk : fctN (chn T p) = none) (hnd : isD T p = false) (h91 : chn T p ≠ 91) : RFacF s0 p L f o 1 p := fun base σ s P hb h hc n m hn1 hm1 => by
  have hp := h.2.2.2.2.2.2.2.2.2
  obtain ⟨n, rfl⟩ := nat_suc (show 0 + 1 ≤ n by omega)
  show Ok ((b_m_readsFactor_0 (f_m_readsFactor_0 n) s).bind _) P
  unfold b_m_readsFactor_0 b_m_readsFactor_20
  refine ok_bind (ok_bind (ok_eq (h.here hE) (okc_ch hE.2.2 91 (fun e => absurd e h91) (fun _ => ?_))))
  refine ok_bind (ok_eq (m_digT hE.2.2 (h.here hE)) ?_)
  rw [hnd]
  refine ok_t rfl (ok_bind (ok_eq (h.here hE) ?_))
  refine ok_bind (ok_eq (m_factOf_eq _ _) ?_)
  rw [facG_ch p hE.2.2, hk]
  refine ok_t rfl ?_
  rw [h.2.1]
  exact ok_bind (ok_eq (m_wrong_eq _ _ _) (ok_t (Or.inl rfl) (ok_some (ok_t rfl (ok_some (hc _ (m_wrong_ok (q := 1) (a := p) h)))))))
theorem fac_step {T : Txt} {s0 s : Mm} {p L o base : Nat} {σ : List (Nat × Nat)} {f : Nat → Nat × Nat} {P : Int32 × Mm → Prop} (hE : EM T s0) (h : CM s0 s p o σ L f) (hc : chn T p = 91) (ho : o < 6) (hk : ∀ s2, CM s0 s2 (p + 1) (o + 1) ((14, 0) :: σ) L f → CF P base (p + 1) s2) : CF P base p s := fun n m hn1 hm1 => by
  have hp := h.2.2.2.2.2.2.2.2.2
  have hin := ch_in (show chn T p < 256 by omega)
  have h160 := hE.2.2.1
  obtain ⟨n, rfl⟩ := nat_suc (show 0 + 1 ≤ n by omega)
  obtain ⟨s2, e2, h2⟩ := m_opens_t (a := 14) h ho (by omega) (by omega)
  have := hk s2 h2 n m (by omega) (by omega)
  have e : f_m_readsFactor_0 (n + 1) s = f_m_readsFactor_0 n s2 := by
    show b_m_readsFactor_0 (f_m_readsFactor_0 n) s = _
    unfold b_m_readsFactor_0
    rw [h.here hE]
    simp only [Option.bind_some]
    rw [if_pos (show chI T p = (91 : Int32) from (chI_eq hE.2.2 (c := 91) (by omega)).mpr hc), show f_m_opens (14 : Int32) s = _ from e2]
    rfl
  rw [e]
  exact this
theorem fac_open {T : Txt} {s0 : Mm} {p L o p2 L2 : Nat} {f f2 : Nat → Nat × Nat} (hE : EM T s0) (hc : chn T p = 91) (ho : o < 6) (hs : RSum s0 (p + 1) L f (o + 1) p2 L2 f2) (hc2 : chn T p2 = 93) (hL : L2 ≤ p2) : RFac s0 p L f o (p2 + 1) L2 f2 := fun base σ s P hb h hk => fac_step hE h hc ho (fun s2 h2 => hs base ((14, 0) :: σ) s2 P (show base ≤ σ.length + 1 by omega) rfl h2 (fun s3 pd L3 f3 q1 q2 q3 h3 => cl_close hE h3 hc2 q1 hb (by omega) (fun s4 h4 => hk s4 (by rw [q2, q3]; exact h4))))
theorem fac_openF5 {T : Txt} {s0 : Mm} {p L o : Nat} {f : Nat → Nat × Nat} (hE : EM T s0) (hc : chn T p = 91) (ho : o = 6) : RFacF s0 p L f o 5 p := fun base σ s P hb h hk n m hn1 hm1 => by
  have hp := h.2.2.2.2.2.2.2.2.2
  obtain ⟨n, rfl⟩ := nat_suc (show 0 + 1 ≤ n by omega)
  obtain ⟨s2, e2, h2⟩ := m_opens_f h ho (14 : Int32)
  show Ok ((b_m_readsFactor_0 (f_m_readsFactor_0 n) s).bind _) P
  unfold b_m_readsFactor_0
  refine ok_bind (ok_bind (ok_eq (h.here hE) (okc_ch hE.2.2 91 (fun _ => ?_) (fun e => absurd hc e))))
  exact ok_bind (ok_eq e2 (ok_t rfl (ok_some (ok_t rfl (ok_some (hk _ h2))))))
theorem fac_openF {T : Txt} {s0 : Mm} {p L o q a : Nat} {f : Nat → Nat × Nat} (hE : EM T s0) (hc : chn T p = 91) (ho : o < 6) (hs : RSumF s0 (p + 1) L f (o + 1) q a) : RFacF s0 p L f o q a := fun base σ s P hb h hk => fac_step hE h hc ho (fun s2 h2 => hs base ((14, 0) :: σ) s2 P (show base ≤ σ.length + 1 by omega) rfl h2 hk)
theorem fac_openF1 {T : Txt} {s0 : Mm} {p L o p2 L2 : Nat} {f f2 : Nat → Nat × Nat} (hE : EM T s0) (hc : chn T p = 91) (ho : o < 6) (hs : RSum s0 (p + 1) L f (o + 1) p2 L2 f2) (hc2 : chn T p2 ≠ 93) (hc3 : notSg (chn T p2)) : RFacF s0 p L f o 1 p2 := fun base σ s P hb h hk => fac_step hE h hc ho (fun s2 h2 => hs base ((14, 0) :: σ) s2 P (show base ≤ σ.length + 1 by omega) rfl h2 (fun s3 pd L3 f3 q1 q2 q3 h3 => cl_bad hE h3 hc3 hc2 hb hk))
/-! terms, sums -/
theorem trm_of {s0 : Mm} {p L o p2 L2 : Nat} {f f2 : Nat → Nat × Nat} (h : RFac s0 p L f o p2 L2 f2) : RTrm s0 p L f o p2 L2 f2 := fun base σ s P hb _ hm hk => h base σ s P hb hm (fun s2 h2 => hk s2 [] L2 f2 (fun x hx => by cases hx) rfl rfl h2)
theorem trm_ofF {s0 : Mm} {p L o q a : Nat} {f : Nat → Nat × Nat} (h : RFacF s0 p L f o q a) : RTrmF s0 p L f o q a := fun base σ s P hb _ hm hk => h base σ s P hb hm hk
theorem op_hi {c a : Nat} (h : opS c a) (h4 : 4 ≤ a) : cloS false a = true := by
  unfold opS at h
  unfold cloS
  rw [decide_eq_true h4, decide_eq_true (show a ≤ 6 by omega)]; rfl
theorem op_all {c a : Nat} (h : opS c a) : cloS true a = true := by
  rcases h with ⟨_, rfl⟩ | ⟨_, rfl⟩ | ⟨_, rfl⟩ | ⟨_, rfl⟩ | ⟨_, rfl⟩ <;> rfl
theorem clo_up {a : Nat} (h : cloS false a = true) : cloS true a = true := by
  unfold cloS at h ⊢
  rw [Bool.or_eq_true] at h ⊢
  rcases h with h | h
  · exact Or.inl h
  · cases h
theorem top_dn {σ : List (Nat × Nat)} (h : topN (cloS true) σ) : topN (cloS false) σ := by
  cases σ with
  | nil => trivial
  | cons x r =>
    show cloS false x.1 = false
    have h2 : cloS true x.1 = false := h
    cases hh : cloS false x.1 with
    | false => rfl
    | true => rw [clo_up hh] at h2; cases h2
theorem trm_ext {T : Txt} {s0 : Mm} {p L o p2 L2 p3 L3 a : Nat} {f f2 f3 : Nat → Nat × Nat} (hE : EM T s0) (h : RTrm s0 p L f o p2 L2 f2) (hc : opS (chn T p2) a) (ha : 4 ≤ a) (hL : L2 ≤ p2) (h2 : RFac s0 (p2 + 1) L2 f2 o p3 L3 f3) : RTrm s0 p L f o p3 (L3 + 1) (uc f3 L3 (a, 0)) := fun base σ s P hb ht hm hk => h base σ s P hb ht hm (fun s2 pt L4 f4 q1 q2 q3 h3 => cl_sign hE h3 hc (by rw [decide_eq_false (show ¬ a < 4 by omega)]; exact q1) (by rw [decide_eq_false (show ¬ a < 4 by omega)]; exact ht) (by omega) (fun s4 h4 => h2 base ((a, 0) :: σ) s4 P (show base ≤ σ.length + 1 by omega) (by rw [q2, q3]; exact h4) (fun s5 h5 => hk s5 [(a, 0)] L3 f3 (fun x hx => by rw [List.mem_singleton] at hx; rw [hx]; exact op_hi hc ha) rfl rfl h5)))
theorem trm_extF {T : Txt} {s0 : Mm} {p L o p2 L2 q b a : Nat} {f f2 : Nat → Nat × Nat} (hE : EM T s0) (h : RTrm s0 p L f o p2 L2 f2) (hc : opS (chn T p2) a) (ha : 4 ≤ a) (hL : L2 ≤ p2) (h2 : RFacF s0 (p2 + 1) L2 f2 o q b) : RTrmF s0 p L f o q b := fun base σ s P hb ht hm hk => h base σ s P hb ht hm (fun s2 pt L4 f4 q1 q2 q3 h3 => cl_sign hE h3 hc (by rw [decide_eq_false (show ¬ a < 4 by omega)]; exact q1) (by rw [decide_eq_false (show ¬ a < 4 by omega)]; exact ht) (by omega) (fun s4 h4 => h2 base ((a, 0) :: σ) s4 P (show base ≤ σ.length + 1 by omega) (by rw [q2, q3]; exact h4) hk))
theorem sum_of {s0 : Mm} {p L o p2 L2 : Nat} {f f2 : Nat → Nat × Nat} (h : RTrm s0 p L f o p2 L2 f2) : RSum s0 p L f o p2 L2 f2 := fun base σ s P hb ht hm hk => h base σ s P hb (top_dn ht) hm (fun s2 pt L4 f4 q1 q2 q3 h3 => hk s2 pt L4 f4 (fun x hx => clo_up (q1 x hx)) q2 q3 h3)
theorem sum_ofF {s0 : Mm} {p L o q a : Nat} {f : Nat → Nat × Nat} (h : RTrmF s0 p L f o q a) : RSumF s0 p L f o q a := fun base σ s P hb ht hm hk => h base σ s P hb (top_dn ht) hm hk
theorem lo_top {c a : Nat} (h : opS c a) (h4 : a < 4) (σ : List (Nat × Nat)) : topN (cloS false) ((a, 0) :: σ) := by
  rcases h with ⟨_, rfl⟩ | ⟨_, rfl⟩ | ⟨_, rfl⟩ | ⟨_, rfl⟩ | ⟨_, rfl⟩
  · rfl
  · rfl
  all_goals omega
theorem sum_ext {T : Txt} {s0 : Mm} {p L o p2 L2 p3 L3 a : Nat} {f f2 f3 : Nat → Nat × Nat} (hE : EM T s0) (h : RSum s0 p L f o p2 L2 f2) (hc : opS (chn T p2) a) (ha : a < 4) (hL : L2 ≤ p2) (h2 : RTrm s0 (p2 + 1) L2 f2 o p3 L3 f3) : RSum s0 p L f o p3 (L3 + 1) (uc f3 L3 (a, 0)) := fun base σ s P hb ht hm hk => h base σ s P hb ht hm (fun s2 pd L4 f4 q1 q2 q3 h3 => cl_sign hE h3 hc (by rw [decide_eq_true ha]; exact q1) (by rw [decide_eq_true ha]; exact ht) (by omega) (fun s4 h4 => h2 base ((a, 0) :: σ) s4 P (show base ≤ σ.length + 1 by omega) (lo_top hc ha σ) (by rw [q2, q3]; exact h4) (fun s5 pt L5 f5 r1 r2 r3 h5 => hk s5 (pt ++ [(a, 0)]) L5 f5 (fun x hx => by
  rw [List.mem_append, List.mem_singleton] at hx
  rcases hx with hx | hx
  · exact clo_up (r1 x hx)
  · rw [hx]; exact op_all hc) (by rw [List.length_append, r2]; rfl) (by rw [emit_snoc, r3, r2]) (by rw [List.append_assoc]; exact h5))))
theorem sum_extF {T : Txt} {s0 : Mm} {p L o p2 L2 q b a : Nat} {f f2 : Nat → Nat × Nat} (hE : EM T s0) (h : RSum s0 p L f o p2 L2 f2) (hc : opS (chn T p2) a) (ha : a < 4) (hL : L2 ≤ p2) (h2 : RTrmF s0 (p2 + 1) L2 f2 o q b) : RSumF s0 p L f o q b := fun base σ s P hb ht hm hk => h base σ s P hb ht hm (fun s2 pd L4 f4 q1 q2 q3 h3 => cl_sign hE h3 hc (by rw [decide_eq_true ha]; exact q1) (by rw [decide_eq_true ha]; exact ht) (by omega) (fun s4 h4 => h2 base ((a, 0) :: σ) s4 P (show base ≤ σ.length + 1 by omega) (lo_top hc ha σ) (by rw [q2, q3]; exact h4) hk))
/-- a whole sum -/
theorem m_sum_ok {T : Txt} {s0 s : Mm} {p L o p2 L2 : Nat} {σ : List (Nat × Nat)} {f f2 : Nat → Nat × Nat} {P : Int32 × Mm → Prop} (hE : EM T s0) (h : RSum s0 p L f o p2 L2 f2) (hc : notSg (chn T p2)) (hL : L2 ≤ p2) (hm : CM s0 s p o σ L f) (ht : topN (cloS true) σ) (hk : ∀ s2, CM s0 s2 p2 o σ L2 f2 → P (1, s2)) : Ok (f_m_readsSum s) P := by
  have hp := hm.2.2.2.2.2.2.2.2.2
  unfold f_m_readsSum
  rw [lt_eq, hm.2.2.2.1]
  exact h σ.length σ s P (Nat.le_refl _) ht hm (fun s2 pd L3 f3 q1 q2 q3 h3 => cl_end hE h3 hc q1 ht (by omega) (fun s4 h4 => hk s4 (by rw [q2, q3]; exact h4))) 1000000 1000000 (by omega) (by omega)
theorem m_sum_f {s0 s : Mm} {p L o q a : Nat} {σ : List (Nat × Nat)} {f : Nat → Nat × Nat} {P : Int32 × Mm → Prop} (h : RSumF s0 p L f o q a) (hm : CM s0 s p o σ L f) (ht : topN (cloS true) σ) (hk : ∀ s2, FM s0 s2 q a → P (0, s2)) : Ok (f_m_readsSum s) P := by
  have hp := hm.2.2.2.2.2.2.2.2.2
  unfold f_m_readsSum
  rw [lt_eq, hm.2.2.2.1]
  exact h σ.length σ s P (Nat.le_refl _) ht hm hk 1000000 1000000 (by omega) (by omega)
