/-! hang: one pass over the cells, whatever its order -/
def Rlx (n : Nat) (w h0 : Nat → Nat) (D : Nat → Nat → Prop) (h : Nat → Nat) : Prop := (∀ c, isC n c → h c ≤ h0 c) ∧ (∀ v j u, isC n v → j < 4 → nbr n v j = some u → D v j → h v ≤ h0 u + w v) ∧ (∀ G : Nat → Nat, (∀ c, isC n c → G c ≤ h0 c) → (∀ v j u, isC n v → j < 4 → nbr n v j = some u → G v ≤ G u + w v) → ∀ c, isC n c → G c ≤ h c)
theorem rlx_0 (n : Nat) (w h0 : Nat → Nat) : Rlx n w h0 (fun _ _ => False) h0 := ⟨fun _ _ => Nat.le_refl _, fun _ _ _ _ _ _ h => h.elim, fun G h1 _ => h1⟩
theorem rlx_wk {n : Nat} {w h0 h : Nat → Nat} {D D2 : Nat → Nat → Prop} (R : Rlx n w h0 D h) (hD : ∀ v i, isC n v → i < 4 → D2 v i → D v i) : Rlx n w h0 D2 h := ⟨R.1, fun v j u h1 h2 h3 h4 => R.2.1 v j u h1 h2 h3 (hD v j h1 h2 h4), R.2.2⟩
theorem rlx_st {n : Nat} {w h0 h h' : Nat → Nat} {D D2 : Nat → Nat → Prop} {c j u : Nat} (hn : n ≤ 16) (R : Rlx n w h0 D h) (hc : isC n c) (hj : j < 4) (hu : nbr n c j = some u) (e : ∀ x, isC n x → h' x = if x = c then min (h c) (h u + w c) else h x) (hD : ∀ v i, isC n v → i < 4 → D2 v i → D v i ∨ (v = c ∧ i = j)) : Rlx n w h0 D2 h' := by
  have hle : ∀ x, isC n x → h' x ≤ h x := fun x hx => by
    rw [e x hx]
    by_cases hxc : x = c
    · rw [if_pos hxc, hxc]; exact Nat.min_le_left _ _
    · rw [if_neg hxc]; exact Nat.le_refl _
  refine ⟨fun x hx => Nat.le_trans (hle x hx) (R.1 x hx), fun v i y h1 h2 h3 h4 => ?_, fun G g1 g2 x hx => ?_⟩
  · rcases hD v i h1 h2 h4 with h5 | ⟨h5, h6⟩
    · exact Nat.le_trans (hle v h1) (R.2.1 v i y h1 h2 h3 h5)
    · subst h5; subst h6
      rw [hu] at h3
      cases h3
      rw [e v h1, if_pos rfl]
      have := R.1 u (nbr_C hn hc hu)
      exact Nat.le_trans (Nat.min_le_right _ _) (by omega)
  · have a := R.2.2 G g1 g2
    rw [e x hx]
    by_cases hxc : x = c
    · rw [if_pos hxc, hxc]
      have b := g2 c j u hc hj hu
      have d := a u (nbr_C hn hc hu)
      have f := a c hc
      exact Nat.le_min.mpr ⟨f, by omega⟩
    · rw [if_neg hxc]; exact a x hx
theorem rlx_no {n : Nat} {w h0 h : Nat → Nat} {D D2 : Nat → Nat → Prop} {c j : Nat} (R : Rlx n w h0 D h) (hu : nbr n c j = none) (hD : ∀ v i, isC n v → i < 4 → D2 v i → D v i ∨ (v = c ∧ i = j)) : Rlx n w h0 D2 h := by
  refine ⟨R.1, fun v i u h1 h2 h3 h4 => ?_, R.2.2⟩
  rcases hD v i h1 h2 h4 with h5 | ⟨h5, h6⟩
  · exact R.2.1 v i u h1 h2 h3 h5
  · subst h5; subst h6
    rw [hu] at h3; cases h3
theorem rlx_end {n : Nat} {w h0 h : Nat → Nat} {D : Nat → Nat → Prop} (R : Rlx n w h0 D h) (hD : ∀ v i, isC n v → i < 4 → D v i) : Swp n w h0 h := ⟨R.1, fun v j u h1 h2 h3 => R.2.1 v j u h1 h2 h3 (hD v j h1 h2), R.2.2⟩
def Flg (n : Nat) (h0 h : Nat → Nat) (fl : Int32) : Prop := (fl = 0 ∧ ∀ c, isC n c → h c = h0 c) ∨ (fl = 1 ∧ ∃ c, isC n c ∧ h c < h0 c)
/-! the reference's rows -/
def HBs (S : Nat) (h : Nat → Nat) (s : Mm) : Prop := ∀ c, c < 256 → s.1 75 (256 * S + c) = nI (h c) ∧ h c ≤ 1000000000
def FBs (S : Nat) (s0 s : Mm) : Prop := ∀ a j, ¬ (a = 75 ∧ 256 * S ≤ j ∧ j < 256 * S + 256) → s.1 a j = s0.1 a j
theorem FBs.rf {S : Nat} {s : Mm} : FBs S s s := fun _ _ _ => rfl
theorem FBs.tr {S : Nat} {a b c : Mm} (h1 : FBs S a b) (h2 : FBs S b c) : FBs S a c := fun x y h => (h2 x y h).trans (h1 x y h)
theorem FBs.set {S c : Nat} {s0 s : Mm} {v : Int32} (h : FBs S s0 s) (hc : c < 256) : FBs S s0 (sI s 75 (256 * S + c) v) := fun a j hj => by
  rw [sI_at, if_neg (fun e => hj ⟨e.1, by omega, by omega⟩)]
  exact h a j hj
theorem HBs.set {S c x : Nat} {h : Nat → Nat} {s : Mm} (hb : HBs S h s) (hx : x ≤ 1000000000) : HBs S (fun y => if y = c then x else h y) (sI s 75 (256 * S + c) (nI x)) := fun y hy => by
  rw [sI_at]
  by_cases e : y = c
  · rw [if_pos ⟨rfl, by omega⟩]
    simp only [if_pos e]
    exact ⟨trivial, hx⟩
  · rw [if_neg (fun z => e (by omega))]
    simp only [if_neg e]
    exact hb y hy
def EMs (n : Nat) (p d : Nat → Bool) (s : Mm) : Prop := s.1 58 0 = nI n ∧ (∀ c, c < 256 → s.1 72 c = bI (p c)) ∧ ∀ c, c < 256 → s.1 62 c = bI (d c)
theorem EMs.fb {n S : Nat} {p d : Nat → Bool} {s s2 : Mm} (h : EMs n p d s) (hF : FBs S s s2) : EMs n p d s2 := ⟨by rw [hF _ _ (fun e => absurd e.1 (by decide))]; exact h.1, fun c hc => by rw [hF _ _ (fun e => absurd e.1 (by decide))]; exact h.2.1 c hc, fun c hc => by rw [hF _ _ (fun e => absurd e.1 (by decide))]; exact h.2.2 c hc⟩
theorem m_costOf_eq {n c : Nat} {p d : Nat → Bool} {s : Mm} (h : EMs n p d s) (hc : c < 256) : f_m_costOf (nI c) s = some (nI (wH p d 1000000000 c), s) := by
  unfold f_m_costOf wH
  rw [if_pos (inb_nI hc (by omega)), cl_nI (by omega), h.2.1 c hc, h.2.2 c hc]
  cases p c with
  | true => rw [if_neg (by decide)]; rfl
  | false =>
    rw [if_pos (by decide), if_pos (inb_nI hc (by omega))]
    cases d c with
    | true => rw [if_neg (by decide)]; rfl
    | false => rw [if_pos (by decide)]; rfl
theorem m_sum_eq {a b : Nat} {s : Mm} (ha : a ≤ 1000000000) (hb : b ≤ 1000000000) : f_m_sum (nI a) (nI b) s = some (nI (if a < 1000000000 ∧ b < 1000000000 then a + b else 1000000000), s) := by
  unfold f_m_sum
  rw [i_lit 1000000000]
  by_cases h1 : a < 1000000000
  · rw [if_neg (by rw [nI_leI (by omega) (by omega)]; omega)]
    by_cases h2 : b < 1000000000
    · rw [if_pos (nI_lt h2 (by omega)), if_pos ⟨h1, h2⟩, nI_add]
    · rw [if_neg (by rw [nI_ltI (by omega) (by omega)]; omega), if_neg (fun z => h2 z.2)]
  · rw [if_pos (nI_le (by omega) (by omega)), if_neg (fun z => h1 z.1)]
theorem m_min_eq {a b : Nat} {s : Mm} (ha : a ≤ 2000000000) (hb : b ≤ 2000000000) : f_m_min (nI a) (nI b) s = some (nI (min a b), s) := by
  unfold f_m_min
  by_cases h1 : b ≤ a
  · rw [if_pos (nI_le h1 (by omega)), Nat.min_eq_right h1]
  · rw [if_neg (by rw [nI_leI (by omega) (by omega)]; omega), Nat.min_eq_left (by omega)]
theorem ixM (S c : Nat) : (256 : Int32) * nI S + nI c = nI (256 * S + c) := by rw [i_lit 256, pk_mul, nI_add]
theorem wH_c (p d : Nat → Bool) (I v : Nat) : wH p d I v ≤ 1 ∨ wH p d I v = I := by
  unfold wH
  cases p v <;> cases d v <;> simp
theorem m_wan_in {n S c : Nat} {p d : Nat → Bool} {h0 : Nat → Nat} {s0 : Mm} {k2 : Int32 → Int32 → Mm → Option (Unit × Mm)} {k10 : Int32 → Int32 → Int32 → Mm → Option (Unit × Mm)} {P : Unit × Mm → Prop} (hn2 : n ≤ 16) (hS : S < 64) (hc : isC n c)
    (hk : ∀ fl h s, EMs n p d s → FBs S s0 s → HBs S h s → Rlx n (wH p d 1000000000) h0 (fun v i => v < c + 1) h → Flg n h0 h fl → (∀ x, ¬ isC n x → h x = h0 x) → Ok (k10 (nI S) fl (nI (c + 1)) s) P) :
    ∀ r j N fl h s, j + r = 4 → r + 1 ≤ N → EMs n p d s → FBs S s0 s → HBs S h s → Rlx n (wH p d 1000000000) h0 (fun v i => v < c ∨ (v = c ∧ i < j)) h → Flg n h0 h fl → (∀ x, ¬ isC n x → h x = h0 x) → Ok (f_m_wanders_38 k2 k10 N (nI S) fl (nI c) (nI j) s) P := by
  intro r
  induction r with
  | zero =>
    intro j N fl h s hj hN hE hF hB hR hf hno
    obtain ⟨N, rfl⟩ := nat_suc hN
    show Ok (b_m_wanders_38 k2 k10 (f_m_wanders_38 k2 k10 N) (nI S) fl (nI c) (nI j) s) P
    unfold b_m_wanders_38 b_m_wanders_128
    refine okc_le 4 j (fun _ => ok_lt ?_) (fun hh => by omega)
    rw [nI_1]
    exact hk fl h s hE hF hB (rlx_wk hR (fun v i _ hi h2 => by have : v < c + 1 := h2; show v < c ∨ (v = c ∧ i < j); omega)) hf hno
  | succ r ih =>
    intro j N fl h s hj hN hE hF hB hR hf hno
    obtain ⟨N, rfl⟩ := nat_suc hN
    have hc256 := hc.1
    show Ok (b_m_wanders_38 k2 k10 (f_m_wanders_38 k2 k10 N) (nI S) fl (nI c) (nI j) s) P
    unfold b_m_wanders_38
    refine okc_le 4 j (fun hh => by omega) (fun _ => ?_)
    refine ok_bind (ok_eq (m_beside_eq hE.1 hn2 hc (by omega)) ?_)
    cases hu : nbr n c j with
    | none =>
      refine ok_t rfl (ok_lt ?_)
      rw [nI_1]
      exact ih (j + 1) N fl h s (by omega) (by omega) hE hF hB (rlx_no hR hu (fun v i _ _ h2 => by have h3 : v < c ∨ (v = c ∧ i < j + 1) := h2; show (v < c ∨ (v = c ∧ i < j)) ∨ (v = c ∧ i = j); omega)) hf hno
    | some u =>
      have huC := nbr_C hn2 hc hu
      have hu256 := huC.1
      refine ok_f (nI_nm1 (by omega)) ?_
      refine ok_bind (ok_eq (m_beside_eq hE.1 hn2 hc (by omega)) ?_)
      rw [hu]
      show Ok (if inb ((256 : Int32) * nI S + nI u) 16384 then _ else none) P
      rw [ixM]
      refine ok_t (inb_nI (by omega) (by omega)) ?_
      refine ok_bind (ok_eq (m_costOf_eq hE hc256) ?_)
      have hBu := hB u hu256
      have hBc := hB c hc256
      show Ok ((f_m_sum (s.1 75 ((256 : Int32) * nI S + nI u).toNatClampNeg) (nI (wH p d 1000000000 c)) s).bind _) P
      rw [ixM, cl_nI (show 256 * S + u < 2147483648 by omega), hBu.1]
      refine ok_bind (ok_eq (m_sum_eq hBu.2 (by rcases wH_c p d 1000000000 c with z | z <;> omega)) ?_)
      show Ok (if inb ((256 : Int32) * nI S + nI c) 16384 then _ else none) P
      rw [ixM]
      refine ok_t (inb_nI (by omega) (by omega)) ?_
      rw [cl_nI (show 256 * S + c < 2147483648 by omega)]
      show Ok (if nI _ < s.1 75 (256 * S + c) then _ else _) P
      rw [hBc.1]
      have hval : (if h u < 1000000000 ∧ wH p d 1000000000 c < 1000000000 then h u + wH p d 1000000000 c else 1000000000) = min 1000000000 (h u + wH p d 1000000000 c) := by
        rcases wH_c p d 1000000000 c with z | z
        · by_cases h1 : h u < 1000000000
          · rw [if_pos ⟨h1, by omega⟩]; omega
          · rw [if_neg (fun q => h1 q.1)]; omega
        · rw [if_neg (fun q => by omega)]; omega
      rw [hval]
      have nxt : ∀ v i, isC n v → i < 4 → (fun v i => v < c ∨ (v = c ∧ i < j + 1)) v i → (fun v i => v < c ∨ (v = c ∧ i < j)) v i ∨ (v = c ∧ i = j) := fun v i _ _ h2 => by have h3 : v < c ∨ (v = c ∧ i < j + 1) := h2; show (v < c ∨ (v = c ∧ i < j)) ∨ (v = c ∧ i = j); omega
      refine okc_lt (min 1000000000 (h u + wH p d 1000000000 c)) (h c) (fun hlt => ?_) (fun hge => ok_lt ?_) rfl rfl (by omega) (by omega)
      · refine ok_t (inb_nI (by omega) (by omega)) (ok_lt ?_)
        rw [nI_1]
        have hm : min 1000000000 (h u + wH p d 1000000000 c) = h u + wH p d 1000000000 c := by omega
        rw [hm] at hlt ⊢
        have hc0 := hR.1 c hc
        refine ih (j + 1) N 1 (fun y => if y = c then h u + wH p d 1000000000 c else h y) _ (by omega) (by omega) (hE.fb (FBs.rf.set hc256)) (hF.set hc256) (hB.set (by omega)) (rlx_st hn2 hR hc (by omega) hu (fun x hx => ?_) nxt) (Or.inr ⟨rfl, c, hc, ?_⟩) (fun x hx => ?_)
        · rw [Nat.min_eq_right (by omega)]
        · simp only [if_true]; omega
        · have : x ≠ c := fun e => hx (by rw [e]; exact hc)
          simp only [if_neg this]; exact hno x hx
      · rw [nI_1]
        refine ih (j + 1) N fl h s (by omega) (by omega) hE hF hB (rlx_st hn2 hR hc (by omega) hu (fun x hx => ?_) nxt) hf hno
        by_cases e : x = c
        · rw [if_pos e, e]; omega
        · rw [if_neg e]
theorem m_wan_ok {n S : Nat} {p d : Nat → Bool} {h0 : Nat → Nat} {s0 : Mm} {P : Unit × Mm → Prop} (hn2 : n ≤ 16) (hS : S < 64) (hE0 : EMs n p d s0) (hB0 : HBs S h0 s0)
    (hP : ∀ h s, FBs S s0 s → HBs S h s → (∀ c, isC n c → h c = jac n (wH p d 1000000000) h0 255 c) → (∀ x, ¬ isC n x → h x = h0 x) → P ((), s)) : Ok (f_m_wanders (nI S) s0) P := by
  have key : ∀ r k N h s fl, k + r = 257 → r + 1 ≤ N → FBs S s0 s → HBs S h s → Swk n (wH p d 1000000000) h0 h k → (∀ x, ¬ isC n x → h x = h0 x) → (fl = 0 ∧ Swp n (wH p d 1000000000) h h ∨ fl = 1 ∧ k ≤ 256) → Ok (f_m_wanders_2 N (nI S) fl s) P := by
    intro r
    induction r with
    | zero =>
      intro k N h s fl hk hN hF hB hW hno hf
      obtain ⟨N, rfl⟩ := nat_suc hN
      show Ok (b_m_wanders_2 (f_m_wanders_2 N) (nI S) fl s) P
      unfold b_m_wanders_2
      rcases hf with ⟨h1, h2⟩ | ⟨h1, h2⟩
      · exact ok_t h1 (ok_some (hP h s hF hB (fun c hc => swk_same hn2 hW h2 hc) hno))
      · omega
    | succ r ih =>
      intro k N h s fl hk hN hF hB hW hno hf
      obtain ⟨N, rfl⟩ := nat_suc hN
      show Ok (b_m_wanders_2 (f_m_wanders_2 N) (nI S) fl s) P
      unfold b_m_wanders_2
      rcases hf with ⟨h1, h2⟩ | ⟨h1, h2⟩
      · exact ok_t h1 (ok_some (hP h s hF hB (fun c hc => swk_same hn2 hW h2 hc) hno))
      · refine ok_f (by rw [h1]; decide) ?_
        have hE := hE0.fb hF
        have lp : ∀ q c M fl2 g z, c + q = 256 → q + 1 ≤ M → FBs S s z → HBs S g z → Rlx n (wH p d 1000000000) h (fun v i => v < c) g → Flg n h g fl2 → (∀ x, ¬ isC n x → g x = h x) → Ok (f_m_wanders_10 (f_m_wanders_2 N) M (nI S) fl2 (nI c) z) P := by
          intro q
          induction q with
          | zero =>
            intro c M fl2 g z hc hM gF gB gR gf gno
            obtain ⟨M, rfl⟩ := nat_suc hM
            show Ok (b_m_wanders_10 (f_m_wanders_2 N) (f_m_wanders_10 (f_m_wanders_2 N) M) (nI S) fl2 (nI c) z) P
            unfold b_m_wanders_10 b_m_wanders_134
            refine okc_le 256 c (fun _ => ?_) (fun hh => by omega)
            have sw := rlx_end gR (fun v i hv _ => by have := hv.1; show v < c; omega)
            refine ih (k + 1) N g z fl2 (by omega) (by omega) (hF.tr gF) gB (swk_s hn2 hW sw) (fun x hx => (gno x hx).trans (hno x hx)) ?_
            rcases gf with ⟨f1, f2⟩ | ⟨f1, x, x1, x2⟩
            · refine Or.inl ⟨f1, ?_⟩
              refine ⟨fun c hc => Nat.le_refl _, fun v j u hv hj hu => ?_, fun G g1 _ => g1⟩
              have := sw.2.1 v j u hv hj hu
              rw [f2 u (nbr_C hn2 hv hu)]
              exact this
            · refine Or.inr ⟨f1, ?_⟩
              rcases Nat.lt_or_ge k 255 with hlt | hge
              · omega
              · have a := swk_end hn2 hW hge x1
                have b := swk_end hn2 (swk_s hn2 hW sw) (by omega) x1
                omega
          | succ q ihq =>
            intro c M fl2 g z hc hM gF gB gR gf gno
            obtain ⟨M, rfl⟩ := nat_suc hM
            show Ok (b_m_wanders_10 (f_m_wanders_2 N) (f_m_wanders_10 (f_m_wanders_2 N) M) (nI S) fl2 (nI c) z) P
            unfold b_m_wanders_10
            refine okc_le 256 c (fun hh => by omega) (fun _ => ?_)
            have gE := hE.fb gF
            rw [r16 (by omega), d16 (by omega)]
            refine ok_bind (ok_eq (m_isCell_eq gE.1 hn2 (by omega) (by omega)) ?_)
            refine okc_b (decide (c % 16 < n ∧ c / 16 < n)) (fun hh => ?_) (fun hh => ?_) rfl
            · have nc : ¬ isC n c := fun h => of_decide_eq_false hh h.2
              unfold b_m_wanders_128
              refine ok_lt ?_
              rw [nI_1]
              exact ihq (c + 1) M fl2 g z (by omega) (by omega) gF gB (rlx_wk gR (fun v i hv _ h2 => by
                have h3 : v < c + 1 := h2
                have : v ≠ c := fun e => nc (by rw [← e]; exact hv)
                show v < c
                omega)) gf gno
            · have hcc : isC n c := ⟨by omega, of_decide_eq_true hh⟩
              exact m_wan_in (s0 := s) (h0 := h) hn2 hS hcc (fun fl3 g3 z3 e1 e2 e3 e4 e5 e6 => ihq (c + 1) M fl3 g3 z3 (by omega) (by omega) e2 e3 e4 e5 e6) 4 0 100000000000000000000 fl2 g z (by omega) (by omega) gE gF gB (rlx_wk gR (fun v i _ _ h2 => by have h3 : v < c ∨ (v = c ∧ i < 0) := h2; show v < c; omega)) gf gno
        exact lp 256 0 100000000000000000000 0 h s (by omega) (by omega) FBs.rf hB (rlx_wk (rlx_0 n _ h) (fun v i _ _ h2 => by have h3 : v < 0 := h2; omega)) (Or.inl ⟨rfl, fun _ _ => rfl⟩) (fun _ _ => rfl)
  unfold f_m_wanders
  exact key 257 0 100000000000000000000 h0 s0 1 (by omega) (by omega) FBs.rf hB0 (swk_0 n _ h0) (fun _ _ => rfl) (Or.inr ⟨rfl, by omega⟩)
