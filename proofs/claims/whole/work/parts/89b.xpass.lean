theorem sd_1 {n x y : Nat} {h : Nat → Nat} (hx : x < 16) : sdH n 1000000 h (16 * y + x) 1 = if 1 ≤ x then h (16 * y + x - 1) else 1000000 := by
  unfold sdH
  simp only [nbr, show ¬ (1 = 0) by decide, if_false, if_true, show (16 * y + x) % 16 = x by omega]
  by_cases e : 1 ≤ x
  · rw [if_pos e, if_pos e]
  · rw [if_neg e, if_neg e]
theorem sd_3 {n x y : Nat} {h : Nat → Nat} (hx : x < 16) : sdH n 1000000 h (16 * y + x) 3 = if 1 ≤ y then h (16 * y + x - 16) else 1000000 := by
  unfold sdH
  simp only [nbr, show ¬ (3 = 0) by decide, show ¬ (3 = 1) by decide, show ¬ (3 = 2) by decide, if_false, show (16 * y + x) / 16 = y by omega]
  by_cases e : 1 ≤ y
  · rw [if_pos e, if_pos e]
  · rw [if_neg e, if_neg e]
theorem sd_0 {n x y : Nat} {h : Nat → Nat} (hx : x < 16) : sdH n 1000000 h (16 * y + x) 0 = if x + 1 < n then h (16 * y + x + 1) else 1000000 := by
  unfold sdH
  simp only [nbr, if_true, show (16 * y + x) % 16 = x by omega]
  by_cases e : x + 1 < n
  · rw [if_pos e, if_pos e]
  · rw [if_neg e, if_neg e]
theorem sd_2 {n x y : Nat} {h : Nat → Nat} (hx : x < 16) : sdH n 1000000 h (16 * y + x) 2 = if y + 1 < n then h (16 * y + x + 16) else 1000000 := by
  unfold sdH
  simp only [nbr, show ¬ (2 = 0) by decide, show ¬ (2 = 1) by decide, if_false, if_true, show (16 * y + x) / 16 = y by omega]
  by_cases e : y + 1 < n
  · rw [if_pos e, if_pos e]
  · rw [if_neg e, if_neg e]
section
variable {n S x y : Nat} {w h0 h : Nat → Nat} {s0 s : Mm} {D D2 : Nat → Nat → Prop} {fl v4 : Int32} {k5 : Int32 → Int32 → Int32 → Int32 → Mm → Option (Unit × Mm)} {k22 : Int32 → Int32 → Int32 → Int32 → Int32 → Mm → Option (Unit × Mm)} {k31 : Int32 → Int32 → Int32 → Int32 → Int32 → Int32 → Mm → Option (Unit × Mm)} {P : Unit × Mm → Prop}
theorem x_fw (hn : n ≤ 16) (hS : S < 32) (hE : EXs w s0) (hI : Swi n S w h0 s0 D fl h s) (hx : x < n) (hy : y < n) (hD : ∀ v t, isC n v → t < 4 → D2 v t → D v t ∨ (v = 16 * y + x ∧ (t = 3 ∨ t = 1)))
    (hP : ∀ q h2 s2, Swi n S w h0 s0 D2 (fl ||| q) h2 s2 → Ok (k31 (nI (256 * S)) (nI n) (fl ||| q) v4 (nI y) (nI (x + 1)) s2) P) : Ok (b_Hng_spread_31 k5 k22 k31 (nI (256 * S)) (nI n) fl v4 (nI y) (nI x) s) P := by
  have hc : isC n (16 * y + x) := ⟨by omega, by rw [show (16 * y + x) % 16 = x by omega]; exact hx, by rw [show (16 * y + x) / 16 = y by omega]; exact hy⟩
  have hc256 := hc.1
  have hB := hI.2.1
  unfold b_Hng_spread_31
  refine okc_le n x (fun hh => by omega) (fun _ => ?_)
  unfold f_x_cellAt
  refine ok_bind (ok_some (ok_lt ?_))
  simp only [cellI, nI_add]
  have low : ∀ l a, l = sdH n 1000000 h (16 * y + x) 1 → a = sdH n 1000000 h (16 * y + x) 3 → Ok (b_Hng_spread_89 k5 k22 k31 (nI (256 * S)) (nI n) fl v4 (nI y) (nI x) (nI (256 * S + (16 * y + x))) (nI l) (nI a) s) P := by
    intro l a el ea
    subst el; subst ea
    unfold b_Hng_spread_89
    rw [fbN]
    refine ok_t (inb_nI hc256 (by omega)) ?_
    rw [cl_nI (by omega)]
    refine ok_bind (swi_cell hn hS hE hI hc (by omega) (by omega) hD (fun q h2 s2 hq => ok_lt (ok_lt ?_)))
    rw [nI_1]
    exact hP q h2 s2 hq
  have up : ∀ l, l = sdH n 1000000 h (16 * y + x) 1 → Ok (b_Hng_spread_67 k5 k22 k31 (nI (256 * S)) (nI n) fl v4 (nI y) (nI x) (nI (256 * S + (16 * y + x))) (nI l) s) P := by
    intro l el
    unfold b_Hng_spread_67
    refine okc_le y 0 (fun h1 => low l 1000000 el ?_) (fun h1 => ?_)
    · rw [sd_3 (by omega), if_neg (by omega)]
    · rw [show nI (256 * S + (16 * y + x)) - (16 : Int32) = nI (256 * S + (16 * y + x - 16)) by rw [i_lit 16, pk_sub (by omega), show 256 * S + (16 * y + x) - 16 = 256 * S + (16 * y + x - 16) by omega]]
      refine ok_t (inb_nI (by omega) (by omega)) ?_
      rw [cl_nI (by omega), (hB (16 * y + x - 16) (by omega)).1]
      exact low l _ el (by rw [sd_3 (by omega), if_pos (by omega)])
  refine okc_le x 0 (fun h1 => up 1000000 ?_) (fun h1 => ?_)
  · rw [sd_1 (by omega), if_neg (by omega)]
  · rw [show nI (256 * S + (16 * y + x)) - (1 : Int32) = nI (256 * S + (16 * y + x - 1)) by rw [i_lit 1, pk_sub (by omega), show 256 * S + (16 * y + x) - 1 = 256 * S + (16 * y + x - 1) by omega]]
    refine ok_t (inb_nI (by omega) (by omega)) ?_
    rw [cl_nI (by omega), (hB (16 * y + x - 1) (by omega)).1]
    exact up _ (by rw [sd_1 (by omega), if_pos (by omega)])
theorem x_bw (hn : n ≤ 16) (hS : S < 32) (hE : EXs w s0) (hI : Swi n S w h0 s0 D fl h s) (hx : x < n) (hy : y < n) (hD : ∀ v t, isC n v → t < 4 → D2 v t → D v t ∨ (v = 16 * y + x ∧ (t = 2 ∨ t = 0)))
    (hP : ∀ q h2 s2, Swi n S w h0 s0 D2 (fl ||| q) h2 s2 → Ok (k31 (nI (256 * S)) (nI n) (fl ||| q) v4 (nI y) (nI x - 1) s2) P) : Ok (b_Hng_spread_144 k5 k22 k31 (nI (256 * S)) (nI n) fl v4 (nI y) (nI x) s) P := by
  have hc : isC n (16 * y + x) := ⟨by omega, by rw [show (16 * y + x) % 16 = x by omega]; exact hx, by rw [show (16 * y + x) / 16 = y by omega]; exact hy⟩
  have hc256 := hc.1
  have hB := hI.2.1
  have eN : nI n - (1 : Int32) = nI (n - 1) := pk_sub (b := 1) (by omega)
  unfold b_Hng_spread_144
  refine okc_lt x 0 (fun hh => by omega) (fun _ => ?_)
  unfold f_x_cellAt
  refine ok_bind (ok_some (ok_lt ?_))
  simp only [cellI, nI_add]
  have low : ∀ l a, l = sdH n 1000000 h (16 * y + x) 0 → a = sdH n 1000000 h (16 * y + x) 2 → Ok (b_Hng_spread_207 k5 k22 k31 (nI (256 * S)) (nI n) fl v4 (nI y) (nI x) (nI (256 * S + (16 * y + x))) (nI l) (nI a) s) P := by
    intro l a el ea
    subst el; subst ea
    unfold b_Hng_spread_207
    rw [fbN]
    refine ok_t (inb_nI hc256 (by omega)) ?_
    rw [cl_nI (by omega)]
    refine ok_bind (swi_cell hn hS hE hI hc (by omega) (by omega) hD (fun q h2 s2 hq => ok_lt (ok_lt ?_)))
    rw [am1]
    exact hP q h2 s2 hq
  have up : ∀ l, l = sdH n 1000000 h (16 * y + x) 0 → Ok (b_Hng_spread_182 k5 k22 k31 (nI (256 * S)) (nI n) fl v4 (nI y) (nI x) (nI (256 * S + (16 * y + x))) (nI l) s) P := by
    intro l el
    unfold b_Hng_spread_182
    rw [eN]
    refine okc_le (n - 1) y (fun h1 => low l 1000000 el ?_) (fun h1 => ?_)
    · rw [sd_2 (by omega), if_neg (by omega)]
    · rw [show nI (256 * S + (16 * y + x)) + (16 : Int32) = nI (256 * S + (16 * y + x + 16)) by rw [i_lit 16, nI_add, Nat.add_assoc (256 * S)]]
      refine ok_t (inb_nI (by omega) (by omega)) ?_
      rw [cl_nI (by omega), (hB (16 * y + x + 16) (by omega)).1]
      exact low l _ el (by rw [sd_2 (by omega), if_pos (by omega)])
  rw [eN]
  refine okc_le (n - 1) x (fun h1 => up 1000000 ?_) (fun h1 => ?_)
  · rw [sd_0 (by omega), if_neg (by omega)]
  · rw [show nI (256 * S + (16 * y + x)) + (1 : Int32) = nI (256 * S + (16 * y + x + 1)) by rw [i_lit 1, nI_add, Nat.add_assoc (256 * S)]]
    refine ok_t (inb_nI (by omega) (by omega)) ?_
    rw [cl_nI (by omega), (hB (16 * y + x + 1) (by omega)).1]
    exact up _ (by rw [sd_0 (by omega), if_pos (by omega)])
end
def DFw (y x v i : Nat) : Prop := (i = 1 ∨ i = 3) ∧ (v / 16 < y ∨ (v / 16 = y ∧ v % 16 < x))
def DBw (y x v i : Nat) : Prop := (i = 1 ∨ i = 3) ∨ y ≤ v / 16 ∨ (v / 16 + 1 = y ∧ x ≤ v % 16)
theorem x_pass {n S : Nat} {w h0 : Nat → Nat} {s0 : Mm} {v4 : Nat} {k5 : Int32 → Int32 → Int32 → Int32 → Mm → Option (Unit × Mm)} {P : Unit × Mm → Prop} (hn : n ≤ 16) (hS : S < 32) (hE : EXs w s0) (hB0 : HBx S h0 s0)
    (hP : ∀ fl h s, FBx S s0 s → HBx S h s → Swp n w h0 h → Flg n h0 h fl → (∀ x, ¬ isC n x → h x = h0 x) → Ok (k5 (nI (256 * S)) (nI n) fl (nI (v4 + 1)) s) P) : Ok (f_Hng_spread_22 k5 1000000 (nI (256 * S)) (nI n) 0 (nI v4) 0 s0) P := by
  have back : ∀ k N fl h s, k + 1 ≤ N → k ≤ n → Swi n S w h0 s0 (DBw k 16) fl h s → Ok (f_Hng_spread_134 k5 N (nI (256 * S)) (nI n) fl (nI v4) (nI k - 1) s) P := by
    intro k
    induction k with
    | zero =>
      intro N fl h s hN hk hI
      obtain ⟨N, rfl⟩ := nat_suc hN
      show Ok (b_Hng_spread_134 k5 (f_Hng_spread_134 k5 N) (nI (256 * S)) (nI n) fl (nI v4) (-1) s) P
      unfold b_Hng_spread_134 b_Hng_spread_247
      refine ok_t (by decide) (ok_lt ?_)
      rw [nI_1]
      obtain ⟨a1, a2, a3, a4, a5⟩ := hI
      exact hP fl h s a1 a2 (rlx_end a3 (fun v i _ _ => Or.inr (Or.inl (Nat.zero_le _)))) a4 a5
    | succ k ih =>
      intro N fl h s hN hk hI
      obtain ⟨N, rfl⟩ := nat_suc hN
      rw [show nI (k + 1) - (1 : Int32) = nI k from pk_sub (b := 1) (by omega)]
      show Ok (b_Hng_spread_134 k5 (f_Hng_spread_134 k5 N) (nI (256 * S)) (nI n) fl (nI v4) (nI k) s) P
      unfold b_Hng_spread_134
      refine okc_lt k 0 (fun hh => by omega) (fun _ => ok_lt ?_)
      have cols : ∀ j M fl h s, j + 1 ≤ M → j ≤ n → Swi n S w h0 s0 (DBw (k + 1) j) fl h s → Ok (f_Hng_spread_144 k5 (f_Hng_spread_134 k5 N) M (nI (256 * S)) (nI n) fl (nI v4) (nI k) (nI j - 1) s) P := by
        intro j
        induction j with
        | zero =>
          intro M fl h s hM hj hI
          obtain ⟨M, rfl⟩ := nat_suc hM
          show Ok (b_Hng_spread_144 k5 (f_Hng_spread_134 k5 N) (f_Hng_spread_144 k5 (f_Hng_spread_134 k5 N) M) (nI (256 * S)) (nI n) fl (nI v4) (nI k) (-1) s) P
          unfold b_Hng_spread_144 b_Hng_spread_241
          refine ok_t (by decide) (ok_lt ?_)
          rw [am1]
          refine ih N fl h s (by omega) (by omega) ⟨hI.1, hI.2.1, rlx_wk hI.2.2.1 (fun v i _ _ h2 => ?_), hI.2.2.2⟩
          unfold DBw at h2 ⊢
          omega
        | succ j ihj =>
          intro M fl h s hM hj hI
          obtain ⟨M, rfl⟩ := nat_suc hM
          rw [show nI (j + 1) - (1 : Int32) = nI j from pk_sub (b := 1) (by omega)]
          refine x_bw (k31 := f_Hng_spread_144 k5 (f_Hng_spread_134 k5 N) M) (D2 := DBw (k + 1) j) hn hS hE hI (by omega) (by omega) (fun v t hv ht h2 => ?_) (fun q h2 s2 hq => ihj M (fl ||| q) h2 s2 (by omega) (by omega) hq)
          have hv1 := hv.1
          unfold DBw at h2 ⊢
          omega
      refine cols n 1000000 fl h s (by omega) (by omega) ⟨hI.1, hI.2.1, rlx_wk hI.2.2.1 (fun v i hv _ h2 => ?_), hI.2.2.2⟩
      have := hv.2.1
      unfold DBw at h2 ⊢
      omega
  have fwd : ∀ r y N fl h s, y + r = n → r + 1 ≤ N → Swi n S w h0 s0 (DFw y 0) fl h s → Ok (f_Hng_spread_22 k5 N (nI (256 * S)) (nI n) fl (nI v4) (nI y) s) P := by
    intro r
    induction r with
    | zero =>
      intro y N fl h s hy hN hI
      obtain ⟨N, rfl⟩ := nat_suc hN
      show Ok (b_Hng_spread_22 k5 (f_Hng_spread_22 k5 N) (nI (256 * S)) (nI n) fl (nI v4) (nI y) s) P
      unfold b_Hng_spread_22 b_Hng_spread_129
      refine okc_le n y (fun _ => ok_lt ?_) (fun hh => by omega)
      refine back n 1000000 fl h s (by omega) (by omega) ⟨hI.1, hI.2.1, rlx_wk hI.2.2.1 (fun v i hv _ h2 => ?_), hI.2.2.2⟩
      have h1 := hv.2.2
      unfold DBw at h2
      unfold DFw
      omega
    | succ r ih =>
      intro y N fl h s hy hN hI
      obtain ⟨N, rfl⟩ := nat_suc hN
      show Ok (b_Hng_spread_22 k5 (f_Hng_spread_22 k5 N) (nI (256 * S)) (nI n) fl (nI v4) (nI y) s) P
      unfold b_Hng_spread_22
      refine okc_le n y (fun hh => by omega) (fun _ => ?_)
      have cols : ∀ q x M fl h s, x + q = n → q + 1 ≤ M → Swi n S w h0 s0 (DFw y x) fl h s → Ok (f_Hng_spread_31 k5 (f_Hng_spread_22 k5 N) M (nI (256 * S)) (nI n) fl (nI v4) (nI y) (nI x) s) P := by
        intro q
        induction q with
        | zero =>
          intro x M fl h s hx hM hI
          obtain ⟨M, rfl⟩ := nat_suc hM
          show Ok (b_Hng_spread_31 k5 (f_Hng_spread_22 k5 N) (f_Hng_spread_31 k5 (f_Hng_spread_22 k5 N) M) (nI (256 * S)) (nI n) fl (nI v4) (nI y) (nI x) s) P
          unfold b_Hng_spread_31 b_Hng_spread_123
          refine okc_le n x (fun _ => ok_lt ?_) (fun hh => by omega)
          rw [nI_1]
          refine ih (y + 1) N fl h s (by omega) (by omega) ⟨hI.1, hI.2.1, rlx_wk hI.2.2.1 (fun v i hv _ h2 => ?_), hI.2.2.2⟩
          have := hv.2.1
          unfold DFw at h2 ⊢
          omega
        | succ q ihq =>
          intro x M fl h s hx hM hI
          obtain ⟨M, rfl⟩ := nat_suc hM
          refine x_fw (k31 := f_Hng_spread_31 k5 (f_Hng_spread_22 k5 N) M) (D2 := DFw y (x + 1)) hn hS hE hI (by omega) (by omega) (fun v t hv ht h2 => ?_) (fun q2 h2 s2 hq => ihq (x + 1) M (fl ||| q2) h2 s2 (by omega) (by omega) hq)
          unfold DFw at h2 ⊢
          omega
      exact cols n 0 1000000 fl h s (by omega) (by omega) hI
  exact fwd n 0 1000000 0 h0 s0 (by omega) (by omega) ⟨FBx.rf, hB0, rlx_wk (rlx_0 n w h0) (fun v i _ _ h2 => by unfold DFw at h2; omega), Or.inl ⟨rfl, fun _ _ => rfl⟩, fun _ _ => rfl⟩
theorem x_spread_ok {n S : Nat} {w h0 : Nat → Nat} {s0 : Mm} {P : Unit × Mm → Prop} (hn : n ≤ 16) (hS : S < 32) (hE : EXs w s0) (hB0 : HBx S h0 s0)
    (hP : ∀ h s, FBx S s0 s → HBx S h s → (∀ c, isC n c → h c = jac n w h0 255 c) → (∀ x, ¬ isC n x → h x = h0 x) → P ((), s)) : Ok (f_Hng_spread (nI (256 * S)) (nI n) s0) P := by
  have lp : ∀ r k N h s fl, k + r = 256 → r + 1 ≤ N → FBx S s0 s → HBx S h s → Swk n w h0 h k → (∀ x, ¬ isC n x → h x = h0 x) → (fl = 0 ∧ Swp n w h h ∨ fl = 1) → Ok (f_Hng_spread_5 N (nI (256 * S)) (nI n) fl (nI k) s) P := by
    intro r
    induction r with
    | zero =>
      intro k N h s fl hk hN hF hB hW hno hf
      obtain ⟨N, rfl⟩ := nat_suc hN
      show Ok (b_Hng_spread_5 (f_Hng_spread_5 N) (nI (256 * S)) (nI n) fl (nI k) s) P
      unfold b_Hng_spread_5
      refine okc_le 256 k (fun _ => ok_some (hP h s hF hB (fun c hc => swk_end hn hW (by omega) hc) hno)) (fun hh => by omega)
    | succ r ih =>
      intro k N h s fl hk hN hF hB hW hno hf
      obtain ⟨N, rfl⟩ := nat_suc hN
      show Ok (b_Hng_spread_5 (f_Hng_spread_5 N) (nI (256 * S)) (nI n) fl (nI k) s) P
      unfold b_Hng_spread_5
      refine okc_le 256 k (fun hh => by omega) (fun _ => ?_)
      rcases hf with ⟨h1, h2⟩ | h1
      · exact ok_t h1 (ok_some (hP h s hF hB (fun c hc => swk_same hn hW h2 hc) hno))
      · refine ok_f (by rw [h1]; decide) ?_
        refine x_pass hn hS (hE.fb hF) hB (fun fl2 g z gF gB gS gf gno => ih (k + 1) N g z fl2 (by omega) (by omega) (hF.tr gF) gB (swk_s hn hW gS) (fun x hx => (gno x hx).trans (hno x hx)) ?_)
        rcases gf with ⟨f1, f2⟩ | ⟨f1, _⟩
        · refine Or.inl ⟨f1, fun c hc => Nat.le_refl _, fun v j u hv hj hu => ?_, fun G g1 _ => g1⟩
          have := gS.2.1 v j u hv hj hu
          rw [f2 u (nbr_C hn hv hu)]
          exact this
        · exact Or.inr f1
  unfold f_Hng_spread
  exact lp 256 0 1000000 h0 s0 1 (by omega) (by omega) FBx.rf hB0 (swk_0 n w h0) (fun _ _ => rfl) (Or.inr rfl)
