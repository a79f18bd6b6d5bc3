def LHp : List (Nat × Option Nat) := [(44, none)]
def LHe : List (Nat × Option Nat) := [(45, none)]
def LHx : List (Nat × Option Nat) := [(43, none), (44, none), (45, none)]
theorem x_setPrices_ok {p d : Nat → Bool} {s0 : Mm} {P : Unit × Mm → Prop} (hp : Rw (s0.1 31) p) (hd : Rw (s0.1 5) d) (hP : ∀ s, Fr LHp s0 s → EXs (wH p d 1000000) s → P ((), s)) : Ok (f_Hng_setPrices s0) P := by
  unfold f_Hng_setPrices
  refine ok_upF (fun m k a => f_Hng_setPrices_2 m k a) (fun i a => Fr LHp s0 a ∧ ∀ c, c < i → a.1 44 c = nI (wH p d 1000000 c)) P 256 (by omega) ⟨Fr.rf, fun c hc => by omega⟩ ?_ ?_
  · intro m i a hi hI ih
    obtain ⟨hF, hw⟩ := hI
    show Ok (b_Hng_setPrices_2 (f_Hng_setPrices_2 m) (nI i) a) P
    unfold b_Hng_setPrices_2
    refine okc_le 256 i (fun hh => by omega) (fun _ => ?_)
    have rp : Rw (a.1 31) p := by rw [show a.1 31 = s0.1 31 from funext (fun j => hF _ j (by simp [inL, LHp]))]; exact hp
    have rd : Rw (a.1 5) d := by rw [show a.1 5 = s0.1 5 from funext (fun j => hF _ j (by simp [inL, LHp]))]; exact hd
    have fin : ∀ v : Nat, v = wH p d 1000000 i → Ok (f_Hng_setPrices_2 m (nI (i + 1)) (sI a 44 i (nI v))) P := fun v hv => ih _ ⟨hF.sI (by simp [inL, LHp]), fun c hc => by
      rw [sI_at]
      by_cases e : c = i
      · rw [if_pos ⟨rfl, e⟩, hv, e]
      · rw [if_neg (fun e2 => e e2.2)]; exact hw c (by omega)⟩
    have hib : inb (nI i) 256 := inb_nI hi (by omega)
    refine ok_bind (ok_eq (x_hasBit_eq rp hi) (okc_b (p i) (fun h1 => ?_) (fun h1 => ?_) rfl))
    · refine ok_bind (ok_eq (x_hasBit_eq rd hi) (okc_b (d i) (fun h2 => ?_) (fun h2 => ?_) rfl))
      · refine ok_t hib (ok_lt ?_)
        rw [nI_1, cl_nI (by omega)]
        exact fin 1 (by unfold wH; rw [h1, h2]; rfl)
      · refine ok_t hib (ok_lt ?_)
        rw [nI_1, cl_nI (by omega)]
        exact fin 1000000 (by unfold wH; rw [h1, h2]; rfl)
    · refine ok_t hib (ok_lt ?_)
      rw [nI_1, cl_nI (by omega)]
      exact fin 0 (by unfold wH; rw [h1]; rfl)
  · intro m a hI
    show Ok (b_Hng_setPrices_2 (f_Hng_setPrices_2 m) (nI 256) a) P
    unfold b_Hng_setPrices_2
    exact ok_t (by decide) (ok_some (hP a hI.1 (fun c hc => ⟨hI.2 c hc, by rcases wH_c p d 1000000 c with z | z <;> omega⟩)))
theorem x_listEnds_ok {n : Nat} {p : Nat → Bool} {s0 : Mm} {P : Int32 × Mm → Prop} (hp : pIn n p) (h3 : ∀ k, k < 256 → p k = false → s0.1 35 k = -1) (h4 : ∀ k r, p k = true → isRt n p r = true → Co n p r k → s0.1 35 k = nI r) (hm : fb_ct (isRt n p) 256 ≤ 6)
    (hP : ∀ s, Fr LHe s0 s → (∀ i, i < fb_ct (isRt n p) 256 → s.1 45 i = nI (rtk n p i)) → P (nI (fb_ct (isRt n p) 256), s)) : Ok (f_Hng_listEnds s0) P := by
  have lp : ∀ q c N z, c + q = 256 → q + 1 ≤ N → Fr LHe s0 z → (∀ i, i < fb_ct (isRt n p) c → z.1 45 i = nI (rtk n p i)) → Ok (f_Hng_listEnds_4 N (nI (fb_ct (isRt n p) c)) (nI c) z) P := by
    intro q
    induction q with
    | zero =>
      intro c N z hc hN hF hT
      obtain ⟨N, rfl⟩ := nat_suc hN
      show Ok (b_Hng_listEnds_4 (f_Hng_listEnds_4 N) (nI (fb_ct (isRt n p) c)) (nI c) z) P
      unfold b_Hng_listEnds_4
      have e : c = 256 := by omega
      subst e
      exact okc_le 256 256 (fun _ => ok_some (hP z hF hT)) (fun hh => by omega)
    | succ q ih =>
      intro c N z hc hN hF hT
      obtain ⟨N, rfl⟩ := nat_suc hN
      show Ok (b_Hng_listEnds_4 (f_Hng_listEnds_4 N) (nI (fb_ct (isRt n p) c)) (nI c) z) P
      unfold b_Hng_listEnds_4
      have hs := fb_ct_succ (isRt n p) c
      have hup := ct_upl (isRt n p) (show c + 1 ≤ 256 by omega)
      refine okc_le 256 c (fun hh => by omega) (fun _ => ?_)
      refine okc_le 6 (fb_ct (isRt n p) c) (fun hh => ok_some ?_) (fun hh => ?_) rfl rfl (by omega) (by omega)
      · have e : fb_ct (isRt n p) c = fb_ct (isRt n p) 256 := by
          have : fb_ct (isRt n p) c ≤ fb_ct (isRt n p) (c + 1) := ct_upl _ (by omega)
          omega
        rw [e]
        exact hP z hF (by rw [← e]; exact hT)
      · refine ok_t (inb_nI (by omega) (by omega)) ?_
        rw [cl_nI (by omega), hF 35 c (by simp [inL, LHe])]
        have skip : isRt n p c = false → Ok (f_Hng_listEnds_4 N (nI (fb_ct (isRt n p) c)) (nI (c + 1)) z) P := fun hr => by
          rw [hr] at hs
          simp only [Bool.false_eq_true, if_false, Nat.add_zero] at hs
          rw [← hs]
          exact ih (c + 1) N z (by omega) (by omega) hF (fun i hi => hT i (by omega))
        cases hpc : p c with
        | false =>
          rw [h3 c (by omega) hpc]
          refine ok_f (fun e => nI_nm1 (by omega) e.symm) (ok_lt ?_)
          rw [nI_1]
          refine skip ?_
          cases hr : isRt n p c with
          | false => rfl
          | true => rw [(isRt_iff.mp hr).1] at hpc; cases hpc
        | true =>
          obtain ⟨r, r1, r2, r3⟩ := rt_of hp hpc
          rw [h4 c r hpc r2 r3]
          refine okc_eq r c (fun e => ?_) (fun e => ok_lt ?_) rfl rfl (by omega) (by omega)
          · rw [e] at r2
            rw [r2] at hs
            simp only [if_true] at hs
            refine ok_t (inb_nI (by omega) (by omega)) (ok_lt (ok_lt ?_))
            rw [nI_1, nI_1, ← hs, cl_nI (by omega)]
            refine ih (c + 1) N _ (by omega) (by omega) (hF.sI (by simp [inL, LHe])) (fun i hi => ?_)
            rw [sI_at]
            by_cases ei : i = fb_ct (isRt n p) c
            · rw [if_pos ⟨rfl, ei⟩, ei, rtk_eq (by omega) r2]
            · rw [if_neg (fun e2 => ei e2.2)]; exact hT i (by omega)
          · rw [nI_1]
            refine skip ?_
            cases hr : isRt n p c with
            | false => rfl
            | true => exact absurd (rt_one hp r2 hr r3 Rc.rf) e
  unfold f_Hng_listEnds
  exact lp 256 0 1000000 s0 (by omega) (by omega) Fr.rf (fun i hi => by
    have : fb_ct (isRt n p) 0 = 0 := rfl
    omega)
theorem x_fewest_ok {n : Nat} {p d : Nat → Bool} {s0 : Mm} {P : Int32 × Mm → Prop} (hpin : pIn n p) (hN0 : s0.1 30 0 = nI n) (hp : Rw (s0.1 31) p) (hd : Rw (s0.1 5) d) (h3 : ∀ k, k < 256 → p k = false → s0.1 35 k = -1) (h4 : ∀ k r, p k = true → isRt n p r = true → Co n p r k → s0.1 35 k = nI r) (h2m : 2 ≤ fb_ct (isRt n p) 256) (hm : fb_ct (isRt n p) 256 ≤ 6)
    (hP : ∀ s, Fr LHx s0 s → P (hangI n p d, s)) : Ok (f_Hng_fewest s0) P := by
  unfold f_Hng_fewest
  refine ok_bind (x_setPrices_ok hp hd (fun s1 f1 e1 => ?_))
  refine ok_bind (x_listEnds_ok hpin (fun k hk hpk => by rw [f1 _ _ (by simp [inL, LHp])]; exact h3 k hk hpk) (fun k r a b c => by rw [f1 _ _ (by simp [inL, LHp])]; exact h4 k r a b c) hm (fun s2 f2 t2 => ?_))
  refine okc_le 2 (fb_ct (isRt n p) 256) (fun _ => ok_lt (ok_lt ?_)) (fun hh => by omega)
  have h1 : 2 ^ 1 ≤ 2 ^ (fb_ct (isRt n p) 256 - 1) := Nat.pow_le_pow_right (by decide) (by omega)
  rw [show nI (fb_ct (isRt n p) 256) - (1 : Int32) = nI (fb_ct (isRt n p) 256 - 1) from pk_sub (b := 1) (by omega), shl1 (by omega), show nI (2 ^ (fb_ct (isRt n p) 256 - 1)) - (1 : Int32) = nI (2 ^ (fb_ct (isRt n p) 256 - 1) - 1) from pk_sub (b := 1) (by omega)]
  refine x_few_sets (p := p) (d := d) (tm := rtk n p) hpin.1 h2m hm (fun c hc => by rw [f2 _ _ (by simp [inL, LHe])]; exact e1 c hc) (by rw [f2 _ _ (by simp [inL, LHe]), f1 _ _ (by simp [inL, LHp])]; exact hN0) (fun i hi => ⟨(rtk_C hpin hi).1, (rtk_C hpin hi).2.1⟩) t2 (fun s hs => ?_)
  rw [← hangI_m h2m hm]
  refine hP s (((f1.wk (by decide)).tr (f2.wk (by decide))).tr (fun a j h => hs a j (fun e => by subst e; simp [inL, LHx] at h)))
theorem InvX.hang {A : Ab} {st : Mm} {v : Int32} (h : InvX A st) (hv : v = hangI A.1.1 (papT A.1) A.1.2.2.2.2.2.2) : InvX A (sI (sI st 0 14 v) 0 13 1) := by
  have row : ∀ c, c ≠ 0 → (sI (sI st 0 14 v) 0 13 1).1 c = st.1 c := fun c hc => by rw [sI_row _ _ _ _ hc, sI_row _ _ _ _ hc]
  have rw1 : ∀ c, c ≠ 0 → ∀ j, (sI (sI st 0 14 v) 0 13 1).1 c j = st.1 c j := fun c hc j => by rw [row c hc]
  obtain ⟨h1, h2, ⟨u, h3⟩, h4, h5, h6, h7, h8⟩ := h
  refine ⟨h1.same (rw1 _ (by decide)) (rw1 _ (by decide)) (rw1 _ (by decide)) (rw1 _ (by decide)) (rw1 _ (by decide)), ?_, ⟨u, h3.same (rw1 _ (by decide)) (rw1 _ (by decide)) (rw1 _ (by decide))⟩, ?_, ?_, ?_, Or.inr ?_, ?_⟩
  · unfold TpX
    rw [row 11 (by decide), row 12 (by decide)]; exact h2
  · rw [row 30 (by decide)]; exact h4
  · rw [row 31 (by decide)]; exact h5
  · rw [row 34 (by decide)]
    refine h6.imp id (fun h => ?_)
    unfold PcX
    rw [row 34 (by decide), row 35 (by decide), row 36 (by decide), row 37 (by decide)]
    exact h
  · rw [sI_at, if_neg (by decide), sI_self]; exact hv
  · unfold KpX at h8 ⊢
    rw [show (sI (sI st 0 14 v) 0 13 1).1 0 12 = st.1 0 12 by rw [sI_at, if_neg (by decide), sI_at, if_neg (by decide)]]
    cases hq : A.2.2 with
    | none => rw [hq] at h8; exact h8
    | some t =>
      rw [hq] at h8
      exact ⟨h8.1, h8.2.same (rw1 _ (by decide)) (rw1 _ (by decide)) (rw1 _ (by decide)) (rw1 _ (by decide)) (rw1 _ (by decide))⟩
theorem st_hang : Step1 Inv f_x_hang f_m_hang := step_q (fun A hA => by
  have hpin := papT_in hA.1
  refine ⟨hangI A.1.1 (papT A.1) A.1.2.2.2.2.2.2, xok_wk (fun st hI => ?_), mok_fr LHg rfl (fun st hI => m_hang_ok hA hI)⟩
  unfold f_x_hang
  refine ok_if (fun hk => ?_) (fun hk => ok_some ⟨?_, hI, fun _ _ _ => rfl⟩)
  · have hle := fb_ct_le (isRt A.1.1 (papT A.1)) 256
    have fin : ∀ v s, v = hangI A.1.1 (papT A.1) A.1.2.2.2.2.2.2 → InvX A s → (∀ c j, 58 ≤ c → s.1 c j = st.1 c j) → Ok (some ((sI (sI s 0 14 v) 0 13 1).1 0 14, sI (sI s 0 14 v) 0 13 1)) (fun q => q.1 = hangI A.1.1 (papT A.1) A.1.2.2.2.2.2.2 ∧ InvX A q.2 ∧ ∀ c j, 58 ≤ c → q.2.1 c j = st.1 c j) := fun v s hv hs hlo => ok_some ⟨by
      show (sI (sI s 0 14 v) 0 13 1).1 0 14 = _
      rw [sI_at, if_neg (by decide), sI_self]; exact hv, hs.hang hv, fun c j hc => by
      show (sI (sI s 0 14 v) 0 13 1).1 c j = _
      rw [sI_row _ _ _ _ (by omega), sI_row _ _ _ _ (by omega)]; exact hlo c j hc⟩
    unfold f_x_reckonHang
    refine ok_bind (ok_bind (x_walkPieces_ok hA hI (fun s2 hI2 hPc hF => ?_)))
    have hlo := hF.lo rfl
    obtain ⟨p1, p2, p3, p4, p5, p6⟩ := hPc
    show Ok (if (2 : Int32) ≤ s2.1 34 1 then _ else _) _
    rw [p1]
    refine okc_le 2 (fb_ct (isRt A.1.1 (papT A.1)) 256) (fun h2 => ?_) (fun h2 => ok_some (fin 0 s2 (hangI_0 h2).symm hI2 hlo))
    refine okc_le (fb_ct (isRt A.1.1 (papT A.1)) 256) 6 (fun h6 => ?_) (fun h6 => ok_some (fin (-3) s2 (hangI_3 h6).symm hI2 hlo))
    refine ok_bind (x_fewest_ok (d := A.1.2.2.2.2.2.2) hpin hI2.2.2.2.1 hI2.2.2.2.2.1 hI2.1.2.2.2.2.2.2.2 p3 p4 h2 h6 (fun s3 hF3 => ok_some (fin _ s3 rfl (hI2.same (hF3.okX rfl)) (fun c j hc => by rw [hF3.lo rfl c j hc]; exact hlo c j hc))))
  · rcases hI.2.2.2.2.2.2.1 with h | h
    · exact absurd h hk
    · exact h)
