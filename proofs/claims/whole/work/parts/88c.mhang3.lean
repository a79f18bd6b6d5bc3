theorem ct_up (q : Nat → Bool) (a : Nat) : ∀ b, fb_ct q a ≤ fb_ct q (a + b)
  | 0 => Nat.le_refl _
  | b + 1 => by
    rw [show a + (b + 1) = a + b + 1 by omega, fb_ct_succ]
    have := ct_up q a b
    omega
theorem ct_upl (q : Nat → Bool) {a b : Nat} (h : a ≤ b) : fb_ct q a ≤ fb_ct q b := by
  have := ct_up q a (b - a)
  rw [show a + (b - a) = b by omega] at this
  exact this
theorem ct_at (q : Nat → Bool) : ∀ N i, i < fb_ct q N → ∃ r, r < N ∧ q r = true ∧ fb_ct q r = i
  | 0, i, h => by
    have : fb_ct q 0 = 0 := rfl
    omega
  | N + 1, i, h => by
    rw [fb_ct_succ] at h
    rcases Nat.lt_or_ge i (fb_ct q N) with h1 | h1
    · obtain ⟨r, r1, r2, r3⟩ := ct_at q N i h1
      exact ⟨r, by omega, r2, r3⟩
    · cases hq : q N with
      | true => rw [hq] at h; simp only [if_true] at h; exact ⟨N, by omega, hq, by omega⟩
      | false => rw [hq] at h; simp only [Bool.false_eq_true, if_false] at h; omega
theorem rtk_eq {n r : Nat} {p : Nat → Bool} (h : r < 256) (hr : isRt n p r = true) : rtk n p (fb_ct (isRt n p) r) = r := by
  have ex : ∃ r2, r2 < 256 ∧ isRt n p r2 = true ∧ fb_ct (isRt n p) r2 = fb_ct (isRt n p) r := ⟨r, h, hr, rfl⟩
  unfold rtk
  rw [dif_pos ex]
  obtain ⟨c1, c2, c3⟩ := Classical.choose_spec ex
  rcases Nat.lt_trichotomy (Classical.choose ex) r with h1 | h1 | h1
  · have a := fb_ct_succ (isRt n p) (Classical.choose ex)
    rw [c2] at a
    simp only [if_true] at a
    have := ct_upl (isRt n p) (show Classical.choose ex + 1 ≤ r by omega)
    omega
  · exact h1
  · have a := fb_ct_succ (isRt n p) r
    rw [hr] at a
    simp only [if_true] at a
    have := ct_upl (isRt n p) (show r + 1 ≤ Classical.choose ex by omega)
    omega
theorem rtk_C {n i : Nat} {p : Nat → Bool} (hp : pIn n p) (hi : i < fb_ct (isRt n p) 256) : isC n (rtk n p i) ∧ p (rtk n p i) = true ∧ isRt n p (rtk n p i) = true := by
  obtain ⟨r, r1, r2, r3⟩ := ct_at _ 256 i hi
  have := (isRt_iff.mp r2).1
  rw [← r3, rtk_eq r1 r2]
  exact ⟨hp.2 r this, this, r2⟩
def LHm : List (Nat × Option Nat) := [(75, none), (76, none)]
theorem m_hang_list {n : Nat} {p d : Nat → Bool} {s0 : Mm} {P : Int32 × Mm → Prop} (hp : pIn n p) (hE0 : EMs n p d s0) (hpc : pcs n p 256 s0) (h2m : 2 ≤ fb_ct (isRt n p) 256) (hm : fb_ct (isRt n p) 256 ≤ 6)
    (hP : ∀ s, Fr LHm s0 s → P (lstI (fun a => ∃ v, HDer n p d (rtk n p) (fb_ct (isRt n p) 256) (2 ^ fb_ct (isRt n p) 256 - 1) v a), s)) : Ok (f_m_hang_35 1000000 0 0 s0) P := by
  have lp : ∀ q c N z, c + q = 256 → q + 1 ≤ N → Fr [(76, none)] s0 z → (∀ i, i < fb_ct (isRt n p) c → z.1 76 i = nI (rtk n p i)) → Ok (f_m_hang_35 N (nI (fb_ct (isRt n p) c)) (nI c) z) P := by
    intro q
    induction q with
    | zero =>
      intro c N z hc hN hF hT
      obtain ⟨N, rfl⟩ := nat_suc hN
      show Ok (b_m_hang_35 (f_m_hang_35 N) (nI (fb_ct (isRt n p) c)) (nI c) z) P
      unfold b_m_hang_35
      refine okc_le 256 c (fun _ => ?_) (fun hh => by omega)
      have e : c = 256 := by omega
      subst e
      have hE : EMs n p d z := ⟨by rw [hF _ _ rfl]; exact hE0.1, fun c hc => by rw [hF _ _ (by simp [inL])]; exact hE0.2.1 c hc, fun c hc => by rw [hF _ _ (by simp [inL])]; exact hE0.2.2 c hc⟩
      exact m_hang_sets hp.1 (by omega) hm hE (fun i hi => ⟨(rtk_C hp hi).1, (rtk_C hp hi).2.1⟩) hT (fun s hs => hP s (fun a j h => by
        have ha : a ≠ 75 := fun e => by subst e; simp [inL, LHm] at h
        have ha2 : a ≠ 76 := fun e => by subst e; simp [inL, LHm] at h
        rw [hs a j ha]
        exact hF a j (by simp [inL]; exact fun e => ha2 e.symm)))
    | succ q ih =>
      intro c N z hc hN hF hT
      obtain ⟨N, rfl⟩ := nat_suc hN
      show Ok (b_m_hang_35 (f_m_hang_35 N) (nI (fb_ct (isRt n p) c)) (nI c) z) P
      unfold b_m_hang_35
      refine okc_le 256 c (fun hh => by omega) (fun _ => ?_)
      refine ok_t (inb_nI (by omega) (by omega)) ?_
      rw [cl_nI (by omega), show z.1 72 c = bI (p c) by rw [hF _ _ (by simp [inL])]; exact hE0.2.1 c (by omega)]
      have hs := fb_ct_succ (isRt n p) c
      have hup := ct_upl (isRt n p) (show c + 1 ≤ 256 by omega)
      have skip : isRt n p c = false → Ok (f_m_hang_35 N (nI (fb_ct (isRt n p) c)) (nI (c + 1)) z) P := fun hr => by
        rw [hr] at hs
        simp only [Bool.false_eq_true, if_false, Nat.add_zero] at hs
        rw [← hs]
        exact ih (c + 1) N z (by omega) (by omega) hF (fun i hi => hT i (by omega))
      refine okc_b (p c) (fun hpf => ok_lt ?_) (fun hpt => ok_t (inb_nI (by omega) (by omega)) ?_) rfl
      · rw [nI_1]
        refine skip ?_
        cases hr : isRt n p c with
        | false => rfl
        | true => rw [(isRt_iff.mp hr).1] at hpf; cases hpf
      · obtain ⟨r, r1, r2, r3⟩ := rt_of hp hpt
        rw [show z.1 73 c = nI r by rw [hF _ _ (by simp [inL])]; exact hpc.2.2.1 c r hpt (by omega) r2 r3]
        refine okc_eq r c (fun e => ?_) (fun e => ok_lt ?_) rfl rfl (by omega) (by omega)
        · rw [e] at r2
          rw [r2] at hs
          simp only [if_true] at hs
          refine ok_t (inb_nI (by omega) (by omega)) (ok_lt (ok_lt ?_))
          rw [nI_1, nI_1, ← hs, cl_nI (by omega)]
          refine ih (c + 1) N _ (by omega) (by omega) (hF.sI rfl) (fun i hi => ?_)
          rw [sI_at]
          by_cases ei : i = fb_ct (isRt n p) c
          · rw [if_pos ⟨rfl, ei⟩, ei, rtk_eq (by omega) r2]
          · rw [if_neg (fun e2 => ei e2.2)]; exact hT i (by omega)
        · rw [nI_1]
          refine skip ?_
          cases hr : isRt n p c with
          | false => rfl
          | true => exact absurd (rt_one hp r2 hr r3 Rc.rf) e
  exact lp 256 0 1000000 s0 (by omega) (by omega) Fr.rf (fun i hi => by
    have : fb_ct (isRt n p) 0 = 0 := rfl
    omega)
theorem hangI_0 {n : Nat} {p d : Nat → Bool} (h : fb_ct (isRt n p) 256 < 2) : hangI n p d = 0 := by unfold hangI; rw [if_pos h]
theorem hangI_3 {n : Nat} {p d : Nat → Bool} (h : 6 < fb_ct (isRt n p) 256) : hangI n p d = -3 := by unfold hangI; rw [if_neg (by omega), if_pos h]
theorem hangI_m {n : Nat} {p d : Nat → Bool} (h : 2 ≤ fb_ct (isRt n p) 256) (h2 : fb_ct (isRt n p) 256 ≤ 6) : hangI n p d = lstI (fun a => ∃ v, HDer n p d (rtk n p) (fb_ct (isRt n p) 256) (2 ^ fb_ct (isRt n p) 256 - 1) v a) := by unfold hangI; rw [if_neg (by omega), if_neg (by omega)]
def LHg : List (Nat × Option Nat) := LPm ++ LHm
theorem m_hang_ok {A : Ab} (hA : VA A) {st : Mm} (hI : InvM A st) : Ok (f_m_hang st) (fun q => q.1 = hangI A.1.1 (papT A.1) A.1.2.2.2.2.2.2 ∧ Fr LHg st q.2) := by
  obtain ⟨v, hv, _⟩ := hA.v
  have hpin := papT_in hA.1
  unfold f_m_hang
  refine ok_bind (mI_opens hA hI hv (fun s1 hF1 hr1 hp1 => ?_))
  refine ok_bind (mI_pieces hA hF1 hr1.1 hp1 (fun s2 hF2 hn2 hp2 hpc => ?_))
  show Ok (if (2 : Int32) ≤ s2.1 58 39 then _ else _) _
  rw [hpc.2.2.2.1]
  have hle := fb_ct_le (isRt A.1.1 (papT A.1)) 256
  refine okc_le 2 (fb_ct (isRt A.1.1 (papT A.1)) 256) (fun h2 => ?_) (fun h2 => ok_some ⟨(hangI_0 h2).symm, hF2.wk (by decide)⟩)
  refine okc_le (fb_ct (isRt A.1.1 (papT A.1)) 256) 6 (fun h6 => ?_) (fun h6 => ok_some ⟨(hangI_3 h6).symm, hF2.wk (by decide)⟩)
  rw [hangI_m h2 h6]
  exact m_hang_list hpin (d := A.1.2.2.2.2.2.2) ⟨hn2, hp2, fun c hc => by rw [hF2 _ _ (by simp [inL, LPm])]; exact hI.1.2.2.2.2.2.2.2 c hc⟩ hpc h2 h6 (fun s hs => ⟨rfl, (hF2.wk (by decide)).tr (hs.wk (by decide))⟩)
