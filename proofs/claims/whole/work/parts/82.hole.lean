/-! holes -/
def qB (n : Nat) (p : Nat → Bool) (c : Nat) : Bool := (decide (c < 256) && (decide (c % 16 < n) && decide (c / 16 < n))) && !p c
theorem qB_iff {n : Nat} {p : Nat → Bool} {c : Nat} : qB n p c = true ↔ isC n c ∧ p c = false := by
  unfold qB isC
  simp only [Bool.and_eq_true, decide_eq_true_eq, Bool.not_eq_true']
theorem qB_in {n : Nat} {p : Nat → Bool} (hn : n ≤ 16) : pIn n (qB n p) := ⟨hn, fun c hc => (qB_iff.mp hc).1⟩
def brd (n d : Nat) : Prop := ∃ k, k < 4 ∧ nbr n d k = none
def inn (n : Nat) (q : Nat → Bool) (c : Nat) : Prop := ∀ d, Co n q c d → ¬ brd n d
noncomputable def holB (n : Nat) (q : Nat → Bool) (c : Nat) : Bool := isRt n q c && @decide (inn n q c) (Classical.propDecidable _)
theorem holB_yes {n : Nat} {q : Nat → Bool} {c : Nat} (h1 : isRt n q c = true) (h2 : inn n q c) : holB n q c = true := by
  unfold holB
  rw [h1, Bool.true_and]
  exact (@decide_eq_true_iff _ (Classical.propDecidable _)).mpr h2
theorem holB_no {n : Nat} {q : Nat → Bool} {c : Nat} (h : isRt n q c = false ∨ ¬ inn n q c) : holB n q c = false := by
  cases hh : holB n q c with
  | false => rfl
  | true =>
    exfalso
    unfold holB at hh
    rw [Bool.and_eq_true] at hh
    rcases h with h | h
    · rw [hh.1] at h; cases h
    · exact h ((@decide_eq_true_iff _ (Classical.propDecidable _)).mp hh.2)
noncomputable def memB (R : Nat → Nat) (m c : Nat) : Bool := @decide (∃ t, t < m ∧ R t = c) (Classical.propDecidable _)
theorem memB_iff {R : Nat → Nat} {m c : Nat} : memB R m c = true ↔ ∃ t, t < m ∧ R t = c := @decide_eq_true_iff _ (Classical.propDecidable _)
def LFb : List (Nat × Option Nat) := [(32, none), (33, none)]
def FB (n : Nat) (q B0 : Nat → Bool) (f : Nat) (s0 s : Mm) (R : Nat → Nat) (m : Nat) : Prop :=
  Fr LFb s0 s ∧ 1 ≤ m ∧ R 0 = f ∧ (∀ t, t < m → q (R t) = true ∧ Co n q f (R t) ∧ s.1 33 t = nI (R t)) ∧ (∀ t u, t < u → u < m → R t ≠ R u) ∧ Rw (s.1 32) (fun c => B0 c && !memB R m c)
theorem fl_flip {f : Nat → Int32} {c : Nat → Bool} (h : Rw f c) {k : Nat} (hk : k < 256) : Rw (upd f (k / 16) (f (k / 16) ^^^ ((1 : Int32) <<< (nI (k % 16) &&& 31)))) (fun j => if j = k then !c j else c j) := by
  have := h.flip (b := k / 16) (a := k % 16) (by omega) (by omega)
  simp only [show 16 * (k / 16) + k % 16 = k by omega] at this
  exact this
def upto (i j t k : Nat) : Prop := (t < i ∧ k < 4) ∨ (t = i ∧ k < j)
def clo (n : Nat) (q : Nat → Bool) (R : Nat → Nat) (m i j : Nat) : Prop := ∀ t k d, upto i j t k → nbr n (R t) k = some d → q d = true → ∃ u, u < m ∧ R u = d
def flg (n : Nat) (R : Nat → Nat) (i j : Nat) (fl : Bool) : Prop := fl = true ↔ ∃ t k, upto i j t k ∧ nbr n (R t) k = none
theorem FB_m {n : Nat} {q B0 : Nat → Bool} {f : Nat} {s0 s : Mm} {R : Nat → Nat} {m : Nat} (hq : pIn n q) (h : FB n q B0 f s0 s R m) : m ≤ 256 := fb_holes 256 m R (fun t ht => (hq.2 _ (h.2.2.2.1 t ht).1).1) h.2.2.2.2.1
theorem x_fill_inner {n : Nat} {q B0 : Nat → Bool} {f : Nat} {s0 : Mm} {P : Int32 × Mm → Prop} (kk : Int32 → Int32 → Int32 → Mm → Option (Int32 × Mm)) (hq : pIn n q) (hn : s0.1 30 0 = nI n) (hB0 : ∀ d, Co n q f d → B0 d = true) (hBq : ∀ d, B0 d = true → q d = true) (i : Nat)
    (hk : ∀ R m s fl, FB n q B0 f s0 s R m → i < m → clo n q R m (i + 1) 0 → flg n R (i + 1) 0 fl → Ok (kk (bI fl) (nI m) (nI (i + 1)) s) P) :
    ∀ r j N R m s fl, j + r = 4 → r + 1 ≤ N → FB n q B0 f s0 s R m → i < m → clo n q R m i j → flg n R i j fl → Ok (f_Pap_fillToBorder_48 kk N (bI fl) (nI m) (nI i) (nI j) s) P := by
  intro r
  induction r with
  | zero =>
    intro j N R m s fl hj hN hB him hc hf
    obtain ⟨N, rfl⟩ := nat_suc (show 0 + 1 ≤ N by omega)
    have e : j = 4 := by omega
    subst e
    show Ok (b_Pap_fillToBorder_48 kk (f_Pap_fillToBorder_48 kk N) (bI fl) (nI m) (nI i) (nI 4) s) P
    unfold b_Pap_fillToBorder_48 b_Pap_fillToBorder_137
    refine ok_t (by decide) (ok_lt ?_)
    rw [nI_1]
    have up : ∀ t k, upto (i + 1) 0 t k → upto i 4 t k := fun t k h => by unfold upto at h ⊢; omega
    have up2 : ∀ t k, upto i 4 t k → upto (i + 1) 0 t k := fun t k h => by unfold upto at h ⊢; omega
    refine hk R m s fl hB him (fun t k d h => hc t k d (up t k h)) ?_
    unfold flg at hf ⊢
    rw [hf]
    exact ⟨fun ⟨t, k, a, b⟩ => ⟨t, k, up2 t k a, b⟩, fun ⟨t, k, a, b⟩ => ⟨t, k, up t k a, b⟩⟩
  | succ r ih =>
    intro j N R m s fl hj hN hB him hc hf
    obtain ⟨N, rfl⟩ := nat_suc (show 0 + 1 ≤ N by omega)
    obtain ⟨b1, b2, b3, b4, b5, b6⟩ := id hB
    have hm := FB_m hq hB
    show Ok (b_Pap_fillToBorder_48 kk (f_Pap_fillToBorder_48 kk N) (bI fl) (nI m) (nI i) (nI j) s) P
    unfold b_Pap_fillToBorder_48
    obtain ⟨r1, r2, r3⟩ := b4 i him
    have hRC := hq.2 _ r1
    refine ok_f (show ¬ nI 4 ≤ nI j from nI_ge (by omega) (by omega)) (ok_t (inb_nI (show i < 256 by omega) (by omega)) ?_)
    rw [cl_nI (by omega), r3, b1 30 0 rfl, hn]
    refine ok_bind (ok_eq (x_cellBeside_eq hq.1 hRC (by omega) s) ?_)
    have upj : ∀ t k, upto i (j + 1) t k → upto i j t k ∨ (t = i ∧ k = j) := fun t k h => by unfold upto at h ⊢; omega
    have upj2 : ∀ t k, upto i j t k → upto i (j + 1) t k := fun t k h => by unfold upto at h ⊢; omega
    cases hnb : nbr n (R i) j with
    | none =>
      refine ok_f (show ¬ (0 : Int32) ≤ -1 by decide) (ok_lt ?_)
      rw [nI_1]
      refine ih (j + 1) N R m s true (by omega) (by omega) hB him (fun t k d h h2 h3 => ?_) ?_
      · rcases upj t k h with h4 | ⟨rfl, rfl⟩
        · exact hc t k d h4 h2 h3
        · rw [hnb] at h2; cases h2
      · exact ⟨fun _ => ⟨i, j, by unfold upto; omega, hnb⟩, fun _ => rfl⟩
    | some w =>
      have hwC := nbr_C hq.1 hRC hnb
      have hw := hwC.1
      refine ok_t (show (0 : Int32) ≤ nI w from nI_pos' (by omega)) (ok_bind (ok_eq (x_hasBit_eq b6 hw) ?_))
      have flj : flg n R i (j + 1) fl := by
        unfold flg at hf ⊢
        rw [hf]
        constructor
        · rintro ⟨t, k, a, b⟩; exact ⟨t, k, upj2 t k a, b⟩
        · rintro ⟨t, k, a, b⟩
          rcases upj t k a with h | ⟨rfl, rfl⟩
          · exact ⟨t, k, h, b⟩
          · rw [hnb] at b; cases b
      refine okc_b (B0 w && !memB R m w) (fun e => ok_lt ?_) (fun e => ?_)
      · rw [nI_1]
        refine ih (j + 1) N R m s fl (by omega) (by omega) hB him (fun t k d h h2 h3 => ?_) flj
        rcases upj t k h with h4 | ⟨rfl, rfl⟩
        · exact hc t k d h4 h2 h3
        · rw [hnb] at h2; cases h2
          have hB := hB0 w (Rc.st r2 (by omega) hnb h3)
          rw [hB, Bool.true_and] at e
          exact memB_iff.mp (by cases hh : memB R m w with
            | true => rfl
            | false => rw [hh] at e; cases e)
      · rw [Bool.and_eq_true] at e
        obtain ⟨e1, e2⟩ := e
        have hnm : ¬ ∃ t, t < m ∧ R t = w := fun h => by rw [memB_iff.mpr h] at e2; cases e2
        have hqw := hBq w e1
        have hm2 : m < 256 := by
          rcases Nat.lt_or_ge m 256 with h | h
          · exact h
          · exfalso
            have e3 : m = 256 := by omega
            rw [e3] at b4 b5 hnm
            exact hnm (fb_onto (n := 256) (f := R) (fun t ht => (hq.2 _ (b4 t ht).1).1) b5 hw)
        refine ok_f (n256 hm2) ?_
        show Ok (lt_ (nI w >>> ((4 : Int32) &&& 31)) _) P
        rw [sh4 (by omega)]
        have hib := inb_nI (show w / 16 < 16 by omega) (show 16 < 2147483648 by omega)
        refine ok_lt (ok_t hib (ok_lt (ok_t hib (ok_t (inb_nI hm2 (by omega)) (ok_lt (ok_lt ?_))))))
        show Ok (f_Pap_fillToBorder_48 kk N (bI fl) (nI m + 1) (nI i) (nI j + 1) (sI (sI s 32 (nI (w / 16)).toNatClampNeg (s.1 32 (nI (w / 16)).toNatClampNeg ^^^ ((1 : Int32) <<< ((nI w &&& (15 : Int32)) &&& 31)))) 33 (nI m).toNatClampNeg (nI w))) P
        rw [nI_1, nI_1, cl_nI (by omega), cl_nI (by omega), an15 (by omega)]
        have Ro : ∀ t, t < m → (if t = m then w else R t) = R t := fun t ht => if_neg (by omega)
        refine ih (j + 1) N (fun t => if t = m then w else R t) (m + 1) _ fl (by omega) (by omega) ⟨(b1.sI rfl).sI rfl, by omega, ?_, fun t ht => ?_, fun t u h1 h2 => ?_, ?_⟩ (by omega) (fun t k d h h2 h3 => ?_) ?_
        · show (if 0 = m then w else R 0) = f
          rw [if_neg (by omega)]; exact b3
        · show q (if t = m then w else R t) = true ∧ Co n q f (if t = m then w else R t) ∧ _ = nI (if t = m then w else R t)
          by_cases e3 : t = m
          · rw [if_pos e3, e3, sI_self]
            exact ⟨hqw, Rc.st r2 (by omega) hnb hqw, rfl⟩
          · rw [if_neg e3, sI_col _ _ _ _ e3, sI_row _ _ _ _ (by decide)]
            exact b4 t (by omega)
        · show (if t = m then w else R t) ≠ (if u = m then w else R u)
          rw [if_neg (show ¬ t = m by omega)]
          by_cases e3 : u = m
          · rw [if_pos e3]; exact fun h => hnm ⟨t, by omega, h⟩
          · rw [if_neg e3]; exact b5 t u h1 (by omega)
        · rw [sI_row _ _ _ _ (by decide), sI_own]
          refine (fl_flip b6 hw).cg2 (fun c _ => ?_)
          have hmem : memB (fun t => if t = m then w else R t) (m + 1) c = (memB R m c || decide (c = w)) := by
            rw [Bool.eq_iff_iff, memB_iff, Bool.or_eq_true, memB_iff, decide_eq_true_eq]
            constructor
            · rintro ⟨t, t1, t2⟩
              have t2 : (if t = m then w else R t) = c := t2
              by_cases e3 : t = m
              · rw [if_pos e3] at t2; exact Or.inr t2.symm
              · rw [if_neg e3] at t2; exact Or.inl ⟨t, by omega, t2⟩
            · rintro (⟨t, t1, t2⟩ | rfl)
              · exact ⟨t, by omega, by show (if t = m then w else R t) = c; rw [Ro t t1]; exact t2⟩
              · exact ⟨m, by omega, by show (if m = m then c else R m) = c; rw [if_pos rfl]⟩
          rw [hmem]
          by_cases e3 : c = w
          · rw [if_pos e3, e3, e1]
            cases hh : memB R m w with
            | true => exact absurd (memB_iff.mp hh) hnm
            | false => simp
          · rw [if_neg e3, decide_eq_false e3, Bool.or_false]
        · have ht : t < m := by unfold upto at h; omega
          have h2 : nbr n (if t = m then w else R t) k = some d := h2
          rw [Ro t ht] at h2
          rcases upj t k h with h4 | ⟨rfl, rfl⟩
          · obtain ⟨u, u1, u2⟩ := hc t k d h4 h2 h3
            exact ⟨u, by omega, by show (if u = m then w else R u) = d; rw [Ro u u1]; exact u2⟩
          · rw [hnb] at h2; cases h2
            exact ⟨m, by omega, by show (if m = m then w else R m) = w; rw [if_pos rfl]⟩
        · unfold flg at flj ⊢
          rw [flj]
          constructor
          · rintro ⟨t, k, a, b⟩
            have ht : t < m := by unfold upto at a; omega
            exact ⟨t, k, a, by show nbr n (if t = m then w else R t) k = none; rw [Ro t ht]; exact b⟩
          · rintro ⟨t, k, a, b⟩
            have ht : t < m := by unfold upto at a; omega
            have b : nbr n (if t = m then w else R t) k = none := b
            rw [Ro t ht] at b
            exact ⟨t, k, a, b⟩
theorem x_fillToBorder_ok {n : Nat} {q B0 : Nat → Bool} {f : Nat} {s0 : Mm} {P : Int32 × Mm → Prop} (hq : pIn n q) (hn : s0.1 30 0 = nI n) (hqf : q f = true) (hB0 : ∀ d, Co n q f d → B0 d = true) (hBq : ∀ d, B0 d = true → q d = true) (hR : Rw (s0.1 32) B0)
    (hP : ∀ s fl, Fr LFb s0 s → (fl = true ↔ ∃ d, Co n q f d ∧ brd n d) → Rw (s.1 32) (fun c => B0 c && !cn n q f c) → P (bI fl, s)) : Ok (f_Pap_fillToBorder (nI f) s0) P := by
  have hf256 := (hq.2 f hqf).1
  unfold f_Pap_fillToBorder
  rw [sh4 (by omega), an15 (by omega)]
  have hib := inb_nI (show f / 16 < 16 by omega) (show 16 < 2147483648 by omega)
  refine ok_lt (ok_t hib (ok_lt (ok_t hib ?_)))
  rw [cl_nI (by omega), show (0 : Int32).toNatClampNeg = 0 from rfl]
  have outer : ∀ r i N R m s fl, i + r = 256 → r + 2 ≤ N → FB n q B0 f s0 s R m → i ≤ m → clo n q R m i 0 → flg n R i 0 fl → Ok (f_Pap_fillToBorder_31 N (bI fl) (nI m) (nI i) s) P := by
    intro r
    induction r with
    | zero =>
      intro i N R m s fl hi hN hB him hc hf
      obtain ⟨N, rfl⟩ := nat_suc (show 0 + 1 ≤ N by omega)
      have hm := FB_m hq hB
      show Ok (b_Pap_fillToBorder_31 (f_Pap_fillToBorder_31 N) (bI fl) (nI m) (nI i) s) P
      unfold b_Pap_fillToBorder_31
      obtain ⟨b1, b2, b3, b4, b5, b6⟩ := hB
      have hcl : ∀ d, Co n q f d ↔ ∃ t, t < m ∧ R t = d := fun d => by
        constructor
        · intro h
          refine h (fun d => ∃ t, t < m ∧ R t = d) ⟨0, by omega, b3⟩ ?_
          rintro a k d ⟨t, t1, t2⟩ hk hnb hqd
          rw [← t2] at hnb
          exact hc t k d (by unfold upto; omega) hnb hqd
        · rintro ⟨t, t1, t2⟩; rw [← t2]; exact (b4 t t1).2.1
      refine ok_t (nI_le (by omega) (by omega)) (ok_t (by cases fl <;> simp [bI]) (ok_some (hP s fl b1 ?_ (b6.cg2 (fun c _ => ?_)))))
      · unfold flg at hf
        rw [hf]
        constructor
        · rintro ⟨t, k, a, b⟩
          have ht : t < m ∧ k < 4 := by unfold upto at a; omega
          exact ⟨R t, (b4 t ht.1).2.1, k, ht.2, b⟩
        · rintro ⟨d, d1, k, k1, k2⟩
          obtain ⟨t, t1, t2⟩ := (hcl d).mp d1
          exact ⟨t, k, by unfold upto; omega, by rw [t2]; exact k2⟩
      · congr 1
        congr 1
        rw [Bool.eq_iff_iff, cn_iff, memB_iff, hcl]
    | succ r ih =>
      intro i N R m s fl hi hN hB him hc hf
      obtain ⟨N, rfl⟩ := nat_suc (show 0 + 1 ≤ N by omega)
      have hm := FB_m hq hB
      rcases Nat.lt_or_ge i m with hlt | hge
      · show Ok (b_Pap_fillToBorder_31 (f_Pap_fillToBorder_31 N) (bI fl) (nI m) (nI i) s) P
        unfold b_Pap_fillToBorder_31
        refine ok_f (nI_ge hlt (by omega)) (ok_f (n256 (by omega)) ?_)
        exact x_fill_inner (f_Pap_fillToBorder_31 N) hq hn hB0 hBq i (fun R2 m2 s2 fl2 hB2 hi2 hc2 hf2 => ih (i + 1) N R2 m2 s2 fl2 (by omega) (by omega) hB2 (by omega) hc2 hf2) 4 0 1000000 R m s fl (by omega) (by omega) hB hlt hc hf
      · show Ok (b_Pap_fillToBorder_31 (f_Pap_fillToBorder_31 N) (bI fl) (nI m) (nI i) s) P
        unfold b_Pap_fillToBorder_31
        obtain ⟨b1, b2, b3, b4, b5, b6⟩ := hB
        have hcl : ∀ d, Co n q f d ↔ ∃ t, t < m ∧ R t = d := fun d => by
          constructor
          · intro h
            refine h (fun d => ∃ t, t < m ∧ R t = d) ⟨0, by omega, b3⟩ ?_
            rintro a k d ⟨t, t1, t2⟩ hk hnb hqd
            rw [← t2] at hnb
            exact hc t k d (by unfold upto; omega) hnb hqd
          · rintro ⟨t, t1, t2⟩; rw [← t2]; exact (b4 t t1).2.1
        refine ok_t (nI_le (by omega) (by omega)) (ok_t (by cases fl <;> simp [bI]) (ok_some (hP s fl b1 ?_ (b6.cg2 (fun c _ => ?_)))))
        · unfold flg at hf
          rw [hf]
          constructor
          · rintro ⟨t, k, a, b⟩
            have ht : t < m ∧ k < 4 := by unfold upto at a; omega
            exact ⟨R t, (b4 t ht.1).2.1, k, ht.2, b⟩
          · rintro ⟨d, d1, k, k1, k2⟩
            obtain ⟨t, t1, t2⟩ := (hcl d).mp d1
            exact ⟨t, k, by unfold upto; omega, by rw [t2]; exact k2⟩
        · congr 1
          congr 1
          rw [Bool.eq_iff_iff, cn_iff, memB_iff, hcl]
  refine outer 256 0 1000000 (fun _ => f) 1 _ false (by omega) (by omega) ⟨(Fr.rf.sI rfl).sI rfl, by omega, rfl, fun t ht => ⟨hqf, Rc.rf, ?_⟩, fun t u h1 h2 => by omega, ?_⟩ (by omega) (fun t k d h => by unfold upto at h; omega) ⟨fun h => (by cases h), fun ⟨t, k, a, _⟩ => by unfold upto at a; omega⟩
  · rw [show t = 0 by omega, sI_row _ _ _ _ (by decide), sI_self]
  · rw [sI_own, sI_row _ _ _ _ (by decide)]
    refine (fl_flip hR hf256).cg2 (fun c _ => ?_)
    have hmem : memB (fun _ => f) 1 c = decide (c = f) := by
      rw [Bool.eq_iff_iff, memB_iff, decide_eq_true_eq]
      exact ⟨fun ⟨t, _, h⟩ => h.symm, fun h => ⟨0, by omega, h.symm⟩⟩
    rw [hmem]
    by_cases e : c = f
    · rw [if_pos e, e, hB0 f Rc.rf]; simp
    · rw [if_neg e, decide_eq_false e]; simp
theorem x_holes_ok {n : Nat} {p : Nat → Bool} {st : Mm} {P : Int32 × Mm → Prop} (hpin : pIn n p) (hn : st.1 30 0 = nI n) (hp : Rw (st.1 31) p) (hP : ∀ s2, Fr LFb st s2 → P (nI (fb_ct (holB n (qB n p)) 256), s2)) : Ok (f_Pap_holes st) P := by
  have hq := qB_in (p := p) hpin.1
  have hn16 := hpin.1
  unfold f_Pap_holes
  have hp2 : 2 ^ n ≤ 2 ^ 16 := Nat.pow_le_pow_right (by decide) hn16
  refine ok_upF (fun m y a => f_Pap_holes_2 m y a) (fun y a => Fr LFb st a ∧ ∀ z, z < y → ∀ b, b < 32 → bt (a.1 32 z) b = (decide (b < 16) && qB n p (16 * z + b))) P 16 (by omega) ⟨Fr.rf, fun z hz => by omega⟩ ?_ ?_
  · rintro m y a hy ⟨hF, hz⟩ ih
    show Ok (b_Pap_holes_2 (f_Pap_holes_2 m) (nI y) a) P
    unfold b_Pap_holes_2
    have hib := inb_nI hy (show 16 < 2147483648 by omega)
    have fin : ∀ v : Int32, (∀ b, b < 32 → bt v b = (decide (b < 16) && qB n p (16 * y + b))) → Ok (f_Pap_holes_2 m (nI (y + 1)) (sI a 32 y v)) P := fun v hv => by
      refine ih _ ⟨hF.sI rfl, fun z hz2 b hb => ?_⟩
      rw [sI_at]
      by_cases e : z = y
      · subst e; simp only [and_self, reduceIte]; exact hv b hb
      · simp only [e, and_false, reduceIte]; exact hz z (by omega) b hb
    rw [hF _ _ rfl, hn, cl_nI (by omega), nI_1]
    refine ok_f (n16 hy) (okc_le n y (fun c => ok_t hib (ok_lt (fin 0 (fun b hb => ?_)))) (fun c => ok_t hib (ok_lt (ok_t hib (ok_lt (fin _ (fun b hb => ?_)))))))
    · rw [b_0]
      rcases Nat.lt_or_ge b 16 with h | h
      · rw [decide_eq_true h, Bool.true_and]
        cases hh : qB n p (16 * y + b) with
        | false => rfl
        | true => have := (qB_iff.mp hh).1.2.2; omega
      · rw [decide_eq_false (by omega)]; rfl
    · rw [hF _ _ (by simp [inL, LFb]), fullI hn16, b_and, b_xor, b_m1 b hb, hp y hy b hb, bt_nI (by omega), Nat.testBit_two_pow_sub_one]
      rcases Nat.lt_or_ge b 16 with h | h
      · unfold qB
        rw [decide_eq_true h, decide_eq_true (show 16 * y + b < 256 by omega), show (16 * y + b) % 16 = b by omega, show (16 * y + b) / 16 = y by omega, decide_eq_true c]
        cases p (16 * y + b) <;> cases decide (b < n) <;> rfl
      · rw [decide_eq_false (show ¬ b < 16 by omega), decide_eq_false (show ¬ b < n by omega)]; simp
  · rintro m a ⟨hF, hz⟩
    show Ok (b_Pap_holes_2 (f_Pap_holes_2 m) (nI 16) a) P
    unfold b_Pap_holes_2 b_Pap_holes_49
    refine ok_t (by decide) ?_
    have hR0 : Rw (a.1 32) (qB n p) := fun y hy b hb => hz y hy b hb
    -- what is left behind the cells below k
    have rem : ∃ rm : Nat → Nat → Bool, ∀ k c, (rm k c = true ↔ qB n p c = true ∧ ∀ d, d < k → qB n p d = true → ¬ Co n (qB n p) d c) := ⟨fun k c => @decide (qB n p c = true ∧ ∀ d, d < k → qB n p d = true → ¬ Co n (qB n p) d c) (Classical.propDecidable _), fun k c => @decide_eq_true_iff _ (Classical.propDecidable _)⟩
    obtain ⟨rm, hrm⟩ := rem
    refine ok_upF (fun m k (b : Int32 × Mm) => f_Pap_holes_53 m b.1 k b.2) (fun k b => b.1 = nI (fb_ct (holB n (qB n p)) k) ∧ Fr LFb st b.2 ∧ Rw (b.2.1 32) (rm k)) P 256 (by omega) (a := (0, a)) ⟨rfl, hF, hR0.cg2 (fun c _ => ?_)⟩ ?_ ?_
    · rw [Bool.eq_iff_iff, hrm]
      exact ⟨fun h => h.1, fun h => ⟨h, fun d hd => by omega⟩⟩
    · rintro m k ⟨z, b⟩ hk ⟨rfl, hFb, hRb⟩ ih
      simp only at hFb hRb
      show Ok (b_Pap_holes_53 (f_Pap_holes_53 m) _ (nI k) b) P
      unfold b_Pap_holes_53
      refine ok_f (n256 hk) (ok_bind (ok_eq (x_hasBit_eq hRb hk) ?_))
      refine okc_b (rm k k) (fun e => ok_lt ?_) (fun e => ?_)
      · rw [nI_1]
        have hnr : isRt n (qB n p) k = false := by
          cases h : isRt n (qB n p) k with
          | false => rfl
          | true =>
            have := (hrm k k).mpr (isRt_iff.mp h)
            rw [e] at this; cases this
        refine ih (_, b) ⟨by rw [fb_ct_succ, holB_no (Or.inl hnr)]; rfl, hFb, hRb.cg2 (fun c _ => ?_)⟩
        rw [Bool.eq_iff_iff, hrm, hrm]
        constructor
        · rintro ⟨h1, h2⟩; exact ⟨h1, fun d hd => h2 d (by omega)⟩
        · rintro ⟨h1, h2⟩
          refine ⟨h1, fun d hd hqd hco => ?_⟩
          rcases Nat.lt_or_ge d k with h | h
          · exact h2 d h hqd hco
          · have ed : d = k := by omega
            subst ed
            obtain ⟨r, r1, r2, r3⟩ := rt_of hq hqd
            rcases Nat.eq_or_lt_of_le r1 with e2 | e2
            · rw [e2, hnr] at r2; cases r2
            · exact h2 r e2 (isRt_iff.mp r2).1 (r3.tr hco)
      · have hrt : isRt n (qB n p) k = true := isRt_iff.mpr ((hrm k k).mp e)
        have hqk := (isRt_iff.mp hrt).1
        refine ok_bind (x_fillToBorder_ok (n := n) (q := qB n p) (B0 := rm k) hq (by rw [hFb _ _ rfl]; exact hn) hqk (fun d hd => (hrm k d).mpr ⟨hd.p hqk, fun c hc hqc hco => (isRt_iff.mp hrt).2 c hc hqc (hco.tr (hd.sy hq hqk))⟩) (fun d hd => ((hrm k d).mp hd).1) hRb (fun s2 fl hF2 hfl hR2 => ?_))
        have hR3 : Rw (s2.1 32) (rm (k + 1)) := hR2.cg2 (fun c _ => by
          rw [Bool.eq_iff_iff, Bool.and_eq_true, hrm, hrm]
          constructor
          · rintro ⟨h1, h2⟩
            refine ⟨⟨h1, fun d hd => h2 d (by omega)⟩, ?_⟩
            cases hh : cn n (qB n p) k c with
            | false => rfl
            | true => exact absurd (cn_iff.mp hh) (h2 k (by omega) hqk)
          · rintro ⟨⟨h1, h2⟩, h3⟩
            refine ⟨h1, fun d hd hqd hco => ?_⟩
            rcases Nat.lt_or_ge d k with h | h
            · exact h2 d h hqd hco
            · rw [show d = k by omega] at hco
              rw [cn_iff.mpr hco] at h3; cases h3)
        have hFs := hFb.tr hF2
        refine okc_b fl (fun e2 => ok_lt (ok_lt ?_)) (fun e2 => ok_lt ?_)
        · rw [nI_1, nI_1]
          refine ih (_, s2) ⟨?_, hFs, hR3⟩
          show nI (fb_ct (holB n (qB n p)) k + 1) = _
          rw [fb_ct_succ, holB_yes hrt (fun d hd hb => by rw [hfl.mpr ⟨d, hd, hb⟩] at e2; cases e2)]; rfl
        · rw [nI_1]
          refine ih (_, s2) ⟨?_, hFs, hR3⟩
          show nI (fb_ct (holB n (qB n p)) k) = _
          obtain ⟨d, d1, d2⟩ := hfl.mp e2
          rw [fb_ct_succ, holB_no (Or.inr (fun h => h d d1 d2))]; rfl
    · rintro m ⟨z, b⟩ ⟨rfl, hFb, hRb⟩
      show Ok (b_Pap_holes_53 (f_Pap_holes_53 m) _ (nI 256) b) P
      unfold b_Pap_holes_53
      exact ok_t (by decide) (ok_some (hP b hFb))
