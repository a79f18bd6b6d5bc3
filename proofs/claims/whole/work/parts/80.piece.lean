/-! piece -/
theorem LWk_no {c j : Nat} (h1 : c ≠ 34 ∨ j = 3) (h2 : c ≠ 35) (h3 : c ≠ 36) (h4 : c ≠ 37) (h5 : c < 38 ∨ 41 < c) : inL LWk c j = false := by
  cases hL : inL LWk c j with
  | false => rfl
  | true =>
    obtain ⟨e, he, h6, h7⟩ := inL_ex hL
    simp only [LWk, List.mem_cons, List.not_mem_nil, or_false] at he
    rcases he with rfl | rfl | rfl | rfl | rfl | rfl | rfl | rfl | rfl | rfl | rfl
    all_goals simp only at h6 h7
    all_goals first | omega | exact h7.elim (fun h => by cases h) (fun h => by have := Option.some.inj h; omega)
theorem InvX.setPc {A : Ab} {st s2 : Mm} (h : InvX A st) (hF : Fr LWk st s2) (hP : s2.1 34 0 = 0 ∨ PcX s2 A.1.1 (papT A.1)) : InvX A s2 := by
  have row : ∀ c, c < 34 → ∀ j, s2.1 c j = st.1 c j := fun c hc j => hF c j (LWk_no (by omega) (by omega) (by omega) (by omega) (by omega))
  obtain ⟨h1, h2, ⟨v, h3⟩, h4, h5, h6, h7, h8⟩ := h
  refine ⟨h1.same (row _ (by decide)) (row _ (by decide)) (row _ (by decide)) (row _ (by decide)) (row _ (by decide)), h2.same (fun c j hc => row c (by omega) j), ⟨v, h3.same (row _ (by decide)) (row _ (by decide)) (row _ (by decide))⟩, by rw [row _ (by decide)]; exact h4, h5.cg (fun y _ => row _ (by decide) y), hP, by rw [row _ (by decide), row _ (by decide)]; exact h7, TbX.kp h8 (row _ (by decide) _) (fun c j a b => row c (by omega) j)⟩
theorem x_walkPieces_ok {A : Ab} (hA : VA A) {st : Mm} (hI : InvX A st) {P : Unit × Mm → Prop} (hP : ∀ s2, InvX A s2 → PcX s2 A.1.1 (papT A.1) → Fr LWk st s2 → P ((), s2)) : Ok (f_x_walkPieces st) P := by
  have hpin := papT_in hA.1
  unfold f_x_walkPieces
  refine ok_if (fun c => ?_) (fun c => ok_some (hP st hI ?_ Fr.rf))
  · refine ok_bind (x_walk_ok hpin hI.2.2.2.1 hI.2.2.2.2.1 (fun s2 D hF h1 hO => ok_some (hP s2 (hI.setPc hF (Or.inr (hO.pc hpin))) (hO.pc hpin) hF)))
  · rcases hI.2.2.2.2.2.1 with h | h
    · exact absurd h c
    · exact h
theorem xok_wk {R : Type} {f : Mm → Option (R × Mm)} {A : Ab} {r : R} (h : ∀ st, InvX A st → Ok (f st) (fun q => q.1 = r ∧ InvX A q.2 ∧ ∀ c j, 58 ≤ c → q.2.1 c j = st.1 c j)) : XOk f A A r := h
theorem m_piecesOf_eq {st : Mm} {n r : Nat} {p : Nat → Bool} (hpin : pIn n p) (hr : isRt n p r = true) (hpap : ∀ c, c < 256 → st.1 72 c = bI (p c)) (hpc : pcs n p 256 st) : f_m_piecesOf (nI r) st = some (nI (szc n p r), st) := by
  have hr256 := (hpin.2 r (isRt_iff.mp hr).1).1
  obtain ⟨h1, h2, h3, _⟩ := hpc
  unfold f_m_piecesOf szc
  refine cnt_eq0 (F := fun m a i s => f_m_piecesOf_4 m (nI r) a i s) (p := cn n p r) (by omega) (fun m a i hi => ?_) (fun m a => ?_)
  · show b_m_piecesOf_4 (f_m_piecesOf_4 m) (nI r) (nI a) (nI i) st = _
    unfold b_m_piecesOf_4
    have hb := inb_nI hi (show 256 < 2147483648 by omega)
    rw [if_neg (n256 hi), if_pos hb, cl_nI (by omega), hpap i hi]
    cases hpi : p i with
    | false =>
      have : cn n p r i = false := by
        cases h : cn n p r i with
        | false => rfl
        | true => have := (cn_iff.mp h).p (isRt_iff.mp hr).1; rw [hpi] at this; cases this
      rw [if_pos (show bI false = 0 from rfl), lt_eq, lt_eq, nI_z, nI_1, this]; rfl
    | true =>
      rw [if_neg nbt, if_pos hb]
      obtain ⟨q, q1, q2, q3⟩ := rt_of hpin hpi
      have hq256 := (hpin.2 q (isRt_iff.mp q2).1).1
      rw [h3 i q hpi hq256 q2 q3]
      by_cases e : q = r
      · have : cn n p r i = true := cn_iff.mpr (by rw [← e]; exact q3)
        rw [if_pos (by rw [e]), lt_eq, lt_eq, nI_1, nI_1, this]; rfl
      · have : cn n p r i = false := by
          cases h : cn n p r i with
          | false => rfl
          | true => exact absurd (rt_one hpin q2 hr q3 (cn_iff.mp h)) e
        rw [if_neg (fun h => e (nI_inj (by omega) (by omega) h)), lt_eq, lt_eq, nI_z, nI_1, this]; rfl
  · show b_m_piecesOf_4 (f_m_piecesOf_4 m) (nI r) (nI a) (nI 256) st = _
    unfold b_m_piecesOf_4
    rw [if_pos (by decide)]
noncomputable def pieI (n : Nat) (p : Nat → Bool) (c r k : Nat) : Int32 := if k = 0 then nI r else if k = 1 then nI (szc n p r) else if k = 2 then bI (thB n p c) else if nI r = oI (mnL n p 256) then 0 else 1
def LPm : List (Nat × Option Nat) := [(58, some 8), (58, some 9), (58, some 10), (58, some 12), (58, some 13), (58, some 14), (58, some 15), (58, some 16), (58, some 39), (58, some 40), (58, some 41), (63, none), (72, none), (73, none), (74, none)]
theorem mI_pieces {A : Ab} (hA : VA A) {st s1 : Mm} (hF : Fr LO st s1) (hn : s1.1 58 0 = nI A.1.1) (hp : ∀ k, k < 256 → s1.1 72 k = bI (papT A.1 k)) {P : Unit × Mm → Prop} (h : ∀ s2, Fr LPm st s2 → s2.1 58 0 = nI A.1.1 → (∀ k, k < 256 → s2.1 72 k = bI (papT A.1 k)) → pcs A.1.1 (papT A.1) 256 s2 → P ((), s2)) : Ok (f_m_laysPieces s1) P :=
  m_laysPieces_ok hn (papT_in hA.1) hp (fun s2 hF2 hpc => h s2 ((hF.wk (by decide)).tr (hF2.wk (by decide))) (by rw [hF2 _ _ rfl]; exact hn) (fun k hk => by rw [hF2 _ _ (by simp [inL, LPc])]; exact hp k hk) hpc)
theorem st_piece (a0 a1 a2 : Int32) : Step1 Inv (f_x_piece a0 a1 a2) (f_m_piece a0 a1 a2) := step_q (fun A hA => by
  have hn := hA.1.2.1
  obtain ⟨v, hv, _⟩ := hA.v
  have hpin := papT_in hA.1
  rcases cell_cases A.1.1 a0 a1 with hc | ⟨a, b, ha, hb, rfl, rfl, hc⟩
  · refine ⟨-1, xok_fr [] rfl (fun st hI => ?_), mok_fr [] rfl (fun st hI => ?_)⟩
    · unfold f_x_piece
      refine ok_bind (ok_eq (x_isCell_gen hI.1.1 hn _ _) ?_)
      rw [hc]
      exact ok_t rfl (ok_some ⟨rfl, Fr.rf⟩)
    · unfold f_m_piece
      refine ok_bind (ok_eq (m_isCell_gen hI.1.1 hn _ _) ?_)
      rw [hc]
      exact ok_t rfl (ok_some ⟨rfl, Fr.rf⟩)
  · rcases in_cases a2 0 3 with hc2 | ⟨k, _, hk, _, rfl, hc2⟩
    · refine ⟨-1, xok_fr [] rfl (fun st hI => ?_), mok_fr [] rfl (fun st hI => ?_)⟩
      · have h2 := of_decide_eq_false hc2
        unfold f_x_piece
        refine ok_bind (ok_eq (x_isCell_gen hI.1.1 hn _ _) ?_)
        rw [hc]
        refine ok_f nbt (ok_if (fun _ => ok_some ⟨rfl, Fr.rf⟩) (fun c1 => ok_if (fun c2 => ?_) (fun _ => ok_some ⟨rfl, Fr.rf⟩)))
        rw [i_lt, i_z] at c1
        rw [i_le, show (3 : Int32).toInt = 3 from rfl] at c2
        omega
      · unfold f_m_piece
        refine ok_bind (ok_eq (m_isCell_gen hI.1.1 hn _ _) ?_)
        rw [hc]
        refine ok_f nbt (ok_bind (ok_eq (m_in_eq a2 0 3 (by omega) (by omega) st) ?_))
        rw [hc2]
        exact ok_t rfl (ok_some ⟨rfl, Fr.rf⟩)
    · have hcell : 16 * b + a < 256 := by omega
      cases hpc : papT A.1 (16 * b + a) with
      | false =>
        refine ⟨-2, xok_fr [] rfl (fun st hI => ?_), mok_fr LO rfl (fun st hI => ?_)⟩
        · unfold f_x_piece
          refine ok_bind (ok_eq (x_isCell_gen hI.1.1 hn _ _) ?_)
          rw [hc]
          refine ok_f nbt (ok_f (nI_pos (by omega)) (ok_t (show nI k ≤ nI 3 from nI_le hk (by omega)) ?_))
          unfold f_x_cellAt
          refine ok_bind (ok_some ?_)
          simp only [cellI]
          refine ok_bind (ok_eq (x_hasBit_eq hI.2.2.2.2.1 hcell) ?_)
          rw [hpc]
          exact ok_t rfl (ok_some ⟨rfl, Fr.rf⟩)
        · unfold f_m_piece
          refine ok_bind (ok_eq (m_isCell_gen hI.1.1 hn _ _) ?_)
          rw [hc]
          refine ok_f nbt (ok_bind (ok_eq (m_in_eq _ 0 3 (by omega) (by omega) st) ?_))
          rw [hc2]
          refine ok_f nbt (ok_bind (mI_opens hA hI hv (fun s2 hF hr hp => ok_lt ?_)))
          rw [cellI]
          refine ok_t (inb_nI hcell (by omega)) ?_
          rw [cl_nI (by omega), hp _ hcell]
          exact ok_t (by show bI (papT A.1 (16 * b + a)) = 0; rw [hpc]; rfl) (ok_some ⟨rfl, hF⟩)
      | true =>
        obtain ⟨r, r1, r2, r3⟩ := rt_of hpin hpc
        have hr256 := (hpin.2 r (isRt_iff.mp r2).1).1
        refine ⟨pieI A.1.1 (papT A.1) (16 * b + a) r k, xok_wk (fun st hI => ?_), mok_fr LPm rfl (fun st hI => ?_)⟩
        · unfold f_x_piece
          refine ok_bind (ok_eq (x_isCell_gen hI.1.1 hn _ _) ?_)
          rw [hc]
          refine ok_f nbt (ok_f (nI_pos (by omega)) (ok_t (show nI k ≤ nI 3 from nI_le hk (by omega)) ?_))
          unfold f_x_cellAt
          refine ok_bind (ok_some ?_)
          simp only [cellI]
          refine ok_bind (ok_eq (x_hasBit_eq hI.2.2.2.2.1 hcell) ?_)
          rw [hpc]
          refine ok_f nbt (ok_bind (x_walkPieces_ok hA hI (fun s2 hI2 hPc hF => ok_t (inb_nI hcell (by omega)) (ok_lt ?_))))
          have hlo := hF.lo rfl
          obtain ⟨p1, p2, p3, p4, p5, p6⟩ := hPc
          rw [cl_nI (by omega), p4 _ r hpc r2 r3]
          unfold pieI
          refine okc_eq k 0 (fun e => ok_some ⟨by rw [if_pos e], hI2, hlo⟩) (fun e0 => ?_)
          rw [if_neg e0]
          refine okc_eq k 1 (fun e => ok_f (nI_pos (by omega)) (ok_f (n256 hr256) (ok_t (inb_nI hr256 (by omega)) (ok_some ⟨?_, hI2, hlo⟩)))) (fun e1 => ?_)
          · rw [if_pos e, cl_nI (by omega)]; exact p5 r r2
          rw [if_neg e1]
          refine okc_eq k 2 (fun e => ok_bind (ok_eq (x_hasBit_eq p6 hcell) ?_)) (fun e2 => ?_)
          · rw [if_pos e]
            show Ok (if bI (papT A.1 (16 * b + a) && thB A.1.1 (papT A.1) (16 * b + a)) = 0 then _ else _) _
            rw [hpc, Bool.true_and]
            refine okc_b (thB A.1.1 (papT A.1) (16 * b + a)) (fun e3 => ok_some ⟨by rw [e3]; rfl, hI2, hlo⟩) (fun e3 => ok_some ⟨by rw [e3]; rfl, hI2, hlo⟩)
          rw [if_neg e2]
          simp only
          rw [p2]
          refine ok_if (fun e3 => ok_some ⟨by rw [if_pos e3], hI2, hlo⟩) (fun e3 => ok_some ⟨by rw [if_neg e3], hI2, hlo⟩)
        · unfold f_m_piece
          refine ok_bind (ok_eq (m_isCell_gen hI.1.1 hn _ _) ?_)
          rw [hc]
          refine ok_f nbt (ok_bind (ok_eq (m_in_eq _ 0 3 (by omega) (by omega) st) ?_))
          rw [hc2]
          refine ok_f nbt (ok_bind (mI_opens hA hI hv (fun s2 hF hr hp => ok_lt ?_)))
          rw [cellI]
          refine ok_t (inb_nI hcell (by omega)) ?_
          rw [cl_nI (by omega), hp _ hcell]
          refine ok_f (by show ¬ bI (papT A.1 (16 * b + a)) = 0; rw [hpc]; decide) (ok_bind (mI_pieces hA hF hr.1 hp (fun s3 hF3 hn3 hp3 hpc3 => ok_t (inb_nI hcell (by omega)) (ok_lt ?_))))
          simp only
          rw [hpc3.2.2.1 _ r hpc hr256 r2 r3]
          unfold pieI
          refine okc_eq k 0 (fun e => ok_some ⟨by rw [if_pos e], hF3⟩) (fun e0 => ?_)
          rw [if_neg e0]
          refine okc_eq k 1 (fun e => ok_bind (ok_eq (m_piecesOf_eq hpin r2 hp3 hpc3) (ok_some ⟨by rw [if_pos e], hF3⟩))) (fun e1 => ?_)
          rw [if_neg e1]
          refine okc_eq k 2 (fun e => ok_bind (m_isThread_ok hn3 hpin hp3 (hpin.2 _ hpc) (fun s4 hF4 => ?_))) (fun e2 => ?_)
          · rw [if_pos e]
            have hF5 : Fr LPm st s4 := hF3.tr (hF4.wk (by decide))
            refine okc_b (thB A.1.1 (papT A.1) (16 * b + a)) (fun e3 => ok_some ⟨by rw [e3]; rfl, hF5⟩) (fun e3 => ok_some ⟨by rw [e3]; rfl, hF5⟩)
          rw [if_neg e2, hpc3.2.2.2.2.2]
          refine ok_if (fun e3 => ok_some ⟨by rw [if_pos e3], hF3⟩) (fun e3 => ok_some ⟨by rw [if_neg e3], hF3⟩))
