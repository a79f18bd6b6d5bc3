/-! recipe: how the class reads conditions -/
def PceS (T : Txt) (K : Nat → Nat) (s0 : Mm) (g : Int32 → Mm → Option (Unit × Mm)) (o : Nat) : Prop := ∀ s p L f, XC K s0 s p L f → L ≤ p → hts f L = some 0 → Ok (g (nI o) s) (fun q => (∃ p2 L2 f2, XC K s0 q.2 p2 L2 f2 ∧ Ext T p L f p2 L2 f2 100 ∧ ∀ sm, EM T sm → RPce sm p L f o p2 L2 f2) ∨ (∃ k a, FX s0 q.2 k a ∧ ∀ sm, EM T sm → RPceF sm p L f o k a))
def PrtS (T : Txt) (K : Nat → Nat) (s0 : Mm) (g : Int32 → Mm → Option (Unit × Mm)) (o : Nat) : Prop := ∀ s p L f, XC K s0 s p L f → L ≤ p → hts f L = some 0 → Ok (g (nI o) s) (fun q => (∃ p2 L2 f2, XC K s0 q.2 p2 L2 f2 ∧ Ext T p L f p2 L2 f2 100 ∧ chn T p2 ≠ 38 ∧ ∀ sm, EM T sm → RPrt sm p L f o p2 L2 f2) ∨ (∃ k a, FX s0 q.2 k a ∧ ∀ sm, EM T sm → RPrtF sm p L f o k a))
def CndS (T : Txt) (K : Nat → Nat) (s0 : Mm) (g : Int32 → Mm → Option (Unit × Mm)) (o : Nat) : Prop := ∀ s p L f, XC K s0 s p L f → L ≤ p → hts f L = some 0 → Ok (g (nI o) s) (fun q => (∃ p2 L2 f2, XC K s0 q.2 p2 L2 f2 ∧ Ext T p L f p2 L2 f2 100 ∧ (chn T p2 ≠ 38 ∧ chn T p2 ≠ 124) ∧ ∀ sm, EM T sm → RCnd sm p L f o p2 L2 f2) ∨ (∃ k a, FX s0 q.2 k a ∧ ∀ sm, EM T sm → RCndF sm p L f o k a))
theorem eS_rel {c a : Nat} (h : relS c a) : eS (a, 0) = c ∧ a ≤ 9 ∧ 7 ≤ a ∧ c < 256 ∧ stp a 2 = some 100 := by
  rcases h with ⟨rfl, rfl⟩ | ⟨rfl, rfl⟩ | ⟨rfl, rfl⟩ <;> exact ⟨rfl, by omega, by omega, by omega, rfl⟩
theorem x_pce {T : Txt} {K : Nat → Nat} {s0 : Mm} {o M : Nat} (hE : EX T K s0) (ho1 : 1 ≤ o) (ho : o ≤ 6) (hS : SumS T K s0 (rdS (M + 3)) o) (hI : o < 6 → PceS T K s0 (rdI (M + 3)) (o + 1)) (hC : o < 6 → CndS T K s0 (rdC (M + 3)) (o + 1)) : PceS T K s0 (rdI (M + 3 + 1)) o := by
  intro s p L f hX hL hh
  have h160 := hE.2.2.1.1
  show Ok (f_Rdr_readPiece (rdC (M + 3)) (rdP (M + 3)) (rdI (M + 3)) (rdS (M + 3)) (rdT (M + 3)) (rdF (M + 3)) (nI o) s) _
  unfold f_Rdr_readPiece
  refine ok_bind (ok_eq (hX.look hE) (okc_ch hE.2.2.1 33 (fun hc => ?_) (fun n33 => okc_ch hE.2.2.1 40 (fun hc => ?_) (fun n40 => ?_))))
  · have hin := ch_in (show chn T p < 256 by omega)
    unfold b_Rdr_readPiece_17
    by_cases h6 : o = 6
    · subst h6
      obtain ⟨s2, e2, h2⟩ := hX.mayF
      exact ok_bind (ok_eq e2 (ok_t rfl (ok_some (Or.inr ⟨5, p, h2, fun sm hM => pce_F5 hM (Or.inl hc) rfl⟩))))
    · have h6' : o < 6 := by omega
      refine ok_bind (ok_eq (hX.mayT h6') (ok_f ne10 (ok_lt ?_)))
      refine okc_ch hE.2.2.1 33 (fun _ => ?_) (fun e => absurd hc e)
      show Ok ((rdI (M + 3) (nI o + 1) (sI s 13 6 (s.1 13 6 + 1))).bind _) _
      rw [hX.2.1, nI_1, nI_1]
      refine ok_bind (ok_mono (hI h6' _ (p + 1) L f (hX.pos (p2 := p + 1) (by omega)) (by omega) hh) ?_)
      rintro q (⟨p2, L2, f2, c2, x2, r2⟩ | ⟨k, a, c2, r2⟩)
      · have xa := x2.2.1
        have xb := x2.2.2.2.1
        obtain ⟨s4, e4, h4⟩ := c2.putE (10, 0) (by omega)
        exact ok_bind (ok_eq (show f_Cond_put (33 : Int32) (0 : Int32) q.2 = _ from e4) (ok_some (Or.inl ⟨p2, L2 + 1, _, h4, x2.put (a := 10) rfl (by omega) (by omega), fun sm hM => pce_not hM hc h6' (r2 sm hM) (by omega)⟩)))
      · obtain ⟨r4, s4, e4, h4⟩ := c2.put 33 0
        exact ok_bind (ok_eq e4 (ok_some (Or.inr ⟨k, a, h4, fun sm hM => pce_notF hM hc h6' (r2 sm hM)⟩)))
  · have hin := ch_in (show chn T p < 256 by omega)
    unfold b_Rdr_readPiece_17
    by_cases h6 : o = 6
    · subst h6
      obtain ⟨s2, e2, h2⟩ := hX.mayF
      exact ok_bind (ok_eq e2 (ok_t rfl (ok_some (Or.inr ⟨5, p, h2, fun sm hM => pce_F5 hM (Or.inr hc) rfl⟩))))
    · have h6' : o < 6 := by omega
      refine ok_bind (ok_eq (hX.mayT h6') (ok_f ne10 (ok_lt ?_)))
      refine okc_ch hE.2.2.1 33 (fun e => absurd e n33) (fun _ => ?_)
      show Ok ((rdC (M + 3) (nI o + 1) (sI s 13 6 (s.1 13 6 + 1))).bind _) _
      rw [hX.2.1, nI_1, nI_1]
      refine ok_bind (ok_mono (hC h6' _ (p + 1) L f (hX.pos (p2 := p + 1) (by omega)) (by omega) hh) ?_)
      rintro q (⟨p2, L2, f2, c2, x2, n2, r2⟩ | ⟨k, a, c2, r2⟩)
      · by_cases h41 : chn T p2 = 41
        · have hin2 := ch_in (show chn T p2 < 256 by omega)
          obtain ⟨s3, e3, h3⟩ := (c2.take hE (c := 41) (by omega)).1 h41
          refine ok_bind (ok_eq (show f_Rdr_take (41 : Int32) q.2 = _ from e3) (ok_some (Or.inl ⟨p2 + 1, L2, f2, h3, ?_, fun sm hM => pce_par hM hc h6' (r2 sm hM) h41⟩)))
          obtain ⟨y1, y2, y3, y4, y5, y6, y7, y8⟩ := x2
          exact ⟨by omega, by omega, y3, by omega, y5, y6, y7, y8⟩
        · obtain ⟨s3, e3, h3⟩ := (c2.take hE (c := 41) (by omega)).2 h41
          exact ok_bind (ok_eq (show f_Rdr_take (41 : Int32) q.2 = _ from e3) (ok_some (Or.inr ⟨1, p2, h3, fun sm hM => pce_parF1 hM hc h6' (r2 sm hM) h41 n2.1 n2.2⟩)))
      · exact ok_bind (ok_eq (c2.take 41) (ok_some (Or.inr ⟨k, a, c2, fun sm hM => pce_parF hM hc h6' (r2 sm hM)⟩)))
  · refine ok_bind (ok_mono (hS s p L f 0 hX hL hh (by omega)) ?_)
    rintro q (⟨p2, L2, f2, c2, x2, n2, r2⟩ | ⟨k, a, c2, r2⟩)
    · have xa := x2.2.1
      have xb := x2.2.2.2.1
      have x0 := x2.1
      have go : ∀ c a, relS c a → chn T p2 = c → Ok (b_Rdr_readPiece_115 (rdC (M + 3)) (rdP (M + 3)) (rdI (M + 3)) (rdS (M + 3)) (rdT (M + 3)) (rdF (M + 3)) (nI o) (chI T p2) q.2) (fun q => (∃ p2 L2 f2, XC K s0 q.2 p2 L2 f2 ∧ Ext T p L f p2 L2 f2 100 ∧ ∀ sm, EM T sm → RPce sm p L f o p2 L2 f2) ∨ (∃ k a, FX s0 q.2 k a ∧ ∀ sm, EM T sm → RPceF sm p L f o k a)) := by
        intro c a hr hc
        have hr2 := eS_rel hr
        have hin := ch_in (show chn T p2 < 256 by omega)
        unfold b_Rdr_readPiece_115
        refine ok_lt ?_
        rw [c2.2.1, nI_1, ch_I (by omega), hc]
        refine ok_bind (ok_mono (hS _ (p2 + 1) L2 f2 1 (c2.pos (p2 := p2 + 1) (by omega)) (by omega) x2.2.2.2.2.2.1 (by omega)) ?_)
        rintro q3 (⟨p3, L3, f3, c3, x3, n3, r3⟩ | ⟨k, b, c3, r3⟩)
        · have ya := x3.2.1
          have yb := x3.2.2.2.1
          have y0 := x3.1
          obtain ⟨s4, e4, h4⟩ := c3.putE (a, 0) (by omega)
          rw [hr2.1, eV_op (by omega) (by omega) (by omega)] at e4
          exact ok_bind (ok_eq (show f_Cond_put (nI c) (0 : Int32) q3.2 = _ from e4) (ok_some (Or.inl ⟨p3, L3 + 1, _, h4, x2.tr (x3.put hr2.2.2.2.2 (by omega) (by omega)), fun sm hM => pce_cmp hM n33 n40 (r2 sm hM) (by omega) (by rw [hc]; exact hr) (r3 sm hM) (by omega) (by omega) n3⟩)))
        · obtain ⟨r4, s4, e4, h4⟩ := c3.put (nI c) 0
          exact ok_bind (ok_eq e4 (ok_some (Or.inr ⟨k, b, h4, fun sm hM => pce_cmpF3 hM n33 n40 (r2 sm hM) (by omega) (by rw [hc]; exact hr) (r3 sm hM)⟩)))
      refine ok_bind (ok_eq (c2.look hE) ?_)
      refine okc_ch hE.2.2.1 60 (fun e => go 60 7 (by unfold relS; omega) e) (fun n60 => ?_)
      refine okc_ch hE.2.2.1 62 (fun e => go 62 8 (by unfold relS; omega) e) (fun n62 => ?_)
      refine okc_ch hE.2.2.1 61 (fun e => go 61 9 (by unfold relS; omega) e) (fun n61 => ?_)
      obtain ⟨s3, e3, h3⟩ := c2.fail (q := 1) (by omega) p2
      show Ok ((f_Rdr_fail (1 : Int32) (q.2.1 13 6) q.2).bind _) _
      rw [c2.2.1]
      exact ok_bind (ok_eq (show f_Rdr_fail (1 : Int32) (nI p2) q.2 = _ from e3) (ok_some (Or.inr ⟨1, p2, h3, fun sm hM => pce_cmpF2 hM n33 n40 (r2 sm hM) (by omega) n2 n60 n62 n61⟩)))
    · obtain ⟨r, er⟩ := c2.look hE
      have dead : ∀ v : Int32, Ok (b_Rdr_readPiece_115 (rdC (M + 3)) (rdP (M + 3)) (rdI (M + 3)) (rdS (M + 3)) (rdT (M + 3)) (rdF (M + 3)) (nI o) v q.2) (fun q => (∃ p2 L2 f2, XC K s0 q.2 p2 L2 f2 ∧ Ext T p L f p2 L2 f2 100 ∧ ∀ sm, EM T sm → RPce sm p L f o p2 L2 f2) ∨ (∃ k a, FX s0 q.2 k a ∧ ∀ sm, EM T sm → RPceF sm p L f o k a)) := by
        intro v
        unfold b_Rdr_readPiece_115
        refine ok_lt (ok_bind (ok_eq ((c2.at _).sum (N := M) (nI o)) ?_))
        obtain ⟨r4, s4, e4, h4⟩ := (c2.at (q.2.1 13 6 + 1)).put v 0
        exact ok_bind (ok_eq e4 (ok_some (Or.inr ⟨k, a, h4, fun sm hM => pce_cmpF1 hM n33 n40 (r2 sm hM)⟩)))
      refine ok_bind (ok_eq er (ok_if (fun _ => dead _) (fun _ => ok_if (fun _ => dead _) (fun _ => ok_if (fun _ => dead _) (fun _ => ?_)))))
      exact ok_bind (ok_eq (c2.fail _ _) (ok_some (Or.inr ⟨k, a, c2, fun sm hM => pce_cmpF1 hM n33 n40 (r2 sm hM)⟩)))
theorem x_prt {T : Txt} {K : Nat → Nat} {s0 : Mm} {o N : Nat} (hE : EX T K s0) (hF : PceS T K s0 (rdI N) o) : PrtS T K s0 (rdP (N + 1)) o := by
  intro s p L f hX hL hh
  have h160 := hE.2.2.1.1
  -- behind a fault
  have dead : ∀ m s (v w : Int32) (k b : Nat), FX s0 s k b → (∀ sm, EM T sm → RPrtF sm p L f o k b) → Ok ((f_Cond_aimHere v s).bind (fun q4 => (f_Rdr_look q4.2).bind (fun q5 => if q5.1 = (38 : Int32) then (lt_ ((q5.2.1 13 6) + (1 : Int32)) (fun a7 => (f_Cond_put (38 : Int32) (0 : Int32) (sI q5.2 13 6 a7)).bind (fun q8 => lt_ (w + (1 : Int32)) (fun a9 => f_Rdr_readPart_4 (rdC N) (rdP N) (rdI N) (rdS N) (rdT N) (rdF N) (m + 1) (nI o) q8.1 a9 q8.2)))) else (some ((), q5.2))))) (fun q => (∃ p2 L2 f2, XC K s0 q.2 p2 L2 f2 ∧ Ext T p L f p2 L2 f2 100 ∧ chn T p2 ≠ 38 ∧ ∀ sm, EM T sm → RPrt sm p L f o p2 L2 f2) ∨ (∃ k a, FX s0 q.2 k a ∧ ∀ sm, EM T sm → RPrtF sm p L f o k a)) := by
    intro m s v w k b c2 r2
    obtain ⟨s3, e3, h3⟩ := c2.aim v
    obtain ⟨r, er⟩ := h3.look hE
    refine ok_bind (ok_eq e3 (ok_bind (ok_eq er (ok_if (fun _ => ok_lt ?_) (fun _ => ok_some (Or.inr ⟨k, b, h3, r2⟩))))))
    obtain ⟨r4, s4, e4, h4⟩ := (h3.at (s3.1 13 6 + 1)).put 38 0
    exact ok_bind (ok_eq e4 (ok_lt (ok_eq (h4.prt4 m _ _ _) (Or.inr ⟨k, b, h4, r2⟩))))
  have tail : ∀ r, (∀ i m s p2 L2 f2, T.1 ≤ p2 + r → r + 3 ≤ m → i ≤ p2 → chn T p2 = 38 → XC K s0 s (p2 + 1) (L2 + 1) (uc f2 L2 (11, 0)) → Ext T p L f p2 L2 f2 100 → (∀ sm, EM T sm → RPrt sm p L f o p2 L2 f2) → Ok (f_Rdr_readPart_4 (rdC N) (rdP N) (rdI N) (rdS N) (rdT N) (rdF N) m (nI o) (nI L2) (nI i) s) (fun q => (∃ p2 L2 f2, XC K s0 q.2 p2 L2 f2 ∧ Ext T p L f p2 L2 f2 100 ∧ chn T p2 ≠ 38 ∧ ∀ sm, EM T sm → RPrt sm p L f o p2 L2 f2) ∨ (∃ k a, FX s0 q.2 k a ∧ ∀ sm, EM T sm → RPrtF sm p L f o k a))) → ∀ i m s p2 L2 f2, T.1 ≤ p2 + r → r + 3 ≤ m → i + 1 ≤ p2 → XC K s0 s p2 L2 f2 → Ext T p L f p2 L2 f2 100 → (∀ sm, EM T sm → RPrt sm p L f o p2 L2 f2) → Ok ((f_Rdr_look s).bind (fun q5 => if q5.1 = (38 : Int32) then (lt_ ((q5.2.1 13 6) + (1 : Int32)) (fun a7 => (f_Cond_put (38 : Int32) (0 : Int32) (sI q5.2 13 6 a7)).bind (fun q8 => lt_ (nI i + (1 : Int32)) (fun a9 => f_Rdr_readPart_4 (rdC N) (rdP N) (rdI N) (rdS N) (rdT N) (rdF N) m (nI o) q8.1 a9 q8.2)))) else (some ((), q5.2)))) (fun q => (∃ p2 L2 f2, XC K s0 q.2 p2 L2 f2 ∧ Ext T p L f p2 L2 f2 100 ∧ chn T p2 ≠ 38 ∧ ∀ sm, EM T sm → RPrt sm p L f o p2 L2 f2) ∨ (∃ k a, FX s0 q.2 k a ∧ ∀ sm, EM T sm → RPrtF sm p L f o k a)) := by
    intro r H i m s p2 L2 f2 hr hm hi c2 x2 r2
    have xl := x2.2.2.2.1
    refine ok_bind (ok_eq (c2.look hE) ?_)
    refine okc_ch hE.2.2.1 38 (fun hc => ok_lt ?_) (fun nc => ?_)
    rotate_left
    · exact ok_some (Or.inl ⟨p2, L2, f2, c2, x2, nc, r2⟩)
    have hin := ch_in (show chn T p2 < 256 by omega)
    obtain ⟨s4, e4, h4⟩ := (c2.pos (p2 := p2 + 1) (by omega)).putE (11, 0) (by omega)
    show Ok ((f_Cond_put (38 : Int32) (0 : Int32) (sI s 13 6 (s.1 13 6 + 1))).bind _) _
    rw [c2.2.1, nI_1]
    refine ok_bind (ok_eq (show f_Cond_put (38 : Int32) (0 : Int32) (sI s 13 6 (nI (p2 + 1))) = _ from e4) (ok_lt ?_))
    rw [nI_1]
    exact H (i + 1) m s4 p2 L2 f2 hr hm hi hc h4 x2 r2
  have lp : ∀ r, ∀ i m s p2 L2 f2, T.1 ≤ p2 + r → r + 3 ≤ m → i ≤ p2 → chn T p2 = 38 → XC K s0 s (p2 + 1) (L2 + 1) (uc f2 L2 (11, 0)) → Ext T p L f p2 L2 f2 100 → (∀ sm, EM T sm → RPrt sm p L f o p2 L2 f2) → Ok (f_Rdr_readPart_4 (rdC N) (rdP N) (rdI N) (rdS N) (rdT N) (rdF N) m (nI o) (nI L2) (nI i) s) (fun q => (∃ p2 L2 f2, XC K s0 q.2 p2 L2 f2 ∧ Ext T p L f p2 L2 f2 100 ∧ chn T p2 ≠ 38 ∧ ∀ sm, EM T sm → RPrt sm p L f o p2 L2 f2) ∨ (∃ k a, FX s0 q.2 k a ∧ ∀ sm, EM T sm → RPrtF sm p L f o k a)) := by
    intro r
    induction r with
    | zero =>
      intro i m s p2 L2 f2 hr hm hi hc c2 x2 r2
      have hin := ch_in (show chn T p2 < 256 by omega)
      omega
    | succ r ih =>
      intro i m s p2 L2 f2 hr hm hi hc c2 x2 r2
      have hin := ch_in (show chn T p2 < 256 by omega)
      have xl := x2.2.2.2.1
      obtain ⟨m, rfl⟩ := nat_suc (show 0 + 1 ≤ m by omega)
      show Ok (b_Rdr_readPart_4 (rdC N) (rdP N) (rdI N) (rdS N) (rdT N) (rdF N) (f_Rdr_readPart_4 (rdC N) (rdP N) (rdI N) (rdS N) (rdT N) (rdF N) m) (nI o) (nI L2) (nI i) s) _
      unfold b_Rdr_readPart_4
      refine okc_le 160 i (fun hh => by omega) (fun _ => ok_t c2.2.2.1 ?_)
      have h0 : hts (uc f2 L2 (11, 0)) (L2 + 1) = some 0 := by
        show (hts (uc f2 L2 (11, 0)) L2).bind (stp (uc f2 L2 (11, 0) L2).1) = some 0
        rw [hts_eq (g := f2) (fun j hj => uc_n _ _ (by omega)), x2.2.2.2.2.2.1, uc_s]
        rfl
      refine ok_bind (ok_mono (hF s (p2 + 1) (L2 + 1) _ c2 (by omega) h0) ?_)
      rintro q (⟨p3, L3, f3, c3, x3, r3⟩ | ⟨k, b, c3, r3⟩)
      · have y0 := x3.1
        have yl := x3.2.2.1
        have y2 := x3.2.1
        have yb := x3.2.2.2.1
        have hop : (f3 L2).1 = 11 := by rw [x3.2.2.2.2.1 L2 (by omega), uc_s]
        obtain ⟨s4, e4, h4⟩ := c3.aimE (i := L2) (a := 11) (by omega) hop (by omega)
        refine ok_bind (ok_eq e4 ?_)
        exact tail r ih i m s4 p3 L3 _ (by omega) (by omega) (by omega) h4 (x2.jump x3 (by omega) (by omega)) (fun sm hM => prt_ext hM (r2 sm hM) hc (r3 sm hM) (by omega) hop)
      · obtain ⟨m, rfl⟩ := nat_suc (show 0 + 1 ≤ m by omega)
        exact dead m q.2 _ _ k b c3 (fun sm hM => prt_extF hM (r2 sm hM) hc (r3 sm hM))
  obtain ⟨m, em⟩ : ∃ m, m = 999999 := ⟨_, rfl⟩
  show Ok (f_Rdr_readPart_4 (rdC N) (rdP N) (rdI N) (rdS N) (rdT N) (rdF N) (999999 + 1) (nI o) (-1) (nI 0) s) _
  rw [← em]
  show Ok (b_Rdr_readPart_4 (rdC N) (rdP N) (rdI N) (rdS N) (rdT N) (rdF N) (f_Rdr_readPart_4 (rdC N) (rdP N) (rdI N) (rdS N) (rdT N) (rdF N) m) (nI o) (-1) (nI 0) s) _
  unfold b_Rdr_readPart_4
  refine okc_le 160 0 (fun hh => by omega) (fun _ => ok_t hX.2.2.1 ?_)
  refine ok_bind (ok_mono (hF s p L f hX hL hh) ?_)
  rintro q (⟨p2, L2, f2, c2, x2, r2⟩ | ⟨k, b, c2, r2⟩)
  · refine ok_bind (ok_eq (x_aim_no q.2) ?_)
    exact tail 160 (lp 160) 0 m q.2 p2 L2 f2 (by omega) (by omega) (by have := x2.1; omega) c2 x2 (fun sm hM => prt_of (r2 sm hM))
  · obtain ⟨m, rfl⟩ := nat_suc (show 0 + 1 ≤ m by omega)
    exact dead m q.2 _ _ k b c2 (fun sm hM => prt_ofF (r2 sm hM))
theorem x_cnd {T : Txt} {K : Nat → Nat} {s0 : Mm} {o N : Nat} (hE : EX T K s0) (hF : PrtS T K s0 (rdP N) o) : CndS T K s0 (rdC (N + 1)) o := by
  intro s p L f hX hL hh
  have h160 := hE.2.2.1.1
  -- behind a fault
  have dead : ∀ m s (v w : Int32) (k b : Nat), FX s0 s k b → (∀ sm, EM T sm → RCndF sm p L f o k b) → Ok ((f_Cond_aimHere v s).bind (fun q4 => (f_Rdr_look q4.2).bind (fun q5 => if q5.1 = (124 : Int32) then (lt_ ((q5.2.1 13 6) + (1 : Int32)) (fun a7 => (f_Cond_put (124 : Int32) (0 : Int32) (sI q5.2 13 6 a7)).bind (fun q8 => lt_ (w + (1 : Int32)) (fun a9 => f_Rdr_readCondition_4 (rdC N) (rdP N) (rdI N) (rdS N) (rdT N) (rdF N) (m + 1) (nI o) q8.1 a9 q8.2)))) else (some ((), q5.2))))) (fun q => (∃ p2 L2 f2, XC K s0 q.2 p2 L2 f2 ∧ Ext T p L f p2 L2 f2 100 ∧ (chn T p2 ≠ 38 ∧ chn T p2 ≠ 124) ∧ ∀ sm, EM T sm → RCnd sm p L f o p2 L2 f2) ∨ (∃ k a, FX s0 q.2 k a ∧ ∀ sm, EM T sm → RCndF sm p L f o k a)) := by
    intro m s v w k b c2 r2
    obtain ⟨s3, e3, h3⟩ := c2.aim v
    obtain ⟨r, er⟩ := h3.look hE
    refine ok_bind (ok_eq e3 (ok_bind (ok_eq er (ok_if (fun _ => ok_lt ?_) (fun _ => ok_some (Or.inr ⟨k, b, h3, r2⟩))))))
    obtain ⟨r4, s4, e4, h4⟩ := (h3.at (s3.1 13 6 + 1)).put 124 0
    exact ok_bind (ok_eq e4 (ok_lt (ok_eq (h4.cnd4 m _ _ _) (Or.inr ⟨k, b, h4, r2⟩))))
  have tail : ∀ r, (∀ i m s p2 L2 f2, T.1 ≤ p2 + r → r + 3 ≤ m → i ≤ p2 → chn T p2 = 124 → XC K s0 s (p2 + 1) (L2 + 1) (uc f2 L2 (12, 0)) → Ext T p L f p2 L2 f2 100 → (∀ sm, EM T sm → RCnd sm p L f o p2 L2 f2) → Ok (f_Rdr_readCondition_4 (rdC N) (rdP N) (rdI N) (rdS N) (rdT N) (rdF N) m (nI o) (nI L2) (nI i) s) (fun q => (∃ p2 L2 f2, XC K s0 q.2 p2 L2 f2 ∧ Ext T p L f p2 L2 f2 100 ∧ (chn T p2 ≠ 38 ∧ chn T p2 ≠ 124) ∧ ∀ sm, EM T sm → RCnd sm p L f o p2 L2 f2) ∨ (∃ k a, FX s0 q.2 k a ∧ ∀ sm, EM T sm → RCndF sm p L f o k a))) → ∀ i m s p2 L2 f2, T.1 ≤ p2 + r → r + 3 ≤ m → i + 1 ≤ p2 → XC K s0 s p2 L2 f2 → Ext T p L f p2 L2 f2 100 → (chn T p2 ≠ 38) → (∀ sm, EM T sm → RCnd sm p L f o p2 L2 f2) → Ok ((f_Rdr_look s).bind (fun q5 => if q5.1 = (124 : Int32) then (lt_ ((q5.2.1 13 6) + (1 : Int32)) (fun a7 => (f_Cond_put (124 : Int32) (0 : Int32) (sI q5.2 13 6 a7)).bind (fun q8 => lt_ (nI i + (1 : Int32)) (fun a9 => f_Rdr_readCondition_4 (rdC N) (rdP N) (rdI N) (rdS N) (rdT N) (rdF N) m (nI o) q8.1 a9 q8.2)))) else (some ((), q5.2)))) (fun q => (∃ p2 L2 f2, XC K s0 q.2 p2 L2 f2 ∧ Ext T p L f p2 L2 f2 100 ∧ (chn T p2 ≠ 38 ∧ chn T p2 ≠ 124) ∧ ∀ sm, EM T sm → RCnd sm p L f o p2 L2 f2) ∨ (∃ k a, FX s0 q.2 k a ∧ ∀ sm, EM T sm → RCndF sm p L f o k a)) := by
    intro r H i m s p2 L2 f2 hr hm hi c2 x2 n2 r2
    have xl := x2.2.2.2.1
    refine ok_bind (ok_eq (c2.look hE) ?_)
    refine okc_ch hE.2.2.1 124 (fun hc => ok_lt ?_) (fun nc => ?_)
    rotate_left
    · exact ok_some (Or.inl ⟨p2, L2, f2, c2, x2, ⟨n2, nc⟩, r2⟩)
    have hin := ch_in (show chn T p2 < 256 by omega)
    obtain ⟨s4, e4, h4⟩ := (c2.pos (p2 := p2 + 1) (by omega)).putE (12, 0) (by omega)
    show Ok ((f_Cond_put (124 : Int32) (0 : Int32) (sI s 13 6 (s.1 13 6 + 1))).bind _) _
    rw [c2.2.1, nI_1]
    refine ok_bind (ok_eq (show f_Cond_put (124 : Int32) (0 : Int32) (sI s 13 6 (nI (p2 + 1))) = _ from e4) (ok_lt ?_))
    rw [nI_1]
    exact H (i + 1) m s4 p2 L2 f2 hr hm hi hc h4 x2 r2
  have lp : ∀ r, ∀ i m s p2 L2 f2, T.1 ≤ p2 + r → r + 3 ≤ m → i ≤ p2 → chn T p2 = 124 → XC K s0 s (p2 + 1) (L2 + 1) (uc f2 L2 (12, 0)) → Ext T p L f p2 L2 f2 100 → (∀ sm, EM T sm → RCnd sm p L f o p2 L2 f2) → Ok (f_Rdr_readCondition_4 (rdC N) (rdP N) (rdI N) (rdS N) (rdT N) (rdF N) m (nI o) (nI L2) (nI i) s) (fun q => (∃ p2 L2 f2, XC K s0 q.2 p2 L2 f2 ∧ Ext T p L f p2 L2 f2 100 ∧ (chn T p2 ≠ 38 ∧ chn T p2 ≠ 124) ∧ ∀ sm, EM T sm → RCnd sm p L f o p2 L2 f2) ∨ (∃ k a, FX s0 q.2 k a ∧ ∀ sm, EM T sm → RCndF sm p L f o k a)) := by
    intro r
    induction r with
    | zero =>
      intro i m s p2 L2 f2 hr hm hi hc c2 x2 r2
      have hin := ch_in (show chn T p2 < 256 by omega)
      omega
    | succ r ih =>
      intro i m s p2 L2 f2 hr hm hi hc c2 x2 r2
      have hin := ch_in (show chn T p2 < 256 by omega)
      have xl := x2.2.2.2.1
      obtain ⟨m, rfl⟩ := nat_suc (show 0 + 1 ≤ m by omega)
      show Ok (b_Rdr_readCondition_4 (rdC N) (rdP N) (rdI N) (rdS N) (rdT N) (rdF N) (f_Rdr_readCondition_4 (rdC N) (rdP N) (rdI N) (rdS N) (rdT N) (rdF N) m) (nI o) (nI L2) (nI i) s) _
      unfold b_Rdr_readCondition_4
      refine okc_le 160 i (fun hh => by omega) (fun _ => ok_t c2.2.2.1 ?_)
      have h0 : hts (uc f2 L2 (12, 0)) (L2 + 1) = some 0 := by
        show (hts (uc f2 L2 (12, 0)) L2).bind (stp (uc f2 L2 (12, 0) L2).1) = some 0
        rw [hts_eq (g := f2) (fun j hj => uc_n _ _ (by omega)), x2.2.2.2.2.2.1, uc_s]
        rfl
      refine ok_bind (ok_mono (hF s (p2 + 1) (L2 + 1) _ c2 (by omega) h0) ?_)
      rintro q (⟨p3, L3, f3, c3, x3, n3, r3⟩ | ⟨k, b, c3, r3⟩)
      · have y0 := x3.1
        have yl := x3.2.2.1
        have y2 := x3.2.1
        have yb := x3.2.2.2.1
        have hop : (f3 L2).1 = 12 := by rw [x3.2.2.2.2.1 L2 (by omega), uc_s]
        obtain ⟨s4, e4, h4⟩ := c3.aimE (i := L2) (a := 12) (by omega) hop (by omega)
        refine ok_bind (ok_eq e4 ?_)
        exact tail r ih i m s4 p3 L3 _ (by omega) (by omega) (by omega) h4 (x2.jump x3 (by omega) (by omega)) n3 (fun sm hM => cnd_ext hM (r2 sm hM) hc (r3 sm hM) (by omega) hop)
      · obtain ⟨m, rfl⟩ := nat_suc (show 0 + 1 ≤ m by omega)
        exact dead m q.2 _ _ k b c3 (fun sm hM => cnd_extF hM (r2 sm hM) hc (r3 sm hM))
  obtain ⟨m, em⟩ : ∃ m, m = 999999 := ⟨_, rfl⟩
  show Ok (f_Rdr_readCondition_4 (rdC N) (rdP N) (rdI N) (rdS N) (rdT N) (rdF N) (999999 + 1) (nI o) (-1) (nI 0) s) _
  rw [← em]
  show Ok (b_Rdr_readCondition_4 (rdC N) (rdP N) (rdI N) (rdS N) (rdT N) (rdF N) (f_Rdr_readCondition_4 (rdC N) (rdP N) (rdI N) (rdS N) (rdT N) (rdF N) m) (nI o) (-1) (nI 0) s) _
  unfold b_Rdr_readCondition_4
  refine okc_le 160 0 (fun hh => by omega) (fun _ => ok_t hX.2.2.1 ?_)
  refine ok_bind (ok_mono (hF s p L f hX hL hh) ?_)
  rintro q (⟨p2, L2, f2, c2, x2, n2, r2⟩ | ⟨k, b, c2, r2⟩)
  · refine ok_bind (ok_eq (x_aim_no q.2) ?_)
    exact tail 160 (lp 160) 0 m q.2 p2 L2 f2 (by omega) (by omega) (by have := x2.1; omega) c2 x2 n2 (fun sm hM => cnd_of (r2 sm hM))
  · obtain ⟨m, rfl⟩ := nat_suc (show 0 + 1 ≤ m by omega)
    exact dead m q.2 _ _ k b c2 (fun sm hM => cnd_ofF (r2 sm hM))
theorem x_pces {T : Txt} {K : Nat → Nat} {s0 : Mm} (hE : EX T K s0) : ∀ d o N, o + d = 6 → 1 ≤ o → PceS T K s0 (rdI (N + 4 + 3 * d)) o ∧ CndS T K s0 (rdC (N + 6 + 3 * d)) o
  | 0, o, N, h, h1 => by
    have pc : ∀ N, PceS T K s0 (rdI (N + 4 + 3 * 0)) o := fun N => by
      have e : N + 4 + 3 * 0 = N + 3 + 1 := by omega
      rw [e]
      exact x_pce hE h1 (by omega) (x_sums hE 0 o N h) (fun h6 => by omega) (fun h6 => by omega)
    have e : N + 6 + 3 * 0 = (N + 4 + 3 * 0) + 1 + 1 := by omega
    refine ⟨pc N, ?_⟩
    rw [e]
    exact x_cnd hE (x_prt hE (pc N))
  | d + 1, o, N, h, h1 => by
    have pc : ∀ N, PceS T K s0 (rdI (N + 4 + 3 * (d + 1))) o := fun N => by
      have e : N + 4 + 3 * (d + 1) = (N + 3 + 3 * d) + 3 + 1 := by omega
      rw [e]
      refine x_pce hE h1 (by omega) ?_ (fun _ => ?_) (fun _ => ?_)
      · have e2 : N + 3 + 3 * d + 3 = N + 3 + 3 * (d + 1) := by omega
        rw [e2]
        exact x_sums hE (d + 1) o N h
      · have e2 : N + 3 + 3 * d + 3 = (N + 2) + 4 + 3 * d := by omega
        rw [e2]
        exact (x_pces hE d (o + 1) (N + 2) (by omega) (by omega)).1
      · have e2 : N + 3 + 3 * d + 3 = N + 6 + 3 * d := by omega
        rw [e2]
        exact (x_pces hE d (o + 1) N (by omega) (by omega)).2
    have e : N + 6 + 3 * (d + 1) = (N + 4 + 3 * (d + 1)) + 1 + 1 := by omega
    refine ⟨pc N, ?_⟩
    rw [e]
    exact x_cnd hE (x_prt hE (pc N))
theorem x_cond_ok {T : Txt} {K : Nat → Nat} {s0 : Mm} (hE : EX T K s0) : CndS T K s0 (R_Rd 30).1 1 := (x_pces hE 5 1 9 (by omega) (by omega)).2
