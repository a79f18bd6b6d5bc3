/-! recipe: how the class reads -/
theorem fctN_cases {c k : Nat} (h : fctN c = some k) : (c = 120 ∧ k = 0) ∨ (c = 121 ∧ k = 1) ∨ (c = 119 ∧ k = 2) ∨ (c = 104 ∧ k = 3) ∨ (c = 108 ∧ k = 4) ∨ (c = 110 ∧ k = 5) ∨ (c = 122 ∧ k = 6) := by
  unfold fctN at h
  repeat' split at h
  all_goals first | (cases h; omega) | cases h
theorem XC.letE {T : Txt} {K : Nat → Nat} {s0 s : Mm} {p L k : Nat} {f : Nat → Nat × Nat} (hE : EX T K s0) (h : XC K s0 s p L f) (hL : L < 160) (hk : fctN (chn T p) = some k) : ∃ s2, f_Rdr_readLetter s = some ((), s2) ∧ XC K s0 s2 (p + 1) (L + 1) (uc f L (1, k)) := by
  have hc := fctN_le hk
  have hin := ch_in hc.2.1
  have h160 := hE.2.2.1.1
  obtain ⟨s2, e2, h2⟩ := h.putE (1, k) hL
  refine ⟨_, ?_, h2.pos (p2 := p + 1) (by omega)⟩
  unfold f_Rdr_readLetter
  rw [h.look hE, ch_I hc.2.1]
  simp only [Option.bind_some]
  have fin : ∀ r : Int32, (some (r, s2) : Option (Int32 × Mm)).bind (fun q => lt_ (q.2.1 13 6 + (1 : Int32)) (fun a4 => some ((), sI q.2 13 6 a4))) = some ((), sI s2 13 6 (nI (p + 1))) := fun r => by
    simp only [Option.bind_some]
    rw [h2.2.1, nI_1, lt_eq]
  rcases fctN_cases hk with ⟨ec, ek⟩ | ⟨ec, ek⟩ | ⟨ec, ek⟩ | ⟨ec, ek⟩ | ⟨ec, ek⟩ | ⟨ec, ek⟩ | ⟨ec, ek⟩
  · rw [ec]
    rw [ek] at e2
    rw [if_neg (show ¬ nI 120 = (104 : Int32) by decide), if_neg (show ¬ nI 120 = (105 : Int32) by decide), if_neg (show ¬ nI 120 = (106 : Int32) by decide), if_neg (show ¬ nI 120 = (107 : Int32) by decide), if_neg (show ¬ nI 120 = (108 : Int32) by decide), if_neg (show ¬ nI 120 = (109 : Int32) by decide), if_neg (show ¬ nI 120 = (110 : Int32) by decide), if_neg (show ¬ nI 120 = (111 : Int32) by decide), if_neg (show ¬ nI 120 = (112 : Int32) by decide), if_neg (show ¬ nI 120 = (113 : Int32) by decide), if_neg (show ¬ nI 120 = (114 : Int32) by decide), if_neg (show ¬ nI 120 = (115 : Int32) by decide), if_neg (show ¬ nI 120 = (116 : Int32) by decide), if_neg (show ¬ nI 120 = (117 : Int32) by decide), if_neg (show ¬ nI 120 = (118 : Int32) by decide), if_neg (show ¬ nI 120 = (119 : Int32) by decide), if_pos (show nI 120 = (120 : Int32) from rfl)]
    rw [show f_Cond_put (nI 120) (0 : Int32) s = _ from e2]
    exact fin _
  · rw [ec]
    rw [ek] at e2
    rw [if_neg (show ¬ nI 121 = (104 : Int32) by decide), if_neg (show ¬ nI 121 = (105 : Int32) by decide), if_neg (show ¬ nI 121 = (106 : Int32) by decide), if_neg (show ¬ nI 121 = (107 : Int32) by decide), if_neg (show ¬ nI 121 = (108 : Int32) by decide), if_neg (show ¬ nI 121 = (109 : Int32) by decide), if_neg (show ¬ nI 121 = (110 : Int32) by decide), if_neg (show ¬ nI 121 = (111 : Int32) by decide), if_neg (show ¬ nI 121 = (112 : Int32) by decide), if_neg (show ¬ nI 121 = (113 : Int32) by decide), if_neg (show ¬ nI 121 = (114 : Int32) by decide), if_neg (show ¬ nI 121 = (115 : Int32) by decide), if_neg (show ¬ nI 121 = (116 : Int32) by decide), if_neg (show ¬ nI 121 = (117 : Int32) by decide), if_neg (show ¬ nI 121 = (118 : Int32) by decide), if_neg (show ¬ nI 121 = (119 : Int32) by decide), if_neg (show ¬ nI 121 = (120 : Int32) by decide), if_pos (show nI 121 = (121 : Int32) from rfl)]
    rw [show f_Cond_put (nI 121) (0 : Int32) s = _ from e2]
    exact fin _
  · rw [ec]
    rw [ek] at e2
    rw [if_neg (show ¬ nI 119 = (104 : Int32) by decide), if_neg (show ¬ nI 119 = (105 : Int32) by decide), if_neg (show ¬ nI 119 = (106 : Int32) by decide), if_neg (show ¬ nI 119 = (107 : Int32) by decide), if_neg (show ¬ nI 119 = (108 : Int32) by decide), if_neg (show ¬ nI 119 = (109 : Int32) by decide), if_neg (show ¬ nI 119 = (110 : Int32) by decide), if_neg (show ¬ nI 119 = (111 : Int32) by decide), if_neg (show ¬ nI 119 = (112 : Int32) by decide), if_neg (show ¬ nI 119 = (113 : Int32) by decide), if_neg (show ¬ nI 119 = (114 : Int32) by decide), if_neg (show ¬ nI 119 = (115 : Int32) by decide), if_neg (show ¬ nI 119 = (116 : Int32) by decide), if_neg (show ¬ nI 119 = (117 : Int32) by decide), if_neg (show ¬ nI 119 = (118 : Int32) by decide), if_pos (show nI 119 = (119 : Int32) from rfl)]
    rw [h.1 14 1 rfl, hE.2.2.2.1, show f_Cond_put (48 : Int32) (nI (K 2)) s = _ from e2]
    exact fin _
  · rw [ec]
    rw [ek] at e2
    rw [if_pos (show nI 104 = (104 : Int32) from rfl)]
    rw [h.1 14 2 rfl, hE.2.2.2.2.1, show f_Cond_put (48 : Int32) (nI (K 3)) s = _ from e2]
    exact fin _
  · rw [ec]
    rw [ek] at e2
    rw [if_neg (show ¬ nI 108 = (104 : Int32) by decide), if_neg (show ¬ nI 108 = (105 : Int32) by decide), if_neg (show ¬ nI 108 = (106 : Int32) by decide), if_neg (show ¬ nI 108 = (107 : Int32) by decide), if_pos (show nI 108 = (108 : Int32) from rfl)]
    rw [show f_Cond_put (nI 108) (0 : Int32) s = _ from e2]
    exact fin _
  · rw [ec]
    rw [ek] at e2
    rw [if_neg (show ¬ nI 110 = (104 : Int32) by decide), if_neg (show ¬ nI 110 = (105 : Int32) by decide), if_neg (show ¬ nI 110 = (106 : Int32) by decide), if_neg (show ¬ nI 110 = (107 : Int32) by decide), if_neg (show ¬ nI 110 = (108 : Int32) by decide), if_neg (show ¬ nI 110 = (109 : Int32) by decide), if_pos (show nI 110 = (110 : Int32) from rfl)]
    rw [h.1 13 10 rfl, hE.2.2.2.2.2.1, show f_Cond_put (48 : Int32) (nI (K 5)) s = _ from e2]
    exact fin _
  · rw [ec]
    rw [ek] at e2
    rw [if_neg (show ¬ nI 122 = (104 : Int32) by decide), if_neg (show ¬ nI 122 = (105 : Int32) by decide), if_neg (show ¬ nI 122 = (106 : Int32) by decide), if_neg (show ¬ nI 122 = (107 : Int32) by decide), if_neg (show ¬ nI 122 = (108 : Int32) by decide), if_neg (show ¬ nI 122 = (109 : Int32) by decide), if_neg (show ¬ nI 122 = (110 : Int32) by decide), if_neg (show ¬ nI 122 = (111 : Int32) by decide), if_neg (show ¬ nI 122 = (112 : Int32) by decide), if_neg (show ¬ nI 122 = (113 : Int32) by decide), if_neg (show ¬ nI 122 = (114 : Int32) by decide), if_neg (show ¬ nI 122 = (115 : Int32) by decide), if_neg (show ¬ nI 122 = (116 : Int32) by decide), if_neg (show ¬ nI 122 = (117 : Int32) by decide), if_neg (show ¬ nI 122 = (118 : Int32) by decide), if_neg (show ¬ nI 122 = (119 : Int32) by decide), if_neg (show ¬ nI 122 = (120 : Int32) by decide), if_neg (show ¬ nI 122 = (121 : Int32) by decide), if_pos (show nI 122 = (122 : Int32) from rfl)]
    rw [h.1 14 0 rfl, hE.2.2.2.2.2.2, show f_Cond_put (48 : Int32) (nI (K 6)) s = _ from e2]
    exact fin _
theorem XC.letF {T : Txt} {K : Nat → Nat} {s0 s : Mm} {p L : Nat} {f : Nat → Nat × Nat} (hE : EX T K s0) (h : XC K s0 s p L f) (hk : fctN (chn T p) = none) : ∃ s2, f_Rdr_readLetter s = some ((), s2) ∧ FX s0 s2 1 p := by
  obtain ⟨s2, e2, h2⟩ := h.fail (q := 1) (by omega) p
  refine ⟨s2, ?_, h2⟩
  have nn : ∀ c, c < 256 → fctN c ≠ none → ¬ chI T p = nI c := fun c hc hn e => hn (by rw [(chI_eq hE.2.2.1 hc).mp e] at hk; exact hk)
  have fin : (f_Rdr_fail (1 : Int32) (s.1 13 6) s).bind (fun q : Unit × Mm => some ((), q.2)) = some ((), s2) := by
    rw [h.2.1, show f_Rdr_fail (1 : Int32) (nI p) s = _ from e2]; rfl
  unfold f_Rdr_readLetter
  rw [h.look hE]
  simp only [Option.bind_some]
  rw [if_neg (show ¬ chI T p = (104 : Int32) from nn 104 (by omega) (by decide))]
  by_cases h105 : chI T p = (105 : Int32)
  · rw [if_pos h105]; exact fin
  rw [if_neg h105]
  by_cases h106 : chI T p = (106 : Int32)
  · rw [if_pos h106]; exact fin
  rw [if_neg h106]
  by_cases h107 : chI T p = (107 : Int32)
  · rw [if_pos h107]; exact fin
  rw [if_neg h107]
  rw [if_neg (show ¬ chI T p = (108 : Int32) from nn 108 (by omega) (by decide))]
  by_cases h109 : chI T p = (109 : Int32)
  · rw [if_pos h109]; exact fin
  rw [if_neg h109]
  rw [if_neg (show ¬ chI T p = (110 : Int32) from nn 110 (by omega) (by decide))]
  by_cases h111 : chI T p = (111 : Int32)
  · rw [if_pos h111]; exact fin
  rw [if_neg h111]
  by_cases h112 : chI T p = (112 : Int32)
  · rw [if_pos h112]; exact fin
  rw [if_neg h112]
  by_cases h113 : chI T p = (113 : Int32)
  · rw [if_pos h113]; exact fin
  rw [if_neg h113]
  by_cases h114 : chI T p = (114 : Int32)
  · rw [if_pos h114]; exact fin
  rw [if_neg h114]
  by_cases h115 : chI T p = (115 : Int32)
  · rw [if_pos h115]; exact fin
  rw [if_neg h115]
  by_cases h116 : chI T p = (116 : Int32)
  · rw [if_pos h116]; exact fin
  rw [if_neg h116]
  by_cases h117 : chI T p = (117 : Int32)
  · rw [if_pos h117]; exact fin
  rw [if_neg h117]
  by_cases h118 : chI T p = (118 : Int32)
  · rw [if_pos h118]; exact fin
  rw [if_neg h118]
  rw [if_neg (show ¬ chI T p = (119 : Int32) from nn 119 (by omega) (by decide))]
  rw [if_neg (show ¬ chI T p = (120 : Int32) from nn 120 (by omega) (by decide))]
  rw [if_neg (show ¬ chI T p = (121 : Int32) from nn 121 (by omega) (by decide))]
  rw [if_neg (show ¬ chI T p = (122 : Int32) from nn 122 (by omega) (by decide))]
  exact fin
theorem XC.mayT {K : Nat → Nat} {s0 s : Mm} {p L o : Nat} {f : Nat → Nat × Nat} (h : XC K s0 s p L f) (ho : o < 6) : f_Rdr_mayOpen (nI o) s = some (1, s) := by
  unfold f_Rdr_mayOpen b_Rdr_mayOpen_15
  rw [if_pos (show nI o < (6 : Int32) from show nI o < nI 6 by rw [nI_ltI (by omega) (by omega)]; omega), h.2.2.1, if_pos rfl]
theorem XC.mayF {K : Nat → Nat} {s0 s : Mm} {p L : Nat} {f : Nat → Nat × Nat} (h : XC K s0 s p L f) : ∃ s2, f_Rdr_mayOpen (nI 6) s = some (0, s2) ∧ FX s0 s2 5 p := by
  obtain ⟨s2, e2, h2⟩ := h.fail (q := 5) (by omega) p
  refine ⟨s2, ?_, h2⟩
  unfold f_Rdr_mayOpen b_Rdr_mayOpen_15
  rw [if_neg (by decide), h.2.1, show f_Rdr_fail (5 : Int32) (nI p) s = _ from e2]
  simp only [Option.bind_some]
  rw [if_neg h2.ne]
theorem ext_one {T : Txt} {p L p2 h h2 : Nat} {f : Nat → Nat × Nat} {x : Nat × Nat} (hp : p < p2) (hp2 : p2 ≤ T.1) (hh : hts f L = some h) (hs : stp x.1 h = some h2) (hv : vcd x) (hj : ¬ jmp x) : Ext T p L f p2 (L + 1) (uc f L x) h2 := by
  have ag : ∀ j, j < L → uc f L x j = f j := fun j hj => uc_n _ _ (by omega)
  refine ⟨hp, hp2, by omega, by omega, ag, ?_, fun j j1 j2 => ?_, fun j j1 j2 j3 => ?_⟩
  · show (hts (uc f L x) L).bind (stp (uc f L x L).1) = some h2
    rw [hts_eq ag, hh, uc_s]
    exact hs
  · rw [show j = L by omega, uc_s]; exact hv
  · rw [show j = L by omega, uc_s] at j3; exact absurd j3 hj
def FacS (T : Txt) (K : Nat → Nat) (s0 : Mm) (g : Int32 → Mm → Option (Unit × Mm)) (o : Nat) : Prop := ∀ s p L f h, XC K s0 s p L f → L ≤ p → hts f L = some h → h ≤ 2 * o + 2 → Ok (g (nI o) s) (fun q => (∃ p2 L2 f2, XC K s0 q.2 p2 L2 f2 ∧ Ext T p L f p2 L2 f2 (h + 1) ∧ ∀ sm, EM T sm → RFac sm p L f o p2 L2 f2) ∨ (∃ k a, FX s0 q.2 k a ∧ ∀ sm, EM T sm → RFacF sm p L f o k a))
def TrmS (T : Txt) (K : Nat → Nat) (s0 : Mm) (g : Int32 → Mm → Option (Unit × Mm)) (o : Nat) : Prop := ∀ s p L f h, XC K s0 s p L f → L ≤ p → hts f L = some h → h ≤ 2 * o + 1 → Ok (g (nI o) s) (fun q => (∃ p2 L2 f2, XC K s0 q.2 p2 L2 f2 ∧ Ext T p L f p2 L2 f2 (h + 1) ∧ (chn T p2 ≠ 42 ∧ chn T p2 ≠ 47 ∧ chn T p2 ≠ 37) ∧ ∀ sm, EM T sm → RTrm sm p L f o p2 L2 f2) ∨ (∃ k a, FX s0 q.2 k a ∧ ∀ sm, EM T sm → RTrmF sm p L f o k a))
def SumS (T : Txt) (K : Nat → Nat) (s0 : Mm) (g : Int32 → Mm → Option (Unit × Mm)) (o : Nat) : Prop := ∀ s p L f h, XC K s0 s p L f → L ≤ p → hts f L = some h → h ≤ 2 * o → Ok (g (nI o) s) (fun q => (∃ p2 L2 f2, XC K s0 q.2 p2 L2 f2 ∧ Ext T p L f p2 L2 f2 (h + 1) ∧ notSg (chn T p2) ∧ ∀ sm, EM T sm → RSum sm p L f o p2 L2 f2) ∨ (∃ k a, FX s0 q.2 k a ∧ ∀ sm, EM T sm → RSumF sm p L f o k a))
theorem stp_num {h : Nat} {a : Nat} (ha : a ≤ 1) (hh : h < 40) : stp a h = some (h + 1) := by
  unfold stp
  rw [if_pos ha, if_pos hh]
theorem stp_op {h a : Nat} (h1 : 2 ≤ a) (h2 : a ≤ 6) (hh : h + 2 < 100) : stp a (h + 2) = some (h + 1) := by
  unfold stp
  rw [if_neg (by omega), if_pos h2, if_pos (by omega)]; rfl
theorem x_num_ok {T : Txt} {K : Nat → Nat} {s0 s : Mm} {p L h o : Nat} {f : Nat → Nat × Nat} (hE : EX T K s0) (hC : XC K s0 s p L f) (hL : L ≤ p) (hh : hts f L = some h) (ho : h < 40) (hd : isD T p = true) : Ok (f_Rdr_readNumber s) (fun q => (∃ p2 L2 f2, XC K s0 q.2 p2 L2 f2 ∧ Ext T p L f p2 L2 f2 (h + 1) ∧ ∀ sm, EM T sm → RFac sm p L f o p2 L2 f2) ∨ (∃ k a, FX s0 q.2 k a ∧ ∀ sm, EM T sm → RFacF sm p L f o k a)) := by
  have h160 := hE.2.2.1.1
  have hd0 := isD_t hd
  have hin0 := ch_in (show chn T p < 256 by omega)
  have fin : ∀ i s, 1 ≤ i → i ≤ 5 → dRun T p i → isD T (p + i) = false → XC K s0 s (p + i) L f → Ok (b_Rdr_readNumber_45 (nI (numV T p i)) s) (fun q => (∃ p2 L2 f2, XC K s0 q.2 p2 L2 f2 ∧ Ext T p L f p2 L2 f2 (h + 1) ∧ ∀ sm, EM T sm → RFac sm p L f o p2 L2 f2) ∨ (∃ k a, FX s0 q.2 k a ∧ ∀ sm, EM T sm → RFacF sm p L f o k a)) := by
    intro i s i1 i5 hr hn hc
    have hl := isD_t (hr (i - 1) (by omega))
    have hin := ch_in (show chn T (p + (i - 1)) < 256 by omega)
    have hv := numV_lt i hr
    have hv2 : 10 ^ i ≤ 10 ^ 5 := Nat.pow_le_pow_right (by decide) i5
    unfold b_Rdr_readNumber_45 b_Rdr_readNumber_61
    refine ok_bind (ok_eq (x_digT hE.2.2.1 (hc.look hE)) ?_)
    rw [hn]
    obtain ⟨s2, e2, h2⟩ := hc.putE (0, numV T p i) (by omega)
    refine ok_t rfl (ok_bind (ok_eq (show f_Cond_put (48 : Int32) (nI (numV T p i)) s = _ from e2) (ok_some (Or.inl ⟨_, _, _, h2, ?_, fun sm hM => fac_num hM (by omega) hr i5 hn⟩))))
    exact ext_one (by omega) (by omega) hh (stp_num (by show 0 ≤ 1; omega) ho) ⟨by show 0 ≤ 12; omega, by show numV T p i < 1048576; omega, fun e => by have e2 : 0 = 1 := e; omega⟩ (fun e => by have e2 : 0 = 11 ∨ 0 = 12 := e; omega)
  have lp : ∀ r i m s, i + r = 5 → r + 1 ≤ m → dRun T p i → XC K s0 s (p + i) L f → Ok (f_Rdr_readNumber_4 m (nI (numV T p i)) (nI i) s) (fun q => (∃ p2 L2 f2, XC K s0 q.2 p2 L2 f2 ∧ Ext T p L f p2 L2 f2 (h + 1) ∧ ∀ sm, EM T sm → RFac sm p L f o p2 L2 f2) ∨ (∃ k a, FX s0 q.2 k a ∧ ∀ sm, EM T sm → RFacF sm p L f o k a)) := by
    intro r
    induction r with
    | zero =>
      intro i m s hi hm hr hc
      obtain ⟨m, rfl⟩ := nat_suc hm
      have e5 : i = 5 := by omega
      subst e5
      show Ok (b_Rdr_readNumber_4 (f_Rdr_readNumber_4 m) (nI (numV T p 5)) (nI 5) s) _
      unfold b_Rdr_readNumber_4
      refine ok_t (by decide) ?_
      cases hn : isD T (p + 5) with
      | false => exact fin 5 s (by omega) (by omega) hr hn hc
      | true =>
        unfold b_Rdr_readNumber_45 b_Rdr_readNumber_61
        refine ok_bind (ok_eq (x_digT hE.2.2.1 (hc.look hE)) ?_)
        rw [hn]
        obtain ⟨s2, e2, h2⟩ := hc.fail (q := 2) (by omega) (p + 5)
        refine ok_f nbt ?_
        show Ok ((f_Rdr_fail (2 : Int32) (s.1 13 6) s).bind _) _
        rw [hc.2.1]
        refine ok_bind (ok_eq (show f_Rdr_fail (2 : Int32) (nI (p + 5)) s = _ from e2) ?_)
        obtain ⟨r3, s3, e3, h3⟩ := h2.put 48 (nI (numV T p 5))
        refine ok_bind (ok_eq e3 (ok_some (Or.inr ⟨2, p + 5, h3, fun sm hM => fac_numF hM (fun i hi => ?_)⟩)))
        rcases Nat.lt_or_ge i 5 with g | g
        · exact hr i g
        · rw [show i = 5 by omega]; exact hn
    | succ r ih =>
      intro i m s hi hm hr hc
      obtain ⟨m, rfl⟩ := nat_suc hm
      show Ok (b_Rdr_readNumber_4 (f_Rdr_readNumber_4 m) (nI (numV T p i)) (nI i) s) _
      unfold b_Rdr_readNumber_4
      refine okc_le 5 i (fun hh => by omega) (fun _ => ?_)
      refine ok_bind (ok_eq (x_digT hE.2.2.1 (hc.look hE)) ?_)
      cases hn : isD T (p + i) with
      | false =>
        refine ok_t rfl (fin i s ?_ (by omega) hr hn hc)
        rcases Nat.eq_zero_or_pos i with z | z
        · rw [z, Nat.add_zero, hd] at hn; cases hn
        · exact z
      | true =>
        have hd2 := isD_t hn
        have hin := ch_in (show chn T (p + i) < 256 by omega)
        refine ok_f nbt (ok_bind (ok_eq (hc.look hE) (ok_lt (ok_lt (ok_lt ?_)))))
        rw [ch_I (by omega), dig_step hn, hc.2.1, nI_1, nI_1]
        refine ih (i + 1) m _ (by omega) (by omega) (fun j hj => ?_) (hc.pos (p2 := p + (i + 1)) (by omega))
        rcases Nat.lt_or_ge j i with g | g
        · exact hr j g
        · rw [show j = i by omega]; exact hn
  unfold f_Rdr_readNumber
  exact lp 5 0 1000000 s (by omega) (by omega) (fun i hi => by omega) hC
theorem x_fac {T : Txt} {K : Nat → Nat} {s0 : Mm} {o N : Nat} (hE : EX T K s0) (ho : o ≤ 6) (hS : o < 6 → SumS T K s0 (rdS N) (o + 1)) : FacS T K s0 (rdF (N + 1)) o := by
  intro s p L f h hC hL hh hb
  have h160 := hE.2.2.1.1
  show Ok (f_Rdr_readFactor (rdC N) (rdP N) (rdI N) (rdS N) (rdT N) (rdF N) (nI o) s) _
  unfold f_Rdr_readFactor
  refine ok_t hC.2.2.1 (ok_bind (ok_eq (hC.look hE) (okc_ch hE.2.2.1 91 (fun hc => ?_) (fun hc => ?_))))
  · have hin := ch_in (show chn T p < 256 by omega)
    by_cases h6 : o = 6
    · subst h6
      obtain ⟨s2, e2, h2⟩ := hC.mayF
      exact ok_bind (ok_eq e2 (ok_t rfl (ok_some (Or.inr ⟨5, p, h2, fun sm hM => fac_openF5 hM hc rfl⟩))))
    · have h6' : o < 6 := by omega
      refine ok_bind (ok_eq (hC.mayT h6') (ok_f ne10 (ok_lt ?_)))
      show Ok ((rdS N (nI o + 1) (sI s 13 6 (s.1 13 6 + 1))).bind _) _
      rw [hC.2.1, nI_1, nI_1]
      refine ok_bind (ok_mono (hS h6' _ (p + 1) L f h (hC.pos (p2 := p + 1) (by omega)) (by omega) hh (by omega)) ?_)
      rintro q (⟨p2, L2, f2, c2, x2, n2, r2⟩ | ⟨k, a, c2, r2⟩)
      · have xp2 := x2.2.1
        have xl2 := x2.2.2.2.1
        by_cases h93 : chn T p2 = 93
        · obtain ⟨s3, e3, h3⟩ := (c2.take hE (c := 93) (by omega)).1 h93
          have hin2 := ch_in (show chn T p2 < 256 by omega)
          refine ok_bind (ok_eq (show f_Rdr_take (93 : Int32) q.2 = _ from e3) (ok_some (Or.inl ⟨p2 + 1, L2, f2, h3, ?_, fun sm hM => fac_open hM hc h6' (r2 sm hM) h93 (by omega)⟩)))
          obtain ⟨y1, y2, y3, y4, y5, y6, y7, y8⟩ := x2
          exact ⟨by omega, by omega, y3, by omega, y5, y6, y7, y8⟩
        · obtain ⟨s3, e3, h3⟩ := (c2.take hE (c := 93) (by omega)).2 h93
          exact ok_bind (ok_eq (show f_Rdr_take (93 : Int32) q.2 = _ from e3) (ok_some (Or.inr ⟨1, p2, h3, fun sm hM => fac_openF1 hM hc h6' (r2 sm hM) h93 n2⟩)))
      · exact ok_bind (ok_eq (c2.take 93) (ok_some (Or.inr ⟨k, a, c2, fun sm hM => fac_openF hM hc h6' (r2 sm hM)⟩)))
  · refine ok_bind (ok_eq (x_digT hE.2.2.1 (hC.look hE)) ?_)
    cases hd : isD T p with
    | true =>
      refine ok_f nbt (ok_bind (ok_mono (x_num_ok (o := o) hE hC hL hh (by omega) hd) (fun q hq => ok_some hq)))
    | false =>
      refine ok_t rfl ?_
      cases hk : fctN (chn T p) with
      | some k =>
        have hk2 := fctN_le hk
        have hin := ch_in hk2.2.1
        obtain ⟨s2, e2, h2⟩ := hC.letE hE (by omega) hk
        refine ok_bind (ok_eq e2 (ok_some (Or.inl ⟨p + 1, L + 1, _, h2, ?_, fun sm hM => fac_let hM hk⟩)))
        exact ext_one (by omega) (by omega) hh (stp_num (by show 1 ≤ 1; omega) (by omega)) ⟨by show 1 ≤ 12; omega, by show k < 1048576; omega, fun _ => hk2.1⟩ (fun e => by have e2 : 1 = 11 ∨ 1 = 12 := e; omega)
      | none =>
        obtain ⟨s2, e2, h2⟩ := hC.letF hE hk
        exact ok_bind (ok_eq e2 (ok_some (Or.inr ⟨1, p, h2, fun sm hM => fac_letF hM hk hd hc⟩)))
theorem eS_op {c a : Nat} (h : opS c a) : eS (a, 0) = c ∧ a ≤ 6 ∧ 2 ≤ a ∧ c < 256 := by
  rcases h with ⟨rfl, rfl⟩ | ⟨rfl, rfl⟩ | ⟨rfl, rfl⟩ | ⟨rfl, rfl⟩ | ⟨rfl, rfl⟩ <;> exact ⟨rfl, by omega, by omega, by omega⟩
theorem eV_op {K : Nat → Nat} {a : Nat} (h : a ≤ 10) (h1 : a ≠ 0) (h2 : a ≠ 1) : eV K (a, 0) = 0 := by
  unfold eV
  rw [if_neg h1, if_neg h2, if_neg (show ¬ a = 11 by omega), if_neg (show ¬ a = 12 by omega)]
theorem x_trm {T : Txt} {K : Nat → Nat} {s0 : Mm} {o N : Nat} (hE : EX T K s0) (ho : o ≤ 6) (hF : FacS T K s0 (rdF N) o) : TrmS T K s0 (rdT (N + 1)) o := by
  intro s p L f h hC hL hh hb
  have h160 := hE.2.2.1.1
  have lp : ∀ r i m s p2 L2 f2, T.1 ≤ p2 + r → r + 2 ≤ m → i < p2 → XC K s0 s p2 L2 f2 → Ext T p L f p2 L2 f2 (h + 1) → (∀ sm, EM T sm → RTrm sm p L f o p2 L2 f2) → Ok (f_Rdr_readTerm_7 (rdC N) (rdP N) (rdI N) (rdS N) (rdT N) (rdF N) m (nI o) (nI i) s) (fun q => (∃ p2 L2 f2, XC K s0 q.2 p2 L2 f2 ∧ Ext T p L f p2 L2 f2 (h + 1) ∧ (chn T p2 ≠ 42 ∧ chn T p2 ≠ 47 ∧ chn T p2 ≠ 37) ∧ ∀ sm, EM T sm → RTrm sm p L f o p2 L2 f2) ∨ (∃ k a, FX s0 q.2 k a ∧ ∀ sm, EM T sm → RTrmF sm p L f o k a)) := by
    intro r
    induction r with
    | zero =>
      intro i m s p2 L2 f2 hr hm hi c2 x2 r2
      obtain ⟨m, rfl⟩ := nat_suc (show 0 + 1 ≤ m by omega)
      show Ok (b_Rdr_readTerm_7 (rdC N) (rdP N) (rdI N) (rdS N) (rdT N) (rdF N) (f_Rdr_readTerm_7 (rdC N) (rdP N) (rdI N) (rdS N) (rdT N) (rdF N) m) (nI o) (nI i) s) _
      unfold b_Rdr_readTerm_7
      have hx := x2.2.1
      refine okc_le 160 i (fun hh => by omega) (fun _ => ok_t c2.2.2.1 (ok_bind (ok_eq (c2.look hE) ?_)))
      have hn : chn T p2 = 256 := by unfold chn; rw [if_neg (by omega)]
      refine okc_ch hE.2.2.1 42 (fun e => by omega) (fun _ => ?_)
      refine okc_ch hE.2.2.1 47 (fun e => by omega) (fun _ => ?_)
      refine okc_ch hE.2.2.1 37 (fun e => by omega) (fun _ => ?_)
      exact ok_some (Or.inl ⟨p2, L2, f2, c2, x2, ⟨by omega, by omega, by omega⟩, r2⟩)
    | succ r ih =>
      intro i m s p2 L2 f2 hr hm hi c2 x2 r2
      obtain ⟨m, rfl⟩ := nat_suc (show 0 + 1 ≤ m by omega)
      have go : ∀ c a, opS c a → (4 ≤ a) → chn T p2 = c → Ok (b_Rdr_readTerm_45 (rdC N) (rdP N) (rdI N) (rdS N) (rdT N) (rdF N) (f_Rdr_readTerm_7 (rdC N) (rdP N) (rdI N) (rdS N) (rdT N) (rdF N) m) (nI o) (nI i) (chI T p2) s) (fun q => (∃ p2 L2 f2, XC K s0 q.2 p2 L2 f2 ∧ Ext T p L f p2 L2 f2 (h + 1) ∧ (chn T p2 ≠ 42 ∧ chn T p2 ≠ 47 ∧ chn T p2 ≠ 37) ∧ ∀ sm, EM T sm → RTrm sm p L f o p2 L2 f2) ∨ (∃ k a, FX s0 q.2 k a ∧ ∀ sm, EM T sm → RTrmF sm p L f o k a)) := by
        intro c a hop ha hc
        have ho2 := eS_op hop
        have hin := ch_in (show chn T p2 < 256 by omega)
        have hxl := x2.2.2.2.1
        unfold b_Rdr_readTerm_45
        refine ok_lt ?_
        rw [c2.2.1, nI_1, ch_I (by omega), hc]
        refine ok_bind (ok_mono (hF _ (p2 + 1) L2 f2 (h + 1) (c2.pos (p2 := p2 + 1) (by omega)) (by omega) x2.2.2.2.2.2.1 (by omega)) ?_)
        rintro q (⟨p3, L3, f3, c3, x3, r3⟩ | ⟨k, b, c3, r3⟩)
        · have xa := x3.1
          have xb := x3.2.1
          have xc := x3.2.2.2.1
          obtain ⟨s4, e4, h4⟩ := c3.putE (a, 0) (by omega)
          rw [ho2.1, eV_op (by omega) (by omega) (by omega)] at e4
          refine ok_bind (ok_eq (show f_Cond_put (nI c) (0 : Int32) q.2 = _ from e4) (ok_lt ?_))
          rw [nI_1]
          exact ih (i + 1) m s4 p3 (L3 + 1) _ (by omega) (by omega) (by omega) h4 (x2.tr (x3.put (stp_op ho2.2.2.1 ho2.2.1 (by omega)) (by omega) (by omega))) (fun sm hM => trm_ext hM (r2 sm hM) (by rw [hc]; exact hop) ha (by omega) (r3 sm hM))
        · obtain ⟨r4, s4, e4, h4⟩ := c3.put (nI c) 0
          refine ok_bind (ok_eq e4 (ok_lt ?_))
          obtain ⟨m, rfl⟩ := nat_suc (show 0 + 1 ≤ m by omega)
          exact ok_eq (h4.trm7 m _ _) (Or.inr ⟨k, b, h4, fun sm hM => trm_extF hM (r2 sm hM) (by rw [hc]; exact hop) ha (by omega) (r3 sm hM)⟩)
      show Ok (b_Rdr_readTerm_7 (rdC N) (rdP N) (rdI N) (rdS N) (rdT N) (rdF N) (f_Rdr_readTerm_7 (rdC N) (rdP N) (rdI N) (rdS N) (rdT N) (rdF N) m) (nI o) (nI i) s) _
      unfold b_Rdr_readTerm_7
      have hx := x2.2.1
      refine okc_le 160 i (fun hh => by omega) (fun _ => ok_t c2.2.2.1 (ok_bind (ok_eq (c2.look hE) ?_)))
      refine okc_ch hE.2.2.1 42 (fun e => go 42 4 (by unfold opS; omega) (by omega) e) (fun n42 => ?_)
      refine okc_ch hE.2.2.1 47 (fun e => go 47 5 (by unfold opS; omega) (by omega) e) (fun n47 => ?_)
      refine okc_ch hE.2.2.1 37 (fun e => go 37 6 (by unfold opS; omega) (by omega) e) (fun n37 => ?_)
      exact ok_some (Or.inl ⟨p2, L2, f2, c2, x2, ⟨n42, n47, n37⟩, r2⟩)
  show Ok ((rdF N (nI o) s).bind (fun q1 => f_Rdr_readTerm_7 (rdC N) (rdP N) (rdI N) (rdS N) (rdT N) (rdF N) 1000000 (nI o) (0 : Int32) q1.2)) _
  refine ok_bind (ok_mono (hF s p L f h hC hL hh (by omega)) ?_)
  rintro q (⟨p2, L2, f2, c2, x2, r2⟩ | ⟨k, a, c2, r2⟩)
  · exact lp 160 0 1000000 q.2 p2 L2 f2 (by omega) (by omega) (by have := x2.1; omega) c2 x2 (fun sm hM => trm_of (r2 sm hM))
  · exact ok_eq (c2.trm7 999999 _ _) (Or.inr ⟨k, a, c2, fun sm hM => trm_ofF (r2 sm hM)⟩)
theorem x_sum {T : Txt} {K : Nat → Nat} {s0 : Mm} {o N : Nat} (hE : EX T K s0) (ho : o ≤ 6) (hF : TrmS T K s0 (rdT N) o) : SumS T K s0 (rdS (N + 1)) o := by
  intro s p L f h hC hL hh hb
  have h160 := hE.2.2.1.1
  have lp : ∀ r i m s p2 L2 f2, T.1 ≤ p2 + r → r + 2 ≤ m → i < p2 → XC K s0 s p2 L2 f2 → Ext T p L f p2 L2 f2 (h + 1) → (chn T p2 ≠ 42 ∧ chn T p2 ≠ 47 ∧ chn T p2 ≠ 37) → (∀ sm, EM T sm → RSum sm p L f o p2 L2 f2) → Ok (f_Rdr_readSum_7 (rdC N) (rdP N) (rdI N) (rdS N) (rdT N) (rdF N) m (nI o) (nI i) s) (fun q => (∃ p2 L2 f2, XC K s0 q.2 p2 L2 f2 ∧ Ext T p L f p2 L2 f2 (h + 1) ∧ notSg (chn T p2) ∧ ∀ sm, EM T sm → RSum sm p L f o p2 L2 f2) ∨ (∃ k a, FX s0 q.2 k a ∧ ∀ sm, EM T sm → RSumF sm p L f o k a)) := by
    intro r
    induction r with
    | zero =>
      intro i m s p2 L2 f2 hr hm hi c2 x2 n2 r2
      obtain ⟨m, rfl⟩ := nat_suc (show 0 + 1 ≤ m by omega)
      show Ok (b_Rdr_readSum_7 (rdC N) (rdP N) (rdI N) (rdS N) (rdT N) (rdF N) (f_Rdr_readSum_7 (rdC N) (rdP N) (rdI N) (rdS N) (rdT N) (rdF N) m) (nI o) (nI i) s) _
      unfold b_Rdr_readSum_7
      have hx := x2.2.1
      refine okc_le 160 i (fun hh => by omega) (fun _ => ok_t c2.2.2.1 (ok_bind (ok_eq (c2.look hE) ?_)))
      have hn : chn T p2 = 256 := by unfold chn; rw [if_neg (by omega)]
      refine okc_ch hE.2.2.1 43 (fun e => by omega) (fun _ => ?_)
      refine okc_ch hE.2.2.1 45 (fun e => by omega) (fun _ => ?_)
      exact ok_some (Or.inl ⟨p2, L2, f2, c2, x2, ⟨by omega, by omega, n2.1, n2.2.1, n2.2.2⟩, r2⟩)
    | succ r ih =>
      intro i m s p2 L2 f2 hr hm hi c2 x2 n2 r2
      obtain ⟨m, rfl⟩ := nat_suc (show 0 + 1 ≤ m by omega)
      have go : ∀ c a, opS c a → (a < 4) → chn T p2 = c → Ok (b_Rdr_readSum_39 (rdC N) (rdP N) (rdI N) (rdS N) (rdT N) (rdF N) (f_Rdr_readSum_7 (rdC N) (rdP N) (rdI N) (rdS N) (rdT N) (rdF N) m) (nI o) (nI i) (chI T p2) s) (fun q => (∃ p2 L2 f2, XC K s0 q.2 p2 L2 f2 ∧ Ext T p L f p2 L2 f2 (h + 1) ∧ notSg (chn T p2) ∧ ∀ sm, EM T sm → RSum sm p L f o p2 L2 f2) ∨ (∃ k a, FX s0 q.2 k a ∧ ∀ sm, EM T sm → RSumF sm p L f o k a)) := by
        intro c a hop ha hc
        have ho2 := eS_op hop
        have hin := ch_in (show chn T p2 < 256 by omega)
        have hxl := x2.2.2.2.1
        unfold b_Rdr_readSum_39
        refine ok_lt ?_
        rw [c2.2.1, nI_1, ch_I (by omega), hc]
        refine ok_bind (ok_mono (hF _ (p2 + 1) L2 f2 (h + 1) (c2.pos (p2 := p2 + 1) (by omega)) (by omega) x2.2.2.2.2.2.1 (by omega)) ?_)
        rintro q (⟨p3, L3, f3, c3, x3, n3, r3⟩ | ⟨k, b, c3, r3⟩)
        · have xa := x3.1
          have xb := x3.2.1
          have xc := x3.2.2.2.1
          obtain ⟨s4, e4, h4⟩ := c3.putE (a, 0) (by omega)
          rw [ho2.1, eV_op (by omega) (by omega) (by omega)] at e4
          refine ok_bind (ok_eq (show f_Cond_put (nI c) (0 : Int32) q.2 = _ from e4) (ok_lt ?_))
          rw [nI_1]
          exact ih (i + 1) m s4 p3 (L3 + 1) _ (by omega) (by omega) (by omega) h4 (x2.tr (x3.put (stp_op ho2.2.2.1 ho2.2.1 (by omega)) (by omega) (by omega))) n3 (fun sm hM => sum_ext hM (r2 sm hM) (by rw [hc]; exact hop) ha (by omega) (r3 sm hM))
        · obtain ⟨r4, s4, e4, h4⟩ := c3.put (nI c) 0
          refine ok_bind (ok_eq e4 (ok_lt ?_))
          obtain ⟨m, rfl⟩ := nat_suc (show 0 + 1 ≤ m by omega)
          exact ok_eq (h4.sum7 m _ _) (Or.inr ⟨k, b, h4, fun sm hM => sum_extF hM (r2 sm hM) (by rw [hc]; exact hop) ha (by omega) (r3 sm hM)⟩)
      show Ok (b_Rdr_readSum_7 (rdC N) (rdP N) (rdI N) (rdS N) (rdT N) (rdF N) (f_Rdr_readSum_7 (rdC N) (rdP N) (rdI N) (rdS N) (rdT N) (rdF N) m) (nI o) (nI i) s) _
      unfold b_Rdr_readSum_7
      have hx := x2.2.1
      refine okc_le 160 i (fun hh => by omega) (fun _ => ok_t c2.2.2.1 (ok_bind (ok_eq (c2.look hE) ?_)))
      refine okc_ch hE.2.2.1 43 (fun e => go 43 2 (by unfold opS; omega) (by omega) e) (fun n43 => ?_)
      refine okc_ch hE.2.2.1 45 (fun e => go 45 3 (by unfold opS; omega) (by omega) e) (fun n45 => ?_)
      exact ok_some (Or.inl ⟨p2, L2, f2, c2, x2, ⟨n43, n45, n2.1, n2.2.1, n2.2.2⟩, r2⟩)
  show Ok ((rdT N (nI o) s).bind (fun q1 => f_Rdr_readSum_7 (rdC N) (rdP N) (rdI N) (rdS N) (rdT N) (rdF N) 1000000 (nI o) (0 : Int32) q1.2)) _
  refine ok_bind (ok_mono (hF s p L f h hC hL hh (by omega)) ?_)
  rintro q (⟨p2, L2, f2, c2, x2, n2, r2⟩ | ⟨k, a, c2, r2⟩)
  · exact lp 160 0 1000000 q.2 p2 L2 f2 (by omega) (by omega) (by have := x2.1; omega) c2 x2 n2 (fun sm hM => sum_of (r2 sm hM))
  · exact ok_eq (c2.sum7 999999 _ _) (Or.inr ⟨k, a, c2, fun sm hM => sum_ofF (r2 sm hM)⟩)
theorem x_sums {T : Txt} {K : Nat → Nat} {s0 : Mm} (hE : EX T K s0) : ∀ d o N, o + d = 6 → SumS T K s0 (rdS (N + 3 + 3 * d)) o
  | 0, o, N, h => by
    have e : N + 3 + 3 * 0 = N + 1 + 1 + 1 := by omega
    rw [e]
    exact x_sum hE (by omega) (x_trm hE (by omega) (x_fac hE (by omega) (fun h6 => by omega)))
  | d + 1, o, N, h => by
    have e : N + 3 + 3 * (d + 1) = (N + 3 + 3 * d) + 1 + 1 + 1 := by omega
    rw [e]
    exact x_sum hE (by omega) (x_trm hE (by omega) (x_fac hE (by omega) (fun _ => x_sums hE d (o + 1) N (by omega))))
