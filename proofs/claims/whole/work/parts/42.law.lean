/-! THE CLAIM OUT OF ONE WALK OF THE LAW'S BODY. Your part is whole_start (and what it stands on); all else here is the same for every law, but numbers. -/
def R_law : String := "PaperStarsLaw"
def lw_P (b : Addr) (xs : List Int32) (args : Array Value) (s : State) : Prop := args = #[.ref b] ∧ s.IntsAt b xs ∧ xs.length ≤ 3072 ∧ (Jvm.Cond.and given_1 narrow_1).before args s = true
def lw_Q (_ : Array Value) (s : State) (o : Outcome) (t : State) : Prop := o = .returned (some (.int 1)) ∧ Framed s o t [] 600000 7302250
def lw_Z (below : List Frame) (a : Array Value) (s : State) : State → Prop := fun t => ∃ o, t.status = .running ∧ Ended t below o ∧ lw_Q a s o t
/-- the law's own end, with 1 on the stack, nothing written that was there before, its room as the claim has it -/
theorem lw_ret {p : Program} {l : Launch} {e : Env} {s : State} {m : MethodId} {below : List Frame} {meth : Method} {c : Code} {b : Nat} (hx : p.tables.exec = Jvm.exec) (hb : c.code = code) (hr : meth.sig.returnType = ret) (hlocks : meth.locks = false) {pc : Nat} {H : Heap} {ls : Array Slot} (hdg : decode code pc = .ok (.ireturn, 1)) : W p l e room_1 s m #[Value.ref b] below meth c H [] 600000 7302250 (lw_Z below #[Value.ref b] s) (F0 m pc ls [.int 1]) := by
  intro T hT X
  obtain ⟨fs, hret, hrun, hended, hW, hframe⟩ := X.leave (v := some (.int 1)) (hlocks := hlocks) (fun h => by rw [hr] at h; cases h)
  have hmeth' : T.vm.method? m = some meth := X.method'
  refine ⟨T.setFrames fs, ?_, .returned (some (.int 1)), hrun, hended, rfl, ⟨_, rfl⟩, hW, hframe⟩
  jvm_step X.here [X.here.top, hx, hb, hdg, hmeth', hr, ret, narrow_b1]
  (try refine ⟨rfl, ?_⟩); (try refine ⟨rfl, ?_⟩)
  first | (intro acts; rw [hret _ acts rfl rfl rfl]) | rw [hret _ _ rfl rfl rfl]
  exact Steps.refl _
/-- what holds at the law's entry: the machine, the code, the tables' words (any of lw_tbl by 'hts w (by decide +kernel)'), the script of L ints xs at the cell b, what the Statement gives of the start (any of its parts by flat_of_before) -/
def lw_At (p : Program) (s : State) (m : MethodId) (meth : Method) (c : Code) (b L : Nat) (xs : Nat → Int32) : Prop :=
  p.tables.exec = Jvm.exec ∧ c.code = code ∧ meth.sig.returnType = ret ∧ c.maxLocals = 4 ∧ s.vm.findClass R_law = some m.cls ∧ (∀ w ∈ lw_tbl, w.before #[Value.ref b] s = true) ∧ va_X b L xs s s.heap ∧ b < s.heap.size ∧ meth.locks = false ∧ (Jvm.Cond.and given_1 narrow_1).before #[Value.ref b] s = true
def Step1 (Inv : Mm → Prop) {R : Type} (fx fm : Mm → Option (R × Mm)) : Prop := ∀ st, Inv st → ∃ q1 q2, fx st = some q1 ∧ fm q1.2 = some q2 ∧ q1.1 = q2.1 ∧ Inv q2.2
def PureOK (Inv : Mm → Prop) : Prop := (∀ a0 : Int32, Step1 Inv (f_x_sheet a0) (f_m_sheet a0)) ∧ (∀ a0 a1 a2 a3 a4 : Int32, Step1 Inv (f_x_feed a0 a1 a2 a3 a4) (f_m_feed a0 a1 a2 a3 a4)) ∧ (∀ a0 : Int32, Step1 Inv (f_x_recipe a0) (f_m_recipe a0)) ∧ (∀ a0 : Int32, Step1 Inv (f_x_wedge a0) (f_m_wedge a0)) ∧ (∀ a0 a1 : Int32, Step1 Inv (f_x_layers a0 a1) (f_m_layers a0 a1)) ∧ (∀ a0 a1 : Int32, Step1 Inv (f_x_snipped a0 a1) (f_m_snipped a0 a1)) ∧ (∀ a0 a1 : Int32, Step1 Inv (f_x_opened a0 a1) (f_m_opened a0 a1)) ∧ (∀ a0 : Int32, Step1 Inv (f_x_sums a0) (f_m_sums a0)) ∧ (∀ a0 a1 a2 : Int32, Step1 Inv (f_x_piece a0 a1 a2) (f_m_piece a0 a1 a2)) ∧ (∀ a0 a1 a2 : Int32, (a2 = 0 ∨ a2 = 1) → Step1 Inv (f_x_deer a0 a1 a2) (f_m_deer a0 a1 a2)) ∧ Step1 Inv f_x_hang f_m_hang ∧ (∀ a0 a1 : Int32, Step1 Inv (f_x_want a0 a1) (f_m_want a0 a1)) ∧ Step1 Inv f_x_wantOpened f_m_wantOpened ∧ (∀ a0 : Int32, Step1 Inv (f_x_differs a0) (f_m_differs a0)) ∧ (∀ a0 a1 a2 : Int32, Step1 Inv (f_x_fits a0 a1 a2) (f_m_fits a0 a1 a2)) ∧ (∀ a0 : Int32, Step1 Inv (f_x_bestFold a0) (f_m_bestFold a0)) ∧ (∀ a0 a1 a2 : Int32, Step1 Inv (f_x_snips a0 a1 a2) (f_m_snips a0 a1 a2)) ∧ (∀ a0 a1 a2 a3 : Int32, Step1 Inv (f_x_straight a0 a1 a2 a3) (f_m_straight a0 a1 a2 a3)) ∧ (∀ a0 a1 : Int32, Step1 Inv (f_x_scraps a0 a1) (f_m_scraps a0 a1)) ∧ (∀ a0 a1 : Int32, Step1 Inv (f_x_alike a0 a1) (f_m_alike a0 a1)) ∧ (∀ a0 a1 a2 : Int32, Step1 Inv (f_x_strips a0 a1 a2) (f_m_strips a0 a1 a2)) ∧ (∀ a0 a1 a2 : Int32, Step1 Inv (f_x_slipped a0 a1 a2) (f_m_slipped a0 a1 a2)) ∧ (∀ a0 : Int32, Step1 Inv (f_x_spoilt a0) (f_m_spoilt a0)) ∧ (∀ a0 a1 a2 : Int32, Step1 Inv (f_x_odds a0 a1 a2) (f_m_odds a0 a1 a2)) ∧ (∀ a0 : Int32, Step1 Inv (f_x_seed a0) (f_m_seed a0)) ∧ (∀ a0 : Int32, Step1 Inv (f_x_draw a0) (f_m_draw a0)) ∧ Step1 Inv f_x_keep f_m_keep ∧ Step1 Inv f_x_undo f_m_undo ∧ (∀ a0 a1 : Int32, Step1 Inv (f_x_check a0 a1) (f_m_check a0 a1)) ∧ (∀ a0 : Int32, Step1 Inv (f_x_count a0) (f_m_count a0))
def st00 : Mm := (fun _ _ => 0, fun _ _ => 0)
def InitOK (Inv : Mm → Prop) : Prop := ∃ q0 q1 q2 p0 : Unit × Mm, f_Tab_begin 1 2 3 4 5 16 (sZ (sZ (sZ (sZ (sI (sZ (sZ st00 0) 1) 1 1 1) 2) 3) 4) 5) = some q0 ∧ f_Tab_begin 6 7 8 9 10 16 (sZ (sZ (sZ (sZ (sI (sZ q0.2 6) 6 1 1) 7) 8) 9) 10) = some q1 ∧ f_x_reopen (sI (sI (sI (sZ (sZ (sZ (sZ (sZ (sZ (sZ (sZ (sZ (sZ (sZ (sZ (sZ (sZ (sZ (sZ (sZ (sZ (sZ (sZ (sZ (sZ (sZ (sI (sZ (sZ (sZ (sZ (sZ (sZ (sZ (sZ (sZ (sZ (sZ (sZ (sZ (sZ (sZ (sZ (sZ (sZ (sZ (sZ (sZ (sZ (sZ (sI (sZ q1.2 11) 11 0 0) 12) 13) 14) 15) 16) 17) 18) 19) 20) 21) 22) 23) 24) 25) 26) 27) 28) 29) 30) 31) 32) 33) 34) 34 0 0) 35) 36) 37) 38) 39) 40) 41) 42) 43) 44) 45) 46) 47) 48) 49) 50) 51) 52) 53) 54) 55) 56) 57) 0 12 0) 0 13 0) 0 14 0) = some q2 ∧ f_m_begins 16 (sI (sZ (sZ (sZ (sZ (sZ (sZ (sZ (sZ (sZ (sZ (sZ (sZ (sZ (sZ (sZ (sZ (sZ (sZ (sZ (sZ (sZ (sZ (sZ (sZ (sZ (sZ (sZ (sZ (sZ (sZ (sZ (sZ (sZ q2.2 58) 59) 60) 61) 62) 63) 64) 65) 66) 67) 68) 69) 70) 71) 72) 73) 74) 75) 76) 77) 78) 79) 80) 81) 82) 83) 84) 85) 86) 87) 88) 89) 90) 58 3 1) = some p0 ∧ Inv p0.2
def SX (G : Cx) (b L : Nat) (xs : Nat → Int32) : Prop := match G with
  | (p, l, e, Rm, kc, nc, d, s, m, args, below, meth, c, D, cA, ad, A, lay, Q, nL, r, sf) => va_X b L xs s s.heap ∧ b < s.heap.size ∧ ¬ A b
section LWR
variable {G : Cx} {cc : ByteArray} {own : String} {st : Mm} {pc pn : Nat} {ls : List (Nat × Value)} {rest : List Value}
theorem aw_sld (C : CX G cc own) {b L : Nat} {xs : Nat → Int32} {i : Int32} (X : SX G b L xs) (hi : inb i L) (hd : decode cc pc = .ok (.iaload, 1)) (hp : pc + 1 = pn) (kk : AW G st pn ls (.int (xs i.toNatClampNeg) :: rest)) : AW G st pc ls (.int i :: .ref b :: rest) := by
  obtain ⟨p, l, e, Rm, kc, nc, d, s, m, args, below, meth, c, D, cA, ad, A, lay, Q, nL, r, sf⟩ := G
  obtain ⟨hx, hb, hml, hown, hts, hK, hN, hA, hRd, hRl, hRk, hRn⟩ := C
  obtain ⟨x1, x2, x3⟩ := X
  subst hp
  intro H locs la hP hD hS hv
  exact va_sld hx hb x1 x2 x3 hS (vp_in_iff.mpr hi) hd (kk H locs la hP hD hS hv)
theorem aw_slen (C : CX G cc own) {b L : Nat} {xs : Nat → Int32} (X : SX G b L xs) (hd : decode cc pc = .ok (.arraylength, 1)) (hp : pc + 1 = pn) (kk : AW G st pn ls (.int (Int32.ofNat L) :: rest)) : AW G st pc ls (.ref b :: rest) := by
  obtain ⟨p, l, e, Rm, kc, nc, d, s, m, args, below, meth, c, D, cA, ad, A, lay, Q, nL, r, sf⟩ := G
  obtain ⟨hx, hb, hml, hown, hts, hK, hN, hA, hRd, hRl, hRk, hRn⟩ := C
  obtain ⟨x1, x2, x3⟩ := X
  subst hp
  intro H locs la hP hD hS hv
  exact va_slen hx hb x1 x2 x3 hS hd (kk H locs la hP hD hS hv)
end LWR
theorem GS.sx {G G1 : Cx} {lay1 : Ly} {dk dn b L : Nat} {xs : Nat → Int32} (S : GS G G1 lay1 dk dn) (X : SX G b L xs) : SX G1 b L xs := by
  obtain ⟨ad2, rfl, -⟩ := S
  obtain ⟨p, l, e, Rm, kc, nc, d, s, m, args, below, meth, c, D, cA, ad, A, lay, Q, nL, r, sf⟩ := G
  exact X
theorem lw_bm {z : Int} (h1 : -2147483648 ≤ z) (h2 : z < 2147483648) : z.bmod (2 ^ 32) = z := by
  rw [Int.bmod_def]
  have e : z % ((2 ^ 32 : Nat) : Int) = if 0 ≤ z then z else z + 4294967296 := by
    split
    · exact Int.emod_eq_of_lt (by assumption) (by omega)
    · rw [← Int.add_emod_right]
      exact Int.emod_eq_of_lt (by omega) (by omega)
  rw [e]
  split <;> split <;> omega
theorem lw_add {i : Int32} {L : Nat} (k : Int32) (h0 : 0 ≤ i.toInt) (h6 : i.toInt + 6 ≤ (L : Int)) (hL : L ≤ 3072) (hk : 0 ≤ k.toInt ∧ k.toInt ≤ 6) : (i + k).toInt = i.toInt + k.toInt := by
  rw [Int32.toInt_add]
  exact lw_bm (by omega) (by omega)
theorem lw_in {i : Int32} {L : Nat} (k : Int32) (h0 : 0 ≤ i.toInt) (h6 : i.toInt + 6 ≤ (L : Int)) (hL : L ≤ 3072) (hk : 0 ≤ k.toInt ∧ k.toInt ≤ 5) : inb (i + k) L := by
  have h := lw_add k h0 h6 hL ⟨hk.1, by omega⟩
  exact ⟨by omega, by omega⟩
theorem lw_in0 {i : Int32} {L : Nat} (h0 : 0 ≤ i.toInt) (h6 : i.toInt + 6 ≤ (L : Int)) : inb i L := ⟨h0, by omega⟩
theorem lw_sub {i : Int32} {L : Nat} (hL : L ≤ 3072) : (Int32.ofNat L - 6).toInt = (L : Int) - 6 := by
  have e : (Int32.ofNat L).toInt = (L : Int) := nI_toInt (n := L) (by omega)
  rw [Int32.toInt_sub, e, show (6 : Int32).toInt = 6 from rfl]
  exact lw_bm (by omega) (by omega)
theorem lw_31 (x : Int32) : 0 ≤ (x &&& 31).toInt ∧ (x &&& 31).toInt < 32 := by
  obtain ⟨j, hj, e⟩ := pk_andE x (m := 31) 5 (by decide)
  rw [e, nI_toInt (by omega)]
  exact ⟨by omega, by omega⟩
theorem lg_same {x y : Int64} (h : x = y) : lg_cmp x y = 0 := by subst h; simp [lg_cmp]
theorem lw_c0 {G : Cx} (C : CX G code "PaperStarsLaw") (E : LAin (gly G)) (hgd : 60 ≤ gd G) {Inv : Mm → Prop} (HP : PureOK Inv) {b L : Nat} {xs : Nat → Int32} (X : SX G b L xs) (hL : L ≤ 3072) {i : Int32} (h0 : 0 ≤ i.toInt) (h6 : i.toInt + 6 ≤ (L : Int)) (st : Mm) (hI : Inv st) (kk : ∀ st2, Inv st2 → AW G st2 1116 [(0, .ref b), (1, .ref (gad G 0)), (2, .ref (gad G 58)), (3, .int i)] []) : AW G st 168 [(0, .ref b), (1, .ref (gad G 0)), (2, .ref (gad G 58)), (3, .int i)] [] := by
  refine aw_aload_n C 1 1 (j := 1) rfl rfl (by decide +kernel) rfl ?_
  refine aw_aload_n C 0 0 (j := 0) rfl rfl (by decide +kernel) rfl ?_
  refine aw_iload_n C 3 3 (j := 3) rfl rfl (by decide +kernel) rfl ?_
  refine aw_iconst C (i0 := 1) (v := 1) (by decide) (by decide +kernel) rfl ?_
  refine aw_iadd C (by decide +kernel) rfl ?_
  refine aw_sld C X (lw_in 1 h0 h6 hL (by decide)) (by decide +kernel) rfl ?_
  obtain ⟨q1, q2, e1, e2, e3, hI2⟩ := (HP.1 (xs (i + (1 : Int32)).toNatClampNeg)) st hI
  refine aw_callV C (rest := []) (c_x_sheet (la_lc E) (xs (i + (1 : Int32)).toNatClampNeg) _ q1 e1) tb_442 yf_24 yi_24 (lc_0 (la_lc E)) [.int (xs (i + (1 : Int32)).toNatClampNeg)] rfl rfl _ rfl (Nat.le_trans (by decide) hgd) (Nat.le_of_ble_eq_true rfl) (by decide +kernel) rfl ?_
  show AW _ _ _ _ [.int q1.1]
  refine aw_aload_n C 2 2 (j := 2) rfl rfl (by decide +kernel) rfl ?_
  refine aw_aload_n C 0 0 (j := 0) rfl rfl (by decide +kernel) rfl ?_
  refine aw_iload_n C 3 3 (j := 3) rfl rfl (by decide +kernel) rfl ?_
  refine aw_iconst C (i0 := 1) (v := 1) (by decide) (by decide +kernel) rfl ?_
  refine aw_iadd C (by decide +kernel) rfl ?_
  refine aw_sld C X (lw_in 1 h0 h6 hL (by decide)) (by decide +kernel) rfl ?_
  refine aw_callV C (rest := [.int q1.1]) (c_m_sheet E (xs (i + (1 : Int32)).toNatClampNeg) _ q2 e2) tb_1140 yf_141 yi_141 (la_58 E) [.int (xs (i + (1 : Int32)).toNatClampNeg)] rfl rfl _ rfl (Nat.le_trans (by decide) hgd) (Nat.le_of_ble_eq_true rfl) (by decide +kernel) rfl ?_
  show AW _ _ _ _ [.int q2.1, .int q1.1]
  refine aw_icmp_eq C (tgt := 1116) (off := 930) (by decide +kernel) (by decide) rfl (fun _ => kk _ hI2) (fun h => absurd e3 h)
theorem lw_c1 {G : Cx} (C : CX G code "PaperStarsLaw") (E : LAin (gly G)) (hgd : 60 ≤ gd G) {Inv : Mm → Prop} (HP : PureOK Inv) {b L : Nat} {xs : Nat → Int32} (X : SX G b L xs) (hL : L ≤ 3072) {i : Int32} (h0 : 0 ≤ i.toInt) (h6 : i.toInt + 6 ≤ (L : Int)) (st : Mm) (hI : Inv st) (kk : ∀ st2, Inv st2 → AW G st2 1116 [(0, .ref b), (1, .ref (gad G 0)), (2, .ref (gad G 58)), (3, .int i)] []) : AW G st 191 [(0, .ref b), (1, .ref (gad G 0)), (2, .ref (gad G 58)), (3, .int i)] [] := by
  refine aw_aload_n C 1 1 (j := 1) rfl rfl (by decide +kernel) rfl ?_
  refine aw_aload_n C 0 0 (j := 0) rfl rfl (by decide +kernel) rfl ?_
  refine aw_iload_n C 3 3 (j := 3) rfl rfl (by decide +kernel) rfl ?_
  refine aw_iconst C (i0 := 1) (v := 1) (by decide) (by decide +kernel) rfl ?_
  refine aw_iadd C (by decide +kernel) rfl ?_
  refine aw_sld C X (lw_in 1 h0 h6 hL (by decide)) (by decide +kernel) rfl ?_
  refine aw_aload_n C 0 0 (j := 0) rfl rfl (by decide +kernel) rfl ?_
  refine aw_iload_n C 3 3 (j := 3) rfl rfl (by decide +kernel) rfl ?_
  refine aw_iconst C (i0 := 2) (v := 2) (by decide) (by decide +kernel) rfl ?_
  refine aw_iadd C (by decide +kernel) rfl ?_
  refine aw_sld C X (lw_in 2 h0 h6 hL (by decide)) (by decide +kernel) rfl ?_
  refine aw_aload_n C 0 0 (j := 0) rfl rfl (by decide +kernel) rfl ?_
  refine aw_iload_n C 3 3 (j := 3) rfl rfl (by decide +kernel) rfl ?_
  refine aw_iconst C (i0 := 3) (v := 3) (by decide) (by decide +kernel) rfl ?_
  refine aw_iadd C (by decide +kernel) rfl ?_
  refine aw_sld C X (lw_in 3 h0 h6 hL (by decide)) (by decide +kernel) rfl ?_
  refine aw_aload_n C 0 0 (j := 0) rfl rfl (by decide +kernel) rfl ?_
  refine aw_iload_n C 3 3 (j := 3) rfl rfl (by decide +kernel) rfl ?_
  refine aw_iconst C (i0 := 4) (v := 4) (by decide) (by decide +kernel) rfl ?_
  refine aw_iadd C (by decide +kernel) rfl ?_
  refine aw_sld C X (lw_in 4 h0 h6 hL (by decide)) (by decide +kernel) rfl ?_
  refine aw_aload_n C 0 0 (j := 0) rfl rfl (by decide +kernel) rfl ?_
  refine aw_iload_n C 3 3 (j := 3) rfl rfl (by decide +kernel) rfl ?_
  refine aw_iconst C (i0 := 5) (v := 5) (by decide) (by decide +kernel) rfl ?_
  refine aw_iadd C (by decide +kernel) rfl ?_
  refine aw_sld C X (lw_in 5 h0 h6 hL (by decide)) (by decide +kernel) rfl ?_
  obtain ⟨q1, q2, e1, e2, e3, hI2⟩ := (HP.2.1 (xs (i + (1 : Int32)).toNatClampNeg) (xs (i + (2 : Int32)).toNatClampNeg) (xs (i + (3 : Int32)).toNatClampNeg) (xs (i + (4 : Int32)).toNatClampNeg) (xs (i + (5 : Int32)).toNatClampNeg)) st hI
  refine aw_callV C (rest := []) (c_x_feed (la_lc E) (xs (i + (1 : Int32)).toNatClampNeg) (xs (i + (2 : Int32)).toNatClampNeg) (xs (i + (3 : Int32)).toNatClampNeg) (xs (i + (4 : Int32)).toNatClampNeg) (xs (i + (5 : Int32)).toNatClampNeg) _ q1 e1) tb_447 yf_25 yi_25 (lc_0 (la_lc E)) [.int (xs (i + (1 : Int32)).toNatClampNeg), .int (xs (i + (2 : Int32)).toNatClampNeg), .int (xs (i + (3 : Int32)).toNatClampNeg), .int (xs (i + (4 : Int32)).toNatClampNeg), .int (xs (i + (5 : Int32)).toNatClampNeg)] rfl rfl _ rfl (Nat.le_trans (by decide) hgd) (Nat.le_of_ble_eq_true rfl) (by decide +kernel) rfl ?_
  show AW _ _ _ _ [.int q1.1]
  refine aw_aload_n C 2 2 (j := 2) rfl rfl (by decide +kernel) rfl ?_
  refine aw_aload_n C 0 0 (j := 0) rfl rfl (by decide +kernel) rfl ?_
  refine aw_iload_n C 3 3 (j := 3) rfl rfl (by decide +kernel) rfl ?_
  refine aw_iconst C (i0 := 1) (v := 1) (by decide) (by decide +kernel) rfl ?_
  refine aw_iadd C (by decide +kernel) rfl ?_
  refine aw_sld C X (lw_in 1 h0 h6 hL (by decide)) (by decide +kernel) rfl ?_
  refine aw_aload_n C 0 0 (j := 0) rfl rfl (by decide +kernel) rfl ?_
  refine aw_iload_n C 3 3 (j := 3) rfl rfl (by decide +kernel) rfl ?_
  refine aw_iconst C (i0 := 2) (v := 2) (by decide) (by decide +kernel) rfl ?_
  refine aw_iadd C (by decide +kernel) rfl ?_
  refine aw_sld C X (lw_in 2 h0 h6 hL (by decide)) (by decide +kernel) rfl ?_
  refine aw_aload_n C 0 0 (j := 0) rfl rfl (by decide +kernel) rfl ?_
  refine aw_iload_n C 3 3 (j := 3) rfl rfl (by decide +kernel) rfl ?_
  refine aw_iconst C (i0 := 3) (v := 3) (by decide) (by decide +kernel) rfl ?_
  refine aw_iadd C (by decide +kernel) rfl ?_
  refine aw_sld C X (lw_in 3 h0 h6 hL (by decide)) (by decide +kernel) rfl ?_
  refine aw_aload_n C 0 0 (j := 0) rfl rfl (by decide +kernel) rfl ?_
  refine aw_iload_n C 3 3 (j := 3) rfl rfl (by decide +kernel) rfl ?_
  refine aw_iconst C (i0 := 4) (v := 4) (by decide) (by decide +kernel) rfl ?_
  refine aw_iadd C (by decide +kernel) rfl ?_
  refine aw_sld C X (lw_in 4 h0 h6 hL (by decide)) (by decide +kernel) rfl ?_
  refine aw_aload_n C 0 0 (j := 0) rfl rfl (by decide +kernel) rfl ?_
  refine aw_iload_n C 3 3 (j := 3) rfl rfl (by decide +kernel) rfl ?_
  refine aw_iconst C (i0 := 5) (v := 5) (by decide) (by decide +kernel) rfl ?_
  refine aw_iadd C (by decide +kernel) rfl ?_
  refine aw_sld C X (lw_in 5 h0 h6 hL (by decide)) (by decide +kernel) rfl ?_
  refine aw_callV C (rest := [.int q1.1]) (c_m_feed E (xs (i + (1 : Int32)).toNatClampNeg) (xs (i + (2 : Int32)).toNatClampNeg) (xs (i + (3 : Int32)).toNatClampNeg) (xs (i + (4 : Int32)).toNatClampNeg) (xs (i + (5 : Int32)).toNatClampNeg) _ q2 e2) tb_1147 yf_143 yi_143 (la_58 E) [.int (xs (i + (1 : Int32)).toNatClampNeg), .int (xs (i + (2 : Int32)).toNatClampNeg), .int (xs (i + (3 : Int32)).toNatClampNeg), .int (xs (i + (4 : Int32)).toNatClampNeg), .int (xs (i + (5 : Int32)).toNatClampNeg)] rfl rfl _ rfl (Nat.le_trans (by decide) hgd) (Nat.le_of_ble_eq_true rfl) (by decide +kernel) rfl ?_
  show AW _ _ _ _ [.int q2.1, .int q1.1]
  refine aw_icmp_eq C (tgt := 1116) (off := 867) (by decide +kernel) (by decide) rfl (fun _ => kk _ hI2) (fun h => absurd e3 h)
theorem lw_c2 {G : Cx} (C : CX G code "PaperStarsLaw") (E : LAin (gly G)) (hgd : 60 ≤ gd G) {Inv : Mm → Prop} (HP : PureOK Inv) {b L : Nat} {xs : Nat → Int32} (X : SX G b L xs) (hL : L ≤ 3072) {i : Int32} (h0 : 0 ≤ i.toInt) (h6 : i.toInt + 6 ≤ (L : Int)) (st : Mm) (hI : Inv st) (kk : ∀ st2, Inv st2 → AW G st2 1116 [(0, .ref b), (1, .ref (gad G 0)), (2, .ref (gad G 58)), (3, .int i)] []) : AW G st 254 [(0, .ref b), (1, .ref (gad G 0)), (2, .ref (gad G 58)), (3, .int i)] [] := by
  refine aw_aload_n C 1 1 (j := 1) rfl rfl (by decide +kernel) rfl ?_
  refine aw_aload_n C 0 0 (j := 0) rfl rfl (by decide +kernel) rfl ?_
  refine aw_iload_n C 3 3 (j := 3) rfl rfl (by decide +kernel) rfl ?_
  refine aw_iconst C (i0 := 1) (v := 1) (by decide) (by decide +kernel) rfl ?_
  refine aw_iadd C (by decide +kernel) rfl ?_
  refine aw_sld C X (lw_in 1 h0 h6 hL (by decide)) (by decide +kernel) rfl ?_
  obtain ⟨q1, q2, e1, e2, e3, hI2⟩ := (HP.2.2.1 (xs (i + (1 : Int32)).toNatClampNeg)) st hI
  refine aw_callV C (rest := []) (c_x_recipe (la_lc E) (xs (i + (1 : Int32)).toNatClampNeg) _ q1 e1) tb_455 yf_27 yi_27 (lc_0 (la_lc E)) [.int (xs (i + (1 : Int32)).toNatClampNeg)] rfl rfl _ rfl (Nat.le_trans (by decide) hgd) (Nat.le_of_ble_eq_true rfl) (by decide +kernel) rfl ?_
  show AW _ _ _ _ [.int q1.1]
  refine aw_aload_n C 2 2 (j := 2) rfl rfl (by decide +kernel) rfl ?_
  refine aw_aload_n C 0 0 (j := 0) rfl rfl (by decide +kernel) rfl ?_
  refine aw_iload_n C 3 3 (j := 3) rfl rfl (by decide +kernel) rfl ?_
  refine aw_iconst C (i0 := 1) (v := 1) (by decide) (by decide +kernel) rfl ?_
  refine aw_iadd C (by decide +kernel) rfl ?_
  refine aw_sld C X (lw_in 1 h0 h6 hL (by decide)) (by decide +kernel) rfl ?_
  refine aw_callV C (rest := [.int q1.1]) (c_m_recipe E (xs (i + (1 : Int32)).toNatClampNeg) _ q2 e2) tb_1155 yf_145 yi_145 (la_58 E) [.int (xs (i + (1 : Int32)).toNatClampNeg)] rfl rfl _ rfl (Nat.le_trans (by decide) hgd) (Nat.le_of_ble_eq_true rfl) (by decide +kernel) rfl ?_
  show AW _ _ _ _ [.int q2.1, .int q1.1]
  refine aw_icmp_eq C (tgt := 1116) (off := 844) (by decide +kernel) (by decide) rfl (fun _ => kk _ hI2) (fun h => absurd e3 h)
theorem lw_c3 {G : Cx} (C : CX G code "PaperStarsLaw") (E : LAin (gly G)) (hgd : 60 ≤ gd G) {Inv : Mm → Prop} (HP : PureOK Inv) {b L : Nat} {xs : Nat → Int32} (X : SX G b L xs) (hL : L ≤ 3072) {i : Int32} (h0 : 0 ≤ i.toInt) (h6 : i.toInt + 6 ≤ (L : Int)) (st : Mm) (hI : Inv st) (kk : ∀ st2, Inv st2 → AW G st2 1116 [(0, .ref b), (1, .ref (gad G 0)), (2, .ref (gad G 58)), (3, .int i)] []) : AW G st 277 [(0, .ref b), (1, .ref (gad G 0)), (2, .ref (gad G 58)), (3, .int i)] [] := by
  refine aw_aload_n C 1 1 (j := 1) rfl rfl (by decide +kernel) rfl ?_
  refine aw_aload_n C 0 0 (j := 0) rfl rfl (by decide +kernel) rfl ?_
  refine aw_iload_n C 3 3 (j := 3) rfl rfl (by decide +kernel) rfl ?_
  refine aw_iconst C (i0 := 1) (v := 1) (by decide) (by decide +kernel) rfl ?_
  refine aw_iadd C (by decide +kernel) rfl ?_
  refine aw_sld C X (lw_in 1 h0 h6 hL (by decide)) (by decide +kernel) rfl ?_
  obtain ⟨q1, q2, e1, e2, e3, hI2⟩ := (HP.2.2.2.1 (xs (i + (1 : Int32)).toNatClampNeg)) st hI
  refine aw_callV C (rest := []) (c_x_wedge (la_lc E) (xs (i + (1 : Int32)).toNatClampNeg) _ q1 e1) tb_591 yf_61 yi_61 (lc_0 (la_lc E)) [.int (xs (i + (1 : Int32)).toNatClampNeg)] rfl rfl _ rfl (Nat.le_trans (by decide) hgd) (Nat.le_of_ble_eq_true rfl) (by decide +kernel) rfl ?_
  show AW _ _ _ _ [.int q1.1]
  refine aw_aload_n C 2 2 (j := 2) rfl rfl (by decide +kernel) rfl ?_
  refine aw_aload_n C 0 0 (j := 0) rfl rfl (by decide +kernel) rfl ?_
  refine aw_iload_n C 3 3 (j := 3) rfl rfl (by decide +kernel) rfl ?_
  refine aw_iconst C (i0 := 1) (v := 1) (by decide) (by decide +kernel) rfl ?_
  refine aw_iadd C (by decide +kernel) rfl ?_
  refine aw_sld C X (lw_in 1 h0 h6 hL (by decide)) (by decide +kernel) rfl ?_
  refine aw_callV C (rest := [.int q1.1]) (c_m_wedge E (xs (i + (1 : Int32)).toNatClampNeg) _ q2 e2) tb_1300 yf_182 yi_182 (la_58 E) [.int (xs (i + (1 : Int32)).toNatClampNeg)] rfl rfl _ rfl (Nat.le_trans (by decide) hgd) (Nat.le_of_ble_eq_true rfl) (by decide +kernel) rfl ?_
  show AW _ _ _ _ [.int q2.1, .int q1.1]
  refine aw_icmp_eq C (tgt := 1116) (off := 821) (by decide +kernel) (by decide) rfl (fun _ => kk _ hI2) (fun h => absurd e3 h)
theorem lw_c4 {G : Cx} (C : CX G code "PaperStarsLaw") (E : LAin (gly G)) (hgd : 60 ≤ gd G) {Inv : Mm → Prop} (HP : PureOK Inv) {b L : Nat} {xs : Nat → Int32} (X : SX G b L xs) (hL : L ≤ 3072) {i : Int32} (h0 : 0 ≤ i.toInt) (h6 : i.toInt + 6 ≤ (L : Int)) (st : Mm) (hI : Inv st) (kk : ∀ st2, Inv st2 → AW G st2 1116 [(0, .ref b), (1, .ref (gad G 0)), (2, .ref (gad G 58)), (3, .int i)] []) : AW G st 300 [(0, .ref b), (1, .ref (gad G 0)), (2, .ref (gad G 58)), (3, .int i)] [] := by
  refine aw_aload_n C 1 1 (j := 1) rfl rfl (by decide +kernel) rfl ?_
  refine aw_aload_n C 0 0 (j := 0) rfl rfl (by decide +kernel) rfl ?_
  refine aw_iload_n C 3 3 (j := 3) rfl rfl (by decide +kernel) rfl ?_
  refine aw_iconst C (i0 := 1) (v := 1) (by decide) (by decide +kernel) rfl ?_
  refine aw_iadd C (by decide +kernel) rfl ?_
  refine aw_sld C X (lw_in 1 h0 h6 hL (by decide)) (by decide +kernel) rfl ?_
  refine aw_aload_n C 0 0 (j := 0) rfl rfl (by decide +kernel) rfl ?_
  refine aw_iload_n C 3 3 (j := 3) rfl rfl (by decide +kernel) rfl ?_
  refine aw_iconst C (i0 := 2) (v := 2) (by decide) (by decide +kernel) rfl ?_
  refine aw_iadd C (by decide +kernel) rfl ?_
  refine aw_sld C X (lw_in 2 h0 h6 hL (by decide)) (by decide +kernel) rfl ?_
  obtain ⟨q1, q2, e1, e2, e3, hI2⟩ := (HP.2.2.2.2.1 (xs (i + (1 : Int32)).toNatClampNeg) (xs (i + (2 : Int32)).toNatClampNeg)) st hI
  refine aw_callV C (rest := []) (c_x_layers (la_lc E) (xs (i + (1 : Int32)).toNatClampNeg) (xs (i + (2 : Int32)).toNatClampNeg) _ q1 e1) tb_608 yf_65 yi_65 (lc_0 (la_lc E)) [.int (xs (i + (1 : Int32)).toNatClampNeg), .int (xs (i + (2 : Int32)).toNatClampNeg)] rfl rfl _ rfl (Nat.le_trans (by decide) hgd) (Nat.le_of_ble_eq_true rfl) (by decide +kernel) rfl ?_
  show AW _ _ _ _ [.int q1.1]
  refine aw_aload_n C 2 2 (j := 2) rfl rfl (by decide +kernel) rfl ?_
  refine aw_aload_n C 0 0 (j := 0) rfl rfl (by decide +kernel) rfl ?_
  refine aw_iload_n C 3 3 (j := 3) rfl rfl (by decide +kernel) rfl ?_
  refine aw_iconst C (i0 := 1) (v := 1) (by decide) (by decide +kernel) rfl ?_
  refine aw_iadd C (by decide +kernel) rfl ?_
  refine aw_sld C X (lw_in 1 h0 h6 hL (by decide)) (by decide +kernel) rfl ?_
  refine aw_aload_n C 0 0 (j := 0) rfl rfl (by decide +kernel) rfl ?_
  refine aw_iload_n C 3 3 (j := 3) rfl rfl (by decide +kernel) rfl ?_
  refine aw_iconst C (i0 := 2) (v := 2) (by decide) (by decide +kernel) rfl ?_
  refine aw_iadd C (by decide +kernel) rfl ?_
  refine aw_sld C X (lw_in 2 h0 h6 hL (by decide)) (by decide +kernel) rfl ?_
  refine aw_callV C (rest := [.int q1.1]) (c_m_layers E (xs (i + (1 : Int32)).toNatClampNeg) (xs (i + (2 : Int32)).toNatClampNeg) _ q2 e2) tb_1316 yf_186 yi_186 (la_58 E) [.int (xs (i + (1 : Int32)).toNatClampNeg), .int (xs (i + (2 : Int32)).toNatClampNeg)] rfl rfl _ rfl (Nat.le_trans (by decide) hgd) (Nat.le_of_ble_eq_true rfl) (by decide +kernel) rfl ?_
  show AW _ _ _ _ [.int q2.1, .int q1.1]
  refine aw_icmp_eq C (tgt := 1116) (off := 788) (by decide +kernel) (by decide) rfl (fun _ => kk _ hI2) (fun h => absurd e3 h)
theorem lw_c5 {G : Cx} (C : CX G code "PaperStarsLaw") (E : LAin (gly G)) (hgd : 60 ≤ gd G) {Inv : Mm → Prop} (HP : PureOK Inv) {b L : Nat} {xs : Nat → Int32} (X : SX G b L xs) (hL : L ≤ 3072) {i : Int32} (h0 : 0 ≤ i.toInt) (h6 : i.toInt + 6 ≤ (L : Int)) (st : Mm) (hI : Inv st) (kk : ∀ st2, Inv st2 → AW G st2 1116 [(0, .ref b), (1, .ref (gad G 0)), (2, .ref (gad G 58)), (3, .int i)] []) : AW G st 333 [(0, .ref b), (1, .ref (gad G 0)), (2, .ref (gad G 58)), (3, .int i)] [] := by
  refine aw_aload_n C 1 1 (j := 1) rfl rfl (by decide +kernel) rfl ?_
  refine aw_aload_n C 0 0 (j := 0) rfl rfl (by decide +kernel) rfl ?_
  refine aw_iload_n C 3 3 (j := 3) rfl rfl (by decide +kernel) rfl ?_
  refine aw_iconst C (i0 := 1) (v := 1) (by decide) (by decide +kernel) rfl ?_
  refine aw_iadd C (by decide +kernel) rfl ?_
  refine aw_sld C X (lw_in 1 h0 h6 hL (by decide)) (by decide +kernel) rfl ?_
  refine aw_aload_n C 0 0 (j := 0) rfl rfl (by decide +kernel) rfl ?_
  refine aw_iload_n C 3 3 (j := 3) rfl rfl (by decide +kernel) rfl ?_
  refine aw_iconst C (i0 := 2) (v := 2) (by decide) (by decide +kernel) rfl ?_
  refine aw_iadd C (by decide +kernel) rfl ?_
  refine aw_sld C X (lw_in 2 h0 h6 hL (by decide)) (by decide +kernel) rfl ?_
  obtain ⟨q1, q2, e1, e2, e3, hI2⟩ := (HP.2.2.2.2.2.1 (xs (i + (1 : Int32)).toNatClampNeg) (xs (i + (2 : Int32)).toNatClampNeg)) st hI
  refine aw_callV C (rest := []) (c_x_snipped (la_lc E) (xs (i + (1 : Int32)).toNatClampNeg) (xs (i + (2 : Int32)).toNatClampNeg) _ q1 e1) tb_614 yf_66 yi_66 (lc_0 (la_lc E)) [.int (xs (i + (1 : Int32)).toNatClampNeg), .int (xs (i + (2 : Int32)).toNatClampNeg)] rfl rfl _ rfl (Nat.le_trans (by decide) hgd) (Nat.le_of_ble_eq_true rfl) (by decide +kernel) rfl ?_
  show AW _ _ _ _ [.int q1.1]
  refine aw_aload_n C 2 2 (j := 2) rfl rfl (by decide +kernel) rfl ?_
  refine aw_aload_n C 0 0 (j := 0) rfl rfl (by decide +kernel) rfl ?_
  refine aw_iload_n C 3 3 (j := 3) rfl rfl (by decide +kernel) rfl ?_
  refine aw_iconst C (i0 := 1) (v := 1) (by decide) (by decide +kernel) rfl ?_
  refine aw_iadd C (by decide +kernel) rfl ?_
  refine aw_sld C X (lw_in 1 h0 h6 hL (by decide)) (by decide +kernel) rfl ?_
  refine aw_aload_n C 0 0 (j := 0) rfl rfl (by decide +kernel) rfl ?_
  refine aw_iload_n C 3 3 (j := 3) rfl rfl (by decide +kernel) rfl ?_
  refine aw_iconst C (i0 := 2) (v := 2) (by decide) (by decide +kernel) rfl ?_
  refine aw_iadd C (by decide +kernel) rfl ?_
  refine aw_sld C X (lw_in 2 h0 h6 hL (by decide)) (by decide +kernel) rfl ?_
  refine aw_callV C (rest := [.int q1.1]) (c_m_snipped E (xs (i + (1 : Int32)).toNatClampNeg) (xs (i + (2 : Int32)).toNatClampNeg) _ q2 e2) tb_1320 yf_187 yi_187 (la_58 E) [.int (xs (i + (1 : Int32)).toNatClampNeg), .int (xs (i + (2 : Int32)).toNatClampNeg)] rfl rfl _ rfl (Nat.le_trans (by decide) hgd) (Nat.le_of_ble_eq_true rfl) (by decide +kernel) rfl ?_
  show AW _ _ _ _ [.int q2.1, .int q1.1]
  refine aw_icmp_eq C (tgt := 1116) (off := 755) (by decide +kernel) (by decide) rfl (fun _ => kk _ hI2) (fun h => absurd e3 h)
theorem lw_c6 {G : Cx} (C : CX G code "PaperStarsLaw") (E : LAin (gly G)) (hgd : 60 ≤ gd G) {Inv : Mm → Prop} (HP : PureOK Inv) {b L : Nat} {xs : Nat → Int32} (X : SX G b L xs) (hL : L ≤ 3072) {i : Int32} (h0 : 0 ≤ i.toInt) (h6 : i.toInt + 6 ≤ (L : Int)) (st : Mm) (hI : Inv st) (kk : ∀ st2, Inv st2 → AW G st2 1116 [(0, .ref b), (1, .ref (gad G 0)), (2, .ref (gad G 58)), (3, .int i)] []) : AW G st 366 [(0, .ref b), (1, .ref (gad G 0)), (2, .ref (gad G 58)), (3, .int i)] [] := by
  refine aw_aload_n C 1 1 (j := 1) rfl rfl (by decide +kernel) rfl ?_
  refine aw_aload_n C 0 0 (j := 0) rfl rfl (by decide +kernel) rfl ?_
  refine aw_iload_n C 3 3 (j := 3) rfl rfl (by decide +kernel) rfl ?_
  refine aw_iconst C (i0 := 1) (v := 1) (by decide) (by decide +kernel) rfl ?_
  refine aw_iadd C (by decide +kernel) rfl ?_
  refine aw_sld C X (lw_in 1 h0 h6 hL (by decide)) (by decide +kernel) rfl ?_
  refine aw_aload_n C 0 0 (j := 0) rfl rfl (by decide +kernel) rfl ?_
  refine aw_iload_n C 3 3 (j := 3) rfl rfl (by decide +kernel) rfl ?_
  refine aw_iconst C (i0 := 2) (v := 2) (by decide) (by decide +kernel) rfl ?_
  refine aw_iadd C (by decide +kernel) rfl ?_
  refine aw_sld C X (lw_in 2 h0 h6 hL (by decide)) (by decide +kernel) rfl ?_
  obtain ⟨q1, q2, e1, e2, e3, hI2⟩ := (HP.2.2.2.2.2.2.1 (xs (i + (1 : Int32)).toNatClampNeg) (xs (i + (2 : Int32)).toNatClampNeg)) st hI
  refine aw_callV C (rest := []) (c_x_opened (la_lc E) (xs (i + (1 : Int32)).toNatClampNeg) (xs (i + (2 : Int32)).toNatClampNeg) _ q1 e1) tb_619 yf_67 yi_67 (lc_0 (la_lc E)) [.int (xs (i + (1 : Int32)).toNatClampNeg), .int (xs (i + (2 : Int32)).toNatClampNeg)] rfl rfl _ rfl (Nat.le_trans (by decide) hgd) (Nat.le_of_ble_eq_true rfl) (by decide +kernel) rfl ?_
  show AW _ _ _ _ [.int q1.1]
  refine aw_aload_n C 2 2 (j := 2) rfl rfl (by decide +kernel) rfl ?_
  refine aw_aload_n C 0 0 (j := 0) rfl rfl (by decide +kernel) rfl ?_
  refine aw_iload_n C 3 3 (j := 3) rfl rfl (by decide +kernel) rfl ?_
  refine aw_iconst C (i0 := 1) (v := 1) (by decide) (by decide +kernel) rfl ?_
  refine aw_iadd C (by decide +kernel) rfl ?_
  refine aw_sld C X (lw_in 1 h0 h6 hL (by decide)) (by decide +kernel) rfl ?_
  refine aw_aload_n C 0 0 (j := 0) rfl rfl (by decide +kernel) rfl ?_
  refine aw_iload_n C 3 3 (j := 3) rfl rfl (by decide +kernel) rfl ?_
  refine aw_iconst C (i0 := 2) (v := 2) (by decide) (by decide +kernel) rfl ?_
  refine aw_iadd C (by decide +kernel) rfl ?_
  refine aw_sld C X (lw_in 2 h0 h6 hL (by decide)) (by decide +kernel) rfl ?_
  refine aw_callV C (rest := [.int q1.1]) (c_m_opened E (xs (i + (1 : Int32)).toNatClampNeg) (xs (i + (2 : Int32)).toNatClampNeg) _ q2 e2) tb_1324 yf_188 yi_188 (la_58 E) [.int (xs (i + (1 : Int32)).toNatClampNeg), .int (xs (i + (2 : Int32)).toNatClampNeg)] rfl rfl _ rfl (Nat.le_trans (by decide) hgd) (Nat.le_of_ble_eq_true rfl) (by decide +kernel) rfl ?_
  show AW _ _ _ _ [.int q2.1, .int q1.1]
  refine aw_icmp_eq C (tgt := 1116) (off := 722) (by decide +kernel) (by decide) rfl (fun _ => kk _ hI2) (fun h => absurd e3 h)
theorem lw_c7 {G : Cx} (C : CX G code "PaperStarsLaw") (E : LAin (gly G)) (hgd : 60 ≤ gd G) {Inv : Mm → Prop} (HP : PureOK Inv) {b L : Nat} {xs : Nat → Int32} (X : SX G b L xs) (hL : L ≤ 3072) {i : Int32} (h0 : 0 ≤ i.toInt) (h6 : i.toInt + 6 ≤ (L : Int)) (st : Mm) (hI : Inv st) (kk : ∀ st2, Inv st2 → AW G st2 1116 [(0, .ref b), (1, .ref (gad G 0)), (2, .ref (gad G 58)), (3, .int i)] []) : AW G st 399 [(0, .ref b), (1, .ref (gad G 0)), (2, .ref (gad G 58)), (3, .int i)] [] := by
  refine aw_aload_n C 1 1 (j := 1) rfl rfl (by decide +kernel) rfl ?_
  refine aw_aload_n C 0 0 (j := 0) rfl rfl (by decide +kernel) rfl ?_
  refine aw_iload_n C 3 3 (j := 3) rfl rfl (by decide +kernel) rfl ?_
  refine aw_iconst C (i0 := 1) (v := 1) (by decide) (by decide +kernel) rfl ?_
  refine aw_iadd C (by decide +kernel) rfl ?_
  refine aw_sld C X (lw_in 1 h0 h6 hL (by decide)) (by decide +kernel) rfl ?_
  obtain ⟨q1, q2, e1, e2, e3, hI2⟩ := (HP.2.2.2.2.2.2.2.1 (xs (i + (1 : Int32)).toNatClampNeg)) st hI
  refine aw_callV C (rest := []) (c_x_sums (la_lc E) (xs (i + (1 : Int32)).toNatClampNeg) _ q1 e1) tb_627 yf_69 yi_69 (lc_0 (la_lc E)) [.int (xs (i + (1 : Int32)).toNatClampNeg)] rfl rfl _ rfl (Nat.le_trans (by decide) hgd) (Nat.le_of_ble_eq_true rfl) (by decide +kernel) rfl ?_
  show AW _ _ _ _ [.int q1.1]
  refine aw_aload_n C 2 2 (j := 2) rfl rfl (by decide +kernel) rfl ?_
  refine aw_aload_n C 0 0 (j := 0) rfl rfl (by decide +kernel) rfl ?_
  refine aw_iload_n C 3 3 (j := 3) rfl rfl (by decide +kernel) rfl ?_
  refine aw_iconst C (i0 := 1) (v := 1) (by decide) (by decide +kernel) rfl ?_
  refine aw_iadd C (by decide +kernel) rfl ?_
  refine aw_sld C X (lw_in 1 h0 h6 hL (by decide)) (by decide +kernel) rfl ?_
  refine aw_callV C (rest := [.int q1.1]) (c_m_sums E (xs (i + (1 : Int32)).toNatClampNeg) _ q2 e2) tb_1340 yf_192 yi_192 (la_58 E) [.int (xs (i + (1 : Int32)).toNatClampNeg)] rfl rfl _ rfl (Nat.le_trans (by decide) hgd) (Nat.le_of_ble_eq_true rfl) (by decide +kernel) rfl ?_
  show AW _ _ _ _ [.int q2.1, .int q1.1]
  refine aw_icmp_eq C (tgt := 1116) (off := 699) (by decide +kernel) (by decide) rfl (fun _ => kk _ hI2) (fun h => absurd e3 h)
theorem lw_c8 {G : Cx} (C : CX G code "PaperStarsLaw") (E : LAin (gly G)) (hgd : 60 ≤ gd G) {Inv : Mm → Prop} (HP : PureOK Inv) {b L : Nat} {xs : Nat → Int32} (X : SX G b L xs) (hL : L ≤ 3072) {i : Int32} (h0 : 0 ≤ i.toInt) (h6 : i.toInt + 6 ≤ (L : Int)) (st : Mm) (hI : Inv st) (kk : ∀ st2, Inv st2 → AW G st2 1116 [(0, .ref b), (1, .ref (gad G 0)), (2, .ref (gad G 58)), (3, .int i)] []) : AW G st 422 [(0, .ref b), (1, .ref (gad G 0)), (2, .ref (gad G 58)), (3, .int i)] [] := by
  refine aw_aload_n C 1 1 (j := 1) rfl rfl (by decide +kernel) rfl ?_
  refine aw_aload_n C 0 0 (j := 0) rfl rfl (by decide +kernel) rfl ?_
  refine aw_iload_n C 3 3 (j := 3) rfl rfl (by decide +kernel) rfl ?_
  refine aw_iconst C (i0 := 1) (v := 1) (by decide) (by decide +kernel) rfl ?_
  refine aw_iadd C (by decide +kernel) rfl ?_
  refine aw_sld C X (lw_in 1 h0 h6 hL (by decide)) (by decide +kernel) rfl ?_
  refine aw_aload_n C 0 0 (j := 0) rfl rfl (by decide +kernel) rfl ?_
  refine aw_iload_n C 3 3 (j := 3) rfl rfl (by decide +kernel) rfl ?_
  refine aw_iconst C (i0 := 2) (v := 2) (by decide) (by decide +kernel) rfl ?_
  refine aw_iadd C (by decide +kernel) rfl ?_
  refine aw_sld C X (lw_in 2 h0 h6 hL (by decide)) (by decide +kernel) rfl ?_
  refine aw_aload_n C 0 0 (j := 0) rfl rfl (by decide +kernel) rfl ?_
  refine aw_iload_n C 3 3 (j := 3) rfl rfl (by decide +kernel) rfl ?_
  refine aw_iconst C (i0 := 3) (v := 3) (by decide) (by decide +kernel) rfl ?_
  refine aw_iadd C (by decide +kernel) rfl ?_
  refine aw_sld C X (lw_in 3 h0 h6 hL (by decide)) (by decide +kernel) rfl ?_
  obtain ⟨q1, q2, e1, e2, e3, hI2⟩ := (HP.2.2.2.2.2.2.2.2.1 (xs (i + (1 : Int32)).toNatClampNeg) (xs (i + (2 : Int32)).toNatClampNeg) (xs (i + (3 : Int32)).toNatClampNeg)) st hI
  refine aw_callV C (rest := []) (c_x_piece (la_lc E) (xs (i + (1 : Int32)).toNatClampNeg) (xs (i + (2 : Int32)).toNatClampNeg) (xs (i + (3 : Int32)).toNatClampNeg) _ q1 e1) tb_685 yf_82 yi_82 (lc_0 (la_lc E)) [.int (xs (i + (1 : Int32)).toNatClampNeg), .int (xs (i + (2 : Int32)).toNatClampNeg), .int (xs (i + (3 : Int32)).toNatClampNeg)] rfl rfl _ rfl (Nat.le_trans (by decide) hgd) (Nat.le_of_ble_eq_true rfl) (by decide +kernel) rfl ?_
  show AW _ _ _ _ [.int q1.1]
  refine aw_aload_n C 2 2 (j := 2) rfl rfl (by decide +kernel) rfl ?_
  refine aw_aload_n C 0 0 (j := 0) rfl rfl (by decide +kernel) rfl ?_
  refine aw_iload_n C 3 3 (j := 3) rfl rfl (by decide +kernel) rfl ?_
  refine aw_iconst C (i0 := 1) (v := 1) (by decide) (by decide +kernel) rfl ?_
  refine aw_iadd C (by decide +kernel) rfl ?_
  refine aw_sld C X (lw_in 1 h0 h6 hL (by decide)) (by decide +kernel) rfl ?_
  refine aw_aload_n C 0 0 (j := 0) rfl rfl (by decide +kernel) rfl ?_
  refine aw_iload_n C 3 3 (j := 3) rfl rfl (by decide +kernel) rfl ?_
  refine aw_iconst C (i0 := 2) (v := 2) (by decide) (by decide +kernel) rfl ?_
  refine aw_iadd C (by decide +kernel) rfl ?_
  refine aw_sld C X (lw_in 2 h0 h6 hL (by decide)) (by decide +kernel) rfl ?_
  refine aw_aload_n C 0 0 (j := 0) rfl rfl (by decide +kernel) rfl ?_
  refine aw_iload_n C 3 3 (j := 3) rfl rfl (by decide +kernel) rfl ?_
  refine aw_iconst C (i0 := 3) (v := 3) (by decide) (by decide +kernel) rfl ?_
  refine aw_iadd C (by decide +kernel) rfl ?_
  refine aw_sld C X (lw_in 3 h0 h6 hL (by decide)) (by decide +kernel) rfl ?_
  refine aw_callV C (rest := [.int q1.1]) (c_m_piece E (xs (i + (1 : Int32)).toNatClampNeg) (xs (i + (2 : Int32)).toNatClampNeg) (xs (i + (3 : Int32)).toNatClampNeg) _ q2 e2) tb_1384 yf_203 yi_203 (la_58 E) [.int (xs (i + (1 : Int32)).toNatClampNeg), .int (xs (i + (2 : Int32)).toNatClampNeg), .int (xs (i + (3 : Int32)).toNatClampNeg)] rfl rfl _ rfl (Nat.le_trans (by decide) hgd) (Nat.le_of_ble_eq_true rfl) (by decide +kernel) rfl ?_
  show AW _ _ _ _ [.int q2.1, .int q1.1]
  refine aw_icmp_eq C (tgt := 1116) (off := 656) (by decide +kernel) (by decide) rfl (fun _ => kk _ hI2) (fun h => absurd e3 h)
theorem lw_c9 {G : Cx} (C : CX G code "PaperStarsLaw") (E : LAin (gly G)) (hgd : 60 ≤ gd G) {Inv : Mm → Prop} (HP : PureOK Inv) {b L : Nat} {xs : Nat → Int32} (X : SX G b L xs) (hL : L ≤ 3072) {i : Int32} (h0 : 0 ≤ i.toInt) (h6 : i.toInt + 6 ≤ (L : Int)) (st : Mm) (hI : Inv st) (kk : ∀ st2, Inv st2 → AW G st2 1116 [(0, .ref b), (1, .ref (gad G 0)), (2, .ref (gad G 58)), (3, .int i)] []) : AW G st 465 [(0, .ref b), (1, .ref (gad G 0)), (2, .ref (gad G 58)), (3, .int i)] [] := by
  refine aw_aload_n C 1 1 (j := 1) rfl rfl (by decide +kernel) rfl ?_
  refine aw_aload_n C 0 0 (j := 0) rfl rfl (by decide +kernel) rfl ?_
  refine aw_iload_n C 3 3 (j := 3) rfl rfl (by decide +kernel) rfl ?_
  refine aw_iconst C (i0 := 1) (v := 1) (by decide) (by decide +kernel) rfl ?_
  refine aw_iadd C (by decide +kernel) rfl ?_
  refine aw_sld C X (lw_in 1 h0 h6 hL (by decide)) (by decide +kernel) rfl ?_
  refine aw_aload_n C 0 0 (j := 0) rfl rfl (by decide +kernel) rfl ?_
  refine aw_iload_n C 3 3 (j := 3) rfl rfl (by decide +kernel) rfl ?_
  refine aw_iconst C (i0 := 2) (v := 2) (by decide) (by decide +kernel) rfl ?_
  refine aw_iadd C (by decide +kernel) rfl ?_
  refine aw_sld C X (lw_in 2 h0 h6 hL (by decide)) (by decide +kernel) rfl ?_
  refine aw_aload_n C 0 0 (j := 0) rfl rfl (by decide +kernel) rfl ?_
  refine aw_iload_n C 3 3 (j := 3) rfl rfl (by decide +kernel) rfl ?_
  refine aw_iconst C (i0 := 3) (v := 3) (by decide) (by decide +kernel) rfl ?_
  refine aw_iadd C (by decide +kernel) rfl ?_
  refine aw_sld C X (lw_in 3 h0 h6 hL (by decide)) (by decide +kernel) rfl ?_
  refine aw_if_eq C (tgt := 488) (off := 7) (by decide +kernel) (by decide) rfl (fun c2 => ?_) (fun c2 => ?_)
  · skip
    have cz := c2
    refine aw_iconst C (i0 := 0) (v := 0) (by decide) (by decide +kernel) rfl ?_
    obtain ⟨q1, q2, e1, e2, e3, hI2⟩ := (HP.2.2.2.2.2.2.2.2.2.1 (xs (i + (1 : Int32)).toNatClampNeg) (xs (i + (2 : Int32)).toNatClampNeg) (0 : Int32) (by decide)) st hI
    refine aw_callV C (rest := []) (c_x_deer (la_lc E) (xs (i + (1 : Int32)).toNatClampNeg) (xs (i + (2 : Int32)).toNatClampNeg) (0 : Int32) _ q1 e1) tb_689 yf_83 yi_83 (lc_0 (la_lc E)) [.int (xs (i + (1 : Int32)).toNatClampNeg), .int (xs (i + (2 : Int32)).toNatClampNeg), .int (0 : Int32)] rfl rfl _ rfl (Nat.le_trans (by decide) hgd) (Nat.le_of_ble_eq_true rfl) (by decide +kernel) rfl ?_
    show AW _ _ _ _ [.int q1.1]
    refine aw_aload_n C 2 2 (j := 2) rfl rfl (by decide +kernel) rfl ?_
    refine aw_aload_n C 0 0 (j := 0) rfl rfl (by decide +kernel) rfl ?_
    refine aw_iload_n C 3 3 (j := 3) rfl rfl (by decide +kernel) rfl ?_
    refine aw_iconst C (i0 := 1) (v := 1) (by decide) (by decide +kernel) rfl ?_
    refine aw_iadd C (by decide +kernel) rfl ?_
    refine aw_sld C X (lw_in 1 h0 h6 hL (by decide)) (by decide +kernel) rfl ?_
    refine aw_aload_n C 0 0 (j := 0) rfl rfl (by decide +kernel) rfl ?_
    refine aw_iload_n C 3 3 (j := 3) rfl rfl (by decide +kernel) rfl ?_
    refine aw_iconst C (i0 := 2) (v := 2) (by decide) (by decide +kernel) rfl ?_
    refine aw_iadd C (by decide +kernel) rfl ?_
    refine aw_sld C X (lw_in 2 h0 h6 hL (by decide)) (by decide +kernel) rfl ?_
    refine aw_aload_n C 0 0 (j := 0) rfl rfl (by decide +kernel) rfl ?_
    refine aw_iload_n C 3 3 (j := 3) rfl rfl (by decide +kernel) rfl ?_
    refine aw_iconst C (i0 := 3) (v := 3) (by decide) (by decide +kernel) rfl ?_
    refine aw_iadd C (by decide +kernel) rfl ?_
    refine aw_sld C X (lw_in 3 h0 h6 hL (by decide)) (by decide +kernel) rfl ?_
    refine aw_if_eq C (tgt := 515) (off := 7) (by decide +kernel) (by decide) rfl (fun c4 => ?_) (fun c4 => ?_)
    · skip
      refine aw_iconst C (i0 := 0) (v := 0) (by decide) (by decide +kernel) rfl ?_
      refine aw_callV C (rest := [.int q1.1]) (c_m_deer E (xs (i + (1 : Int32)).toNatClampNeg) (xs (i + (2 : Int32)).toNatClampNeg) (0 : Int32) _ q2 e2) tb_1392 yf_205 yi_205 (la_58 E) [.int (xs (i + (1 : Int32)).toNatClampNeg), .int (xs (i + (2 : Int32)).toNatClampNeg), .int (0 : Int32)] rfl rfl _ rfl (Nat.le_trans (by decide) hgd) (Nat.le_of_ble_eq_true rfl) (by decide +kernel) rfl ?_
      show AW _ _ _ _ [.int q2.1, .int q1.1]
      refine aw_icmp_eq C (tgt := 1116) (off := 597) (by decide +kernel) (by decide) rfl (fun _ => kk _ hI2) (fun h => absurd e3 h)
    · exact absurd cz c4
  · have cz := c2
    refine aw_iconst C (i0 := 1) (v := 1) (by decide) (by decide +kernel) rfl ?_
    refine aw_goto C (tgt := 489) (off := 4) (by decide +kernel) (by decide) ?_
    obtain ⟨q1, q2, e1, e2, e3, hI2⟩ := (HP.2.2.2.2.2.2.2.2.2.1 (xs (i + (1 : Int32)).toNatClampNeg) (xs (i + (2 : Int32)).toNatClampNeg) (1 : Int32) (by decide)) st hI
    refine aw_callV C (rest := []) (c_x_deer (la_lc E) (xs (i + (1 : Int32)).toNatClampNeg) (xs (i + (2 : Int32)).toNatClampNeg) (1 : Int32) _ q1 e1) tb_689 yf_83 yi_83 (lc_0 (la_lc E)) [.int (xs (i + (1 : Int32)).toNatClampNeg), .int (xs (i + (2 : Int32)).toNatClampNeg), .int (1 : Int32)] rfl rfl _ rfl (Nat.le_trans (by decide) hgd) (Nat.le_of_ble_eq_true rfl) (by decide +kernel) rfl ?_
    show AW _ _ _ _ [.int q1.1]
    refine aw_aload_n C 2 2 (j := 2) rfl rfl (by decide +kernel) rfl ?_
    refine aw_aload_n C 0 0 (j := 0) rfl rfl (by decide +kernel) rfl ?_
    refine aw_iload_n C 3 3 (j := 3) rfl rfl (by decide +kernel) rfl ?_
    refine aw_iconst C (i0 := 1) (v := 1) (by decide) (by decide +kernel) rfl ?_
    refine aw_iadd C (by decide +kernel) rfl ?_
    refine aw_sld C X (lw_in 1 h0 h6 hL (by decide)) (by decide +kernel) rfl ?_
    refine aw_aload_n C 0 0 (j := 0) rfl rfl (by decide +kernel) rfl ?_
    refine aw_iload_n C 3 3 (j := 3) rfl rfl (by decide +kernel) rfl ?_
    refine aw_iconst C (i0 := 2) (v := 2) (by decide) (by decide +kernel) rfl ?_
    refine aw_iadd C (by decide +kernel) rfl ?_
    refine aw_sld C X (lw_in 2 h0 h6 hL (by decide)) (by decide +kernel) rfl ?_
    refine aw_aload_n C 0 0 (j := 0) rfl rfl (by decide +kernel) rfl ?_
    refine aw_iload_n C 3 3 (j := 3) rfl rfl (by decide +kernel) rfl ?_
    refine aw_iconst C (i0 := 3) (v := 3) (by decide) (by decide +kernel) rfl ?_
    refine aw_iadd C (by decide +kernel) rfl ?_
    refine aw_sld C X (lw_in 3 h0 h6 hL (by decide)) (by decide +kernel) rfl ?_
    refine aw_if_eq C (tgt := 515) (off := 7) (by decide +kernel) (by decide) rfl (fun c4 => ?_) (fun c4 => ?_)
    · skip
      exact absurd c4 cz
    · skip
      refine aw_iconst C (i0 := 1) (v := 1) (by decide) (by decide +kernel) rfl ?_
      refine aw_goto C (tgt := 516) (off := 4) (by decide +kernel) (by decide) ?_
      refine aw_callV C (rest := [.int q1.1]) (c_m_deer E (xs (i + (1 : Int32)).toNatClampNeg) (xs (i + (2 : Int32)).toNatClampNeg) (1 : Int32) _ q2 e2) tb_1392 yf_205 yi_205 (la_58 E) [.int (xs (i + (1 : Int32)).toNatClampNeg), .int (xs (i + (2 : Int32)).toNatClampNeg), .int (1 : Int32)] rfl rfl _ rfl (Nat.le_trans (by decide) hgd) (Nat.le_of_ble_eq_true rfl) (by decide +kernel) rfl ?_
      show AW _ _ _ _ [.int q2.1, .int q1.1]
      refine aw_icmp_eq C (tgt := 1116) (off := 597) (by decide +kernel) (by decide) rfl (fun _ => kk _ hI2) (fun h => absurd e3 h)
theorem lw_c10 {G : Cx} (C : CX G code "PaperStarsLaw") (E : LAin (gly G)) (hgd : 60 ≤ gd G) {Inv : Mm → Prop} (HP : PureOK Inv) {b L : Nat} {xs : Nat → Int32} (X : SX G b L xs) (hL : L ≤ 3072) {i : Int32} (h0 : 0 ≤ i.toInt) (h6 : i.toInt + 6 ≤ (L : Int)) (st : Mm) (hI : Inv st) (kk : ∀ st2, Inv st2 → AW G st2 1116 [(0, .ref b), (1, .ref (gad G 0)), (2, .ref (gad G 58)), (3, .int i)] []) : AW G st 524 [(0, .ref b), (1, .ref (gad G 0)), (2, .ref (gad G 58)), (3, .int i)] [] := by
  refine aw_aload_n C 1 1 (j := 1) rfl rfl (by decide +kernel) rfl ?_
  obtain ⟨q1, q2, e1, e2, e3, hI2⟩ := HP.2.2.2.2.2.2.2.2.2.2.1 st hI
  refine aw_callV C (rest := []) (c_x_hang (la_lc E) _ q1 e1) tb_693 yf_84 yi_84 (lc_0 (la_lc E)) [] rfl rfl _ rfl (Nat.le_trans (by decide) hgd) (Nat.le_of_ble_eq_true rfl) (by decide +kernel) rfl ?_
  show AW _ _ _ _ [.int q1.1]
  refine aw_aload_n C 2 2 (j := 2) rfl rfl (by decide +kernel) rfl ?_
  refine aw_callV C (rest := [.int q1.1]) (c_m_hang E _ q2 e2) tb_1396 yf_206 yi_206 (la_58 E) [] rfl rfl _ rfl (Nat.le_trans (by decide) hgd) (Nat.le_of_ble_eq_true rfl) (by decide +kernel) rfl ?_
  show AW _ _ _ _ [.int q2.1, .int q1.1]
  refine aw_icmp_eq C (tgt := 1116) (off := 584) (by decide +kernel) (by decide) rfl (fun _ => kk _ hI2) (fun h => absurd e3 h)
theorem lw_c11 {G : Cx} (C : CX G code "PaperStarsLaw") (E : LAin (gly G)) (hgd : 60 ≤ gd G) {Inv : Mm → Prop} (HP : PureOK Inv) {b L : Nat} {xs : Nat → Int32} (X : SX G b L xs) (hL : L ≤ 3072) {i : Int32} (h0 : 0 ≤ i.toInt) (h6 : i.toInt + 6 ≤ (L : Int)) (st : Mm) (hI : Inv st) (kk : ∀ st2, Inv st2 → AW G st2 1116 [(0, .ref b), (1, .ref (gad G 0)), (2, .ref (gad G 58)), (3, .int i)] []) : AW G st 537 [(0, .ref b), (1, .ref (gad G 0)), (2, .ref (gad G 58)), (3, .int i)] [] := by
  refine aw_aload_n C 1 1 (j := 1) rfl rfl (by decide +kernel) rfl ?_
  refine aw_aload_n C 0 0 (j := 0) rfl rfl (by decide +kernel) rfl ?_
  refine aw_iload_n C 3 3 (j := 3) rfl rfl (by decide +kernel) rfl ?_
  refine aw_iconst C (i0 := 1) (v := 1) (by decide) (by decide +kernel) rfl ?_
  refine aw_iadd C (by decide +kernel) rfl ?_
  refine aw_sld C X (lw_in 1 h0 h6 hL (by decide)) (by decide +kernel) rfl ?_
  refine aw_aload_n C 0 0 (j := 0) rfl rfl (by decide +kernel) rfl ?_
  refine aw_iload_n C 3 3 (j := 3) rfl rfl (by decide +kernel) rfl ?_
  refine aw_iconst C (i0 := 2) (v := 2) (by decide) (by decide +kernel) rfl ?_
  refine aw_iadd C (by decide +kernel) rfl ?_
  refine aw_sld C X (lw_in 2 h0 h6 hL (by decide)) (by decide +kernel) rfl ?_
  obtain ⟨q1, q2, e1, e2, e3, hI2⟩ := (HP.2.2.2.2.2.2.2.2.2.2.2.1 (xs (i + (1 : Int32)).toNatClampNeg) (xs (i + (2 : Int32)).toNatClampNeg)) st hI
  refine aw_callV C (rest := []) (c_x_want (la_lc E) (xs (i + (1 : Int32)).toNatClampNeg) (xs (i + (2 : Int32)).toNatClampNeg) _ q1 e1) tb_738 yf_94 yi_94 (lc_0 (la_lc E)) [.int (xs (i + (1 : Int32)).toNatClampNeg), .int (xs (i + (2 : Int32)).toNatClampNeg)] rfl rfl _ rfl (Nat.le_trans (by decide) hgd) (Nat.le_of_ble_eq_true rfl) (by decide +kernel) rfl ?_
  show AW _ _ _ _ [.int q1.1]
  refine aw_aload_n C 2 2 (j := 2) rfl rfl (by decide +kernel) rfl ?_
  refine aw_aload_n C 0 0 (j := 0) rfl rfl (by decide +kernel) rfl ?_
  refine aw_iload_n C 3 3 (j := 3) rfl rfl (by decide +kernel) rfl ?_
  refine aw_iconst C (i0 := 1) (v := 1) (by decide) (by decide +kernel) rfl ?_
  refine aw_iadd C (by decide +kernel) rfl ?_
  refine aw_sld C X (lw_in 1 h0 h6 hL (by decide)) (by decide +kernel) rfl ?_
  refine aw_aload_n C 0 0 (j := 0) rfl rfl (by decide +kernel) rfl ?_
  refine aw_iload_n C 3 3 (j := 3) rfl rfl (by decide +kernel) rfl ?_
  refine aw_iconst C (i0 := 2) (v := 2) (by decide) (by decide +kernel) rfl ?_
  refine aw_iadd C (by decide +kernel) rfl ?_
  refine aw_sld C X (lw_in 2 h0 h6 hL (by decide)) (by decide +kernel) rfl ?_
  refine aw_callV C (rest := [.int q1.1]) (c_m_want E (xs (i + (1 : Int32)).toNatClampNeg) (xs (i + (2 : Int32)).toNatClampNeg) _ q2 e2) tb_1419 yf_212 yi_212 (la_58 E) [.int (xs (i + (1 : Int32)).toNatClampNeg), .int (xs (i + (2 : Int32)).toNatClampNeg)] rfl rfl _ rfl (Nat.le_trans (by decide) hgd) (Nat.le_of_ble_eq_true rfl) (by decide +kernel) rfl ?_
  show AW _ _ _ _ [.int q2.1, .int q1.1]
  refine aw_icmp_eq C (tgt := 1116) (off := 551) (by decide +kernel) (by decide) rfl (fun _ => kk _ hI2) (fun h => absurd e3 h)
theorem lw_c12 {G : Cx} (C : CX G code "PaperStarsLaw") (E : LAin (gly G)) (hgd : 60 ≤ gd G) {Inv : Mm → Prop} (HP : PureOK Inv) {b L : Nat} {xs : Nat → Int32} (X : SX G b L xs) (hL : L ≤ 3072) {i : Int32} (h0 : 0 ≤ i.toInt) (h6 : i.toInt + 6 ≤ (L : Int)) (st : Mm) (hI : Inv st) (kk : ∀ st2, Inv st2 → AW G st2 1116 [(0, .ref b), (1, .ref (gad G 0)), (2, .ref (gad G 58)), (3, .int i)] []) : AW G st 570 [(0, .ref b), (1, .ref (gad G 0)), (2, .ref (gad G 58)), (3, .int i)] [] := by
  refine aw_aload_n C 1 1 (j := 1) rfl rfl (by decide +kernel) rfl ?_
  obtain ⟨q1, q2, e1, e2, e3, hI2⟩ := HP.2.2.2.2.2.2.2.2.2.2.2.2.1 st hI
  refine aw_callV C (rest := []) (c_x_wantOpened (la_lc E) _ q1 e1) tb_742 yf_95 yi_95 (lc_0 (la_lc E)) [] rfl rfl _ rfl (Nat.le_trans (by decide) hgd) (Nat.le_of_ble_eq_true rfl) (by decide +kernel) rfl ?_
  show AW _ _ _ _ [.int q1.1]
  refine aw_aload_n C 2 2 (j := 2) rfl rfl (by decide +kernel) rfl ?_
  refine aw_callV C (rest := [.int q1.1]) (c_m_wantOpened E _ q2 e2) tb_1423 yf_213 yi_213 (la_58 E) [] rfl rfl _ rfl (Nat.le_trans (by decide) hgd) (Nat.le_of_ble_eq_true rfl) (by decide +kernel) rfl ?_
  show AW _ _ _ _ [.int q2.1, .int q1.1]
  refine aw_icmp_eq C (tgt := 1116) (off := 538) (by decide +kernel) (by decide) rfl (fun _ => kk _ hI2) (fun h => absurd e3 h)
theorem lw_c13 {G : Cx} (C : CX G code "PaperStarsLaw") (E : LAin (gly G)) (hgd : 60 ≤ gd G) {Inv : Mm → Prop} (HP : PureOK Inv) {b L : Nat} {xs : Nat → Int32} (X : SX G b L xs) (hL : L ≤ 3072) {i : Int32} (h0 : 0 ≤ i.toInt) (h6 : i.toInt + 6 ≤ (L : Int)) (st : Mm) (hI : Inv st) (kk : ∀ st2, Inv st2 → AW G st2 1116 [(0, .ref b), (1, .ref (gad G 0)), (2, .ref (gad G 58)), (3, .int i)] []) : AW G st 583 [(0, .ref b), (1, .ref (gad G 0)), (2, .ref (gad G 58)), (3, .int i)] [] := by
  refine aw_aload_n C 1 1 (j := 1) rfl rfl (by decide +kernel) rfl ?_
  refine aw_aload_n C 0 0 (j := 0) rfl rfl (by decide +kernel) rfl ?_
  refine aw_iload_n C 3 3 (j := 3) rfl rfl (by decide +kernel) rfl ?_
  refine aw_iconst C (i0 := 1) (v := 1) (by decide) (by decide +kernel) rfl ?_
  refine aw_iadd C (by decide +kernel) rfl ?_
  refine aw_sld C X (lw_in 1 h0 h6 hL (by decide)) (by decide +kernel) rfl ?_
  obtain ⟨q1, q2, e1, e2, e3, hI2⟩ := (HP.2.2.2.2.2.2.2.2.2.2.2.2.2.1 (xs (i + (1 : Int32)).toNatClampNeg)) st hI
  refine aw_callV C (rest := []) (c_x_differs (la_lc E) (xs (i + (1 : Int32)).toNatClampNeg) _ q1 e1) tb_747 yf_96 yi_96 (lc_0 (la_lc E)) [.int (xs (i + (1 : Int32)).toNatClampNeg)] rfl rfl _ rfl (Nat.le_trans (by decide) hgd) (Nat.le_of_ble_eq_true rfl) (by decide +kernel) rfl ?_
  show AW _ _ _ _ [.int q1.1]
  refine aw_aload_n C 2 2 (j := 2) rfl rfl (by decide +kernel) rfl ?_
  refine aw_aload_n C 0 0 (j := 0) rfl rfl (by decide +kernel) rfl ?_
  refine aw_iload_n C 3 3 (j := 3) rfl rfl (by decide +kernel) rfl ?_
  refine aw_iconst C (i0 := 1) (v := 1) (by decide) (by decide +kernel) rfl ?_
  refine aw_iadd C (by decide +kernel) rfl ?_
  refine aw_sld C X (lw_in 1 h0 h6 hL (by decide)) (by decide +kernel) rfl ?_
  refine aw_callV C (rest := [.int q1.1]) (c_m_differs E (xs (i + (1 : Int32)).toNatClampNeg) _ q2 e2) tb_1427 yf_214 yi_214 (la_58 E) [.int (xs (i + (1 : Int32)).toNatClampNeg)] rfl rfl _ rfl (Nat.le_trans (by decide) hgd) (Nat.le_of_ble_eq_true rfl) (by decide +kernel) rfl ?_
  show AW _ _ _ _ [.int q2.1, .int q1.1]
  refine aw_icmp_eq C (tgt := 1116) (off := 515) (by decide +kernel) (by decide) rfl (fun _ => kk _ hI2) (fun h => absurd e3 h)
theorem lw_c14 {G : Cx} (C : CX G code "PaperStarsLaw") (E : LAin (gly G)) (hgd : 60 ≤ gd G) {Inv : Mm → Prop} (HP : PureOK Inv) {b L : Nat} {xs : Nat → Int32} (X : SX G b L xs) (hL : L ≤ 3072) {i : Int32} (h0 : 0 ≤ i.toInt) (h6 : i.toInt + 6 ≤ (L : Int)) (st : Mm) (hI : Inv st) (kk : ∀ st2, Inv st2 → AW G st2 1116 [(0, .ref b), (1, .ref (gad G 0)), (2, .ref (gad G 58)), (3, .int i)] []) : AW G st 606 [(0, .ref b), (1, .ref (gad G 0)), (2, .ref (gad G 58)), (3, .int i)] [] := by
  refine aw_aload_n C 1 1 (j := 1) rfl rfl (by decide +kernel) rfl ?_
  refine aw_aload_n C 0 0 (j := 0) rfl rfl (by decide +kernel) rfl ?_
  refine aw_iload_n C 3 3 (j := 3) rfl rfl (by decide +kernel) rfl ?_
  refine aw_iconst C (i0 := 1) (v := 1) (by decide) (by decide +kernel) rfl ?_
  refine aw_iadd C (by decide +kernel) rfl ?_
  refine aw_sld C X (lw_in 1 h0 h6 hL (by decide)) (by decide +kernel) rfl ?_
  refine aw_aload_n C 0 0 (j := 0) rfl rfl (by decide +kernel) rfl ?_
  refine aw_iload_n C 3 3 (j := 3) rfl rfl (by decide +kernel) rfl ?_
  refine aw_iconst C (i0 := 2) (v := 2) (by decide) (by decide +kernel) rfl ?_
  refine aw_iadd C (by decide +kernel) rfl ?_
  refine aw_sld C X (lw_in 2 h0 h6 hL (by decide)) (by decide +kernel) rfl ?_
  refine aw_aload_n C 0 0 (j := 0) rfl rfl (by decide +kernel) rfl ?_
  refine aw_iload_n C 3 3 (j := 3) rfl rfl (by decide +kernel) rfl ?_
  refine aw_iconst C (i0 := 3) (v := 3) (by decide) (by decide +kernel) rfl ?_
  refine aw_iadd C (by decide +kernel) rfl ?_
  refine aw_sld C X (lw_in 3 h0 h6 hL (by decide)) (by decide +kernel) rfl ?_
  obtain ⟨q1, q2, e1, e2, e3, hI2⟩ := (HP.2.2.2.2.2.2.2.2.2.2.2.2.2.2.1 (xs (i + (1 : Int32)).toNatClampNeg) (xs (i + (2 : Int32)).toNatClampNeg) (xs (i + (3 : Int32)).toNatClampNeg)) st hI
  refine aw_callV C (rest := []) (c_x_fits (la_lc E) (xs (i + (1 : Int32)).toNatClampNeg) (xs (i + (2 : Int32)).toNatClampNeg) (xs (i + (3 : Int32)).toNatClampNeg) _ q1 e1) tb_752 yf_97 yi_97 (lc_0 (la_lc E)) [.int (xs (i + (1 : Int32)).toNatClampNeg), .int (xs (i + (2 : Int32)).toNatClampNeg), .int (xs (i + (3 : Int32)).toNatClampNeg)] rfl rfl _ rfl (Nat.le_trans (by decide) hgd) (Nat.le_of_ble_eq_true rfl) (by decide +kernel) rfl ?_
  show AW _ _ _ _ [.int q1.1]
  refine aw_aload_n C 2 2 (j := 2) rfl rfl (by decide +kernel) rfl ?_
  refine aw_aload_n C 0 0 (j := 0) rfl rfl (by decide +kernel) rfl ?_
  refine aw_iload_n C 3 3 (j := 3) rfl rfl (by decide +kernel) rfl ?_
  refine aw_iconst C (i0 := 1) (v := 1) (by decide) (by decide +kernel) rfl ?_
  refine aw_iadd C (by decide +kernel) rfl ?_
  refine aw_sld C X (lw_in 1 h0 h6 hL (by decide)) (by decide +kernel) rfl ?_
  refine aw_aload_n C 0 0 (j := 0) rfl rfl (by decide +kernel) rfl ?_
  refine aw_iload_n C 3 3 (j := 3) rfl rfl (by decide +kernel) rfl ?_
  refine aw_iconst C (i0 := 2) (v := 2) (by decide) (by decide +kernel) rfl ?_
  refine aw_iadd C (by decide +kernel) rfl ?_
  refine aw_sld C X (lw_in 2 h0 h6 hL (by decide)) (by decide +kernel) rfl ?_
  refine aw_aload_n C 0 0 (j := 0) rfl rfl (by decide +kernel) rfl ?_
  refine aw_iload_n C 3 3 (j := 3) rfl rfl (by decide +kernel) rfl ?_
  refine aw_iconst C (i0 := 3) (v := 3) (by decide) (by decide +kernel) rfl ?_
  refine aw_iadd C (by decide +kernel) rfl ?_
  refine aw_sld C X (lw_in 3 h0 h6 hL (by decide)) (by decide +kernel) rfl ?_
  refine aw_callV C (rest := [.int q1.1]) (c_m_fits E (xs (i + (1 : Int32)).toNatClampNeg) (xs (i + (2 : Int32)).toNatClampNeg) (xs (i + (3 : Int32)).toNatClampNeg) _ q2 e2) tb_1435 yf_216 yi_216 (la_58 E) [.int (xs (i + (1 : Int32)).toNatClampNeg), .int (xs (i + (2 : Int32)).toNatClampNeg), .int (xs (i + (3 : Int32)).toNatClampNeg)] rfl rfl _ rfl (Nat.le_trans (by decide) hgd) (Nat.le_of_ble_eq_true rfl) (by decide +kernel) rfl ?_
  show AW _ _ _ _ [.int q2.1, .int q1.1]
  refine aw_icmp_eq C (tgt := 1116) (off := 472) (by decide +kernel) (by decide) rfl (fun _ => kk _ hI2) (fun h => absurd e3 h)
theorem lw_c15 {G : Cx} (C : CX G code "PaperStarsLaw") (E : LAin (gly G)) (hgd : 60 ≤ gd G) {Inv : Mm → Prop} (HP : PureOK Inv) {b L : Nat} {xs : Nat → Int32} (X : SX G b L xs) (hL : L ≤ 3072) {i : Int32} (h0 : 0 ≤ i.toInt) (h6 : i.toInt + 6 ≤ (L : Int)) (st : Mm) (hI : Inv st) (kk : ∀ st2, Inv st2 → AW G st2 1116 [(0, .ref b), (1, .ref (gad G 0)), (2, .ref (gad G 58)), (3, .int i)] []) : AW G st 649 [(0, .ref b), (1, .ref (gad G 0)), (2, .ref (gad G 58)), (3, .int i)] [] := by
  refine aw_aload_n C 1 1 (j := 1) rfl rfl (by decide +kernel) rfl ?_
  refine aw_aload_n C 0 0 (j := 0) rfl rfl (by decide +kernel) rfl ?_
  refine aw_iload_n C 3 3 (j := 3) rfl rfl (by decide +kernel) rfl ?_
  refine aw_iconst C (i0 := 1) (v := 1) (by decide) (by decide +kernel) rfl ?_
  refine aw_iadd C (by decide +kernel) rfl ?_
  refine aw_sld C X (lw_in 1 h0 h6 hL (by decide)) (by decide +kernel) rfl ?_
  obtain ⟨q1, q2, e1, e2, e3, hI2⟩ := (HP.2.2.2.2.2.2.2.2.2.2.2.2.2.2.2.1 (xs (i + (1 : Int32)).toNatClampNeg)) st hI
  refine aw_callV C (rest := []) (c_x_bestFold (la_lc E) (xs (i + (1 : Int32)).toNatClampNeg) _ q1 e1) tb_774 yf_101 yi_101 (lc_0 (la_lc E)) [.int (xs (i + (1 : Int32)).toNatClampNeg)] rfl rfl _ rfl (Nat.le_trans (by decide) hgd) (Nat.le_of_ble_eq_true rfl) (by decide +kernel) rfl ?_
  show AW _ _ _ _ [.int q1.1]
  refine aw_aload_n C 2 2 (j := 2) rfl rfl (by decide +kernel) rfl ?_
  refine aw_aload_n C 0 0 (j := 0) rfl rfl (by decide +kernel) rfl ?_
  refine aw_iload_n C 3 3 (j := 3) rfl rfl (by decide +kernel) rfl ?_
  refine aw_iconst C (i0 := 1) (v := 1) (by decide) (by decide +kernel) rfl ?_
  refine aw_iadd C (by decide +kernel) rfl ?_
  refine aw_sld C X (lw_in 1 h0 h6 hL (by decide)) (by decide +kernel) rfl ?_
  refine aw_callV C (rest := [.int q1.1]) (c_m_bestFold E (xs (i + (1 : Int32)).toNatClampNeg) _ q2 e2) tb_1447 yf_219 yi_219 (la_58 E) [.int (xs (i + (1 : Int32)).toNatClampNeg)] rfl rfl _ rfl (Nat.le_trans (by decide) hgd) (Nat.le_of_ble_eq_true rfl) (by decide +kernel) rfl ?_
  show AW _ _ _ _ [.int q2.1, .int q1.1]
  refine aw_icmp_eq C (tgt := 1116) (off := 449) (by decide +kernel) (by decide) rfl (fun _ => kk _ hI2) (fun h => absurd e3 h)
theorem lw_c16 {G : Cx} (C : CX G code "PaperStarsLaw") (E : LAin (gly G)) (hgd : 60 ≤ gd G) {Inv : Mm → Prop} (HP : PureOK Inv) {b L : Nat} {xs : Nat → Int32} (X : SX G b L xs) (hL : L ≤ 3072) {i : Int32} (h0 : 0 ≤ i.toInt) (h6 : i.toInt + 6 ≤ (L : Int)) (st : Mm) (hI : Inv st) (kk : ∀ st2, Inv st2 → AW G st2 1116 [(0, .ref b), (1, .ref (gad G 0)), (2, .ref (gad G 58)), (3, .int i)] []) : AW G st 672 [(0, .ref b), (1, .ref (gad G 0)), (2, .ref (gad G 58)), (3, .int i)] [] := by
  refine aw_aload_n C 1 1 (j := 1) rfl rfl (by decide +kernel) rfl ?_
  refine aw_aload_n C 0 0 (j := 0) rfl rfl (by decide +kernel) rfl ?_
  refine aw_iload_n C 3 3 (j := 3) rfl rfl (by decide +kernel) rfl ?_
  refine aw_iconst C (i0 := 1) (v := 1) (by decide) (by decide +kernel) rfl ?_
  refine aw_iadd C (by decide +kernel) rfl ?_
  refine aw_sld C X (lw_in 1 h0 h6 hL (by decide)) (by decide +kernel) rfl ?_
  refine aw_aload_n C 0 0 (j := 0) rfl rfl (by decide +kernel) rfl ?_
  refine aw_iload_n C 3 3 (j := 3) rfl rfl (by decide +kernel) rfl ?_
  refine aw_iconst C (i0 := 2) (v := 2) (by decide) (by decide +kernel) rfl ?_
  refine aw_iadd C (by decide +kernel) rfl ?_
  refine aw_sld C X (lw_in 2 h0 h6 hL (by decide)) (by decide +kernel) rfl ?_
  refine aw_aload_n C 0 0 (j := 0) rfl rfl (by decide +kernel) rfl ?_
  refine aw_iload_n C 3 3 (j := 3) rfl rfl (by decide +kernel) rfl ?_
  refine aw_iconst C (i0 := 3) (v := 3) (by decide) (by decide +kernel) rfl ?_
  refine aw_iadd C (by decide +kernel) rfl ?_
  refine aw_sld C X (lw_in 3 h0 h6 hL (by decide)) (by decide +kernel) rfl ?_
  obtain ⟨q1, q2, e1, e2, e3, hI2⟩ := (HP.2.2.2.2.2.2.2.2.2.2.2.2.2.2.2.2.1 (xs (i + (1 : Int32)).toNatClampNeg) (xs (i + (2 : Int32)).toNatClampNeg) (xs (i + (3 : Int32)).toNatClampNeg)) st hI
  refine aw_callV C (rest := []) (c_x_snips (la_lc E) (xs (i + (1 : Int32)).toNatClampNeg) (xs (i + (2 : Int32)).toNatClampNeg) (xs (i + (3 : Int32)).toNatClampNeg) _ q1 e1) tb_795 yf_106 yi_106 (lc_0 (la_lc E)) [.int (xs (i + (1 : Int32)).toNatClampNeg), .int (xs (i + (2 : Int32)).toNatClampNeg), .int (xs (i + (3 : Int32)).toNatClampNeg)] rfl rfl _ rfl (Nat.le_trans (by decide) hgd) (Nat.le_of_ble_eq_true rfl) (by decide +kernel) rfl ?_
  show AW _ _ _ _ [.int q1.1]
  refine aw_aload_n C 2 2 (j := 2) rfl rfl (by decide +kernel) rfl ?_
  refine aw_aload_n C 0 0 (j := 0) rfl rfl (by decide +kernel) rfl ?_
  refine aw_iload_n C 3 3 (j := 3) rfl rfl (by decide +kernel) rfl ?_
  refine aw_iconst C (i0 := 1) (v := 1) (by decide) (by decide +kernel) rfl ?_
  refine aw_iadd C (by decide +kernel) rfl ?_
  refine aw_sld C X (lw_in 1 h0 h6 hL (by decide)) (by decide +kernel) rfl ?_
  refine aw_aload_n C 0 0 (j := 0) rfl rfl (by decide +kernel) rfl ?_
  refine aw_iload_n C 3 3 (j := 3) rfl rfl (by decide +kernel) rfl ?_
  refine aw_iconst C (i0 := 2) (v := 2) (by decide) (by decide +kernel) rfl ?_
  refine aw_iadd C (by decide +kernel) rfl ?_
  refine aw_sld C X (lw_in 2 h0 h6 hL (by decide)) (by decide +kernel) rfl ?_
  refine aw_aload_n C 0 0 (j := 0) rfl rfl (by decide +kernel) rfl ?_
  refine aw_iload_n C 3 3 (j := 3) rfl rfl (by decide +kernel) rfl ?_
  refine aw_iconst C (i0 := 3) (v := 3) (by decide) (by decide +kernel) rfl ?_
  refine aw_iadd C (by decide +kernel) rfl ?_
  refine aw_sld C X (lw_in 3 h0 h6 hL (by decide)) (by decide +kernel) rfl ?_
  refine aw_callV C (rest := [.int q1.1]) (c_m_snips E (xs (i + (1 : Int32)).toNatClampNeg) (xs (i + (2 : Int32)).toNatClampNeg) (xs (i + (3 : Int32)).toNatClampNeg) _ q2 e2) tb_1455 yf_221 yi_221 (la_58 E) [.int (xs (i + (1 : Int32)).toNatClampNeg), .int (xs (i + (2 : Int32)).toNatClampNeg), .int (xs (i + (3 : Int32)).toNatClampNeg)] rfl rfl _ rfl (Nat.le_trans (by decide) hgd) (Nat.le_of_ble_eq_true rfl) (by decide +kernel) rfl ?_
  show AW _ _ _ _ [.int q2.1, .int q1.1]
  refine aw_icmp_eq C (tgt := 1116) (off := 406) (by decide +kernel) (by decide) rfl (fun _ => kk _ hI2) (fun h => absurd e3 h)
theorem lw_c17 {G : Cx} (C : CX G code "PaperStarsLaw") (E : LAin (gly G)) (hgd : 60 ≤ gd G) {Inv : Mm → Prop} (HP : PureOK Inv) {b L : Nat} {xs : Nat → Int32} (X : SX G b L xs) (hL : L ≤ 3072) {i : Int32} (h0 : 0 ≤ i.toInt) (h6 : i.toInt + 6 ≤ (L : Int)) (st : Mm) (hI : Inv st) (kk : ∀ st2, Inv st2 → AW G st2 1116 [(0, .ref b), (1, .ref (gad G 0)), (2, .ref (gad G 58)), (3, .int i)] []) : AW G st 715 [(0, .ref b), (1, .ref (gad G 0)), (2, .ref (gad G 58)), (3, .int i)] [] := by
  refine aw_aload_n C 1 1 (j := 1) rfl rfl (by decide +kernel) rfl ?_
  refine aw_aload_n C 0 0 (j := 0) rfl rfl (by decide +kernel) rfl ?_
  refine aw_iload_n C 3 3 (j := 3) rfl rfl (by decide +kernel) rfl ?_
  refine aw_iconst C (i0 := 1) (v := 1) (by decide) (by decide +kernel) rfl ?_
  refine aw_iadd C (by decide +kernel) rfl ?_
  refine aw_sld C X (lw_in 1 h0 h6 hL (by decide)) (by decide +kernel) rfl ?_
  refine aw_aload_n C 0 0 (j := 0) rfl rfl (by decide +kernel) rfl ?_
  refine aw_iload_n C 3 3 (j := 3) rfl rfl (by decide +kernel) rfl ?_
  refine aw_iconst C (i0 := 2) (v := 2) (by decide) (by decide +kernel) rfl ?_
  refine aw_iadd C (by decide +kernel) rfl ?_
  refine aw_sld C X (lw_in 2 h0 h6 hL (by decide)) (by decide +kernel) rfl ?_
  refine aw_aload_n C 0 0 (j := 0) rfl rfl (by decide +kernel) rfl ?_
  refine aw_iload_n C 3 3 (j := 3) rfl rfl (by decide +kernel) rfl ?_
  refine aw_iconst C (i0 := 3) (v := 3) (by decide) (by decide +kernel) rfl ?_
  refine aw_iadd C (by decide +kernel) rfl ?_
  refine aw_sld C X (lw_in 3 h0 h6 hL (by decide)) (by decide +kernel) rfl ?_
  refine aw_aload_n C 0 0 (j := 0) rfl rfl (by decide +kernel) rfl ?_
  refine aw_iload_n C 3 3 (j := 3) rfl rfl (by decide +kernel) rfl ?_
  refine aw_iconst C (i0 := 4) (v := 4) (by decide) (by decide +kernel) rfl ?_
  refine aw_iadd C (by decide +kernel) rfl ?_
  refine aw_sld C X (lw_in 4 h0 h6 hL (by decide)) (by decide +kernel) rfl ?_
  obtain ⟨q1, q2, e1, e2, e3, hI2⟩ := (HP.2.2.2.2.2.2.2.2.2.2.2.2.2.2.2.2.2.1 (xs (i + (1 : Int32)).toNatClampNeg) (xs (i + (2 : Int32)).toNatClampNeg) (xs (i + (3 : Int32)).toNatClampNeg) (xs (i + (4 : Int32)).toNatClampNeg)) st hI
  refine aw_callV C (rest := []) (c_x_straight (la_lc E) (xs (i + (1 : Int32)).toNatClampNeg) (xs (i + (2 : Int32)).toNatClampNeg) (xs (i + (3 : Int32)).toNatClampNeg) (xs (i + (4 : Int32)).toNatClampNeg) _ q1 e1) tb_825 yf_113 yi_113 (lc_0 (la_lc E)) [.int (xs (i + (1 : Int32)).toNatClampNeg), .int (xs (i + (2 : Int32)).toNatClampNeg), .int (xs (i + (3 : Int32)).toNatClampNeg), .int (xs (i + (4 : Int32)).toNatClampNeg)] rfl rfl _ rfl (Nat.le_trans (by decide) hgd) (Nat.le_of_ble_eq_true rfl) (by decide +kernel) rfl ?_
  show AW _ _ _ _ [.int q1.1]
  refine aw_aload_n C 2 2 (j := 2) rfl rfl (by decide +kernel) rfl ?_
  refine aw_aload_n C 0 0 (j := 0) rfl rfl (by decide +kernel) rfl ?_
  refine aw_iload_n C 3 3 (j := 3) rfl rfl (by decide +kernel) rfl ?_
  refine aw_iconst C (i0 := 1) (v := 1) (by decide) (by decide +kernel) rfl ?_
  refine aw_iadd C (by decide +kernel) rfl ?_
  refine aw_sld C X (lw_in 1 h0 h6 hL (by decide)) (by decide +kernel) rfl ?_
  refine aw_aload_n C 0 0 (j := 0) rfl rfl (by decide +kernel) rfl ?_
  refine aw_iload_n C 3 3 (j := 3) rfl rfl (by decide +kernel) rfl ?_
  refine aw_iconst C (i0 := 2) (v := 2) (by decide) (by decide +kernel) rfl ?_
  refine aw_iadd C (by decide +kernel) rfl ?_
  refine aw_sld C X (lw_in 2 h0 h6 hL (by decide)) (by decide +kernel) rfl ?_
  refine aw_aload_n C 0 0 (j := 0) rfl rfl (by decide +kernel) rfl ?_
  refine aw_iload_n C 3 3 (j := 3) rfl rfl (by decide +kernel) rfl ?_
  refine aw_iconst C (i0 := 3) (v := 3) (by decide) (by decide +kernel) rfl ?_
  refine aw_iadd C (by decide +kernel) rfl ?_
  refine aw_sld C X (lw_in 3 h0 h6 hL (by decide)) (by decide +kernel) rfl ?_
  refine aw_aload_n C 0 0 (j := 0) rfl rfl (by decide +kernel) rfl ?_
  refine aw_iload_n C 3 3 (j := 3) rfl rfl (by decide +kernel) rfl ?_
  refine aw_iconst C (i0 := 4) (v := 4) (by decide) (by decide +kernel) rfl ?_
  refine aw_iadd C (by decide +kernel) rfl ?_
  refine aw_sld C X (lw_in 4 h0 h6 hL (by decide)) (by decide +kernel) rfl ?_
  refine aw_callV C (rest := [.int q1.1]) (c_m_straight E (xs (i + (1 : Int32)).toNatClampNeg) (xs (i + (2 : Int32)).toNatClampNeg) (xs (i + (3 : Int32)).toNatClampNeg) (xs (i + (4 : Int32)).toNatClampNeg) _ q2 e2) tb_1483 yf_228 yi_228 (la_58 E) [.int (xs (i + (1 : Int32)).toNatClampNeg), .int (xs (i + (2 : Int32)).toNatClampNeg), .int (xs (i + (3 : Int32)).toNatClampNeg), .int (xs (i + (4 : Int32)).toNatClampNeg)] rfl rfl _ rfl (Nat.le_trans (by decide) hgd) (Nat.le_of_ble_eq_true rfl) (by decide +kernel) rfl ?_
  show AW _ _ _ _ [.int q2.1, .int q1.1]
  refine aw_icmp_eq C (tgt := 1116) (off := 353) (by decide +kernel) (by decide) rfl (fun _ => kk _ hI2) (fun h => absurd e3 h)
theorem lw_c18 {G : Cx} (C : CX G code "PaperStarsLaw") (E : LAin (gly G)) (hgd : 60 ≤ gd G) {Inv : Mm → Prop} (HP : PureOK Inv) {b L : Nat} {xs : Nat → Int32} (X : SX G b L xs) (hL : L ≤ 3072) {i : Int32} (h0 : 0 ≤ i.toInt) (h6 : i.toInt + 6 ≤ (L : Int)) (st : Mm) (hI : Inv st) (kk : ∀ st2, Inv st2 → AW G st2 1116 [(0, .ref b), (1, .ref (gad G 0)), (2, .ref (gad G 58)), (3, .int i)] []) : AW G st 768 [(0, .ref b), (1, .ref (gad G 0)), (2, .ref (gad G 58)), (3, .int i)] [] := by
  refine aw_aload_n C 1 1 (j := 1) rfl rfl (by decide +kernel) rfl ?_
  refine aw_aload_n C 0 0 (j := 0) rfl rfl (by decide +kernel) rfl ?_
  refine aw_iload_n C 3 3 (j := 3) rfl rfl (by decide +kernel) rfl ?_
  refine aw_iconst C (i0 := 1) (v := 1) (by decide) (by decide +kernel) rfl ?_
  refine aw_iadd C (by decide +kernel) rfl ?_
  refine aw_sld C X (lw_in 1 h0 h6 hL (by decide)) (by decide +kernel) rfl ?_
  refine aw_aload_n C 0 0 (j := 0) rfl rfl (by decide +kernel) rfl ?_
  refine aw_iload_n C 3 3 (j := 3) rfl rfl (by decide +kernel) rfl ?_
  refine aw_iconst C (i0 := 2) (v := 2) (by decide) (by decide +kernel) rfl ?_
  refine aw_iadd C (by decide +kernel) rfl ?_
  refine aw_sld C X (lw_in 2 h0 h6 hL (by decide)) (by decide +kernel) rfl ?_
  obtain ⟨q1, q2, e1, e2, e3, hI2⟩ := (HP.2.2.2.2.2.2.2.2.2.2.2.2.2.2.2.2.2.2.1 (xs (i + (1 : Int32)).toNatClampNeg) (xs (i + (2 : Int32)).toNatClampNeg)) st hI
  refine aw_callV C (rest := []) (c_x_scraps (la_lc E) (xs (i + (1 : Int32)).toNatClampNeg) (xs (i + (2 : Int32)).toNatClampNeg) _ q1 e1) tb_845 yf_118 yi_118 (lc_0 (la_lc E)) [.int (xs (i + (1 : Int32)).toNatClampNeg), .int (xs (i + (2 : Int32)).toNatClampNeg)] rfl rfl _ rfl (Nat.le_trans (by decide) hgd) (Nat.le_of_ble_eq_true rfl) (by decide +kernel) rfl ?_
  show AW _ _ _ _ [.int q1.1]
  refine aw_aload_n C 2 2 (j := 2) rfl rfl (by decide +kernel) rfl ?_
  refine aw_aload_n C 0 0 (j := 0) rfl rfl (by decide +kernel) rfl ?_
  refine aw_iload_n C 3 3 (j := 3) rfl rfl (by decide +kernel) rfl ?_
  refine aw_iconst C (i0 := 1) (v := 1) (by decide) (by decide +kernel) rfl ?_
  refine aw_iadd C (by decide +kernel) rfl ?_
  refine aw_sld C X (lw_in 1 h0 h6 hL (by decide)) (by decide +kernel) rfl ?_
  refine aw_aload_n C 0 0 (j := 0) rfl rfl (by decide +kernel) rfl ?_
  refine aw_iload_n C 3 3 (j := 3) rfl rfl (by decide +kernel) rfl ?_
  refine aw_iconst C (i0 := 2) (v := 2) (by decide) (by decide +kernel) rfl ?_
  refine aw_iadd C (by decide +kernel) rfl ?_
  refine aw_sld C X (lw_in 2 h0 h6 hL (by decide)) (by decide +kernel) rfl ?_
  refine aw_callV C (rest := [.int q1.1]) (c_m_scraps E (xs (i + (1 : Int32)).toNatClampNeg) (xs (i + (2 : Int32)).toNatClampNeg) _ q2 e2) tb_1491 yf_230 yi_230 (la_58 E) [.int (xs (i + (1 : Int32)).toNatClampNeg), .int (xs (i + (2 : Int32)).toNatClampNeg)] rfl rfl _ rfl (Nat.le_trans (by decide) hgd) (Nat.le_of_ble_eq_true rfl) (by decide +kernel) rfl ?_
  show AW _ _ _ _ [.int q2.1, .int q1.1]
  refine aw_icmp_eq C (tgt := 1116) (off := 320) (by decide +kernel) (by decide) rfl (fun _ => kk _ hI2) (fun h => absurd e3 h)
theorem lw_c19 {G : Cx} (C : CX G code "PaperStarsLaw") (E : LAin (gly G)) (hgd : 60 ≤ gd G) {Inv : Mm → Prop} (HP : PureOK Inv) {b L : Nat} {xs : Nat → Int32} (X : SX G b L xs) (hL : L ≤ 3072) {i : Int32} (h0 : 0 ≤ i.toInt) (h6 : i.toInt + 6 ≤ (L : Int)) (st : Mm) (hI : Inv st) (kk : ∀ st2, Inv st2 → AW G st2 1116 [(0, .ref b), (1, .ref (gad G 0)), (2, .ref (gad G 58)), (3, .int i)] []) : AW G st 801 [(0, .ref b), (1, .ref (gad G 0)), (2, .ref (gad G 58)), (3, .int i)] [] := by
  refine aw_aload_n C 1 1 (j := 1) rfl rfl (by decide +kernel) rfl ?_
  refine aw_aload_n C 0 0 (j := 0) rfl rfl (by decide +kernel) rfl ?_
  refine aw_iload_n C 3 3 (j := 3) rfl rfl (by decide +kernel) rfl ?_
  refine aw_iconst C (i0 := 1) (v := 1) (by decide) (by decide +kernel) rfl ?_
  refine aw_iadd C (by decide +kernel) rfl ?_
  refine aw_sld C X (lw_in 1 h0 h6 hL (by decide)) (by decide +kernel) rfl ?_
  refine aw_aload_n C 0 0 (j := 0) rfl rfl (by decide +kernel) rfl ?_
  refine aw_iload_n C 3 3 (j := 3) rfl rfl (by decide +kernel) rfl ?_
  refine aw_iconst C (i0 := 2) (v := 2) (by decide) (by decide +kernel) rfl ?_
  refine aw_iadd C (by decide +kernel) rfl ?_
  refine aw_sld C X (lw_in 2 h0 h6 hL (by decide)) (by decide +kernel) rfl ?_
  obtain ⟨q1, q2, e1, e2, e3, hI2⟩ := (HP.2.2.2.2.2.2.2.2.2.2.2.2.2.2.2.2.2.2.2.1 (xs (i + (1 : Int32)).toNatClampNeg) (xs (i + (2 : Int32)).toNatClampNeg)) st hI
  refine aw_callV C (rest := []) (c_x_alike (la_lc E) (xs (i + (1 : Int32)).toNatClampNeg) (xs (i + (2 : Int32)).toNatClampNeg) _ q1 e1) tb_849 yf_119 yi_119 (lc_0 (la_lc E)) [.int (xs (i + (1 : Int32)).toNatClampNeg), .int (xs (i + (2 : Int32)).toNatClampNeg)] rfl rfl _ rfl (Nat.le_trans (by decide) hgd) (Nat.le_of_ble_eq_true rfl) (by decide +kernel) rfl ?_
  show AW _ _ _ _ [.long q1.1]
  refine aw_aload_n C 2 2 (j := 2) rfl rfl (by decide +kernel) rfl ?_
  refine aw_aload_n C 0 0 (j := 0) rfl rfl (by decide +kernel) rfl ?_
  refine aw_iload_n C 3 3 (j := 3) rfl rfl (by decide +kernel) rfl ?_
  refine aw_iconst C (i0 := 1) (v := 1) (by decide) (by decide +kernel) rfl ?_
  refine aw_iadd C (by decide +kernel) rfl ?_
  refine aw_sld C X (lw_in 1 h0 h6 hL (by decide)) (by decide +kernel) rfl ?_
  refine aw_aload_n C 0 0 (j := 0) rfl rfl (by decide +kernel) rfl ?_
  refine aw_iload_n C 3 3 (j := 3) rfl rfl (by decide +kernel) rfl ?_
  refine aw_iconst C (i0 := 2) (v := 2) (by decide) (by decide +kernel) rfl ?_
  refine aw_iadd C (by decide +kernel) rfl ?_
  refine aw_sld C X (lw_in 2 h0 h6 hL (by decide)) (by decide +kernel) rfl ?_
  refine aw_callV C (rest := [.long q1.1]) (c_m_alike E (xs (i + (1 : Int32)).toNatClampNeg) (xs (i + (2 : Int32)).toNatClampNeg) _ q2 e2) tb_1495 yf_231 yi_231 (la_58 E) [.int (xs (i + (1 : Int32)).toNatClampNeg), .int (xs (i + (2 : Int32)).toNatClampNeg)] rfl rfl _ rfl (Nat.le_trans (by decide) hgd) (Nat.le_of_ble_eq_true rfl) (by decide +kernel) rfl ?_
  show AW _ _ _ _ [.long q2.1, .long q1.1]
  refine aw_lcmp C (by decide +kernel) rfl ?_
  refine aw_if_eq C (tgt := 1116) (off := 286) (by decide +kernel) (by decide) rfl (fun _ => kk _ hI2) (fun h => absurd (lg_same e3) h)
theorem lw_c20 {G : Cx} (C : CX G code "PaperStarsLaw") (E : LAin (gly G)) (hgd : 60 ≤ gd G) {Inv : Mm → Prop} (HP : PureOK Inv) {b L : Nat} {xs : Nat → Int32} (X : SX G b L xs) (hL : L ≤ 3072) {i : Int32} (h0 : 0 ≤ i.toInt) (h6 : i.toInt + 6 ≤ (L : Int)) (st : Mm) (hI : Inv st) (kk : ∀ st2, Inv st2 → AW G st2 1116 [(0, .ref b), (1, .ref (gad G 0)), (2, .ref (gad G 58)), (3, .int i)] []) : AW G st 835 [(0, .ref b), (1, .ref (gad G 0)), (2, .ref (gad G 58)), (3, .int i)] [] := by
  refine aw_aload_n C 1 1 (j := 1) rfl rfl (by decide +kernel) rfl ?_
  refine aw_aload_n C 0 0 (j := 0) rfl rfl (by decide +kernel) rfl ?_
  refine aw_iload_n C 3 3 (j := 3) rfl rfl (by decide +kernel) rfl ?_
  refine aw_iconst C (i0 := 1) (v := 1) (by decide) (by decide +kernel) rfl ?_
  refine aw_iadd C (by decide +kernel) rfl ?_
  refine aw_sld C X (lw_in 1 h0 h6 hL (by decide)) (by decide +kernel) rfl ?_
  refine aw_aload_n C 0 0 (j := 0) rfl rfl (by decide +kernel) rfl ?_
  refine aw_iload_n C 3 3 (j := 3) rfl rfl (by decide +kernel) rfl ?_
  refine aw_iconst C (i0 := 2) (v := 2) (by decide) (by decide +kernel) rfl ?_
  refine aw_iadd C (by decide +kernel) rfl ?_
  refine aw_sld C X (lw_in 2 h0 h6 hL (by decide)) (by decide +kernel) rfl ?_
  refine aw_aload_n C 0 0 (j := 0) rfl rfl (by decide +kernel) rfl ?_
  refine aw_iload_n C 3 3 (j := 3) rfl rfl (by decide +kernel) rfl ?_
  refine aw_iconst C (i0 := 3) (v := 3) (by decide) (by decide +kernel) rfl ?_
  refine aw_iadd C (by decide +kernel) rfl ?_
  refine aw_sld C X (lw_in 3 h0 h6 hL (by decide)) (by decide +kernel) rfl ?_
  obtain ⟨q1, q2, e1, e2, e3, hI2⟩ := (HP.2.2.2.2.2.2.2.2.2.2.2.2.2.2.2.2.2.2.2.2.1 (xs (i + (1 : Int32)).toNatClampNeg) (xs (i + (2 : Int32)).toNatClampNeg) (xs (i + (3 : Int32)).toNatClampNeg)) st hI
  refine aw_callV C (rest := []) (c_x_strips (la_lc E) (xs (i + (1 : Int32)).toNatClampNeg) (xs (i + (2 : Int32)).toNatClampNeg) (xs (i + (3 : Int32)).toNatClampNeg) _ q1 e1) tb_862 yf_122 yi_122 (lc_0 (la_lc E)) [.int (xs (i + (1 : Int32)).toNatClampNeg), .int (xs (i + (2 : Int32)).toNatClampNeg), .int (xs (i + (3 : Int32)).toNatClampNeg)] rfl rfl _ rfl (Nat.le_trans (by decide) hgd) (Nat.le_of_ble_eq_true rfl) (by decide +kernel) rfl ?_
  show AW _ _ _ _ [.int q1.1]
  refine aw_aload_n C 2 2 (j := 2) rfl rfl (by decide +kernel) rfl ?_
  refine aw_aload_n C 0 0 (j := 0) rfl rfl (by decide +kernel) rfl ?_
  refine aw_iload_n C 3 3 (j := 3) rfl rfl (by decide +kernel) rfl ?_
  refine aw_iconst C (i0 := 1) (v := 1) (by decide) (by decide +kernel) rfl ?_
  refine aw_iadd C (by decide +kernel) rfl ?_
  refine aw_sld C X (lw_in 1 h0 h6 hL (by decide)) (by decide +kernel) rfl ?_
  refine aw_aload_n C 0 0 (j := 0) rfl rfl (by decide +kernel) rfl ?_
  refine aw_iload_n C 3 3 (j := 3) rfl rfl (by decide +kernel) rfl ?_
  refine aw_iconst C (i0 := 2) (v := 2) (by decide) (by decide +kernel) rfl ?_
  refine aw_iadd C (by decide +kernel) rfl ?_
  refine aw_sld C X (lw_in 2 h0 h6 hL (by decide)) (by decide +kernel) rfl ?_
  refine aw_aload_n C 0 0 (j := 0) rfl rfl (by decide +kernel) rfl ?_
  refine aw_iload_n C 3 3 (j := 3) rfl rfl (by decide +kernel) rfl ?_
  refine aw_iconst C (i0 := 3) (v := 3) (by decide) (by decide +kernel) rfl ?_
  refine aw_iadd C (by decide +kernel) rfl ?_
  refine aw_sld C X (lw_in 3 h0 h6 hL (by decide)) (by decide +kernel) rfl ?_
  refine aw_callV C (rest := [.int q1.1]) (c_m_strips E (xs (i + (1 : Int32)).toNatClampNeg) (xs (i + (2 : Int32)).toNatClampNeg) (xs (i + (3 : Int32)).toNatClampNeg) _ q2 e2) tb_1507 yf_234 yi_234 (la_58 E) [.int (xs (i + (1 : Int32)).toNatClampNeg), .int (xs (i + (2 : Int32)).toNatClampNeg), .int (xs (i + (3 : Int32)).toNatClampNeg)] rfl rfl _ rfl (Nat.le_trans (by decide) hgd) (Nat.le_of_ble_eq_true rfl) (by decide +kernel) rfl ?_
  show AW _ _ _ _ [.int q2.1, .int q1.1]
  refine aw_icmp_eq C (tgt := 1116) (off := 243) (by decide +kernel) (by decide) rfl (fun _ => kk _ hI2) (fun h => absurd e3 h)
theorem lw_c21 {G : Cx} (C : CX G code "PaperStarsLaw") (E : LAin (gly G)) (hgd : 60 ≤ gd G) {Inv : Mm → Prop} (HP : PureOK Inv) {b L : Nat} {xs : Nat → Int32} (X : SX G b L xs) (hL : L ≤ 3072) {i : Int32} (h0 : 0 ≤ i.toInt) (h6 : i.toInt + 6 ≤ (L : Int)) (st : Mm) (hI : Inv st) (kk : ∀ st2, Inv st2 → AW G st2 1116 [(0, .ref b), (1, .ref (gad G 0)), (2, .ref (gad G 58)), (3, .int i)] []) : AW G st 878 [(0, .ref b), (1, .ref (gad G 0)), (2, .ref (gad G 58)), (3, .int i)] [] := by
  refine aw_aload_n C 1 1 (j := 1) rfl rfl (by decide +kernel) rfl ?_
  refine aw_aload_n C 0 0 (j := 0) rfl rfl (by decide +kernel) rfl ?_
  refine aw_iload_n C 3 3 (j := 3) rfl rfl (by decide +kernel) rfl ?_
  refine aw_iconst C (i0 := 1) (v := 1) (by decide) (by decide +kernel) rfl ?_
  refine aw_iadd C (by decide +kernel) rfl ?_
  refine aw_sld C X (lw_in 1 h0 h6 hL (by decide)) (by decide +kernel) rfl ?_
  refine aw_aload_n C 0 0 (j := 0) rfl rfl (by decide +kernel) rfl ?_
  refine aw_iload_n C 3 3 (j := 3) rfl rfl (by decide +kernel) rfl ?_
  refine aw_iconst C (i0 := 2) (v := 2) (by decide) (by decide +kernel) rfl ?_
  refine aw_iadd C (by decide +kernel) rfl ?_
  refine aw_sld C X (lw_in 2 h0 h6 hL (by decide)) (by decide +kernel) rfl ?_
  refine aw_aload_n C 0 0 (j := 0) rfl rfl (by decide +kernel) rfl ?_
  refine aw_iload_n C 3 3 (j := 3) rfl rfl (by decide +kernel) rfl ?_
  refine aw_iconst C (i0 := 3) (v := 3) (by decide) (by decide +kernel) rfl ?_
  refine aw_iadd C (by decide +kernel) rfl ?_
  refine aw_sld C X (lw_in 3 h0 h6 hL (by decide)) (by decide +kernel) rfl ?_
  obtain ⟨q1, q2, e1, e2, e3, hI2⟩ := (HP.2.2.2.2.2.2.2.2.2.2.2.2.2.2.2.2.2.2.2.2.2.1 (xs (i + (1 : Int32)).toNatClampNeg) (xs (i + (2 : Int32)).toNatClampNeg) (xs (i + (3 : Int32)).toNatClampNeg)) st hI
  refine aw_callV C (rest := []) (c_x_slipped (la_lc E) (xs (i + (1 : Int32)).toNatClampNeg) (xs (i + (2 : Int32)).toNatClampNeg) (xs (i + (3 : Int32)).toNatClampNeg) _ q1 e1) tb_876 yf_125 yi_125 (lc_0 (la_lc E)) [.int (xs (i + (1 : Int32)).toNatClampNeg), .int (xs (i + (2 : Int32)).toNatClampNeg), .int (xs (i + (3 : Int32)).toNatClampNeg)] rfl rfl _ rfl (Nat.le_trans (by decide) hgd) (Nat.le_of_ble_eq_true rfl) (by decide +kernel) rfl ?_
  show AW _ _ _ _ [.int q1.1]
  refine aw_aload_n C 2 2 (j := 2) rfl rfl (by decide +kernel) rfl ?_
  refine aw_aload_n C 0 0 (j := 0) rfl rfl (by decide +kernel) rfl ?_
  refine aw_iload_n C 3 3 (j := 3) rfl rfl (by decide +kernel) rfl ?_
  refine aw_iconst C (i0 := 1) (v := 1) (by decide) (by decide +kernel) rfl ?_
  refine aw_iadd C (by decide +kernel) rfl ?_
  refine aw_sld C X (lw_in 1 h0 h6 hL (by decide)) (by decide +kernel) rfl ?_
  refine aw_aload_n C 0 0 (j := 0) rfl rfl (by decide +kernel) rfl ?_
  refine aw_iload_n C 3 3 (j := 3) rfl rfl (by decide +kernel) rfl ?_
  refine aw_iconst C (i0 := 2) (v := 2) (by decide) (by decide +kernel) rfl ?_
  refine aw_iadd C (by decide +kernel) rfl ?_
  refine aw_sld C X (lw_in 2 h0 h6 hL (by decide)) (by decide +kernel) rfl ?_
  refine aw_aload_n C 0 0 (j := 0) rfl rfl (by decide +kernel) rfl ?_
  refine aw_iload_n C 3 3 (j := 3) rfl rfl (by decide +kernel) rfl ?_
  refine aw_iconst C (i0 := 3) (v := 3) (by decide) (by decide +kernel) rfl ?_
  refine aw_iadd C (by decide +kernel) rfl ?_
  refine aw_sld C X (lw_in 3 h0 h6 hL (by decide)) (by decide +kernel) rfl ?_
  refine aw_callV C (rest := [.int q1.1]) (c_m_slipped E (xs (i + (1 : Int32)).toNatClampNeg) (xs (i + (2 : Int32)).toNatClampNeg) (xs (i + (3 : Int32)).toNatClampNeg) _ q2 e2) tb_1515 yf_236 yi_236 (la_58 E) [.int (xs (i + (1 : Int32)).toNatClampNeg), .int (xs (i + (2 : Int32)).toNatClampNeg), .int (xs (i + (3 : Int32)).toNatClampNeg)] rfl rfl _ rfl (Nat.le_trans (by decide) hgd) (Nat.le_of_ble_eq_true rfl) (by decide +kernel) rfl ?_
  show AW _ _ _ _ [.int q2.1, .int q1.1]
  refine aw_icmp_eq C (tgt := 1116) (off := 200) (by decide +kernel) (by decide) rfl (fun _ => kk _ hI2) (fun h => absurd e3 h)
theorem lw_c22 {G : Cx} (C : CX G code "PaperStarsLaw") (E : LAin (gly G)) (hgd : 60 ≤ gd G) {Inv : Mm → Prop} (HP : PureOK Inv) {b L : Nat} {xs : Nat → Int32} (X : SX G b L xs) (hL : L ≤ 3072) {i : Int32} (h0 : 0 ≤ i.toInt) (h6 : i.toInt + 6 ≤ (L : Int)) (st : Mm) (hI : Inv st) (kk : ∀ st2, Inv st2 → AW G st2 1116 [(0, .ref b), (1, .ref (gad G 0)), (2, .ref (gad G 58)), (3, .int i)] []) : AW G st 921 [(0, .ref b), (1, .ref (gad G 0)), (2, .ref (gad G 58)), (3, .int i)] [] := by
  refine aw_aload_n C 1 1 (j := 1) rfl rfl (by decide +kernel) rfl ?_
  refine aw_aload_n C 0 0 (j := 0) rfl rfl (by decide +kernel) rfl ?_
  refine aw_iload_n C 3 3 (j := 3) rfl rfl (by decide +kernel) rfl ?_
  refine aw_iconst C (i0 := 1) (v := 1) (by decide) (by decide +kernel) rfl ?_
  refine aw_iadd C (by decide +kernel) rfl ?_
  refine aw_sld C X (lw_in 1 h0 h6 hL (by decide)) (by decide +kernel) rfl ?_
  obtain ⟨q1, q2, e1, e2, e3, hI2⟩ := (HP.2.2.2.2.2.2.2.2.2.2.2.2.2.2.2.2.2.2.2.2.2.2.1 (xs (i + (1 : Int32)).toNatClampNeg)) st hI
  refine aw_callV C (rest := []) (c_x_spoilt (la_lc E) (xs (i + (1 : Int32)).toNatClampNeg) _ q1 e1) tb_884 yf_127 yi_127 (lc_0 (la_lc E)) [.int (xs (i + (1 : Int32)).toNatClampNeg)] rfl rfl _ rfl (Nat.le_trans (by decide) hgd) (Nat.le_of_ble_eq_true rfl) (by decide +kernel) rfl ?_
  show AW _ _ _ _ [.int q1.1]
  refine aw_aload_n C 2 2 (j := 2) rfl rfl (by decide +kernel) rfl ?_
  refine aw_aload_n C 0 0 (j := 0) rfl rfl (by decide +kernel) rfl ?_
  refine aw_iload_n C 3 3 (j := 3) rfl rfl (by decide +kernel) rfl ?_
  refine aw_iconst C (i0 := 1) (v := 1) (by decide) (by decide +kernel) rfl ?_
  refine aw_iadd C (by decide +kernel) rfl ?_
  refine aw_sld C X (lw_in 1 h0 h6 hL (by decide)) (by decide +kernel) rfl ?_
  refine aw_callV C (rest := [.int q1.1]) (c_m_spoilt E (xs (i + (1 : Int32)).toNatClampNeg) _ q2 e2) tb_1523 yf_238 yi_238 (la_58 E) [.int (xs (i + (1 : Int32)).toNatClampNeg)] rfl rfl _ rfl (Nat.le_trans (by decide) hgd) (Nat.le_of_ble_eq_true rfl) (by decide +kernel) rfl ?_
  show AW _ _ _ _ [.int q2.1, .int q1.1]
  refine aw_icmp_eq C (tgt := 1116) (off := 177) (by decide +kernel) (by decide) rfl (fun _ => kk _ hI2) (fun h => absurd e3 h)
theorem lw_c23 {G : Cx} (C : CX G code "PaperStarsLaw") (E : LAin (gly G)) (hgd : 60 ≤ gd G) {Inv : Mm → Prop} (HP : PureOK Inv) {b L : Nat} {xs : Nat → Int32} (X : SX G b L xs) (hL : L ≤ 3072) {i : Int32} (h0 : 0 ≤ i.toInt) (h6 : i.toInt + 6 ≤ (L : Int)) (st : Mm) (hI : Inv st) (kk : ∀ st2, Inv st2 → AW G st2 1116 [(0, .ref b), (1, .ref (gad G 0)), (2, .ref (gad G 58)), (3, .int i)] []) : AW G st 944 [(0, .ref b), (1, .ref (gad G 0)), (2, .ref (gad G 58)), (3, .int i)] [] := by
  refine aw_aload_n C 1 1 (j := 1) rfl rfl (by decide +kernel) rfl ?_
  refine aw_aload_n C 0 0 (j := 0) rfl rfl (by decide +kernel) rfl ?_
  refine aw_iload_n C 3 3 (j := 3) rfl rfl (by decide +kernel) rfl ?_
  refine aw_iconst C (i0 := 1) (v := 1) (by decide) (by decide +kernel) rfl ?_
  refine aw_iadd C (by decide +kernel) rfl ?_
  refine aw_sld C X (lw_in 1 h0 h6 hL (by decide)) (by decide +kernel) rfl ?_
  refine aw_aload_n C 0 0 (j := 0) rfl rfl (by decide +kernel) rfl ?_
  refine aw_iload_n C 3 3 (j := 3) rfl rfl (by decide +kernel) rfl ?_
  refine aw_iconst C (i0 := 2) (v := 2) (by decide) (by decide +kernel) rfl ?_
  refine aw_iadd C (by decide +kernel) rfl ?_
  refine aw_sld C X (lw_in 2 h0 h6 hL (by decide)) (by decide +kernel) rfl ?_
  refine aw_aload_n C 0 0 (j := 0) rfl rfl (by decide +kernel) rfl ?_
  refine aw_iload_n C 3 3 (j := 3) rfl rfl (by decide +kernel) rfl ?_
  refine aw_iconst C (i0 := 3) (v := 3) (by decide) (by decide +kernel) rfl ?_
  refine aw_iadd C (by decide +kernel) rfl ?_
  refine aw_sld C X (lw_in 3 h0 h6 hL (by decide)) (by decide +kernel) rfl ?_
  obtain ⟨q1, q2, e1, e2, e3, hI2⟩ := (HP.2.2.2.2.2.2.2.2.2.2.2.2.2.2.2.2.2.2.2.2.2.2.2.1 (xs (i + (1 : Int32)).toNatClampNeg) (xs (i + (2 : Int32)).toNatClampNeg) (xs (i + (3 : Int32)).toNatClampNeg)) st hI
  refine aw_callV C (rest := []) (c_x_odds (la_lc E) (xs (i + (1 : Int32)).toNatClampNeg) (xs (i + (2 : Int32)).toNatClampNeg) (xs (i + (3 : Int32)).toNatClampNeg) _ q1 e1) tb_888 yf_128 yi_128 (lc_0 (la_lc E)) [.int (xs (i + (1 : Int32)).toNatClampNeg), .int (xs (i + (2 : Int32)).toNatClampNeg), .int (xs (i + (3 : Int32)).toNatClampNeg)] rfl rfl _ rfl (Nat.le_trans (by decide) hgd) (Nat.le_of_ble_eq_true rfl) (by decide +kernel) rfl ?_
  show AW _ _ _ _ [.long q1.1]
  refine aw_aload_n C 2 2 (j := 2) rfl rfl (by decide +kernel) rfl ?_
  refine aw_aload_n C 0 0 (j := 0) rfl rfl (by decide +kernel) rfl ?_
  refine aw_iload_n C 3 3 (j := 3) rfl rfl (by decide +kernel) rfl ?_
  refine aw_iconst C (i0 := 1) (v := 1) (by decide) (by decide +kernel) rfl ?_
  refine aw_iadd C (by decide +kernel) rfl ?_
  refine aw_sld C X (lw_in 1 h0 h6 hL (by decide)) (by decide +kernel) rfl ?_
  refine aw_aload_n C 0 0 (j := 0) rfl rfl (by decide +kernel) rfl ?_
  refine aw_iload_n C 3 3 (j := 3) rfl rfl (by decide +kernel) rfl ?_
  refine aw_iconst C (i0 := 2) (v := 2) (by decide) (by decide +kernel) rfl ?_
  refine aw_iadd C (by decide +kernel) rfl ?_
  refine aw_sld C X (lw_in 2 h0 h6 hL (by decide)) (by decide +kernel) rfl ?_
  refine aw_aload_n C 0 0 (j := 0) rfl rfl (by decide +kernel) rfl ?_
  refine aw_iload_n C 3 3 (j := 3) rfl rfl (by decide +kernel) rfl ?_
  refine aw_iconst C (i0 := 3) (v := 3) (by decide) (by decide +kernel) rfl ?_
  refine aw_iadd C (by decide +kernel) rfl ?_
  refine aw_sld C X (lw_in 3 h0 h6 hL (by decide)) (by decide +kernel) rfl ?_
  refine aw_callV C (rest := [.long q1.1]) (c_m_odds E (xs (i + (1 : Int32)).toNatClampNeg) (xs (i + (2 : Int32)).toNatClampNeg) (xs (i + (3 : Int32)).toNatClampNeg) _ q2 e2) tb_1527 yf_239 yi_239 (la_58 E) [.int (xs (i + (1 : Int32)).toNatClampNeg), .int (xs (i + (2 : Int32)).toNatClampNeg), .int (xs (i + (3 : Int32)).toNatClampNeg)] rfl rfl _ rfl (Nat.le_trans (by decide) hgd) (Nat.le_of_ble_eq_true rfl) (by decide +kernel) rfl ?_
  show AW _ _ _ _ [.long q2.1, .long q1.1]
  refine aw_lcmp C (by decide +kernel) rfl ?_
  refine aw_if_eq C (tgt := 1116) (off := 133) (by decide +kernel) (by decide) rfl (fun _ => kk _ hI2) (fun h => absurd (lg_same e3) h)
theorem lw_c24 {G : Cx} (C : CX G code "PaperStarsLaw") (E : LAin (gly G)) (hgd : 60 ≤ gd G) {Inv : Mm → Prop} (HP : PureOK Inv) {b L : Nat} {xs : Nat → Int32} (X : SX G b L xs) (hL : L ≤ 3072) {i : Int32} (h0 : 0 ≤ i.toInt) (h6 : i.toInt + 6 ≤ (L : Int)) (st : Mm) (hI : Inv st) (kk : ∀ st2, Inv st2 → AW G st2 1116 [(0, .ref b), (1, .ref (gad G 0)), (2, .ref (gad G 58)), (3, .int i)] []) : AW G st 988 [(0, .ref b), (1, .ref (gad G 0)), (2, .ref (gad G 58)), (3, .int i)] [] := by
  refine aw_aload_n C 1 1 (j := 1) rfl rfl (by decide +kernel) rfl ?_
  refine aw_aload_n C 0 0 (j := 0) rfl rfl (by decide +kernel) rfl ?_
  refine aw_iload_n C 3 3 (j := 3) rfl rfl (by decide +kernel) rfl ?_
  refine aw_iconst C (i0 := 1) (v := 1) (by decide) (by decide +kernel) rfl ?_
  refine aw_iadd C (by decide +kernel) rfl ?_
  refine aw_sld C X (lw_in 1 h0 h6 hL (by decide)) (by decide +kernel) rfl ?_
  obtain ⟨q1, q2, e1, e2, e3, hI2⟩ := (HP.2.2.2.2.2.2.2.2.2.2.2.2.2.2.2.2.2.2.2.2.2.2.2.2.1 (xs (i + (1 : Int32)).toNatClampNeg)) st hI
  refine aw_callV C (rest := []) (c_x_seed (la_lc E) (xs (i + (1 : Int32)).toNatClampNeg) _ q1 e1) tb_898 yf_131 yi_131 (lc_0 (la_lc E)) [.int (xs (i + (1 : Int32)).toNatClampNeg)] rfl rfl _ rfl (Nat.le_trans (by decide) hgd) (Nat.le_of_ble_eq_true rfl) (by decide +kernel) rfl ?_
  show AW _ _ _ _ [.int q1.1]
  refine aw_aload_n C 2 2 (j := 2) rfl rfl (by decide +kernel) rfl ?_
  refine aw_aload_n C 0 0 (j := 0) rfl rfl (by decide +kernel) rfl ?_
  refine aw_iload_n C 3 3 (j := 3) rfl rfl (by decide +kernel) rfl ?_
  refine aw_iconst C (i0 := 1) (v := 1) (by decide) (by decide +kernel) rfl ?_
  refine aw_iadd C (by decide +kernel) rfl ?_
  refine aw_sld C X (lw_in 1 h0 h6 hL (by decide)) (by decide +kernel) rfl ?_
  refine aw_callV C (rest := [.int q1.1]) (c_m_seed E (xs (i + (1 : Int32)).toNatClampNeg) _ q2 e2) tb_1535 yf_241 yi_241 (la_58 E) [.int (xs (i + (1 : Int32)).toNatClampNeg)] rfl rfl _ rfl (Nat.le_trans (by decide) hgd) (Nat.le_of_ble_eq_true rfl) (by decide +kernel) rfl ?_
  show AW _ _ _ _ [.int q2.1, .int q1.1]
  refine aw_icmp_eq C (tgt := 1116) (off := 110) (by decide +kernel) (by decide) rfl (fun _ => kk _ hI2) (fun h => absurd e3 h)
theorem lw_c25 {G : Cx} (C : CX G code "PaperStarsLaw") (E : LAin (gly G)) (hgd : 60 ≤ gd G) {Inv : Mm → Prop} (HP : PureOK Inv) {b L : Nat} {xs : Nat → Int32} (X : SX G b L xs) (hL : L ≤ 3072) {i : Int32} (h0 : 0 ≤ i.toInt) (h6 : i.toInt + 6 ≤ (L : Int)) (st : Mm) (hI : Inv st) (kk : ∀ st2, Inv st2 → AW G st2 1116 [(0, .ref b), (1, .ref (gad G 0)), (2, .ref (gad G 58)), (3, .int i)] []) : AW G st 1011 [(0, .ref b), (1, .ref (gad G 0)), (2, .ref (gad G 58)), (3, .int i)] [] := by
  refine aw_aload_n C 1 1 (j := 1) rfl rfl (by decide +kernel) rfl ?_
  refine aw_aload_n C 0 0 (j := 0) rfl rfl (by decide +kernel) rfl ?_
  refine aw_iload_n C 3 3 (j := 3) rfl rfl (by decide +kernel) rfl ?_
  refine aw_iconst C (i0 := 1) (v := 1) (by decide) (by decide +kernel) rfl ?_
  refine aw_iadd C (by decide +kernel) rfl ?_
  refine aw_sld C X (lw_in 1 h0 h6 hL (by decide)) (by decide +kernel) rfl ?_
  obtain ⟨q1, q2, e1, e2, e3, hI2⟩ := (HP.2.2.2.2.2.2.2.2.2.2.2.2.2.2.2.2.2.2.2.2.2.2.2.2.2.1 (xs (i + (1 : Int32)).toNatClampNeg)) st hI
  refine aw_callV C (rest := []) (c_x_draw (la_lc E) (xs (i + (1 : Int32)).toNatClampNeg) _ q1 e1) tb_903 yf_132 yi_132 (lc_0 (la_lc E)) [.int (xs (i + (1 : Int32)).toNatClampNeg)] rfl rfl _ rfl (Nat.le_trans (by decide) hgd) (Nat.le_of_ble_eq_true rfl) (by decide +kernel) rfl ?_
  show AW _ _ _ _ [.int q1.1]
  refine aw_aload_n C 2 2 (j := 2) rfl rfl (by decide +kernel) rfl ?_
  refine aw_aload_n C 0 0 (j := 0) rfl rfl (by decide +kernel) rfl ?_
  refine aw_iload_n C 3 3 (j := 3) rfl rfl (by decide +kernel) rfl ?_
  refine aw_iconst C (i0 := 1) (v := 1) (by decide) (by decide +kernel) rfl ?_
  refine aw_iadd C (by decide +kernel) rfl ?_
  refine aw_sld C X (lw_in 1 h0 h6 hL (by decide)) (by decide +kernel) rfl ?_
  refine aw_callV C (rest := [.int q1.1]) (c_m_draw E (xs (i + (1 : Int32)).toNatClampNeg) _ q2 e2) tb_1540 yf_242 yi_242 (la_58 E) [.int (xs (i + (1 : Int32)).toNatClampNeg)] rfl rfl _ rfl (Nat.le_trans (by decide) hgd) (Nat.le_of_ble_eq_true rfl) (by decide +kernel) rfl ?_
  show AW _ _ _ _ [.int q2.1, .int q1.1]
  refine aw_icmp_eq C (tgt := 1116) (off := 87) (by decide +kernel) (by decide) rfl (fun _ => kk _ hI2) (fun h => absurd e3 h)
theorem lw_c26 {G : Cx} (C : CX G code "PaperStarsLaw") (E : LAin (gly G)) (hgd : 60 ≤ gd G) {Inv : Mm → Prop} (HP : PureOK Inv) {b L : Nat} {xs : Nat → Int32} (X : SX G b L xs) (hL : L ≤ 3072) {i : Int32} (h0 : 0 ≤ i.toInt) (h6 : i.toInt + 6 ≤ (L : Int)) (st : Mm) (hI : Inv st) (kk : ∀ st2, Inv st2 → AW G st2 1116 [(0, .ref b), (1, .ref (gad G 0)), (2, .ref (gad G 58)), (3, .int i)] []) : AW G st 1034 [(0, .ref b), (1, .ref (gad G 0)), (2, .ref (gad G 58)), (3, .int i)] [] := by
  refine aw_aload_n C 1 1 (j := 1) rfl rfl (by decide +kernel) rfl ?_
  obtain ⟨q1, q2, e1, e2, e3, hI2⟩ := HP.2.2.2.2.2.2.2.2.2.2.2.2.2.2.2.2.2.2.2.2.2.2.2.2.2.2.1 st hI
  refine aw_callV C (rest := []) (c_x_keep (la_lc E) _ q1 e1) tb_907 yf_133 yi_133 (lc_0 (la_lc E)) [] rfl rfl _ rfl (Nat.le_trans (by decide) hgd) (Nat.le_of_ble_eq_true rfl) (by decide +kernel) rfl ?_
  show AW _ _ _ _ [.int q1.1]
  refine aw_aload_n C 2 2 (j := 2) rfl rfl (by decide +kernel) rfl ?_
  refine aw_callV C (rest := [.int q1.1]) (c_m_keep E _ q2 e2) tb_1545 yf_243 yi_243 (la_58 E) [] rfl rfl _ rfl (Nat.le_trans (by decide) hgd) (Nat.le_of_ble_eq_true rfl) (by decide +kernel) rfl ?_
  show AW _ _ _ _ [.int q2.1, .int q1.1]
  refine aw_icmp_eq C (tgt := 1116) (off := 74) (by decide +kernel) (by decide) rfl (fun _ => kk _ hI2) (fun h => absurd e3 h)
theorem lw_c27 {G : Cx} (C : CX G code "PaperStarsLaw") (E : LAin (gly G)) (hgd : 60 ≤ gd G) {Inv : Mm → Prop} (HP : PureOK Inv) {b L : Nat} {xs : Nat → Int32} (X : SX G b L xs) (hL : L ≤ 3072) {i : Int32} (h0 : 0 ≤ i.toInt) (h6 : i.toInt + 6 ≤ (L : Int)) (st : Mm) (hI : Inv st) (kk : ∀ st2, Inv st2 → AW G st2 1116 [(0, .ref b), (1, .ref (gad G 0)), (2, .ref (gad G 58)), (3, .int i)] []) : AW G st 1047 [(0, .ref b), (1, .ref (gad G 0)), (2, .ref (gad G 58)), (3, .int i)] [] := by
  refine aw_aload_n C 1 1 (j := 1) rfl rfl (by decide +kernel) rfl ?_
  obtain ⟨q1, q2, e1, e2, e3, hI2⟩ := HP.2.2.2.2.2.2.2.2.2.2.2.2.2.2.2.2.2.2.2.2.2.2.2.2.2.2.2.1 st hI
  refine aw_callV C (rest := []) (c_x_undo (la_lc E) _ q1 e1) tb_916 yf_135 yi_135 (lc_0 (la_lc E)) [] rfl rfl _ rfl (Nat.le_trans (by decide) hgd) (Nat.le_of_ble_eq_true rfl) (by decide +kernel) rfl ?_
  show AW _ _ _ _ [.int q1.1]
  refine aw_aload_n C 2 2 (j := 2) rfl rfl (by decide +kernel) rfl ?_
  refine aw_callV C (rest := [.int q1.1]) (c_m_undo E _ q2 e2) tb_1549 yf_244 yi_244 (la_58 E) [] rfl rfl _ rfl (Nat.le_trans (by decide) hgd) (Nat.le_of_ble_eq_true rfl) (by decide +kernel) rfl ?_
  show AW _ _ _ _ [.int q2.1, .int q1.1]
  refine aw_icmp_eq C (tgt := 1116) (off := 61) (by decide +kernel) (by decide) rfl (fun _ => kk _ hI2) (fun h => absurd e3 h)
theorem lw_c28 {G : Cx} (C : CX G code "PaperStarsLaw") (E : LAin (gly G)) (hgd : 60 ≤ gd G) {Inv : Mm → Prop} (HP : PureOK Inv) {b L : Nat} {xs : Nat → Int32} (X : SX G b L xs) (hL : L ≤ 3072) {i : Int32} (h0 : 0 ≤ i.toInt) (h6 : i.toInt + 6 ≤ (L : Int)) (st : Mm) (hI : Inv st) (kk : ∀ st2, Inv st2 → AW G st2 1116 [(0, .ref b), (1, .ref (gad G 0)), (2, .ref (gad G 58)), (3, .int i)] []) : AW G st 1060 [(0, .ref b), (1, .ref (gad G 0)), (2, .ref (gad G 58)), (3, .int i)] [] := by
  refine aw_aload_n C 1 1 (j := 1) rfl rfl (by decide +kernel) rfl ?_
  refine aw_aload_n C 0 0 (j := 0) rfl rfl (by decide +kernel) rfl ?_
  refine aw_iload_n C 3 3 (j := 3) rfl rfl (by decide +kernel) rfl ?_
  refine aw_iconst C (i0 := 1) (v := 1) (by decide) (by decide +kernel) rfl ?_
  refine aw_iadd C (by decide +kernel) rfl ?_
  refine aw_sld C X (lw_in 1 h0 h6 hL (by decide)) (by decide +kernel) rfl ?_
  refine aw_aload_n C 0 0 (j := 0) rfl rfl (by decide +kernel) rfl ?_
  refine aw_iload_n C 3 3 (j := 3) rfl rfl (by decide +kernel) rfl ?_
  refine aw_iconst C (i0 := 2) (v := 2) (by decide) (by decide +kernel) rfl ?_
  refine aw_iadd C (by decide +kernel) rfl ?_
  refine aw_sld C X (lw_in 2 h0 h6 hL (by decide)) (by decide +kernel) rfl ?_
  obtain ⟨q1, q2, e1, e2, e3, hI2⟩ := (HP.2.2.2.2.2.2.2.2.2.2.2.2.2.2.2.2.2.2.2.2.2.2.2.2.2.2.2.2.1 (xs (i + (1 : Int32)).toNatClampNeg) (xs (i + (2 : Int32)).toNatClampNeg)) st hI
  refine aw_callV C (rest := []) (c_x_check (la_lc E) (xs (i + (1 : Int32)).toNatClampNeg) (xs (i + (2 : Int32)).toNatClampNeg) _ q1 e1) tb_920 yf_136 yi_136 (lc_0 (la_lc E)) [.int (xs (i + (1 : Int32)).toNatClampNeg), .int (xs (i + (2 : Int32)).toNatClampNeg)] rfl rfl _ rfl (Nat.le_trans (by decide) hgd) (Nat.le_of_ble_eq_true rfl) (by decide +kernel) rfl ?_
  show AW _ _ _ _ [.int q1.1]
  refine aw_aload_n C 2 2 (j := 2) rfl rfl (by decide +kernel) rfl ?_
  refine aw_aload_n C 0 0 (j := 0) rfl rfl (by decide +kernel) rfl ?_
  refine aw_iload_n C 3 3 (j := 3) rfl rfl (by decide +kernel) rfl ?_
  refine aw_iconst C (i0 := 1) (v := 1) (by decide) (by decide +kernel) rfl ?_
  refine aw_iadd C (by decide +kernel) rfl ?_
  refine aw_sld C X (lw_in 1 h0 h6 hL (by decide)) (by decide +kernel) rfl ?_
  refine aw_aload_n C 0 0 (j := 0) rfl rfl (by decide +kernel) rfl ?_
  refine aw_iload_n C 3 3 (j := 3) rfl rfl (by decide +kernel) rfl ?_
  refine aw_iconst C (i0 := 2) (v := 2) (by decide) (by decide +kernel) rfl ?_
  refine aw_iadd C (by decide +kernel) rfl ?_
  refine aw_sld C X (lw_in 2 h0 h6 hL (by decide)) (by decide +kernel) rfl ?_
  refine aw_callV C (rest := [.int q1.1]) (c_m_check E (xs (i + (1 : Int32)).toNatClampNeg) (xs (i + (2 : Int32)).toNatClampNeg) _ q2 e2) tb_1553 yf_245 yi_245 (la_58 E) [.int (xs (i + (1 : Int32)).toNatClampNeg), .int (xs (i + (2 : Int32)).toNatClampNeg)] rfl rfl _ rfl (Nat.le_trans (by decide) hgd) (Nat.le_of_ble_eq_true rfl) (by decide +kernel) rfl ?_
  show AW _ _ _ _ [.int q2.1, .int q1.1]
  refine aw_icmp_eq C (tgt := 1116) (off := 28) (by decide +kernel) (by decide) rfl (fun _ => kk _ hI2) (fun h => absurd e3 h)
theorem lw_c29 {G : Cx} (C : CX G code "PaperStarsLaw") (E : LAin (gly G)) (hgd : 60 ≤ gd G) {Inv : Mm → Prop} (HP : PureOK Inv) {b L : Nat} {xs : Nat → Int32} (X : SX G b L xs) (hL : L ≤ 3072) {i : Int32} (h0 : 0 ≤ i.toInt) (h6 : i.toInt + 6 ≤ (L : Int)) (st : Mm) (hI : Inv st) (kk : ∀ st2, Inv st2 → AW G st2 1116 [(0, .ref b), (1, .ref (gad G 0)), (2, .ref (gad G 58)), (3, .int i)] []) : AW G st 1093 [(0, .ref b), (1, .ref (gad G 0)), (2, .ref (gad G 58)), (3, .int i)] [] := by
  refine aw_aload_n C 1 1 (j := 1) rfl rfl (by decide +kernel) rfl ?_
  refine aw_aload_n C 0 0 (j := 0) rfl rfl (by decide +kernel) rfl ?_
  refine aw_iload_n C 3 3 (j := 3) rfl rfl (by decide +kernel) rfl ?_
  refine aw_iconst C (i0 := 1) (v := 1) (by decide) (by decide +kernel) rfl ?_
  refine aw_iadd C (by decide +kernel) rfl ?_
  refine aw_sld C X (lw_in 1 h0 h6 hL (by decide)) (by decide +kernel) rfl ?_
  obtain ⟨q1, q2, e1, e2, e3, hI2⟩ := (HP.2.2.2.2.2.2.2.2.2.2.2.2.2.2.2.2.2.2.2.2.2.2.2.2.2.2.2.2.2 (xs (i + (1 : Int32)).toNatClampNeg)) st hI
  refine aw_callV C (rest := []) (c_x_count (la_lc E) (xs (i + (1 : Int32)).toNatClampNeg) _ q1 e1) tb_928 yf_138 yi_138 (lc_0 (la_lc E)) [.int (xs (i + (1 : Int32)).toNatClampNeg)] rfl rfl _ rfl (Nat.le_trans (by decide) hgd) (Nat.le_of_ble_eq_true rfl) (by decide +kernel) rfl ?_
  show AW _ _ _ _ [.int q1.1]
  refine aw_aload_n C 2 2 (j := 2) rfl rfl (by decide +kernel) rfl ?_
  refine aw_aload_n C 0 0 (j := 0) rfl rfl (by decide +kernel) rfl ?_
  refine aw_iload_n C 3 3 (j := 3) rfl rfl (by decide +kernel) rfl ?_
  refine aw_iconst C (i0 := 1) (v := 1) (by decide) (by decide +kernel) rfl ?_
  refine aw_iadd C (by decide +kernel) rfl ?_
  refine aw_sld C X (lw_in 1 h0 h6 hL (by decide)) (by decide +kernel) rfl ?_
  refine aw_callV C (rest := [.int q1.1]) (c_m_count E (xs (i + (1 : Int32)).toNatClampNeg) _ q2 e2) tb_1561 yf_247 yi_247 (la_58 E) [.int (xs (i + (1 : Int32)).toNatClampNeg)] rfl rfl _ rfl (Nat.le_trans (by decide) hgd) (Nat.le_of_ble_eq_true rfl) (by decide +kernel) rfl ?_
  show AW _ _ _ _ [.int q2.1, .int q1.1]
  refine aw_icmp_eq C (tgt := 1116) (off := 5) (by decide +kernel) (by decide) rfl (fun _ => kk _ hI2) (fun h => absurd e3 h)
def lw_offs : Array Int := #[135, 158, 221, 244, 267, 300, 333, 366, 389, 432, 491, 504, 537, 550, 573, 616, 639, 682, 735, 768, 802, 845, 888, 911, 955, 978, 1001, 1014, 1027, 1060]
theorem lw_dsw : decode code 33 = .ok (.tableswitch 1083 0 29 lw_offs, 135) := by decide +kernel
theorem lw_loop {G : Cx} (C : CX G code "PaperStarsLaw") (E : LAin (gly G)) (hnL : gnL G = 4) (hgd : 60 ≤ gd G) {Inv : Mm → Prop} (HP : PureOK Inv) {b L : Nat} {xs : Nat → Int32} (X : SX G b L xs) (hL : L ≤ 3072) (lw_end : ∀ (st : Mm) (pc : Nat), decode code pc = .ok (.ireturn, 1) → ∀ {ls : List (Nat × Value)}, AW G st pc ls [.int 1]) : ∀ (n : Nat) (i : Int32) (st : Mm), 0 ≤ i.toInt → i.toInt ≤ (L : Int) → (L : Int) + 1 ≤ i.toInt + n → Inv st → AW G st 18 [(0, .ref b), (1, .ref (gad G 0)), (2, .ref (gad G 58)), (3, .int i)] [] := by
  intro n
  induction n with
  | zero => intro i st h0 h1 h2; exact absurd h2 (by omega)
  | succ n ih =>
    intro i st h0 h1 h2 hI
    refine aw_iload_n C 3 3 (j := 3) rfl rfl (by decide +kernel) rfl ?_
    refine aw_aload_n C 0 0 (j := 0) rfl rfl (by decide +kernel) rfl ?_
    refine aw_slen C X (by decide +kernel) rfl ?_
    refine aw_bipush C (i0 := 6) (v := 6) (by decide) (by decide +kernel) rfl ?_
    refine aw_isub C (by decide +kernel) rfl ?_
    refine aw_icmp_gt C (tgt := 1122) (off := 1098) (by decide +kernel) (by decide) rfl (fun c1 => ?_) (fun c1 => ?_)
    · refine aw_iconst C (i0 := 1) (v := 1) (by decide) (by decide +kernel) rfl ?_
      exact lw_end st 1123 (by decide +kernel)
    · have h6 : i.toInt + 6 ≤ (L : Int) := by
        have z := Int32.not_lt.mp c1
        rw [Int32.le_iff_toInt_le, lw_sub (i := i) hL] at z
        omega
      refine aw_aload_n C 0 0 (j := 0) rfl rfl (by decide +kernel) rfl ?_
      refine aw_iload_n C 3 3 (j := 3) rfl rfl (by decide +kernel) rfl ?_
      refine aw_sld C X (lw_in0 h0 h6) (by decide +kernel) rfl ?_
      refine aw_bipush C (i0 := 31) (v := 31) (by decide) (by decide +kernel) rfl ?_
      refine aw_iand C (by decide +kernel) rfl ?_
      have kk : ∀ st2, Inv st2 → AW G st2 1116 [(0, .ref b), (1, .ref (gad G 0)), (2, .ref (gad G 58)), (3, .int i)] [] := by
        intro st2 hI2
        obtain ⟨j, hj⟩ : ∃ z, z = i + 6 := ⟨_, rfl⟩
        refine aw_iinc C [(3, .int j), (0, .ref b), (1, .ref (gad G 0)), (2, .ref (gad G 58))] 3 (n := 6) rfl (by rw [hj]; rfl) (by rw [hnL]; decide) rfl (by decide +kernel) rfl ?_
        refine aw_goto C (tgt := 18) (off := -1101) (by decide +kernel) (by decide) ?_
        refine aw_sub [(0, .ref b), (1, .ref (gad G 0)), (2, .ref (gad G 58)), (3, .int j)] [1, 2, 3, 0] rfl ?_
        have hj2 : j.toInt = i.toInt + 6 := by rw [hj]; exact lw_add 6 h0 h6 hL (by decide)
        exact ih j st2 (by omega) (by omega) (by omega) hI2
      obtain ⟨x, hx0⟩ : ∃ z, z = xs i.toNatClampNeg &&& 31 := ⟨_, rfl⟩
      refine aw_nmi hx0 ?_
      have hx1 := lw_31 (xs i.toNatClampNeg)
      rw [← hx0] at hx1
      by_cases w0 : x = 0
      · refine aw_tin C (tgt := 168) (off := 135) (dflt := 1083) (lo := 0) (hi := 29) (offs := lw_offs) (len := 135) lw_dsw (by rw [w0]; decide) (by rw [w0]; decide) (by rw [w0]; decide +kernel) (by decide) ?_
        exact lw_c0 C E hgd HP X hL h0 h6 st hI kk
      by_cases w1 : x = 1
      · refine aw_tin C (tgt := 191) (off := 158) (dflt := 1083) (lo := 0) (hi := 29) (offs := lw_offs) (len := 135) lw_dsw (by rw [w1]; decide) (by rw [w1]; decide) (by rw [w1]; decide +kernel) (by decide) ?_
        exact lw_c1 C E hgd HP X hL h0 h6 st hI kk
      by_cases w2 : x = 2
      · refine aw_tin C (tgt := 254) (off := 221) (dflt := 1083) (lo := 0) (hi := 29) (offs := lw_offs) (len := 135) lw_dsw (by rw [w2]; decide) (by rw [w2]; decide) (by rw [w2]; decide +kernel) (by decide) ?_
        exact lw_c2 C E hgd HP X hL h0 h6 st hI kk
      by_cases w3 : x = 3
      · refine aw_tin C (tgt := 277) (off := 244) (dflt := 1083) (lo := 0) (hi := 29) (offs := lw_offs) (len := 135) lw_dsw (by rw [w3]; decide) (by rw [w3]; decide) (by rw [w3]; decide +kernel) (by decide) ?_
        exact lw_c3 C E hgd HP X hL h0 h6 st hI kk
      by_cases w4 : x = 4
      · refine aw_tin C (tgt := 300) (off := 267) (dflt := 1083) (lo := 0) (hi := 29) (offs := lw_offs) (len := 135) lw_dsw (by rw [w4]; decide) (by rw [w4]; decide) (by rw [w4]; decide +kernel) (by decide) ?_
        exact lw_c4 C E hgd HP X hL h0 h6 st hI kk
      by_cases w5 : x = 5
      · refine aw_tin C (tgt := 333) (off := 300) (dflt := 1083) (lo := 0) (hi := 29) (offs := lw_offs) (len := 135) lw_dsw (by rw [w5]; decide) (by rw [w5]; decide) (by rw [w5]; decide +kernel) (by decide) ?_
        exact lw_c5 C E hgd HP X hL h0 h6 st hI kk
      by_cases w6 : x = 6
      · refine aw_tin C (tgt := 366) (off := 333) (dflt := 1083) (lo := 0) (hi := 29) (offs := lw_offs) (len := 135) lw_dsw (by rw [w6]; decide) (by rw [w6]; decide) (by rw [w6]; decide +kernel) (by decide) ?_
        exact lw_c6 C E hgd HP X hL h0 h6 st hI kk
      by_cases w7 : x = 7
      · refine aw_tin C (tgt := 399) (off := 366) (dflt := 1083) (lo := 0) (hi := 29) (offs := lw_offs) (len := 135) lw_dsw (by rw [w7]; decide) (by rw [w7]; decide) (by rw [w7]; decide +kernel) (by decide) ?_
        exact lw_c7 C E hgd HP X hL h0 h6 st hI kk
      by_cases w8 : x = 8
      · refine aw_tin C (tgt := 422) (off := 389) (dflt := 1083) (lo := 0) (hi := 29) (offs := lw_offs) (len := 135) lw_dsw (by rw [w8]; decide) (by rw [w8]; decide) (by rw [w8]; decide +kernel) (by decide) ?_
        exact lw_c8 C E hgd HP X hL h0 h6 st hI kk
      by_cases w9 : x = 9
      · refine aw_tin C (tgt := 465) (off := 432) (dflt := 1083) (lo := 0) (hi := 29) (offs := lw_offs) (len := 135) lw_dsw (by rw [w9]; decide) (by rw [w9]; decide) (by rw [w9]; decide +kernel) (by decide) ?_
        exact lw_c9 C E hgd HP X hL h0 h6 st hI kk
      by_cases w10 : x = 10
      · refine aw_tin C (tgt := 524) (off := 491) (dflt := 1083) (lo := 0) (hi := 29) (offs := lw_offs) (len := 135) lw_dsw (by rw [w10]; decide) (by rw [w10]; decide) (by rw [w10]; decide +kernel) (by decide) ?_
        exact lw_c10 C E hgd HP X hL h0 h6 st hI kk
      by_cases w11 : x = 11
      · refine aw_tin C (tgt := 537) (off := 504) (dflt := 1083) (lo := 0) (hi := 29) (offs := lw_offs) (len := 135) lw_dsw (by rw [w11]; decide) (by rw [w11]; decide) (by rw [w11]; decide +kernel) (by decide) ?_
        exact lw_c11 C E hgd HP X hL h0 h6 st hI kk
      by_cases w12 : x = 12
      · refine aw_tin C (tgt := 570) (off := 537) (dflt := 1083) (lo := 0) (hi := 29) (offs := lw_offs) (len := 135) lw_dsw (by rw [w12]; decide) (by rw [w12]; decide) (by rw [w12]; decide +kernel) (by decide) ?_
        exact lw_c12 C E hgd HP X hL h0 h6 st hI kk
      by_cases w13 : x = 13
      · refine aw_tin C (tgt := 583) (off := 550) (dflt := 1083) (lo := 0) (hi := 29) (offs := lw_offs) (len := 135) lw_dsw (by rw [w13]; decide) (by rw [w13]; decide) (by rw [w13]; decide +kernel) (by decide) ?_
        exact lw_c13 C E hgd HP X hL h0 h6 st hI kk
      by_cases w14 : x = 14
      · refine aw_tin C (tgt := 606) (off := 573) (dflt := 1083) (lo := 0) (hi := 29) (offs := lw_offs) (len := 135) lw_dsw (by rw [w14]; decide) (by rw [w14]; decide) (by rw [w14]; decide +kernel) (by decide) ?_
        exact lw_c14 C E hgd HP X hL h0 h6 st hI kk
      by_cases w15 : x = 15
      · refine aw_tin C (tgt := 649) (off := 616) (dflt := 1083) (lo := 0) (hi := 29) (offs := lw_offs) (len := 135) lw_dsw (by rw [w15]; decide) (by rw [w15]; decide) (by rw [w15]; decide +kernel) (by decide) ?_
        exact lw_c15 C E hgd HP X hL h0 h6 st hI kk
      by_cases w16 : x = 16
      · refine aw_tin C (tgt := 672) (off := 639) (dflt := 1083) (lo := 0) (hi := 29) (offs := lw_offs) (len := 135) lw_dsw (by rw [w16]; decide) (by rw [w16]; decide) (by rw [w16]; decide +kernel) (by decide) ?_
        exact lw_c16 C E hgd HP X hL h0 h6 st hI kk
      by_cases w17 : x = 17
      · refine aw_tin C (tgt := 715) (off := 682) (dflt := 1083) (lo := 0) (hi := 29) (offs := lw_offs) (len := 135) lw_dsw (by rw [w17]; decide) (by rw [w17]; decide) (by rw [w17]; decide +kernel) (by decide) ?_
        exact lw_c17 C E hgd HP X hL h0 h6 st hI kk
      by_cases w18 : x = 18
      · refine aw_tin C (tgt := 768) (off := 735) (dflt := 1083) (lo := 0) (hi := 29) (offs := lw_offs) (len := 135) lw_dsw (by rw [w18]; decide) (by rw [w18]; decide) (by rw [w18]; decide +kernel) (by decide) ?_
        exact lw_c18 C E hgd HP X hL h0 h6 st hI kk
      by_cases w19 : x = 19
      · refine aw_tin C (tgt := 801) (off := 768) (dflt := 1083) (lo := 0) (hi := 29) (offs := lw_offs) (len := 135) lw_dsw (by rw [w19]; decide) (by rw [w19]; decide) (by rw [w19]; decide +kernel) (by decide) ?_
        exact lw_c19 C E hgd HP X hL h0 h6 st hI kk
      by_cases w20 : x = 20
      · refine aw_tin C (tgt := 835) (off := 802) (dflt := 1083) (lo := 0) (hi := 29) (offs := lw_offs) (len := 135) lw_dsw (by rw [w20]; decide) (by rw [w20]; decide) (by rw [w20]; decide +kernel) (by decide) ?_
        exact lw_c20 C E hgd HP X hL h0 h6 st hI kk
      by_cases w21 : x = 21
      · refine aw_tin C (tgt := 878) (off := 845) (dflt := 1083) (lo := 0) (hi := 29) (offs := lw_offs) (len := 135) lw_dsw (by rw [w21]; decide) (by rw [w21]; decide) (by rw [w21]; decide +kernel) (by decide) ?_
        exact lw_c21 C E hgd HP X hL h0 h6 st hI kk
      by_cases w22 : x = 22
      · refine aw_tin C (tgt := 921) (off := 888) (dflt := 1083) (lo := 0) (hi := 29) (offs := lw_offs) (len := 135) lw_dsw (by rw [w22]; decide) (by rw [w22]; decide) (by rw [w22]; decide +kernel) (by decide) ?_
        exact lw_c22 C E hgd HP X hL h0 h6 st hI kk
      by_cases w23 : x = 23
      · refine aw_tin C (tgt := 944) (off := 911) (dflt := 1083) (lo := 0) (hi := 29) (offs := lw_offs) (len := 135) lw_dsw (by rw [w23]; decide) (by rw [w23]; decide) (by rw [w23]; decide +kernel) (by decide) ?_
        exact lw_c23 C E hgd HP X hL h0 h6 st hI kk
      by_cases w24 : x = 24
      · refine aw_tin C (tgt := 988) (off := 955) (dflt := 1083) (lo := 0) (hi := 29) (offs := lw_offs) (len := 135) lw_dsw (by rw [w24]; decide) (by rw [w24]; decide) (by rw [w24]; decide +kernel) (by decide) ?_
        exact lw_c24 C E hgd HP X hL h0 h6 st hI kk
      by_cases w25 : x = 25
      · refine aw_tin C (tgt := 1011) (off := 978) (dflt := 1083) (lo := 0) (hi := 29) (offs := lw_offs) (len := 135) lw_dsw (by rw [w25]; decide) (by rw [w25]; decide) (by rw [w25]; decide +kernel) (by decide) ?_
        exact lw_c25 C E hgd HP X hL h0 h6 st hI kk
      by_cases w26 : x = 26
      · refine aw_tin C (tgt := 1034) (off := 1001) (dflt := 1083) (lo := 0) (hi := 29) (offs := lw_offs) (len := 135) lw_dsw (by rw [w26]; decide) (by rw [w26]; decide) (by rw [w26]; decide +kernel) (by decide) ?_
        exact lw_c26 C E hgd HP X hL h0 h6 st hI kk
      by_cases w27 : x = 27
      · refine aw_tin C (tgt := 1047) (off := 1014) (dflt := 1083) (lo := 0) (hi := 29) (offs := lw_offs) (len := 135) lw_dsw (by rw [w27]; decide) (by rw [w27]; decide) (by rw [w27]; decide +kernel) (by decide) ?_
        exact lw_c27 C E hgd HP X hL h0 h6 st hI kk
      by_cases w28 : x = 28
      · refine aw_tin C (tgt := 1060) (off := 1027) (dflt := 1083) (lo := 0) (hi := 29) (offs := lw_offs) (len := 135) lw_dsw (by rw [w28]; decide) (by rw [w28]; decide) (by rw [w28]; decide +kernel) (by decide) ?_
        exact lw_c28 C E hgd HP X hL h0 h6 st hI kk
      by_cases w29 : x = 29
      · refine aw_tin C (tgt := 1093) (off := 1060) (dflt := 1083) (lo := 0) (hi := 29) (offs := lw_offs) (len := 135) lw_dsw (by rw [w29]; decide) (by rw [w29]; decide) (by rw [w29]; decide +kernel) (by decide) ?_
        exact lw_c29 C E hgd HP X hL h0 h6 st hI kk
      have z0 := am_ne w0 (k := 0) (by decide)
      have z1 := am_ne w1 (k := 1) (by decide)
      have z2 := am_ne w2 (k := 2) (by decide)
      have z3 := am_ne w3 (k := 3) (by decide)
      have z4 := am_ne w4 (k := 4) (by decide)
      have z5 := am_ne w5 (k := 5) (by decide)
      have z6 := am_ne w6 (k := 6) (by decide)
      have z7 := am_ne w7 (k := 7) (by decide)
      have z8 := am_ne w8 (k := 8) (by decide)
      have z9 := am_ne w9 (k := 9) (by decide)
      have z10 := am_ne w10 (k := 10) (by decide)
      have z11 := am_ne w11 (k := 11) (by decide)
      have z12 := am_ne w12 (k := 12) (by decide)
      have z13 := am_ne w13 (k := 13) (by decide)
      have z14 := am_ne w14 (k := 14) (by decide)
      have z15 := am_ne w15 (k := 15) (by decide)
      have z16 := am_ne w16 (k := 16) (by decide)
      have z17 := am_ne w17 (k := 17) (by decide)
      have z18 := am_ne w18 (k := 18) (by decide)
      have z19 := am_ne w19 (k := 19) (by decide)
      have z20 := am_ne w20 (k := 20) (by decide)
      have z21 := am_ne w21 (k := 21) (by decide)
      have z22 := am_ne w22 (k := 22) (by decide)
      have z23 := am_ne w23 (k := 23) (by decide)
      have z24 := am_ne w24 (k := 24) (by decide)
      have z25 := am_ne w25 (k := 25) (by decide)
      have z26 := am_ne w26 (k := 26) (by decide)
      have z27 := am_ne w27 (k := 27) (by decide)
      have z28 := am_ne w28 (k := 28) (by decide)
      have z29 := am_ne w29 (k := 29) (by decide)
      refine aw_tout C (tgt := 1116) (dflt := 1083) (lo := 0) (hi := 29) (offs := lw_offs) (len := 135) lw_dsw (by omega) (by decide) ?_
      exact kk st hI
theorem lw_in0_ : ∀ w ∈ u_ws "PaperStars$Condition" T0 7, w ∈ lw_tbl := fun w hw => (List.mem_filter.mp (fc_0.2.1 w hw)).1
theorem lw_in1_ : ∀ w ∈ u_ws "PaperStars$Cover" T1 4, w ∈ lw_tbl := fun w hw => (List.mem_filter.mp (fc_1.2.1 w hw)).1
theorem lw_in2_ : ∀ w ∈ u_ws "PaperStars$Fit" T2 5, w ∈ lw_tbl := fun w hw => (List.mem_filter.mp (fc_2.2.1 w hw)).1
theorem lw_in3_ : ∀ w ∈ u_ws "PaperStars$Folding" T3 8, w ∈ lw_tbl := fun w hw => (List.mem_filter.mp (fc_3.2.1 w hw)).1
theorem lw_in4_ : ∀ w ∈ u_ws "PaperStars$Hanging" T4 3, w ∈ lw_tbl := fun w hw => (List.mem_filter.mp (fc_4.2.1 w hw)).1
theorem lw_in5_ : ∀ w ∈ u_ws "PaperStars$Packing" T5 2, w ∈ lw_tbl := fun w hw => (List.mem_filter.mp (fc_5.2.1 w hw)).1
theorem lw_in6_ : ∀ w ∈ u_ws "PaperStars$Paper" T6 4, w ∈ lw_tbl := fun w hw => (List.mem_filter.mp (fc_6.2.1 w hw)).1
theorem lw_in7_ : ∀ w ∈ u_ws "PaperStars$Pieces" T7 11, w ∈ lw_tbl := fun w hw => (List.mem_filter.mp (fc_7.2.1 w hw)).1
theorem lw_in8_ : ∀ w ∈ u_ws "PaperStars$Reader" T8 13, w ∈ lw_tbl := fun w hw => (List.mem_filter.mp (fc_8.2.1 w hw)).1
theorem lw_in9_ : ∀ w ∈ u_ws "PaperStars$Table" T9 8, w ∈ lw_tbl := fun w hw => (List.mem_filter.mp (fc_9.2.1 w hw)).1
theorem lw_in10_ : ∀ w ∈ u_ws "PaperStars$Tape" T10 2, w ∈ lw_tbl := fun w hw => (List.mem_filter.mp (fc_10.2.1 w hw)).1
theorem lw_in11_ : ∀ w ∈ u_ws "PaperStars" T11 15, w ∈ lw_tbl := fun w hw => (List.mem_filter.mp (fc_11.2.1 w hw)).1
theorem lw_in12_ : ∀ w ∈ u_ws "PaperStarsModel" T12 65, w ∈ lw_tbl := fun w hw => (List.mem_filter.mp (fc_12.2.1 w hw)).1
theorem nt_0 : (NWL.getD 0 (.isInt .result)) ∈ lw_tbl := List.mem_append_right _ (List.mem_append_left _ (List.mem_of_getElem? (i := 76) (by decide +kernel)))
theorem nt_1 : (NWL.getD 1 (.isInt .result)) ∈ lw_tbl := List.mem_append_right _ (List.mem_append_left _ (List.mem_of_getElem? (i := 92) (by decide +kernel)))
theorem nt_2 : (NWL.getD 2 (.isInt .result)) ∈ lw_tbl := List.mem_append_right _ (List.mem_append_left _ (List.mem_of_getElem? (i := 98) (by decide +kernel)))
theorem nt_3 : (NWL.getD 3 (.isInt .result)) ∈ lw_tbl := List.mem_append_right _ (List.mem_append_left _ (List.mem_of_getElem? (i := 140) (by decide +kernel)))
theorem nt_4 : (NWL.getD 4 (.isInt .result)) ∈ lw_tbl := List.mem_append_right _ (List.mem_append_left _ (List.mem_of_getElem? (i := 207) (by decide +kernel)))
theorem nt_5 : (NWL.getD 5 (.isInt .result)) ∈ lw_tbl := List.mem_append_right _ (List.mem_append_left _ (List.mem_of_getElem? (i := 210) (by decide +kernel)))
theorem nt_6 : (NWL.getD 6 (.isInt .result)) ∈ lw_tbl := List.mem_append_right _ (List.mem_append_left _ (List.mem_of_getElem? (i := 235) (by decide +kernel)))
theorem nt_7 : (NWL.getD 7 (.isInt .result)) ∈ lw_tbl := List.mem_append_right _ (List.mem_append_right _ (List.mem_append_left _ (List.mem_of_getElem? (i := 42) (by decide +kernel))))
theorem nt_8 : (NWL.getD 8 (.isInt .result)) ∈ lw_tbl := List.mem_append_right _ (List.mem_append_right _ (List.mem_append_left _ (List.mem_of_getElem? (i := 58) (by decide +kernel))))
theorem nt_9 : (NWL.getD 9 (.isInt .result)) ∈ lw_tbl := List.mem_append_right _ (List.mem_append_right _ (List.mem_append_left _ (List.mem_of_getElem? (i := 63) (by decide +kernel))))
theorem nt_10 : (NWL.getD 10 (.isInt .result)) ∈ lw_tbl := List.mem_append_right _ (List.mem_append_right _ (List.mem_append_left _ (List.mem_of_getElem? (i := 87) (by decide +kernel))))
theorem nt_11 : (NWL.getD 11 (.isInt .result)) ∈ lw_tbl := List.mem_append_right _ (List.mem_append_right _ (List.mem_append_left _ (List.mem_of_getElem? (i := 107) (by decide +kernel))))
theorem nt_12 : (NWL.getD 12 (.isInt .result)) ∈ lw_tbl := List.mem_append_right _ (List.mem_append_right _ (List.mem_append_left _ (List.mem_of_getElem? (i := 150) (by decide +kernel))))
theorem nt_13 : (NWL.getD 13 (.isInt .result)) ∈ lw_tbl := List.mem_append_right _ (List.mem_append_right _ (List.mem_append_right _ (List.mem_append_left _ (List.mem_of_getElem? (i := 160) (by decide +kernel)))))
theorem nt_14 : (NWL.getD 14 (.isInt .result)) ∈ lw_tbl := List.mem_append_right _ (List.mem_append_right _ (List.mem_append_right _ (List.mem_append_left _ (List.mem_of_getElem? (i := 169) (by decide +kernel)))))
theorem nt_15 : (NWL.getD 15 (.isInt .result)) ∈ lw_tbl := List.mem_append_right _ (List.mem_append_right _ (List.mem_append_right _ (List.mem_append_left _ (List.mem_of_getElem? (i := 194) (by decide +kernel)))))
theorem nt_16 : (NWL.getD 16 (.isInt .result)) ∈ lw_tbl := List.mem_append_right _ (List.mem_append_right _ (List.mem_append_right _ (List.mem_append_left _ (List.mem_of_getElem? (i := 199) (by decide +kernel)))))
theorem nt_17 : (NWL.getD 17 (.isInt .result)) ∈ lw_tbl := List.mem_append_right _ (List.mem_append_right _ (List.mem_append_right _ (List.mem_append_left _ (List.mem_of_getElem? (i := 229) (by decide +kernel)))))
theorem nt_18 : (NWL.getD 18 (.isInt .result)) ∈ lw_tbl := List.mem_append_right _ (List.mem_append_right _ (List.mem_append_right _ (List.mem_append_right _ (List.mem_append_left _ (List.mem_of_getElem? (i := 8) (by decide +kernel))))))
theorem nt_19 : (NWL.getD 19 (.isInt .result)) ∈ lw_tbl := List.mem_append_right _ (List.mem_append_right _ (List.mem_append_right _ (List.mem_append_right _ (List.mem_append_left _ (List.mem_of_getElem? (i := 52) (by decide +kernel))))))
theorem nt_20 : (NWL.getD 20 (.isInt .result)) ∈ lw_tbl := List.mem_append_right _ (List.mem_append_right _ (List.mem_append_right _ (List.mem_append_right _ (List.mem_append_left _ (List.mem_of_getElem? (i := 53) (by decide +kernel))))))
theorem nt_21 : (NWL.getD 21 (.isInt .result)) ∈ lw_tbl := List.mem_append_right _ (List.mem_append_right _ (List.mem_append_right _ (List.mem_append_right _ (List.mem_append_left _ (List.mem_of_getElem? (i := 88) (by decide +kernel))))))
theorem lw_nw {args : Array Value} {s : State} (hts : ∀ w ∈ lw_tbl, w.before args s = true) (w : Cond) (hw : w ∈ NWL) : va_Nw w s := by
  have key : ∀ k, k < NWL.length → NWL.getD k (.isInt .result) ∈ lw_tbl := by
    intro k hk
    have hk : k < 22 := hk
    match k, hk with
    | 0, _ => exact nt_0
    | 1, _ => exact nt_1
    | 2, _ => exact nt_2
    | 3, _ => exact nt_3
    | 4, _ => exact nt_4
    | 5, _ => exact nt_5
    | 6, _ => exact nt_6
    | 7, _ => exact nt_7
    | 8, _ => exact nt_8
    | 9, _ => exact nt_9
    | 10, _ => exact nt_10
    | 11, _ => exact nt_11
    | 12, _ => exact nt_12
    | 13, _ => exact nt_13
    | 14, _ => exact nt_14
    | 15, _ => exact nt_15
    | 16, _ => exact nt_16
    | 17, _ => exact nt_17
    | 18, _ => exact nt_18
    | 19, _ => exact nt_19
    | 20, _ => exact nt_20
    | 21, _ => exact nt_21
    | k + 22, hk => omega
  obtain ⟨i, hi, e⟩ := List.getElem_of_mem hw
  have h1 := key i hi
  rw [List.getD_eq_getElem?_getD, List.getElem?_eq_getElem hi, Option.getD_some, e] at h1
  obtain ⟨own, j, y, host, rfl⟩ := NWL_of w hw
  exact va_Nw.of rfl (hts _ h1)
def LWend (G : Cx) : Prop := ∀ (st : Mm) (pc : Nat) (ls : List (Nat × Value)), decode code pc = .ok (.ireturn, 1) → gk G ≤ 600000 → gn G ≤ 7302250 → AW G st pc ls [.int 1]
theorem lw_endG {p : Program} {l : Launch} {e : Env} {s : State} {m : MethodId} {below : List Frame} {meth : Method} {c : Code} {b kc nc d nL : Nat} {D : va_G} {cA : Nat → ClassId} {ad : Nat → Nat} {lay : Ly} {r : Option Value} {sf : Mm} (hx : p.tables.exec = Jvm.exec) (hb : c.code = code) (hr : meth.sig.returnType = ret) (hlocks : meth.locks = false) : LWend (p, l, e, room_1, kc, nc, d, s, m, #[Value.ref b], below, meth, c, D, cA, ad, fun q : Nat => s.heap.size ≤ q, lay, lw_Z below #[Value.ref b] s, nL, r, sf) := by
  intro st pc ls hd h1 h2 H locs la hP hD hS hl
  refine va_forget (fun q hq => hS.2.2 q hq) ?_
  refine W.widen (k := 600000) (n := 7302250) h1 h2 ?_
  exact lw_ret hx hb hr hlocks hd
def LWctx (G : Cx) : Prop := match G with
  | (p, l, e, Rm, kc, nc, d, s, m, args, below, meth, c, D, cA, ad, A, lay, Q, nL, r, sf) => p.tables.exec = Jvm.exec ∧ c.code = code ∧ meth.sig.returnType = ret ∧ meth.locks = false ∧ Rm = room_1 ∧ (∃ b, args = #[Value.ref b]) ∧ (A = fun q : Nat => s.heap.size ≤ q) ∧ Q = lw_Z below args s
theorem lw_endC {G : Cx} (h : LWctx G) : LWend G := by
  obtain ⟨p, l, e, Rm, kc, nc, d, s, m, args, below, meth, c, D, cA, ad, A, lay, Q, nL, r, sf⟩ := G
  obtain ⟨hx, hb, hr, hlocks, rfl, ⟨b, rfl⟩, rfl, rfl⟩ := h
  exact lw_endG hx hb hr hlocks
theorem GS.le {G G1 : Cx} {lay1 : Ly} {dk dn : Nat} (S : GS G G1 lay1 dk dn) (h : LWctx G) : LWctx G1 := by
  obtain ⟨ad2, rfl, -⟩ := S
  obtain ⟨p, l, e, Rm, kc, nc, d, s, m, args, below, meth, c, D, cA, ad, A, lay, Q, nL, r, sf⟩ := G
  exact h
theorem law_walk {p : Program} {e : Env} {s : State} {m : MethodId} {below : List Frame} {meth : Method} {c : Code} (l : Launch) {b L : Nat} {xs : Nat → Int32} {Inv : Mm → Prop} (HP : PureOK Inv) (HI : InitOK Inv) (hL : L ≤ 3072) (C0 : lw_At p s m meth c b L xs) : W p l e room_1 s m #[Value.ref b] below meth c s.heap [] 0 0 (lw_Z below #[Value.ref b] s) (entryFrame m ([Value.ref b] : List Value).toArray 4) := by
  obtain ⟨q0, HI⟩ := HI
  obtain ⟨q1, HI⟩ := HI
  obtain ⟨q2, HI⟩ := HI
  obtain ⟨p0, HI⟩ := HI
  obtain ⟨hq0, HI⟩ := HI
  obtain ⟨hq1, HI⟩ := HI
  obtain ⟨hq2, HI⟩ := HI
  obtain ⟨hp0, HI⟩ := HI
  have hI := HI
  obtain ⟨hx, hb, hr, hml, hown, hts, hX, hbl, hlocks, hgv⟩ := id C0
  obtain ⟨c0, iS0, hKn0⟩ := u_known (C := "PaperStars$Condition") (T := T0) (N := 7) (n := 7) hts lw_in0_ (hts (.instantiable "PaperStars$Condition" 7) (List.mem_filter.mp ti_0).1)
  obtain ⟨c1, iS1, hKn1⟩ := u_known (C := "PaperStars$Cover") (T := T1) (N := 4) (n := 4) hts lw_in1_ (hts (.instantiable "PaperStars$Cover" 4) (List.mem_filter.mp ti_1).1)
  obtain ⟨c2, iS2, hKn2⟩ := u_known (C := "PaperStars$Fit") (T := T2) (N := 5) (n := 5) hts lw_in2_ (hts (.instantiable "PaperStars$Fit" 5) (List.mem_filter.mp ti_2).1)
  obtain ⟨c3, iS3, hKn3⟩ := u_known (C := "PaperStars$Folding") (T := T3) (N := 8) (n := 8) hts lw_in3_ (hts (.instantiable "PaperStars$Folding" 8) (List.mem_filter.mp ti_3).1)
  obtain ⟨c4, iS4, hKn4⟩ := u_known (C := "PaperStars$Hanging") (T := T4) (N := 3) (n := 3) hts lw_in4_ (hts (.instantiable "PaperStars$Hanging" 3) (List.mem_filter.mp ti_4).1)
  obtain ⟨c5, iS5, hKn5⟩ := u_known (C := "PaperStars$Packing") (T := T5) (N := 2) (n := 2) hts lw_in5_ (hts (.instantiable "PaperStars$Packing" 2) (List.mem_filter.mp ti_5).1)
  obtain ⟨c6, iS6, hKn6⟩ := u_known (C := "PaperStars$Paper") (T := T6) (N := 4) (n := 4) hts lw_in6_ (hts (.instantiable "PaperStars$Paper" 4) (List.mem_filter.mp ti_6).1)
  obtain ⟨c7, iS7, hKn7⟩ := u_known (C := "PaperStars$Pieces") (T := T7) (N := 11) (n := 11) hts lw_in7_ (hts (.instantiable "PaperStars$Pieces" 11) (List.mem_filter.mp ti_7).1)
  obtain ⟨c8, iS8, hKn8⟩ := u_known (C := "PaperStars$Reader") (T := T8) (N := 13) (n := 13) hts lw_in8_ (hts (.instantiable "PaperStars$Reader" 13) (List.mem_filter.mp ti_8).1)
  obtain ⟨c9, iS9, hKn9⟩ := u_known (C := "PaperStars$Table") (T := T9) (N := 8) (n := 8) hts lw_in9_ (hts (.instantiable "PaperStars$Table" 8) (List.mem_filter.mp ti_9).1)
  obtain ⟨c10, iS10, hKn10⟩ := u_known (C := "PaperStars$Tape") (T := T10) (N := 2) (n := 2) hts lw_in10_ (hts (.instantiable "PaperStars$Tape" 2) (List.mem_filter.mp ti_10).1)
  obtain ⟨c11, iS11, hKn11⟩ := u_known (C := "PaperStars") (T := T11) (N := 15) (n := 15) hts lw_in11_ (hts (.instantiable "PaperStars" 15) (List.mem_filter.mp ti_11).1)
  obtain ⟨c12, iS12, hKn12⟩ := u_known (C := "PaperStarsModel") (T := T12) (N := 65) (n := 65) hts lw_in12_ (hts (.instantiable "PaperStarsModel" 65) (List.mem_filter.mp ti_12).1)
  obtain ⟨dC, dI, hKc⟩ : ∃ (dC : Nat → ClassId) (dI : Nat → Nat → Nat), ∀ (k : Nat) (q : vw_C), CLS[k]? = some q → u_Kn s q.1 q.2.1 q.2.2 (dC k) (dI k) := by
    refine ⟨fun k => if k = 0 then c0 else if k = 1 then c1 else if k = 2 then c2 else if k = 3 then c3 else if k = 4 then c4 else if k = 5 then c5 else if k = 6 then c6 else if k = 7 then c7 else if k = 8 then c8 else if k = 9 then c9 else if k = 10 then c10 else if k = 11 then c11 else c12, fun k => if k = 0 then iS0 else if k = 1 then iS1 else if k = 2 then iS2 else if k = 3 then iS3 else if k = 4 then iS4 else if k = 5 then iS5 else if k = 6 then iS6 else if k = 7 then iS7 else if k = 8 then iS8 else if k = 9 then iS9 else if k = 10 then iS10 else if k = 11 then iS11 else iS12, ?_⟩
    intro k q hq
    match k, hq with
    | 0, hq => cases hq; exact hKn0
    | 1, hq => cases hq; exact hKn1
    | 2, hq => cases hq; exact hKn2
    | 3, hq => cases hq; exact hKn3
    | 4, hq => cases hq; exact hKn4
    | 5, hq => cases hq; exact hKn5
    | 6, hq => cases hq; exact hKn6
    | 7, hq => cases hq; exact hKn7
    | 8, hq => cases hq; exact hKn8
    | 9, hq => cases hq; exact hKn9
    | 10, hq => cases hq; exact hKn10
    | 11, hq => cases hq; exact hKn11
    | 12, hq => cases hq; exact hKn12
    | k + 13, hq => simp [CLS] at hq
  obtain ⟨aI, kI, pI, gI1, gI2, gI3⟩ := Cond.arrayClass_spec (hts _ (List.mem_filter.mp ta_int).1)
  obtain ⟨aZ, kZ, pZ, gZ1, gZ2, gZ3⟩ := Cond.arrayClass_spec (hts _ (List.mem_filter.mp ta_boolean).1)
  obtain ⟨aB, kB, pB, gB1, gB2, gB3⟩ := Cond.arrayClass_spec (hts _ (List.mem_filter.mp ta_byte).1)
  obtain ⟨aJ, kJ, pJ, gJ1, gJ2, gJ3⟩ := Cond.arrayClass_spec (hts _ (List.mem_filter.mp ta_long).1)
  obtain ⟨cA, hcA⟩ : ∃ z : Nat → ClassId, z = fun k => if k = 0 then aI else if k = 1 then aZ else if k = 2 then aB else aJ := ⟨_, rfl⟩
  have hc0q : cA 0 = aI := by rw [hcA]; rfl
  have hc1q : cA 1 = aZ := by rw [hcA]; rfl
  have hc2q : cA 2 = aB := by rw [hcA]; rfl
  have hc3q : cA 3 = aJ := by rw [hcA]; rfl
  have hK : va_K (dC, dI) CLS (am_ty cA) s := by
    refine ⟨hKc, fun k q hq => ?_⟩
    match k, hq with
    | 0, hq => cases hq; rw [hc0q]; exact ⟨fun n z => ⟨fun k h => (by cases h), kI, gI2, pI, gI3⟩, gI1⟩
    | 1, hq => cases hq; rw [hc1q]; exact ⟨fun n z => ⟨fun k h => (by cases h), kZ, gZ2, pZ, gZ3⟩, gZ1⟩
    | 2, hq => cases hq; rw [hc2q]; exact ⟨fun n z => ⟨fun k h => (by cases h), kB, gB2, pB, gB3⟩, gB1⟩
    | 3, hq => cases hq; rw [hc3q]; exact ⟨fun n z => ⟨fun k h => (by cases h), kJ, gJ2, pJ, gJ3⟩, gJ1⟩
    | k + 4, hq => simp at hq
  have hN : am_N s := fun w hw => lw_nw hts w hw
  have htb : ∀ w ∈ TB, w.before #[Value.ref b] s = true := fun w hw => hts w (List.mem_filter.mp hw).1
  obtain ⟨G0, hG0⟩ : ∃ z : Cx, z = (p, l, e, room_1, 0, 0, 100, s, m, #[Value.ref b], below, meth, c, (dC, dI), cA, fun _ => 0, fun q : Nat => s.heap.size ≤ q, [], lw_Z below #[Value.ref b] s, 4, none, st00) := ⟨_, rfl⟩
  have C0 : CX G0 code "PaperStarsLaw" := by rw [hG0]; exact ⟨hx, hb, hml, hown, htb, hK, hN, fun _ h => h, by decide, by decide, Nat.zero_le _, Nat.zero_le _⟩
  have X0 : SX G0 b L xs := by rw [hG0]; exact ⟨hX, hbl, Nat.not_le.mpr hbl⟩
  have y0 : gly G0 = [] := by rw [hG0]; rfl
  have k0 : gk G0 = 0 := by rw [hG0]; rfl
  have n0 : gn G0 = 0 := by rw [hG0]; rfl
  have R0 : gR G0 = room_1 := by rw [hG0]; rfl
  have d0 : gd G0 = 100 := by rw [hG0]; rfl
  have l0 : gnL G0 = 4 := by rw [hG0]; rfl
  have KE0 : LWctx G0 := by rw [hG0]; exact ⟨hx, hb, hr, hlocks, rfl, ⟨b, rfl⟩, rfl, rfl⟩
  have K : AW G0 st00 0 [(0, .ref b)] [] := by
    refine aw_new C0 (fun ad => [(0, .ref b)]) (fun ad => []) fc_11 fn_11 (by rw [y0]; decide +kernel) tb_18 ti_11 tb_1 (by rw [k0, R0]; exact Nat.le_of_ble_eq_true rfl) (by rw [n0, R0]; exact Nat.le_of_ble_eq_true rfl) (fun a b h => ⟨rfl, rfl⟩) (by decide +kernel) rfl (fun G1 S1 => ?_)
    have e1 : (gly G0).length = 0 := by rw [y0]; exact rfl
    rw [e1]
    have C1 := S1.cx C0 (by rw [k0, R0]; exact Nat.le_of_ble_eq_true rfl) (by rw [n0, R0]; exact Nat.le_of_ble_eq_true rfl)
    have X1 := S1.sx X0
    have y1 : gly G1 = LY_0 := by rw [S1.ly, y0]; decide +kernel
    have k1 : gk G1 = 1 := by rw [S1.k, k0]
    have n1 : gn G1 = 15 := by rw [S1.n, n0]
    have R1 := S1.R.trans R0
    have d1 := S1.d.trans d0
    have l1 := S1.nL.trans l0
    have KE1 := S1.le KE0
    show AW _ _ _ [(0, .ref b)] [.ref (gad G1 0)]
    refine aw_dup C1 rfl (by decide +kernel) rfl ?_
    refine aw_ctor C1 (fun ad => [(0, .ref b)]) (fun ad => [.ref (ad 0)]) (c0 := 0) (by rw [y1]; exact kc_0 (sZ st00 0) q0 q1 q2 hq0 hq1 hq2) tb_20 yf_0 rfl tb_21 (fun a b h => ⟨rfl, by have z0 := h 0 (by rw [y1]; exact Nat.le_of_ble_eq_true rfl); simp only [z0]⟩) (by rw [y1]; exact ⟨_, rfl⟩) (by rw [d1]; exact Nat.le_of_ble_eq_true rfl) (Nat.le_of_ble_eq_true rfl) (by rw [k1, R1]; exact Nat.le_of_ble_eq_true rfl) (by rw [n1, R1]; exact Nat.le_of_ble_eq_true rfl) (by decide +kernel) rfl (fun G2 S2 => ?_)
    have C2 := S2.cx C1 (by rw [k1, R1]; exact Nat.le_of_ble_eq_true rfl) (by rw [n1, R1]; exact Nat.le_of_ble_eq_true rfl)
    have X2 := S2.sx X1
    have y2 : gly G2 = LC := S2.ly
    have k2 : gk G2 = 58 := by rw [S2.k, k1]
    have n2 : gn G2 = 13020 := by rw [S2.n, n1]
    have R2 := S2.R.trans R1
    have d2 := S2.d.trans d1
    have l2 := S2.nL.trans l1
    have KE2 := S2.le KE1
    show AW _ _ _ [(0, .ref b)] [.ref (gad G2 0)]
    refine aw_astore_n C2 [(1, .ref (gad G2 0)), (0, .ref b)] (j := 1) rfl (by rw [l2]; decide) rfl (by decide +kernel) rfl ?_
    refine aw_new C2 (fun ad => [(1, .ref (ad 0)), (0, .ref b)]) (fun ad => []) fc_12 fn_12 (by rw [y2]; decide +kernel) tb_932 ti_12 tb_13 (by rw [k2, R2]; exact Nat.le_of_ble_eq_true rfl) (by rw [n2, R2]; exact Nat.le_of_ble_eq_true rfl) (fun a b h => ⟨by have z0 := h 0 (by rw [y2]; exact Nat.le_of_ble_eq_true rfl); simp only [z0], rfl⟩) (by decide +kernel) rfl (fun G3 S3 => ?_)
    have e3 : (gly G2).length = 58 := by rw [y2]; exact rfl
    rw [e3]
    have C3 := S3.cx C2 (by rw [k2, R2]; exact Nat.le_of_ble_eq_true rfl) (by rw [n2, R2]; exact Nat.le_of_ble_eq_true rfl)
    have X3 := S3.sx X2
    have y3 : gly G3 = LY_114 := by rw [S3.ly, y2]; decide +kernel
    have k3 : gk G3 = 59 := by rw [S3.k, k2]
    have n3 : gn G3 = 13085 := by rw [S3.n, n2]
    have R3 := S3.R.trans R2
    have d3 := S3.d.trans d2
    have l3 := S3.nL.trans l2
    have KE3 := S3.le KE2
    show AW _ _ _ [(1, .ref (gad G3 0)), (0, .ref b)] [.ref (gad G3 58)]
    refine aw_dup C3 rfl (by decide +kernel) rfl ?_
    refine aw_ctor C3 (fun ad => [(1, .ref (ad 0)), (0, .ref b)]) (fun ad => [.ref (ad 58)]) (c0 := 58) (by rw [y3]; exact kc_16 (sZ q2.2 58) p0 hp0) tb_934 yf_139 rfl tb_935 (fun a b h => by have z0 := h 0 (by rw [y3]; exact Nat.le_of_ble_eq_true rfl); have z1 := h 58 (by rw [y3]; exact Nat.le_of_ble_eq_true rfl); exact ⟨by simp only [z0], by simp only [z1]⟩) (by rw [y3]; exact ⟨_, rfl⟩) (by rw [d3]; exact Nat.le_of_ble_eq_true rfl) (Nat.le_of_ble_eq_true rfl) (by rw [k3, R3]; exact Nat.le_of_ble_eq_true rfl) (by rw [n3, R3]; exact Nat.le_of_ble_eq_true rfl) (by decide +kernel) rfl (fun G4 S4 => ?_)
    have C4 := S4.cx C3 (by rw [k3, R3]; exact Nat.le_of_ble_eq_true rfl) (by rw [n3, R3]; exact Nat.le_of_ble_eq_true rfl)
    have X4 := S4.sx X3
    have y4 : gly G4 = LC ++ LM := S4.ly
    have k4 : gk G4 = 91 := by rw [S4.k, k3]
    have n4 : gn G4 = 36684 := by rw [S4.n, n3]
    have R4 := S4.R.trans R3
    have d4 := S4.d.trans d3
    have l4 := S4.nL.trans l3
    have KE4 := S4.le KE3
    show AW _ _ _ [(1, .ref (gad G4 0)), (0, .ref b)] [.ref (gad G4 58)]
    refine aw_astore_n C4 [(2, .ref (gad G4 58)), (1, .ref (gad G4 0)), (0, .ref b)] (j := 2) rfl (by rw [l4]; decide) rfl (by decide +kernel) rfl ?_
    refine aw_iconst C4 (i0 := 0) (v := 0) (by decide) (by decide +kernel) rfl ?_
    refine aw_istore_n C4 [(3, .int 0), (2, .ref (gad G4 58)), (1, .ref (gad G4 0)), (0, .ref b)] (j := 3) rfl (by rw [l4]; decide) rfl (by decide +kernel) rfl ?_
    refine aw_sub [(0, .ref b), (1, .ref (gad G4 0)), (2, .ref (gad G4 58)), (3, .int 0)] [3, 2, 1, 0] rfl ?_
    have E4 : LAin (gly G4) := by rw [y4]; exact fun _ _ h => h
    exact lw_loop C4 E4 l4 (by rw [d4]; decide) HP X4 hL (fun st pc hd ls => lw_endC KE4 st pc ls hd (by rw [k4]; decide) (by rw [n4]; decide)) (L + 1) 0 _ (by decide) (by show (0 : Int) ≤ L; omega) (by show (L : Int) + 1 ≤ 0 + ((L + 1 : Nat) : Int); omega) hI
  rw [hG0] at K
  have hl := lv_entry ([Value.ref b]) (n := 4) (Nat.le_of_ble_eq_true rfl)
  rw [lg_entry_eq]
  exact K s.heap [] _ (fun k q h => by simp [am_w] at h) ⟨fun i j x y h => by simp [am_w] at h, fun k q h => by simp [am_w] at h⟩ va_S.rf hl
