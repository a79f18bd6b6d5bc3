/-! constructors: the layout grows -/
def sZ (st : Mm) (c : Nat) : Mm := (fun a => if a = c then (fun _ => 0) else st.1 a, fun a => if a = c then (fun _ => 0) else st.2 a)
theorem sZ_1 {st : Mm} {c : Nat} : (sZ st c).1 c = fun _ => 0 := by simp [sZ]
theorem sZ_2 {st : Mm} {c : Nat} : (sZ st c).2 c = fun _ => 0 := by simp [sZ]
theorem sZ_n1 {st : Mm} {c a : Nat} (h : a ≠ c) : (sZ st c).1 a = st.1 a := by simp [sZ, h]
theorem sZ_n2 {st : Mm} {c a : Nat} (h : a ≠ c) : (sZ st c).2 a = st.2 a := by simp [sZ, h]
def setc (G : Cx) (ad2 : Nat → Nat) (lay2 : Ly) (k2 n2 : Nat) : Cx := match G with
  | (p, l, e, Rm, kc, nc, d, s, m, args, below, meth, c, D, cA, ad, A, lay, Q, nL, r, sf) => (p, l, e, Rm, k2, n2, d, s, m, args, below, meth, c, D, cA, ad2, A, lay2, Q, nL, r, sf)
def GS (G G1 : Cx) (lay1 : Ly) (dk dn : Nat) : Prop := ∃ ad2, G1 = setc G ad2 lay1 (gk G + dk) (gn G + dn) ∧ ∀ j, j < (gly G).length → ad2 j = gad G j
section GSS
variable {G G1 : Cx} {lay1 : Ly} {dk dn : Nat} {cc : ByteArray} {own : String}
theorem GS.cx (S : GS G G1 lay1 dk dn) (C : CX G cc own) (h1 : gk G + dk ≤ (gR G).cells) (h2 : gn G + dn ≤ (gR G).slots) : CX G1 cc own := by
  obtain ⟨ad2, rfl, -⟩ := S
  obtain ⟨p, l, e, Rm, kc, nc, d, s, m, args, below, meth, c, D, cA, ad, A, lay, Q, nL, r, sf⟩ := G
  obtain ⟨hx, hb, hml, hown, hts, hK, hN, hA, hRd, hRl, hRk, hRn⟩ := C
  exact ⟨hx, hb, hml, hown, hts, hK, hN, hA, hRd, hRl, h1, h2⟩
theorem GS.ly (S : GS G G1 lay1 dk dn) : gly G1 = lay1 := by obtain ⟨ad2, rfl, -⟩ := S; rfl
theorem GS.k (S : GS G G1 lay1 dk dn) : gk G1 = gk G + dk := by obtain ⟨ad2, rfl, -⟩ := S; rfl
theorem GS.n (S : GS G G1 lay1 dk dn) : gn G1 = gn G + dn := by obtain ⟨ad2, rfl, -⟩ := S; rfl
theorem GS.R (S : GS G G1 lay1 dk dn) : gR G1 = gR G := by obtain ⟨ad2, rfl, -⟩ := S; rfl
theorem GS.d (S : GS G G1 lay1 dk dn) : gd G1 = gd G := by obtain ⟨ad2, rfl, -⟩ := S; rfl
theorem GS.nL (S : GS G G1 lay1 dk dn) : gnL G1 = gnL G := by obtain ⟨ad2, rfl, -⟩ := S; rfl
theorem GS.ad (S : GS G G1 lay1 dk dn) {j : Nat} (h : j < (gly G).length) : gad G1 j = gad G j := by obtain ⟨ad2, rfl, h2⟩ := S; exact h2 j h
end GSS
def am_Qk (D : va_G) (cA : Nat → ClassId) (ad0 : Nat → Nat) (n0 : Nat) (lay1 : Ly) (A : Nat → Prop) (sf : Mm) : Array Value → State → Outcome → State → Prop := fun _ s0 oc t => oc = .returned none ∧ (∃ ad1 : Nat → Nat, (∀ j, j < n0 → ad1 j = ad0 j) ∧ va_P D CLS (am_w ad1 cA sf lay1) t.heap ∧ va_D A (am_w ad1 cA sf lay1)) ∧ va_F A s0 t
def rmk (d mc ms : Nat) : Room := { frames := d, cells := mc, slots := ms, locals := 64 * d }
def ConK (d : Nat) (y : MethodName) (bytes : ByteArray) (lay : Ly) (c0 : Nat) (st : Mm) (lay1 : Ly) (sf : Mm) (mc ms : Nat) : Prop :=
  ∀ (l : Launch) (D : va_G) (cA : Nat → ClassId) (ad : Nat → Nat) (sz : Nat), Met l y (.code y bytes 1 none :: TB) (rmk d mc ms) (va_Pc [.ref (ad c0)] (am_B D cA ad lay st sz)) (am_Qk D cA ad lay.length lay1 (va_A (am_w ad cA st lay) sz) sf) mc ms (va_A (am_w ad cA st lay) sz)
def CK (G : Cx) (ad0 : Nat → Nat) (n0 : Nat) (lay1 : Ly) (s1 : Mm) (mc ms : Nat) : Prop := match G with
  | (p, l, e, Rm, kc, nc, d, s, m, args, below, meth, c, D, cA, ad, A, lay, Q, nL, r, sf) => meth.sig.returnType = none ∧ meth.locks = false ∧ meth.name = "<init>" ∧ Q = MQ below (am_Qk D cA ad0 n0 lay1 A s1) args s mc ms A
theorem GS.ck {G G1 : Cx} {lay1 lay9 : Ly} {dk dn n0 mc ms : Nat} {ad0 : Nat → Nat} {s1 : Mm} (S : GS G G1 lay1 dk dn) (K : CK G ad0 n0 lay9 s1 mc ms) : CK G1 ad0 n0 lay9 s1 mc ms := by
  obtain ⟨ad2, rfl, -⟩ := S
  obtain ⟨p, l, e, Rm, kc, nc, d, s, m, args, below, meth, c, D, cA, ad, A, lay, Q, nL, r, sf⟩ := G
  exact K
def lwf (lay : Ly) : Bool := lay.all (fun x => match x with
  | .inl _ => true
  | .inr o => o.2.all (fun f => match f with
    | some (some r) => decide (r < lay.length)
    | _ => true))
theorem lwf_at {lay : Ly} (h : lwf lay = true) {k ci : Nat} {fs : List (Option (Option Nat))} (hk : lay[k]? = some (.inr (ci, fs))) {j r : Nat} (hj : fs[j]? = some (some (some r))) : r < lay.length := by
  have h1 := List.all_eq_true.mp h _ (List.mem_of_getElem? hk)
  have h2 := List.all_eq_true.mp h1 _ (List.mem_of_getElem? hj)
  exact of_decide_eq_true h2
theorem am_ce_ag {ad ad2 : Nat → Nat} {cA : Nat → ClassId} {st st2 : Mm} {lay : Ly} {k : Nat} {x : Le} (hw : lwf lay = true) (hk : lay[k]? = some x) (ha : ∀ j, j < lay.length → ad2 j = ad j) (h1 : st2.1 k = st.1 k) (h2 : st2.2 k = st.2 k) : am_ce ad2 cA st2 k x = am_ce ad cA st k x := by
  cases x with
  | inl a => simp [am_ce, h1, h2]
  | inr o =>
    obtain ⟨ci, fs⟩ := o
    simp only [am_ce, am_fs]
    congr 2
    apply List.ext_getElem?
    intro j
    simp only [List.getElem?_mapIdx]
    cases hj : fs[j]? with
    | none => rfl
    | some f => cases f with
      | none => simp [am_fv, h1]
      | some g => cases g with
        | none => rfl
        | some r => simp [am_fv, ha r (lwf_at hw hk hj)]
theorem am_w_ext {ad ad2 : Nat → Nat} {cA : Nat → ClassId} {st st2 : Mm} {lay : Ly} {x : Le} (hw : lwf lay = true) (ha : ∀ j, j < lay.length → ad2 j = ad j) (h1 : ∀ a, a < lay.length → st2.1 a = st.1 a) (h2 : ∀ a, a < lay.length → st2.2 a = st.2 a) : am_w ad2 cA st2 (lay ++ [x]) = am_w ad cA st lay ++ [(ad2 lay.length, am_ce ad2 cA st2 lay.length x)] := by
  apply List.ext_getElem?
  intro k
  by_cases hk : k < lay.length
  · have hl : k < (am_w ad cA st lay).length := by simpa [am_w] using hk
    rw [List.getElem?_append_left hl]
    obtain ⟨y, hy⟩ : ∃ y, lay[k]? = some y := ⟨lay[k], List.getElem?_eq_getElem hk⟩
    rw [am_w_at hy, am_w_at (x := y) (by rw [List.getElem?_append_left hk]; exact hy), ha k hk, am_ce_ag hw hy ha (h1 k hk) (h2 k hk)]
  · have hl : (am_w ad cA st lay).length = lay.length := by simp [am_w]
    by_cases he : k = lay.length
    · subst he
      rw [List.getElem?_append_right (by omega), am_w_at (x := x) (by simp)]
      simp [hl]
    · rw [List.getElem?_eq_none (by simp [am_w]; omega), List.getElem?_eq_none (by simp [am_w]; omega)]
theorem am_w_set2 {ad : Nat → Nat} {cA : Nat → ClassId} {st : Mm} {lay : Ly} {c : Nat} {x y : Le} (h : lay[c]? = some x) : (am_w ad cA st lay).set c (ad c, am_ce ad cA st c y) = am_w ad cA st (lay.set c y) := by
  apply List.ext_getElem?
  intro k
  have hl := (List.getElem?_eq_some_iff.mp h).1
  by_cases hk : k = c
  · subst hk
    rw [List.getElem?_set_self (by simpa [am_w] using hl), am_w_at (x := y) (by rw [List.getElem?_set_self hl])]
  · rw [List.getElem?_set_ne (Ne.symm hk)]
    simp only [am_w, List.getElem?_mapIdx]
    rw [List.getElem?_set_ne (Ne.symm hk)]
def FN (T : u_T) (N : Nat) (fk : List (Option (Option Nat))) : Prop := ∃ ty : Nat → FieldType, (∀ k, k < N → parseFieldDescriptor (T k).2.2.1 = some (ty k)) ∧ fk.length = N ∧ ∀ j, j < N → (fk[j]? = some none ∧ defaultValue (ty j) = .int 0) ∨ (fk[j]? = some (some none) ∧ defaultValue (ty j) = .null)
section KR
variable {G : Cx} {cc : ByteArray} {own : String} {st : Mm} {pc pn : Nat} {ls : List (Nat × Value)} {rest : List Value}
abbrev ag2 (G : Cx) (lsf : (Nat → Nat) → List (Nat × Value)) (skf : (Nat → Nat) → List Value) : Prop := ∀ a b : Nat → Nat, (∀ j, j < (gly G).length → a j = b j) → lsf a = lsf b ∧ skf a = skf b
theorem aw_new (C : CX G cc own) {ci N index : Nat} {Rn : String} {T : u_T} {fk : List (Option (Option Nat))} (lsf : (Nat → Nat) → List (Nat × Value)) (skf : (Nat → Nat) → List Value) (F : FC ci Rn T N) (Fn : FN T N fk) (hw : lwf (gly G) = true) (hcl : Cond.classLink own index Rn ∈ TB) (hin : Cond.instantiable Rn N ∈ TB) (hini : Cond.initialized Rn ∈ TB) (h1 : gk G + 1 ≤ (gR G).cells) (h2 : gn G + N ≤ (gR G).slots) (hag : ag2 G lsf skf) (hd : decode cc pc = .ok (.new index, 3)) (hp : pc + 3 = pn)
    (kk : ∀ G1, GS G G1 (gly G ++ [.inr (ci, fk)]) 1 N → AW G1 (sZ st (gly G).length) pn (lsf (gad G1)) (.ref (gad G1 (gly G).length) :: skf (gad G1))) : AW G st pc (lsf (gad G)) (skf (gad G)) := by
  obtain ⟨p, l, e, Rm, kc, nc, d, s, m, args, below, meth, c, D, cA, ad, A, lay, Q, nL, r, sf⟩ := G
  obtain ⟨hx, hb, hml, hown, hts, hK, hN, hA, hRd, hRl, hRk, hRn⟩ := C
  subst hp
  have hw : lwf lay = true := hw
  have h1 : kc + 1 ≤ Rm.cells := h1
  have h2 : nc + N ≤ Rm.slots := h2
  obtain ⟨hc, hinn, -⟩ := F
  obtain ⟨ty, hty, hlen, hdf⟩ := Fn
  intro H locs la hP hD hS hl
  refine va_new (ci := ci) (fs := am_fs ad (sZ st lay.length) lay.length fk) hx hb hts hinn ty hty hown (hts _ hcl) (hts _ hin) (hts _ hini) hK hP hD hS hA hc ?_ h1 h2 hd (fun q H1 hP1 hD1 hS1 => ?_)
  · intro j hj
    rcases hdf j hj with ⟨a, b⟩ | ⟨a, b⟩
    · rw [b, vp_V, List.getD_eq_getElem?_getD, am_fs_at a]
      simp [am_fv, sZ_1]
    · rw [b, vp_V, List.getD_eq_getElem?_getD, am_fs_at a]
      simp [am_fv]
  · obtain ⟨ad2, hq⟩ : ∃ z : Nat → Nat, z = fun j => if j = lay.length then q else ad j := ⟨_, rfl⟩
    have ha : ∀ j, j < lay.length → ad2 j = ad j := fun j hj => by rw [hq]; exact if_neg (Nat.ne_of_lt hj)
    have hl2 : ad2 lay.length = q := by rw [hq]; exact if_pos rfl
    have ew : am_w ad2 cA (sZ st lay.length) (lay ++ [.inr (ci, fk)]) = am_w ad cA st lay ++ [(q, .inr (ci, am_fs ad (sZ st lay.length) lay.length fk))] := by
      rw [am_w_ext hw ha (fun a h => sZ_n1 (Nat.ne_of_lt h)) (fun a h => sZ_n2 (Nat.ne_of_lt h)), hl2]
      congr 3
      simp only [am_ce, am_fs]
      congr 2
      apply List.ext_getElem?
      intro j
      simp only [List.getElem?_mapIdx]
      by_cases hj : j < N
      · rcases hdf j hj with ⟨a, b⟩ | ⟨a, b⟩
        · rw [a]; rfl
        · rw [a]; rfl
      · rw [List.getElem?_eq_none (by omega)]; rfl
    obtain ⟨e1, e2⟩ := hag ad2 ad ha
    have hP2 : va_P D CLS (am_w ad2 cA (sZ st lay.length) (lay ++ [.inr (ci, fk)])) H1 := by rw [ew]; exact hP1
    have hD2 : va_D A (am_w ad2 cA (sZ st lay.length) (lay ++ [.inr (ci, fk)])) := by rw [ew]; exact hD1
    have hv2 : lv_has la nL (lsf ad2) := by rw [e1]; exact hl
    have hGS : GS (p, l, e, Rm, kc, nc, d, s, m, args, below, meth, c, D, cA, ad, A, lay, Q, nL, r, sf) (setc (p, l, e, Rm, kc, nc, d, s, m, args, below, meth, c, D, cA, ad, A, lay, Q, nL, r, sf) ad2 (lay ++ [(.inr (ci, fk) : Le)]) (kc + 1) (nc + N)) (lay ++ [(.inr (ci, fk) : Le)]) 1 N := ⟨ad2, rfl, ha⟩
    have K0 := kk _ hGS
    have K : W p l e Rm s m args below meth c H1 locs (kc + 1) (nc + N) Q (F0 m (pc + 3) la (.ref (ad2 lay.length) :: skf ad2)) := K0 H1 locs la hP2 hD2 hS1 hv2
    rw [hl2, e2] at K
    exact K
theorem aw_newarr (C : CX G cc own) {ak N : Nat} {i : Int32} {atype : ArrayType} (lsf : (Nat → Nat) → List (Nat × Value)) (skf : (Nat → Nat) → List Value) (hak : (ak = 0 ∧ atype = .int) ∨ (ak = 1 ∧ atype = .boolean) ∨ (ak = 2 ∧ atype = .byte) ∨ (ak = 3 ∧ atype = .long)) (hw : lwf (gly G) = true) (hac : Cond.arrayClass (newarray.typeOf atype) ∈ TB) (h0 : ¬ i < 0) (hi : i.toNatClampNeg = N) (hbt : N ≤ 20000) (h1 : gk G + 1 ≤ (gR G).cells) (h2 : gn G + N ≤ (gR G).slots) (hag : ag2 G lsf skf) (hd : decode cc pc = .ok (.newarray atype, 2)) (hp : pc + 2 = pn)
    (kk : ∀ G1, GS G G1 (gly G ++ [.inl (ak, N)]) 1 N → AW G1 (sZ st (gly G).length) pn (lsf (gad G1)) (.ref (gad G1 (gly G).length) :: skf (gad G1))) : AW G st pc (lsf (gad G)) (.int i :: skf (gad G)) := by
  obtain ⟨p, l, e, Rm, kc, nc, d, s, m, args, below, meth, c, D, cA, ad, A, lay, Q, nL, r, sf⟩ := G
  obtain ⟨hx, hb, hml, hown, hts, hK, hN, hA, hRd, hRl, hRk, hRn⟩ := C
  subst hp
  have hw : lwf lay = true := hw
  have h1 : kc + 1 ≤ Rm.cells := h1
  have h2 : nc + N ≤ Rm.slots := h2
  intro H locs la hP hD hS hl
  obtain ⟨a0, ha0⟩ : ∃ z : vp_A, z = (N, if ak = 3 then .inr (.inl (fun _ => 0)) else .inl (fun _ => 0)) := ⟨_, rfl⟩
  have hbb : N * componentBytes (newarray.typeOf atype) ≤ 536870912 := by
    rcases hak with ⟨rfl, rfl⟩ | ⟨rfl, rfl⟩ | ⟨rfl, rfl⟩ | ⟨rfl, rfl⟩
    all_goals (simp only [newarray.typeOf, componentBytes]; omega)
  refine va_newa (a0 := a0) hx hb (hts _ hac) rfl hK hP hD hS hA ?_ h0 hi hbb h1 h2 hd (fun q cB H1 hK1 hP1 hD1 hS1 => ?_)
  · intro cB
    rw [ha0]
    rcases hak with ⟨rfl, rfl⟩ | ⟨rfl, rfl⟩ | ⟨rfl, rfl⟩ | ⟨rfl, rfl⟩ <;> rfl
  · have hcB : cB = cA ak := by
      have g1 := (hK1.2 4 (cB, newarray.typeOf atype) rfl).2
      rcases hak with ⟨rfl, rfl⟩ | ⟨rfl, rfl⟩ | ⟨rfl, rfl⟩ | ⟨rfl, rfl⟩
      · exact Option.some.inj (g1.symm.trans (hK.2 0 (cA 0, .int) rfl).2)
      · exact Option.some.inj (g1.symm.trans (hK.2 1 (cA 1, .boolean) rfl).2)
      · exact Option.some.inj (g1.symm.trans (hK.2 2 (cA 2, .byte) rfl).2)
      · exact Option.some.inj (g1.symm.trans (hK.2 3 (cA 3, .long) rfl).2)
    subst hcB
    obtain ⟨ad2, hq⟩ : ∃ z : Nat → Nat, z = fun j => if j = lay.length then q else ad j := ⟨_, rfl⟩
    have ha : ∀ j, j < lay.length → ad2 j = ad j := fun j hj => by rw [hq]; exact if_neg (Nat.ne_of_lt hj)
    have hl2 : ad2 lay.length = q := by rw [hq]; exact if_pos rfl
    have ew : am_w ad2 cA (sZ st lay.length) (lay ++ [.inl (ak, N)]) = am_w ad cA st lay ++ [(q, .inl (cA ak, a0))] := by
      rw [am_w_ext hw ha (fun a h => sZ_n1 (Nat.ne_of_lt h)) (fun a h => sZ_n2 (Nat.ne_of_lt h)), hl2, ha0]
      simp only [am_ce, sZ_1, sZ_2]
    obtain ⟨e1, e2⟩ := hag ad2 ad ha
    have hP2 : va_P D CLS (am_w ad2 cA (sZ st lay.length) (lay ++ [.inl (ak, N)])) H1 := by rw [ew]; exact hP1
    have hD2 : va_D A (am_w ad2 cA (sZ st lay.length) (lay ++ [.inl (ak, N)])) := by rw [ew]; exact hD1
    have hv2 : lv_has la nL (lsf ad2) := by rw [e1]; exact hl
    have hGS : GS (p, l, e, Rm, kc, nc, d, s, m, args, below, meth, c, D, cA, ad, A, lay, Q, nL, r, sf) (setc (p, l, e, Rm, kc, nc, d, s, m, args, below, meth, c, D, cA, ad, A, lay, Q, nL, r, sf) ad2 (lay ++ [(.inl (ak, N) : Le)]) (kc + 1) (nc + N)) (lay ++ [(.inl (ak, N) : Le)]) 1 N := ⟨ad2, rfl, ha⟩
    have K0 := kk _ hGS
    have K : W p l e Rm s m args below meth c H1 locs (kc + 1) (nc + N) Q (F0 m (pc + 2) la (.ref (ad2 lay.length) :: skf ad2)) := K0 H1 locs la hP2 hD2 hS1 hv2
    rw [hl2, e2] at K
    exact K
theorem am_fs_putr {ad : Nat → Nat} {st : Mm} {q0 k r0 : Nat} {fs : List (Option (Option Nat))} {f0 : Option (Option Nat)} (hf : fs[k]? = some f0) : (am_fs ad st q0 fs).set k (.ref (ad r0)) = am_fs ad st q0 (fs.set k (some (some r0))) := by
  apply List.ext_getElem?
  intro j
  have hlf := (List.getElem?_eq_some_iff.mp hf).1
  have hlen : k < (am_fs ad st q0 fs).length := by simpa [am_fs] using hlf
  by_cases hj : j = k
  · subst hj
    rw [List.getElem?_set_self hlen, am_fs_at (f := some (some r0)) (by rw [List.getElem?_set_self hlf])]
    simp only [am_fv]
  · rw [List.getElem?_set_ne (Ne.symm hj)]
    simp only [am_fs, List.getElem?_mapIdx]
    rw [List.getElem?_set_ne (Ne.symm hj)]
theorem am_w_putr {ad : Nat → Nat} {cA : Nat → ClassId} {st : Mm} {lay : Ly} {ci q0 k r0 : Nat} {fs : List (Option (Option Nat))} {f0 : Option (Option Nat)} (hl : lay[q0]? = some (.inr (ci, fs))) (hf : fs[k]? = some f0) : (am_w ad cA st lay).set q0 (ad q0, .inr (ci, (am_fs ad st q0 fs).set k (.ref (ad r0)))) = am_w ad cA st (lay.set q0 (.inr (ci, fs.set k (some (some r0))))) := by
  rw [am_fs_putr hf]
  exact am_w_set2 (y := .inr (ci, fs.set k (some (some r0)))) hl
theorem aw_putr (C : CX G cc own) {ci q0 k N index r0 n0 mc ms : Nat} {Rn : String} {T : u_T} {fs : List (Option (Option Nat))} {lay9 : Ly} {s9 : Mm} {ad0 : Nat → Nat} (K : CK G ad0 n0 lay9 s9 mc ms) (F : FC ci Rn T N) (hl : (gly G)[q0]? = some (.inr (ci, fs))) (hf : fs[k]? = some (some none)) (hk : k < N) (hfin : (T k).2.2.2 = true) (hown2 : (T k).1 = own) (hdsc : ∃ ty, parseFieldDescriptor (T k).2.2.1 = some ty ∧ (∀ x : Nat, narrow ty (.ref x) = .ref x) ∧ ∀ x : Nat, fits ty (.ref x) = true) (hw : Cond.fieldLink own index (T k).1 (T k).2.1 (T k).2.2.1 ∈ TB) (lay2 : Ly) (hly : (gly G).set q0 (.inr (ci, fs.set k (some (some r0)))) = lay2) (hd : decode cc pc = .ok (.putfield index, 3)) (hp : pc + 3 = pn)
    (kk : ∀ G1, GS G G1 lay2 0 0 → gad G1 = gad G → AW G1 st pn ls rest) : AW G st pc ls (.ref (gad G r0) :: .ref (gad G q0) :: rest) := by
  obtain ⟨p, l, e, Rm, kc, nc, d, s, m, args, below, meth, c, D, cA, ad, A, lay, Q, nL, r, sf⟩ := G
  obtain ⟨hx, hb, hml, hown, hts, hK, hN, hA, hRd, hRl, hRk, hRn⟩ := C
  subst hp
  obtain ⟨-, -, hin2, -⟩ := K
  obtain ⟨hc, hin, ty0, hty, hnm⟩ := F
  obtain ⟨ty, hds, hn1, hf1⟩ := hdsc
  have hl : lay[q0]? = some (.inr (ci, fs)) := hl
  intro H locs la hP hD hS hv
  have hlen : k < (am_fs ad st q0 fs).length := by simpa [am_fs] using (List.getElem?_eq_some_iff.mp hf).1
  refine va_putF (D := D) (ty := ty) (v := .ref (ad r0)) hx hb hts hin ty0 hty hnm hown hK hP hD hS q0 (am_w_at hl) hc k hk (hts _ hw) (fun _ h9 => h9) hfin hin2 hown2 hds (hn1 _) (hf1 _) hlen hd (fun H1 locs1 hP1 hD1 hS1 => ?_)
  have ew := am_w_putr (ad := ad) (cA := cA) (st := st) (r0 := r0) hl hf
  have hly : lay.set q0 (.inr (ci, fs.set k (some (some r0)))) = lay2 := hly
  rw [hly] at ew
  have hP2 : va_P D CLS (am_w ad cA st lay2) H1 := by rw [← ew]; exact hP1
  have hD2 : va_D A (am_w ad cA st lay2) := by rw [← ew]; exact hD1
  have hGS : GS (p, l, e, Rm, kc, nc, d, s, m, args, below, meth, c, D, cA, ad, A, lay, Q, nL, r, sf) (setc (p, l, e, Rm, kc, nc, d, s, m, args, below, meth, c, D, cA, ad, A, lay, Q, nL, r, sf) ad lay2 (kc + 0) (nc + 0)) lay2 0 0 := ⟨ad, rfl, fun _ _ => rfl⟩
  have hga : gad (setc (p, l, e, Rm, kc, nc, d, s, m, args, below, meth, c, D, cA, ad, A, lay, Q, nL, r, sf) ad lay2 (kc + 0) (nc + 0)) = gad (p, l, e, Rm, kc, nc, d, s, m, args, below, meth, c, D, cA, ad, A, lay, Q, nL, r, sf) := (show ad = ad from rfl)
  have K0 := kk _ hGS hga
  have K : W p l e Rm s m args below meth c H1 locs1 (kc + 0) (nc + 0) Q (F0 m (pc + 3) la rest) := K0 H1 locs1 la hP2 hD2 hS1 hv
  exact K
theorem aw_obj (C : CX G cc own) {index a : Nat} (h1 : 1 ≤ gd G) (hr8 : (rest.map fun v => v.category).sum ≤ 8) (hw : Cond.methodLink own index objectInit ∈ TB) (hw2 : Cond.instanceMethod objectInit ∈ TB) (hw3 : Cond.code objectInit ⟨#[0xb1]⟩ 1 none ∈ TB) (hd : decode cc pc = .ok (.invokespecial index, 3)) (hp : pc + 3 = pn) (kk : AW G st pn ls rest) : AW G st pc ls (.ref a :: rest) := by
  obtain ⟨p, l, e, Rm, kc, nc, d, s, m, args, below, meth, c, D, cA, ad, A, lay, Q, nL, r, sf⟩ := G
  obtain ⟨hx, hb, hml, hown, hts, hK, hN, hA, hRd, hRl, hRk, hRn⟩ := C
  subst hp
  have h1 : 1 ≤ d := h1
  intro H locs la hP hD hS hl
  exact W.objInit hx hb hown (hts _ hw) (hts _ hw2) (hts _ hw3) rfl (by rw [hml]; exact hl.1) rfl hd (Nat.le_trans h1 hRd) (by show 2 * 0 + _ + 12 ≤ _; omega) (kk H locs la hP hD hS hl)
theorem aw_cret (C : CX G cc own) {n0 mc ms : Nat} {lay9 : Ly} {s9 : Mm} {ad0 : Nat → Nat} (K : CK G ad0 n0 lay9 s9 mc ms) (h1 : ∀ j, j < n0 → gad G j = ad0 j) (h2 : gly G = lay9) (h3 : s9 = st) (h4 : gk G = mc) (h5 : gn G = ms) (hd : decode cc pc = .ok (.return_, 1)) : AW G st pc ls [] := by
  obtain ⟨p, l, e, Rm, kc, nc, d, s, m, args, below, meth, c, D, cA, ad, A, lay, Q, nL, r, sf⟩ := G
  obtain ⟨hx, hb, hml, hown, hts, hK, hN, hA, hRd, hRl, hRk, hRn⟩ := C
  obtain ⟨hr, hlk, -, hQ⟩ := K
  have h2 : lay = lay9 := h2
  have h4 : kc = mc := h4
  have h5 : nc = ms := h5
  subst h2; subst h3; subst h4; subst h5; subst hQ
  intro H locs la hP hD hS hl
  exact W.vret hx hb hr (fun t ht hW => ⟨rfl, ⟨ad, h1, by rw [ht]; exact hP, hD⟩, hS.F ht⟩) hS.2.2 hd
theorem am_contK {p : Program} {l : Launch} {e : Env} {R : Room} {s : State} {m : MethodId} {args : Array Value} {below : List Frame} {meth : Method} {c : Code} {H : Heap} {locs : List Loc} {Q : State → Prop} {la : Array Slot} {st0 : List Value} {a : Array Value} {A0 A1 : Nat → Prop} {D : va_G} {cA : Nat → ClassId} {ad : Nat → Nat} {n0 mc ms : Nat} {lay1 : Ly} {s1 : Mm} {kc nc : Nat} (hr : va_Run p l e R s m args below meth c H locs kc nc mc ms (F0 m pc la st0) rest (am_Qk D cA ad n0 lay1 A1 s1 a) A1) (hS : va_S A0 s.heap H locs) (hA : ∀ q, A1 q → A0 q)
    (kk : ∀ (ad1 : Nat → Nat) (H1 : Heap) (locs1 : List Loc), (∀ j, j < n0 → ad1 j = ad j) → va_P D CLS (am_w ad1 cA s1 lay1) H1 → va_D A0 (am_w ad1 cA s1 lay1) → va_S A0 s.heap H1 locs1 → W p l e R s m args below meth c H1 locs1 (kc + mc) (nc + ms) Q (F0 m (pc + 3) la rest)) : W p l e R s m args below meth c H locs kc nc Q (F0 m pc la st0) := by
  intro T hT X
  obtain ⟨v, st₀, t, T2, L, h0, X2, hL, e1, e2, ⟨hv, ⟨ad1, ha1, hP1, hD1⟩, hz, hk⟩, st9⟩ := hr T hT X
  cases hv
  rw [h0] at hz hk
  obtain ⟨t2, a1, b1⟩ := kk ad1 T2.heap (locs ++ L) ha1 (by rw [e1]; exact hP1) (hD1.weaken (fun _ _ _ h => hA _ h))
    ⟨Nat.le_trans hS.1 (by rw [e1]; exact hz), fun q h1 h2 => by rw [e1, hk q (Nat.lt_of_lt_of_le h1 hS.1) (fun z => h2 (hA q z))]; exact hS.2.1 q h1 h2, fun q hq => by
      rcases List.mem_append.mp hq with h | h
      · exact hS.2.2 q h
      · exact hA _ (hL q h)⟩ T2 rfl X2
  exact ⟨t2, st9 t2 a1, b1⟩
theorem aw_ctor (C : CX G cc own) {y : MethodName} {bytes : ByteArray} {d0 index c0 mc ms : Nat}  {lay1 : Ly} {s1 : Mm} (lsf : (Nat → Nat) → List (Nat × Value)) (skf : (Nat → Nat) → List Value) (hM : ConK d0 y bytes (gly G) c0 st lay1 s1 mc ms) (hlk : Cond.methodLink own index y ∈ TB) (Y : YF y bytes 1 none 0) (hyn : y.name = "<init>") (hin : Cond.instanceMethod y ∈ TB) (hag : ag2 G lsf skf) (hc0 : ∃ x, (gly G)[c0]? = some x) (hd0 : d0 + 1 ≤ gd G) (hr8 : ((skf (gad G)).map fun v => v.category).sum ≤ 8) (h1 : gk G + mc ≤ (gR G).cells) (h2 : gn G + ms ≤ (gR G).slots) (hd : decode cc pc = .ok (.invokespecial index, 3)) (hp : pc + 3 = pn)
    (kk : ∀ G1, GS G G1 lay1 mc ms → AW G1 s1 pn (lsf (gad G1)) (skf (gad G1))) : AW G st pc (lsf (gad G)) (.ref (gad G c0) :: skf (gad G)) := by
  obtain ⟨p, l, e, Rm, kc, nc, d, s, m, args, below, meth, c, D, cA, ad, A, lay, Q, nL, r, sf⟩ := G
  obtain ⟨hx, hb, hml, hown, hts, hK, hN, hA, hRd, hRl, hRk, hRn⟩ := C
  subst hp
  have hd0 : d0 + 1 ≤ d := hd0
  have h1 : kc + mc ≤ Rm.cells := h1
  have h2 : nc + ms ≤ Rm.slots := h2
  intro H locs la hP hD hS hv
  have hF := am_fr (H := H) hD hS hA
  obtain ⟨hcd, hini, hy, hn, hmx, -⟩ := Y
  have hpl : ∀ sig, parseMethodDescriptor y.desc = some sig → 0 = sig.parameters.length := fun sig h => by
    rw [h] at hn
    exact (Option.some.inj hn).symm
  have hpre : PreS s H (va_Pc [.ref (ad c0)] (am_B D cA ad lay st H.size)) (.ref (ad c0) :: []) := ⟨am_blind, fun U hU hW => ⟨rfl, by rw [hU], by rw [hU]; exact hP, va_K.moved hW.alike hK, hD.weaken (fun _ _ _ _ => trivial), am_N.warm hW hN⟩⟩
  refine am_contK (va_runI (As := []) (rest := skf ad) (n := 0) ⟨hx, hb, hml, hown, hts⟩ (hM l D cA ad H.size) ⟨⟨rfl, rfl, Nat.le_trans hd0 hRd, (by show 8 + (1 + 11) + 64 * d0 ≤ _; omega), pay_in hts (tb_good hcd), List.mem_cons_self, hts _ hcd, hts _ hini, hy, hpl, hts _ hlk⟩, hyn, hts _ hin⟩ hpre rfl rfl hv.1 rfl (lv_room hr8) hd ⟨h1, h2⟩) hS hF (fun ad1 H1 locs1 ha1 hP1 hD1 hS1 => ?_)
  obtain ⟨e1, e2⟩ := hag ad1 ad ha1
  have hv2 : lv_has la nL (lsf ad1) := by rw [e1]; exact hv
  have hGS : GS (p, l, e, Rm, kc, nc, d, s, m, args, below, meth, c, D, cA, ad, A, lay, Q, nL, r, sf) (setc (p, l, e, Rm, kc, nc, d, s, m, args, below, meth, c, D, cA, ad, A, lay, Q, nL, r, sf) ad1 lay1 (kc + mc) (nc + ms)) lay1 mc ms := ⟨ad1, rfl, ha1⟩
  have K0 := kk _ hGS
  have K : W p l e Rm s m args below meth c H1 locs1 (kc + mc) (nc + ms) Q (F0 m (pc + 3) la (skf ad1)) := K0 H1 locs1 la hP1 hD1 hS1 hv2
  rw [e2] at K
  exact K
theorem aw_ctorN (C : CX G cc own) {y : MethodName} {bytes : ByteArray} {d0 index c0 mc ms : Nat} {host : String} {lay1 : Ly} {s1 : Mm} (lsf : (Nat → Nat) → List (Nat × Value)) (skf : (Nat → Nat) → List Value) (hM : ConK d0 y bytes (gly G) c0 st lay1 s1 mc ms) (hlk : Cond.methodLinkNest own index y host ∈ NWL) (Y : YF y bytes 1 none 0) (hyn : y.name = "<init>") (hin : Cond.instanceMethod y ∈ TB) (hag : ag2 G lsf skf) (hc0 : ∃ x, (gly G)[c0]? = some x) (hd0 : d0 + 1 ≤ gd G) (hr8 : ((skf (gad G)).map fun v => v.category).sum ≤ 8) (h1 : gk G + mc ≤ (gR G).cells) (h2 : gn G + ms ≤ (gR G).slots) (hd : decode cc pc = .ok (.invokespecial index, 3)) (hp : pc + 3 = pn)
    (kk : ∀ G1, GS G G1 lay1 mc ms → AW G1 s1 pn (lsf (gad G1)) (skf (gad G1))) : AW G st pc (lsf (gad G)) (.ref (gad G c0) :: skf (gad G)) := by
  obtain ⟨p, l, e, Rm, kc, nc, d, s, m, args, below, meth, c, D, cA, ad, A, lay, Q, nL, r, sf⟩ := G
  obtain ⟨hx, hb, hml, hown, hts, hK, hN, hA, hRd, hRl, hRk, hRn⟩ := C
  subst hp
  have hd0 : d0 + 1 ≤ d := hd0
  have h1 : kc + mc ≤ Rm.cells := h1
  have h2 : nc + ms ≤ Rm.slots := h2
  intro H locs la hP hD hS hv
  have hF := am_fr (H := H) hD hS hA
  obtain ⟨hcd, hini, hy, hn, hmx, -⟩ := Y
  have hpl : ∀ sig, parseMethodDescriptor y.desc = some sig → 0 = sig.parameters.length := fun sig h => by
    rw [h] at hn
    exact (Option.some.inj hn).symm
  have hpre : PreS s H (va_Pc [.ref (ad c0)] (am_B D cA ad lay st H.size)) (.ref (ad c0) :: []) := ⟨am_blind, fun U hU hW => ⟨rfl, by rw [hU], by rw [hU]; exact hP, va_K.moved hW.alike hK, hD.weaken (fun _ _ _ _ => trivial), am_N.warm hW hN⟩⟩
  refine am_contK (va_runIN (As := []) (rest := skf ad) (n := 0) ⟨hx, hb, hml, hown, hts⟩ (hM l D cA ad H.size) ⟨⟨⟨rfl, rfl, Nat.le_trans hd0 hRd, (by show 8 + (1 + 11) + 64 * d0 ≤ _; omega), pay_in hts (tb_good hcd), List.mem_cons_self⟩, hts _ hcd, hts _ hini, hy, hpl, va_Nw.use rfl (hN _ hlk)⟩, hyn, hts _ hin⟩ hpre rfl rfl hv.1 rfl (lv_room hr8) hd ⟨h1, h2⟩) hS hF (fun ad1 H1 locs1 ha1 hP1 hD1 hS1 => ?_)
  obtain ⟨e1, e2⟩ := hag ad1 ad ha1
  have hv2 : lv_has la nL (lsf ad1) := by rw [e1]; exact hv
  have hGS : GS (p, l, e, Rm, kc, nc, d, s, m, args, below, meth, c, D, cA, ad, A, lay, Q, nL, r, sf) (setc (p, l, e, Rm, kc, nc, d, s, m, args, below, meth, c, D, cA, ad, A, lay, Q, nL, r, sf) ad1 lay1 (kc + mc) (nc + ms)) lay1 mc ms := ⟨ad1, rfl, ha1⟩
  have K0 := kk _ hGS
  have K : W p l e Rm s m args below meth c H1 locs1 (kc + mc) (nc + ms) Q (F0 m (pc + 3) la (skf ad1)) := K0 H1 locs1 la hP1 hD1 hS1 hv2
  rw [e2] at K
  exact K
end KR
theorem am_metK {d : Nat} {y : MethodName} {bytes : ByteArray} {lay lay1 : Ly} {c0 mc ms : Nat} {st sf : Mm} (hy : plainName y.cls = true) (hyn : y.name = "<init>")
    (body : ∀ G : Cx, CX G bytes y.cls → CK G (gad G) lay.length lay1 sf mc ms → gly G = lay → gnL G = 1 → gk G = 0 → gn G = 0 → gR G = rmk d mc ms → gd G = d → AW G st 0 [(0, .ref (gad G c0))] []) : ConK d y bytes lay c0 st lay1 sf mc ms := by
  intro l D cA ad sz
  refine Met.ofW (cc := bytes) (maxL := 1) (ret := none) hy rfl ?_
  intro p e s m args below meth c s₁ B hml hv
  obtain ⟨rfl, hsz, hP, hK, hD0, hN⟩ := hv
  have hts : ∀ w ∈ TB, w.before [Value.ref (ad c0)].toArray s = true := fun w hw => atoms_spec (ws := .code y bytes 1 none :: TB) B.pre w (List.mem_cons_of_mem _ hw)
  have hown : s.vm.findClass y.cls = some m.cls := findClass_of_methodNamed B.named
  subst hsz
  have hD := hD0.self (sz := s.heap.size)
  have hl := lv_entry ([.ref (ad c0)]) (n := 1) (Nat.le_of_ble_eq_true rfl)
  rw [lg_entry_eq]
  exact body (p, l, e, rmk d mc ms, 0, 0, d, s, m, [Value.ref (ad c0)].toArray, below, meth, c, D, cA, ad, va_A (am_w ad cA st lay) s.heap.size, lay, MQ below (am_Qk D cA ad lay.length lay1 (va_A (am_w ad cA st lay) s.heap.size) sf) [Value.ref (ad c0)].toArray s mc ms (va_A (am_w ad cA st lay) s.heap.size), 1, none, sf) ⟨B.exec, B.bytes, hml, hown, hts, hK, hN, fun q h => Or.inr h, Nat.le_refl _, Nat.le_refl _, Nat.zero_le _, Nat.zero_le _⟩ ⟨B.returns, B.notSynchronized, (name_of_methodNamed B.named B.method).1.trans hyn, rfl⟩ rfl rfl rfl rfl rfl rfl s.heap [] _ hP hD va_S.rf hl
