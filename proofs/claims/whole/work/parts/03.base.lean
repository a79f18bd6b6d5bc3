/-! base: memory as rows of numbers, one row a cell; a walk's judgement over it -/
abbrev Mm : Type := (Nat → Nat → Int32) × (Nat → Nat → Int64)
abbrev Le : Type := (Nat × Nat) ⊕ (Nat × List (Option (Option Nat)))
abbrev Ly : Type := List Le
def am_fv (ad : Nat → Nat) (st : Mm) (c k : Nat) (f : Option (Option Nat)) : Value := match f with
  | none => .int (st.1 c k)
  | some none => .null
  | some (some r) => .ref (ad r)
def am_fs (ad : Nat → Nat) (st : Mm) (c : Nat) (fs : List (Option (Option Nat))) : List Value := fs.mapIdx (fun k f => am_fv ad st c k f)
def am_ce (ad : Nat → Nat) (cA : Nat → ClassId) (st : Mm) (c : Nat) (x : Le) : va_E := match x with
  | .inl a => .inl (cA a.1, a.2, if a.1 = 3 then .inr (.inl (st.2 c)) else .inl (st.1 c))
  | .inr o => .inr (o.1, am_fs ad st c o.2)
def am_w (ad : Nat → Nat) (cA : Nat → ClassId) (st : Mm) (lay : Ly) : va_W := lay.mapIdx (fun c x => (ad c, am_ce ad cA st c x))
def sR (st : Mm) (c : Nat) (f : Nat → Int32) : Mm := (fun a => if a = c then f else st.1 a, st.2)
def sI (st : Mm) (c j : Nat) (v : Int32) : Mm := sR st c (upd (st.1 c) j v)
def sL (st : Mm) (c j : Nat) (v : Int64) : Mm := (st.1, fun a => if a = c then vp_updL (st.2 c) j v else st.2 a)
theorem am_w_at {ad : Nat → Nat} {cA : Nat → ClassId} {st : Mm} {lay : Ly} {c : Nat} {x : Le} (h : lay[c]? = some x) : (am_w ad cA st lay)[c]? = some (ad c, am_ce ad cA st c x) := by
  simp [am_w, List.getElem?_mapIdx, h]
theorem am_w_set {ad : Nat → Nat} {cA : Nat → ClassId} {st st2 : Mm} {lay : Ly} {c : Nat} {x : Le} (h : lay[c]? = some x) (h1 : ∀ a, a ≠ c → st2.1 a = st.1 a) (h2 : ∀ a, a ≠ c → st2.2 a = st.2 a) : (am_w ad cA st lay).set c (ad c, am_ce ad cA st2 c x) = am_w ad cA st2 lay := by
  apply List.ext_getElem?
  intro k
  by_cases hk : k = c
  · subst hk
    rw [am_w_at h, List.getElem?_set_self]
    have := (List.getElem?_eq_some_iff.mp h).1
    simpa [am_w] using this
  · rw [List.getElem?_set_ne (Ne.symm hk)]
    simp only [am_w, List.getElem?_mapIdx]
    cases lay[k]? with
    | none => rfl
    | some y =>
      simp only [Option.map_some]
      congr 2
      cases y with
      | inl a => simp [am_ce, h1 k hk, h2 k hk]
      | inr o =>
        simp only [am_ce, am_fs]
        congr 2
        apply List.ext_getElem?
        intro j
        simp only [List.getElem?_mapIdx]
        cases o.2[j]? with
        | none => rfl
        | some f => cases f with
          | none => simp [am_fv, h1 k hk]
          | some g => cases g <;> rfl
theorem am_fs_at {ad : Nat → Nat} {st : Mm} {c k : Nat} {fs : List (Option (Option Nat))} {f : Option (Option Nat)} (h : fs[k]? = some f) : (am_fs ad st c fs)[k]? = some (am_fv ad st c k f) := by
  simp [am_fs, List.getElem?_mapIdx, h]
theorem am_fs_set {ad : Nat → Nat} {st : Mm} {c k : Nat} {fs : List (Option (Option Nat))} {v : Int32} (h : fs[k]? = some none) : (am_fs ad st c fs).set k (.int v) = am_fs ad (sI st c k v) c fs := by
  apply List.ext_getElem?
  intro j
  by_cases hj : j = k
  · subst hj
    have hl := (List.getElem?_eq_some_iff.mp h).1
    rw [List.getElem?_set_self (by simpa [am_fs] using hl), am_fs_at h]
    simp [am_fv, sI, sR, upd]
  · rw [List.getElem?_set_ne (Ne.symm hj)]
    simp only [am_fs, List.getElem?_mapIdx]
    cases fs[j]? with
    | none => rfl
    | some f => cases f with
      | none => simp [am_fv, sI, sR, upd, hj]
      | some g => cases g <;> rfl
theorem sR_ne {st : Mm} {c a : Nat} {f : Nat → Int32} (h : a ≠ c) : (sR st c f).1 a = st.1 a := by simp [sR, h]
theorem sL_ne {st : Mm} {c a j : Nat} {v : Int64} (h : a ≠ c) : (sL st c j v).2 a = st.2 a := by simp [sL, h]
abbrev inb (i : Int32) (n : Nat) : Prop := 0 ≤ i.toInt ∧ i.toInt < (n : Int)
theorem ift {α : Type} {c : Prop} [Decidable c] {a b z : α} (h : c) (e : (if c then a else b) = z) : a = z := by rw [if_pos h] at e; exact e
theorem iff_ {α : Type} {c : Prop} [Decidable c] {a b z : α} (h : ¬ c) (e : (if c then a else b) = z) : b = z := by rw [if_neg h] at e; exact e
theorem igd {α : Type} {c : Prop} [Decidable c] {a : Option α} {z : α} (e : (if c then a else none) = some z) : c ∧ a = some z := by
  by_cases h : c
  · exact ⟨h, ift h e⟩
  · exact absurd (iff_ h e) (by simp)
theorem ibd {α β : Type} {a : Option α} {f : α → Option β} {z : β} (e : a.bind f = some z) : ∃ q, a = some q ∧ f q = some z := Option.bind_eq_some_iff.mp e
def lt_ {α β : Type} (e : α) (b : α → β) : β := b e
theorem ilt {α β : Type} {e v : α} {b : α → β} {z : β} (h : v = e) (hf : lt_ e b = z) : b v = z := by subst h; exact hf
theorem irt {α β : Type} {a : α} {b : β} {q : α × β} (h : some (a, b) = some q) : a = q.1 ∧ b = q.2 := by cases h; exact ⟨rfl, rfl⟩
def rmd (d : Nat) : Room := { frames := d, cells := 0, slots := 0, locals := 64 * d }
abbrev am_ty (cA : Nat → ClassId) : List (ClassId × FieldType) := [(cA 0, .int), (cA 1, .boolean), (cA 2, .byte), (cA 3, .long)]
def am_N (U : State) : Prop := ∀ w ∈ NWL, va_Nw w U
def am_Qc (D : va_G) (cA : Nat → ClassId) (ad : Nat → Nat) (lay : Ly) (A : Nat → Prop) (r : Option Value) (sf : Mm) : Array Value → State → Outcome → State → Prop := fun _ s0 oc t => oc = .returned r ∧ va_P D CLS (am_w ad cA sf lay) t.heap ∧ va_D A (am_w ad cA sf lay) ∧ va_F A s0 t
def am_B (D : va_G) (cA : Nat → ClassId) (ad : Nat → Nat) (lay : Ly) (st : Mm) (sz : Nat) (U : State) : Prop := U.heap.size = sz ∧ va_P D CLS (am_w ad cA st lay) U.heap ∧ va_K D CLS (am_ty cA) U ∧ va_D (fun _ => True) (am_w ad cA st lay) ∧ am_N U
/-- a method's contract: with these arguments over this memory it answers r and leaves the memory sf -/
def Con (d : Nat) (y : MethodName) (bytes : ByteArray) (maxL : Nat) (rt : Option FieldType) (lay : Ly) (as : (Nat → Nat) → List Value) (st : Mm) (r : Option Value) (sf : Mm) : Prop :=
  ∀ (l : Launch) (D : va_G) (cA : Nat → ClassId) (ad : Nat → Nat) (sz : Nat), Met l y (.code y bytes maxL rt :: TB) (rmd d) (va_Pc (as ad) (am_B D cA ad lay st sz)) (am_Qc D cA ad lay (va_A (am_w ad cA st lay) sz) r sf) 0 0 (va_A (am_w ad cA st lay) sz)
abbrev Cx : Type := Program × Launch × Env × Room × Nat × Nat × Nat × State × MethodId × Array Value × List Frame × Method × Code × va_G × (Nat → ClassId) × (Nat → Nat) × (Nat → Prop) × Ly × (State → Prop) × Nat × Option Value × Mm
def gad (G : Cx) : Nat → Nat := match G with | (p, l, e, Rm, kc, nc, d, s, m, args, below, meth, c, D, cA, ad, A, lay, Q, nL, r, sf) => ad
def gly (G : Cx) : Ly := match G with | (p, l, e, Rm, kc, nc, d, s, m, args, below, meth, c, D, cA, ad, A, lay, Q, nL, r, sf) => lay
def gnL (G : Cx) : Nat := match G with | (p, l, e, Rm, kc, nc, d, s, m, args, below, meth, c, D, cA, ad, A, lay, Q, nL, r, sf) => nL
def gr (G : Cx) : Option Value := match G with | (p, l, e, Rm, kc, nc, d, s, m, args, below, meth, c, D, cA, ad, A, lay, Q, nL, r, sf) => r
def gsf (G : Cx) : Mm := match G with | (p, l, e, Rm, kc, nc, d, s, m, args, below, meth, c, D, cA, ad, A, lay, Q, nL, r, sf) => sf
def gd (G : Cx) : Nat := match G with | (p, l, e, Rm, kc, nc, d, s, m, args, below, meth, c, D, cA, ad, A, lay, Q, nL, r, sf) => d
def gk (G : Cx) : Nat := match G with | (p, l, e, Rm, kc, nc, d, s, m, args, below, meth, c, D, cA, ad, A, lay, Q, nL, r, sf) => kc
def gn (G : Cx) : Nat := match G with | (p, l, e, Rm, kc, nc, d, s, m, args, below, meth, c, D, cA, ad, A, lay, Q, nL, r, sf) => nc
def gR (G : Cx) : Room := match G with | (p, l, e, Rm, kc, nc, d, s, m, args, below, meth, c, D, cA, ad, A, lay, Q, nL, r, sf) => Rm
/-- the walk at a place: locals, stack, memory -/
def AW (G : Cx) (st : Mm) (pc : Nat) (ls : List (Nat × Value)) (sk : List Value) : Prop := match G with
  | (p, l, e, Rm, kc, nc, d, s, m, args, below, meth, c, D, cA, ad, A, lay, Q, nL, r, sf) => ∀ (H : Heap) (locs : List Loc) (la : Array Slot), va_P D CLS (am_w ad cA st lay) H → va_D A (am_w ad cA st lay) → va_S A s.heap H locs → lv_has la nL ls → W p l e Rm s m args below meth c H locs kc nc Q (F0 m pc la sk)
def CX (G : Cx) (cc : ByteArray) (own : String) : Prop := match G with
  | (p, l, e, Rm, kc, nc, d, s, m, args, below, meth, c, D, cA, ad, A, lay, Q, nL, r, sf) => p.tables.exec = Jvm.exec ∧ c.code = cc ∧ c.maxLocals = nL ∧ s.vm.findClass own = some m.cls ∧ (∀ w ∈ TB, w.before args s = true) ∧ va_K D CLS (am_ty cA) s ∧ am_N s ∧ (∀ q, s.heap.size ≤ q → A q) ∧ d ≤ Rm.frames ∧ 64 * d ≤ Rm.locals ∧ kc ≤ Rm.cells ∧ nc ≤ Rm.slots
def CR (G : Cx) (ret : Option FieldType) : Prop := match G with
  | (p, l, e, Rm, kc, nc, d, s, m, args, below, meth, c, D, cA, ad, A, lay, Q, nL, r, sf) => meth.sig.returnType = ret ∧ meth.locks = false ∧ Q = MQ below (am_Qc D cA ad lay A r sf) args s kc nc A
section AMR
variable {G : Cx} {cc : ByteArray} {own : String} {st : Mm} {pc pn : Nat} {ls : List (Nat × Value)} {rest : List Value}
theorem aw_iconst (C : CX G cc own) {i0 : Int} {v : Int32} (hv : Int32.ofInt i0 = v) (hd : decode cc pc = .ok (.iconst i0, 1)) (hp : pc + 1 = pn) (kk : AW G st pn ls (.int v :: rest)) : AW G st pc ls (rest) := by
  obtain ⟨p, l, e, Rm, kc, nc, d, s, m, args, below, meth, c, D, cA, ad, A, lay, Q, nL, r, sf⟩ := G
  obtain ⟨hx, hb, hml, hown, hts, hK, hN, hA, hRd, hRl, hRk, hRn⟩ := C
  subst hp
  intro H locs la hP hD hS hl
  exact lv_iconst hx hb hd hv (kk H locs la hP hD hS hl)
theorem aw_bipush (C : CX G cc own) {i0 : Int} {v : Int32} (hv : (Int8.ofInt i0).toInt32 = v) (hd : decode cc pc = .ok (.bipush i0, 2)) (hp : pc + 2 = pn) (kk : AW G st pn ls (.int v :: rest)) : AW G st pc ls (rest) := by
  obtain ⟨p, l, e, Rm, kc, nc, d, s, m, args, below, meth, c, D, cA, ad, A, lay, Q, nL, r, sf⟩ := G
  obtain ⟨hx, hb, hml, hown, hts, hK, hN, hA, hRd, hRl, hRk, hRn⟩ := C
  subst hp
  intro H locs la hP hD hS hl
  exact lv_bipush hx hb hd hv (kk H locs la hP hD hS hl)
theorem aw_sipush (C : CX G cc own) {i0 : Int} {v : Int32} (hv : (Int16.ofInt i0).toInt32 = v) (hd : decode cc pc = .ok (.sipush i0, 3)) (hp : pc + 3 = pn) (kk : AW G st pn ls (.int v :: rest)) : AW G st pc ls (rest) := by
  obtain ⟨p, l, e, Rm, kc, nc, d, s, m, args, below, meth, c, D, cA, ad, A, lay, Q, nL, r, sf⟩ := G
  obtain ⟨hx, hb, hml, hown, hts, hK, hN, hA, hRd, hRl, hRk, hRn⟩ := C
  subst hp
  intro H locs la hP hD hS hl
  exact lv_sipush hx hb hd hv (kk H locs la hP hD hS hl)
theorem aw_lconst (C : CX G cc own) {i0 : Fin 2} {v : Int64} (hv : Int64.ofNat i0 = v) (hd : decode cc pc = .ok (.lconst i0, 1)) (hp : pc + 1 = pn) (kk : AW G st pn ls (.long v :: rest)) : AW G st pc ls (rest) := by
  obtain ⟨p, l, e, Rm, kc, nc, d, s, m, args, below, meth, c, D, cA, ad, A, lay, Q, nL, r, sf⟩ := G
  obtain ⟨hx, hb, hml, hown, hts, hK, hN, hA, hRd, hRl, hRk, hRn⟩ := C
  subst hp
  intro H locs la hP hD hS hl
  exact lv_lconst hx hb hd hv (kk H locs la hP hD hS hl)
theorem aw_iload_n (C : CX G cc own) (i k : Nat) {j : Fin 4} {x : Int32} (hk : ls[k]? = some (i, .int x)) (hi : (j : Nat) = i) (hd : decode cc pc = .ok (.iload_n j, 1)) (hp : pc + 1 = pn) (kk : AW G st pn ls (.int x :: rest)) : AW G st pc ls rest := by
  obtain ⟨p, l, e, Rm, kc, nc, d, s, m, args, below, meth, c, D, cA, ad, A, lay, Q, nL, r, sf⟩ := G
  obtain ⟨hx, hb, hml, hown, hts, hK, hN, hA, hRd, hRl, hRk, hRn⟩ := C
  subst hp
  intro H locs la hP hD hS hl
  exact lv_iload_n hx hb hd hi (lv_at hl k hk) (kk H locs la hP hD hS hl)
theorem aw_iload (C : CX G cc own) (i k : Nat) {x : Int32} (hk : ls[k]? = some (i, .int x)) (hd : decode cc pc = .ok (.iload i, 2)) (hp : pc + 2 = pn) (kk : AW G st pn ls (.int x :: rest)) : AW G st pc ls rest := by
  obtain ⟨p, l, e, Rm, kc, nc, d, s, m, args, below, meth, c, D, cA, ad, A, lay, Q, nL, r, sf⟩ := G
  obtain ⟨hx, hb, hml, hown, hts, hK, hN, hA, hRd, hRl, hRk, hRn⟩ := C
  subst hp
  intro H locs la hP hD hS hl
  exact lv_iload hx hb hd (lv_at hl k hk) (kk H locs la hP hD hS hl)
theorem aw_lload_n (C : CX G cc own) (i k : Nat) {j : Fin 4} {x : Int64} (hk : ls[k]? = some (i, .long x)) (hi : (j : Nat) = i) (hd : decode cc pc = .ok (.lload_n j, 1)) (hp : pc + 1 = pn) (kk : AW G st pn ls (.long x :: rest)) : AW G st pc ls rest := by
  obtain ⟨p, l, e, Rm, kc, nc, d, s, m, args, below, meth, c, D, cA, ad, A, lay, Q, nL, r, sf⟩ := G
  obtain ⟨hx, hb, hml, hown, hts, hK, hN, hA, hRd, hRl, hRk, hRn⟩ := C
  subst hp
  intro H locs la hP hD hS hl
  exact lv_lload_n hx hb hd hi (lv_at hl k hk) (kk H locs la hP hD hS hl)
theorem aw_lload (C : CX G cc own) (i k : Nat) {x : Int64} (hk : ls[k]? = some (i, .long x)) (hd : decode cc pc = .ok (.lload i, 2)) (hp : pc + 2 = pn) (kk : AW G st pn ls (.long x :: rest)) : AW G st pc ls rest := by
  obtain ⟨p, l, e, Rm, kc, nc, d, s, m, args, below, meth, c, D, cA, ad, A, lay, Q, nL, r, sf⟩ := G
  obtain ⟨hx, hb, hml, hown, hts, hK, hN, hA, hRd, hRl, hRk, hRn⟩ := C
  subst hp
  intro H locs la hP hD hS hl
  exact lv_lload hx hb hd (lv_at hl k hk) (kk H locs la hP hD hS hl)
theorem aw_aload_n (C : CX G cc own) (i k : Nat) {j : Fin 4} {x : Nat} (hk : ls[k]? = some (i, .ref x)) (hi : (j : Nat) = i) (hd : decode cc pc = .ok (.aload_n j, 1)) (hp : pc + 1 = pn) (kk : AW G st pn ls (.ref x :: rest)) : AW G st pc ls rest := by
  obtain ⟨p, l, e, Rm, kc, nc, d, s, m, args, below, meth, c, D, cA, ad, A, lay, Q, nL, r, sf⟩ := G
  obtain ⟨hx, hb, hml, hown, hts, hK, hN, hA, hRd, hRl, hRk, hRn⟩ := C
  subst hp
  intro H locs la hP hD hS hl
  exact lv_aload_n hx hb hd hi (lv_at hl k hk) (kk H locs la hP hD hS hl)
theorem aw_aload (C : CX G cc own) (i k : Nat) {x : Nat} (hk : ls[k]? = some (i, .ref x)) (hd : decode cc pc = .ok (.aload i, 2)) (hp : pc + 2 = pn) (kk : AW G st pn ls (.ref x :: rest)) : AW G st pc ls rest := by
  obtain ⟨p, l, e, Rm, kc, nc, d, s, m, args, below, meth, c, D, cA, ad, A, lay, Q, nL, r, sf⟩ := G
  obtain ⟨hx, hb, hml, hown, hts, hK, hN, hA, hRd, hRl, hRk, hRn⟩ := C
  subst hp
  intro H locs la hP hD hS hl
  exact lv_aload hx hb hd (lv_at hl k hk) (kk H locs la hP hD hS hl)
theorem aw_istore_n (C : CX G cc own) (ls2 : List (Nat × Value)) {j : Fin 4} {i : Nat} {x : Int32} (hi : (j : Nat) = i) (hn : i < gnL G) (h2 : (i, Value.int x) :: ls.filter (fun q => !(q.1 == i) && !(q.1 + 1 == i && q.2.category == 2)) = ls2) (hd : decode cc pc = .ok (.istore_n j, 1)) (hp : pc + 1 = pn) (kk : AW G st pn ls2 rest) : AW G st pc ls (.int x :: rest) := by
  obtain ⟨p, l, e, Rm, kc, nc, d, s, m, args, below, meth, c, D, cA, ad, A, lay, Q, nL, r, sf⟩ := G
  obtain ⟨hx, hb, hml, hown, hts, hK, hN, hA, hRd, hRl, hRk, hRn⟩ := C
  subst hp
  intro H locs la hP hD hS hl
  exact lv_istore_n hx hb hd hi hl hn h2 (fun la2 hl2 => kk H locs la2 hP hD hS hl2)
theorem aw_istore (C : CX G cc own) (ls2 : List (Nat × Value)) {i : Nat} {x : Int32} (hn : i < gnL G) (h2 : (i, Value.int x) :: ls.filter (fun q => !(q.1 == i) && !(q.1 + 1 == i && q.2.category == 2)) = ls2) (hd : decode cc pc = .ok (.istore i, 2)) (hp : pc + 2 = pn) (kk : AW G st pn ls2 rest) : AW G st pc ls (.int x :: rest) := by
  obtain ⟨p, l, e, Rm, kc, nc, d, s, m, args, below, meth, c, D, cA, ad, A, lay, Q, nL, r, sf⟩ := G
  obtain ⟨hx, hb, hml, hown, hts, hK, hN, hA, hRd, hRl, hRk, hRn⟩ := C
  subst hp
  intro H locs la hP hD hS hl
  exact lv_istore hx hb hd hl hn h2 (fun la2 hl2 => kk H locs la2 hP hD hS hl2)
theorem aw_lstore_n (C : CX G cc own) (ls2 : List (Nat × Value)) {j : Fin 4} {i : Nat} {x : Int64} (hi : (j : Nat) = i) (hn : i + 1 < gnL G) (h2 : (i, Value.long x) :: ls.filter (fun q => !(q.1 == i) && (!(q.1 == i + 1) && !(q.1 + 1 == i && q.2.category == 2))) = ls2) (hd : decode cc pc = .ok (.lstore_n j, 1)) (hp : pc + 1 = pn) (kk : AW G st pn ls2 rest) : AW G st pc ls (.long x :: rest) := by
  obtain ⟨p, l, e, Rm, kc, nc, d, s, m, args, below, meth, c, D, cA, ad, A, lay, Q, nL, r, sf⟩ := G
  obtain ⟨hx, hb, hml, hown, hts, hK, hN, hA, hRd, hRl, hRk, hRn⟩ := C
  subst hp
  intro H locs la hP hD hS hl
  exact lv_lstore_n hx hb hd hi hl hn h2 (fun la2 hl2 => kk H locs la2 hP hD hS hl2)
theorem aw_lstore (C : CX G cc own) (ls2 : List (Nat × Value)) {i : Nat} {x : Int64} (hn : i + 1 < gnL G) (h2 : (i, Value.long x) :: ls.filter (fun q => !(q.1 == i) && (!(q.1 == i + 1) && !(q.1 + 1 == i && q.2.category == 2))) = ls2) (hd : decode cc pc = .ok (.lstore i, 2)) (hp : pc + 2 = pn) (kk : AW G st pn ls2 rest) : AW G st pc ls (.long x :: rest) := by
  obtain ⟨p, l, e, Rm, kc, nc, d, s, m, args, below, meth, c, D, cA, ad, A, lay, Q, nL, r, sf⟩ := G
  obtain ⟨hx, hb, hml, hown, hts, hK, hN, hA, hRd, hRl, hRk, hRn⟩ := C
  subst hp
  intro H locs la hP hD hS hl
  exact lv_lstore hx hb hd hl hn h2 (fun la2 hl2 => kk H locs la2 hP hD hS hl2)
theorem aw_astore_n (C : CX G cc own) (ls2 : List (Nat × Value)) {j : Fin 4} {i : Nat} {x : Nat} (hi : (j : Nat) = i) (hn : i < gnL G) (h2 : (i, Value.ref x) :: ls.filter (fun q => !(q.1 == i) && !(q.1 + 1 == i && q.2.category == 2)) = ls2) (hd : decode cc pc = .ok (.astore_n j, 1)) (hp : pc + 1 = pn) (kk : AW G st pn ls2 rest) : AW G st pc ls (.ref x :: rest) := by
  obtain ⟨p, l, e, Rm, kc, nc, d, s, m, args, below, meth, c, D, cA, ad, A, lay, Q, nL, r, sf⟩ := G
  obtain ⟨hx, hb, hml, hown, hts, hK, hN, hA, hRd, hRl, hRk, hRn⟩ := C
  subst hp
  intro H locs la hP hD hS hl
  exact lv_astore_n hx hb hd hi hl hn h2 (fun la2 hl2 => kk H locs la2 hP hD hS hl2)
theorem aw_astore (C : CX G cc own) (ls2 : List (Nat × Value)) {i : Nat} {x : Nat} (hn : i < gnL G) (h2 : (i, Value.ref x) :: ls.filter (fun q => !(q.1 == i) && !(q.1 + 1 == i && q.2.category == 2)) = ls2) (hd : decode cc pc = .ok (.astore i, 2)) (hp : pc + 2 = pn) (kk : AW G st pn ls2 rest) : AW G st pc ls (.ref x :: rest) := by
  obtain ⟨p, l, e, Rm, kc, nc, d, s, m, args, below, meth, c, D, cA, ad, A, lay, Q, nL, r, sf⟩ := G
  obtain ⟨hx, hb, hml, hown, hts, hK, hN, hA, hRd, hRl, hRk, hRn⟩ := C
  subst hp
  intro H locs la hP hD hS hl
  exact lv_astore hx hb hd hl hn h2 (fun la2 hl2 => kk H locs la2 hP hD hS hl2)
theorem aw_iinc (C : CX G cc own) (ls2 : List (Nat × Value)) (k : Nat) {i : Nat} {n : Int} {x v : Int32} (hk : ls[k]? = some (i, .int x)) (hv : x + Int32.ofInt n = v) (hn : i < gnL G) (h2 : (i, Value.int v) :: ls.filter (fun q => !(q.1 == i) && !(q.1 + 1 == i && q.2.category == 2)) = ls2) (hd : decode cc pc = .ok (.iinc i n, 3)) (hp : pc + 3 = pn) (kk : AW G st pn ls2 rest) : AW G st pc ls rest := by
  obtain ⟨p, l, e, Rm, kc, nc, d, s, m, args, below, meth, c, D, cA, ad, A, lay, Q, nL, r, sf⟩ := G
  obtain ⟨hx, hb, hml, hown, hts, hK, hN, hA, hRd, hRl, hRk, hRn⟩ := C
  subst hp
  intro H locs la hP hD hS hl
  exact lv_iinc hx hb hd hl hk hv hn h2 (fun la2 hl2 => kk H locs la2 hP hD hS hl2)
theorem aw_iadd (C : CX G cc own) {x y : Int32} (hd : decode cc pc = .ok (.iadd, 1)) (hp : pc + 1 = pn) (kk : AW G st pn ls (.int (x + y) :: rest)) : AW G st pc ls (.int y :: .int x :: rest) := by
  obtain ⟨p, l, e, Rm, kc, nc, d, s, m, args, below, meth, c, D, cA, ad, A, lay, Q, nL, r, sf⟩ := G
  obtain ⟨hx, hb, hml, hown, hts, hK, hN, hA, hRd, hRl, hRk, hRn⟩ := C
  subst hp
  intro H locs la hP hD hS hl
  exact lv_iadd hx hb hd  (kk H locs la hP hD hS hl)
theorem aw_isub (C : CX G cc own) {x y : Int32} (hd : decode cc pc = .ok (.isub, 1)) (hp : pc + 1 = pn) (kk : AW G st pn ls (.int (x - y) :: rest)) : AW G st pc ls (.int y :: .int x :: rest) := by
  obtain ⟨p, l, e, Rm, kc, nc, d, s, m, args, below, meth, c, D, cA, ad, A, lay, Q, nL, r, sf⟩ := G
  obtain ⟨hx, hb, hml, hown, hts, hK, hN, hA, hRd, hRl, hRk, hRn⟩ := C
  subst hp
  intro H locs la hP hD hS hl
  exact lv_isub hx hb hd  (kk H locs la hP hD hS hl)
theorem aw_imul (C : CX G cc own) {x y : Int32} (hd : decode cc pc = .ok (.imul, 1)) (hp : pc + 1 = pn) (kk : AW G st pn ls (.int (x * y) :: rest)) : AW G st pc ls (.int y :: .int x :: rest) := by
  obtain ⟨p, l, e, Rm, kc, nc, d, s, m, args, below, meth, c, D, cA, ad, A, lay, Q, nL, r, sf⟩ := G
  obtain ⟨hx, hb, hml, hown, hts, hK, hN, hA, hRd, hRl, hRk, hRn⟩ := C
  subst hp
  intro H locs la hP hD hS hl
  exact lv_imul hx hb hd  (kk H locs la hP hD hS hl)
theorem aw_iand (C : CX G cc own) {x y : Int32} (hd : decode cc pc = .ok (.iand, 1)) (hp : pc + 1 = pn) (kk : AW G st pn ls (.int (x &&& y) :: rest)) : AW G st pc ls (.int y :: .int x :: rest) := by
  obtain ⟨p, l, e, Rm, kc, nc, d, s, m, args, below, meth, c, D, cA, ad, A, lay, Q, nL, r, sf⟩ := G
  obtain ⟨hx, hb, hml, hown, hts, hK, hN, hA, hRd, hRl, hRk, hRn⟩ := C
  subst hp
  intro H locs la hP hD hS hl
  exact lv_iand hx hb hd  (kk H locs la hP hD hS hl)
theorem aw_ior (C : CX G cc own) {x y : Int32} (hd : decode cc pc = .ok (.ior, 1)) (hp : pc + 1 = pn) (kk : AW G st pn ls (.int (x ||| y) :: rest)) : AW G st pc ls (.int y :: .int x :: rest) := by
  obtain ⟨p, l, e, Rm, kc, nc, d, s, m, args, below, meth, c, D, cA, ad, A, lay, Q, nL, r, sf⟩ := G
  obtain ⟨hx, hb, hml, hown, hts, hK, hN, hA, hRd, hRl, hRk, hRn⟩ := C
  subst hp
  intro H locs la hP hD hS hl
  exact lv_ior hx hb hd  (kk H locs la hP hD hS hl)
theorem aw_ixor (C : CX G cc own) {x y : Int32} (hd : decode cc pc = .ok (.ixor, 1)) (hp : pc + 1 = pn) (kk : AW G st pn ls (.int (x ^^^ y) :: rest)) : AW G st pc ls (.int y :: .int x :: rest) := by
  obtain ⟨p, l, e, Rm, kc, nc, d, s, m, args, below, meth, c, D, cA, ad, A, lay, Q, nL, r, sf⟩ := G
  obtain ⟨hx, hb, hml, hown, hts, hK, hN, hA, hRd, hRl, hRk, hRn⟩ := C
  subst hp
  intro H locs la hP hD hS hl
  exact lv_ixor hx hb hd  (kk H locs la hP hD hS hl)
theorem aw_ladd (C : CX G cc own) {x y : Int64} (hd : decode cc pc = .ok (.ladd, 1)) (hp : pc + 1 = pn) (kk : AW G st pn ls (.long (x + y) :: rest)) : AW G st pc ls (.long y :: .long x :: rest) := by
  obtain ⟨p, l, e, Rm, kc, nc, d, s, m, args, below, meth, c, D, cA, ad, A, lay, Q, nL, r, sf⟩ := G
  obtain ⟨hx, hb, hml, hown, hts, hK, hN, hA, hRd, hRl, hRk, hRn⟩ := C
  subst hp
  intro H locs la hP hD hS hl
  exact lv_ladd hx hb hd  (kk H locs la hP hD hS hl)
theorem aw_lsub (C : CX G cc own) {x y : Int64} (hd : decode cc pc = .ok (.lsub, 1)) (hp : pc + 1 = pn) (kk : AW G st pn ls (.long (x - y) :: rest)) : AW G st pc ls (.long y :: .long x :: rest) := by
  obtain ⟨p, l, e, Rm, kc, nc, d, s, m, args, below, meth, c, D, cA, ad, A, lay, Q, nL, r, sf⟩ := G
  obtain ⟨hx, hb, hml, hown, hts, hK, hN, hA, hRd, hRl, hRk, hRn⟩ := C
  subst hp
  intro H locs la hP hD hS hl
  exact lv_lsub hx hb hd  (kk H locs la hP hD hS hl)
theorem aw_lmul (C : CX G cc own) {x y : Int64} (hd : decode cc pc = .ok (.lmul, 1)) (hp : pc + 1 = pn) (kk : AW G st pn ls (.long (x * y) :: rest)) : AW G st pc ls (.long y :: .long x :: rest) := by
  obtain ⟨p, l, e, Rm, kc, nc, d, s, m, args, below, meth, c, D, cA, ad, A, lay, Q, nL, r, sf⟩ := G
  obtain ⟨hx, hb, hml, hown, hts, hK, hN, hA, hRd, hRl, hRk, hRn⟩ := C
  subst hp
  intro H locs la hP hD hS hl
  exact lv_lmul hx hb hd  (kk H locs la hP hD hS hl)
theorem aw_land (C : CX G cc own) {x y : Int64} (hd : decode cc pc = .ok (.land, 1)) (hp : pc + 1 = pn) (kk : AW G st pn ls (.long (x &&& y) :: rest)) : AW G st pc ls (.long y :: .long x :: rest) := by
  obtain ⟨p, l, e, Rm, kc, nc, d, s, m, args, below, meth, c, D, cA, ad, A, lay, Q, nL, r, sf⟩ := G
  obtain ⟨hx, hb, hml, hown, hts, hK, hN, hA, hRd, hRl, hRk, hRn⟩ := C
  subst hp
  intro H locs la hP hD hS hl
  exact lv_land hx hb hd  (kk H locs la hP hD hS hl)
theorem aw_lor (C : CX G cc own) {x y : Int64} (hd : decode cc pc = .ok (.lor, 1)) (hp : pc + 1 = pn) (kk : AW G st pn ls (.long (x ||| y) :: rest)) : AW G st pc ls (.long y :: .long x :: rest) := by
  obtain ⟨p, l, e, Rm, kc, nc, d, s, m, args, below, meth, c, D, cA, ad, A, lay, Q, nL, r, sf⟩ := G
  obtain ⟨hx, hb, hml, hown, hts, hK, hN, hA, hRd, hRl, hRk, hRn⟩ := C
  subst hp
  intro H locs la hP hD hS hl
  exact lv_lor hx hb hd  (kk H locs la hP hD hS hl)
theorem aw_lxor (C : CX G cc own) {x y : Int64} (hd : decode cc pc = .ok (.lxor, 1)) (hp : pc + 1 = pn) (kk : AW G st pn ls (.long (x ^^^ y) :: rest)) : AW G st pc ls (.long y :: .long x :: rest) := by
  obtain ⟨p, l, e, Rm, kc, nc, d, s, m, args, below, meth, c, D, cA, ad, A, lay, Q, nL, r, sf⟩ := G
  obtain ⟨hx, hb, hml, hown, hts, hK, hN, hA, hRd, hRl, hRk, hRn⟩ := C
  subst hp
  intro H locs la hP hD hS hl
  exact lv_lxor hx hb hd  (kk H locs la hP hD hS hl)
theorem aw_idiv (C : CX G cc own) {x y : Int32} (hne : ¬ y = 0) (hd : decode cc pc = .ok (.idiv, 1)) (hp : pc + 1 = pn) (kk : AW G st pn ls (.int (x / y) :: rest)) : AW G st pc ls (.int y :: .int x :: rest) := by
  obtain ⟨p, l, e, Rm, kc, nc, d, s, m, args, below, meth, c, D, cA, ad, A, lay, Q, nL, r, sf⟩ := G
  obtain ⟨hx, hb, hml, hown, hts, hK, hN, hA, hRd, hRl, hRk, hRn⟩ := C
  subst hp
  intro H locs la hP hD hS hl
  exact lv_idiv hx hb hd hne (kk H locs la hP hD hS hl)
theorem aw_irem (C : CX G cc own) {x y : Int32} (hne : ¬ y = 0) (hd : decode cc pc = .ok (.irem, 1)) (hp : pc + 1 = pn) (kk : AW G st pn ls (.int (x - x / y * y) :: rest)) : AW G st pc ls (.int y :: .int x :: rest) := by
  obtain ⟨p, l, e, Rm, kc, nc, d, s, m, args, below, meth, c, D, cA, ad, A, lay, Q, nL, r, sf⟩ := G
  obtain ⟨hx, hb, hml, hown, hts, hK, hN, hA, hRd, hRl, hRk, hRn⟩ := C
  subst hp
  intro H locs la hP hD hS hl
  exact lv_irem hx hb hd hne (kk H locs la hP hD hS hl)
theorem aw_ldiv (C : CX G cc own) {x y : Int64} (hne : ¬ y = 0) (hd : decode cc pc = .ok (.ldiv, 1)) (hp : pc + 1 = pn) (kk : AW G st pn ls (.long (x / y) :: rest)) : AW G st pc ls (.long y :: .long x :: rest) := by
  obtain ⟨p, l, e, Rm, kc, nc, d, s, m, args, below, meth, c, D, cA, ad, A, lay, Q, nL, r, sf⟩ := G
  obtain ⟨hx, hb, hml, hown, hts, hK, hN, hA, hRd, hRl, hRk, hRn⟩ := C
  subst hp
  intro H locs la hP hD hS hl
  exact lv_ldiv hx hb hd hne (kk H locs la hP hD hS hl)
theorem aw_lrem (C : CX G cc own) {x y : Int64} (hne : ¬ y = 0) (hd : decode cc pc = .ok (.lrem, 1)) (hp : pc + 1 = pn) (kk : AW G st pn ls (.long (x - x / y * y) :: rest)) : AW G st pc ls (.long y :: .long x :: rest) := by
  obtain ⟨p, l, e, Rm, kc, nc, d, s, m, args, below, meth, c, D, cA, ad, A, lay, Q, nL, r, sf⟩ := G
  obtain ⟨hx, hb, hml, hown, hts, hK, hN, hA, hRd, hRl, hRk, hRn⟩ := C
  subst hp
  intro H locs la hP hD hS hl
  exact lv_lrem hx hb hd hne (kk H locs la hP hD hS hl)
theorem aw_ineg (C : CX G cc own) {x : Int32} (hd : decode cc pc = .ok (.ineg, 1)) (hp : pc + 1 = pn) (kk : AW G st pn ls (.int (-x) :: rest)) : AW G st pc ls (.int x :: rest) := by
  obtain ⟨p, l, e, Rm, kc, nc, d, s, m, args, below, meth, c, D, cA, ad, A, lay, Q, nL, r, sf⟩ := G
  obtain ⟨hx, hb, hml, hown, hts, hK, hN, hA, hRd, hRl, hRk, hRn⟩ := C
  subst hp
  intro H locs la hP hD hS hl
  exact lv_ineg hx hb hd  (kk H locs la hP hD hS hl)
theorem aw_lneg (C : CX G cc own) {x : Int64} (hd : decode cc pc = .ok (.lneg, 1)) (hp : pc + 1 = pn) (kk : AW G st pn ls (.long (-x) :: rest)) : AW G st pc ls (.long x :: rest) := by
  obtain ⟨p, l, e, Rm, kc, nc, d, s, m, args, below, meth, c, D, cA, ad, A, lay, Q, nL, r, sf⟩ := G
  obtain ⟨hx, hb, hml, hown, hts, hK, hN, hA, hRd, hRl, hRk, hRn⟩ := C
  subst hp
  intro H locs la hP hD hS hl
  exact lv_lneg hx hb hd  (kk H locs la hP hD hS hl)
theorem aw_ishl (C : CX G cc own) {x y : Int32} (hd : decode cc pc = .ok (.ishl, 1)) (hp : pc + 1 = pn) (kk : AW G st pn ls (.int (x <<< (y &&& 31)) :: rest)) : AW G st pc ls (.int y :: .int x :: rest) := by
  obtain ⟨p, l, e, Rm, kc, nc, d, s, m, args, below, meth, c, D, cA, ad, A, lay, Q, nL, r, sf⟩ := G
  obtain ⟨hx, hb, hml, hown, hts, hK, hN, hA, hRd, hRl, hRk, hRn⟩ := C
  subst hp
  intro H locs la hP hD hS hl
  exact lv_ishl hx hb hd  (kk H locs la hP hD hS hl)
theorem aw_ishr (C : CX G cc own) {x y : Int32} (hd : decode cc pc = .ok (.ishr, 1)) (hp : pc + 1 = pn) (kk : AW G st pn ls (.int (x >>> (y &&& 31)) :: rest)) : AW G st pc ls (.int y :: .int x :: rest) := by
  obtain ⟨p, l, e, Rm, kc, nc, d, s, m, args, below, meth, c, D, cA, ad, A, lay, Q, nL, r, sf⟩ := G
  obtain ⟨hx, hb, hml, hown, hts, hK, hN, hA, hRd, hRl, hRk, hRn⟩ := C
  subst hp
  intro H locs la hP hD hS hl
  exact lv_ishr hx hb hd  (kk H locs la hP hD hS hl)
theorem aw_iushr (C : CX G cc own) {x y : Int32} (hd : decode cc pc = .ok (.iushr, 1)) (hp : pc + 1 = pn) (kk : AW G st pn ls (.int ((x.toUInt32 >>> (y.toUInt32 &&& Int32.toUInt32 31)).toInt32) :: rest)) : AW G st pc ls (.int y :: .int x :: rest) := by
  obtain ⟨p, l, e, Rm, kc, nc, d, s, m, args, below, meth, c, D, cA, ad, A, lay, Q, nL, r, sf⟩ := G
  obtain ⟨hx, hb, hml, hown, hts, hK, hN, hA, hRd, hRl, hRk, hRn⟩ := C
  subst hp
  intro H locs la hP hD hS hl
  exact lv_iushr hx hb hd rfl (kk H locs la hP hD hS hl)
theorem aw_lshl (C : CX G cc own) {x : Int64} {y : Int32} (hd : decode cc pc = .ok (.lshl, 1)) (hp : pc + 1 = pn) (kk : AW G st pn ls (.long (x <<< (y.toInt64 &&& 63)) :: rest)) : AW G st pc ls (.int y :: .long x :: rest) := by
  obtain ⟨p, l, e, Rm, kc, nc, d, s, m, args, below, meth, c, D, cA, ad, A, lay, Q, nL, r, sf⟩ := G
  obtain ⟨hx, hb, hml, hown, hts, hK, hN, hA, hRd, hRl, hRk, hRn⟩ := C
  subst hp
  intro H locs la hP hD hS hl
  exact lv_lshl hx hb hd rfl (kk H locs la hP hD hS hl)
theorem aw_lshr (C : CX G cc own) {x : Int64} {y : Int32} (hd : decode cc pc = .ok (.lshr, 1)) (hp : pc + 1 = pn) (kk : AW G st pn ls (.long (x >>> (y.toInt64 &&& 63)) :: rest)) : AW G st pc ls (.int y :: .long x :: rest) := by
  obtain ⟨p, l, e, Rm, kc, nc, d, s, m, args, below, meth, c, D, cA, ad, A, lay, Q, nL, r, sf⟩ := G
  obtain ⟨hx, hb, hml, hown, hts, hK, hN, hA, hRd, hRl, hRk, hRn⟩ := C
  subst hp
  intro H locs la hP hD hS hl
  exact lv_lshr hx hb hd rfl (kk H locs la hP hD hS hl)
theorem aw_i2l (C : CX G cc own) {x : Int32} (hd : decode cc pc = .ok (.i2l, 1)) (hp : pc + 1 = pn) (kk : AW G st pn ls (.long x.toInt64 :: rest)) : AW G st pc ls (.int x :: rest) := by
  obtain ⟨p, l, e, Rm, kc, nc, d, s, m, args, below, meth, c, D, cA, ad, A, lay, Q, nL, r, sf⟩ := G
  obtain ⟨hx, hb, hml, hown, hts, hK, hN, hA, hRd, hRl, hRk, hRn⟩ := C
  subst hp
  intro H locs la hP hD hS hl
  exact lv_i2l hx hb hd rfl (kk H locs la hP hD hS hl)
theorem aw_i2b (C : CX G cc own) {x : Int32} (hd : decode cc pc = .ok (.i2b, 1)) (hp : pc + 1 = pn) (kk : AW G st pn ls (.int x.toInt8.toInt32 :: rest)) : AW G st pc ls (.int x :: rest) := by
  obtain ⟨p, l, e, Rm, kc, nc, d, s, m, args, below, meth, c, D, cA, ad, A, lay, Q, nL, r, sf⟩ := G
  obtain ⟨hx, hb, hml, hown, hts, hK, hN, hA, hRd, hRl, hRk, hRn⟩ := C
  subst hp
  intro H locs la hP hD hS hl
  exact lv_i2b hx hb hd rfl (kk H locs la hP hD hS hl)
theorem aw_lcmp (C : CX G cc own) {x y : Int64} (hd : decode cc pc = .ok (.lcmp, 1)) (hp : pc + 1 = pn) (kk : AW G st pn ls (.int (lg_cmp x y) :: rest)) : AW G st pc ls (.long y :: .long x :: rest) := by
  obtain ⟨p, l, e, Rm, kc, nc, d, s, m, args, below, meth, c, D, cA, ad, A, lay, Q, nL, r, sf⟩ := G
  obtain ⟨hx, hb, hml, hown, hts, hK, hN, hA, hRd, hRl, hRk, hRn⟩ := C
  subst hp
  intro H locs la hP hD hS hl
  exact W.lcmp hx hb hd  (kk H locs la hP hD hS hl)
theorem aw_dup (C : CX G cc own) {va : Value} (hva : va.category = 1) (hd : decode cc pc = .ok (.dup, 1)) (hp : pc + 1 = pn) (kk : AW G st pn ls (va :: va :: rest)) : AW G st pc ls (va :: rest) := by
  obtain ⟨p, l, e, Rm, kc, nc, d, s, m, args, below, meth, c, D, cA, ad, A, lay, Q, nL, r, sf⟩ := G
  obtain ⟨hx, hb, hml, hown, hts, hK, hN, hA, hRd, hRl, hRk, hRn⟩ := C
  subst hp
  intro H locs la hP hD hS hl
  exact lv_dup hx hb hd hva (kk H locs la hP hD hS hl)
theorem aw_pop (C : CX G cc own) {va : Value} (hva : va.category = 1) (hd : decode cc pc = .ok (.pop, 1)) (hp : pc + 1 = pn) (kk : AW G st pn ls (rest)) : AW G st pc ls (va :: rest) := by
  obtain ⟨p, l, e, Rm, kc, nc, d, s, m, args, below, meth, c, D, cA, ad, A, lay, Q, nL, r, sf⟩ := G
  obtain ⟨hx, hb, hml, hown, hts, hK, hN, hA, hRd, hRl, hRk, hRn⟩ := C
  subst hp
  intro H locs la hP hD hS hl
  exact lv_pop hx hb hd hva (kk H locs la hP hD hS hl)
theorem aw_dup2_11 (C : CX G cc own) {va vb : Value} (hva : va.category = 1) (hvb : vb.category = 1) (hd : decode cc pc = .ok (.dup2, 1)) (hp : pc + 1 = pn) (kk : AW G st pn ls (va :: vb :: va :: vb :: rest)) : AW G st pc ls (va :: vb :: rest) := by
  obtain ⟨p, l, e, Rm, kc, nc, d, s, m, args, below, meth, c, D, cA, ad, A, lay, Q, nL, r, sf⟩ := G
  obtain ⟨hx, hb, hml, hown, hts, hK, hN, hA, hRd, hRl, hRk, hRn⟩ := C
  subst hp
  intro H locs la hP hD hS hl
  exact lv_dup2_11 hx hb hd hva hvb (kk H locs la hP hD hS hl)
theorem aw_dup2_2 (C : CX G cc own) {va : Value} (hva : va.category = 2) (hd : decode cc pc = .ok (.dup2, 1)) (hp : pc + 1 = pn) (kk : AW G st pn ls (va :: va :: rest)) : AW G st pc ls (va :: rest) := by
  obtain ⟨p, l, e, Rm, kc, nc, d, s, m, args, below, meth, c, D, cA, ad, A, lay, Q, nL, r, sf⟩ := G
  obtain ⟨hx, hb, hml, hown, hts, hK, hN, hA, hRd, hRl, hRk, hRn⟩ := C
  subst hp
  intro H locs la hP hD hS hl
  exact lv_dup2_2 hx hb hd hva (kk H locs la hP hD hS hl)
theorem aw_icmp_eq (C : CX G cc own) {x y : Int32} {off : Int} {tgt : Nat} (hd : decode cc pc = .ok (.if_icmp .eq off, 3)) (ht : (pc : Int) + off = (tgt : Int)) (hp : pc + 3 = pn) (kt : x = y → AW G st tgt ls rest) (kf : ¬ x = y → AW G st pn ls rest) : AW G st pc ls (.int y :: .int x :: rest) := by
  obtain ⟨p, l, e, Rm, kc, nc, d, s, m, args, below, meth, c, D, cA, ad, A, lay, Q, nL, r, sf⟩ := G
  obtain ⟨hx, hb, hml, hown, hts, hK, hN, hA, hRd, hRl, hRk, hRn⟩ := C
  subst hp
  intro H locs la hP hD hS hl
  exact lv_icmp_eq hx hb hd ht (fun h => kt h H locs la hP hD hS hl) (fun h => kf h H locs la hP hD hS hl)
theorem aw_icmp_ne (C : CX G cc own) {x y : Int32} {off : Int} {tgt : Nat} (hd : decode cc pc = .ok (.if_icmp .ne off, 3)) (ht : (pc : Int) + off = (tgt : Int)) (hp : pc + 3 = pn) (kt : x = y → AW G st pn ls rest) (kf : ¬ x = y → AW G st tgt ls rest) : AW G st pc ls (.int y :: .int x :: rest) := by
  obtain ⟨p, l, e, Rm, kc, nc, d, s, m, args, below, meth, c, D, cA, ad, A, lay, Q, nL, r, sf⟩ := G
  obtain ⟨hx, hb, hml, hown, hts, hK, hN, hA, hRd, hRl, hRk, hRn⟩ := C
  subst hp
  intro H locs la hP hD hS hl
  exact lv_icmp_ne hx hb hd ht (fun h => kf h H locs la hP hD hS hl) (fun h => kt h H locs la hP hD hS hl)
theorem aw_icmp_lt (C : CX G cc own) {x y : Int32} {off : Int} {tgt : Nat} (hd : decode cc pc = .ok (.if_icmp .lt off, 3)) (ht : (pc : Int) + off = (tgt : Int)) (hp : pc + 3 = pn) (kt : x < y → AW G st tgt ls rest) (kf : ¬ x < y → AW G st pn ls rest) : AW G st pc ls (.int y :: .int x :: rest) := by
  obtain ⟨p, l, e, Rm, kc, nc, d, s, m, args, below, meth, c, D, cA, ad, A, lay, Q, nL, r, sf⟩ := G
  obtain ⟨hx, hb, hml, hown, hts, hK, hN, hA, hRd, hRl, hRk, hRn⟩ := C
  subst hp
  intro H locs la hP hD hS hl
  exact lv_icmp_lt hx hb hd ht (fun h => kt h H locs la hP hD hS hl) (fun h => kf h H locs la hP hD hS hl)
theorem aw_icmp_ge (C : CX G cc own) {x y : Int32} {off : Int} {tgt : Nat} (hd : decode cc pc = .ok (.if_icmp .ge off, 3)) (ht : (pc : Int) + off = (tgt : Int)) (hp : pc + 3 = pn) (kt : y ≤ x → AW G st tgt ls rest) (kf : ¬ y ≤ x → AW G st pn ls rest) : AW G st pc ls (.int y :: .int x :: rest) := by
  obtain ⟨p, l, e, Rm, kc, nc, d, s, m, args, below, meth, c, D, cA, ad, A, lay, Q, nL, r, sf⟩ := G
  obtain ⟨hx, hb, hml, hown, hts, hK, hN, hA, hRd, hRl, hRk, hRn⟩ := C
  subst hp
  intro H locs la hP hD hS hl
  exact lv_icmp_ge hx hb hd ht (fun h => kt h H locs la hP hD hS hl) (fun h => kf h H locs la hP hD hS hl)
theorem aw_icmp_gt (C : CX G cc own) {x y : Int32} {off : Int} {tgt : Nat} (hd : decode cc pc = .ok (.if_icmp .gt off, 3)) (ht : (pc : Int) + off = (tgt : Int)) (hp : pc + 3 = pn) (kt : y < x → AW G st tgt ls rest) (kf : ¬ y < x → AW G st pn ls rest) : AW G st pc ls (.int y :: .int x :: rest) := by
  obtain ⟨p, l, e, Rm, kc, nc, d, s, m, args, below, meth, c, D, cA, ad, A, lay, Q, nL, r, sf⟩ := G
  obtain ⟨hx, hb, hml, hown, hts, hK, hN, hA, hRd, hRl, hRk, hRn⟩ := C
  subst hp
  intro H locs la hP hD hS hl
  exact lv_icmp_gt hx hb hd ht (fun h => kt h H locs la hP hD hS hl) (fun h => kf h H locs la hP hD hS hl)
theorem aw_icmp_le (C : CX G cc own) {x y : Int32} {off : Int} {tgt : Nat} (hd : decode cc pc = .ok (.if_icmp .le off, 3)) (ht : (pc : Int) + off = (tgt : Int)) (hp : pc + 3 = pn) (kt : x ≤ y → AW G st tgt ls rest) (kf : ¬ x ≤ y → AW G st pn ls rest) : AW G st pc ls (.int y :: .int x :: rest) := by
  obtain ⟨p, l, e, Rm, kc, nc, d, s, m, args, below, meth, c, D, cA, ad, A, lay, Q, nL, r, sf⟩ := G
  obtain ⟨hx, hb, hml, hown, hts, hK, hN, hA, hRd, hRl, hRk, hRn⟩ := C
  subst hp
  intro H locs la hP hD hS hl
  exact lv_icmp_le hx hb hd ht (fun h => kt h H locs la hP hD hS hl) (fun h => kf h H locs la hP hD hS hl)
theorem aw_if_eq (C : CX G cc own) {x : Int32} {off : Int} {tgt : Nat} (hd : decode cc pc = .ok (.ifCond .eq off, 3)) (ht : (pc : Int) + off = (tgt : Int)) (hp : pc + 3 = pn) (kt : x = 0 → AW G st tgt ls rest) (kf : ¬ x = 0 → AW G st pn ls rest) : AW G st pc ls (.int x :: rest) := by
  obtain ⟨p, l, e, Rm, kc, nc, d, s, m, args, below, meth, c, D, cA, ad, A, lay, Q, nL, r, sf⟩ := G
  obtain ⟨hx, hb, hml, hown, hts, hK, hN, hA, hRd, hRl, hRk, hRn⟩ := C
  subst hp
  intro H locs la hP hD hS hl
  exact lv_if_eq hx hb hd ht (fun h => kt h H locs la hP hD hS hl) (fun h => kf h H locs la hP hD hS hl)
theorem aw_if_ne (C : CX G cc own) {x : Int32} {off : Int} {tgt : Nat} (hd : decode cc pc = .ok (.ifCond .ne off, 3)) (ht : (pc : Int) + off = (tgt : Int)) (hp : pc + 3 = pn) (kt : x = 0 → AW G st pn ls rest) (kf : ¬ x = 0 → AW G st tgt ls rest) : AW G st pc ls (.int x :: rest) := by
  obtain ⟨p, l, e, Rm, kc, nc, d, s, m, args, below, meth, c, D, cA, ad, A, lay, Q, nL, r, sf⟩ := G
  obtain ⟨hx, hb, hml, hown, hts, hK, hN, hA, hRd, hRl, hRk, hRn⟩ := C
  subst hp
  intro H locs la hP hD hS hl
  exact lv_if_ne hx hb hd ht (fun h => kf h H locs la hP hD hS hl) (fun h => kt h H locs la hP hD hS hl)
theorem aw_if_lt (C : CX G cc own) {x : Int32} {off : Int} {tgt : Nat} (hd : decode cc pc = .ok (.ifCond .lt off, 3)) (ht : (pc : Int) + off = (tgt : Int)) (hp : pc + 3 = pn) (kt : x < 0 → AW G st tgt ls rest) (kf : ¬ x < 0 → AW G st pn ls rest) : AW G st pc ls (.int x :: rest) := by
  obtain ⟨p, l, e, Rm, kc, nc, d, s, m, args, below, meth, c, D, cA, ad, A, lay, Q, nL, r, sf⟩ := G
  obtain ⟨hx, hb, hml, hown, hts, hK, hN, hA, hRd, hRl, hRk, hRn⟩ := C
  subst hp
  intro H locs la hP hD hS hl
  exact lv_if_lt hx hb hd ht (fun h => kt h H locs la hP hD hS hl) (fun h => kf h H locs la hP hD hS hl)
theorem aw_if_ge (C : CX G cc own) {x : Int32} {off : Int} {tgt : Nat} (hd : decode cc pc = .ok (.ifCond .ge off, 3)) (ht : (pc : Int) + off = (tgt : Int)) (hp : pc + 3 = pn) (kt : 0 ≤ x → AW G st tgt ls rest) (kf : ¬ 0 ≤ x → AW G st pn ls rest) : AW G st pc ls (.int x :: rest) := by
  obtain ⟨p, l, e, Rm, kc, nc, d, s, m, args, below, meth, c, D, cA, ad, A, lay, Q, nL, r, sf⟩ := G
  obtain ⟨hx, hb, hml, hown, hts, hK, hN, hA, hRd, hRl, hRk, hRn⟩ := C
  subst hp
  intro H locs la hP hD hS hl
  exact lv_if_ge hx hb hd ht (fun h => kt h H locs la hP hD hS hl) (fun h => kf h H locs la hP hD hS hl)
theorem aw_if_gt (C : CX G cc own) {x : Int32} {off : Int} {tgt : Nat} (hd : decode cc pc = .ok (.ifCond .gt off, 3)) (ht : (pc : Int) + off = (tgt : Int)) (hp : pc + 3 = pn) (kt : 0 < x → AW G st tgt ls rest) (kf : ¬ 0 < x → AW G st pn ls rest) : AW G st pc ls (.int x :: rest) := by
  obtain ⟨p, l, e, Rm, kc, nc, d, s, m, args, below, meth, c, D, cA, ad, A, lay, Q, nL, r, sf⟩ := G
  obtain ⟨hx, hb, hml, hown, hts, hK, hN, hA, hRd, hRl, hRk, hRn⟩ := C
  subst hp
  intro H locs la hP hD hS hl
  exact lv_if_gt hx hb hd ht (fun h => kt h H locs la hP hD hS hl) (fun h => kf h H locs la hP hD hS hl)
theorem aw_if_le (C : CX G cc own) {x : Int32} {off : Int} {tgt : Nat} (hd : decode cc pc = .ok (.ifCond .le off, 3)) (ht : (pc : Int) + off = (tgt : Int)) (hp : pc + 3 = pn) (kt : x ≤ 0 → AW G st tgt ls rest) (kf : ¬ x ≤ 0 → AW G st pn ls rest) : AW G st pc ls (.int x :: rest) := by
  obtain ⟨p, l, e, Rm, kc, nc, d, s, m, args, below, meth, c, D, cA, ad, A, lay, Q, nL, r, sf⟩ := G
  obtain ⟨hx, hb, hml, hown, hts, hK, hN, hA, hRd, hRl, hRk, hRn⟩ := C
  subst hp
  intro H locs la hP hD hS hl
  exact lv_if_le hx hb hd ht (fun h => kt h H locs la hP hD hS hl) (fun h => kf h H locs la hP hD hS hl)
theorem aw_goto (C : CX G cc own) {off : Int} {tgt : Nat} (hd : decode cc pc = .ok (.goto off, 3)) (ht : (pc : Int) + off = (tgt : Int)) (kk : AW G st tgt ls rest) : AW G st pc ls rest := by
  obtain ⟨p, l, e, Rm, kc, nc, d, s, m, args, below, meth, c, D, cA, ad, A, lay, Q, nL, r, sf⟩ := G
  obtain ⟨hx, hb, hml, hown, hts, hK, hN, hA, hRd, hRl, hRk, hRn⟩ := C
  intro H locs la hP hD hS hl
  exact lv_goto hx hb hd ht (kk H locs la hP hD hS hl)
theorem aw_ldc (C : CX G cc own) {index : Nat} {v : Int32} (hw : Cond.constant own index v ∈ TB) (hd : decode cc pc = .ok (.ldc index, 2)) (hp : pc + 2 = pn) (kk : AW G st pn ls (.int v :: rest)) : AW G st pc ls rest := by
  obtain ⟨p, l, e, Rm, kc, nc, d, s, m, args, below, meth, c, D, cA, ad, A, lay, Q, nL, r, sf⟩ := G
  obtain ⟨hx, hb, hml, hown, hts, hK, hN, hA, hRd, hRl, hRk, hRn⟩ := C
  subst hp
  intro H locs la hP hD hS hl
  exact lv_ldc hx hb hown (hts _ hw) hd (kk H locs la hP hD hS hl)
theorem aw_ldcw (C : CX G cc own) {index : Nat} {v : Int32} (hw : Cond.constant own index v ∈ TB) (hd : decode cc pc = .ok (.ldc_w index, 3)) (hp : pc + 3 = pn) (kk : AW G st pn ls (.int v :: rest)) : AW G st pc ls rest := by
  obtain ⟨p, l, e, Rm, kc, nc, d, s, m, args, below, meth, c, D, cA, ad, A, lay, Q, nL, r, sf⟩ := G
  obtain ⟨hx, hb, hml, hown, hts, hK, hN, hA, hRd, hRl, hRk, hRn⟩ := C
  subst hp
  intro H locs la hP hD hS hl
  exact lv_ldcw hx hb hown (hts _ hw) hd (kk H locs la hP hD hS hl)
theorem aw_ldc2 (C : CX G cc own) {index : Nat} {v : Int64} (hw : Cond.constantLong own index v ∈ TB) (hd : decode cc pc = .ok (.ldc2_w index, 3)) (hp : pc + 3 = pn) (kk : AW G st pn ls (.long v :: rest)) : AW G st pc ls rest := by
  obtain ⟨p, l, e, Rm, kc, nc, d, s, m, args, below, meth, c, D, cA, ad, A, lay, Q, nL, r, sf⟩ := G
  obtain ⟨hx, hb, hml, hown, hts, hK, hN, hA, hRd, hRl, hRk, hRn⟩ := C
  subst hp
  intro H locs la hP hD hS hl
  exact lv_ldc2 hx hb hown (hts _ hw) hd (kk H locs la hP hD hS hl)
theorem aw_tin (C : CX G cc own) {dflt lo hi : Int} {offs : Array Int} {len : Nat} {x : Int32} {off : Int} {tgt : Nat} (hd : decode cc pc = .ok (.tableswitch dflt lo hi offs, len)) (h1 : ¬ x.toInt < lo) (h2 : ¬ hi < x.toInt) (ho : offs[(x.toInt - lo).toNat]? = some off) (ht : (pc : Int) + off = (tgt : Int)) (kk : AW G st tgt ls rest) : AW G st pc ls (.int x :: rest) := by
  obtain ⟨p, l, e, Rm, kc, nc, d, s, m, args, below, meth, c, D, cA, ad, A, lay, Q, nL, r, sf⟩ := G
  obtain ⟨hx, hb, hml, hown, hts, hK, hN, hA, hRd, hRl, hRk, hRn⟩ := C
  intro H locs la hP hD hS hl
  exact lv_tableIn hx hb hd h1 h2 ho ht (kk H locs la hP hD hS hl)
theorem aw_tout (C : CX G cc own) {dflt lo hi : Int} {offs : Array Int} {len : Nat} {x : Int32} {tgt : Nat} (hd : decode cc pc = .ok (.tableswitch dflt lo hi offs, len)) (h : x.toInt < lo ∨ hi < x.toInt) (ht : (pc : Int) + dflt = (tgt : Int)) (kk : AW G st tgt ls rest) : AW G st pc ls (.int x :: rest) := by
  obtain ⟨p, l, e, Rm, kc, nc, d, s, m, args, below, meth, c, D, cA, ad, A, lay, Q, nL, r, sf⟩ := G
  obtain ⟨hx, hb, hml, hown, hts, hK, hN, hA, hRd, hRl, hRk, hRn⟩ := C
  intro H locs la hP hD hS hl
  exact lv_tableOut hx hb hd h ht (kk H locs la hP hD hS hl)
theorem aw_look (C : CX G cc own) {dflt : Int} {ps : Array (Int × Int)} {len : Nat} {x : Int32} {off : Int} {tgt : Nat} (hd : decode cc pc = .ok (.lookupswitch dflt ps, len)) (hp : (ps.toList.zip (ps.toList.drop 1)).all (fun (a, next) => a.1 < next.1) = true) (ho : Op.lookupswitch.offset ps.toList dflt x.toInt = off) (ht : (pc : Int) + off = (tgt : Int)) (kk : AW G st tgt ls rest) : AW G st pc ls (.int x :: rest) := by
  obtain ⟨p, l, e, Rm, kc, nc, d, s, m, args, below, meth, c, D, cA, ad, A, lay, Q, nL, r, sf⟩ := G
  obtain ⟨hx, hb, hml, hown, hts, hK, hN, hA, hRd, hRl, hRk, hRn⟩ := C
  intro H locs la hP hD hS hl
  exact lv_lookup hx hb hd hp ho ht (kk H locs la hP hD hS hl)
theorem aw_get (C : CX G cc own) {ci q0 k N index : Nat} {R : String} {T : u_T} {fs : List (Option (Option Nat))} (F : FC ci R T N) (hl : (gly G)[q0]? = some (.inr (ci, fs))) (hf : fs[k]? = some (none)) (hk : k < N) (hw : Cond.fieldLink own index (T k).1 (T k).2.1 (T k).2.2.1 ∈ TB) (hd : decode cc pc = .ok (.getfield index, 3)) (hp : pc + 3 = pn) (kk : AW G st pn ls (.int (st.1 q0 k) :: rest)) : AW G st pc ls (.ref (gad G q0) :: rest) := by
  obtain ⟨p, l, e, Rm, kc, nc, d, s, m, args, below, meth, c, D, cA, ad, A, lay, Q, nL, r, sf⟩ := G
  obtain ⟨hx, hb, hml, hown, hts, hK, hN, hA, hRd, hRl, hRk, hRn⟩ := C
  subst hp
  obtain ⟨hc, hin, -⟩ := F
  intro H locs la hP hD hS hv
  exact va_get hx hb hts hin hown hK hP q0 (am_w_at hl) hc k hk (hts _ hw) (fun _ h9 => h9) (am_fs_at hf) hd (kk H locs la hP hD hS hv)
theorem aw_getr (C : CX G cc own) {ci q0 k N index : Nat} {q : Nat} {R : String} {T : u_T} {fs : List (Option (Option Nat))} (F : FC ci R T N) (hl : (gly G)[q0]? = some (.inr (ci, fs))) (hf : fs[k]? = some (some (some q))) (hk : k < N) (hw : Cond.fieldLink own index (T k).1 (T k).2.1 (T k).2.2.1 ∈ TB) (hd : decode cc pc = .ok (.getfield index, 3)) (hp : pc + 3 = pn) (kk : AW G st pn ls (.ref (gad G q) :: rest)) : AW G st pc ls (.ref (gad G q0) :: rest) := by
  obtain ⟨p, l, e, Rm, kc, nc, d, s, m, args, below, meth, c, D, cA, ad, A, lay, Q, nL, r, sf⟩ := G
  obtain ⟨hx, hb, hml, hown, hts, hK, hN, hA, hRd, hRl, hRk, hRn⟩ := C
  subst hp
  obtain ⟨hc, hin, -⟩ := F
  intro H locs la hP hD hS hv
  exact va_get hx hb hts hin hown hK hP q0 (am_w_at hl) hc k hk (hts _ hw) (fun _ h9 => h9) (am_fs_at hf) hd (kk H locs la hP hD hS hv)
theorem aw_putG (C : CX G cc own) {ci q0 k N index : Nat} {R : String} {T : u_T} {fs : List (Option (Option Nat))} {x : Int32} {ty : FieldType} (F : FC ci R T N) (hl : (gly G)[q0]? = some (.inr (ci, fs))) (hf : fs[k]? = some none) (hk : k < N) (hfin : (T k).2.2.2 = false) (hdsc : parseFieldDescriptor (T k).2.2.1 = some ty) (hn : narrow ty (.int x) = .int x) (hfit : fits ty (.int x) = true) (hw : Cond.fieldLink own index (T k).1 (T k).2.1 (T k).2.2.1 ∈ TB) (hd : decode cc pc = .ok (.putfield index, 3)) (hp : pc + 3 = pn) (kk : AW G (sI st q0 k x) pn ls rest) : AW G st pc ls (.int x :: .ref (gad G q0) :: rest) := by
  obtain ⟨p, l, e, Rm, kc, nc, d, s, m, args, below, meth, c, D, cA, ad, A, lay, Q, nL, r, sf⟩ := G
  obtain ⟨hx, hb, hml, hown, hts, hK, hN, hA, hRd, hRl, hRk, hRn⟩ := C
  subst hp
  obtain ⟨hc, hin, ty0, hty, hnm⟩ := F
  intro H locs la hP hD hS hv
  have hlen : k < (am_fs ad st q0 fs).length := by simpa [am_fs] using (List.getElem?_eq_some_iff.mp hf).1
  refine va_put (D := D) (ty := ty) (v := .int x) hx hb hts hin ty0 hty hnm hown hK hP hD hS q0 (am_w_at hl) hc k hk (hts _ hw) (fun _ h9 => h9) hfin hdsc hn hfit hlen hd (fun H1 locs1 hP1 hD1 hS1 => ?_)
  have e : (am_w ad cA st lay).set q0 (ad q0, .inr (ci, (am_fs ad st q0 fs).set k (.int x))) = am_w ad cA (sI st q0 k x) lay := by
    rw [am_fs_set hf]
    exact am_w_set (st2 := sI st q0 k x) hl (fun a ha => sR_ne ha) (fun a ha => rfl)
  exact kk H1 locs1 la (by rw [← e]; exact hP1) (by rw [← e]; exact hD1) hS1 hv
theorem am_bool {x : Int32} (h : x = 0 ∨ x = 1) : narrow .boolean (.int x) = .int x ∧ fits .boolean (.int x) = true := by rcases h with rfl | rfl <;> decide
theorem am_nb {x : Int32} (h : x = 0 ∨ x = 1) : vp_nar .boolean x = x := by rcases h with rfl | rfl <;> decide
theorem aw_put (C : CX G cc own) {ci q0 k N index : Nat} {R : String} {T : u_T} {fs : List (Option (Option Nat))} {x : Int32} (F : FC ci R T N) (hl : (gly G)[q0]? = some (.inr (ci, fs))) (hf : fs[k]? = some none) (hk : k < N) (hfin : (T k).2.2.2 = false) (hdsc : (T k).2.2.1 = "I") (hw : Cond.fieldLink own index (T k).1 (T k).2.1 (T k).2.2.1 ∈ TB) (hd : decode cc pc = .ok (.putfield index, 3)) (hp : pc + 3 = pn) (kk : AW G (sI st q0 k x) pn ls rest) : AW G st pc ls (.int x :: .ref (gad G q0) :: rest) :=
  aw_putG C F hl hf hk hfin (ty := .int) (by rw [hdsc]; decide +kernel) rfl rfl hw hd hp kk
theorem aw_putZ (C : CX G cc own) {ci q0 k N index : Nat} {R : String} {T : u_T} {fs : List (Option (Option Nat))} {x : Int32} (F : FC ci R T N) (hl : (gly G)[q0]? = some (.inr (ci, fs))) (hf : fs[k]? = some none) (hk : k < N) (hfin : (T k).2.2.2 = false) (hdsc : (T k).2.2.1 = "Z") (hz : x = 0 ∨ x = 1) (hw : Cond.fieldLink own index (T k).1 (T k).2.1 (T k).2.2.1 ∈ TB) (hd : decode cc pc = .ok (.putfield index, 3)) (hp : pc + 3 = pn) (kk : AW G (sI st q0 k x) pn ls rest) : AW G st pc ls (.int x :: .ref (gad G q0) :: rest) :=
  aw_putG C F hl hf hk hfin (ty := .boolean) (by rw [hdsc]; decide +kernel) (am_bool hz).1 (am_bool hz).2 hw hd hp kk
theorem aw_iald (C : CX G cc own) {q0 n : Nat} {i : Int32} (hl : (gly G)[q0]? = some (.inl (0, n))) (hi : inb i n) (hd : decode cc pc = .ok (.iaload, 1)) (hp : pc + 1 = pn) (kk : AW G st pn ls (.int (st.1 q0 i.toNatClampNeg) :: rest)) : AW G st pc ls (.int i :: .ref (gad G q0) :: rest) := by
  obtain ⟨p, l, e, Rm, kc, nc, d, s, m, args, below, meth, c, D, cA, ad, A, lay, Q, nL, r, sf⟩ := G
  obtain ⟨hx, hb, hml, hown, hts, hK, hN, hA, hRd, hRl, hRk, hRn⟩ := C
  subst hp
  intro H locs la hP hD hS hv
  exact va_iald hx hb hK hP q0 0 (am_w_at hl) rfl (vp_in_iff.mpr hi) hd (kk H locs la hP hD hS hv)
theorem aw_zald (C : CX G cc own) {q0 n : Nat} {i : Int32} (hl : (gly G)[q0]? = some (.inl (1, n))) (hi : inb i n) (hd : decode cc pc = .ok (.baload, 1)) (hp : pc + 1 = pn) (kk : AW G st pn ls (.int (st.1 q0 i.toNatClampNeg) :: rest)) : AW G st pc ls (.int i :: .ref (gad G q0) :: rest) := by
  obtain ⟨p, l, e, Rm, kc, nc, d, s, m, args, below, meth, c, D, cA, ad, A, lay, Q, nL, r, sf⟩ := G
  obtain ⟨hx, hb, hml, hown, hts, hK, hN, hA, hRd, hRl, hRk, hRn⟩ := C
  subst hp
  intro H locs la hP hD hS hv
  exact va_zald hx hb hK hP q0 1 (am_w_at hl) rfl (vp_in_iff.mpr hi) hd (kk H locs la hP hD hS hv)
theorem aw_bald (C : CX G cc own) {q0 n : Nat} {i : Int32} (hl : (gly G)[q0]? = some (.inl (2, n))) (hi : inb i n) (hd : decode cc pc = .ok (.baload, 1)) (hp : pc + 1 = pn) (kk : AW G st pn ls (.int (st.1 q0 i.toNatClampNeg) :: rest)) : AW G st pc ls (.int i :: .ref (gad G q0) :: rest) := by
  obtain ⟨p, l, e, Rm, kc, nc, d, s, m, args, below, meth, c, D, cA, ad, A, lay, Q, nL, r, sf⟩ := G
  obtain ⟨hx, hb, hml, hown, hts, hK, hN, hA, hRd, hRl, hRk, hRn⟩ := C
  subst hp
  intro H locs la hP hD hS hv
  exact va_bald hx hb hK hP q0 2 (am_w_at hl) rfl (vp_in_iff.mpr hi) hd (kk H locs la hP hD hS hv)
theorem aw_lald (C : CX G cc own) {q0 n : Nat} {i : Int32} (hl : (gly G)[q0]? = some (.inl (3, n))) (hi : inb i n) (hd : decode cc pc = .ok (.laload, 1)) (hp : pc + 1 = pn) (kk : AW G st pn ls (.long (st.2 q0 i.toNatClampNeg) :: rest)) : AW G st pc ls (.int i :: .ref (gad G q0) :: rest) := by
  obtain ⟨p, l, e, Rm, kc, nc, d, s, m, args, below, meth, c, D, cA, ad, A, lay, Q, nL, r, sf⟩ := G
  obtain ⟨hx, hb, hml, hown, hts, hK, hN, hA, hRd, hRl, hRk, hRn⟩ := C
  subst hp
  intro H locs la hP hD hS hv
  exact va_lald hx hb hK hP q0 3 (am_w_at hl) rfl (vp_in_iff.mpr hi) hd (kk H locs la hP hD hS hv)
theorem aw_iast (C : CX G cc own) {q0 n : Nat} {i x : Int32} (hl : (gly G)[q0]? = some (.inl (0, n))) (hi : inb i n) (hd : decode cc pc = .ok (.iastore, 1)) (hp : pc + 1 = pn) (kk : AW G (sI st q0 i.toNatClampNeg x) pn ls rest) : AW G st pc ls (.int x :: .int i :: .ref (gad G q0) :: rest) := by
  obtain ⟨p, l, e, Rm, kc, nc, d, s, m, args, below, meth, c, D, cA, ad, A, lay, Q, nL, r, sf⟩ := G
  obtain ⟨hx, hb, hml, hown, hts, hK, hN, hA, hRd, hRl, hRk, hRn⟩ := C
  subst hp
  have hl : lay[q0]? = some (.inl (0, n)) := hl
  intro H locs la hP hD hS hv
  refine va_iast hx hb hK hP hD hS q0 0 (am_w_at hl) rfl (vp_in_iff.mpr hi) hd (fun H1 locs1 hP1 hD1 hS1 => ?_)
  have e : (am_w ad cA st lay).set q0 (ad q0, .inl (cA 0, n, .inl (upd (st.1 q0) i.toNatClampNeg x))) = am_w ad cA (sI st q0 i.toNatClampNeg x) lay := by
    have h0 := am_w_set (ad := ad) (cA := cA) (st := st) (st2 := sI st q0 i.toNatClampNeg x) (c := q0) hl (fun a ha => sR_ne ha) (fun a ha => rfl)
    rw [← h0]
    simp [am_ce, sI, sR]
  exact kk H1 locs1 la (by rw [← e]; exact hP1) (by rw [← e]; exact hD1) hS1 hv
theorem aw_zast (C : CX G cc own) {q0 n : Nat} {i x : Int32} (hl : (gly G)[q0]? = some (.inl (1, n))) (hi : inb i n) (hd : decode cc pc = .ok (.bastore, 1)) (hp : pc + 1 = pn) (kk : AW G (sI st q0 i.toNatClampNeg (vp_nar .boolean x)) pn ls rest) : AW G st pc ls (.int x :: .int i :: .ref (gad G q0) :: rest) := by
  obtain ⟨p, l, e, Rm, kc, nc, d, s, m, args, below, meth, c, D, cA, ad, A, lay, Q, nL, r, sf⟩ := G
  obtain ⟨hx, hb, hml, hown, hts, hK, hN, hA, hRd, hRl, hRk, hRn⟩ := C
  subst hp
  have hl : lay[q0]? = some (.inl (1, n)) := hl
  intro H locs la hP hD hS hv
  refine va_zast hx hb hK hP hD hS q0 1 (am_w_at hl) rfl (vp_in_iff.mpr hi) hd (fun H1 locs1 hP1 hD1 hS1 => ?_)
  have e : (am_w ad cA st lay).set q0 (ad q0, .inl (cA 1, n, .inl (upd (st.1 q0) i.toNatClampNeg (vp_nar .boolean x)))) = am_w ad cA (sI st q0 i.toNatClampNeg (vp_nar .boolean x)) lay := by
    have h0 := am_w_set (ad := ad) (cA := cA) (st := st) (st2 := sI st q0 i.toNatClampNeg (vp_nar .boolean x)) (c := q0) hl (fun a ha => sR_ne ha) (fun a ha => rfl)
    rw [← h0]
    simp [am_ce, sI, sR]
  exact kk H1 locs1 la (by rw [← e]; exact hP1) (by rw [← e]; exact hD1) hS1 hv
theorem aw_bast (C : CX G cc own) {q0 n : Nat} {i x : Int32} (hl : (gly G)[q0]? = some (.inl (2, n))) (hi : inb i n) (hd : decode cc pc = .ok (.bastore, 1)) (hp : pc + 1 = pn) (kk : AW G (sI st q0 i.toNatClampNeg (vp_nar .byte x)) pn ls rest) : AW G st pc ls (.int x :: .int i :: .ref (gad G q0) :: rest) := by
  obtain ⟨p, l, e, Rm, kc, nc, d, s, m, args, below, meth, c, D, cA, ad, A, lay, Q, nL, r, sf⟩ := G
  obtain ⟨hx, hb, hml, hown, hts, hK, hN, hA, hRd, hRl, hRk, hRn⟩ := C
  subst hp
  have hl : lay[q0]? = some (.inl (2, n)) := hl
  intro H locs la hP hD hS hv
  refine va_bast hx hb hK hP hD hS q0 2 (am_w_at hl) rfl (vp_in_iff.mpr hi) hd (fun H1 locs1 hP1 hD1 hS1 => ?_)
  have e : (am_w ad cA st lay).set q0 (ad q0, .inl (cA 2, n, .inl (upd (st.1 q0) i.toNatClampNeg (vp_nar .byte x)))) = am_w ad cA (sI st q0 i.toNatClampNeg (vp_nar .byte x)) lay := by
    have h0 := am_w_set (ad := ad) (cA := cA) (st := st) (st2 := sI st q0 i.toNatClampNeg (vp_nar .byte x)) (c := q0) hl (fun a ha => sR_ne ha) (fun a ha => rfl)
    rw [← h0]
    simp [am_ce, sI, sR]
  exact kk H1 locs1 la (by rw [← e]; exact hP1) (by rw [← e]; exact hD1) hS1 hv
theorem aw_last (C : CX G cc own) {q0 n : Nat} {i : Int32} {x : Int64} (hl : (gly G)[q0]? = some (.inl (3, n))) (hi : inb i n) (hd : decode cc pc = .ok (.lastore, 1)) (hp : pc + 1 = pn) (kk : AW G (sL st q0 i.toNatClampNeg x) pn ls rest) : AW G st pc ls (.long x :: .int i :: .ref (gad G q0) :: rest) := by
  obtain ⟨p, l, e, Rm, kc, nc, d, s, m, args, below, meth, c, D, cA, ad, A, lay, Q, nL, r, sf⟩ := G
  obtain ⟨hx, hb, hml, hown, hts, hK, hN, hA, hRd, hRl, hRk, hRn⟩ := C
  subst hp
  have hl : lay[q0]? = some (.inl (3, n)) := hl
  intro H locs la hP hD hS hv
  refine va_last hx hb hK hP hD hS q0 3 (am_w_at hl) rfl (vp_in_iff.mpr hi) hd (fun H1 locs1 hP1 hD1 hS1 => ?_)
  have e : (am_w ad cA st lay).set q0 (ad q0, .inl (cA 3, n, .inr (.inl (vp_updL (st.2 q0) i.toNatClampNeg x)))) = am_w ad cA (sL st q0 i.toNatClampNeg x) lay := by
    have h0 := am_w_set (ad := ad) (cA := cA) (st := st) (st2 := sL st q0 i.toNatClampNeg x) (c := q0) hl (fun a ha => rfl) (fun a ha => sL_ne ha)
    rw [← h0]
    simp [am_ce, sL]
  exact kk H1 locs1 la (by rw [← e]; exact hP1) (by rw [← e]; exact hD1) hS1 hv
theorem aw_alen (C : CX G cc own) {q0 n ak : Nat} {v : Int32} (hl : (gly G)[q0]? = some (.inl (ak, n))) (hak : ak < 4) (hv : Int32.ofNat n = v) (hd : decode cc pc = .ok (.arraylength, 1)) (hp : pc + 1 = pn) (kk : AW G st pn ls (.int v :: rest)) : AW G st pc ls (.ref (gad G q0) :: rest) := by
  obtain ⟨p, l, e, Rm, kc, nc, d, s, m, args, below, meth, c, D, cA, ad, A, lay, Q, nL, r, sf⟩ := G
  obtain ⟨hx, hb, hml, hown, hts, hK, hN, hA, hRd, hRl, hRk, hRn⟩ := C
  subst hp
  intro H locs la hP hD hS hq
  have ht : (am_ty cA)[ak]? = some (cA ak, if ak = 0 then FieldType.int else if ak = 1 then .boolean else if ak = 2 then .byte else .long) := by
    rcases (show ak = 0 ∨ ak = 1 ∨ ak = 2 ∨ ak = 3 by omega) with rfl | rfl | rfl | rfl <;> rfl
  exact va_alen hx hb hK hP q0 ak (am_w_at hl) ht hv hd (kk H locs la hP hD hS hq)
theorem aw_mmin (C : CX G cc own) {index : Nat} {x y : Int32} (h1 : 1 ≤ gd G) (hr8 : (rest.map fun v => v.category).sum ≤ 8) (hw : Cond.methodLink own index Lib.Math.min.name ∈ TB) (hw2 : Cond.static Lib.Math.min.name ∈ TB) (hw3 : Cond.initialized "java/lang/Math" ∈ TB) (hw4 : Cond.code Lib.Math.min.name Lib.Math.min.code 2 (some .int) ∈ TB) (hd : decode cc pc = .ok (.invokestatic index, 3)) (hp : pc + 3 = pn) (kk : AW G st pn ls (.int (if y < x then y else x) :: rest)) : AW G st pc ls (.int y :: .int x :: rest) := by
  obtain ⟨p, l, e, Rm, kc, nc, d, s, m, args, below, meth, c, D, cA, ad, A, lay, Q, nL, r, sf⟩ := G
  obtain ⟨hx, hb, hml, hown, hts, hK, hN, hA, hRd, hRl, hRk, hRn⟩ := C
  subst hp
  intro H locs la hP hD hS hl
  have h1 : 1 ≤ d := h1
  exact va_mmin hx hb (hml.trans hl.1.symm) hown (hts _ hw) (hts _ hw2) (hts _ hw3) (hts _ hw4) (Nat.le_trans h1 hRd) (by omega) hRk hRn hd (kk H locs la hP hD hS hl)
theorem aw_mmax (C : CX G cc own) {index : Nat} {x y : Int32} (h1 : 1 ≤ gd G) (hr8 : (rest.map fun v => v.category).sum ≤ 8) (hw : Cond.methodLink own index Lib.Math.max.name ∈ TB) (hw2 : Cond.static Lib.Math.max.name ∈ TB) (hw3 : Cond.initialized "java/lang/Math" ∈ TB) (hw4 : Cond.code Lib.Math.max.name Lib.Math.max.code 2 (some .int) ∈ TB) (hd : decode cc pc = .ok (.invokestatic index, 3)) (hp : pc + 3 = pn) (kk : AW G st pn ls (.int (if x < y then y else x) :: rest)) : AW G st pc ls (.int y :: .int x :: rest) := by
  obtain ⟨p, l, e, Rm, kc, nc, d, s, m, args, below, meth, c, D, cA, ad, A, lay, Q, nL, r, sf⟩ := G
  obtain ⟨hx, hb, hml, hown, hts, hK, hN, hA, hRd, hRl, hRk, hRn⟩ := C
  subst hp
  intro H locs la hP hD hS hl
  have h1 : 1 ≤ d := h1
  exact va_mmax hx hb (hml.trans hl.1.symm) hown (hts _ hw) (hts _ hw2) (hts _ hw3) (hts _ hw4) (Nat.le_trans h1 hRd) (by omega) hRk hRn hd (kk H locs la hP hD hS hl)
theorem am_nf : nativeFrameWords "java/lang/System" "arraycopy" 5 + 11 ≤ 50 := by decide +kernel
theorem aw_copy (C : CX G cc own) {index c0 c1 n0 n1 : Nat} {sp dp n : Int32} (h1 : 1 ≤ gd G) (hr8 : (rest.map fun v => v.category).sum ≤ 8) (hl0 : (gly G)[c0]? = some (.inl (0, n0))) (hl1 : (gly G)[c1]? = some (.inl (0, n1))) (hw : Cond.methodLink own index arraycopyName ∈ TB) (hw2 : Cond.native arraycopyName ∈ TB) (hw3 : Cond.static arraycopyName ∈ TB) (hw4 : Cond.initialized "java/lang/System" ∈ TB) (g1 : ¬ sp < 0) (g2 : ¬ dp < 0) (g3 : ¬ n < 0) (g4 : sp.toNatClampNeg + n.toNatClampNeg ≤ n0) (g5 : dp.toNatClampNeg + n.toNatClampNeg ≤ n1) (hd : decode cc pc = .ok (.invokestatic index, 3)) (hp : pc + 3 = pn) (kk : AW G (sR st c1 (va_cpy (st.1 c0) (st.1 c1) sp.toNatClampNeg dp.toNatClampNeg n.toNatClampNeg)) pn ls rest) : AW G st pc ls (.int n :: .int dp :: .ref (gad G c1) :: .int sp :: .ref (gad G c0) :: rest) := by
  obtain ⟨p, l, e, Rm, kc, nc, d, s, m, args, below, meth, c, D, cA, ad, A, lay, Q, nL, r, sf⟩ := G
  obtain ⟨hx, hb, hml, hown, hts, hK, hN, hA, hRd, hRl, hRk, hRn⟩ := C
  subst hp
  intro H locs la hP hD hS hl
  have h1 : 1 ≤ d := h1
  have hl1 : lay[c1]? = some (.inl (0, n1)) := hl1
  have h50 := am_nf
  refine va_copyi hx hb (hml.trans hl.1.symm) hown (hts _ hw) (hts _ hw2) (hts _ hw3) (hts _ hw4) hK hP hD hS c0 c1 0 0 (am_w_at hl0) (am_w_at hl1) rfl rfl rfl g1 g2 g3 g4 g5 (fun i hi => rfl) (Nat.le_trans h1 hRd) (by omega) hd (fun H1 locs1 hP1 hD1 hS1 => ?_)
  have e : ∀ f, (am_w ad cA st lay).set c1 (ad c1, .inl (cA 0, n1, .inl f)) = am_w ad cA (sR st c1 f) lay := by
    intro f
    have h0 := am_w_set (ad := ad) (cA := cA) (st := st) (st2 := sR st c1 f) (c := c1) hl1 (fun a ha => sR_ne ha) (fun a ha => rfl)
    rw [← h0]
    simp [am_ce, sR]
  exact kk H1 locs1 la (by rw [← e]; exact hP1) (by rw [← e]; exact hD1) hS1 hl
theorem aw_sub (ls2 : List (Nat × Value)) (ks : List Nat) (h : lv_pick ls ks = ls2) (kk : AW G st pc ls2 rest) : AW G st pc ls rest := by
  obtain ⟨p, l, e, Rm, kc, nc, d, s, m, args, below, meth, c, D, cA, ad, A, lay, Q, nL, r, sf⟩ := G
  intro H locs la hP hD hS hl
  exact kk H locs la hP hD hS (lv_sub hl ks h)
theorem aw_iret (C : CX G cc own) (CR0 : CR G (some .int)) {v : Int32}  (h1 : gr G = some (.int v)) (h2 : gsf G = st) (hd : decode cc pc = .ok (.ireturn, 1)) : AW G st pc ls [.int v] := by
  obtain ⟨p, l, e, Rm, kc, nc, d, s, m, args, below, meth, c, D, cA, ad, A, lay, Q, nL, r, sf⟩ := G
  obtain ⟨hx, hb, hml, hown, hts, hK, hN, hA, hRd, hRl, hRk, hRn⟩ := C
  intro H locs la hP hD hS hl
  have h1 : r = some (.int v) := h1
  have h2 : sf = st := h2
  obtain ⟨hr, hlk, hQ⟩ := CR0
  subst h1; subst h2; subst hQ
  exact W.iret hx hb hr (fun t ht hW => ⟨rfl, by rw [ht]; exact hP, hD, hS.F ht⟩) hS.2.2 hd
theorem aw_zret (C : CX G cc own) (CR0 : CR G (some .boolean)) {v : Int32} (hz : v = 0 ∨ v = 1) (h1 : gr G = some (.int v)) (h2 : gsf G = st) (hd : decode cc pc = .ok (.ireturn, 1)) : AW G st pc ls [.int v] := by
  obtain ⟨p, l, e, Rm, kc, nc, d, s, m, args, below, meth, c, D, cA, ad, A, lay, Q, nL, r, sf⟩ := G
  obtain ⟨hx, hb, hml, hown, hts, hK, hN, hA, hRd, hRl, hRk, hRn⟩ := C
  intro H locs la hP hD hS hl
  have h1 : r = some (.int v) := h1
  have h2 : sf = st := h2
  obtain ⟨hr, hlk, hQ⟩ := CR0
  subst h1; subst h2; subst hQ
  exact W.zret hx hb hr (am_bool hz).1 (fun t ht hW => ⟨rfl, by rw [ht]; exact hP, hD, hS.F ht⟩) hS.2.2 hd
theorem aw_lret (C : CX G cc own) (CR0 : CR G (some .long)) {v : Int64}  (h1 : gr G = some (.long v)) (h2 : gsf G = st) (hd : decode cc pc = .ok (.lreturn, 1)) : AW G st pc ls [.long v] := by
  obtain ⟨p, l, e, Rm, kc, nc, d, s, m, args, below, meth, c, D, cA, ad, A, lay, Q, nL, r, sf⟩ := G
  obtain ⟨hx, hb, hml, hown, hts, hK, hN, hA, hRd, hRl, hRk, hRn⟩ := C
  intro H locs la hP hD hS hl
  have h1 : r = some (.long v) := h1
  have h2 : sf = st := h2
  obtain ⟨hr, hlk, hQ⟩ := CR0
  subst h1; subst h2; subst hQ
  exact W.lret hx hb hr (fun t ht hW => ⟨rfl, by rw [ht]; exact hP, hD, hS.F ht⟩) hS.2.2 hd
theorem aw_vret (C : CX G cc own) (CR0 : CR G (none))   (h1 : gr G = none) (h2 : gsf G = st) (hd : decode cc pc = .ok (.return_, 1)) : AW G st pc ls [] := by
  obtain ⟨p, l, e, Rm, kc, nc, d, s, m, args, below, meth, c, D, cA, ad, A, lay, Q, nL, r, sf⟩ := G
  obtain ⟨hx, hb, hml, hown, hts, hK, hN, hA, hRd, hRl, hRk, hRn⟩ := C
  intro H locs la hP hD hS hl
  have h1 : r = none := h1
  have h2 : sf = st := h2
  obtain ⟨hr, hlk, hQ⟩ := CR0
  subst h1; subst h2; subst hQ
  exact W.vret hx hb hr (fun t ht hW => ⟨rfl, by rw [ht]; exact hP, hD, hS.F ht⟩) hS.2.2 hd
theorem aw_nmi {x y : Int32} (h : y = x) (kk : AW G st pc ls (.int y :: rest)) : AW G st pc ls (.int x :: rest) := by subst h; exact kk
theorem aw_nml {x y : Int64} (h : y = x) (kk : AW G st pc ls (.long y :: rest)) : AW G st pc ls (.long x :: rest) := by subst h; exact kk
theorem aw_iretq (C : CX G cc own) (CR0 : CR G (some .int)) {v : Int32} {q : Int32 × Mm} (hgr : gr G = some (.int q.1)) (hgs : gsf G = q.2) (hf : some (v, st) = some q) (hd : decode cc pc = .ok (.ireturn, 1)) : AW G st pc ls [.int v] := by
  obtain ⟨h1, h2⟩ := irt hf
  exact aw_iret C CR0 (by rw [hgr, h1]) (by rw [hgs, h2]) hd
theorem aw_zretq (C : CX G cc own) (CR0 : CR G (some .boolean)) {v : Int32} {q : Int32 × Mm} (hgr : gr G = some (.int q.1)) (hgs : gsf G = q.2) (hz : v = 0 ∨ v = 1) (hf : some (v, st) = some q) (hd : decode cc pc = .ok (.ireturn, 1)) : AW G st pc ls [.int v] := by
  obtain ⟨h1, h2⟩ := irt hf
  exact aw_zret C CR0 hz (by rw [hgr, h1]) (by rw [hgs, h2]) hd
theorem aw_lretq (C : CX G cc own) (CR0 : CR G (some .long)) {v : Int64} {q : Int64 × Mm} (hgr : gr G = some (.long q.1)) (hgs : gsf G = q.2) (hf : some (v, st) = some q) (hd : decode cc pc = .ok (.lreturn, 1)) : AW G st pc ls [.long v] := by
  obtain ⟨h1, h2⟩ := irt hf
  exact aw_lret C CR0 (by rw [hgr, h1]) (by rw [hgs, h2]) hd
theorem aw_vretq (C : CX G cc own) (CR0 : CR G none) {q : Unit × Mm} (hgr : gr G = none) (hgs : gsf G = q.2) (hf : some ((), st) = some q) (hd : decode cc pc = .ok (.return_, 1)) : AW G st pc ls [] := by
  obtain ⟨h1, h2⟩ := irt hf
  exact aw_vret C CR0 hgr (by rw [hgs, h2]) hd
theorem aw_zastB (C : CX G cc own) {q0 n : Nat} {i x : Int32} (hl : (gly G)[q0]? = some (.inl (1, n))) (hi : inb i n) (hz : x = 0 ∨ x = 1) (hd : decode cc pc = .ok (.bastore, 1)) (hp : pc + 1 = pn) (kk : AW G (sI st q0 i.toNatClampNeg x) pn ls rest) : AW G st pc ls (.int x :: .int i :: .ref (gad G q0) :: rest) :=
  aw_zast C hl hi hd hp (by rw [am_nb hz]; exact kk)
end AMR
section AMC
variable {p : Program} {l : Launch} {e : Env} {R : Room} {s : State} {m : MethodId} {args : Array Value} {below : List Frame} {meth : Method} {c : Code} {H : Heap} {locs : List Loc} {Q : State → Prop} {pc : Nat} {la : Array Slot} {rest st0 : List Value} {a : Array Value} {A0 A1 : Nat → Prop} {D : va_G} {cA : Nat → ClassId} {ad : Nat → Nat} {lay : Ly} {r : Option Value} {s1 : Mm} {kc nc : Nat}
theorem am_cont (hr : va_Run p l e R s m args below meth c H locs kc nc 0 0 (F0 m pc la st0) rest (am_Qc D cA ad lay A1 r s1 a) A1) (hS : va_S A0 s.heap H locs) (hA : ∀ q, A1 q → A0 q)
    (kk : ∀ (H1 : Heap) (locs1 : List Loc), va_P D CLS (am_w ad cA s1 lay) H1 → va_D A0 (am_w ad cA s1 lay) → va_S A0 s.heap H1 locs1 → W p l e R s m args below meth c H1 locs1 kc nc Q (F0 m (pc + 3) la (r.toList ++ rest))) : W p l e R s m args below meth c H locs kc nc Q (F0 m pc la st0) := by
  intro T hT X
  obtain ⟨v, st₀, t, T', L, h0, X', hL, e1, e2, ⟨hv, hP1, hD1, hz, hk⟩, st⟩ := hr T hT X
  cases hv
  rw [h0] at hz hk
  obtain ⟨t2, a1, b1⟩ := kk T'.heap (locs ++ L) (by rw [e1]; exact hP1) (hD1.weaken (fun _ _ _ h => hA _ h))
    ⟨Nat.le_trans hS.1 (by rw [e1]; exact hz), fun q h1 h2 => by rw [e1, hk q (Nat.lt_of_lt_of_le h1 hS.1) (fun z => h2 (hA q z))]; exact hS.2.1 q h1 h2, fun q hq => by
      rcases List.mem_append.mp hq with h | h
      · exact hS.2.2 q h
      · exact hA _ (hL q h)⟩ T' rfl X'
  exact ⟨t2, st t2 a1, b1⟩
theorem am_fr {ws : va_W} (hD : va_D A0 ws) (hS : va_S A0 s.heap H locs) (hA : ∀ q, s.heap.size ≤ q → A0 q) : ∀ q, va_A ws H.size q → A0 q := by
  intro q h
  rcases h with ⟨k, e, h⟩ | h
  · exact hD.2 k _ h
  · exact hA q (Nat.le_trans hS.1 h)
theorem am_N.warm {s U : State} (hW : s.WarmedH U.vm) (h : am_N s) : am_N U := fun w hw => by
  obtain ⟨own, i, y, host, rfl⟩ := NWL_of w hw
  exact va_Nw.warmM hW (h _ hw)
theorem am_N.same {u U : State} (hv : u.vm = U.vm) (h : am_N u) : am_N U := fun w hw => by
  obtain ⟨own, i, y, host, rfl⟩ := NWL_of w hw
  exact va_Nw.same rfl hv (h _ hw)
theorem am_blind {av : List Value} {st : Mm} {sz : Nat} : FrameBlind (va_Pc av (am_B D cA ad lay st sz)) := fun b U g mk q => by
  obtain ⟨q0, q1, qP, qK, qD, qN⟩ := q
  exact ⟨q0, q1, qP, va_K.moved (u := U) (U := U.calling g mk b) (Vm.Alike.refl U.vm) qK, qD, am_N.same (u := U) rfl qN⟩
theorem tb_good {y : MethodName} {bytes : ByteArray} {maxL : Nat} {rt : Option FieldType} (hc : Cond.code y bytes maxL rt ∈ TB) : GoodIn TB (.code y bytes maxL rt :: TB) := fun w hw => by
  have h1 : w ∈ TB := by
    rcases List.mem_cons.mp hw with rfl | h
    · exact hc
    · exact h
  exact ⟨h1, good_of_word (TB_good w h1)⟩
end AMC
section AMCC
variable {G : Cx} {cc : ByteArray} {own : String} {st : Mm} {pc pn : Nat} {ls : List (Nat × Value)} {rest : List Value} {y : MethodName} {bytes : ByteArray} {maxL d0 index : Nat} {rt : Option FieldType} {as : (Nat → Nat) → List Value} {s1 : Mm} {rv : Option Value}
theorem aw_callV (C : CX G cc own)  {n : Nat} (hM : Con d0 y bytes maxL rt (gly G) as st rv s1) (hlk : Cond.methodLink own index y ∈ TB) (Y : YF y bytes maxL rt n) {ci q0 N : Nat} {T : u_T} {fs : List (Option (Option Nat))} (I : YI y ci T N) (hl : (gly G)[q0]? = some (.inr (ci, fs))) (ar : List Value) (har : as (gad G) = .ref (gad G q0) :: ar) (hlen : ar.length = n) (sv : List Value) (hsv : sv = ar.reverse ++ .ref (gad G q0) :: rest) (hd0 : d0 + 1 ≤ gd G) (hr8 : (rest.map fun v => v.category).sum ≤ 8) (hd : decode cc pc = .ok (.invokevirtual index, 3)) (hp : pc + 3 = pn) (kk : AW G s1 pn ls (rv.toList ++ rest)) : AW G st pc ls sv := by
  obtain ⟨p, l, e, Rm, kc, nc, d, s, m, args, below, meth, c, D, cA, ad, A, lay, Q, nL, r, sf⟩ := G
  obtain ⟨hx, hb, hml, hown, hts, hK, hN, hA, hRd, hRl, hRk, hRn⟩ := C
  subst hp
  subst hsv
  intro H locs la hP hD hS hv
  have hd0 : d0 + 1 ≤ d := hd0
  have hF := am_fr (H := H) hD hS hA
  obtain ⟨hcd, hini, hy, hn, hmx, -⟩ := Y
  have hpl : ∀ sig, parseMethodDescriptor y.desc = some sig → n = sig.parameters.length := fun sig h => by
    rw [h] at hn
    exact (Option.some.inj hn).symm
  obtain ⟨hin, hsl, hcl⟩ := I
  have har : as ad = .ref (ad q0) :: ar := har
  have hpre : PreV s H y.cls (ad q0) (va_Pc (as ad) (am_B D cA ad lay st H.size)) ar := ⟨am_blind, va_recv hK hP hcl (am_w_at hl), fun U hU hW => ⟨by rw [har], by rw [hU], by rw [hU]; exact hP, va_K.moved hW.alike hK, hD.weaken (fun _ _ _ _ => trivial), am_N.warm hW hN⟩⟩
  exact am_cont (va_runV (As := ar) (rest := rest) (n := n) (C := y.cls) ⟨hx, hb, hml, hown, hts⟩ (hM l D cA ad H.size) ⟨⟨rfl, rfl, Nat.le_trans hd0 hRd, (by show 8 + (maxL + 11) + 64 * d0 ≤ _; omega), pay_in hts (tb_good hcd), List.mem_cons_self, hts _ hcd, hts _ hini, hy, hpl, hts _ hlk⟩, hts _ hin, hts _ hsl⟩ hpre rfl hlen hv.1 rfl (lv_room hr8) hd ⟨hRk, hRn⟩) hS hF (fun H1 locs1 hP1 hD1 hS1 => kk H1 locs1 la hP1 hD1 hS1 hv)
theorem aw_callS (C : CX G cc own)  {n : Nat} (hM : Con d0 y bytes maxL rt (gly G) as st rv s1) (hlk : Cond.methodLink own index y ∈ TB) (Y : YF y bytes maxL rt n) (hst : Cond.static y ∈ TB) (hlen : (as (gad G)).length = n) (sv : List Value) (hsv : sv = (as (gad G)).reverse ++ rest) (hd0 : d0 + 1 ≤ gd G) (hr8 : (rest.map fun v => v.category).sum ≤ 8) (hd : decode cc pc = .ok (.invokestatic index, 3)) (hp : pc + 3 = pn) (kk : AW G s1 pn ls (rv.toList ++ rest)) : AW G st pc ls sv := by
  obtain ⟨p, l, e, Rm, kc, nc, d, s, m, args, below, meth, c, D, cA, ad, A, lay, Q, nL, r, sf⟩ := G
  obtain ⟨hx, hb, hml, hown, hts, hK, hN, hA, hRd, hRl, hRk, hRn⟩ := C
  subst hp
  subst hsv
  intro H locs la hP hD hS hv
  have hd0 : d0 + 1 ≤ d := hd0
  have hF := am_fr (H := H) hD hS hA
  obtain ⟨hcd, hini, hy, hn, hmx, -⟩ := Y
  have hpl : ∀ sig, parseMethodDescriptor y.desc = some sig → n = sig.parameters.length := fun sig h => by
    rw [h] at hn
    exact (Option.some.inj hn).symm
  have hpre : PreS s H (va_Pc (as ad) (am_B D cA ad lay st H.size)) (as ad) := ⟨am_blind, fun U hU hW => ⟨rfl, by rw [hU], by rw [hU]; exact hP, va_K.moved hW.alike hK, hD.weaken (fun _ _ _ _ => trivial), am_N.warm hW hN⟩⟩
  exact am_cont (va_runS (As := as ad) (rest := rest) (n := n) ⟨hx, hb, hml, hown, hts⟩ (hM l D cA ad H.size) ⟨⟨rfl, rfl, Nat.le_trans hd0 hRd, (by show 8 + (maxL + 11) + 64 * d0 ≤ _; omega), pay_in hts (tb_good hcd), List.mem_cons_self, hts _ hcd, hts _ hini, hy, hpl, hts _ hlk⟩, hts _ hst⟩ hpre rfl hlen hv.1 rfl (lv_room hr8) hd ⟨hRk, hRn⟩) hS hF (fun H1 locs1 hP1 hD1 hS1 => kk H1 locs1 la hP1 hD1 hS1 hv)
theorem aw_callVN (C : CX G cc own) {host : String} {n : Nat} (hM : Con d0 y bytes maxL rt (gly G) as st rv s1) (hlk : Cond.methodLinkNest own index y host ∈ NWL) (Y : YF y bytes maxL rt n) {ci q0 N : Nat} {T : u_T} {fs : List (Option (Option Nat))} (I : YI y ci T N) (hl : (gly G)[q0]? = some (.inr (ci, fs))) (ar : List Value) (har : as (gad G) = .ref (gad G q0) :: ar) (hlen : ar.length = n) (sv : List Value) (hsv : sv = ar.reverse ++ .ref (gad G q0) :: rest) (hd0 : d0 + 1 ≤ gd G) (hr8 : (rest.map fun v => v.category).sum ≤ 8) (hd : decode cc pc = .ok (.invokevirtual index, 3)) (hp : pc + 3 = pn) (kk : AW G s1 pn ls (rv.toList ++ rest)) : AW G st pc ls sv := by
  obtain ⟨p, l, e, Rm, kc, nc, d, s, m, args, below, meth, c, D, cA, ad, A, lay, Q, nL, r, sf⟩ := G
  obtain ⟨hx, hb, hml, hown, hts, hK, hN, hA, hRd, hRl, hRk, hRn⟩ := C
  subst hp
  subst hsv
  intro H locs la hP hD hS hv
  have hd0 : d0 + 1 ≤ d := hd0
  have hF := am_fr (H := H) hD hS hA
  obtain ⟨hcd, hini, hy, hn, hmx, -⟩ := Y
  have hpl : ∀ sig, parseMethodDescriptor y.desc = some sig → n = sig.parameters.length := fun sig h => by
    rw [h] at hn
    exact (Option.some.inj hn).symm
  obtain ⟨hin, hsl, hcl⟩ := I
  have har : as ad = .ref (ad q0) :: ar := har
  have hpre : PreV s H y.cls (ad q0) (va_Pc (as ad) (am_B D cA ad lay st H.size)) ar := ⟨am_blind, va_recv hK hP hcl (am_w_at hl), fun U hU hW => ⟨by rw [har], by rw [hU], by rw [hU]; exact hP, va_K.moved hW.alike hK, hD.weaken (fun _ _ _ _ => trivial), am_N.warm hW hN⟩⟩
  exact am_cont (va_runVN (As := ar) (rest := rest) (n := n) (C := y.cls) ⟨hx, hb, hml, hown, hts⟩ (hM l D cA ad H.size) ⟨⟨⟨rfl, rfl, Nat.le_trans hd0 hRd, (by show 8 + (maxL + 11) + 64 * d0 ≤ _; omega), pay_in hts (tb_good hcd), List.mem_cons_self⟩, hts _ hcd, hts _ hini, hy, hpl, va_Nw.use rfl (hN _ hlk)⟩, hts _ hin, hts _ hsl⟩ hpre rfl hlen hv.1 rfl (lv_room hr8) hd ⟨hRk, hRn⟩) hS hF (fun H1 locs1 hP1 hD1 hS1 => kk H1 locs1 la hP1 hD1 hS1 hv)
theorem aw_callSN (C : CX G cc own) {host : String} {n : Nat} (hM : Con d0 y bytes maxL rt (gly G) as st rv s1) (hlk : Cond.methodLinkNest own index y host ∈ NWL) (Y : YF y bytes maxL rt n) (hst : Cond.static y ∈ TB) (hlen : (as (gad G)).length = n) (sv : List Value) (hsv : sv = (as (gad G)).reverse ++ rest) (hd0 : d0 + 1 ≤ gd G) (hr8 : (rest.map fun v => v.category).sum ≤ 8) (hd : decode cc pc = .ok (.invokestatic index, 3)) (hp : pc + 3 = pn) (kk : AW G s1 pn ls (rv.toList ++ rest)) : AW G st pc ls sv := by
  obtain ⟨p, l, e, Rm, kc, nc, d, s, m, args, below, meth, c, D, cA, ad, A, lay, Q, nL, r, sf⟩ := G
  obtain ⟨hx, hb, hml, hown, hts, hK, hN, hA, hRd, hRl, hRk, hRn⟩ := C
  subst hp
  subst hsv
  intro H locs la hP hD hS hv
  have hd0 : d0 + 1 ≤ d := hd0
  have hF := am_fr (H := H) hD hS hA
  obtain ⟨hcd, hini, hy, hn, hmx, -⟩ := Y
  have hpl : ∀ sig, parseMethodDescriptor y.desc = some sig → n = sig.parameters.length := fun sig h => by
    rw [h] at hn
    exact (Option.some.inj hn).symm
  have hpre : PreS s H (va_Pc (as ad) (am_B D cA ad lay st H.size)) (as ad) := ⟨am_blind, fun U hU hW => ⟨rfl, by rw [hU], by rw [hU]; exact hP, va_K.moved hW.alike hK, hD.weaken (fun _ _ _ _ => trivial), am_N.warm hW hN⟩⟩
  exact am_cont (va_runSN (As := as ad) (rest := rest) (n := n) ⟨hx, hb, hml, hown, hts⟩ (hM l D cA ad H.size) ⟨⟨⟨rfl, rfl, Nat.le_trans hd0 hRd, (by show 8 + (maxL + 11) + 64 * d0 ≤ _; omega), pay_in hts (tb_good hcd), List.mem_cons_self⟩, hts _ hcd, hts _ hini, hy, hpl, va_Nw.use rfl (hN _ hlk)⟩, hts _ hst, trivial⟩ hpre rfl hlen hv.1 rfl (lv_room hr8) hd ⟨hRk, hRn⟩) hS hF (fun H1 locs1 hP1 hD1 hS1 => kk H1 locs1 la hP1 hD1 hS1 hv)
end AMCC
/-- a method's contract out of its walk -/
theorem am_met {d : Nat} {y : MethodName} {bytes : ByteArray} {maxL : Nat} {rt : Option FieldType} {lay : Ly} {as : (Nat → Nat) → List Value} {st : Mm} {r : Option Value} {sf : Mm} (hy : plainName y.cls = true) (hle : ∀ ad, (lg_sl (as ad)).length ≤ maxL)
    (body : ∀ G : Cx, CX G bytes y.cls → CR G rt → gly G = lay → gnL G = maxL → gr G = r → gsf G = sf → gd G = d → AW G st 0 (lv_args 0 (as (gad G))) []) : Con d y bytes maxL rt lay as st r sf := by
  intro l D cA ad sz
  refine Met.ofW (cc := bytes) (maxL := maxL) (ret := rt) hy rfl ?_
  intro p e s m args below meth c s₁ B hml hv
  obtain ⟨rfl, hsz, hP, hK, hD0, hN⟩ := hv
  have hts : ∀ w ∈ TB, w.before (as ad).toArray s = true := fun w hw => atoms_spec (ws := .code y bytes maxL rt :: TB) B.pre w (List.mem_cons_of_mem _ hw)
  have hown : s.vm.findClass y.cls = some m.cls := findClass_of_methodNamed B.named
  subst hsz
  have hD := hD0.self (sz := s.heap.size)
  have hl := lv_entry (as ad) (n := maxL) (hle ad)
  rw [lg_entry_eq]
  exact body (p, l, e, rmd d, 0, 0, d, s, m, (as ad).toArray, below, meth, c, D, cA, ad, va_A (am_w ad cA st lay) s.heap.size, lay, MQ below (am_Qc D cA ad lay (va_A (am_w ad cA st lay) s.heap.size) r sf) (as ad).toArray s 0 0 (va_A (am_w ad cA st lay) s.heap.size), maxL, r, sf) ⟨B.exec, B.bytes, hml, hown, hts, hK, hN, fun q h => Or.inr h, Nat.le_refl _, Nat.le_refl _, Nat.le_refl _, Nat.le_refl _⟩ ⟨B.returns, B.notSynchronized, rfl⟩ rfl rfl rfl rfl rfl s.heap [] _ hP hD va_S.rf hl
