/-! the walk over the pieces: its steps in the memory -/
theorem x_beside_key {n : Nat} (hn2 : n ≤ 16) (st : Mm) : ∀ (a b : Int32) (x y : Nat) (o : Option Nat), (o = none → ¬ (0 ≤ a.toInt ∧ a.toInt < n ∧ 0 ≤ b.toInt ∧ b.toInt < n)) → (∀ c, o = some c → a = nI x ∧ b = nI y ∧ x < n ∧ y < n ∧ c = 16 * y + x) → b_x_cellBeside_45 (nI n) a b st = some (oI o, st) := by
  intro a b x y o h1 h2
  unfold b_x_cellBeside_45
  cases o with
  | none =>
    have := h1 rfl
    simp only [i_lt, i_le, i_z, nI_T (show n < 2147483648 by omega)]
    repeat' split
    all_goals first | rfl | omega
  | some c =>
    obtain ⟨rfl, rfl, h3, h4, rfl⟩ := h2 c rfl
    rw [if_neg (nI_pos (by omega)), if_neg (nI_ge h3 (by omega)), if_neg (nI_pos (by omega)), if_neg (nI_ge h4 (by omega))]
    unfold f_x_cellAt
    simp only [Option.bind_some]
    rw [cellI]; rfl
theorem x_cellBeside_eq {n k j : Nat} (hn2 : n ≤ 16) (hk : isC n k) (hj : j < 4) (st : Mm) : f_x_cellBeside (nI k) (nI j) (nI n) st = some (oI (nbr n k j), st) := by
  obtain ⟨h1, h2, h3⟩ := hk
  unfold f_x_cellBeside
  rw [an15 (by omega), sh4 (by omega), lt_eq, lt_eq]
  rcases (show j = 0 ∨ j = 1 ∨ j = 2 ∨ j = 3 by omega) with rfl | rfl | rfl | rfl
  · rw [if_neg (show ¬ (2 : Int32) ≤ nI 0 by decide), if_pos (show nI 0 = (0 : Int32) from rfl), lt_eq]
    refine x_beside_key hn2 st _ _ (k % 16 + 1) (k / 16) _ (fun ho => ?_) (fun c hc => ?_)
    · simp only [nbr, if_true] at ho
      rw [nI_1, nI_T (by omega), nI_T (by omega)]
      split at ho
      · cases ho
      · omega
    · simp only [nbr, if_true] at hc
      split at hc
      · cases hc; exact ⟨nI_1 _, rfl, by omega, by omega, by omega⟩
      · cases hc
  · rw [if_neg (show ¬ (2 : Int32) ≤ nI 1 by decide), if_neg (show ¬ nI 1 = (0 : Int32) by decide), lt_eq]
    refine x_beside_key hn2 st _ _ (k % 16 - 1) (k / 16) _ (fun ho => ?_) (fun c hc => ?_)
    · simp only [nbr, show ¬ (1 = 0) by decide, if_false, if_true] at ho
      rw [nI_pm1 (by omega), nI_T (by omega)]
      split at ho
      · cases ho
      · omega
    · simp only [nbr, show ¬ (1 = 0) by decide, if_false, if_true] at hc
      split at hc
      · cases hc; exact ⟨nI_pm2 (by omega), rfl, by omega, by omega, by omega⟩
      · cases hc
  · rw [if_pos (show (2 : Int32) ≤ nI 2 by decide), if_pos (show nI 2 = (2 : Int32) from rfl), lt_eq]
    refine x_beside_key hn2 st _ _ (k % 16) (k / 16 + 1) _ (fun ho => ?_) (fun c hc => ?_)
    · simp only [nbr, show ¬ (2 = 0) by decide, show ¬ (2 = 1) by decide, if_false, if_true] at ho
      rw [nI_1, nI_T (by omega), nI_T (by omega)]
      split at ho
      · cases ho
      · omega
    · simp only [nbr, show ¬ (2 = 0) by decide, show ¬ (2 = 1) by decide, if_false, if_true] at hc
      split at hc
      · cases hc; exact ⟨rfl, nI_1 _, by omega, by omega, by omega⟩
      · cases hc
  · rw [if_pos (show (2 : Int32) ≤ nI 3 by decide), if_neg (show ¬ nI 3 = (2 : Int32) by decide), lt_eq]
    refine x_beside_key hn2 st _ _ (k % 16) (k / 16 - 1) _ (fun ho => ?_) (fun c hc => ?_)
    · simp only [nbr, show ¬ (3 = 0) by decide, show ¬ (3 = 1) by decide, show ¬ (3 = 2) by decide, if_false] at ho
      rw [nI_pm1 (by omega), nI_T (by omega)]
      split at ho
      · cases ho
      · omega
    · simp only [nbr, show ¬ (3 = 0) by decide, show ¬ (3 = 1) by decide, show ¬ (3 = 2) by decide, if_false] at hc
      split at hc
      · cases hc; exact ⟨rfl, nI_pm2 (by omega), by omega, by omega, by omega⟩
      · cases hc
def LDf : List (Nat × Option Nat) := [(34, some 6), (35, none), (36, none), (37, none), (38, none), (39, none), (40, none), (41, none)]
def Dm (g : Nat → Int32) (r tb : Nat) (s : Mm) (D : Dz) : Prop :=
  (∀ c, c < 256 → s.1 38 c = nI (zM D c)) ∧ (∀ c, c < 256 → zM D c ≠ 0 → s.1 39 c = nI (zR D c) ∧ s.1 40 c = oI (zP D c) ∧ s.1 41 c = nI (zT D c)) ∧ (∀ c, c < 256 → s.1 35 c = oI (zL D c)) ∧ Rw (s.1 37) (zH D) ∧ s.1 34 6 = nI (zt D) ∧ s.1 36 r = nI (zt D - tb) ∧ (∀ c, c ≠ r → s.1 36 c = g c)
def WFz (n : Nat) (D : Dz) : Prop := (∀ x, zM D x ≠ 0 → isC n x) ∧ zt D ≤ 256 ∧ (∀ x, zM D x ≤ zt D) ∧ (∀ x, zM D x ≠ 0 → zR D x ≤ 256 ∧ zT D x ≤ 5) ∧ (∀ x y, zM D x ≠ 0 → zP D x = some y → zM D y ≠ 0)
theorem Dm.bump {g : Nat → Int32} {r tb : Nat} {s : Mm} {D : Dz} (h : Dm g r tb s D) {c : Nat} (hc : c < 256) : Dm g r tb (sI s 41 c (nI (zT D c + 1))) (zbump D c) := by
  obtain ⟨h1, h2, h3, h4, h5, h6, h7⟩ := h
  refine ⟨fun x hx => by rw [sI_row _ _ _ _ (by decide)]; exact h1 x hx, fun x hx hm => ⟨by rw [sI_row _ _ _ _ (by decide)]; exact (h2 x hx hm).1, by rw [sI_row _ _ _ _ (by decide)]; exact (h2 x hx hm).2.1, ?_⟩, fun x hx => by rw [sI_row _ _ _ _ (by decide)]; exact h3 x hx, by rw [sI_row _ _ _ _ (by decide)]; exact h4, by rw [sI_row _ _ _ _ (by decide)]; exact h5, by rw [sI_row _ _ _ _ (by decide)]; exact h6, fun x hx => by rw [sI_row _ _ _ _ (by decide)]; exact h7 x hx⟩
  rw [sI_at]
  show _ = nI (if x = c then zT D c + 1 else zT D x)
  by_cases e : x = c
  · simp [e]
  · simp only [e, and_false, reduceIte]; exact (h2 x hx hm).2.2
theorem Dm.low {g : Nat → Int32} {r tb : Nat} {s : Mm} {D : Dz} (h : Dm g r tb s D) {c v : Nat} : Dm g r tb (sI s 39 c (nI (min (zR D c) v))) (zlow D c v) := by
  obtain ⟨h1, h2, h3, h4, h5, h6, h7⟩ := h
  refine ⟨fun x hx => by rw [sI_row _ _ _ _ (by decide)]; exact h1 x hx, fun x hx hm => ⟨?_, by rw [sI_row _ _ _ _ (by decide)]; exact (h2 x hx hm).2.1, by rw [sI_row _ _ _ _ (by decide)]; exact (h2 x hx hm).2.2⟩, fun x hx => by rw [sI_row _ _ _ _ (by decide)]; exact h3 x hx, by rw [sI_row _ _ _ _ (by decide)]; exact h4, by rw [sI_row _ _ _ _ (by decide)]; exact h5, by rw [sI_row _ _ _ _ (by decide)]; exact h6, fun x hx => by rw [sI_row _ _ _ _ (by decide)]; exact h7 x hx⟩
  rw [sI_at]
  show _ = nI (if x = c then min (zR D c) v else zR D x)
  by_cases e : x = c
  · simp [e]
  · simp only [e, and_false, reduceIte]; exact (h2 x hx hm).1
theorem Dm.mark {g : Nat → Int32} {r tb : Nat} {s : Mm} {D : Dz} (h : Dm g r tb s D) {c : Nat} (hc : c < 256) {P : Unit × Mm → Prop} (hP : ∀ s2, Fr LDf s s2 → Dm g r tb s2 (zmark D c) → P ((), s2)) : Ok (f_Pcs_markThread (nI c) s) P := by
  obtain ⟨h1, h2, h3, h4, h5, h6, h7⟩ := h
  unfold f_Pcs_markThread
  rw [sh4 (by omega), an15 (by omega)]
  have hb := inb_nI (show c / 16 < 16 by omega) (show 16 < 2147483648 by omega)
  refine ok_lt (ok_t hb (ok_lt (ok_t hb (ok_some (hP _ (Fr.rf.sI rfl) ?_)))))
  rw [cl_nI (by omega)]
  refine ⟨fun x hx => by rw [sI_row _ _ _ _ (by decide)]; exact h1 x hx, fun x hx hm => ⟨by rw [sI_row _ _ _ _ (by decide)]; exact (h2 x hx hm).1, by rw [sI_row _ _ _ _ (by decide)]; exact (h2 x hx hm).2.1, by rw [sI_row _ _ _ _ (by decide)]; exact (h2 x hx hm).2.2⟩, fun x hx => by rw [sI_row _ _ _ _ (by decide)]; exact h3 x hx, ?_, by rw [sI_row _ _ _ _ (by decide)]; exact h5, by rw [sI_row _ _ _ _ (by decide)]; exact h6, fun x hx => by rw [sI_row _ _ _ _ (by decide)]; exact h7 x hx⟩
  rw [sI_own]
  exact row_orb h4 hc
theorem Dm.meet {g : Nat → Int32} {r tb : Nat} {s : Mm} {D : Dz} (h : Dm g r tb s D) {c : Nat} (b : Option Nat) (hc : c < 256) (hr : r < 256) (htb : tb ≤ zt D) {P : Unit × Mm → Prop} (hP : ∀ s2, Fr LDf s s2 → Dm g r tb s2 (zmeet D c b r) → P ((), s2)) : Ok (f_Pcs_meet (nI c) (oI b) (nI r) s) P := by
  obtain ⟨h1, h2, h3, h4, h5, h6, h7⟩ := h
  unfold f_Pcs_meet
  have hb := inb_nI hc (show 256 < 2147483648 by omega)
  have hb2 := inb_nI hr (show 256 < 2147483648 by omega)
  rw [h5, cl_nI (by omega), cl_nI (by omega)]
  refine ok_lt (ok_lt (ok_t hb (ok_lt (ok_t hb (ok_t hb (ok_t hb (ok_t hb (ok_t hb2 (ok_lt (ok_t hb2 (ok_some ?_)))))))))))
  simp only [sI_row _ _ _ _ (show 34 ≠ 38 by decide), sI_self, nI_1]
  refine hP _ (((((((Fr.rf.sI rfl).sI rfl).sI rfl).sI rfl).sI rfl).sI rfl).sI rfl) ?_
  have e36 : ∀ v z, (sI (sI (sI (sI (sI (sI s 34 6 v) 38 c v) 39 c v) 40 c (oI b)) 41 c (0 : Int32)) 35 c z).1 36 = s.1 36 := fun v z => by
    rw [sI_row _ _ _ _ (by decide), sI_row _ _ _ _ (by decide), sI_row _ _ _ _ (by decide), sI_row _ _ _ _ (by decide), sI_row _ _ _ _ (by decide), sI_row _ _ _ _ (by decide)]
  refine ⟨fun x hx => ?_, fun x hx hm => ⟨?_, ?_, ?_⟩, fun x hx => ?_, ?_, ?_, ?_, fun x hx => ?_⟩
  · rw [sI_row _ _ _ _ (by decide), sI_row _ _ _ _ (by decide), sI_row _ _ _ _ (by decide), sI_row _ _ _ _ (by decide), sI_row _ _ _ _ (by decide), sI_at]
    show _ = nI (if x = c then zt D + 1 else zM D x)
    by_cases e : x = c
    · simp [e]
    · simp only [e, and_false, reduceIte]; rw [sI_row _ _ _ _ (by decide)]; exact h1 x hx
  · rw [sI_row _ _ _ _ (by decide), sI_row _ _ _ _ (by decide), sI_row _ _ _ _ (by decide), sI_row _ _ _ _ (by decide), sI_at]
    show _ = nI (if x = c then zt D + 1 else zR D x)
    by_cases e : x = c
    · simp [e]
    · simp only [e, and_false, reduceIte]
      rw [sI_row _ _ _ _ (by decide), sI_row _ _ _ _ (by decide)]
      have hm2 : zM D x ≠ 0 := by
        have : zM (zmeet D c b r) x = zM D x := by show (if x = c then _ else zM D x) = _; rw [if_neg e]
        rw [← this]; exact hm
      exact (h2 x hx hm2).1
  · rw [sI_row _ _ _ _ (by decide), sI_row _ _ _ _ (by decide), sI_row _ _ _ _ (by decide), sI_at]
    show _ = oI (if x = c then b else zP D x)
    by_cases e : x = c
    · simp [e]
    · simp only [e, and_false, reduceIte]
      rw [sI_row _ _ _ _ (by decide), sI_row _ _ _ _ (by decide), sI_row _ _ _ _ (by decide)]
      have hm2 : zM D x ≠ 0 := by
        have : zM (zmeet D c b r) x = zM D x := by show (if x = c then _ else zM D x) = _; rw [if_neg e]
        rw [← this]; exact hm
      exact (h2 x hx hm2).2.1
  · rw [sI_row _ _ _ _ (by decide), sI_row _ _ _ _ (by decide), sI_at]
    show _ = nI (if x = c then 0 else zT D x)
    by_cases e : x = c
    · simp [e]; rfl
    · simp only [e, and_false, reduceIte]
      rw [sI_row _ _ _ _ (by decide), sI_row _ _ _ _ (by decide), sI_row _ _ _ _ (by decide), sI_row _ _ _ _ (by decide)]
      have hm2 : zM D x ≠ 0 := by
        have : zM (zmeet D c b r) x = zM D x := by show (if x = c then _ else zM D x) = _; rw [if_neg e]
        rw [← this]; exact hm
      exact (h2 x hx hm2).2.2
  · rw [sI_row _ _ _ _ (by decide), sI_at]
    show _ = oI (if x = c then some r else zL D x)
    by_cases e : x = c
    · simp [e, oI]
    · simp only [e, and_false, reduceIte]
      rw [sI_row _ _ _ _ (by decide), sI_row _ _ _ _ (by decide), sI_row _ _ _ _ (by decide), sI_row _ _ _ _ (by decide), sI_row _ _ _ _ (by decide)]
      exact h3 x hx
  · rw [sI_row _ _ _ _ (by decide), sI_row _ _ _ _ (by decide), sI_row _ _ _ _ (by decide), sI_row _ _ _ _ (by decide), sI_row _ _ _ _ (by decide), sI_row _ _ _ _ (by decide), sI_row _ _ _ _ (by decide)]
    exact h4
  · rw [sI_row _ _ _ _ (by decide), sI_row _ _ _ _ (by decide), sI_row _ _ _ _ (by decide), sI_row _ _ _ _ (by decide), sI_row _ _ _ _ (by decide), sI_row _ _ _ _ (by decide), sI_self]
    rfl
  · rw [sI_self, e36, h6, nI_1]
    show _ = nI (zt D + 1 - tb)
    congr 1; omega
  · rw [sI_col _ _ _ _ hx, e36]; exact h7 x hx
theorem w_fuel {s : Nat} (h : s < 1280) : 1000000 - s = (1000000 - (s + 1)) + 1 := by omega
theorem n1280 {s : Nat} (h : s < 1280) : ¬ (1280 : Int32) ≤ nI s := show ¬ nI 1280 ≤ nI s from nI_ge h (by omega)
theorem minI {a b : Nat} (ha : a < 100000) (hb : b < 100000) : (if nI a < nI b then nI a else nI b) = nI (min b a) := by
  by_cases h : a < b
  · rw [if_pos (nI_lt h (by omega)), Nat.min_eq_right (by omega)]
  · rw [if_neg (by rw [nI_ltI (by omega) (by omega)]; exact h), Nat.min_eq_left (by omega)]
/-- one side tried -/
theorem w_side {n r tb s b c j : Nat} {p : Nat → Bool} {g : Nat → Int32} {st : Mm} {D : Dz} {P : Unit × Mm → Prop} (hn2 : n ≤ 16) (hn : st.1 30 0 = nI n) (hp : Rw (st.1 31) p) (hs : s < 1280) (hc : isC n c) (hr : r < 256) (htb : tb ≤ zt D) (hW : WFz n D) (hD : Dm g r tb st D) (hM : zM D c ≠ 0) (hT : zT D c = j) (hj : j < 4)
    (h0 : (∀ w, nbr n c j = some w → p w = false) → ∀ s2, Fr LDf st s2 → Dm g r tb s2 (zbump D c) → Ok (f_Pcs_walkFrom_15 (1000000 - (s + 1)) (nI r) (nI b) (nI c) (nI (s + 1)) s2) P)
    (h1 : ∀ w, nbr n c j = some w → p w = true → zM D w ≠ 0 → ∀ s2, Fr LDf st s2 → Dm g r tb s2 (zlow (zbump D c) c (zM D w)) → Ok (f_Pcs_walkFrom_15 (1000000 - (s + 1)) (nI r) (nI b) (nI c) (nI (s + 1)) s2) P)
    (h2 : ∀ w, nbr n c j = some w → p w = true → zM D w = 0 → ∀ s2, Fr LDf st s2 → Dm g r tb s2 (zmeet (zbump D c) w (some c) r) → Ok (f_Pcs_walkFrom_15 (1000000 - (s + 1)) (nI r) (nI b) (nI w) (nI (s + 1)) s2) P) :
    Ok (f_Pcs_walkFrom_15 (1000000 - s) (nI r) (nI b) (nI c) (nI s) st) P := by
  have hc256 := hc.1
  rw [w_fuel hs]
  show Ok (b_Pcs_walkFrom_15 (f_Pcs_walkFrom_15 (1000000 - (s + 1))) (nI r) (nI b) (nI c) (nI s) st) P
  unfold b_Pcs_walkFrom_15
  have hb := inb_nI hc256 (show 256 < 2147483648 by omega)
  refine ok_f (n1280 hs) (ok_f (nI_pos (by omega)) (ok_t hb (ok_lt (ok_lt (ok_t hb ?_)))))
  rw [cl_nI (by omega), (hD.2.1 c hc256 hM).2.2, hT]
  refine ok_f (show ¬ nI 4 ≤ nI j from nI_ge hj (by omega)) ?_
  rw [nI_1, sI_row _ _ _ _ (show 30 ≠ 41 by decide), hn]
  refine ok_bind (ok_eq (x_cellBeside_eq hn2 hc hj _) ?_)
  have hD1 : Dm g r tb (sI st 41 c (nI (j + 1))) (zbump D c) := by rw [← hT]; exact hD.bump hc256
  have hF1 : Fr LDf st (sI st 41 c (nI (j + 1))) := Fr.rf.sI rfl
  have hp1 : Rw ((sI st 41 c (nI (j + 1))).1 31) p := by rw [sI_row _ _ _ _ (by decide)]; exact hp
  unfold f_Pcs_tryBeside
  simp only
  cases hnb : nbr n c j with
  | none =>
    refine ok_bind (ok_t (by decide) (ok_some (ok_lt ?_)))
    simp only
    rw [nI_1]
    exact h0 (fun w hw => by rw [hnb] at hw; cases hw) _ hF1 hD1
  | some w =>
    have hwC := nbr_C hn2 hc hnb
    have hw256 := hwC.1
    refine ok_bind (ok_f (show ¬ nI w < 0 from nI_pos (by omega)) (ok_bind (ok_eq (x_hasBit_eq hp1 hw256) ?_)))
    show Ok (if bI (p w) = 0 then _ else _) _
    refine okc_b (p w) (fun e => ok_some (ok_lt ?_)) (fun e => ?_)
    · rw [nI_1]
      exact h0 (fun w2 hw => by rw [hnb] at hw; cases hw; exact e) _ hF1 hD1
    · have hbw := inb_nI hw256 (show 256 < 2147483648 by omega)
      refine ok_t hbw ?_
      simp only
      rw [show (oI (some w)).toNatClampNeg = w from cl_nI (by omega), hD1.1 w hw256]
      have hMw : zM (zbump D c) w = zM D w := rfl
      have hle := hW.2.2.1 w
      have ht := hW.2.1
      refine okc_eq (zM D w) 0 (fun e0 => ?_) (fun e0 => ?_)
      · refine ok_bind (hD1.meet (some c) hw256 hr htb (fun s2 hF2 hD2 => ok_some (ok_lt ?_)))
        rw [nI_1]
        exact h2 w hnb e e0 s2 (hF1.tr hF2) hD2
      · refine ok_t hb (ok_t hbw (ok_lt (ok_t hb (ok_some (ok_lt ?_)))))
        rw [nI_1, cl_nI (show c < 2147483648 by omega), (hD1.2.1 c hc256 hM).1, minI (by rw [hMw]; omega) (by have := (hW.2.2.2.1 c hM).1; show zR D c < 100000; omega)]
        exact h1 w hnb e e0 _ (hF1.sI rfl) hD1.low
/-- all sides are tried: back to the parent, that is the root -/
theorem w_back_r {n r tb s b c : Nat} {g : Nat → Int32} {st : Mm} {D : Dz} {P : Unit × Mm → Prop} (hs : s < 1280) (hc : c < 256) (hr : r < 256) (hD : Dm g r tb st D) (hM : zM D c ≠ 0) (hT : zT D c = 4) (hP : zP D c = some r)
    (h : ∀ s2, Fr LDf st s2 → Dm g r tb s2 (zbump D c) → Ok (f_Pcs_walkFrom_15 (1000000 - (s + 1)) (nI r) (nI (b + 1)) (nI r) (nI (s + 1)) s2) P) : Ok (f_Pcs_walkFrom_15 (1000000 - s) (nI r) (nI b) (nI c) (nI s) st) P := by
  rw [w_fuel hs]
  show Ok (b_Pcs_walkFrom_15 (f_Pcs_walkFrom_15 (1000000 - (s + 1))) (nI r) (nI b) (nI c) (nI s) st) P
  unfold b_Pcs_walkFrom_15
  have hb := inb_nI hc (show 256 < 2147483648 by omega)
  refine ok_f (n1280 hs) (ok_f (nI_pos (by omega)) (ok_t hb (ok_lt (ok_lt (ok_t hb ?_)))))
  rw [cl_nI (by omega), (hD.2.1 c hc hM).2.2, hT]
  refine ok_t (by decide) (ok_t hb (ok_lt ?_))
  rw [sI_row _ _ _ _ (show 40 ≠ 41 by decide), (hD.2.1 c hc hM).2.1, hP]
  refine ok_t rfl (ok_lt (ok_lt ?_))
  rw [nI_1, nI_1, nI_1]
  refine h _ (Fr.rf.sI rfl) ?_
  have := hD.bump (c := c) hc
  rw [hT] at this; exact this
theorem w_back {n r tb s b c y : Nat} {g : Nat → Int32} {st : Mm} {D : Dz} {P : Unit × Mm → Prop} (hs : s < 1280) (hc : c < 256) (hy : y < 256) (hr : r < 256) (hyr : y ≠ r) (hyc : y ≠ c) (hW : WFz n D) (hD : Dm g r tb st D) (hM : zM D c ≠ 0) (hMy : zM D y ≠ 0) (hT : zT D c = 4) (hP : zP D c = some y)
    (h : ∀ s2, Fr LDf st s2 → Dm g r tb s2 (if zM D y ≤ zR D c then zmark (zlow (zbump D c) y (zR D c)) y else zlow (zbump D c) y (zR D c)) → Ok (f_Pcs_walkFrom_15 (1000000 - (s + 1)) (nI r) (nI b) (nI y) (nI (s + 1)) s2) P) : Ok (f_Pcs_walkFrom_15 (1000000 - s) (nI r) (nI b) (nI c) (nI s) st) P := by
  rw [w_fuel hs]
  show Ok (b_Pcs_walkFrom_15 (f_Pcs_walkFrom_15 (1000000 - (s + 1))) (nI r) (nI b) (nI c) (nI s) st) P
  unfold b_Pcs_walkFrom_15
  have hb := inb_nI hc (show 256 < 2147483648 by omega)
  have hby := inb_nI hy (show 256 < 2147483648 by omega)
  refine ok_f (n1280 hs) (ok_f (nI_pos (by omega)) (ok_t hb (ok_lt (ok_lt (ok_t hb ?_)))))
  rw [cl_nI (by omega), (hD.2.1 c hc hM).2.2, hT]
  refine ok_t (by decide) (ok_t hb (ok_lt ?_))
  rw [sI_row _ _ _ _ (show 40 ≠ 41 by decide), (hD.2.1 c hc hM).2.1, hP]
  refine ok_f (show ¬ nI y = nI r from fun e => hyr (nI_inj (by omega) (by omega) e)) (ok_f (show ¬ nI y < 0 from nI_pos (by omega)) ?_)
  have hD1 : Dm g r tb (sI st 41 c (nI (4 + 1))) (zbump D c) := by
    have := hD.bump (c := c) hc
    rw [hT] at this; exact this
  rw [nI_1]
  generalize hst1 : sI st 41 c (nI (4 + 1)) = st1 at hD1 ⊢
  have hF1 : Fr LDf st st1 := by rw [← hst1]; exact Fr.rf.sI rfl
  have hRc : zR (zbump D c) c = zR D c := rfl
  have hRy : zR (zbump D c) y = zR D y := rfl
  have b1 := (hW.2.2.2.1 c hM).1
  have b2 := (hW.2.2.2.1 y hMy).1
  have b3 := hW.2.2.1 y
  have b4 := hW.2.1
  unfold f_Pcs_settle
  show Ok ((if inb (nI y) 256 then _ else none).bind _) P
  refine ok_bind (ok_t hby (ok_t hb (ok_lt (ok_t hby (ok_t hb (ok_t hby ?_))))))
  rw [show (oI (some y)).toNatClampNeg = y from cl_nI (by omega), cl_nI (by omega), (hD1.2.1 c hc hM).1, (hD1.2.1 y hy hMy).1, hRc, hRy, minI (by omega) (by omega), sI_col _ _ _ _ (fun e => hyc e.symm), (hD1.2.1 c hc hM).1, hRc, sI_row _ _ _ _ (show 38 ≠ 39 by decide), hD1.1 y hy]
  have hMy2 : zM (zbump D c) y = zM D y := rfl
  rw [hMy2]
  have hD2 : Dm g r tb (sI st1 39 y (nI (min (zR D y) (zR D c)))) (zlow (zbump D c) y (zR D c)) := hD1.low
  refine okc_lt (zR D c) (zM D y) (fun cc => ok_some (ok_lt ?_)) (fun cc => ok_bind (hD2.mark hy (fun s3 hF3 hD3 => ok_some (ok_lt ?_))))
  · rw [nI_1]
    refine h _ (hF1.sI rfl) ?_
    rw [if_neg (by omega)]; exact hD2
  · rw [nI_1]
    refine h _ ((hF1.sI rfl).tr hF3) ?_
    rw [if_pos cc]; exact hD3
/-- the root's sides are tried: the end -/
theorem w_end {r tb s b c : Nat} {g : Nat → Int32} {st : Mm} {D : Dz} {P : Unit × Mm → Prop} (hs : s < 1280) (hc : c < 256) (hr : r < 256) (hD : Dm g r tb st D) (hM : zM D c ≠ 0) (hT : zT D c = 4) (hP : zP D c = none)
    (h : ∀ s2, Fr LDf st s2 → Dm g r tb s2 (zbump D c) → Ok (b_Pcs_walkFrom_122 (nI r) (nI b) s2) P) : Ok (f_Pcs_walkFrom_15 (1000000 - s) (nI r) (nI b) (nI c) (nI s) st) P := by
  rw [w_fuel hs]
  show Ok (b_Pcs_walkFrom_15 (f_Pcs_walkFrom_15 (1000000 - (s + 1))) (nI r) (nI b) (nI c) (nI s) st) P
  unfold b_Pcs_walkFrom_15
  have hb := inb_nI hc (show 256 < 2147483648 by omega)
  refine ok_f (n1280 hs) (ok_f (nI_pos (by omega)) (ok_t hb (ok_lt (ok_lt (ok_t hb ?_)))))
  rw [cl_nI (by omega), (hD.2.1 c hc hM).2.2, hT]
  refine ok_t (by decide) (ok_t hb (ok_lt ?_))
  rw [sI_row _ _ _ _ (show 40 ≠ 41 by decide), (hD.2.1 c hc hM).2.1, hP]
  refine ok_f (show ¬ (-1 : Int32) = nI r from fun e => nI_nm1 (by omega) e.symm) (ok_t (show (-1 : Int32) < 0 by decide) (ok_lt ?_))
  rw [nI_1, nI_1]
  have hfin := h (sI st 41 c (nI (4 + 1))) (Fr.rf.sI rfl) (by
    have := hD.bump (c := c) hc
    rw [hT] at this; exact this)
  rw [show 1000000 - (s + 1) = (1000000 - (s + 2)) + 1 by omega]
  show Ok (b_Pcs_walkFrom_15 (f_Pcs_walkFrom_15 (1000000 - (s + 2))) (nI r) (nI b) (-1) (nI (s + 1)) _) P
  unfold b_Pcs_walkFrom_15
  exact ok_if (fun _ => hfin) (fun _ => ok_t (by decide) hfin)
