/-! recipe: all snips -/
def mGo (m : Nat) (s : Mm) : Option (Int32 × Mm) := (f_m_readsSnip s).bind (fun q => if q.1 = 0 then some ((0 : Int32), q.2) else f_m_readsRecipe_49 m q.2)
def RGo (T : Txt) (n : Nat) (l : List Nat) (v : Wd) (p cn : Nat) (cut : Nat → Bool) (cF : Nat) (cutF : Nat → Bool) : Prop := ∀ sB s P m, BM T n l v sB → SMq T sB s p cn cut → 1000 ≤ m + p → (∀ s2, SMq T sB s2 T.1 cF cutF → P ((1 : Int32), s2)) → Ok (mGo m s) P
def RGoF (T : Txt) (n : Nat) (l : List Nat) (v : Wd) (p cn : Nat) (cut : Nat → Bool) (k a : Nat) : Prop := ∀ sB s P m, BM T n l v sB → SMq T sB s p cn cut → 1000 ≤ m + p → (∀ s2, GM sB s2 k a → P ((0 : Int32), s2)) → Ok (mGo m s) P
theorem go_snF {T : Txt} {n : Nat} {l : List Nat} {v : Wd} {p cn k a : Nat} {cut : Nat → Bool} (h : RSnpF T n l v p cn cut k a) : RGoF T n l v p cn cut k a := fun sB s P m hB hs _ hk => by
  unfold mGo
  exact ok_bind (h sB s _ hB hs (fun s2 h2 => ok_t rfl (ok_some (hk s2 h2))))
theorem go_end {T : Txt} {n : Nat} {l : List Nat} {v : Wd} {p cn : Nat} {cut cut2 : Nat → Bool} (h : RSnp T n l v p cn cut T.1 cut2) : RGo T n l v p cn cut (cn + 1) cut2 := fun sB s P m hB hs hm hk => by
  have h160 := hB.1.2.2.1
  have hp := hs.2.2.2.2
  unfold mGo
  refine ok_bind (h sB s _ hB hs (fun s2 h2 => ok_f ne10 ?_))
  obtain ⟨m, rfl⟩ := nat_suc (show 0 + 1 ≤ m by omega)
  show Ok (b_m_readsRecipe_49 (f_m_readsRecipe_49 m) s2) P
  unfold b_m_readsRecipe_49
  rw [h2.1 58 21 rfl, hB.1.1, h2.2.1]
  exact ok_t (Int32.le_refl _) (ok_some (hk s2 h2))
theorem go_49 {T : Txt} {n : Nat} {l : List Nat} {v : Wd} {sB s2 : Mm} {p2 cn m : Nat} {cut2 : Nat → Bool} {P : Int32 × Mm → Prop} (hB : BM T n l v sB) (h2 : SMq T sB s2 p2 cn cut2) (hlt : p2 < T.1) (h1 : chn T p2 = 59 → ∀ s3, SMq T sB s3 (p2 + 1) cn cut2 → Ok (mGo m s3) P) (h0 : chn T p2 ≠ 59 → ∀ s3, GM sB s3 1 p2 → P (0, s3)) : Ok (f_m_readsRecipe_49 (m + 1) s2) P := by
  have h160 := hB.1.2.2.1
  show Ok (b_m_readsRecipe_49 (f_m_readsRecipe_49 m) s2) P
  unfold b_m_readsRecipe_49
  rw [h2.1 58 21 rfl, hB.1.1, h2.2.1]
  refine okc_le T.1 p2 (fun hh => by omega) (fun _ => ?_)
  by_cases hc : chn T p2 = 59
  · obtain ⟨s3, e3, h3, _⟩ := (h2.takes hB (c := 59) (by omega)).1 hc
    exact ok_bind (ok_eq (show f_m_takes (59 : Int32) s2 = _ from e3) (ok_f ne10 (h1 hc s3 h3)))
  · obtain ⟨s3, e3, h3⟩ := (h2.takes hB (c := 59) (by omega)).2 hc
    exact ok_bind (ok_eq (show f_m_takes (59 : Int32) s2 = _ from e3) (ok_t rfl (ok_some (h0 hc s3 h3))))
theorem go_ext {T : Txt} {n : Nat} {l : List Nat} {v : Wd} {p cn p2 cF : Nat} {cut cut2 cutF : Nat → Bool} (h : RSnp T n l v p cn cut p2 cut2) (hpp : p < p2) (hlt : p2 < T.1) (hc : chn T p2 = 59) (h2 : RGo T n l v (p2 + 1) (cn + 1) cut2 cF cutF) : RGo T n l v p cn cut cF cutF := fun sB s P m hB hs hm hk => by
  have h160 := hB.1.2.2.1
  unfold mGo
  refine ok_bind (h sB s _ hB hs (fun s2 g2 => ok_f ne10 ?_))
  obtain ⟨m, rfl⟩ := nat_suc (show 0 + 1 ≤ m by omega)
  exact go_49 hB g2 hlt (fun _ s3 g3 => h2 sB s3 P m hB g3 (by omega) hk) (fun e => absurd hc e)
theorem go_extF {T : Txt} {n : Nat} {l : List Nat} {v : Wd} {p cn p2 k a : Nat} {cut cut2 : Nat → Bool} (h : RSnp T n l v p cn cut p2 cut2) (hpp : p < p2) (hlt : p2 < T.1) (hc : chn T p2 = 59) (h2 : RGoF T n l v (p2 + 1) (cn + 1) cut2 k a) : RGoF T n l v p cn cut k a := fun sB s P m hB hs hm hk => by
  have h160 := hB.1.2.2.1
  unfold mGo
  refine ok_bind (h sB s _ hB hs (fun s2 g2 => ok_f ne10 ?_))
  obtain ⟨m, rfl⟩ := nat_suc (show 0 + 1 ≤ m by omega)
  exact go_49 hB g2 hlt (fun _ s3 g3 => h2 sB s3 P m hB g3 (by omega) hk) (fun e => absurd hc e)
theorem go_F1 {T : Txt} {n : Nat} {l : List Nat} {v : Wd} {p cn p2 : Nat} {cut cut2 : Nat → Bool} (h : RSnp T n l v p cn cut p2 cut2) (hlt : p2 < T.1) (hc : chn T p2 ≠ 59) : RGoF T n l v p cn cut 1 p2 := fun sB s P m hB hs hm hk => by
  have h160 := hB.1.2.2.1
  have hp := hs.2.2.2.2
  unfold mGo
  refine ok_bind (h sB s _ hB hs (fun s2 g2 => ok_f ne10 ?_))
  obtain ⟨m, rfl⟩ := nat_suc (show 0 + 1 ≤ m by omega)
  exact go_49 hB g2 hlt (fun e => absurd e hc) (fun _ s3 g3 => hk s3 g3)
def RdP (T : Txt) (n : Nat) (l : List Nat) (v : Wd) (sB : Mm) (p cn : Nat) (cut : Nat → Bool) (q : Int32 × Mm) : Prop := (∃ cF cutF, q.1 = nI cF ∧ (1 ≤ cF ∧ cF ≤ 12) ∧ SXq T sB q.2 T.1 cF cutF ∧ RGo T n l v p cn cut cF cutF) ∨ (∃ k a, q.1 = (-1000 : Int32) * nI k - nI a ∧ GX sB q.2 k a ∧ RGoF T n l v p cn cut k a)
theorem GX.r75 {sB s : Mm} {k a : Nat} (h : GX sB s k a) : b_Rdr_read_75 s = some ((-1000 : Int32) * nI k - nI a, s) := by
  unfold b_Rdr_read_75
  rw [if_neg h.ne, h.2.2.1, h.2.2.2]
theorem GX.r17 {sB s : Mm} {k a : Nat} (h : GX sB s k a) (m : Nat) (v w : Int32) : f_Rdr_read_17 (m + 1) v w s = some ((-1000 : Int32) * nI k - nI a, s) := by
  show b_Rdr_read_17 (f_Rdr_read_17 m) v w s = _
  unfold b_Rdr_read_17
  rw [if_neg h.ne, h.r75]
  split <;> rfl
theorem x_read_ok {T : Txt} {n : Nat} {l : List Nat} {v : Wd} {sB : Mm} (hB : BX T n l v sB) : ∀ r m s p cn cut, T.1 ≤ p + r → r + 3 ≤ m → cn ≤ 12 → SXq T sB s p cn cut → Ok (f_Rdr_read_17 m 1 (nI cn) s) (fun q => RdP T n l v sB p cn cut q) := by
  have h160 := hB.2.2.1.1
  intro r
  induction r with
  | zero =>
    intro m s p cn cut hr hm hcn h
    obtain ⟨m, rfl⟩ := nat_suc (show 0 + 1 ≤ m by omega)
    show Ok (b_Rdr_read_17 (f_Rdr_read_17 m) 1 (nI cn) s) _
    unfold b_Rdr_read_17
    refine okc_lt 12 cn (fun hh => by omega) (fun _ => ok_t h.2.2.1 (ok_f ne10 ?_))
    refine ok_bind (ok_mono (x_snip_ok hB h hcn) ?_)
    rintro q (⟨p2, cut2, g1, g2, _⟩ | ⟨k, a, g1, g2⟩)
    · have := g1.2.2.2.2.2
      omega
    · obtain ⟨m, rfl⟩ := nat_suc (show 0 + 1 ≤ m by omega)
      unfold b_Rdr_read_56
      refine ok_if (fun _ => ok_t rfl (ok_lt ?_)) (fun _ => ok_f ne10 (ok_bind (ok_eq (g1.take 59) (ok_lt ?_))))
      · exact ok_eq (g1.r17 m _ _) (Or.inr ⟨k, a, rfl, g1, go_snF g2⟩)
      · exact ok_eq (g1.r17 m _ _) (Or.inr ⟨k, a, rfl, g1, go_snF g2⟩)
  | succ r ih =>
    intro m s p cn cut hr hm hcn h
    obtain ⟨m, rfl⟩ := nat_suc (show 0 + 1 ≤ m by omega)
    show Ok (b_Rdr_read_17 (f_Rdr_read_17 m) 1 (nI cn) s) _
    unfold b_Rdr_read_17
    refine okc_lt 12 cn (fun hh => by omega) (fun _ => ok_t h.2.2.1 (ok_f ne10 ?_))
    refine ok_bind (ok_mono (x_snip_ok hB h hcn) ?_)
    rintro q (⟨p2, cut2, g1, g2, g3, g4⟩ | ⟨k, a, g1, g2⟩)
    · have hp2 := g1.2.2.2.2.2
      unfold b_Rdr_read_56
      rw [g1.1 13 5 rfl, hB.1, g1.2.1]
      refine okc_le T.1 p2 (fun hend => ok_t rfl (ok_lt ?_)) (fun hlt => ok_f ne10 ?_)
      · have e : p2 = T.1 := by omega
        subst e
        rw [nI_1]
        have hs : RSnp T n l v p cn cut T.1 cut2 := by
          rcases g4 with g4 | ⟨g4, _⟩
          · exact g4
          · have := isD_t g4
            have := ch_in (show chn T T.1 < 256 by omega)
            omega
        have e75 : b_Rdr_read_75 q.2 = some (nI (cn + 1), q.2) := by
          unfold b_Rdr_read_75
          rw [g1.2.2.1, if_pos rfl, g1.2.2.2.1]
        obtain ⟨m, rfl⟩ := nat_suc (show 0 + 1 ≤ m by omega)
        show Ok (b_Rdr_read_17 (f_Rdr_read_17 m) 0 (nI (cn + 1)) q.2) _
        unfold b_Rdr_read_17
        rw [e75]
        have fin : Ok (some (nI (cn + 1), q.2)) (fun q => RdP T n l v sB p cn cut q) := ok_some (Or.inl ⟨cn + 1, cut2, rfl, by omega, g1, go_end hs⟩)
        exact ok_if (fun _ => fin) (fun _ => ok_t g1.2.2.1 (ok_t rfl fin))
      · by_cases hc : chn T p2 = 59
        · obtain ⟨e1, _⟩ := (g1.take hB (c := 59) (by omega)).1 hc
          have hnd : isD T p2 = false := by unfold isD; rw [hc]; rfl
          have hs : RSnp T n l v p cn cut p2 cut2 := by
            rcases g4 with g4 | ⟨g4, _⟩
            · exact g4
            · rw [hnd] at g4; cases g4
          refine ok_bind (ok_eq (show f_Rdr_take (59 : Int32) q.2 = _ from e1) (ok_lt ?_))
          rw [nI_1]
          refine ok_mono (ih m _ (p2 + 1) (cn + 1) cut2 (by omega) (by omega) (by omega) (g1.pos (p2 := p2 + 1) (by omega))) ?_
          rintro q2 (⟨cF, cutF, u1, u2, u3, u4⟩ | ⟨k, a, u1, u2, u3⟩)
          · exact Or.inl ⟨cF, cutF, u1, u2, u3, go_ext hs g2 hlt hc u4⟩
          · exact Or.inr ⟨k, a, u1, u2, go_extF hs g2 hlt hc u3⟩
        · obtain ⟨s3, e3, h3⟩ := (g1.take hB (c := 59) (by omega)).2 hc
          refine ok_bind (ok_eq (show f_Rdr_take (59 : Int32) q.2 = _ from e3) (ok_lt ?_))
          obtain ⟨m, rfl⟩ := nat_suc (show 0 + 1 ≤ m by omega)
          refine ok_eq (h3.r17 m _ _) (Or.inr ⟨1, p2, rfl, h3, ?_⟩)
          rcases g4 with g4 | ⟨_, g4⟩
          · exact go_F1 g4 hlt hc
          · exact go_snF g4
    · obtain ⟨m, rfl⟩ := nat_suc (show 0 + 1 ≤ m by omega)
      unfold b_Rdr_read_56
      refine ok_if (fun _ => ok_t rfl (ok_lt ?_)) (fun _ => ok_f ne10 (ok_bind (ok_eq (g1.take 59) (ok_lt ?_))))
      · exact ok_eq (g1.r17 m _ _) (Or.inr ⟨k, a, rfl, g1, go_snF g2⟩)
      · exact ok_eq (g1.r17 m _ _) (Or.inr ⟨k, a, rfl, g1, go_snF g2⟩)
/-! folds -/
theorem fold1_pot {f : Nat} {w z : Wd} (h : fold1 f w = some z) : w.2.2 = 0 ∧ ((z.2.2 = 0 ∧ z.1 * z.2.1 * 2 = w.1 * w.2.1) ∨ z.2.2 = 1) := by
  unfold fold1 at h
  by_cases h0 : w.2.2 = 0
  · rw [if_pos h0] at h
    refine ⟨h0, ?_⟩
    by_cases h1 : f = 104
    · rw [if_pos h1] at h
      by_cases h2 : w.1 % 2 = 1
      · rw [if_pos h2] at h; cases h
      · rw [if_neg h2] at h
        cases h
        refine Or.inl ⟨rfl, ?_⟩
        show w.1 / 2 * w.2.1 * 2 = w.1 * w.2.1
        rw [Nat.mul_right_comm]
        congr 1
        omega
    · rw [if_neg h1] at h
      by_cases h2 : f = 118
      · rw [if_pos h2] at h
        by_cases h3 : w.2.1 % 2 = 1
        · rw [if_pos h3] at h; cases h
        · rw [if_neg h3] at h
          cases h
          refine Or.inl ⟨rfl, ?_⟩
          show w.1 * (w.2.1 / 2) * 2 = w.1 * w.2.1
          rw [Nat.mul_assoc]
          congr 1
          omega
      · rw [if_neg h2] at h
        by_cases h3 : w.1 = w.2.1
        · rw [if_pos h3] at h
          by_cases h4 : 2 ≤ w.1
          · rw [if_pos h4] at h; cases h; exact Or.inr rfl
          · rw [if_neg h4] at h; cases h
        · rw [if_neg h3] at h; cases h
  · rw [if_neg h0] at h; cases h
theorem fds_pot : ∀ (l : List Nat) (w u : Wd), fds l w = some u → u.2.2 = 0 → u.1 * u.2.1 * 2 ^ l.length = w.1 * w.2.1
  | [], w, u, h, _ => by
    cases h
    show w.1 * w.2.1 * 1 = _
    rw [Nat.mul_one]
  | f :: l, w, u, h, h0 => by
    have h2 : (fold1 f w).bind (fds l) = some u := h
    cases hz : fold1 f w with
    | none => rw [hz] at h2; cases h2
    | some z =>
      rw [hz] at h2
      have h3 : fds l z = some u := h2
      have hp := fold1_pot hz
      rcases hp.2 with ⟨z0, zp⟩ | z1
      · have := fds_pot l z u h3 h0
        rw [List.length_cons, Nat.pow_succ, ← Nat.mul_assoc, this, zp]
      · cases l with
        | nil => cases h3; omega
        | cons g l =>
          have h4 : (fold1 g z).bind (fds l) = some u := h3
          cases hg : fold1 g z with
          | none => rw [hg] at h4; cases h4
          | some y => have := (fold1_pot hg).1; omega
theorem fold8 {l : List Nat} {n f : Nat} {u : Wd} (hn : n ≤ 16) (hn2 : 2 ≤ n) (h : fds l (n, n, 0) = some u) (hl : 8 ≤ l.length) : fold1 f u = none := by
  cases hz : fold1 f u with
  | none => rfl
  | some z =>
    exfalso
    have hp := fold1_pot hz
    have := fds_pot l _ u h hp.1
    have h2 : 2 ^ 8 ≤ 2 ^ l.length := Nat.pow_le_pow_right (by decide) hl
    have h3 : n * n ≤ 16 * 16 := Nat.mul_le_mul hn hn
    have h5 : 2 * 2 ≤ n * n := Nat.mul_le_mul hn2 hn2
    have e : u.1 * u.2.1 * 2 ^ l.length = n * n := this
    have h6 : u.1 * u.2.1 ≤ 1 := by
      rcases Nat.lt_or_ge (u.1 * u.2.1) 2 with g | g
      · omega
      · have := Nat.mul_le_mul g h2
        omega
    have h7 : u.1 * u.2.1 ≠ 0 := fun e0 => by rw [e0, Nat.zero_mul] at e; omega
    have h8 : u.1 * u.2.1 = 1 := by omega
    have e1 : u.1 = 1 := Nat.eq_one_of_mul_eq_one_right h8
    have e2 : u.2.1 = 1 := by rw [e1, Nat.one_mul] at h8; exact h8
    unfold fold1 at hz
    rw [if_pos hp.1, e1, e2] at hz
    by_cases q1 : f = 104
    · rw [if_pos q1, if_pos (by omega)] at hz; cases hz
    · rw [if_neg q1] at hz
      by_cases q2 : f = 118
      · rw [if_pos q2, if_pos (by omega)] at hz; cases hz
      · rw [if_neg q2, if_pos rfl, if_neg (by omega)] at hz; cases hz
