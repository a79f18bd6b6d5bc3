/-! snips: the reference's search -/
theorem sh_amt : ∀ k, k < 64 → (((nI k).toInt64 &&& 63).toBitVec.smod 64).toNat = k := by decide +kernel
theorem lb_shr {x : Int64} {k : Nat} (hk : k < 64) : lb (x >>> ((nI k).toInt64 &&& 63)) 0 = lb x k := by
  unfold lb
  show (BitVec.sshiftRight' x.toBitVec (((nI k).toInt64 &&& 63).toBitVec.smod 64)).getLsbD 0 = _
  rw [BitVec.sshiftRight', sh_amt k hk, BitVec.getLsbD_sshiftRight]
  simp [hk]
theorem lb_1 : ∀ i, i < 64 → lb 1 i = decide (i = 0) := by decide +kernel
theorem lb_tst {x : Int64} {k : Nat} (hk : k < 64) : lg_cmp ((x >>> ((nI k).toInt64 &&& 63)) &&& (1 : Int64)) (0 : Int64) = 0 ↔ lb x k = false := by
  rw [lg_cmp_eq, ← lb_shr hk]
  constructor
  · intro h
    have h2 := congrArg (fun z => lb z 0) h
    simp only [lb_and, lb_1 0 (by omega), lb_0, decide_true, Bool.and_true] at h2
    exact h2
  · intro h
    refine lb_ext (fun i hi => ?_)
    rw [lb_and, lb_1 i hi, lb_0]
    by_cases e : i = 0
    · rw [e, h]; rfl
    · rw [decide_eq_false e, Bool.and_false]
theorem m_firstBit_eq {x : Int64} {t : Nat} (h1 : t < 64) (h2 : lb x t = true) (h3 : ∀ j, j < t → lb x j = false) (st : Mm) : f_m_firstBit x st = some (nI t, st) := by
  have lp : ∀ r k N, k + r = t → r + 1 ≤ N → f_m_firstBit_2 N x (nI k) st = some (nI t, st) := by
    intro r
    induction r with
    | zero =>
      intro k N hk hN
      obtain ⟨N, rfl⟩ := nat_suc hN
      have e : k = t := by omega
      subst e
      show b_m_firstBit_2 (f_m_firstBit_2 N) x (nI k) st = _
      unfold b_m_firstBit_2
      rw [if_neg (fun h => by rw [(lb_tst h1).mp h] at h2; cases h2)]
    | succ r ih =>
      intro k N hk hN
      obtain ⟨N, rfl⟩ := nat_suc hN
      show b_m_firstBit_2 (f_m_firstBit_2 N) x (nI k) st = _
      unfold b_m_firstBit_2
      rw [if_pos ((lb_tst (by omega)).mpr (h3 k (by omega))), lt_eq, nI_1]
      exact ih (k + 1) N (by omega) (by omega)
  unfold f_m_firstBit
  exact lp t 0 1000000 (by omega) (by omega)
def BxM (st : Mm) (cnt : Nat) (b : Nat → Bool) : Prop := ∃ i, i < cnt ∧ b = lb (st.2 80 i)
def Wdf (cnt : Nat) : Nat → Nat
  | 0 => 0
  | r + 1 => (cnt + 1) * (Wdf cnt r + 1)
/-- alike but for the search's own rows from a depth on -/
def Fdf (D : Nat) (st s : Mm) : Prop := (∀ a j, a ≠ 81 → s.1 a j = st.1 a j) ∧ (∀ j, j < D → s.1 81 j = st.1 81 j) ∧ (∀ a j, a ≠ 82 → s.2 a j = st.2 a j) ∧ ∀ j, j < D → s.2 82 j = st.2 82 j
theorem Fdf.rf {D : Nat} {s : Mm} : Fdf D s s := ⟨fun _ _ _ => rfl, fun _ _ => rfl, fun _ _ _ => rfl, fun _ _ => rfl⟩
theorem Fdf.tr {D E : Nat} {a b c : Mm} (h1 : Fdf D a b) (h2 : Fdf E b c) (hDE : D ≤ E) : Fdf D a c := ⟨fun x j h => (h2.1 x j h).trans (h1.1 x j h), fun j h => (h2.2.1 j (by omega)).trans (h1.2.1 j h), fun x j h => (h2.2.2.1 x j h).trans (h1.2.2.1 x j h), fun j h => (h2.2.2.2 j (by omega)).trans (h1.2.2.2 j h)⟩
theorem cvs_nil {B : (Nat → Bool) → Prop} {L : Nat → Bool} (h : ∀ i, L i = false) : ∀ k, Cvs B k L
  | 0 => h
  | k + 1 => Or.inl h
theorem m1p1 (x : Int32) : x - 1 + 1 = x := Int32.sub_add_cancel x 1
theorem sL_1 (s : Mm) (c j : Nat) (v : Int64) (a b : Nat) : (sL s c j v).1 a b = s.1 a b := rfl
theorem sL_2 (s : Mm) (c j : Nat) (v : Int64) (a b : Nat) (h : a ≠ c) : (sL s c j v).2 a b = s.2 a b := by simp [sL, sR, h]
theorem fdf_t {D : Nat} {st s : Mm} {v : Int32} (h : Fdf D st s) : Fdf D st (sI s 81 D v) := ⟨fun a j ha => by rw [sI_row _ _ _ _ ha]; exact h.1 a j ha, fun j hj => by rw [sI_col _ _ _ _ (by omega)]; exact h.2.1 j hj, fun a j ha => by rw [sI_l]; exact h.2.2.1 a j ha, fun j hj => by rw [sI_l]; exact h.2.2.2 j hj⟩
theorem m_do_head {cnt k D j N : Nat} {s0 st : Mm} {left : Int64} {P : Int32 × Mm → Prop} (hc : cnt ≤ 2200) (hk : k ≤ 4) (hD : D < k) (hj : j < cnt) (hF : Fdf 0 s0 st) (hcn : s0.1 58 49 = nI cnt) (htr : st.1 81 D = nI j - 1) (hl : st.2 82 D = left) {t : Nat} (t1 : t < 64) (t2 : lb left t = true) (t3 : ∀ v, v < t → lb left v = false)
    (h1 : lb (s0.2 80 j) t = false → Ok (f_m_doFor_31 N (nI k) (nI D) (sI st 81 D (nI j))) P)
    (h2 : lb (s0.2 80 j) t = true → left &&& (s0.2 80 j ^^^ (-1 : Int64)) = 0 → P (1, sI st 81 D (nI j)))
    (h3 : lb (s0.2 80 j) t = true → left &&& (s0.2 80 j ^^^ (-1 : Int64)) ≠ 0 → D + 1 = k → Ok (f_m_doFor_31 N (nI k) (nI D) (sI st 81 D (nI j))) P)
    (h4 : lb (s0.2 80 j) t = true → left &&& (s0.2 80 j ^^^ (-1 : Int64)) ≠ 0 → D + 1 < k → Ok (f_m_doFor_31 N (nI k) (nI (D + 1)) (sI (sL (sI st 81 D (nI j)) 82 (D + 1) (left &&& (s0.2 80 j ^^^ (-1 : Int64)))) 81 (D + 1) (-1))) P) : Ok (f_m_doFor_31 (N + 1) (nI k) (nI D) st) P := by
  show Ok (b_m_doFor_31 (f_m_doFor_31 N) (nI k) (nI D) st) P
  unfold b_m_doFor_31
  have hDb : inb (nI D) 5 := inb_nI (by omega) (by omega)
  refine okc_lt D 0 (fun hh => by omega) (fun _ => ok_t hDb (ok_lt (ok_t hDb (ok_t hDb ?_))))
  have eD : (nI D).toNatClampNeg = D := cl_nI (by omega)
  have ej : (nI j).toNatClampNeg = j := cl_nI (by omega)
  have em : st.1 58 49 = nI cnt := by rw [hF.1 _ _ (by decide)]; exact hcn
  have eb : st.2 80 j = s0.2 80 j := hF.2.2.1 _ _ (by decide)
  rw [eD, htr, m1p1, sI_self, sI_row _ _ _ _ (show 58 ≠ 81 by decide), em]
  refine okc_lt j cnt (fun _ => ok_t hDb (ok_t (inb_nI (by omega) (by omega)) (ok_lt (ok_t hDb ?_)))) (fun hh => by omega) rfl rfl (by omega) (by omega)
  rw [ej, sI_l, hl, eb]
  refine ok_bind (ok_eq (m_firstBit_eq t1 t2 t3 _) ?_)
  refine ok_if (fun hb => h1 ((lb_tst t1).mp hb)) (fun hb => ok_t hDb (ok_lt ?_))
  have hbt : lb (s0.2 80 j) t = true := by
    cases h : lb (s0.2 80 j) t with
    | true => rfl
    | false => exact absurd ((lb_tst t1).mpr h) hb
  show Ok (if lg_cmp ((sI st 81 D (nI j)).2 82 D &&& (s0.2 80 j ^^^ (-1 : Int64))) 0 = 0 then _ else _) P
  rw [sI_l, hl]
  refine ok_if (fun hz => ok_some (h2 hbt ((lg_cmp_eq _ _).mp hz))) (fun hz => ?_)
  have hz2 : left &&& (s0.2 80 j ^^^ (-1 : Int64)) ≠ 0 := fun e => hz ((lg_cmp_eq _ _).mpr e)
  rw [nI_1]
  refine okc_eq (D + 1) k (fun e => h3 hbt hz2 e) (fun e => ok_lt ?_)
  have hD1 : inb (nI (D + 1)) 5 := inb_nI (by omega) (by omega)
  refine ok_t hD1 (ok_t hD1 ?_)
  rw [cl_nI (show D + 1 < 2147483648 by omega)]
  exact h4 hbt hz2 (by omega)
theorem m_do_exh {cnt k D N : Nat} {s0 st : Mm} {P : Int32 × Mm → Prop} (hc : cnt ≤ 2200) (hk : k ≤ 4) (hD : D < k) (hF : Fdf 0 s0 st) (hcn : s0.1 58 49 = nI cnt) (htr : st.1 81 D = nI cnt - 1) (h : Ok (f_m_doFor_31 N (nI k) (nI D - 1) (sI st 81 D (nI cnt))) P) : Ok (f_m_doFor_31 (N + 1) (nI k) (nI D) st) P := by
  show Ok (b_m_doFor_31 (f_m_doFor_31 N) (nI k) (nI D) st) P
  unfold b_m_doFor_31
  have hDb : inb (nI D) 5 := inb_nI (by omega) (by omega)
  refine okc_lt D 0 (fun hh => by omega) (fun _ => ok_t hDb (ok_lt (ok_t hDb (ok_t hDb ?_))))
  have eD : (nI D).toNatClampNeg = D := cl_nI (by omega)
  have em : st.1 58 49 = nI cnt := by rw [hF.1 _ _ (by decide)]; exact hcn
  rw [eD, htr, m1p1, sI_self, sI_row _ _ _ _ (show 58 ≠ 81 by decide), em]
  exact okc_lt cnt cnt (fun hh => by omega) (fun _ => ok_lt h) rfl rfl (by omega) (by omega)
theorem nI_s1 (j : Nat) : nI j = nI (j + 1) - 1 := by rw [← nI_1]; exact (Int32.add_sub_cancel (nI j) 1).symm
theorem low_u {x : Int64} {t u : Nat} (t2 : lb x t = true) (t3 : ∀ v, v < t → lb x v = false) (u2 : lb x u = true) (u3 : ∀ v, v < u → lb x v = false) : u = t := by
  rcases Nat.lt_trichotomy u t with h | h | h
  · rw [t3 u h] at u2; cases u2
  · exact h
  · rw [u3 t h] at t2; cases t2
theorem m_do_ok {cnt k : Nat} {s0 : Mm} {P : Int32 × Mm → Prop} (hc : cnt ≤ 2200) (hk : k ≤ 4) (hcn : s0.1 58 49 = nI cnt) : ∀ r D, D + (r + 1) = k → ∀ q j N st (left : Int64), j + q = cnt → (q + 1) * (Wdf cnt r + 1) ≤ N → Fdf 0 s0 st → st.1 81 D = nI j - 1 → st.2 82 D = left → left ≠ 0 →
    (Cvs (BxM s0 cnt) (r + 1) (lb left) → ∀ s, Fdf 0 s0 s → P (1, s)) →
    (∀ M s, N ≤ M + (q + 1) * (Wdf cnt r + 1) → Fdf D st s → (∀ i, j ≤ i → i < cnt → ∀ t, t < 64 → lb left t = true → (∀ v, v < t → lb left v = false) → ¬ (lb (s0.2 80 i) t = true ∧ Cvs (BxM s0 cnt) r (fun x => lb left x && !lb (s0.2 80 i) x))) → Ok (f_m_doFor_31 M (nI k) (nI D - 1) s) P) →
    Ok (f_m_doFor_31 N (nI k) (nI D) st) P := by
  intro r
  induction r with
  | zero =>
    intro D hD q
    induction q with
    | zero =>
      intro j N st left hj hN hF htr hl hz hT hno
      obtain ⟨N, rfl⟩ := nat_suc (show 0 + 1 ≤ N by omega)
      have e : j = cnt := by omega
      subst e
      exact m_do_exh hc hk (by omega) hF hcn htr (hno N _ (by omega) (fdf_t Fdf.rf) (fun i h1 h2 => by omega))
    | succ q ihq =>
      intro j N st left hj hN hF htr hl hz hT hno
      obtain ⟨t, t1, t2, t3⟩ := lb_nz hz
      have eq : (q + 1 + 1) * (Wdf cnt 0 + 1) = (q + 1) * (Wdf cnt 0 + 1) + (Wdf cnt 0 + 1) := Nat.succ_mul _ _
      obtain ⟨N, rfl⟩ := nat_suc (show 0 + 1 ≤ N by omega)
      have hF1 : Fdf 0 s0 (sI st 81 D (nI j)) := hF.tr (fdf_t (D := D) Fdf.rf) (by omega)
      have cont : ¬ (lb (s0.2 80 j) t = true ∧ Cvs (BxM s0 cnt) 0 (fun x => lb left x && !lb (s0.2 80 j) x)) → Ok (f_m_doFor_31 N (nI k) (nI D) (sI st 81 D (nI j))) P := fun hn => ihq (j + 1) N _ left (by omega) (by omega) hF1 (by rw [sI_self]; exact nI_s1 j) (by rw [sI_l]; exact hl) hz hT (fun M s hM hFs hk2 => hno M s (by omega) ((fdf_t (D := D) Fdf.rf).tr hFs (Nat.le_refl _)) (fun i i1 i2 u u1 u2 u3 => by
        rcases Nat.lt_or_ge j i with h | h
        · exact hk2 i h i2 u u1 u2 u3
        · rw [show i = j by omega, low_u t2 t3 u2 u3]; exact hn))
      refine m_do_head hc hk (by omega) (by omega) hF hcn htr hl t1 t2 t3 (fun hb => cont (fun z => by rw [hb] at z; cases z.1)) (fun hb he => hT (Or.inr ⟨_, ⟨j, by omega, rfl⟩, fun i => by show (lb left i && !lb (s0.2 80 j) i) = false; rw [← lb_andn, he]; exact lb_0 i⟩) _ hF1) (fun hb he _ => cont (fun z => he (lb_fun0 (fun i => by rw [lb_andn]; exact z.2 i)))) (fun _ _ h => by omega)
  | succ r ih =>
    intro D hD q
    induction q with
    | zero =>
      intro j N st left hj hN hF htr hl hz hT hno
      obtain ⟨N, rfl⟩ := nat_suc (show 0 + 1 ≤ N by omega)
      have e : j = cnt := by omega
      subst e
      exact m_do_exh hc hk (by omega) hF hcn htr (hno N _ (by omega) (fdf_t Fdf.rf) (fun i h1 h2 => by omega))
    | succ q ihq =>
      intro j N st left hj hN hF htr hl hz hT hno
      obtain ⟨t, t1, t2, t3⟩ := lb_nz hz
      have eq : (q + 1 + 1) * (Wdf cnt (r + 1) + 1) = (q + 1) * (Wdf cnt (r + 1) + 1) + (Wdf cnt (r + 1) + 1) := Nat.succ_mul _ _
      have eW : Wdf cnt (r + 1) = (cnt + 1) * (Wdf cnt r + 1) := rfl
      obtain ⟨N, rfl⟩ := nat_suc (show 0 + 1 ≤ N by omega)
      have hF1 : Fdf 0 s0 (sI st 81 D (nI j)) := hF.tr (fdf_t (D := D) Fdf.rf) (by omega)
      have cont : ¬ (lb (s0.2 80 j) t = true ∧ Cvs (BxM s0 cnt) (r + 1) (fun x => lb left x && !lb (s0.2 80 j) x)) → ∀ M2 s2, N ≤ M2 + Wdf cnt (r + 1) → Fdf (D + 1) (sI st 81 D (nI j)) s2 → Ok (f_m_doFor_31 M2 (nI k) (nI D) s2) P := fun hn M2 s2 hM2 hF2 => ihq (j + 1) M2 s2 left (by omega) (by omega) (hF1.tr hF2 (by omega)) (by rw [hF2.2.1 D (by omega), sI_self]; exact nI_s1 j) (by rw [hF2.2.2.2 D (by omega), sI_l]; exact hl) hz hT (fun M s hM hFs hk2 => hno M s (by omega) (((fdf_t (D := D) Fdf.rf).tr hF2 (by omega)).tr hFs (Nat.le_refl _)) (fun i i1 i2 u u1 u2 u3 => by
        rcases Nat.lt_or_ge j i with h | h
        · exact hk2 i h i2 u u1 u2 u3
        · rw [show i = j by omega, low_u t2 t3 u2 u3]; exact hn))
      refine m_do_head hc hk (by omega) (by omega) hF hcn htr hl t1 t2 t3 (fun hb => cont (fun z => by rw [hb] at z; cases z.1) N _ (by omega) Fdf.rf) (fun hb he => hT (Or.inr ⟨_, ⟨j, by omega, rfl⟩, cvs_nil (fun i => by rw [← lb_andn, he]; exact lb_0 i) _⟩) _ hF1) (fun hb he h => by omega) (fun hb he _ => ?_)
      have hfun : lb (left &&& (s0.2 80 j ^^^ (-1 : Int64))) = fun x => lb left x && !lb (s0.2 80 j) x := funext (fun x => lb_andn _ _ x)
      have hFd : Fdf (D + 1) (sI st 81 D (nI j)) (sI (sL (sI st 81 D (nI j)) 82 (D + 1) (left &&& (s0.2 80 j ^^^ (-1 : Int64)))) 81 (D + 1) (-1)) := fdf_t ⟨fun _ _ _ => rfl, fun _ _ => rfl, fun a i ha => sL_2 _ _ _ _ _ _ ha, fun i hi => by rw [sL_at, if_neg (by omega)]⟩
      refine ih (D + 1) (by omega) cnt 0 N _ (left &&& (s0.2 80 j ^^^ (-1 : Int64))) (by omega) (by omega) (hF1.tr hFd (by omega)) (by rw [sI_self]; rfl) (by rw [sI_l, sL_at, if_pos rfl]) he (fun hcv => hT (Or.inr ⟨_, ⟨j, by omega, rfl⟩, by rw [← hfun]; exact hcv⟩)) (fun M s hM hFs hk2 => ?_)
      rw [← nI_s1 D]
      refine cont (fun z => ?_) M s (by omega) (hFd.tr hFs (Nat.le_refl _))
      obtain ⟨u, u1, u2, u3⟩ := lb_nz he
      have hz2 := z.2
      rw [← hfun] at hz2
      obtain ⟨j2, e2, b, ⟨i, i1, i2⟩, b2, b3⟩ := (cvs_first (r + 1) _ u u2).mp hz2
      have e3 : j2 = r := by omega
      subst e3; subst i2
      exact hk2 i (by omega) i1 u u1 u2 u3 ⟨b2, b3⟩
