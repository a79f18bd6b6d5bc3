def b_Cond_holdsAt_248 (st : Mm) : Option (Int32 × Mm) :=
  if (st.1 17 5) = 0 then (some ((0 : Int32), st)) else (if (st.1 17 6) = 0 then (some ((1 : Int32), st)) else (some ((0 : Int32), st)))
def b_Cond_holdsAt_21 (k21 : Int32 → Int32 → Int32 → Int32 → Int32 → Mm → Option (Int32 × Mm)) (v1 : Int32) (v2 : Int32) (v3 : Int32) (v4 : Int32) (v5 : Int32) (st : Mm) : Option (Int32 × Mm) :=
  if (160 : Int32) ≤ v5 then (b_Cond_holdsAt_248 st) else (if (st.1 17 3) ≤ v4 then (b_Cond_holdsAt_248 st) else (if (st.1 17 6) = 0 then (if inb v4 160 then lt_ (st.1 18 v4.toNatClampNeg) (fun a5 => if inb v4 160 then lt_ (st.1 19 v4.toNatClampNeg) (fun a7 => lt_ (v4 + (1 : Int32)) (fun a8 => if a5 = 33 then (if (st.1 17 5) = 0 then (lt_ (v5 + (1 : Int32)) (fun a11 => k21 v1 v2 v3 a8 a11 (sI st 17 5 (1 : Int32)))) else (lt_ (v5 + (1 : Int32)) (fun a12 => k21 v1 v2 v3 a8 a12 (sI st 17 5 (0 : Int32))))) else (if a5 = 38 then (if (st.1 17 5) = 0 then (lt_ (if a8 < a7 then a7 else a8) (fun a15 => lt_ (v5 + (1 : Int32)) (fun a16 => k21 v1 v2 v3 a15 a16 st))) else (lt_ (v5 + (1 : Int32)) (fun a17 => k21 v1 v2 v3 a8 a17 st))) else (if a5 = 48 then ((f_Cond_push a7 st).bind (fun q19 => lt_ (v5 + (1 : Int32)) (fun a20 => k21 v1 v2 v3 a8 a20 q19.2))) else (if a5 = 108 then ((f_Cond_push v3 st).bind (fun q22 => lt_ (v5 + (1 : Int32)) (fun a23 => k21 v1 v2 v3 a8 a23 q22.2))) else (if a5 = 120 then ((f_Cond_push v1 st).bind (fun q25 => lt_ (v5 + (1 : Int32)) (fun a26 => k21 v1 v2 v3 a8 a26 q25.2))) else (if a5 = 121 then ((f_Cond_push v2 st).bind (fun q28 => lt_ (v5 + (1 : Int32)) (fun a29 => k21 v1 v2 v3 a8 a29 q28.2))) else (if a5 = 124 then (if (st.1 17 5) = 0 then (lt_ (v5 + (1 : Int32)) (fun a32 => k21 v1 v2 v3 a8 a32 st)) else (lt_ (if a8 < a7 then a7 else a8) (fun a33 => lt_ (v5 + (1 : Int32)) (fun a34 => k21 v1 v2 v3 a33 a34 st)))) else ((f_Cond_reckon a5 st).bind (fun q35 => lt_ (v5 + (1 : Int32)) (fun a36 => k21 v1 v2 v3 a8 a36 q35.2))))))))))) else none) else none) else (b_Cond_holdsAt_248 st)))
def f_Cond_holdsAt_21 : Nat → Int32 → Int32 → Int32 → Int32 → Int32 → Mm → Option (Int32 × Mm)
  | 0 => fun _ _ _ _ _ _ => none
  | n + 1 => b_Cond_holdsAt_21 (f_Cond_holdsAt_21 n)
def f_Cond_holdsAt (v1 : Int32) (v2 : Int32) (v3 : Int32) (st : Mm) : Option (Int32 × Mm) :=
  f_Cond_holdsAt_21 1000000 v1 v2 v3 (0 : Int32) (0 : Int32) (sI (sI (sI st 17 4 (0 : Int32)) 17 5 (0 : Int32)) 17 6 (0 : Int32))
theorem t_Cond_holdsAt_248 {G : Cx} (C : CX G prog_2_method_5_code "PaperStars$Condition") (CR0 : CR G (Option.some FieldType.boolean)) (E : LCin (gly G)) (hnL : gnL G = 8) (hgd : 2 ≤ gd G) {q : Int32 × Mm} (hgr : gr G = some (.int q.1)) (hgs : gsf G = q.2) (st : Mm) (hf : b_Cond_holdsAt_248 st = some q) : AW G st 248 [(0, .ref (gad G 17))] [] := by
  unfold b_Cond_holdsAt_248 at hf
  refine aw_aload_n C 0 0 (j := 0) rfl rfl (by decide +kernel) rfl ?_
  refine aw_get C (k := 5) fc_0 (lc_17 E) rfl (by decide) tb_149 (by decide +kernel) rfl ?_
  refine aw_if_eq C (tgt := 266) (off := 14) (by decide +kernel) (by decide) rfl (fun c1 => ?_) (fun c1 => ?_)
  · have hf := ift c1 hf
    refine aw_iconst C (i0 := 0) (v := 0) (by decide) (by decide +kernel) rfl ?_
    exact aw_zretq C CR0 hgr hgs (by decide) hf (by decide +kernel)
  · have hf := iff_ c1 hf
    refine aw_aload_n C 0 0 (j := 0) rfl rfl (by decide +kernel) rfl ?_
    refine aw_get C (k := 6) fc_0 (lc_17 E) rfl (by decide) tb_150 (by decide +kernel) rfl ?_
    refine aw_if_ne C (tgt := 266) (off := 7) (by decide +kernel) (by decide) rfl (fun c2 => ?_) (fun c2 => ?_)
    · have hf := ift c2 hf
      refine aw_iconst C (i0 := 1) (v := 1) (by decide) (by decide +kernel) rfl ?_
      refine aw_goto C (tgt := 267) (off := 4) (by decide +kernel) (by decide) ?_
      exact aw_zretq C CR0 hgr hgs (by decide) hf (by decide +kernel)
    · have hf := iff_ c2 hf
      refine aw_iconst C (i0 := 0) (v := 0) (by decide) (by decide +kernel) rfl ?_
      exact aw_zretq C CR0 hgr hgs (by decide) hf (by decide +kernel)
theorem t_Cond_holdsAt_21 {G : Cx} (C : CX G prog_2_method_5_code "PaperStars$Condition") (CR0 : CR G (Option.some FieldType.boolean)) (E : LCin (gly G)) (hnL : gnL G = 8) (hgd : 2 ≤ gd G) {q : Int32 × Mm} (hgr : gr G = some (.int q.1)) (hgs : gsf G = q.2) (k21 : Int32 → Int32 → Int32 → Int32 → Int32 → Mm → Option (Int32 × Mm)) (hk21 : ∀ (v1 : Int32) (v2 : Int32) (v3 : Int32) (v4 : Int32) (v5 : Int32) (st : Mm), k21 v1 v2 v3 v4 v5 st = some q → AW G st 21 [(0, .ref (gad G 17)), (1, .int v1), (2, .int v2), (3, .int v3), (4, .int v4), (5, .int v5)] []) (v1 : Int32) (v2 : Int32) (v3 : Int32) (v4 : Int32) (v5 : Int32) (st : Mm) (hf : b_Cond_holdsAt_21 k21 v1 v2 v3 v4 v5 st = some q) : AW G st 21 [(0, .ref (gad G 17)), (1, .int v1), (2, .int v2), (3, .int v3), (4, .int v4), (5, .int v5)] [] := by
  unfold b_Cond_holdsAt_21 at hf
  refine aw_iload C 5 5 rfl (by decide +kernel) rfl ?_
  refine aw_sipush C (i0 := 160) (v := 160) (by decide) (by decide +kernel) rfl ?_
  refine aw_icmp_ge C (tgt := 248) (off := 222) (by decide +kernel) (by decide) rfl (fun c1 => ?_) (fun c1 => ?_)
  · have hf := ift c1 hf
    refine aw_sub [(0, .ref (gad G 17))] [0] rfl ?_
    exact t_Cond_holdsAt_248 C CR0 E hnL hgd hgr hgs _ hf
  · have hf := iff_ c1 hf
    refine aw_iload C 4 4 rfl (by decide +kernel) rfl ?_
    refine aw_aload_n C 0 0 (j := 0) rfl rfl (by decide +kernel) rfl ?_
    refine aw_get C (k := 3) fc_0 (lc_17 E) rfl (by decide) tb_147 (by decide +kernel) rfl ?_
    refine aw_icmp_ge C (tgt := 248) (off := 213) (by decide +kernel) (by decide) rfl (fun c2 => ?_) (fun c2 => ?_)
    · have hf := ift c2 hf
      refine aw_sub [(0, .ref (gad G 17))] [0] rfl ?_
      exact t_Cond_holdsAt_248 C CR0 E hnL hgd hgr hgs _ hf
    · have hf := iff_ c2 hf
      refine aw_aload_n C 0 0 (j := 0) rfl rfl (by decide +kernel) rfl ?_
      refine aw_get C (k := 6) fc_0 (lc_17 E) rfl (by decide) tb_150 (by decide +kernel) rfl ?_
      refine aw_if_ne C (tgt := 248) (off := 206) (by decide +kernel) (by decide) rfl (fun c3 => ?_) (fun c3 => ?_)
      · have hf := ift c3 hf
        refine aw_aload_n C 0 0 (j := 0) rfl rfl (by decide +kernel) rfl ?_
        refine aw_getr C (k := 0) fc_0 (lc_17 E) rfl (by decide) tb_144 (by decide +kernel) rfl ?_
        refine aw_iload C 4 4 rfl (by decide +kernel) rfl ?_
        obtain ⟨g4, hf⟩ := igd hf
        refine aw_iald C (lc_18 E) g4 (by decide +kernel) rfl ?_
        obtain ⟨a5, ha5⟩ : ∃ z, z = (st.1 18 v4.toNatClampNeg) := ⟨_, rfl⟩
        refine aw_nmi ha5 ?_
        have hf := ilt ha5 hf
        refine aw_istore C [(6, .int a5), (0, .ref (gad G 17)), (1, .int v1), (2, .int v2), (3, .int v3), (4, .int v4), (5, .int v5)] (by rw [hnL]; decide) rfl (by decide +kernel) rfl ?_
        refine aw_aload_n C 0 1 (j := 0) rfl rfl (by decide +kernel) rfl ?_
        refine aw_getr C (k := 1) fc_0 (lc_17 E) rfl (by decide) tb_145 (by decide +kernel) rfl ?_
        refine aw_iload C 4 5 rfl (by decide +kernel) rfl ?_
        obtain ⟨g6, hf⟩ := igd hf
        refine aw_iald C (lc_19 E) g6 (by decide +kernel) rfl ?_
        obtain ⟨a7, ha7⟩ : ∃ z, z = (st.1 19 v4.toNatClampNeg) := ⟨_, rfl⟩
        refine aw_nmi ha7 ?_
        have hf := ilt ha7 hf
        refine aw_istore C [(7, .int a7), (6, .int a5), (0, .ref (gad G 17)), (1, .int v1), (2, .int v2), (3, .int v3), (4, .int v4), (5, .int v5)] (by rw [hnL]; decide) rfl (by decide +kernel) rfl ?_
        obtain ⟨a8, ha8⟩ : ∃ z, z = (v4 + (1 : Int32)) := ⟨_, rfl⟩
        have hf := ilt ha8 hf
        refine aw_iinc C [(4, .int a8), (7, .int a7), (6, .int a5), (0, .ref (gad G 17)), (1, .int v1), (2, .int v2), (3, .int v3), (5, .int v5)] 6 (n := 1) rfl (by rw [ha8]; rfl) (by rw [hnL]; decide) rfl (by decide +kernel) rfl ?_
        refine aw_iload C 6 2 rfl (by decide +kernel) rfl ?_
        by_cases w9 : a5 = 33
        · have hf := ift w9 hf
          refine aw_look C (tgt := 169) (off := 101) (dflt := 168) (ps := #[(33, 101), (38, 144), (48, 68), (108, 93), (120, 77), (121, 85), (124, 120)]) (len := 68) (by decide +kernel) (by decide +kernel) (by rw [w9]; decide +kernel) (by decide) ?_
          refine aw_aload_n C 0 3 (j := 0) rfl rfl (by decide +kernel) rfl ?_
          refine aw_aload_n C 0 3 (j := 0) rfl rfl (by decide +kernel) rfl ?_
          refine aw_get C (k := 5) fc_0 (lc_17 E) rfl (by decide) tb_149 (by decide +kernel) rfl ?_
          refine aw_if_ne C (tgt := 181) (off := 7) (by decide +kernel) (by decide) rfl (fun c10 => ?_) (fun c10 => ?_)
          · have hf := ift c10 hf
            refine aw_iconst C (i0 := 1) (v := 1) (by decide) (by decide +kernel) rfl ?_
            refine aw_goto C (tgt := 182) (off := 4) (by decide +kernel) (by decide) ?_
            refine aw_putZ C (k := 5) fc_0 (lc_17 E) rfl (by decide) rfl rfl (by decide) tb_149 (by decide +kernel) rfl ?_
            refine aw_goto C (tgt := 242) (off := 57) (by decide +kernel) (by decide) ?_
            obtain ⟨a11, ha11⟩ : ∃ z, z = (v5 + (1 : Int32)) := ⟨_, rfl⟩
            have hf := ilt ha11 hf
            refine aw_iinc C [(5, .int a11), (4, .int a8), (7, .int a7), (6, .int a5), (0, .ref (gad G 17)), (1, .int v1), (2, .int v2), (3, .int v3)] 7 (n := 1) rfl (by rw [ha11]; rfl) (by rw [hnL]; decide) rfl (by decide +kernel) rfl ?_
            refine aw_goto C (tgt := 21) (off := -224) (by decide +kernel) (by decide) ?_
            refine aw_sub [(0, .ref (gad G 17)), (1, .int v1), (2, .int v2), (3, .int v3), (4, .int a8), (5, .int a11)] [4, 5, 6, 7, 1, 0] rfl ?_
            exact hk21 v1 v2 v3 a8 a11 _ hf
          · have hf := iff_ c10 hf
            refine aw_iconst C (i0 := 0) (v := 0) (by decide) (by decide +kernel) rfl ?_
            refine aw_putZ C (k := 5) fc_0 (lc_17 E) rfl (by decide) rfl rfl (by decide) tb_149 (by decide +kernel) rfl ?_
            refine aw_goto C (tgt := 242) (off := 57) (by decide +kernel) (by decide) ?_
            obtain ⟨a12, ha12⟩ : ∃ z, z = (v5 + (1 : Int32)) := ⟨_, rfl⟩
            have hf := ilt ha12 hf
            refine aw_iinc C [(5, .int a12), (4, .int a8), (7, .int a7), (6, .int a5), (0, .ref (gad G 17)), (1, .int v1), (2, .int v2), (3, .int v3)] 7 (n := 1) rfl (by rw [ha12]; rfl) (by rw [hnL]; decide) rfl (by decide +kernel) rfl ?_
            refine aw_goto C (tgt := 21) (off := -224) (by decide +kernel) (by decide) ?_
            refine aw_sub [(0, .ref (gad G 17)), (1, .int v1), (2, .int v2), (3, .int v3), (4, .int a8), (5, .int a12)] [4, 5, 6, 7, 1, 0] rfl ?_
            exact hk21 v1 v2 v3 a8 a12 _ hf
        · have hf := iff_ w9 hf
          by_cases w13 : a5 = 38
          · have hf := ift w13 hf
            refine aw_look C (tgt := 212) (off := 144) (dflt := 168) (ps := #[(33, 101), (38, 144), (48, 68), (108, 93), (120, 77), (121, 85), (124, 120)]) (len := 68) (by decide +kernel) (by decide +kernel) (by rw [w13]; decide +kernel) (by decide) ?_
            refine aw_aload_n C 0 3 (j := 0) rfl rfl (by decide +kernel) rfl ?_
            refine aw_get C (k := 5) fc_0 (lc_17 E) rfl (by decide) tb_149 (by decide +kernel) rfl ?_
            refine aw_if_eq C (tgt := 224) (off := 8) (by decide +kernel) (by decide) rfl (fun c14 => ?_) (fun c14 => ?_)
            · have hf := ift c14 hf
              refine aw_iload C 4 0 rfl (by decide +kernel) rfl ?_
              refine aw_iload C 7 1 rfl (by decide +kernel) rfl ?_
              refine aw_mmax C (Nat.le_trans (by decide) hgd) (Nat.le_of_ble_eq_true rfl) tb_570 tb_471 tb_14 tb_472 (by decide +kernel) rfl ?_
              obtain ⟨a15, ha15⟩ : ∃ z, z = (if a8 < a7 then a7 else a8) := ⟨_, rfl⟩
              refine aw_nmi ha15 ?_
              have hf := ilt ha15 hf
              refine aw_istore C [(4, .int a15), (7, .int a7), (6, .int a5), (0, .ref (gad G 17)), (1, .int v1), (2, .int v2), (3, .int v3), (5, .int v5)] (by rw [hnL]; decide) rfl (by decide +kernel) rfl ?_
              refine aw_goto C (tgt := 242) (off := 9) (by decide +kernel) (by decide) ?_
              obtain ⟨a16, ha16⟩ : ∃ z, z = (v5 + (1 : Int32)) := ⟨_, rfl⟩
              have hf := ilt ha16 hf
              refine aw_iinc C [(5, .int a16), (4, .int a15), (7, .int a7), (6, .int a5), (0, .ref (gad G 17)), (1, .int v1), (2, .int v2), (3, .int v3)] 7 (n := 1) rfl (by rw [ha16]; rfl) (by rw [hnL]; decide) rfl (by decide +kernel) rfl ?_
              refine aw_goto C (tgt := 21) (off := -224) (by decide +kernel) (by decide) ?_
              refine aw_sub [(0, .ref (gad G 17)), (1, .int v1), (2, .int v2), (3, .int v3), (4, .int a15), (5, .int a16)] [4, 5, 6, 7, 1, 0] rfl ?_
              exact hk21 v1 v2 v3 a15 a16 _ hf
            · have hf := iff_ c14 hf
              refine aw_iload C 4 0 rfl (by decide +kernel) rfl ?_
              refine aw_goto C (tgt := 231) (off := 10) (by decide +kernel) (by decide) ?_
              refine aw_istore C [(4, .int a8), (7, .int a7), (6, .int a5), (0, .ref (gad G 17)), (1, .int v1), (2, .int v2), (3, .int v3), (5, .int v5)] (by rw [hnL]; decide) rfl (by decide +kernel) rfl ?_
              refine aw_goto C (tgt := 242) (off := 9) (by decide +kernel) (by decide) ?_
              obtain ⟨a17, ha17⟩ : ∃ z, z = (v5 + (1 : Int32)) := ⟨_, rfl⟩
              have hf := ilt ha17 hf
              refine aw_iinc C [(5, .int a17), (4, .int a8), (7, .int a7), (6, .int a5), (0, .ref (gad G 17)), (1, .int v1), (2, .int v2), (3, .int v3)] 7 (n := 1) rfl (by rw [ha17]; rfl) (by rw [hnL]; decide) rfl (by decide +kernel) rfl ?_
              refine aw_goto C (tgt := 21) (off := -224) (by decide +kernel) (by decide) ?_
              refine aw_sub [(0, .ref (gad G 17)), (1, .int v1), (2, .int v2), (3, .int v3), (4, .int a8), (5, .int a17)] [4, 5, 6, 7, 1, 0] rfl ?_
              exact hk21 v1 v2 v3 a8 a17 _ hf
          · have hf := iff_ w13 hf
            by_cases w18 : a5 = 48
            · have hf := ift w18 hf
              refine aw_look C (tgt := 136) (off := 68) (dflt := 168) (ps := #[(33, 101), (38, 144), (48, 68), (108, 93), (120, 77), (121, 85), (124, 120)]) (len := 68) (by decide +kernel) (by decide +kernel) (by rw [w18]; decide +kernel) (by decide) ?_
              refine aw_aload_n C 0 3 (j := 0) rfl rfl (by decide +kernel) rfl ?_
              refine aw_iload C 7 1 rfl (by decide +kernel) rfl ?_
              obtain ⟨q19, hq19, hf⟩ := ibd hf
              refine aw_callV C (rest := []) (c_Cond_push E a7 _ q19 hq19) tb_566 yf_55 yi_55 (lc_17 E) [.int a7] rfl rfl _ rfl (Nat.le_trans (by decide) hgd) (Nat.le_of_ble_eq_true rfl) (by decide +kernel) rfl ?_
              show AW _ _ _ _ []
              refine aw_goto C (tgt := 242) (off := 100) (by decide +kernel) (by decide) ?_
              obtain ⟨a20, ha20⟩ : ∃ z, z = (v5 + (1 : Int32)) := ⟨_, rfl⟩
              have hf := ilt ha20 hf
              refine aw_iinc C [(5, .int a20), (4, .int a8), (7, .int a7), (6, .int a5), (0, .ref (gad G 17)), (1, .int v1), (2, .int v2), (3, .int v3)] 7 (n := 1) rfl (by rw [ha20]; rfl) (by rw [hnL]; decide) rfl (by decide +kernel) rfl ?_
              refine aw_goto C (tgt := 21) (off := -224) (by decide +kernel) (by decide) ?_
              refine aw_sub [(0, .ref (gad G 17)), (1, .int v1), (2, .int v2), (3, .int v3), (4, .int a8), (5, .int a20)] [4, 5, 6, 7, 1, 0] rfl ?_
              exact hk21 v1 v2 v3 a8 a20 _ hf
            · have hf := iff_ w18 hf
              by_cases w21 : a5 = 108
              · have hf := ift w21 hf
                refine aw_look C (tgt := 161) (off := 93) (dflt := 168) (ps := #[(33, 101), (38, 144), (48, 68), (108, 93), (120, 77), (121, 85), (124, 120)]) (len := 68) (by decide +kernel) (by decide +kernel) (by rw [w21]; decide +kernel) (by decide) ?_
                refine aw_aload_n C 0 3 (j := 0) rfl rfl (by decide +kernel) rfl ?_
                refine aw_iload_n C 3 6 (j := 3) rfl rfl (by decide +kernel) rfl ?_
                obtain ⟨q22, hq22, hf⟩ := ibd hf
                refine aw_callV C (rest := []) (c_Cond_push E v3 _ q22 hq22) tb_566 yf_55 yi_55 (lc_17 E) [.int v3] rfl rfl _ rfl (Nat.le_trans (by decide) hgd) (Nat.le_of_ble_eq_true rfl) (by decide +kernel) rfl ?_
                show AW _ _ _ _ []
                refine aw_goto C (tgt := 242) (off := 76) (by decide +kernel) (by decide) ?_
                obtain ⟨a23, ha23⟩ : ∃ z, z = (v5 + (1 : Int32)) := ⟨_, rfl⟩
                have hf := ilt ha23 hf
                refine aw_iinc C [(5, .int a23), (4, .int a8), (7, .int a7), (6, .int a5), (0, .ref (gad G 17)), (1, .int v1), (2, .int v2), (3, .int v3)] 7 (n := 1) rfl (by rw [ha23]; rfl) (by rw [hnL]; decide) rfl (by decide +kernel) rfl ?_
                refine aw_goto C (tgt := 21) (off := -224) (by decide +kernel) (by decide) ?_
                refine aw_sub [(0, .ref (gad G 17)), (1, .int v1), (2, .int v2), (3, .int v3), (4, .int a8), (5, .int a23)] [4, 5, 6, 7, 1, 0] rfl ?_
                exact hk21 v1 v2 v3 a8 a23 _ hf
              · have hf := iff_ w21 hf
                by_cases w24 : a5 = 120
                · have hf := ift w24 hf
                  refine aw_look C (tgt := 145) (off := 77) (dflt := 168) (ps := #[(33, 101), (38, 144), (48, 68), (108, 93), (120, 77), (121, 85), (124, 120)]) (len := 68) (by decide +kernel) (by decide +kernel) (by rw [w24]; decide +kernel) (by decide) ?_
                  refine aw_aload_n C 0 3 (j := 0) rfl rfl (by decide +kernel) rfl ?_
                  refine aw_iload_n C 1 4 (j := 1) rfl rfl (by decide +kernel) rfl ?_
                  obtain ⟨q25, hq25, hf⟩ := ibd hf
                  refine aw_callV C (rest := []) (c_Cond_push E v1 _ q25 hq25) tb_566 yf_55 yi_55 (lc_17 E) [.int v1] rfl rfl _ rfl (Nat.le_trans (by decide) hgd) (Nat.le_of_ble_eq_true rfl) (by decide +kernel) rfl ?_
                  show AW _ _ _ _ []
                  refine aw_goto C (tgt := 242) (off := 92) (by decide +kernel) (by decide) ?_
                  obtain ⟨a26, ha26⟩ : ∃ z, z = (v5 + (1 : Int32)) := ⟨_, rfl⟩
                  have hf := ilt ha26 hf
                  refine aw_iinc C [(5, .int a26), (4, .int a8), (7, .int a7), (6, .int a5), (0, .ref (gad G 17)), (1, .int v1), (2, .int v2), (3, .int v3)] 7 (n := 1) rfl (by rw [ha26]; rfl) (by rw [hnL]; decide) rfl (by decide +kernel) rfl ?_
                  refine aw_goto C (tgt := 21) (off := -224) (by decide +kernel) (by decide) ?_
                  refine aw_sub [(0, .ref (gad G 17)), (1, .int v1), (2, .int v2), (3, .int v3), (4, .int a8), (5, .int a26)] [4, 5, 6, 7, 1, 0] rfl ?_
                  exact hk21 v1 v2 v3 a8 a26 _ hf
                · have hf := iff_ w24 hf
                  by_cases w27 : a5 = 121
                  · have hf := ift w27 hf
                    refine aw_look C (tgt := 153) (off := 85) (dflt := 168) (ps := #[(33, 101), (38, 144), (48, 68), (108, 93), (120, 77), (121, 85), (124, 120)]) (len := 68) (by decide +kernel) (by decide +kernel) (by rw [w27]; decide +kernel) (by decide) ?_
                    refine aw_aload_n C 0 3 (j := 0) rfl rfl (by decide +kernel) rfl ?_
                    refine aw_iload_n C 2 5 (j := 2) rfl rfl (by decide +kernel) rfl ?_
                    obtain ⟨q28, hq28, hf⟩ := ibd hf
                    refine aw_callV C (rest := []) (c_Cond_push E v2 _ q28 hq28) tb_566 yf_55 yi_55 (lc_17 E) [.int v2] rfl rfl _ rfl (Nat.le_trans (by decide) hgd) (Nat.le_of_ble_eq_true rfl) (by decide +kernel) rfl ?_
                    show AW _ _ _ _ []
                    refine aw_goto C (tgt := 242) (off := 84) (by decide +kernel) (by decide) ?_
                    obtain ⟨a29, ha29⟩ : ∃ z, z = (v5 + (1 : Int32)) := ⟨_, rfl⟩
                    have hf := ilt ha29 hf
                    refine aw_iinc C [(5, .int a29), (4, .int a8), (7, .int a7), (6, .int a5), (0, .ref (gad G 17)), (1, .int v1), (2, .int v2), (3, .int v3)] 7 (n := 1) rfl (by rw [ha29]; rfl) (by rw [hnL]; decide) rfl (by decide +kernel) rfl ?_
                    refine aw_goto C (tgt := 21) (off := -224) (by decide +kernel) (by decide) ?_
                    refine aw_sub [(0, .ref (gad G 17)), (1, .int v1), (2, .int v2), (3, .int v3), (4, .int a8), (5, .int a29)] [4, 5, 6, 7, 1, 0] rfl ?_
                    exact hk21 v1 v2 v3 a8 a29 _ hf
                  · have hf := iff_ w27 hf
                    by_cases w30 : a5 = 124
                    · have hf := ift w30 hf
                      refine aw_look C (tgt := 188) (off := 120) (dflt := 168) (ps := #[(33, 101), (38, 144), (48, 68), (108, 93), (120, 77), (121, 85), (124, 120)]) (len := 68) (by decide +kernel) (by decide +kernel) (by rw [w30]; decide +kernel) (by decide) ?_
                      refine aw_aload_n C 0 3 (j := 0) rfl rfl (by decide +kernel) rfl ?_
                      refine aw_get C (k := 5) fc_0 (lc_17 E) rfl (by decide) tb_149 (by decide +kernel) rfl ?_
                      refine aw_if_eq C (tgt := 205) (off := 13) (by decide +kernel) (by decide) rfl (fun c31 => ?_) (fun c31 => ?_)
                      · have hf := ift c31 hf
                        refine aw_iload C 4 0 rfl (by decide +kernel) rfl ?_
                        refine aw_istore C [(4, .int a8), (7, .int a7), (6, .int a5), (0, .ref (gad G 17)), (1, .int v1), (2, .int v2), (3, .int v3), (5, .int v5)] (by rw [hnL]; decide) rfl (by decide +kernel) rfl ?_
                        refine aw_goto C (tgt := 242) (off := 33) (by decide +kernel) (by decide) ?_
                        obtain ⟨a32, ha32⟩ : ∃ z, z = (v5 + (1 : Int32)) := ⟨_, rfl⟩
                        have hf := ilt ha32 hf
                        refine aw_iinc C [(5, .int a32), (4, .int a8), (7, .int a7), (6, .int a5), (0, .ref (gad G 17)), (1, .int v1), (2, .int v2), (3, .int v3)] 7 (n := 1) rfl (by rw [ha32]; rfl) (by rw [hnL]; decide) rfl (by decide +kernel) rfl ?_
                        refine aw_goto C (tgt := 21) (off := -224) (by decide +kernel) (by decide) ?_
                        refine aw_sub [(0, .ref (gad G 17)), (1, .int v1), (2, .int v2), (3, .int v3), (4, .int a8), (5, .int a32)] [4, 5, 6, 7, 1, 0] rfl ?_
                        exact hk21 v1 v2 v3 a8 a32 _ hf
                      · have hf := iff_ c31 hf
                        refine aw_iload C 4 0 rfl (by decide +kernel) rfl ?_
                        refine aw_iload C 7 1 rfl (by decide +kernel) rfl ?_
                        refine aw_mmax C (Nat.le_trans (by decide) hgd) (Nat.le_of_ble_eq_true rfl) tb_570 tb_471 tb_14 tb_472 (by decide +kernel) rfl ?_
                        refine aw_goto C (tgt := 207) (off := 5) (by decide +kernel) (by decide) ?_
                        obtain ⟨a33, ha33⟩ : ∃ z, z = (if a8 < a7 then a7 else a8) := ⟨_, rfl⟩
                        refine aw_nmi ha33 ?_
                        have hf := ilt ha33 hf
                        refine aw_istore C [(4, .int a33), (7, .int a7), (6, .int a5), (0, .ref (gad G 17)), (1, .int v1), (2, .int v2), (3, .int v3), (5, .int v5)] (by rw [hnL]; decide) rfl (by decide +kernel) rfl ?_
                        refine aw_goto C (tgt := 242) (off := 33) (by decide +kernel) (by decide) ?_
                        obtain ⟨a34, ha34⟩ : ∃ z, z = (v5 + (1 : Int32)) := ⟨_, rfl⟩
                        have hf := ilt ha34 hf
                        refine aw_iinc C [(5, .int a34), (4, .int a33), (7, .int a7), (6, .int a5), (0, .ref (gad G 17)), (1, .int v1), (2, .int v2), (3, .int v3)] 7 (n := 1) rfl (by rw [ha34]; rfl) (by rw [hnL]; decide) rfl (by decide +kernel) rfl ?_
                        refine aw_goto C (tgt := 21) (off := -224) (by decide +kernel) (by decide) ?_
                        refine aw_sub [(0, .ref (gad G 17)), (1, .int v1), (2, .int v2), (3, .int v3), (4, .int a33), (5, .int a34)] [4, 5, 6, 7, 1, 0] rfl ?_
                        exact hk21 v1 v2 v3 a33 a34 _ hf
                    · have hf := iff_ w30 hf
                      refine aw_look C (tgt := 236) (off := 168) (dflt := 168) (ps := #[(33, 101), (38, 144), (48, 68), (108, 93), (120, 77), (121, 85), (124, 120)]) (len := 68) (by decide +kernel) (by decide +kernel) (by show Op.lookupswitch.offset [(33, 101), (38, 144), (48, 68), (108, 93), (120, 77), (121, 85), (124, 120)] _ _ = _; rw [lv_osw w9 (by decide), lv_osw w13 (by decide), lv_osw w18 (by decide), lv_osw w21 (by decide), lv_osw w24 (by decide), lv_osw w27 (by decide), lv_osw w30 (by decide)]; rfl) (by decide) ?_
                      refine aw_aload_n C 0 3 (j := 0) rfl rfl (by decide +kernel) rfl ?_
                      refine aw_iload C 6 2 rfl (by decide +kernel) rfl ?_
                      obtain ⟨q35, hq35, hf⟩ := ibd hf
                      refine aw_callV C (rest := []) (c_Cond_reckon E a5 _ q35 hq35) tb_571 yf_56 yi_56 (lc_17 E) [.int a5] rfl rfl _ rfl (Nat.le_trans (by decide) hgd) (Nat.le_of_ble_eq_true rfl) (by decide +kernel) rfl ?_
                      show AW _ _ _ _ []
                      obtain ⟨a36, ha36⟩ : ∃ z, z = (v5 + (1 : Int32)) := ⟨_, rfl⟩
                      have hf := ilt ha36 hf
                      refine aw_iinc C [(5, .int a36), (4, .int a8), (7, .int a7), (6, .int a5), (0, .ref (gad G 17)), (1, .int v1), (2, .int v2), (3, .int v3)] 7 (n := 1) rfl (by rw [ha36]; rfl) (by rw [hnL]; decide) rfl (by decide +kernel) rfl ?_
                      refine aw_goto C (tgt := 21) (off := -224) (by decide +kernel) (by decide) ?_
                      refine aw_sub [(0, .ref (gad G 17)), (1, .int v1), (2, .int v2), (3, .int v3), (4, .int a8), (5, .int a36)] [4, 5, 6, 7, 1, 0] rfl ?_
                      exact hk21 v1 v2 v3 a8 a36 _ hf
      · have hf := iff_ c3 hf
        refine aw_sub [(0, .ref (gad G 17))] [0] rfl ?_
        exact t_Cond_holdsAt_248 C CR0 E hnL hgd hgr hgs _ hf
theorem u_Cond_holdsAt_21 {G : Cx} (C : CX G prog_2_method_5_code "PaperStars$Condition") (CR0 : CR G (Option.some FieldType.boolean)) (E : LCin (gly G)) (hnL : gnL G = 8) (hgd : 2 ≤ gd G) {q : Int32 × Mm} (hgr : gr G = some (.int q.1)) (hgs : gsf G = q.2) : ∀ (n : Nat) (v1 : Int32) (v2 : Int32) (v3 : Int32) (v4 : Int32) (v5 : Int32) (st : Mm), f_Cond_holdsAt_21 n v1 v2 v3 v4 v5 st = some q → AW G st 21 [(0, .ref (gad G 17)), (1, .int v1), (2, .int v2), (3, .int v3), (4, .int v4), (5, .int v5)] [] := by
  intro n
  induction n with
  | zero => intro v1 v2 v3 v4 v5 st hf; cases hf
  | succ n ih => intro v1 v2 v3 v4 v5 st hf; exact t_Cond_holdsAt_21 C CR0 E hnL hgd hgr hgs (f_Cond_holdsAt_21 n) ih v1 v2 v3 v4 v5 st hf
theorem t_Cond_holdsAt {G : Cx} (C : CX G prog_2_method_5_code "PaperStars$Condition") (CR0 : CR G (Option.some FieldType.boolean)) (E : LCin (gly G)) (hnL : gnL G = 8) (hgd : 2 ≤ gd G) {q : Int32 × Mm} (hgr : gr G = some (.int q.1)) (hgs : gsf G = q.2) (v1 : Int32) (v2 : Int32) (v3 : Int32) (st : Mm) (hf : f_Cond_holdsAt v1 v2 v3 st = some q) : AW G st 0 [(0, .ref (gad G 17)), (1, .int v1), (2, .int v2), (3, .int v3)] [] := by
  unfold f_Cond_holdsAt at hf
  refine aw_aload_n C 0 0 (j := 0) rfl rfl (by decide +kernel) rfl ?_
  refine aw_iconst C (i0 := 0) (v := 0) (by decide) (by decide +kernel) rfl ?_
  refine aw_put C (k := 4) fc_0 (lc_17 E) rfl (by decide) rfl rfl tb_148 (by decide +kernel) rfl ?_
  refine aw_aload_n C 0 0 (j := 0) rfl rfl (by decide +kernel) rfl ?_
  refine aw_iconst C (i0 := 0) (v := 0) (by decide) (by decide +kernel) rfl ?_
  refine aw_putZ C (k := 5) fc_0 (lc_17 E) rfl (by decide) rfl rfl (by decide) tb_149 (by decide +kernel) rfl ?_
  refine aw_aload_n C 0 0 (j := 0) rfl rfl (by decide +kernel) rfl ?_
  refine aw_iconst C (i0 := 0) (v := 0) (by decide) (by decide +kernel) rfl ?_
  refine aw_putZ C (k := 6) fc_0 (lc_17 E) rfl (by decide) rfl rfl (by decide) tb_150 (by decide +kernel) rfl ?_
  refine aw_iconst C (i0 := 0) (v := 0) (by decide) (by decide +kernel) rfl ?_
  refine aw_istore C [(4, .int (0 : Int32)), (0, .ref (gad G 17)), (1, .int v1), (2, .int v2), (3, .int v3)] (by rw [hnL]; decide) rfl (by decide +kernel) rfl ?_
  refine aw_iconst C (i0 := 0) (v := 0) (by decide) (by decide +kernel) rfl ?_
  refine aw_istore C [(5, .int (0 : Int32)), (4, .int (0 : Int32)), (0, .ref (gad G 17)), (1, .int v1), (2, .int v2), (3, .int v3)] (by rw [hnL]; decide) rfl (by decide +kernel) rfl ?_
  refine aw_sub [(0, .ref (gad G 17)), (1, .int v1), (2, .int v2), (3, .int v3), (4, .int (0 : Int32)), (5, .int (0 : Int32))] [2, 3, 4, 5, 1, 0] rfl ?_
  exact u_Cond_holdsAt_21 C CR0 E hnL hgd hgr hgs _ v1 v2 v3 (0 : Int32) (0 : Int32) _ hf
theorem c_Cond_holdsAt {lay : Ly} (E : LCin lay) (v1 : Int32) (v2 : Int32) (v3 : Int32) (st : Mm) (q : Int32 × Mm) (hf : f_Cond_holdsAt v1 v2 v3 st = some q) : Con 2 Y54 prog_2_method_5_code 8 (Option.some FieldType.boolean) lay (fun ad => [.ref (ad 17), .int v1, .int v2, .int v3]) st (some (.int q.1)) q.2 :=
  am_met yf_54.2.2.2.2.2 (fun ad => Nat.le_of_ble_eq_true rfl) (fun G C CR0 e1 e2 e3 e4 e5 => t_Cond_holdsAt C CR0 (by rw [e1]; exact E) e2 (Nat.le_of_eq e5.symm) e3 e4 v1 v2 v3 st hf)
def f_Fold_thickness (f0 f1 f2 : Nat) (v1 : Int32) (v2 : Int32) (st : Mm) : Option (Int32 × Mm) :=
  if (st.1 f0 3) = 0 then (some ((st.1 f0 5), st)) else (if v1 = v2 then (some ((st.1 f0 5), st)) else (some (((2 : Int32) * (st.1 f0 5)), st)))
theorem t_Fold_thickness {G : Cx} (C : CX G prog_5_method_8_code "PaperStars$Folding") (CR0 : CR G (Option.some FieldType.int)) (f0 f1 f2 : Nat) (Ef : FoldAt (gly G) f0 f1 f2) (hnL : gnL G = 3) (hgd : 0 ≤ gd G) {q : Int32 × Mm} (hgr : gr G = some (.int q.1)) (hgs : gsf G = q.2) (v1 : Int32) (v2 : Int32) (st : Mm) (hf : f_Fold_thickness f0 f1 f2 v1 v2 st = some q) : AW G st 0 [(0, .ref (gad G f0)), (1, .int v1), (2, .int v2)] [] := by
  unfold f_Fold_thickness at hf
  refine aw_aload_n C 0 0 (j := 0) rfl rfl (by decide +kernel) rfl ?_
  refine aw_get C (k := 3) fc_3 Ef.1 rfl (by decide) tb_114 (by decide +kernel) rfl ?_
  refine aw_if_eq C (tgt := 21) (off := 17) (by decide +kernel) (by decide) rfl (fun c1 => ?_) (fun c1 => ?_)
  · have hf := ift c1 hf
    refine aw_aload_n C 0 0 (j := 0) rfl rfl (by decide +kernel) rfl ?_
    refine aw_get C (k := 5) fc_3 Ef.1 rfl (by decide) tb_118 (by decide +kernel) rfl ?_
    exact aw_iretq C CR0 hgr hgs hf (by decide +kernel)
  · have hf := iff_ c1 hf
    refine aw_iload_n C 1 1 (j := 1) rfl rfl (by decide +kernel) rfl ?_
    refine aw_iload_n C 2 2 (j := 2) rfl rfl (by decide +kernel) rfl ?_
    refine aw_icmp_eq C (tgt := 21) (off := 12) (by decide +kernel) (by decide) rfl (fun c2 => ?_) (fun c2 => ?_)
    · have hf := ift c2 hf
      refine aw_aload_n C 0 0 (j := 0) rfl rfl (by decide +kernel) rfl ?_
      refine aw_get C (k := 5) fc_3 Ef.1 rfl (by decide) tb_118 (by decide +kernel) rfl ?_
      exact aw_iretq C CR0 hgr hgs hf (by decide +kernel)
    · have hf := iff_ c2 hf
      refine aw_iconst C (i0 := 2) (v := 2) (by decide) (by decide +kernel) rfl ?_
      refine aw_aload_n C 0 0 (j := 0) rfl rfl (by decide +kernel) rfl ?_
      refine aw_get C (k := 5) fc_3 Ef.1 rfl (by decide) tb_118 (by decide +kernel) rfl ?_
      refine aw_imul C (by decide +kernel) rfl ?_
      refine aw_goto C (tgt := 25) (off := 7) (by decide +kernel) (by decide) ?_
      exact aw_iretq C CR0 hgr hgs hf (by decide +kernel)
theorem c_Fold_thickness {lay : Ly} (f0 f1 f2 : Nat) (Ef : FoldAt lay f0 f1 f2) (v1 : Int32) (v2 : Int32) (st : Mm) (q : Int32 × Mm) (hf : f_Fold_thickness f0 f1 f2 v1 v2 st = some q) : Con 0 Y53 prog_5_method_8_code 3 (Option.some FieldType.int) lay (fun ad => [.ref (ad f0), .int v1, .int v2]) st (some (.int q.1)) q.2 :=
  am_met yf_53.2.2.2.2.2 (fun ad => Nat.le_of_ble_eq_true rfl) (fun G C CR0 e1 e2 e3 e4 e5 => t_Fold_thickness C CR0 f0 f1 f2 (by rw [e1]; exact Ef) e2 (Nat.le_of_eq e5.symm) e3 e4 v1 v2 st hf)
def f_Cond_aimHere (v1 : Int32) (st : Mm) : Option (Unit × Mm) :=
  if v1 < 0 then (some ((), st)) else (if (st.1 17 3) ≤ v1 then (some ((), st)) else (lt_ (st.1 17 3) (fun a3 => if inb v1 160 then some ((), (sI st 19 v1.toNatClampNeg a3)) else none)))
theorem t_Cond_aimHere {G : Cx} (C : CX G prog_2_method_4_code "PaperStars$Condition") (CR0 : CR G (Option.none)) (E : LCin (gly G)) (hnL : gnL G = 2) (hgd : 0 ≤ gd G) {q : Unit × Mm} (hgr : gr G = none) (hgs : gsf G = q.2) (v1 : Int32) (st : Mm) (hf : f_Cond_aimHere v1 st = some q) : AW G st 0 [(0, .ref (gad G 17)), (1, .int v1)] [] := by
  unfold f_Cond_aimHere at hf
  refine aw_iload_n C 1 1 (j := 1) rfl rfl (by decide +kernel) rfl ?_
  refine aw_if_lt C (tgt := 22) (off := 21) (by decide +kernel) (by decide) rfl (fun c1 => ?_) (fun c1 => ?_)
  · have hf := ift c1 hf
    exact aw_vretq C CR0 hgr hgs hf (by decide +kernel)
  · have hf := iff_ c1 hf
    refine aw_iload_n C 1 1 (j := 1) rfl rfl (by decide +kernel) rfl ?_
    refine aw_aload_n C 0 0 (j := 0) rfl rfl (by decide +kernel) rfl ?_
    refine aw_get C (k := 3) fc_0 (lc_17 E) rfl (by decide) tb_147 (by decide +kernel) rfl ?_
    refine aw_icmp_ge C (tgt := 22) (off := 13) (by decide +kernel) (by decide) rfl (fun c2 => ?_) (fun c2 => ?_)
    · have hf := ift c2 hf
      exact aw_vretq C CR0 hgr hgs hf (by decide +kernel)
    · have hf := iff_ c2 hf
      refine aw_aload_n C 0 0 (j := 0) rfl rfl (by decide +kernel) rfl ?_
      refine aw_getr C (k := 1) fc_0 (lc_17 E) rfl (by decide) tb_145 (by decide +kernel) rfl ?_
      refine aw_iload_n C 1 1 (j := 1) rfl rfl (by decide +kernel) rfl ?_
      refine aw_aload_n C 0 0 (j := 0) rfl rfl (by decide +kernel) rfl ?_
      refine aw_get C (k := 3) fc_0 (lc_17 E) rfl (by decide) tb_147 (by decide +kernel) rfl ?_
      obtain ⟨a3, ha3⟩ : ∃ z, z = (st.1 17 3) := ⟨_, rfl⟩
      refine aw_nmi ha3 ?_
      have hf := ilt ha3 hf
      obtain ⟨g4, hf⟩ := igd hf
      refine aw_iast C (lc_19 E) g4 (by decide +kernel) rfl ?_
      exact aw_vretq C CR0 hgr hgs hf (by decide +kernel)
theorem c_Cond_aimHere {lay : Ly} (E : LCin lay) (v1 : Int32) (st : Mm) (q : Unit × Mm) (hf : f_Cond_aimHere v1 st = some q) : Con 0 Y52 prog_2_method_4_code 2 (Option.none) lay (fun ad => [.ref (ad 17), .int v1]) st (none) q.2 :=
  am_met yf_52.2.2.2.2.2 (fun ad => Nat.le_of_ble_eq_true rfl) (fun G C CR0 e1 e2 e3 e4 e5 => t_Cond_aimHere C CR0 (by rw [e1]; exact E) e2 (Nat.le_of_eq e5.symm) e3 e4 v1 st hf)
def f_Cond_put (v1 : Int32) (v2 : Int32) (st : Mm) : Option (Int32 × Mm) :=
  if (st.1 17 3) < (160 : Int32) then (if inb (st.1 17 3) 160 then if inb ((sI st 18 (st.1 17 3).toNatClampNeg v1).1 17 3) 160 then lt_ (((sI (sI st 18 (st.1 17 3).toNatClampNeg v1) 19 ((sI st 18 (st.1 17 3).toNatClampNeg v1).1 17 3).toNatClampNeg v2).1 17 3) + (1 : Int32)) (fun a4 => some ((((sI (sI (sI st 18 (st.1 17 3).toNatClampNeg v1) 19 ((sI st 18 (st.1 17 3).toNatClampNeg v1).1 17 3).toNatClampNeg v2) 17 3 a4).1 17 3) - (1 : Int32)), (sI (sI (sI st 18 (st.1 17 3).toNatClampNeg v1) 19 ((sI st 18 (st.1 17 3).toNatClampNeg v1).1 17 3).toNatClampNeg v2) 17 3 a4))) else none else none) else (some ((-1 : Int32), st))
theorem t_Cond_put {G : Cx} (C : CX G prog_2_method_3_code "PaperStars$Condition") (CR0 : CR G (Option.some FieldType.int)) (E : LCin (gly G)) (hnL : gnL G = 3) (hgd : 0 ≤ gd G) {q : Int32 × Mm} (hgr : gr G = some (.int q.1)) (hgs : gsf G = q.2) (v1 : Int32) (v2 : Int32) (st : Mm) (hf : f_Cond_put v1 v2 st = some q) : AW G st 0 [(0, .ref (gad G 17)), (1, .int v1), (2, .int v2)] [] := by
  unfold f_Cond_put at hf
  refine aw_aload_n C 0 0 (j := 0) rfl rfl (by decide +kernel) rfl ?_
  refine aw_get C (k := 3) fc_0 (lc_17 E) rfl (by decide) tb_147 (by decide +kernel) rfl ?_
  refine aw_sipush C (i0 := 160) (v := 160) (by decide) (by decide +kernel) rfl ?_
  refine aw_icmp_lt C (tgt := 12) (off := 5) (by decide +kernel) (by decide) rfl (fun c1 => ?_) (fun c1 => ?_)
  · have hf := ift c1 hf
    refine aw_aload_n C 0 0 (j := 0) rfl rfl (by decide +kernel) rfl ?_
    refine aw_getr C (k := 0) fc_0 (lc_17 E) rfl (by decide) tb_144 (by decide +kernel) rfl ?_
    refine aw_aload_n C 0 0 (j := 0) rfl rfl (by decide +kernel) rfl ?_
    refine aw_get C (k := 3) fc_0 (lc_17 E) rfl (by decide) tb_147 (by decide +kernel) rfl ?_
    refine aw_iload_n C 1 1 (j := 1) rfl rfl (by decide +kernel) rfl ?_
    obtain ⟨g2, hf⟩ := igd hf
    refine aw_iast C (lc_18 E) g2 (by decide +kernel) rfl ?_
    refine aw_aload_n C 0 0 (j := 0) rfl rfl (by decide +kernel) rfl ?_
    refine aw_getr C (k := 1) fc_0 (lc_17 E) rfl (by decide) tb_145 (by decide +kernel) rfl ?_
    refine aw_aload_n C 0 0 (j := 0) rfl rfl (by decide +kernel) rfl ?_
    refine aw_get C (k := 3) fc_0 (lc_17 E) rfl (by decide) tb_147 (by decide +kernel) rfl ?_
    refine aw_iload_n C 2 2 (j := 2) rfl rfl (by decide +kernel) rfl ?_
    obtain ⟨g3, hf⟩ := igd hf
    refine aw_iast C (lc_19 E) g3 (by decide +kernel) rfl ?_
    refine aw_aload_n C 0 0 (j := 0) rfl rfl (by decide +kernel) rfl ?_
    refine aw_dup C rfl (by decide +kernel) rfl ?_
    refine aw_get C (k := 3) fc_0 (lc_17 E) rfl (by decide) tb_147 (by decide +kernel) rfl ?_
    refine aw_iconst C (i0 := 1) (v := 1) (by decide) (by decide +kernel) rfl ?_
    refine aw_iadd C (by decide +kernel) rfl ?_
    obtain ⟨a4, ha4⟩ : ∃ z, z = (((sI (sI st 18 (st.1 17 3).toNatClampNeg v1) 19 ((sI st 18 (st.1 17 3).toNatClampNeg v1).1 17 3).toNatClampNeg v2).1 17 3) + (1 : Int32)) := ⟨_, rfl⟩
    refine aw_nmi ha4 ?_
    have hf := ilt ha4 hf
    refine aw_put C (k := 3) fc_0 (lc_17 E) rfl (by decide) rfl rfl tb_147 (by decide +kernel) rfl ?_
    refine aw_aload_n C 0 0 (j := 0) rfl rfl (by decide +kernel) rfl ?_
    refine aw_get C (k := 3) fc_0 (lc_17 E) rfl (by decide) tb_147 (by decide +kernel) rfl ?_
    refine aw_iconst C (i0 := 1) (v := 1) (by decide) (by decide +kernel) rfl ?_
    refine aw_isub C (by decide +kernel) rfl ?_
    exact aw_iretq C CR0 hgr hgs hf (by decide +kernel)
  · have hf := iff_ c1 hf
    refine aw_iconst C (i0 := -1) (v := -1) (by decide) (by decide +kernel) rfl ?_
    exact aw_iretq C CR0 hgr hgs hf (by decide +kernel)
theorem c_Cond_put {lay : Ly} (E : LCin lay) (v1 : Int32) (v2 : Int32) (st : Mm) (q : Int32 × Mm) (hf : f_Cond_put v1 v2 st = some q) : Con 0 Y45 prog_2_method_3_code 3 (Option.some FieldType.int) lay (fun ad => [.ref (ad 17), .int v1, .int v2]) st (some (.int q.1)) q.2 :=
  am_met yf_45.2.2.2.2.2 (fun ad => Nat.le_of_ble_eq_true rfl) (fun G C CR0 e1 e2 e3 e4 e5 => t_Cond_put C CR0 (by rw [e1]; exact E) e2 (Nat.le_of_eq e5.symm) e3 e4 v1 v2 st hf)
def b_Rdr_mayOpen_15 (st : Mm) : Option (Int32 × Mm) :=
  if (st.1 13 7) = 0 then (some ((1 : Int32), st)) else (some ((0 : Int32), st))
def f_Rdr_mayOpen (v1 : Int32) (st : Mm) : Option (Int32 × Mm) :=
  if v1 < (6 : Int32) then (b_Rdr_mayOpen_15 st) else ((f_Rdr_fail (5 : Int32) (st.1 13 6) st).bind (fun q2 => b_Rdr_mayOpen_15 q2.2))
theorem t_Rdr_mayOpen_15 {G : Cx} (C : CX G prog_10_method_18_code "PaperStars$Reader") (CR0 : CR G (Option.some FieldType.boolean)) (E : LCin (gly G)) (hnL : gnL G = 2) (hgd : 1 ≤ gd G) {q : Int32 × Mm} (hgr : gr G = some (.int q.1)) (hgs : gsf G = q.2) (st : Mm) (hf : b_Rdr_mayOpen_15 st = some q) : AW G st 15 [(0, .ref (gad G 13))] [] := by
  unfold b_Rdr_mayOpen_15 at hf
  refine aw_aload_n C 0 0 (j := 0) rfl rfl (by decide +kernel) rfl ?_
  refine aw_get C (k := 7) fc_8 (lc_13 E) rfl (by decide) tb_173 (by decide +kernel) rfl ?_
  refine aw_if_ne C (tgt := 26) (off := 7) (by decide +kernel) (by decide) rfl (fun c1 => ?_) (fun c1 => ?_)
  · have hf := ift c1 hf
    refine aw_iconst C (i0 := 1) (v := 1) (by decide) (by decide +kernel) rfl ?_
    refine aw_goto C (tgt := 27) (off := 4) (by decide +kernel) (by decide) ?_
    exact aw_zretq C CR0 hgr hgs (by decide) hf (by decide +kernel)
  · have hf := iff_ c1 hf
    refine aw_iconst C (i0 := 0) (v := 0) (by decide) (by decide +kernel) rfl ?_
    exact aw_zretq C CR0 hgr hgs (by decide) hf (by decide +kernel)
theorem t_Rdr_mayOpen {G : Cx} (C : CX G prog_10_method_18_code "PaperStars$Reader") (CR0 : CR G (Option.some FieldType.boolean)) (E : LCin (gly G)) (hnL : gnL G = 2) (hgd : 1 ≤ gd G) {q : Int32 × Mm} (hgr : gr G = some (.int q.1)) (hgs : gsf G = q.2) (v1 : Int32) (st : Mm) (hf : f_Rdr_mayOpen v1 st = some q) : AW G st 0 [(0, .ref (gad G 13)), (1, .int v1)] [] := by
  unfold f_Rdr_mayOpen at hf
  refine aw_iload_n C 1 1 (j := 1) rfl rfl (by decide +kernel) rfl ?_
  refine aw_bipush C (i0 := 6) (v := 6) (by decide) (by decide +kernel) rfl ?_
  refine aw_icmp_lt C (tgt := 15) (off := 12) (by decide +kernel) (by decide) rfl (fun c1 => ?_) (fun c1 => ?_)
  · have hf := ift c1 hf
    refine aw_sub [(0, .ref (gad G 13))] [0] rfl ?_
    exact t_Rdr_mayOpen_15 C CR0 E hnL hgd hgr hgs _ hf
  · have hf := iff_ c1 hf
    refine aw_aload_n C 0 0 (j := 0) rfl rfl (by decide +kernel) rfl ?_
    refine aw_iconst C (i0 := 5) (v := 5) (by decide) (by decide +kernel) rfl ?_
    refine aw_aload_n C 0 0 (j := 0) rfl rfl (by decide +kernel) rfl ?_
    refine aw_get C (k := 6) fc_8 (lc_13 E) rfl (by decide) tb_172 (by decide +kernel) rfl ?_
    obtain ⟨q2, hq2, hf⟩ := ibd hf
    refine aw_callV C (rest := []) (c_Rdr_fail E (5 : Int32) (st.1 13 6) _ q2 hq2) tb_488 yf_36 yi_36 (lc_13 E) [.int (5 : Int32), .int (st.1 13 6)] rfl rfl _ rfl (Nat.le_trans (by decide) hgd) (Nat.le_of_ble_eq_true rfl) (by decide +kernel) rfl ?_
    show AW _ _ _ _ []
    refine aw_sub [(0, .ref (gad G 13))] [0] rfl ?_
    exact t_Rdr_mayOpen_15 C CR0 E hnL hgd hgr hgs _ hf
theorem c_Rdr_mayOpen {lay : Ly} (E : LCin lay) (v1 : Int32) (st : Mm) (q : Int32 × Mm) (hf : f_Rdr_mayOpen v1 st = some q) : Con 1 Y44 prog_10_method_18_code 2 (Option.some FieldType.boolean) lay (fun ad => [.ref (ad 13), .int v1]) st (some (.int q.1)) q.2 :=
  am_met yf_44.2.2.2.2.2 (fun ad => Nat.le_of_ble_eq_true rfl) (fun G C CR0 e1 e2 e3 e4 e5 => t_Rdr_mayOpen C CR0 (by rw [e1]; exact E) e2 (Nat.le_of_eq e5.symm) e3 e4 v1 st hf)
def f_Rdr_readLetter (st : Mm) : Option (Unit × Mm) :=
  (f_Rdr_look st).bind (fun q1 => if q1.1 = 104 then ((f_Cond_put (48 : Int32) (q1.2.1 14 2) q1.2).bind (fun q3 => lt_ ((q3.2.1 13 6) + (1 : Int32)) (fun a4 => some ((), (sI q3.2 13 6 a4))))) else (if q1.1 = 105 then ((f_Rdr_fail (1 : Int32) (q1.2.1 13 6) q1.2).bind (fun q6 => some ((), q6.2))) else (if q1.1 = 106 then ((f_Rdr_fail (1 : Int32) (q1.2.1 13 6) q1.2).bind (fun q8 => some ((), q8.2))) else (if q1.1 = 107 then ((f_Rdr_fail (1 : Int32) (q1.2.1 13 6) q1.2).bind (fun q10 => some ((), q10.2))) else (if q1.1 = 108 then ((f_Cond_put q1.1 (0 : Int32) q1.2).bind (fun q12 => lt_ ((q12.2.1 13 6) + (1 : Int32)) (fun a13 => some ((), (sI q12.2 13 6 a13))))) else (if q1.1 = 109 then ((f_Rdr_fail (1 : Int32) (q1.2.1 13 6) q1.2).bind (fun q15 => some ((), q15.2))) else (if q1.1 = 110 then ((f_Cond_put (48 : Int32) (q1.2.1 13 10) q1.2).bind (fun q17 => lt_ ((q17.2.1 13 6) + (1 : Int32)) (fun a18 => some ((), (sI q17.2 13 6 a18))))) else (if q1.1 = 111 then ((f_Rdr_fail (1 : Int32) (q1.2.1 13 6) q1.2).bind (fun q20 => some ((), q20.2))) else (if q1.1 = 112 then ((f_Rdr_fail (1 : Int32) (q1.2.1 13 6) q1.2).bind (fun q22 => some ((), q22.2))) else (if q1.1 = 113 then ((f_Rdr_fail (1 : Int32) (q1.2.1 13 6) q1.2).bind (fun q24 => some ((), q24.2))) else (if q1.1 = 114 then ((f_Rdr_fail (1 : Int32) (q1.2.1 13 6) q1.2).bind (fun q26 => some ((), q26.2))) else (if q1.1 = 115 then ((f_Rdr_fail (1 : Int32) (q1.2.1 13 6) q1.2).bind (fun q28 => some ((), q28.2))) else (if q1.1 = 116 then ((f_Rdr_fail (1 : Int32) (q1.2.1 13 6) q1.2).bind (fun q30 => some ((), q30.2))) else (if q1.1 = 117 then ((f_Rdr_fail (1 : Int32) (q1.2.1 13 6) q1.2).bind (fun q32 => some ((), q32.2))) else (if q1.1 = 118 then ((f_Rdr_fail (1 : Int32) (q1.2.1 13 6) q1.2).bind (fun q34 => some ((), q34.2))) else (if q1.1 = 119 then ((f_Cond_put (48 : Int32) (q1.2.1 14 1) q1.2).bind (fun q36 => lt_ ((q36.2.1 13 6) + (1 : Int32)) (fun a37 => some ((), (sI q36.2 13 6 a37))))) else (if q1.1 = 120 then ((f_Cond_put q1.1 (0 : Int32) q1.2).bind (fun q39 => lt_ ((q39.2.1 13 6) + (1 : Int32)) (fun a40 => some ((), (sI q39.2 13 6 a40))))) else (if q1.1 = 121 then ((f_Cond_put q1.1 (0 : Int32) q1.2).bind (fun q42 => lt_ ((q42.2.1 13 6) + (1 : Int32)) (fun a43 => some ((), (sI q42.2 13 6 a43))))) else (if q1.1 = 122 then ((f_Cond_put (48 : Int32) (q1.2.1 14 0) q1.2).bind (fun q45 => lt_ ((q45.2.1 13 6) + (1 : Int32)) (fun a46 => some ((), (sI q45.2 13 6 a46))))) else ((f_Rdr_fail (1 : Int32) (q1.2.1 13 6) q1.2).bind (fun q47 => some ((), q47.2))))))))))))))))))))))
theorem t_Rdr_readLetter {G : Cx} (C : CX G prog_10_method_23_code "PaperStars$Reader") (CR0 : CR G (Option.none)) (E : LCin (gly G)) (hnL : gnL G = 2) (hgd : 1 ≤ gd G) {q : Unit × Mm} (hgr : gr G = none) (hgs : gsf G = q.2) (st : Mm) (hf : f_Rdr_readLetter st = some q) : AW G st 0 [(0, .ref (gad G 13))] [] := by
  unfold f_Rdr_readLetter at hf
  refine aw_aload_n C 0 0 (j := 0) rfl rfl (by decide +kernel) rfl ?_
  obtain ⟨q1, hq1, hf⟩ := ibd hf
  refine aw_callV C (rest := []) (c_Rdr_look E _ q1 hq1) tb_484 yf_35 yi_35 (lc_13 E) [] rfl rfl _ rfl (Nat.le_trans (by decide) hgd) (Nat.le_of_ble_eq_true rfl) (by decide +kernel) rfl ?_
  show AW _ _ _ _ [.int q1.1]
  refine aw_istore_n C [(1, .int q1.1), (0, .ref (gad G 13))] (j := 1) rfl (by rw [hnL]; decide) rfl (by decide +kernel) rfl ?_
  refine aw_iload_n C 1 0 (j := 1) rfl rfl (by decide +kernel) rfl ?_
  by_cases w2 : q1.1 = 104
  · have hf := ift w2 hf
    refine aw_tin C (tgt := 129) (off := 123) (dflt := 180) (lo := 104) (hi := 122) (offs := #[123, 180, 180, 180, 90, 180, 143, 180, 180, 180, 180, 180, 180, 180, 180, 103, 90, 90, 160]) (len := 90) (by decide +kernel) (by rw [w2]; decide) (by rw [w2]; decide) (by rw [w2]; decide) (by decide) ?_
    refine aw_aload_n C 0 1 (j := 0) rfl rfl (by decide +kernel) rfl ?_
    refine aw_getr C (k := 1) fc_8 (lc_13 E) rfl (by decide) tb_167 (by decide +kernel) rfl ?_
    refine aw_bipush C (i0 := 48) (v := 48) (by decide) (by decide +kernel) rfl ?_
    refine aw_aload_n C 0 1 (j := 0) rfl rfl (by decide +kernel) rfl ?_
    refine aw_getr C (k := 0) fc_8 (lc_13 E) rfl (by decide) tb_166 (by decide +kernel) rfl ?_
    refine aw_get C (k := 2) fc_3 (lc_14 E) rfl (by decide) tb_113 (by decide +kernel) rfl ?_
    obtain ⟨q3, hq3, hf⟩ := ibd hf
    refine aw_callV C (rest := []) (c_Cond_put E (48 : Int32) (q1.2.1 14 2) _ q3 hq3) tb_525 yf_45 yi_45 (lc_17 E) [.int (48 : Int32), .int (q1.2.1 14 2)] rfl rfl _ rfl (Nat.le_trans (by decide) hgd) (Nat.le_of_ble_eq_true rfl) (by decide +kernel) rfl ?_
    show AW _ _ _ _ [.int q3.1]
    refine aw_pop C rfl (by decide +kernel) rfl ?_
    refine aw_goto C (tgt := 196) (off := 50) (by decide +kernel) (by decide) ?_
    refine aw_aload_n C 0 1 (j := 0) rfl rfl (by decide +kernel) rfl ?_
    refine aw_dup C rfl (by decide +kernel) rfl ?_
    refine aw_get C (k := 6) fc_8 (lc_13 E) rfl (by decide) tb_172 (by decide +kernel) rfl ?_
    refine aw_iconst C (i0 := 1) (v := 1) (by decide) (by decide +kernel) rfl ?_
    refine aw_iadd C (by decide +kernel) rfl ?_
    obtain ⟨a4, ha4⟩ : ∃ z, z = ((q3.2.1 13 6) + (1 : Int32)) := ⟨_, rfl⟩
    refine aw_nmi ha4 ?_
    have hf := ilt ha4 hf
    refine aw_put C (k := 6) fc_8 (lc_13 E) rfl (by decide) rfl rfl tb_172 (by decide +kernel) rfl ?_
    exact aw_vretq C CR0 hgr hgs hf (by decide +kernel)
  · have hf := iff_ w2 hf
    by_cases w5 : q1.1 = 105
    · have hf := ift w5 hf
      refine aw_tin C (tgt := 186) (off := 180) (dflt := 180) (lo := 104) (hi := 122) (offs := #[123, 180, 180, 180, 90, 180, 143, 180, 180, 180, 180, 180, 180, 180, 180, 103, 90, 90, 160]) (len := 90) (by decide +kernel) (by rw [w5]; decide) (by rw [w5]; decide) (by rw [w5]; decide) (by decide) ?_
      refine aw_aload_n C 0 1 (j := 0) rfl rfl (by decide +kernel) rfl ?_
      refine aw_iconst C (i0 := 1) (v := 1) (by decide) (by decide +kernel) rfl ?_
      refine aw_aload_n C 0 1 (j := 0) rfl rfl (by decide +kernel) rfl ?_
      refine aw_get C (k := 6) fc_8 (lc_13 E) rfl (by decide) tb_172 (by decide +kernel) rfl ?_
      obtain ⟨q6, hq6, hf⟩ := ibd hf
      refine aw_callV C (rest := []) (c_Rdr_fail E (1 : Int32) (q1.2.1 13 6) _ q6 hq6) tb_488 yf_36 yi_36 (lc_13 E) [.int (1 : Int32), .int (q1.2.1 13 6)] rfl rfl _ rfl (Nat.le_trans (by decide) hgd) (Nat.le_of_ble_eq_true rfl) (by decide +kernel) rfl ?_
      show AW _ _ _ _ []
      exact aw_vretq C CR0 hgr hgs hf (by decide +kernel)
    · have hf := iff_ w5 hf
      by_cases w7 : q1.1 = 106
      · have hf := ift w7 hf
        refine aw_tin C (tgt := 186) (off := 180) (dflt := 180) (lo := 104) (hi := 122) (offs := #[123, 180, 180, 180, 90, 180, 143, 180, 180, 180, 180, 180, 180, 180, 180, 103, 90, 90, 160]) (len := 90) (by decide +kernel) (by rw [w7]; decide) (by rw [w7]; decide) (by rw [w7]; decide) (by decide) ?_
        refine aw_aload_n C 0 1 (j := 0) rfl rfl (by decide +kernel) rfl ?_
        refine aw_iconst C (i0 := 1) (v := 1) (by decide) (by decide +kernel) rfl ?_
        refine aw_aload_n C 0 1 (j := 0) rfl rfl (by decide +kernel) rfl ?_
        refine aw_get C (k := 6) fc_8 (lc_13 E) rfl (by decide) tb_172 (by decide +kernel) rfl ?_
        obtain ⟨q8, hq8, hf⟩ := ibd hf
        refine aw_callV C (rest := []) (c_Rdr_fail E (1 : Int32) (q1.2.1 13 6) _ q8 hq8) tb_488 yf_36 yi_36 (lc_13 E) [.int (1 : Int32), .int (q1.2.1 13 6)] rfl rfl _ rfl (Nat.le_trans (by decide) hgd) (Nat.le_of_ble_eq_true rfl) (by decide +kernel) rfl ?_
        show AW _ _ _ _ []
        exact aw_vretq C CR0 hgr hgs hf (by decide +kernel)
      · have hf := iff_ w7 hf
        by_cases w9 : q1.1 = 107
        · have hf := ift w9 hf
          refine aw_tin C (tgt := 186) (off := 180) (dflt := 180) (lo := 104) (hi := 122) (offs := #[123, 180, 180, 180, 90, 180, 143, 180, 180, 180, 180, 180, 180, 180, 180, 103, 90, 90, 160]) (len := 90) (by decide +kernel) (by rw [w9]; decide) (by rw [w9]; decide) (by rw [w9]; decide) (by decide) ?_
          refine aw_aload_n C 0 1 (j := 0) rfl rfl (by decide +kernel) rfl ?_
          refine aw_iconst C (i0 := 1) (v := 1) (by decide) (by decide +kernel) rfl ?_
          refine aw_aload_n C 0 1 (j := 0) rfl rfl (by decide +kernel) rfl ?_
          refine aw_get C (k := 6) fc_8 (lc_13 E) rfl (by decide) tb_172 (by decide +kernel) rfl ?_
          obtain ⟨q10, hq10, hf⟩ := ibd hf
          refine aw_callV C (rest := []) (c_Rdr_fail E (1 : Int32) (q1.2.1 13 6) _ q10 hq10) tb_488 yf_36 yi_36 (lc_13 E) [.int (1 : Int32), .int (q1.2.1 13 6)] rfl rfl _ rfl (Nat.le_trans (by decide) hgd) (Nat.le_of_ble_eq_true rfl) (by decide +kernel) rfl ?_
          show AW _ _ _ _ []
          exact aw_vretq C CR0 hgr hgs hf (by decide +kernel)
        · have hf := iff_ w9 hf
          by_cases w11 : q1.1 = 108
          · have hf := ift w11 hf
            refine aw_tin C (tgt := 96) (off := 90) (dflt := 180) (lo := 104) (hi := 122) (offs := #[123, 180, 180, 180, 90, 180, 143, 180, 180, 180, 180, 180, 180, 180, 180, 103, 90, 90, 160]) (len := 90) (by decide +kernel) (by rw [w11]; decide) (by rw [w11]; decide) (by rw [w11]; decide) (by decide) ?_
            refine aw_aload_n C 0 1 (j := 0) rfl rfl (by decide +kernel) rfl ?_
            refine aw_getr C (k := 1) fc_8 (lc_13 E) rfl (by decide) tb_167 (by decide +kernel) rfl ?_
            refine aw_iload_n C 1 0 (j := 1) rfl rfl (by decide +kernel) rfl ?_
            refine aw_iconst C (i0 := 0) (v := 0) (by decide) (by decide +kernel) rfl ?_
            obtain ⟨q12, hq12, hf⟩ := ibd hf
            refine aw_callV C (rest := []) (c_Cond_put E q1.1 (0 : Int32) _ q12 hq12) tb_525 yf_45 yi_45 (lc_17 E) [.int q1.1, .int (0 : Int32)] rfl rfl _ rfl (Nat.le_trans (by decide) hgd) (Nat.le_of_ble_eq_true rfl) (by decide +kernel) rfl ?_
            show AW _ _ _ _ [.int q12.1]
            refine aw_pop C rfl (by decide +kernel) rfl ?_
            refine aw_goto C (tgt := 196) (off := 90) (by decide +kernel) (by decide) ?_
            refine aw_aload_n C 0 1 (j := 0) rfl rfl (by decide +kernel) rfl ?_
            refine aw_dup C rfl (by decide +kernel) rfl ?_
            refine aw_get C (k := 6) fc_8 (lc_13 E) rfl (by decide) tb_172 (by decide +kernel) rfl ?_
            refine aw_iconst C (i0 := 1) (v := 1) (by decide) (by decide +kernel) rfl ?_
            refine aw_iadd C (by decide +kernel) rfl ?_
            obtain ⟨a13, ha13⟩ : ∃ z, z = ((q12.2.1 13 6) + (1 : Int32)) := ⟨_, rfl⟩
            refine aw_nmi ha13 ?_
            have hf := ilt ha13 hf
            refine aw_put C (k := 6) fc_8 (lc_13 E) rfl (by decide) rfl rfl tb_172 (by decide +kernel) rfl ?_
            exact aw_vretq C CR0 hgr hgs hf (by decide +kernel)
          · have hf := iff_ w11 hf
            by_cases w14 : q1.1 = 109
            · have hf := ift w14 hf
              refine aw_tin C (tgt := 186) (off := 180) (dflt := 180) (lo := 104) (hi := 122) (offs := #[123, 180, 180, 180, 90, 180, 143, 180, 180, 180, 180, 180, 180, 180, 180, 103, 90, 90, 160]) (len := 90) (by decide +kernel) (by rw [w14]; decide) (by rw [w14]; decide) (by rw [w14]; decide) (by decide) ?_
              refine aw_aload_n C 0 1 (j := 0) rfl rfl (by decide +kernel) rfl ?_
              refine aw_iconst C (i0 := 1) (v := 1) (by decide) (by decide +kernel) rfl ?_
              refine aw_aload_n C 0 1 (j := 0) rfl rfl (by decide +kernel) rfl ?_
              refine aw_get C (k := 6) fc_8 (lc_13 E) rfl (by decide) tb_172 (by decide +kernel) rfl ?_
              obtain ⟨q15, hq15, hf⟩ := ibd hf
              refine aw_callV C (rest := []) (c_Rdr_fail E (1 : Int32) (q1.2.1 13 6) _ q15 hq15) tb_488 yf_36 yi_36 (lc_13 E) [.int (1 : Int32), .int (q1.2.1 13 6)] rfl rfl _ rfl (Nat.le_trans (by decide) hgd) (Nat.le_of_ble_eq_true rfl) (by decide +kernel) rfl ?_
              show AW _ _ _ _ []
              exact aw_vretq C CR0 hgr hgs hf (by decide +kernel)
            · have hf := iff_ w14 hf
              by_cases w16 : q1.1 = 110
              · have hf := ift w16 hf
                refine aw_tin C (tgt := 149) (off := 143) (dflt := 180) (lo := 104) (hi := 122) (offs := #[123, 180, 180, 180, 90, 180, 143, 180, 180, 180, 180, 180, 180, 180, 180, 103, 90, 90, 160]) (len := 90) (by decide +kernel) (by rw [w16]; decide) (by rw [w16]; decide) (by rw [w16]; decide) (by decide) ?_
                refine aw_aload_n C 0 1 (j := 0) rfl rfl (by decide +kernel) rfl ?_
                refine aw_getr C (k := 1) fc_8 (lc_13 E) rfl (by decide) tb_167 (by decide +kernel) rfl ?_
                refine aw_bipush C (i0 := 48) (v := 48) (by decide) (by decide +kernel) rfl ?_
                refine aw_aload_n C 0 1 (j := 0) rfl rfl (by decide +kernel) rfl ?_
                refine aw_get C (k := 10) fc_8 (lc_13 E) rfl (by decide) tb_176 (by decide +kernel) rfl ?_
                obtain ⟨q17, hq17, hf⟩ := ibd hf
                refine aw_callV C (rest := []) (c_Cond_put E (48 : Int32) (q1.2.1 13 10) _ q17 hq17) tb_525 yf_45 yi_45 (lc_17 E) [.int (48 : Int32), .int (q1.2.1 13 10)] rfl rfl _ rfl (Nat.le_trans (by decide) hgd) (Nat.le_of_ble_eq_true rfl) (by decide +kernel) rfl ?_
                show AW _ _ _ _ [.int q17.1]
                refine aw_pop C rfl (by decide +kernel) rfl ?_
                refine aw_goto C (tgt := 196) (off := 33) (by decide +kernel) (by decide) ?_
                refine aw_aload_n C 0 1 (j := 0) rfl rfl (by decide +kernel) rfl ?_
                refine aw_dup C rfl (by decide +kernel) rfl ?_
                refine aw_get C (k := 6) fc_8 (lc_13 E) rfl (by decide) tb_172 (by decide +kernel) rfl ?_
                refine aw_iconst C (i0 := 1) (v := 1) (by decide) (by decide +kernel) rfl ?_
                refine aw_iadd C (by decide +kernel) rfl ?_
                obtain ⟨a18, ha18⟩ : ∃ z, z = ((q17.2.1 13 6) + (1 : Int32)) := ⟨_, rfl⟩
                refine aw_nmi ha18 ?_
                have hf := ilt ha18 hf
                refine aw_put C (k := 6) fc_8 (lc_13 E) rfl (by decide) rfl rfl tb_172 (by decide +kernel) rfl ?_
                exact aw_vretq C CR0 hgr hgs hf (by decide +kernel)
              · have hf := iff_ w16 hf
                by_cases w19 : q1.1 = 111
                · have hf := ift w19 hf
                  refine aw_tin C (tgt := 186) (off := 180) (dflt := 180) (lo := 104) (hi := 122) (offs := #[123, 180, 180, 180, 90, 180, 143, 180, 180, 180, 180, 180, 180, 180, 180, 103, 90, 90, 160]) (len := 90) (by decide +kernel) (by rw [w19]; decide) (by rw [w19]; decide) (by rw [w19]; decide) (by decide) ?_
                  refine aw_aload_n C 0 1 (j := 0) rfl rfl (by decide +kernel) rfl ?_
                  refine aw_iconst C (i0 := 1) (v := 1) (by decide) (by decide +kernel) rfl ?_
                  refine aw_aload_n C 0 1 (j := 0) rfl rfl (by decide +kernel) rfl ?_
                  refine aw_get C (k := 6) fc_8 (lc_13 E) rfl (by decide) tb_172 (by decide +kernel) rfl ?_
                  obtain ⟨q20, hq20, hf⟩ := ibd hf
                  refine aw_callV C (rest := []) (c_Rdr_fail E (1 : Int32) (q1.2.1 13 6) _ q20 hq20) tb_488 yf_36 yi_36 (lc_13 E) [.int (1 : Int32), .int (q1.2.1 13 6)] rfl rfl _ rfl (Nat.le_trans (by decide) hgd) (Nat.le_of_ble_eq_true rfl) (by decide +kernel) rfl ?_
                  show AW _ _ _ _ []
                  exact aw_vretq C CR0 hgr hgs hf (by decide +kernel)
                · have hf := iff_ w19 hf
                  by_cases w21 : q1.1 = 112
                  · have hf := ift w21 hf
                    refine aw_tin C (tgt := 186) (off := 180) (dflt := 180) (lo := 104) (hi := 122) (offs := #[123, 180, 180, 180, 90, 180, 143, 180, 180, 180, 180, 180, 180, 180, 180, 103, 90, 90, 160]) (len := 90) (by decide +kernel) (by rw [w21]; decide) (by rw [w21]; decide) (by rw [w21]; decide) (by decide) ?_
                    refine aw_aload_n C 0 1 (j := 0) rfl rfl (by decide +kernel) rfl ?_
                    refine aw_iconst C (i0 := 1) (v := 1) (by decide) (by decide +kernel) rfl ?_
                    refine aw_aload_n C 0 1 (j := 0) rfl rfl (by decide +kernel) rfl ?_
                    refine aw_get C (k := 6) fc_8 (lc_13 E) rfl (by decide) tb_172 (by decide +kernel) rfl ?_
                    obtain ⟨q22, hq22, hf⟩ := ibd hf
                    refine aw_callV C (rest := []) (c_Rdr_fail E (1 : Int32) (q1.2.1 13 6) _ q22 hq22) tb_488 yf_36 yi_36 (lc_13 E) [.int (1 : Int32), .int (q1.2.1 13 6)] rfl rfl _ rfl (Nat.le_trans (by decide) hgd) (Nat.le_of_ble_eq_true rfl) (by decide +kernel) rfl ?_
                    show AW _ _ _ _ []
                    exact aw_vretq C CR0 hgr hgs hf (by decide +kernel)
                  · have hf := iff_ w21 hf
                    by_cases w23 : q1.1 = 113
                    · have hf := ift w23 hf
                      refine aw_tin C (tgt := 186) (off := 180) (dflt := 180) (lo := 104) (hi := 122) (offs := #[123, 180, 180, 180, 90, 180, 143, 180, 180, 180, 180, 180, 180, 180, 180, 103, 90, 90, 160]) (len := 90) (by decide +kernel) (by rw [w23]; decide) (by rw [w23]; decide) (by rw [w23]; decide) (by decide) ?_
                      refine aw_aload_n C 0 1 (j := 0) rfl rfl (by decide +kernel) rfl ?_
                      refine aw_iconst C (i0 := 1) (v := 1) (by decide) (by decide +kernel) rfl ?_
                      refine aw_aload_n C 0 1 (j := 0) rfl rfl (by decide +kernel) rfl ?_
                      refine aw_get C (k := 6) fc_8 (lc_13 E) rfl (by decide) tb_172 (by decide +kernel) rfl ?_
                      obtain ⟨q24, hq24, hf⟩ := ibd hf
                      refine aw_callV C (rest := []) (c_Rdr_fail E (1 : Int32) (q1.2.1 13 6) _ q24 hq24) tb_488 yf_36 yi_36 (lc_13 E) [.int (1 : Int32), .int (q1.2.1 13 6)] rfl rfl _ rfl (Nat.le_trans (by decide) hgd) (Nat.le_of_ble_eq_true rfl) (by decide +kernel) rfl ?_
                      show AW _ _ _ _ []
                      exact aw_vretq C CR0 hgr hgs hf (by decide +kernel)
                    · have hf := iff_ w23 hf
                      by_cases w25 : q1.1 = 114
                      · have hf := ift w25 hf
                        refine aw_tin C (tgt := 186) (off := 180) (dflt := 180) (lo := 104) (hi := 122) (offs := #[123, 180, 180, 180, 90, 180, 143, 180, 180, 180, 180, 180, 180, 180, 180, 103, 90, 90, 160]) (len := 90) (by decide +kernel) (by rw [w25]; decide) (by rw [w25]; decide) (by rw [w25]; decide) (by decide) ?_
                        refine aw_aload_n C 0 1 (j := 0) rfl rfl (by decide +kernel) rfl ?_
                        refine aw_iconst C (i0 := 1) (v := 1) (by decide) (by decide +kernel) rfl ?_
                        refine aw_aload_n C 0 1 (j := 0) rfl rfl (by decide +kernel) rfl ?_
                        refine aw_get C (k := 6) fc_8 (lc_13 E) rfl (by decide) tb_172 (by decide +kernel) rfl ?_
                        obtain ⟨q26, hq26, hf⟩ := ibd hf
                        refine aw_callV C (rest := []) (c_Rdr_fail E (1 : Int32) (q1.2.1 13 6) _ q26 hq26) tb_488 yf_36 yi_36 (lc_13 E) [.int (1 : Int32), .int (q1.2.1 13 6)] rfl rfl _ rfl (Nat.le_trans (by decide) hgd) (Nat.le_of_ble_eq_true rfl) (by decide +kernel) rfl ?_
                        show AW _ _ _ _ []
                        exact aw_vretq C CR0 hgr hgs hf (by decide +kernel)
                      · have hf := iff_ w25 hf
                        by_cases w27 : q1.1 = 115
                        · have hf := ift w27 hf
                          refine aw_tin C (tgt := 186) (off := 180) (dflt := 180) (lo := 104) (hi := 122) (offs := #[123, 180, 180, 180, 90, 180, 143, 180, 180, 180, 180, 180, 180, 180, 180, 103, 90, 90, 160]) (len := 90) (by decide +kernel) (by rw [w27]; decide) (by rw [w27]; decide) (by rw [w27]; decide) (by decide) ?_
                          refine aw_aload_n C 0 1 (j := 0) rfl rfl (by decide +kernel) rfl ?_
                          refine aw_iconst C (i0 := 1) (v := 1) (by decide) (by decide +kernel) rfl ?_
                          refine aw_aload_n C 0 1 (j := 0) rfl rfl (by decide +kernel) rfl ?_
                          refine aw_get C (k := 6) fc_8 (lc_13 E) rfl (by decide) tb_172 (by decide +kernel) rfl ?_
                          obtain ⟨q28, hq28, hf⟩ := ibd hf
                          refine aw_callV C (rest := []) (c_Rdr_fail E (1 : Int32) (q1.2.1 13 6) _ q28 hq28) tb_488 yf_36 yi_36 (lc_13 E) [.int (1 : Int32), .int (q1.2.1 13 6)] rfl rfl _ rfl (Nat.le_trans (by decide) hgd) (Nat.le_of_ble_eq_true rfl) (by decide +kernel) rfl ?_
                          show AW _ _ _ _ []
                          exact aw_vretq C CR0 hgr hgs hf (by decide +kernel)
                        · have hf := iff_ w27 hf
                          by_cases w29 : q1.1 = 116
                          · have hf := ift w29 hf
                            refine aw_tin C (tgt := 186) (off := 180) (dflt := 180) (lo := 104) (hi := 122) (offs := #[123, 180, 180, 180, 90, 180, 143, 180, 180, 180, 180, 180, 180, 180, 180, 103, 90, 90, 160]) (len := 90) (by decide +kernel) (by rw [w29]; decide) (by rw [w29]; decide) (by rw [w29]; decide) (by decide) ?_
                            refine aw_aload_n C 0 1 (j := 0) rfl rfl (by decide +kernel) rfl ?_
                            refine aw_iconst C (i0 := 1) (v := 1) (by decide) (by decide +kernel) rfl ?_
                            refine aw_aload_n C 0 1 (j := 0) rfl rfl (by decide +kernel) rfl ?_
                            refine aw_get C (k := 6) fc_8 (lc_13 E) rfl (by decide) tb_172 (by decide +kernel) rfl ?_
                            obtain ⟨q30, hq30, hf⟩ := ibd hf
                            refine aw_callV C (rest := []) (c_Rdr_fail E (1 : Int32) (q1.2.1 13 6) _ q30 hq30) tb_488 yf_36 yi_36 (lc_13 E) [.int (1 : Int32), .int (q1.2.1 13 6)] rfl rfl _ rfl (Nat.le_trans (by decide) hgd) (Nat.le_of_ble_eq_true rfl) (by decide +kernel) rfl ?_
                            show AW _ _ _ _ []
                            exact aw_vretq C CR0 hgr hgs hf (by decide +kernel)
                          · have hf := iff_ w29 hf
                            by_cases w31 : q1.1 = 117
                            · have hf := ift w31 hf
                              refine aw_tin C (tgt := 186) (off := 180) (dflt := 180) (lo := 104) (hi := 122) (offs := #[123, 180, 180, 180, 90, 180, 143, 180, 180, 180, 180, 180, 180, 180, 180, 103, 90, 90, 160]) (len := 90) (by decide +kernel) (by rw [w31]; decide) (by rw [w31]; decide) (by rw [w31]; decide) (by decide) ?_
                              refine aw_aload_n C 0 1 (j := 0) rfl rfl (by decide +kernel) rfl ?_
                              refine aw_iconst C (i0 := 1) (v := 1) (by decide) (by decide +kernel) rfl ?_
                              refine aw_aload_n C 0 1 (j := 0) rfl rfl (by decide +kernel) rfl ?_
                              refine aw_get C (k := 6) fc_8 (lc_13 E) rfl (by decide) tb_172 (by decide +kernel) rfl ?_
                              obtain ⟨q32, hq32, hf⟩ := ibd hf
                              refine aw_callV C (rest := []) (c_Rdr_fail E (1 : Int32) (q1.2.1 13 6) _ q32 hq32) tb_488 yf_36 yi_36 (lc_13 E) [.int (1 : Int32), .int (q1.2.1 13 6)] rfl rfl _ rfl (Nat.le_trans (by decide) hgd) (Nat.le_of_ble_eq_true rfl) (by decide +kernel) rfl ?_
                              show AW _ _ _ _ []
                              exact aw_vretq C CR0 hgr hgs hf (by decide +kernel)
                            · have hf := iff_ w31 hf
                              by_cases w33 : q1.1 = 118
                              · have hf := ift w33 hf
                                refine aw_tin C (tgt := 186) (off := 180) (dflt := 180) (lo := 104) (hi := 122) (offs := #[123, 180, 180, 180, 90, 180, 143, 180, 180, 180, 180, 180, 180, 180, 180, 103, 90, 90, 160]) (len := 90) (by decide +kernel) (by rw [w33]; decide) (by rw [w33]; decide) (by rw [w33]; decide) (by decide) ?_
                                refine aw_aload_n C 0 1 (j := 0) rfl rfl (by decide +kernel) rfl ?_
                                refine aw_iconst C (i0 := 1) (v := 1) (by decide) (by decide +kernel) rfl ?_
                                refine aw_aload_n C 0 1 (j := 0) rfl rfl (by decide +kernel) rfl ?_
                                refine aw_get C (k := 6) fc_8 (lc_13 E) rfl (by decide) tb_172 (by decide +kernel) rfl ?_
                                obtain ⟨q34, hq34, hf⟩ := ibd hf
                                refine aw_callV C (rest := []) (c_Rdr_fail E (1 : Int32) (q1.2.1 13 6) _ q34 hq34) tb_488 yf_36 yi_36 (lc_13 E) [.int (1 : Int32), .int (q1.2.1 13 6)] rfl rfl _ rfl (Nat.le_trans (by decide) hgd) (Nat.le_of_ble_eq_true rfl) (by decide +kernel) rfl ?_
                                show AW _ _ _ _ []
                                exact aw_vretq C CR0 hgr hgs hf (by decide +kernel)
                              · have hf := iff_ w33 hf
                                by_cases w35 : q1.1 = 119
                                · have hf := ift w35 hf
                                  refine aw_tin C (tgt := 109) (off := 103) (dflt := 180) (lo := 104) (hi := 122) (offs := #[123, 180, 180, 180, 90, 180, 143, 180, 180, 180, 180, 180, 180, 180, 180, 103, 90, 90, 160]) (len := 90) (by decide +kernel) (by rw [w35]; decide) (by rw [w35]; decide) (by rw [w35]; decide) (by decide) ?_
                                  refine aw_aload_n C 0 1 (j := 0) rfl rfl (by decide +kernel) rfl ?_
                                  refine aw_getr C (k := 1) fc_8 (lc_13 E) rfl (by decide) tb_167 (by decide +kernel) rfl ?_
                                  refine aw_bipush C (i0 := 48) (v := 48) (by decide) (by decide +kernel) rfl ?_
                                  refine aw_aload_n C 0 1 (j := 0) rfl rfl (by decide +kernel) rfl ?_
                                  refine aw_getr C (k := 0) fc_8 (lc_13 E) rfl (by decide) tb_166 (by decide +kernel) rfl ?_
                                  refine aw_get C (k := 1) fc_3 (lc_14 E) rfl (by decide) tb_108 (by decide +kernel) rfl ?_
                                  obtain ⟨q36, hq36, hf⟩ := ibd hf
                                  refine aw_callV C (rest := []) (c_Cond_put E (48 : Int32) (q1.2.1 14 1) _ q36 hq36) tb_525 yf_45 yi_45 (lc_17 E) [.int (48 : Int32), .int (q1.2.1 14 1)] rfl rfl _ rfl (Nat.le_trans (by decide) hgd) (Nat.le_of_ble_eq_true rfl) (by decide +kernel) rfl ?_
                                  show AW _ _ _ _ [.int q36.1]
                                  refine aw_pop C rfl (by decide +kernel) rfl ?_
                                  refine aw_goto C (tgt := 196) (off := 70) (by decide +kernel) (by decide) ?_
                                  refine aw_aload_n C 0 1 (j := 0) rfl rfl (by decide +kernel) rfl ?_
                                  refine aw_dup C rfl (by decide +kernel) rfl ?_
                                  refine aw_get C (k := 6) fc_8 (lc_13 E) rfl (by decide) tb_172 (by decide +kernel) rfl ?_
                                  refine aw_iconst C (i0 := 1) (v := 1) (by decide) (by decide +kernel) rfl ?_
                                  refine aw_iadd C (by decide +kernel) rfl ?_
                                  obtain ⟨a37, ha37⟩ : ∃ z, z = ((q36.2.1 13 6) + (1 : Int32)) := ⟨_, rfl⟩
                                  refine aw_nmi ha37 ?_
                                  have hf := ilt ha37 hf
                                  refine aw_put C (k := 6) fc_8 (lc_13 E) rfl (by decide) rfl rfl tb_172 (by decide +kernel) rfl ?_
                                  exact aw_vretq C CR0 hgr hgs hf (by decide +kernel)
                                · have hf := iff_ w35 hf
                                  by_cases w38 : q1.1 = 120
                                  · have hf := ift w38 hf
                                    refine aw_tin C (tgt := 96) (off := 90) (dflt := 180) (lo := 104) (hi := 122) (offs := #[123, 180, 180, 180, 90, 180, 143, 180, 180, 180, 180, 180, 180, 180, 180, 103, 90, 90, 160]) (len := 90) (by decide +kernel) (by rw [w38]; decide) (by rw [w38]; decide) (by rw [w38]; decide) (by decide) ?_
                                    refine aw_aload_n C 0 1 (j := 0) rfl rfl (by decide +kernel) rfl ?_
                                    refine aw_getr C (k := 1) fc_8 (lc_13 E) rfl (by decide) tb_167 (by decide +kernel) rfl ?_
                                    refine aw_iload_n C 1 0 (j := 1) rfl rfl (by decide +kernel) rfl ?_
                                    refine aw_iconst C (i0 := 0) (v := 0) (by decide) (by decide +kernel) rfl ?_
                                    obtain ⟨q39, hq39, hf⟩ := ibd hf
                                    refine aw_callV C (rest := []) (c_Cond_put E q1.1 (0 : Int32) _ q39 hq39) tb_525 yf_45 yi_45 (lc_17 E) [.int q1.1, .int (0 : Int32)] rfl rfl _ rfl (Nat.le_trans (by decide) hgd) (Nat.le_of_ble_eq_true rfl) (by decide +kernel) rfl ?_
                                    show AW _ _ _ _ [.int q39.1]
                                    refine aw_pop C rfl (by decide +kernel) rfl ?_
                                    refine aw_goto C (tgt := 196) (off := 90) (by decide +kernel) (by decide) ?_
                                    refine aw_aload_n C 0 1 (j := 0) rfl rfl (by decide +kernel) rfl ?_
                                    refine aw_dup C rfl (by decide +kernel) rfl ?_
                                    refine aw_get C (k := 6) fc_8 (lc_13 E) rfl (by decide) tb_172 (by decide +kernel) rfl ?_
                                    refine aw_iconst C (i0 := 1) (v := 1) (by decide) (by decide +kernel) rfl ?_
                                    refine aw_iadd C (by decide +kernel) rfl ?_
                                    obtain ⟨a40, ha40⟩ : ∃ z, z = ((q39.2.1 13 6) + (1 : Int32)) := ⟨_, rfl⟩
                                    refine aw_nmi ha40 ?_
                                    have hf := ilt ha40 hf
                                    refine aw_put C (k := 6) fc_8 (lc_13 E) rfl (by decide) rfl rfl tb_172 (by decide +kernel) rfl ?_
                                    exact aw_vretq C CR0 hgr hgs hf (by decide +kernel)
                                  · have hf := iff_ w38 hf
                                    by_cases w41 : q1.1 = 121
                                    · have hf := ift w41 hf
                                      refine aw_tin C (tgt := 96) (off := 90) (dflt := 180) (lo := 104) (hi := 122) (offs := #[123, 180, 180, 180, 90, 180, 143, 180, 180, 180, 180, 180, 180, 180, 180, 103, 90, 90, 160]) (len := 90) (by decide +kernel) (by rw [w41]; decide) (by rw [w41]; decide) (by rw [w41]; decide) (by decide) ?_
                                      refine aw_aload_n C 0 1 (j := 0) rfl rfl (by decide +kernel) rfl ?_
                                      refine aw_getr C (k := 1) fc_8 (lc_13 E) rfl (by decide) tb_167 (by decide +kernel) rfl ?_
                                      refine aw_iload_n C 1 0 (j := 1) rfl rfl (by decide +kernel) rfl ?_
                                      refine aw_iconst C (i0 := 0) (v := 0) (by decide) (by decide +kernel) rfl ?_
                                      obtain ⟨q42, hq42, hf⟩ := ibd hf
                                      refine aw_callV C (rest := []) (c_Cond_put E q1.1 (0 : Int32) _ q42 hq42) tb_525 yf_45 yi_45 (lc_17 E) [.int q1.1, .int (0 : Int32)] rfl rfl _ rfl (Nat.le_trans (by decide) hgd) (Nat.le_of_ble_eq_true rfl) (by decide +kernel) rfl ?_
                                      show AW _ _ _ _ [.int q42.1]
                                      refine aw_pop C rfl (by decide +kernel) rfl ?_
                                      refine aw_goto C (tgt := 196) (off := 90) (by decide +kernel) (by decide) ?_
                                      refine aw_aload_n C 0 1 (j := 0) rfl rfl (by decide +kernel) rfl ?_
                                      refine aw_dup C rfl (by decide +kernel) rfl ?_
                                      refine aw_get C (k := 6) fc_8 (lc_13 E) rfl (by decide) tb_172 (by decide +kernel) rfl ?_
                                      refine aw_iconst C (i0 := 1) (v := 1) (by decide) (by decide +kernel) rfl ?_
                                      refine aw_iadd C (by decide +kernel) rfl ?_
                                      obtain ⟨a43, ha43⟩ : ∃ z, z = ((q42.2.1 13 6) + (1 : Int32)) := ⟨_, rfl⟩
                                      refine aw_nmi ha43 ?_
                                      have hf := ilt ha43 hf
                                      refine aw_put C (k := 6) fc_8 (lc_13 E) rfl (by decide) rfl rfl tb_172 (by decide +kernel) rfl ?_
                                      exact aw_vretq C CR0 hgr hgs hf (by decide +kernel)
                                    · have hf := iff_ w41 hf
                                      by_cases w44 : q1.1 = 122
                                      · have hf := ift w44 hf
                                        refine aw_tin C (tgt := 166) (off := 160) (dflt := 180) (lo := 104) (hi := 122) (offs := #[123, 180, 180, 180, 90, 180, 143, 180, 180, 180, 180, 180, 180, 180, 180, 103, 90, 90, 160]) (len := 90) (by decide +kernel) (by rw [w44]; decide) (by rw [w44]; decide) (by rw [w44]; decide) (by decide) ?_
                                        refine aw_aload_n C 0 1 (j := 0) rfl rfl (by decide +kernel) rfl ?_
                                        refine aw_getr C (k := 1) fc_8 (lc_13 E) rfl (by decide) tb_167 (by decide +kernel) rfl ?_
                                        refine aw_bipush C (i0 := 48) (v := 48) (by decide) (by decide +kernel) rfl ?_
                                        refine aw_aload_n C 0 1 (j := 0) rfl rfl (by decide +kernel) rfl ?_
                                        refine aw_getr C (k := 0) fc_8 (lc_13 E) rfl (by decide) tb_166 (by decide +kernel) rfl ?_
                                        refine aw_get C (k := 0) fc_3 (lc_14 E) rfl (by decide) tb_104 (by decide +kernel) rfl ?_
                                        obtain ⟨q45, hq45, hf⟩ := ibd hf
                                        refine aw_callV C (rest := []) (c_Cond_put E (48 : Int32) (q1.2.1 14 0) _ q45 hq45) tb_525 yf_45 yi_45 (lc_17 E) [.int (48 : Int32), .int (q1.2.1 14 0)] rfl rfl _ rfl (Nat.le_trans (by decide) hgd) (Nat.le_of_ble_eq_true rfl) (by decide +kernel) rfl ?_
                                        show AW _ _ _ _ [.int q45.1]
                                        refine aw_pop C rfl (by decide +kernel) rfl ?_
                                        refine aw_goto C (tgt := 196) (off := 13) (by decide +kernel) (by decide) ?_
                                        refine aw_aload_n C 0 1 (j := 0) rfl rfl (by decide +kernel) rfl ?_
                                        refine aw_dup C rfl (by decide +kernel) rfl ?_
                                        refine aw_get C (k := 6) fc_8 (lc_13 E) rfl (by decide) tb_172 (by decide +kernel) rfl ?_
                                        refine aw_iconst C (i0 := 1) (v := 1) (by decide) (by decide +kernel) rfl ?_
                                        refine aw_iadd C (by decide +kernel) rfl ?_
                                        obtain ⟨a46, ha46⟩ : ∃ z, z = ((q45.2.1 13 6) + (1 : Int32)) := ⟨_, rfl⟩
                                        refine aw_nmi ha46 ?_
                                        have hf := ilt ha46 hf
                                        refine aw_put C (k := 6) fc_8 (lc_13 E) rfl (by decide) rfl rfl tb_172 (by decide +kernel) rfl ?_
                                        exact aw_vretq C CR0 hgr hgs hf (by decide +kernel)
                                      · have hf := iff_ w44 hf
                                        have zw2 := am_ne w2 (k := 104) (by decide)
                                        have zw5 := am_ne w5 (k := 105) (by decide)
                                        have zw7 := am_ne w7 (k := 106) (by decide)
                                        have zw9 := am_ne w9 (k := 107) (by decide)
                                        have zw11 := am_ne w11 (k := 108) (by decide)
                                        have zw14 := am_ne w14 (k := 109) (by decide)
                                        have zw16 := am_ne w16 (k := 110) (by decide)
                                        have zw19 := am_ne w19 (k := 111) (by decide)
                                        have zw21 := am_ne w21 (k := 112) (by decide)
                                        have zw23 := am_ne w23 (k := 113) (by decide)
                                        have zw25 := am_ne w25 (k := 114) (by decide)
                                        have zw27 := am_ne w27 (k := 115) (by decide)
                                        have zw29 := am_ne w29 (k := 116) (by decide)
                                        have zw31 := am_ne w31 (k := 117) (by decide)
                                        have zw33 := am_ne w33 (k := 118) (by decide)
                                        have zw35 := am_ne w35 (k := 119) (by decide)
                                        have zw38 := am_ne w38 (k := 120) (by decide)
                                        have zw41 := am_ne w41 (k := 121) (by decide)
                                        have zw44 := am_ne w44 (k := 122) (by decide)
                                        refine aw_tout C (tgt := 186) (dflt := 180) (lo := 104) (hi := 122) (offs := #[123, 180, 180, 180, 90, 180, 143, 180, 180, 180, 180, 180, 180, 180, 180, 103, 90, 90, 160]) (len := 90) (by decide +kernel) (by omega) (by decide) ?_
                                        refine aw_aload_n C 0 1 (j := 0) rfl rfl (by decide +kernel) rfl ?_
                                        refine aw_iconst C (i0 := 1) (v := 1) (by decide) (by decide +kernel) rfl ?_
                                        refine aw_aload_n C 0 1 (j := 0) rfl rfl (by decide +kernel) rfl ?_
                                        refine aw_get C (k := 6) fc_8 (lc_13 E) rfl (by decide) tb_172 (by decide +kernel) rfl ?_
                                        obtain ⟨q47, hq47, hf⟩ := ibd hf
                                        refine aw_callV C (rest := []) (c_Rdr_fail E (1 : Int32) (q1.2.1 13 6) _ q47 hq47) tb_488 yf_36 yi_36 (lc_13 E) [.int (1 : Int32), .int (q1.2.1 13 6)] rfl rfl _ rfl (Nat.le_trans (by decide) hgd) (Nat.le_of_ble_eq_true rfl) (by decide +kernel) rfl ?_
                                        show AW _ _ _ _ []
                                        exact aw_vretq C CR0 hgr hgs hf (by decide +kernel)
theorem c_Rdr_readLetter {lay : Ly} (E : LCin lay) (st : Mm) (q : Unit × Mm) (hf : f_Rdr_readLetter st = some q) : Con 1 Y51 prog_10_method_23_code 2 (Option.none) lay (fun ad => [.ref (ad 13)]) st (none) q.2 :=
  am_met yf_51.2.2.2.2.2 (fun ad => Nat.le_of_ble_eq_true rfl) (fun G C CR0 e1 e2 e3 e4 e5 => t_Rdr_readLetter C CR0 (by rw [e1]; exact E) e2 (Nat.le_of_eq e5.symm) e3 e4 st hf)
def b_Rdr_readNumber_61 (v1 : Int32) (st : Mm) : Option (Unit × Mm) :=
  (f_Cond_put (48 : Int32) v1 st).bind (fun q1 => some ((), q1.2))
def b_Rdr_readNumber_45 (v1 : Int32) (st : Mm) : Option (Unit × Mm) :=
  (f_Rdr_seesDigit st).bind (fun q1 => if q1.1 = 0 then (b_Rdr_readNumber_61 v1 q1.2) else ((f_Rdr_fail (2 : Int32) (q1.2.1 13 6) q1.2).bind (fun q3 => b_Rdr_readNumber_61 v1 q3.2)))
def b_Rdr_readNumber_4 (k4 : Int32 → Int32 → Mm → Option (Unit × Mm)) (v1 : Int32) (v2 : Int32) (st : Mm) : Option (Unit × Mm) :=
  if (5 : Int32) ≤ v2 then (b_Rdr_readNumber_45 v1 st) else ((f_Rdr_seesDigit st).bind (fun q2 => if q2.1 = 0 then (b_Rdr_readNumber_45 v1 q2.2) else ((f_Rdr_look q2.2).bind (fun q4 => lt_ ((((10 : Int32) * v1) + q4.1) - (48 : Int32)) (fun a5 => lt_ ((q4.2.1 13 6) + (1 : Int32)) (fun a6 => lt_ (v2 + (1 : Int32)) (fun a7 => k4 a5 a7 (sI q4.2 13 6 a6))))))))
def f_Rdr_readNumber_4 : Nat → Int32 → Int32 → Mm → Option (Unit × Mm)
  | 0 => fun _ _ _ => none
  | n + 1 => b_Rdr_readNumber_4 (f_Rdr_readNumber_4 n)
def f_Rdr_readNumber (st : Mm) : Option (Unit × Mm) :=
  f_Rdr_readNumber_4 1000000 (0 : Int32) (0 : Int32) st
theorem t_Rdr_readNumber_61 {G : Cx} (C : CX G prog_10_method_22_code "PaperStars$Reader") (CR0 : CR G (Option.none)) (E : LCin (gly G)) (hnL : gnL G = 3) (hgd : 1 ≤ gd G) {q : Unit × Mm} (hgr : gr G = none) (hgs : gsf G = q.2) (v1 : Int32) (st : Mm) (hf : b_Rdr_readNumber_61 v1 st = some q) : AW G st 61 [(0, .ref (gad G 13)), (1, .int v1)] [] := by
  unfold b_Rdr_readNumber_61 at hf
  refine aw_aload_n C 0 0 (j := 0) rfl rfl (by decide +kernel) rfl ?_
  refine aw_getr C (k := 1) fc_8 (lc_13 E) rfl (by decide) tb_167 (by decide +kernel) rfl ?_
  refine aw_bipush C (i0 := 48) (v := 48) (by decide) (by decide +kernel) rfl ?_
  refine aw_iload_n C 1 1 (j := 1) rfl rfl (by decide +kernel) rfl ?_
  obtain ⟨q1, hq1, hf⟩ := ibd hf
  refine aw_callV C (rest := []) (c_Cond_put E (48 : Int32) v1 _ q1 hq1) tb_525 yf_45 yi_45 (lc_17 E) [.int (48 : Int32), .int v1] rfl rfl _ rfl (Nat.le_trans (by decide) hgd) (Nat.le_of_ble_eq_true rfl) (by decide +kernel) rfl ?_
  show AW _ _ _ _ [.int q1.1]
  refine aw_pop C rfl (by decide +kernel) rfl ?_
  exact aw_vretq C CR0 hgr hgs hf (by decide +kernel)
theorem t_Rdr_readNumber_45 {G : Cx} (C : CX G prog_10_method_22_code "PaperStars$Reader") (CR0 : CR G (Option.none)) (E : LCin (gly G)) (hnL : gnL G = 3) (hgd : 1 ≤ gd G) {q : Unit × Mm} (hgr : gr G = none) (hgs : gsf G = q.2) (v1 : Int32) (st : Mm) (hf : b_Rdr_readNumber_45 v1 st = some q) : AW G st 45 [(0, .ref (gad G 13)), (1, .int v1)] [] := by
  unfold b_Rdr_readNumber_45 at hf
  refine aw_aload_n C 0 0 (j := 0) rfl rfl (by decide +kernel) rfl ?_
  obtain ⟨q1, hq1, hf⟩ := ibd hf
  refine aw_callV C (rest := []) (c_Rdr_seesDigit E _ q1 hq1) tb_541 yf_49 yi_49 (lc_13 E) [] rfl rfl _ rfl (Nat.le_trans (by decide) hgd) (Nat.le_of_ble_eq_true rfl) (by decide +kernel) rfl ?_
  show AW _ _ _ _ [.int q1.1]
  refine aw_if_eq C (tgt := 61) (off := 12) (by decide +kernel) (by decide) rfl (fun c2 => ?_) (fun c2 => ?_)
  · have hf := ift c2 hf
    exact t_Rdr_readNumber_61 C CR0 E hnL hgd hgr hgs v1 _ hf
  · have hf := iff_ c2 hf
    refine aw_aload_n C 0 0 (j := 0) rfl rfl (by decide +kernel) rfl ?_
    refine aw_iconst C (i0 := 2) (v := 2) (by decide) (by decide +kernel) rfl ?_
    refine aw_aload_n C 0 0 (j := 0) rfl rfl (by decide +kernel) rfl ?_
    refine aw_get C (k := 6) fc_8 (lc_13 E) rfl (by decide) tb_172 (by decide +kernel) rfl ?_
    obtain ⟨q3, hq3, hf⟩ := ibd hf
    refine aw_callV C (rest := []) (c_Rdr_fail E (2 : Int32) (q1.2.1 13 6) _ q3 hq3) tb_488 yf_36 yi_36 (lc_13 E) [.int (2 : Int32), .int (q1.2.1 13 6)] rfl rfl _ rfl (Nat.le_trans (by decide) hgd) (Nat.le_of_ble_eq_true rfl) (by decide +kernel) rfl ?_
    show AW _ _ _ _ []
    exact t_Rdr_readNumber_61 C CR0 E hnL hgd hgr hgs v1 _ hf
theorem t_Rdr_readNumber_4 {G : Cx} (C : CX G prog_10_method_22_code "PaperStars$Reader") (CR0 : CR G (Option.none)) (E : LCin (gly G)) (hnL : gnL G = 3) (hgd : 1 ≤ gd G) {q : Unit × Mm} (hgr : gr G = none) (hgs : gsf G = q.2) (k4 : Int32 → Int32 → Mm → Option (Unit × Mm)) (hk4 : ∀ (v1 : Int32) (v2 : Int32) (st : Mm), k4 v1 v2 st = some q → AW G st 4 [(0, .ref (gad G 13)), (1, .int v1), (2, .int v2)] []) (v1 : Int32) (v2 : Int32) (st : Mm) (hf : b_Rdr_readNumber_4 k4 v1 v2 st = some q) : AW G st 4 [(0, .ref (gad G 13)), (1, .int v1), (2, .int v2)] [] := by
  unfold b_Rdr_readNumber_4 at hf
  refine aw_iload_n C 2 2 (j := 2) rfl rfl (by decide +kernel) rfl ?_
  refine aw_iconst C (i0 := 5) (v := 5) (by decide) (by decide +kernel) rfl ?_
  refine aw_icmp_ge C (tgt := 45) (off := 39) (by decide +kernel) (by decide) rfl (fun c1 => ?_) (fun c1 => ?_)
  · have hf := ift c1 hf
    refine aw_sub [(0, .ref (gad G 13)), (1, .int v1)] [0, 1] rfl ?_
    exact t_Rdr_readNumber_45 C CR0 E hnL hgd hgr hgs v1 _ hf
  · have hf := iff_ c1 hf
    refine aw_aload_n C 0 0 (j := 0) rfl rfl (by decide +kernel) rfl ?_
    obtain ⟨q2, hq2, hf⟩ := ibd hf
    refine aw_callV C (rest := []) (c_Rdr_seesDigit E _ q2 hq2) tb_541 yf_49 yi_49 (lc_13 E) [] rfl rfl _ rfl (Nat.le_trans (by decide) hgd) (Nat.le_of_ble_eq_true rfl) (by decide +kernel) rfl ?_
    show AW _ _ _ _ [.int q2.1]
    refine aw_if_eq C (tgt := 45) (off := 32) (by decide +kernel) (by decide) rfl (fun c3 => ?_) (fun c3 => ?_)
    · have hf := ift c3 hf
      refine aw_sub [(0, .ref (gad G 13)), (1, .int v1)] [0, 1] rfl ?_
      exact t_Rdr_readNumber_45 C CR0 E hnL hgd hgr hgs v1 _ hf
    · have hf := iff_ c3 hf
      refine aw_bipush C (i0 := 10) (v := 10) (by decide) (by decide +kernel) rfl ?_
      refine aw_iload_n C 1 1 (j := 1) rfl rfl (by decide +kernel) rfl ?_
      refine aw_imul C (by decide +kernel) rfl ?_
      refine aw_aload_n C 0 0 (j := 0) rfl rfl (by decide +kernel) rfl ?_
      obtain ⟨q4, hq4, hf⟩ := ibd hf
      refine aw_callV C (rest := [.int ((10 : Int32) * v1)]) (c_Rdr_look E _ q4 hq4) tb_484 yf_35 yi_35 (lc_13 E) [] rfl rfl _ rfl (Nat.le_trans (by decide) hgd) (Nat.le_of_ble_eq_true rfl) (by decide +kernel) rfl ?_
      show AW _ _ _ _ [.int q4.1, .int ((10 : Int32) * v1)]
      refine aw_iadd C (by decide +kernel) rfl ?_
      refine aw_bipush C (i0 := 48) (v := 48) (by decide) (by decide +kernel) rfl ?_
      refine aw_isub C (by decide +kernel) rfl ?_
      obtain ⟨a5, ha5⟩ : ∃ z, z = ((((10 : Int32) * v1) + q4.1) - (48 : Int32)) := ⟨_, rfl⟩
      refine aw_nmi ha5 ?_
      have hf := ilt ha5 hf
      refine aw_istore_n C [(1, .int a5), (0, .ref (gad G 13)), (2, .int v2)] (j := 1) rfl (by rw [hnL]; decide) rfl (by decide +kernel) rfl ?_
      refine aw_aload_n C 0 1 (j := 0) rfl rfl (by decide +kernel) rfl ?_
      refine aw_dup C rfl (by decide +kernel) rfl ?_
      refine aw_get C (k := 6) fc_8 (lc_13 E) rfl (by decide) tb_172 (by decide +kernel) rfl ?_
      refine aw_iconst C (i0 := 1) (v := 1) (by decide) (by decide +kernel) rfl ?_
      refine aw_iadd C (by decide +kernel) rfl ?_
      obtain ⟨a6, ha6⟩ : ∃ z, z = ((q4.2.1 13 6) + (1 : Int32)) := ⟨_, rfl⟩
      refine aw_nmi ha6 ?_
      have hf := ilt ha6 hf
      refine aw_put C (k := 6) fc_8 (lc_13 E) rfl (by decide) rfl rfl tb_172 (by decide +kernel) rfl ?_
      obtain ⟨a7, ha7⟩ : ∃ z, z = (v2 + (1 : Int32)) := ⟨_, rfl⟩
      have hf := ilt ha7 hf
      refine aw_iinc C [(2, .int a7), (1, .int a5), (0, .ref (gad G 13))] 2 (n := 1) rfl (by rw [ha7]; rfl) (by rw [hnL]; decide) rfl (by decide +kernel) rfl ?_
      refine aw_goto C (tgt := 4) (off := -38) (by decide +kernel) (by decide) ?_
      refine aw_sub [(0, .ref (gad G 13)), (1, .int a5), (2, .int a7)] [2, 1, 0] rfl ?_
      exact hk4 a5 a7 _ hf
theorem u_Rdr_readNumber_4 {G : Cx} (C : CX G prog_10_method_22_code "PaperStars$Reader") (CR0 : CR G (Option.none)) (E : LCin (gly G)) (hnL : gnL G = 3) (hgd : 1 ≤ gd G) {q : Unit × Mm} (hgr : gr G = none) (hgs : gsf G = q.2) : ∀ (n : Nat) (v1 : Int32) (v2 : Int32) (st : Mm), f_Rdr_readNumber_4 n v1 v2 st = some q → AW G st 4 [(0, .ref (gad G 13)), (1, .int v1), (2, .int v2)] [] := by
  intro n
  induction n with
  | zero => intro v1 v2 st hf; cases hf
  | succ n ih => intro v1 v2 st hf; exact t_Rdr_readNumber_4 C CR0 E hnL hgd hgr hgs (f_Rdr_readNumber_4 n) ih v1 v2 st hf
theorem t_Rdr_readNumber {G : Cx} (C : CX G prog_10_method_22_code "PaperStars$Reader") (CR0 : CR G (Option.none)) (E : LCin (gly G)) (hnL : gnL G = 3) (hgd : 1 ≤ gd G) {q : Unit × Mm} (hgr : gr G = none) (hgs : gsf G = q.2) (st : Mm) (hf : f_Rdr_readNumber st = some q) : AW G st 0 [(0, .ref (gad G 13))] [] := by
  unfold f_Rdr_readNumber at hf
  refine aw_iconst C (i0 := 0) (v := 0) (by decide) (by decide +kernel) rfl ?_
  refine aw_istore_n C [(1, .int (0 : Int32)), (0, .ref (gad G 13))] (j := 1) rfl (by rw [hnL]; decide) rfl (by decide +kernel) rfl ?_
  refine aw_iconst C (i0 := 0) (v := 0) (by decide) (by decide +kernel) rfl ?_
  refine aw_istore_n C [(2, .int (0 : Int32)), (1, .int (0 : Int32)), (0, .ref (gad G 13))] (j := 2) rfl (by rw [hnL]; decide) rfl (by decide +kernel) rfl ?_
  refine aw_sub [(0, .ref (gad G 13)), (1, .int (0 : Int32)), (2, .int (0 : Int32))] [2, 1, 0] rfl ?_
  exact u_Rdr_readNumber_4 C CR0 E hnL hgd hgr hgs _ (0 : Int32) (0 : Int32) _ hf
theorem c_Rdr_readNumber {lay : Ly} (E : LCin lay) (st : Mm) (q : Unit × Mm) (hf : f_Rdr_readNumber st = some q) : Con 1 Y50 prog_10_method_22_code 3 (Option.none) lay (fun ad => [.ref (ad 13)]) st (none) q.2 :=
  am_met yf_50.2.2.2.2.2 (fun ad => Nat.le_of_ble_eq_true rfl) (fun G C CR0 e1 e2 e3 e4 e5 => t_Rdr_readNumber C CR0 (by rw [e1]; exact E) e2 (Nat.le_of_eq e5.symm) e3 e4 st hf)
def f_Rdr_readFactor (r_readCondition : Int32 → Mm → Option (Unit × Mm)) (r_readPart : Int32 → Mm → Option (Unit × Mm)) (r_readPiece : Int32 → Mm → Option (Unit × Mm)) (r_readSum : Int32 → Mm → Option (Unit × Mm)) (r_readTerm : Int32 → Mm → Option (Unit × Mm)) (r_readFactor : Int32 → Mm → Option (Unit × Mm)) (v1 : Int32) (st : Mm) : Option (Unit × Mm) :=
  if (st.1 13 7) = 0 then ((f_Rdr_look st).bind (fun q2 => if q2.1 = (91 : Int32) then ((f_Rdr_mayOpen v1 q2.2).bind (fun q4 => if q4.1 = 0 then (some ((), q4.2)) else (lt_ ((q4.2.1 13 6) + (1 : Int32)) (fun a6 => (r_readSum (v1 + (1 : Int32)) (sI q4.2 13 6 a6)).bind (fun q7 => (f_Rdr_take (93 : Int32) q7.2).bind (fun q8 => some ((), q8.2))))))) else ((f_Rdr_seesDigit q2.2).bind (fun q9 => if q9.1 = 0 then ((f_Rdr_readLetter q9.2).bind (fun q11 => some ((), q11.2))) else ((f_Rdr_readNumber q9.2).bind (fun q12 => some ((), q12.2))))))) else (some ((), st))
theorem t_Rdr_readFactor {G : Cx} (C : CX G prog_10_method_21_code "PaperStars$Reader") (CR0 : CR G (Option.none)) (r_readCondition : Int32 → Mm → Option (Unit × Mm)) (r_readPart : Int32 → Mm → Option (Unit × Mm)) (r_readPiece : Int32 → Mm → Option (Unit × Mm)) (r_readSum : Int32 → Mm → Option (Unit × Mm)) (r_readTerm : Int32 → Mm → Option (Unit × Mm)) (r_readFactor : Int32 → Mm → Option (Unit × Mm)) (E : LCin (gly G)) (d0 : Nat) (hd0 : d0 + 1 ≤ gd G) (hr_readCondition : ∀ (v1 : Int32) (st : Mm) (q : Unit × Mm), r_readCondition v1 st = some q → Con d0 Y41 prog_10_method_15_code 4 (Option.none) (gly G) (fun ad => [.ref (ad 13), .int v1]) st (none) q.2) (hr_readPart : ∀ (v1 : Int32) (st : Mm) (q : Unit × Mm), r_readPart v1 st = some q → Con d0 Y42 prog_10_method_16_code 4 (Option.none) (gly G) (fun ad => [.ref (ad 13), .int v1]) st (none) q.2) (hr_readPiece : ∀ (v1 : Int32) (st : Mm) (q : Unit × Mm), r_readPiece v1 st = some q → Con d0 Y43 prog_10_method_17_code 4 (Option.none) (gly G) (fun ad => [.ref (ad 13), .int v1]) st (none) q.2) (hr_readSum : ∀ (v1 : Int32) (st : Mm) (q : Unit × Mm), r_readSum v1 st = some q → Con d0 Y46 prog_10_method_19_code 4 (Option.none) (gly G) (fun ad => [.ref (ad 13), .int v1]) st (none) q.2) (hr_readTerm : ∀ (v1 : Int32) (st : Mm) (q : Unit × Mm), r_readTerm v1 st = some q → Con d0 Y47 prog_10_method_20_code 4 (Option.none) (gly G) (fun ad => [.ref (ad 13), .int v1]) st (none) q.2) (hr_readFactor : ∀ (v1 : Int32) (st : Mm) (q : Unit × Mm), r_readFactor v1 st = some q → Con d0 Y48 prog_10_method_21_code 2 (Option.none) (gly G) (fun ad => [.ref (ad 13), .int v1]) st (none) q.2) (hnL : gnL G = 2) (hgd : 2 ≤ gd G) {q : Unit × Mm} (hgr : gr G = none) (hgs : gsf G = q.2) (v1 : Int32) (st : Mm) (hf : f_Rdr_readFactor r_readCondition r_readPart r_readPiece r_readSum r_readTerm r_readFactor v1 st = some q) : AW G st 0 [(0, .ref (gad G 13)), (1, .int v1)] [] := by
  unfold f_Rdr_readFactor at hf
  refine aw_aload_n C 0 0 (j := 0) rfl rfl (by decide +kernel) rfl ?_
  refine aw_get C (k := 7) fc_8 (lc_13 E) rfl (by decide) tb_173 (by decide +kernel) rfl ?_
  refine aw_if_eq C (tgt := 8) (off := 4) (by decide +kernel) (by decide) rfl (fun c1 => ?_) (fun c1 => ?_)
  · have hf := ift c1 hf
    refine aw_aload_n C 0 0 (j := 0) rfl rfl (by decide +kernel) rfl ?_
    obtain ⟨q2, hq2, hf⟩ := ibd hf
    refine aw_callV C (rest := []) (c_Rdr_look E _ q2 hq2) tb_484 yf_35 yi_35 (lc_13 E) [] rfl rfl _ rfl (Nat.le_trans (by decide) hgd) (Nat.le_of_ble_eq_true rfl) (by decide +kernel) rfl ?_
    show AW _ _ _ _ [.int q2.1]
    refine aw_bipush C (i0 := 91) (v := 91) (by decide) (by decide +kernel) rfl ?_
    refine aw_icmp_ne C (tgt := 51) (off := 37) (by decide +kernel) (by decide) rfl (fun c3 => ?_) (fun c3 => ?_)
    · have hf := ift c3 hf
      refine aw_aload_n C 0 0 (j := 0) rfl rfl (by decide +kernel) rfl ?_
      refine aw_iload_n C 1 1 (j := 1) rfl rfl (by decide +kernel) rfl ?_
      obtain ⟨q4, hq4, hf⟩ := ibd hf
      refine aw_callV C (rest := []) (c_Rdr_mayOpen E v1 _ q4 hq4) tb_521 yf_44 yi_44 (lc_13 E) [.int v1] rfl rfl _ rfl (Nat.le_trans (by decide) hgd) (Nat.le_of_ble_eq_true rfl) (by decide +kernel) rfl ?_
      show AW _ _ _ _ [.int q4.1]
      refine aw_if_eq C (tgt := 69) (off := 47) (by decide +kernel) (by decide) rfl (fun c5 => ?_) (fun c5 => ?_)
      · have hf := ift c5 hf
        exact aw_vretq C CR0 hgr hgs hf (by decide +kernel)
      · have hf := iff_ c5 hf
        refine aw_aload_n C 0 0 (j := 0) rfl rfl (by decide +kernel) rfl ?_
        refine aw_dup C rfl (by decide +kernel) rfl ?_
        refine aw_get C (k := 6) fc_8 (lc_13 E) rfl (by decide) tb_172 (by decide +kernel) rfl ?_
        refine aw_iconst C (i0 := 1) (v := 1) (by decide) (by decide +kernel) rfl ?_
        refine aw_iadd C (by decide +kernel) rfl ?_
        obtain ⟨a6, ha6⟩ : ∃ z, z = ((q4.2.1 13 6) + (1 : Int32)) := ⟨_, rfl⟩
        refine aw_nmi ha6 ?_
        have hf := ilt ha6 hf
        refine aw_put C (k := 6) fc_8 (lc_13 E) rfl (by decide) rfl rfl tb_172 (by decide +kernel) rfl ?_
        refine aw_aload_n C 0 0 (j := 0) rfl rfl (by decide +kernel) rfl ?_
        refine aw_iload_n C 1 1 (j := 1) rfl rfl (by decide +kernel) rfl ?_
        refine aw_iconst C (i0 := 1) (v := 1) (by decide) (by decide +kernel) rfl ?_
        refine aw_iadd C (by decide +kernel) rfl ?_
        obtain ⟨q7, hq7, hf⟩ := ibd hf
        refine aw_callV C (rest := []) (hr_readSum (v1 + (1 : Int32)) _ q7 hq7) tb_529 yf_46 yi_46 (lc_13 E) [.int (v1 + (1 : Int32))] rfl rfl _ rfl hd0 (Nat.le_of_ble_eq_true rfl) (by decide +kernel) rfl ?_
        show AW _ _ _ _ []
        refine aw_aload_n C 0 0 (j := 0) rfl rfl (by decide +kernel) rfl ?_
        refine aw_bipush C (i0 := 93) (v := 93) (by decide) (by decide +kernel) rfl ?_
        obtain ⟨q8, hq8, hf⟩ := ibd hf
        refine aw_callV C (rest := []) (c_Rdr_take E (93 : Int32) _ q8 hq8) tb_501 yf_39 yi_39 (lc_13 E) [.int (93 : Int32)] rfl rfl _ rfl (Nat.le_trans (by decide) hgd) (Nat.le_of_ble_eq_true rfl) (by decide +kernel) rfl ?_
        show AW _ _ _ _ []
        refine aw_goto C (tgt := 69) (off := 21) (by decide +kernel) (by decide) ?_
        exact aw_vretq C CR0 hgr hgs hf (by decide +kernel)
    · have hf := iff_ c3 hf
      refine aw_aload_n C 0 0 (j := 0) rfl rfl (by decide +kernel) rfl ?_
      obtain ⟨q9, hq9, hf⟩ := ibd hf
      refine aw_callV C (rest := []) (c_Rdr_seesDigit E _ q9 hq9) tb_541 yf_49 yi_49 (lc_13 E) [] rfl rfl _ rfl (Nat.le_trans (by decide) hgd) (Nat.le_of_ble_eq_true rfl) (by decide +kernel) rfl ?_
      show AW _ _ _ _ [.int q9.1]
      refine aw_if_eq C (tgt := 65) (off := 10) (by decide +kernel) (by decide) rfl (fun c10 => ?_) (fun c10 => ?_)
      · have hf := ift c10 hf
        refine aw_aload_n C 0 0 (j := 0) rfl rfl (by decide +kernel) rfl ?_
        obtain ⟨q11, hq11, hf⟩ := ibd hf
        refine aw_callV C (rest := []) (c_Rdr_readLetter E _ q11 hq11) tb_549 yf_51 yi_51 (lc_13 E) [] rfl rfl _ rfl (Nat.le_trans (by decide) hgd) (Nat.le_of_ble_eq_true rfl) (by decide +kernel) rfl ?_
        show AW _ _ _ _ []
        exact aw_vretq C CR0 hgr hgs hf (by decide +kernel)
      · have hf := iff_ c10 hf
        refine aw_aload_n C 0 0 (j := 0) rfl rfl (by decide +kernel) rfl ?_
        obtain ⟨q12, hq12, hf⟩ := ibd hf
        refine aw_callV C (rest := []) (c_Rdr_readNumber E _ q12 hq12) tb_545 yf_50 yi_50 (lc_13 E) [] rfl rfl _ rfl (Nat.le_trans (by decide) hgd) (Nat.le_of_ble_eq_true rfl) (by decide +kernel) rfl ?_
        show AW _ _ _ _ []
        refine aw_goto C (tgt := 69) (off := 7) (by decide +kernel) (by decide) ?_
        exact aw_vretq C CR0 hgr hgs hf (by decide +kernel)
  · have hf := iff_ c1 hf
    exact aw_vretq C CR0 hgr hgs hf (by decide +kernel)
theorem g_Rdr_readFactor {lay : Ly} (r_readCondition : Int32 → Mm → Option (Unit × Mm)) (r_readPart : Int32 → Mm → Option (Unit × Mm)) (r_readPiece : Int32 → Mm → Option (Unit × Mm)) (r_readSum : Int32 → Mm → Option (Unit × Mm)) (r_readTerm : Int32 → Mm → Option (Unit × Mm)) (r_readFactor : Int32 → Mm → Option (Unit × Mm)) (E : LCin lay) (d0 : Nat) (hr_readCondition : ∀ (v1 : Int32) (st : Mm) (q : Unit × Mm), r_readCondition v1 st = some q → Con d0 Y41 prog_10_method_15_code 4 (Option.none) lay (fun ad => [.ref (ad 13), .int v1]) st (none) q.2) (hr_readPart : ∀ (v1 : Int32) (st : Mm) (q : Unit × Mm), r_readPart v1 st = some q → Con d0 Y42 prog_10_method_16_code 4 (Option.none) lay (fun ad => [.ref (ad 13), .int v1]) st (none) q.2) (hr_readPiece : ∀ (v1 : Int32) (st : Mm) (q : Unit × Mm), r_readPiece v1 st = some q → Con d0 Y43 prog_10_method_17_code 4 (Option.none) lay (fun ad => [.ref (ad 13), .int v1]) st (none) q.2) (hr_readSum : ∀ (v1 : Int32) (st : Mm) (q : Unit × Mm), r_readSum v1 st = some q → Con d0 Y46 prog_10_method_19_code 4 (Option.none) lay (fun ad => [.ref (ad 13), .int v1]) st (none) q.2) (hr_readTerm : ∀ (v1 : Int32) (st : Mm) (q : Unit × Mm), r_readTerm v1 st = some q → Con d0 Y47 prog_10_method_20_code 4 (Option.none) lay (fun ad => [.ref (ad 13), .int v1]) st (none) q.2) (hr_readFactor : ∀ (v1 : Int32) (st : Mm) (q : Unit × Mm), r_readFactor v1 st = some q → Con d0 Y48 prog_10_method_21_code 2 (Option.none) lay (fun ad => [.ref (ad 13), .int v1]) st (none) q.2) (hB : 2 ≤ d0 + 1) (v1 : Int32) (st : Mm) (q : Unit × Mm) (hf : f_Rdr_readFactor r_readCondition r_readPart r_readPiece r_readSum r_readTerm r_readFactor v1 st = some q) : Con (d0 + 1) Y48 prog_10_method_21_code 2 (Option.none) lay (fun ad => [.ref (ad 13), .int v1]) st (none) q.2 :=
  am_met yf_48.2.2.2.2.2 (fun ad => Nat.le_of_ble_eq_true rfl) (fun G C CR0 e1 e2 e3 e4 e5 => t_Rdr_readFactor C CR0 r_readCondition r_readPart r_readPiece r_readSum r_readTerm r_readFactor (by rw [e1]; exact E) d0 (by rw [e5]; exact Nat.le_refl _) (by rw [e1]; exact hr_readCondition) (by rw [e1]; exact hr_readPart) (by rw [e1]; exact hr_readPiece) (by rw [e1]; exact hr_readSum) (by rw [e1]; exact hr_readTerm) (by rw [e1]; exact hr_readFactor) e2 (by rw [e5]; exact hB) e3 e4 v1 st hf)
def b_Rdr_readTerm_45 (r_readCondition : Int32 → Mm → Option (Unit × Mm)) (r_readPart : Int32 → Mm → Option (Unit × Mm)) (r_readPiece : Int32 → Mm → Option (Unit × Mm)) (r_readSum : Int32 → Mm → Option (Unit × Mm)) (r_readTerm : Int32 → Mm → Option (Unit × Mm)) (r_readFactor : Int32 → Mm → Option (Unit × Mm)) (k7 : Int32 → Int32 → Mm → Option (Unit × Mm)) (v1 : Int32) (v2 : Int32) (v3 : Int32) (st : Mm) : Option (Unit × Mm) :=
  lt_ ((st.1 13 6) + (1 : Int32)) (fun a1 => (r_readFactor v1 (sI st 13 6 a1)).bind (fun q2 => (f_Cond_put v3 (0 : Int32) q2.2).bind (fun q3 => lt_ (v2 + (1 : Int32)) (fun a4 => k7 v1 a4 q3.2))))
def b_Rdr_readTerm_7 (r_readCondition : Int32 → Mm → Option (Unit × Mm)) (r_readPart : Int32 → Mm → Option (Unit × Mm)) (r_readPiece : Int32 → Mm → Option (Unit × Mm)) (r_readSum : Int32 → Mm → Option (Unit × Mm)) (r_readTerm : Int32 → Mm → Option (Unit × Mm)) (r_readFactor : Int32 → Mm → Option (Unit × Mm)) (k7 : Int32 → Int32 → Mm → Option (Unit × Mm)) (v1 : Int32) (v2 : Int32) (st : Mm) : Option (Unit × Mm) :=
  if (160 : Int32) ≤ v2 then (some ((), st)) else (if (st.1 13 7) = 0 then ((f_Rdr_look st).bind (fun q3 => if q3.1 = (42 : Int32) then (b_Rdr_readTerm_45 r_readCondition r_readPart r_readPiece r_readSum r_readTerm r_readFactor k7 v1 v2 q3.1 q3.2) else (if q3.1 = (47 : Int32) then (b_Rdr_readTerm_45 r_readCondition r_readPart r_readPiece r_readSum r_readTerm r_readFactor k7 v1 v2 q3.1 q3.2) else (if q3.1 = (37 : Int32) then (b_Rdr_readTerm_45 r_readCondition r_readPart r_readPiece r_readSum r_readTerm r_readFactor k7 v1 v2 q3.1 q3.2) else (some ((), q3.2)))))) else (some ((), st)))
def f_Rdr_readTerm_7 (r_readCondition : Int32 → Mm → Option (Unit × Mm)) (r_readPart : Int32 → Mm → Option (Unit × Mm)) (r_readPiece : Int32 → Mm → Option (Unit × Mm)) (r_readSum : Int32 → Mm → Option (Unit × Mm)) (r_readTerm : Int32 → Mm → Option (Unit × Mm)) (r_readFactor : Int32 → Mm → Option (Unit × Mm)) : Nat → Int32 → Int32 → Mm → Option (Unit × Mm)
  | 0 => fun _ _ _ => none
  | n + 1 => b_Rdr_readTerm_7 r_readCondition r_readPart r_readPiece r_readSum r_readTerm r_readFactor (f_Rdr_readTerm_7 r_readCondition r_readPart r_readPiece r_readSum r_readTerm r_readFactor n)
def f_Rdr_readTerm (r_readCondition : Int32 → Mm → Option (Unit × Mm)) (r_readPart : Int32 → Mm → Option (Unit × Mm)) (r_readPiece : Int32 → Mm → Option (Unit × Mm)) (r_readSum : Int32 → Mm → Option (Unit × Mm)) (r_readTerm : Int32 → Mm → Option (Unit × Mm)) (r_readFactor : Int32 → Mm → Option (Unit × Mm)) (v1 : Int32) (st : Mm) : Option (Unit × Mm) :=
  (r_readFactor v1 st).bind (fun q1 => f_Rdr_readTerm_7 r_readCondition r_readPart r_readPiece r_readSum r_readTerm r_readFactor 1000000 v1 (0 : Int32) q1.2)
theorem t_Rdr_readTerm_45 {G : Cx} (C : CX G prog_10_method_20_code "PaperStars$Reader") (CR0 : CR G (Option.none)) (r_readCondition : Int32 → Mm → Option (Unit × Mm)) (r_readPart : Int32 → Mm → Option (Unit × Mm)) (r_readPiece : Int32 → Mm → Option (Unit × Mm)) (r_readSum : Int32 → Mm → Option (Unit × Mm)) (r_readTerm : Int32 → Mm → Option (Unit × Mm)) (r_readFactor : Int32 → Mm → Option (Unit × Mm)) (E : LCin (gly G)) (d0 : Nat) (hd0 : d0 + 1 ≤ gd G) (hr_readCondition : ∀ (v1 : Int32) (st : Mm) (q : Unit × Mm), r_readCondition v1 st = some q → Con d0 Y41 prog_10_method_15_code 4 (Option.none) (gly G) (fun ad => [.ref (ad 13), .int v1]) st (none) q.2) (hr_readPart : ∀ (v1 : Int32) (st : Mm) (q : Unit × Mm), r_readPart v1 st = some q → Con d0 Y42 prog_10_method_16_code 4 (Option.none) (gly G) (fun ad => [.ref (ad 13), .int v1]) st (none) q.2) (hr_readPiece : ∀ (v1 : Int32) (st : Mm) (q : Unit × Mm), r_readPiece v1 st = some q → Con d0 Y43 prog_10_method_17_code 4 (Option.none) (gly G) (fun ad => [.ref (ad 13), .int v1]) st (none) q.2) (hr_readSum : ∀ (v1 : Int32) (st : Mm) (q : Unit × Mm), r_readSum v1 st = some q → Con d0 Y46 prog_10_method_19_code 4 (Option.none) (gly G) (fun ad => [.ref (ad 13), .int v1]) st (none) q.2) (hr_readTerm : ∀ (v1 : Int32) (st : Mm) (q : Unit × Mm), r_readTerm v1 st = some q → Con d0 Y47 prog_10_method_20_code 4 (Option.none) (gly G) (fun ad => [.ref (ad 13), .int v1]) st (none) q.2) (hr_readFactor : ∀ (v1 : Int32) (st : Mm) (q : Unit × Mm), r_readFactor v1 st = some q → Con d0 Y48 prog_10_method_21_code 2 (Option.none) (gly G) (fun ad => [.ref (ad 13), .int v1]) st (none) q.2) (hnL : gnL G = 4) (hgd : 2 ≤ gd G) {q : Unit × Mm} (hgr : gr G = none) (hgs : gsf G = q.2) (k7 : Int32 → Int32 → Mm → Option (Unit × Mm)) (hk7 : ∀ (v1 : Int32) (v2 : Int32) (st : Mm), k7 v1 v2 st = some q → AW G st 7 [(0, .ref (gad G 13)), (1, .int v1), (2, .int v2)] []) (v1 : Int32) (v2 : Int32) (v3 : Int32) (st : Mm) (hf : b_Rdr_readTerm_45 r_readCondition r_readPart r_readPiece r_readSum r_readTerm r_readFactor k7 v1 v2 v3 st = some q) : AW G st 45 [(0, .ref (gad G 13)), (1, .int v1), (2, .int v2), (3, .int v3)] [] := by
  unfold b_Rdr_readTerm_45 at hf
  refine aw_aload_n C 0 0 (j := 0) rfl rfl (by decide +kernel) rfl ?_
  refine aw_dup C rfl (by decide +kernel) rfl ?_
  refine aw_get C (k := 6) fc_8 (lc_13 E) rfl (by decide) tb_172 (by decide +kernel) rfl ?_
  refine aw_iconst C (i0 := 1) (v := 1) (by decide) (by decide +kernel) rfl ?_
  refine aw_iadd C (by decide +kernel) rfl ?_
  obtain ⟨a1, ha1⟩ : ∃ z, z = ((st.1 13 6) + (1 : Int32)) := ⟨_, rfl⟩
  refine aw_nmi ha1 ?_
  have hf := ilt ha1 hf
  refine aw_put C (k := 6) fc_8 (lc_13 E) rfl (by decide) rfl rfl tb_172 (by decide +kernel) rfl ?_
  refine aw_aload_n C 0 0 (j := 0) rfl rfl (by decide +kernel) rfl ?_
  refine aw_iload_n C 1 1 (j := 1) rfl rfl (by decide +kernel) rfl ?_
  obtain ⟨q2, hq2, hf⟩ := ibd hf
  refine aw_callV C (rest := []) (hr_readFactor v1 _ q2 hq2) tb_537 yf_48 yi_48 (lc_13 E) [.int v1] rfl rfl _ rfl hd0 (Nat.le_of_ble_eq_true rfl) (by decide +kernel) rfl ?_
  show AW _ _ _ _ []
  refine aw_aload_n C 0 0 (j := 0) rfl rfl (by decide +kernel) rfl ?_
  refine aw_getr C (k := 1) fc_8 (lc_13 E) rfl (by decide) tb_167 (by decide +kernel) rfl ?_
  refine aw_iload_n C 3 3 (j := 3) rfl rfl (by decide +kernel) rfl ?_
  refine aw_iconst C (i0 := 0) (v := 0) (by decide) (by decide +kernel) rfl ?_
  obtain ⟨q3, hq3, hf⟩ := ibd hf
  refine aw_callV C (rest := []) (c_Cond_put E v3 (0 : Int32) _ q3 hq3) tb_525 yf_45 yi_45 (lc_17 E) [.int v3, .int (0 : Int32)] rfl rfl _ rfl (Nat.le_trans (by decide) hgd) (Nat.le_of_ble_eq_true rfl) (by decide +kernel) rfl ?_
  show AW _ _ _ _ [.int q3.1]
  refine aw_pop C rfl (by decide +kernel) rfl ?_
  obtain ⟨a4, ha4⟩ : ∃ z, z = (v2 + (1 : Int32)) := ⟨_, rfl⟩
  have hf := ilt ha4 hf
  refine aw_iinc C [(2, .int a4), (0, .ref (gad G 13)), (1, .int v1), (3, .int v3)] 2 (n := 1) rfl (by rw [ha4]; rfl) (by rw [hnL]; decide) rfl (by decide +kernel) rfl ?_
  refine aw_goto C (tgt := 7) (off := -66) (by decide +kernel) (by decide) ?_
  refine aw_sub [(0, .ref (gad G 13)), (1, .int v1), (2, .int a4)] [1, 2, 0] rfl ?_
  exact hk7 v1 a4 _ hf
theorem t_Rdr_readTerm_7 {G : Cx} (C : CX G prog_10_method_20_code "PaperStars$Reader") (CR0 : CR G (Option.none)) (r_readCondition : Int32 → Mm → Option (Unit × Mm)) (r_readPart : Int32 → Mm → Option (Unit × Mm)) (r_readPiece : Int32 → Mm → Option (Unit × Mm)) (r_readSum : Int32 → Mm → Option (Unit × Mm)) (r_readTerm : Int32 → Mm → Option (Unit × Mm)) (r_readFactor : Int32 → Mm → Option (Unit × Mm)) (E : LCin (gly G)) (d0 : Nat) (hd0 : d0 + 1 ≤ gd G) (hr_readCondition : ∀ (v1 : Int32) (st : Mm) (q : Unit × Mm), r_readCondition v1 st = some q → Con d0 Y41 prog_10_method_15_code 4 (Option.none) (gly G) (fun ad => [.ref (ad 13), .int v1]) st (none) q.2) (hr_readPart : ∀ (v1 : Int32) (st : Mm) (q : Unit × Mm), r_readPart v1 st = some q → Con d0 Y42 prog_10_method_16_code 4 (Option.none) (gly G) (fun ad => [.ref (ad 13), .int v1]) st (none) q.2) (hr_readPiece : ∀ (v1 : Int32) (st : Mm) (q : Unit × Mm), r_readPiece v1 st = some q → Con d0 Y43 prog_10_method_17_code 4 (Option.none) (gly G) (fun ad => [.ref (ad 13), .int v1]) st (none) q.2) (hr_readSum : ∀ (v1 : Int32) (st : Mm) (q : Unit × Mm), r_readSum v1 st = some q → Con d0 Y46 prog_10_method_19_code 4 (Option.none) (gly G) (fun ad => [.ref (ad 13), .int v1]) st (none) q.2) (hr_readTerm : ∀ (v1 : Int32) (st : Mm) (q : Unit × Mm), r_readTerm v1 st = some q → Con d0 Y47 prog_10_method_20_code 4 (Option.none) (gly G) (fun ad => [.ref (ad 13), .int v1]) st (none) q.2) (hr_readFactor : ∀ (v1 : Int32) (st : Mm) (q : Unit × Mm), r_readFactor v1 st = some q → Con d0 Y48 prog_10_method_21_code 2 (Option.none) (gly G) (fun ad => [.ref (ad 13), .int v1]) st (none) q.2) (hnL : gnL G = 4) (hgd : 2 ≤ gd G) {q : Unit × Mm} (hgr : gr G = none) (hgs : gsf G = q.2) (k7 : Int32 → Int32 → Mm → Option (Unit × Mm)) (hk7 : ∀ (v1 : Int32) (v2 : Int32) (st : Mm), k7 v1 v2 st = some q → AW G st 7 [(0, .ref (gad G 13)), (1, .int v1), (2, .int v2)] []) (v1 : Int32) (v2 : Int32) (st : Mm) (hf : b_Rdr_readTerm_7 r_readCondition r_readPart r_readPiece r_readSum r_readTerm r_readFactor k7 v1 v2 st = some q) : AW G st 7 [(0, .ref (gad G 13)), (1, .int v1), (2, .int v2)] [] := by
  unfold b_Rdr_readTerm_7 at hf
  refine aw_iload_n C 2 2 (j := 2) rfl rfl (by decide +kernel) rfl ?_
  refine aw_sipush C (i0 := 160) (v := 160) (by decide) (by decide +kernel) rfl ?_
  refine aw_icmp_ge C (tgt := 76) (off := 65) (by decide +kernel) (by decide) rfl (fun c1 => ?_) (fun c1 => ?_)
  · have hf := ift c1 hf
    exact aw_vretq C CR0 hgr hgs hf (by decide +kernel)
  · have hf := iff_ c1 hf
    refine aw_aload_n C 0 0 (j := 0) rfl rfl (by decide +kernel) rfl ?_
    refine aw_get C (k := 7) fc_8 (lc_13 E) rfl (by decide) tb_173 (by decide +kernel) rfl ?_
    refine aw_if_ne C (tgt := 76) (off := 58) (by decide +kernel) (by decide) rfl (fun c2 => ?_) (fun c2 => ?_)
    · have hf := ift c2 hf
      refine aw_aload_n C 0 0 (j := 0) rfl rfl (by decide +kernel) rfl ?_
      obtain ⟨q3, hq3, hf⟩ := ibd hf
      refine aw_callV C (rest := []) (c_Rdr_look E _ q3 hq3) tb_484 yf_35 yi_35 (lc_13 E) [] rfl rfl _ rfl (Nat.le_trans (by decide) hgd) (Nat.le_of_ble_eq_true rfl) (by decide +kernel) rfl ?_
      show AW _ _ _ _ [.int q3.1]
      refine aw_istore_n C [(3, .int q3.1), (0, .ref (gad G 13)), (1, .int v1), (2, .int v2)] (j := 3) rfl (by rw [hnL]; decide) rfl (by decide +kernel) rfl ?_
      refine aw_iload_n C 3 0 (j := 3) rfl rfl (by decide +kernel) rfl ?_
      refine aw_bipush C (i0 := 42) (v := 42) (by decide) (by decide +kernel) rfl ?_
      refine aw_icmp_eq C (tgt := 45) (off := 16) (by decide +kernel) (by decide) rfl (fun c4 => ?_) (fun c4 => ?_)
      · have hf := ift c4 hf
        refine aw_sub [(0, .ref (gad G 13)), (1, .int v1), (2, .int v2), (3, .int q3.1)] [1, 2, 3, 0] rfl ?_
        exact t_Rdr_readTerm_45 C CR0 r_readCondition r_readPart r_readPiece r_readSum r_readTerm r_readFactor E d0 hd0 hr_readCondition hr_readPart hr_readPiece hr_readSum hr_readTerm hr_readFactor hnL hgd hgr hgs k7 hk7 v1 v2 q3.1 _ hf
      · have hf := iff_ c4 hf
        refine aw_iload_n C 3 0 (j := 3) rfl rfl (by decide +kernel) rfl ?_
        refine aw_bipush C (i0 := 47) (v := 47) (by decide) (by decide +kernel) rfl ?_
        refine aw_icmp_eq C (tgt := 45) (off := 10) (by decide +kernel) (by decide) rfl (fun c5 => ?_) (fun c5 => ?_)
        · have hf := ift c5 hf
          refine aw_sub [(0, .ref (gad G 13)), (1, .int v1), (2, .int v2), (3, .int q3.1)] [1, 2, 3, 0] rfl ?_
          exact t_Rdr_readTerm_45 C CR0 r_readCondition r_readPart r_readPiece r_readSum r_readTerm r_readFactor E d0 hd0 hr_readCondition hr_readPart hr_readPiece hr_readSum hr_readTerm hr_readFactor hnL hgd hgr hgs k7 hk7 v1 v2 q3.1 _ hf
        · have hf := iff_ c5 hf
          refine aw_iload_n C 3 0 (j := 3) rfl rfl (by decide +kernel) rfl ?_
          refine aw_bipush C (i0 := 37) (v := 37) (by decide) (by decide +kernel) rfl ?_
          refine aw_icmp_eq C (tgt := 45) (off := 4) (by decide +kernel) (by decide) rfl (fun c6 => ?_) (fun c6 => ?_)
          · have hf := ift c6 hf
            refine aw_sub [(0, .ref (gad G 13)), (1, .int v1), (2, .int v2), (3, .int q3.1)] [1, 2, 3, 0] rfl ?_
            exact t_Rdr_readTerm_45 C CR0 r_readCondition r_readPart r_readPiece r_readSum r_readTerm r_readFactor E d0 hd0 hr_readCondition hr_readPart hr_readPiece hr_readSum hr_readTerm hr_readFactor hnL hgd hgr hgs k7 hk7 v1 v2 q3.1 _ hf
          · have hf := iff_ c6 hf
            exact aw_vretq C CR0 hgr hgs hf (by decide +kernel)
    · have hf := iff_ c2 hf
      exact aw_vretq C CR0 hgr hgs hf (by decide +kernel)
theorem u_Rdr_readTerm_7 {G : Cx} (C : CX G prog_10_method_20_code "PaperStars$Reader") (CR0 : CR G (Option.none)) (r_readCondition : Int32 → Mm → Option (Unit × Mm)) (r_readPart : Int32 → Mm → Option (Unit × Mm)) (r_readPiece : Int32 → Mm → Option (Unit × Mm)) (r_readSum : Int32 → Mm → Option (Unit × Mm)) (r_readTerm : Int32 → Mm → Option (Unit × Mm)) (r_readFactor : Int32 → Mm → Option (Unit × Mm)) (E : LCin (gly G)) (d0 : Nat) (hd0 : d0 + 1 ≤ gd G) (hr_readCondition : ∀ (v1 : Int32) (st : Mm) (q : Unit × Mm), r_readCondition v1 st = some q → Con d0 Y41 prog_10_method_15_code 4 (Option.none) (gly G) (fun ad => [.ref (ad 13), .int v1]) st (none) q.2) (hr_readPart : ∀ (v1 : Int32) (st : Mm) (q : Unit × Mm), r_readPart v1 st = some q → Con d0 Y42 prog_10_method_16_code 4 (Option.none) (gly G) (fun ad => [.ref (ad 13), .int v1]) st (none) q.2) (hr_readPiece : ∀ (v1 : Int32) (st : Mm) (q : Unit × Mm), r_readPiece v1 st = some q → Con d0 Y43 prog_10_method_17_code 4 (Option.none) (gly G) (fun ad => [.ref (ad 13), .int v1]) st (none) q.2) (hr_readSum : ∀ (v1 : Int32) (st : Mm) (q : Unit × Mm), r_readSum v1 st = some q → Con d0 Y46 prog_10_method_19_code 4 (Option.none) (gly G) (fun ad => [.ref (ad 13), .int v1]) st (none) q.2) (hr_readTerm : ∀ (v1 : Int32) (st : Mm) (q : Unit × Mm), r_readTerm v1 st = some q → Con d0 Y47 prog_10_method_20_code 4 (Option.none) (gly G) (fun ad => [.ref (ad 13), .int v1]) st (none) q.2) (hr_readFactor : ∀ (v1 : Int32) (st : Mm) (q : Unit × Mm), r_readFactor v1 st = some q → Con d0 Y48 prog_10_method_21_code 2 (Option.none) (gly G) (fun ad => [.ref (ad 13), .int v1]) st (none) q.2) (hnL : gnL G = 4) (hgd : 2 ≤ gd G) {q : Unit × Mm} (hgr : gr G = none) (hgs : gsf G = q.2) : ∀ (n : Nat) (v1 : Int32) (v2 : Int32) (st : Mm), f_Rdr_readTerm_7 r_readCondition r_readPart r_readPiece r_readSum r_readTerm r_readFactor n v1 v2 st = some q → AW G st 7 [(0, .ref (gad G 13)), (1, .int v1), (2, .int v2)] [] := by
  intro n
  induction n with
  | zero => intro v1 v2 st hf; cases hf
  | succ n ih => intro v1 v2 st hf; exact t_Rdr_readTerm_7 C CR0 r_readCondition r_readPart r_readPiece r_readSum r_readTerm r_readFactor E d0 hd0 hr_readCondition hr_readPart hr_readPiece hr_readSum hr_readTerm hr_readFactor hnL hgd hgr hgs (f_Rdr_readTerm_7 r_readCondition r_readPart r_readPiece r_readSum r_readTerm r_readFactor n) ih v1 v2 st hf
theorem t_Rdr_readTerm {G : Cx} (C : CX G prog_10_method_20_code "PaperStars$Reader") (CR0 : CR G (Option.none)) (r_readCondition : Int32 → Mm → Option (Unit × Mm)) (r_readPart : Int32 → Mm → Option (Unit × Mm)) (r_readPiece : Int32 → Mm → Option (Unit × Mm)) (r_readSum : Int32 → Mm → Option (Unit × Mm)) (r_readTerm : Int32 → Mm → Option (Unit × Mm)) (r_readFactor : Int32 → Mm → Option (Unit × Mm)) (E : LCin (gly G)) (d0 : Nat) (hd0 : d0 + 1 ≤ gd G) (hr_readCondition : ∀ (v1 : Int32) (st : Mm) (q : Unit × Mm), r_readCondition v1 st = some q → Con d0 Y41 prog_10_method_15_code 4 (Option.none) (gly G) (fun ad => [.ref (ad 13), .int v1]) st (none) q.2) (hr_readPart : ∀ (v1 : Int32) (st : Mm) (q : Unit × Mm), r_readPart v1 st = some q → Con d0 Y42 prog_10_method_16_code 4 (Option.none) (gly G) (fun ad => [.ref (ad 13), .int v1]) st (none) q.2) (hr_readPiece : ∀ (v1 : Int32) (st : Mm) (q : Unit × Mm), r_readPiece v1 st = some q → Con d0 Y43 prog_10_method_17_code 4 (Option.none) (gly G) (fun ad => [.ref (ad 13), .int v1]) st (none) q.2) (hr_readSum : ∀ (v1 : Int32) (st : Mm) (q : Unit × Mm), r_readSum v1 st = some q → Con d0 Y46 prog_10_method_19_code 4 (Option.none) (gly G) (fun ad => [.ref (ad 13), .int v1]) st (none) q.2) (hr_readTerm : ∀ (v1 : Int32) (st : Mm) (q : Unit × Mm), r_readTerm v1 st = some q → Con d0 Y47 prog_10_method_20_code 4 (Option.none) (gly G) (fun ad => [.ref (ad 13), .int v1]) st (none) q.2) (hr_readFactor : ∀ (v1 : Int32) (st : Mm) (q : Unit × Mm), r_readFactor v1 st = some q → Con d0 Y48 prog_10_method_21_code 2 (Option.none) (gly G) (fun ad => [.ref (ad 13), .int v1]) st (none) q.2) (hnL : gnL G = 4) (hgd : 2 ≤ gd G) {q : Unit × Mm} (hgr : gr G = none) (hgs : gsf G = q.2) (v1 : Int32) (st : Mm) (hf : f_Rdr_readTerm r_readCondition r_readPart r_readPiece r_readSum r_readTerm r_readFactor v1 st = some q) : AW G st 0 [(0, .ref (gad G 13)), (1, .int v1)] [] := by
  unfold f_Rdr_readTerm at hf
  refine aw_aload_n C 0 0 (j := 0) rfl rfl (by decide +kernel) rfl ?_
  refine aw_iload_n C 1 1 (j := 1) rfl rfl (by decide +kernel) rfl ?_
  obtain ⟨q1, hq1, hf⟩ := ibd hf
  refine aw_callV C (rest := []) (hr_readFactor v1 _ q1 hq1) tb_537 yf_48 yi_48 (lc_13 E) [.int v1] rfl rfl _ rfl hd0 (Nat.le_of_ble_eq_true rfl) (by decide +kernel) rfl ?_
  show AW _ _ _ _ []
  refine aw_iconst C (i0 := 0) (v := 0) (by decide) (by decide +kernel) rfl ?_
  refine aw_istore_n C [(2, .int (0 : Int32)), (0, .ref (gad G 13)), (1, .int v1)] (j := 2) rfl (by rw [hnL]; decide) rfl (by decide +kernel) rfl ?_
  refine aw_sub [(0, .ref (gad G 13)), (1, .int v1), (2, .int (0 : Int32))] [1, 2, 0] rfl ?_
  exact u_Rdr_readTerm_7 C CR0 r_readCondition r_readPart r_readPiece r_readSum r_readTerm r_readFactor E d0 hd0 hr_readCondition hr_readPart hr_readPiece hr_readSum hr_readTerm hr_readFactor hnL hgd hgr hgs _ v1 (0 : Int32) _ hf
theorem g_Rdr_readTerm {lay : Ly} (r_readCondition : Int32 → Mm → Option (Unit × Mm)) (r_readPart : Int32 → Mm → Option (Unit × Mm)) (r_readPiece : Int32 → Mm → Option (Unit × Mm)) (r_readSum : Int32 → Mm → Option (Unit × Mm)) (r_readTerm : Int32 → Mm → Option (Unit × Mm)) (r_readFactor : Int32 → Mm → Option (Unit × Mm)) (E : LCin lay) (d0 : Nat) (hr_readCondition : ∀ (v1 : Int32) (st : Mm) (q : Unit × Mm), r_readCondition v1 st = some q → Con d0 Y41 prog_10_method_15_code 4 (Option.none) lay (fun ad => [.ref (ad 13), .int v1]) st (none) q.2) (hr_readPart : ∀ (v1 : Int32) (st : Mm) (q : Unit × Mm), r_readPart v1 st = some q → Con d0 Y42 prog_10_method_16_code 4 (Option.none) lay (fun ad => [.ref (ad 13), .int v1]) st (none) q.2) (hr_readPiece : ∀ (v1 : Int32) (st : Mm) (q : Unit × Mm), r_readPiece v1 st = some q → Con d0 Y43 prog_10_method_17_code 4 (Option.none) lay (fun ad => [.ref (ad 13), .int v1]) st (none) q.2) (hr_readSum : ∀ (v1 : Int32) (st : Mm) (q : Unit × Mm), r_readSum v1 st = some q → Con d0 Y46 prog_10_method_19_code 4 (Option.none) lay (fun ad => [.ref (ad 13), .int v1]) st (none) q.2) (hr_readTerm : ∀ (v1 : Int32) (st : Mm) (q : Unit × Mm), r_readTerm v1 st = some q → Con d0 Y47 prog_10_method_20_code 4 (Option.none) lay (fun ad => [.ref (ad 13), .int v1]) st (none) q.2) (hr_readFactor : ∀ (v1 : Int32) (st : Mm) (q : Unit × Mm), r_readFactor v1 st = some q → Con d0 Y48 prog_10_method_21_code 2 (Option.none) lay (fun ad => [.ref (ad 13), .int v1]) st (none) q.2) (hB : 2 ≤ d0 + 1) (v1 : Int32) (st : Mm) (q : Unit × Mm) (hf : f_Rdr_readTerm r_readCondition r_readPart r_readPiece r_readSum r_readTerm r_readFactor v1 st = some q) : Con (d0 + 1) Y47 prog_10_method_20_code 4 (Option.none) lay (fun ad => [.ref (ad 13), .int v1]) st (none) q.2 :=
  am_met yf_47.2.2.2.2.2 (fun ad => Nat.le_of_ble_eq_true rfl) (fun G C CR0 e1 e2 e3 e4 e5 => t_Rdr_readTerm C CR0 r_readCondition r_readPart r_readPiece r_readSum r_readTerm r_readFactor (by rw [e1]; exact E) d0 (by rw [e5]; exact Nat.le_refl _) (by rw [e1]; exact hr_readCondition) (by rw [e1]; exact hr_readPart) (by rw [e1]; exact hr_readPiece) (by rw [e1]; exact hr_readSum) (by rw [e1]; exact hr_readTerm) (by rw [e1]; exact hr_readFactor) e2 (by rw [e5]; exact hB) e3 e4 v1 st hf)
def b_Rdr_readSum_39 (r_readCondition : Int32 → Mm → Option (Unit × Mm)) (r_readPart : Int32 → Mm → Option (Unit × Mm)) (r_readPiece : Int32 → Mm → Option (Unit × Mm)) (r_readSum : Int32 → Mm → Option (Unit × Mm)) (r_readTerm : Int32 → Mm → Option (Unit × Mm)) (r_readFactor : Int32 → Mm → Option (Unit × Mm)) (k7 : Int32 → Int32 → Mm → Option (Unit × Mm)) (v1 : Int32) (v2 : Int32) (v3 : Int32) (st : Mm) : Option (Unit × Mm) :=
  lt_ ((st.1 13 6) + (1 : Int32)) (fun a1 => (r_readTerm v1 (sI st 13 6 a1)).bind (fun q2 => (f_Cond_put v3 (0 : Int32) q2.2).bind (fun q3 => lt_ (v2 + (1 : Int32)) (fun a4 => k7 v1 a4 q3.2))))
def b_Rdr_readSum_7 (r_readCondition : Int32 → Mm → Option (Unit × Mm)) (r_readPart : Int32 → Mm → Option (Unit × Mm)) (r_readPiece : Int32 → Mm → Option (Unit × Mm)) (r_readSum : Int32 → Mm → Option (Unit × Mm)) (r_readTerm : Int32 → Mm → Option (Unit × Mm)) (r_readFactor : Int32 → Mm → Option (Unit × Mm)) (k7 : Int32 → Int32 → Mm → Option (Unit × Mm)) (v1 : Int32) (v2 : Int32) (st : Mm) : Option (Unit × Mm) :=
  if (160 : Int32) ≤ v2 then (some ((), st)) else (if (st.1 13 7) = 0 then ((f_Rdr_look st).bind (fun q3 => if q3.1 = (43 : Int32) then (b_Rdr_readSum_39 r_readCondition r_readPart r_readPiece r_readSum r_readTerm r_readFactor k7 v1 v2 q3.1 q3.2) else (if q3.1 = (45 : Int32) then (b_Rdr_readSum_39 r_readCondition r_readPart r_readPiece r_readSum r_readTerm r_readFactor k7 v1 v2 q3.1 q3.2) else (some ((), q3.2))))) else (some ((), st)))
def f_Rdr_readSum_7 (r_readCondition : Int32 → Mm → Option (Unit × Mm)) (r_readPart : Int32 → Mm → Option (Unit × Mm)) (r_readPiece : Int32 → Mm → Option (Unit × Mm)) (r_readSum : Int32 → Mm → Option (Unit × Mm)) (r_readTerm : Int32 → Mm → Option (Unit × Mm)) (r_readFactor : Int32 → Mm → Option (Unit × Mm)) : Nat → Int32 → Int32 → Mm → Option (Unit × Mm)
  | 0 => fun _ _ _ => none
  | n + 1 => b_Rdr_readSum_7 r_readCondition r_readPart r_readPiece r_readSum r_readTerm r_readFactor (f_Rdr_readSum_7 r_readCondition r_readPart r_readPiece r_readSum r_readTerm r_readFactor n)
def f_Rdr_readSum (r_readCondition : Int32 → Mm → Option (Unit × Mm)) (r_readPart : Int32 → Mm → Option (Unit × Mm)) (r_readPiece : Int32 → Mm → Option (Unit × Mm)) (r_readSum : Int32 → Mm → Option (Unit × Mm)) (r_readTerm : Int32 → Mm → Option (Unit × Mm)) (r_readFactor : Int32 → Mm → Option (Unit × Mm)) (v1 : Int32) (st : Mm) : Option (Unit × Mm) :=
  (r_readTerm v1 st).bind (fun q1 => f_Rdr_readSum_7 r_readCondition r_readPart r_readPiece r_readSum r_readTerm r_readFactor 1000000 v1 (0 : Int32) q1.2)
theorem t_Rdr_readSum_39 {G : Cx} (C : CX G prog_10_method_19_code "PaperStars$Reader") (CR0 : CR G (Option.none)) (r_readCondition : Int32 → Mm → Option (Unit × Mm)) (r_readPart : Int32 → Mm → Option (Unit × Mm)) (r_readPiece : Int32 → Mm → Option (Unit × Mm)) (r_readSum : Int32 → Mm → Option (Unit × Mm)) (r_readTerm : Int32 → Mm → Option (Unit × Mm)) (r_readFactor : Int32 → Mm → Option (Unit × Mm)) (E : LCin (gly G)) (d0 : Nat) (hd0 : d0 + 1 ≤ gd G) (hr_readCondition : ∀ (v1 : Int32) (st : Mm) (q : Unit × Mm), r_readCondition v1 st = some q → Con d0 Y41 prog_10_method_15_code 4 (Option.none) (gly G) (fun ad => [.ref (ad 13), .int v1]) st (none) q.2) (hr_readPart : ∀ (v1 : Int32) (st : Mm) (q : Unit × Mm), r_readPart v1 st = some q → Con d0 Y42 prog_10_method_16_code 4 (Option.none) (gly G) (fun ad => [.ref (ad 13), .int v1]) st (none) q.2) (hr_readPiece : ∀ (v1 : Int32) (st : Mm) (q : Unit × Mm), r_readPiece v1 st = some q → Con d0 Y43 prog_10_method_17_code 4 (Option.none) (gly G) (fun ad => [.ref (ad 13), .int v1]) st (none) q.2) (hr_readSum : ∀ (v1 : Int32) (st : Mm) (q : Unit × Mm), r_readSum v1 st = some q → Con d0 Y46 prog_10_method_19_code 4 (Option.none) (gly G) (fun ad => [.ref (ad 13), .int v1]) st (none) q.2) (hr_readTerm : ∀ (v1 : Int32) (st : Mm) (q : Unit × Mm), r_readTerm v1 st = some q → Con d0 Y47 prog_10_method_20_code 4 (Option.none) (gly G) (fun ad => [.ref (ad 13), .int v1]) st (none) q.2) (hr_readFactor : ∀ (v1 : Int32) (st : Mm) (q : Unit × Mm), r_readFactor v1 st = some q → Con d0 Y48 prog_10_method_21_code 2 (Option.none) (gly G) (fun ad => [.ref (ad 13), .int v1]) st (none) q.2) (hnL : gnL G = 4) (hgd : 2 ≤ gd G) {q : Unit × Mm} (hgr : gr G = none) (hgs : gsf G = q.2) (k7 : Int32 → Int32 → Mm → Option (Unit × Mm)) (hk7 : ∀ (v1 : Int32) (v2 : Int32) (st : Mm), k7 v1 v2 st = some q → AW G st 7 [(0, .ref (gad G 13)), (1, .int v1), (2, .int v2)] []) (v1 : Int32) (v2 : Int32) (v3 : Int32) (st : Mm) (hf : b_Rdr_readSum_39 r_readCondition r_readPart r_readPiece r_readSum r_readTerm r_readFactor k7 v1 v2 v3 st = some q) : AW G st 39 [(0, .ref (gad G 13)), (1, .int v1), (2, .int v2), (3, .int v3)] [] := by
  unfold b_Rdr_readSum_39 at hf
  refine aw_aload_n C 0 0 (j := 0) rfl rfl (by decide +kernel) rfl ?_
  refine aw_dup C rfl (by decide +kernel) rfl ?_
  refine aw_get C (k := 6) fc_8 (lc_13 E) rfl (by decide) tb_172 (by decide +kernel) rfl ?_
  refine aw_iconst C (i0 := 1) (v := 1) (by decide) (by decide +kernel) rfl ?_
  refine aw_iadd C (by decide +kernel) rfl ?_
  obtain ⟨a1, ha1⟩ : ∃ z, z = ((st.1 13 6) + (1 : Int32)) := ⟨_, rfl⟩
  refine aw_nmi ha1 ?_
  have hf := ilt ha1 hf
  refine aw_put C (k := 6) fc_8 (lc_13 E) rfl (by decide) rfl rfl tb_172 (by decide +kernel) rfl ?_
  refine aw_aload_n C 0 0 (j := 0) rfl rfl (by decide +kernel) rfl ?_
  refine aw_iload_n C 1 1 (j := 1) rfl rfl (by decide +kernel) rfl ?_
  obtain ⟨q2, hq2, hf⟩ := ibd hf
  refine aw_callV C (rest := []) (hr_readTerm v1 _ q2 hq2) tb_533 yf_47 yi_47 (lc_13 E) [.int v1] rfl rfl _ rfl hd0 (Nat.le_of_ble_eq_true rfl) (by decide +kernel) rfl ?_
  show AW _ _ _ _ []
  refine aw_aload_n C 0 0 (j := 0) rfl rfl (by decide +kernel) rfl ?_
  refine aw_getr C (k := 1) fc_8 (lc_13 E) rfl (by decide) tb_167 (by decide +kernel) rfl ?_
  refine aw_iload_n C 3 3 (j := 3) rfl rfl (by decide +kernel) rfl ?_
  refine aw_iconst C (i0 := 0) (v := 0) (by decide) (by decide +kernel) rfl ?_
  obtain ⟨q3, hq3, hf⟩ := ibd hf
  refine aw_callV C (rest := []) (c_Cond_put E v3 (0 : Int32) _ q3 hq3) tb_525 yf_45 yi_45 (lc_17 E) [.int v3, .int (0 : Int32)] rfl rfl _ rfl (Nat.le_trans (by decide) hgd) (Nat.le_of_ble_eq_true rfl) (by decide +kernel) rfl ?_
  show AW _ _ _ _ [.int q3.1]
  refine aw_pop C rfl (by decide +kernel) rfl ?_
  obtain ⟨a4, ha4⟩ : ∃ z, z = (v2 + (1 : Int32)) := ⟨_, rfl⟩
  have hf := ilt ha4 hf
  refine aw_iinc C [(2, .int a4), (0, .ref (gad G 13)), (1, .int v1), (3, .int v3)] 2 (n := 1) rfl (by rw [ha4]; rfl) (by rw [hnL]; decide) rfl (by decide +kernel) rfl ?_
  refine aw_goto C (tgt := 7) (off := -60) (by decide +kernel) (by decide) ?_
  refine aw_sub [(0, .ref (gad G 13)), (1, .int v1), (2, .int a4)] [1, 2, 0] rfl ?_
  exact hk7 v1 a4 _ hf
theorem t_Rdr_readSum_7 {G : Cx} (C : CX G prog_10_method_19_code "PaperStars$Reader") (CR0 : CR G (Option.none)) (r_readCondition : Int32 → Mm → Option (Unit × Mm)) (r_readPart : Int32 → Mm → Option (Unit × Mm)) (r_readPiece : Int32 → Mm → Option (Unit × Mm)) (r_readSum : Int32 → Mm → Option (Unit × Mm)) (r_readTerm : Int32 → Mm → Option (Unit × Mm)) (r_readFactor : Int32 → Mm → Option (Unit × Mm)) (E : LCin (gly G)) (d0 : Nat) (hd0 : d0 + 1 ≤ gd G) (hr_readCondition : ∀ (v1 : Int32) (st : Mm) (q : Unit × Mm), r_readCondition v1 st = some q → Con d0 Y41 prog_10_method_15_code 4 (Option.none) (gly G) (fun ad => [.ref (ad 13), .int v1]) st (none) q.2) (hr_readPart : ∀ (v1 : Int32) (st : Mm) (q : Unit × Mm), r_readPart v1 st = some q → Con d0 Y42 prog_10_method_16_code 4 (Option.none) (gly G) (fun ad => [.ref (ad 13), .int v1]) st (none) q.2) (hr_readPiece : ∀ (v1 : Int32) (st : Mm) (q : Unit × Mm), r_readPiece v1 st = some q → Con d0 Y43 prog_10_method_17_code 4 (Option.none) (gly G) (fun ad => [.ref (ad 13), .int v1]) st (none) q.2) (hr_readSum : ∀ (v1 : Int32) (st : Mm) (q : Unit × Mm), r_readSum v1 st = some q → Con d0 Y46 prog_10_method_19_code 4 (Option.none) (gly G) (fun ad => [.ref (ad 13), .int v1]) st (none) q.2) (hr_readTerm : ∀ (v1 : Int32) (st : Mm) (q : Unit × Mm), r_readTerm v1 st = some q → Con d0 Y47 prog_10_method_20_code 4 (Option.none) (gly G) (fun ad => [.ref (ad 13), .int v1]) st (none) q.2) (hr_readFactor : ∀ (v1 : Int32) (st : Mm) (q : Unit × Mm), r_readFactor v1 st = some q → Con d0 Y48 prog_10_method_21_code 2 (Option.none) (gly G) (fun ad => [.ref (ad 13), .int v1]) st (none) q.2) (hnL : gnL G = 4) (hgd : 2 ≤ gd G) {q : Unit × Mm} (hgr : gr G = none) (hgs : gsf G = q.2) (k7 : Int32 → Int32 → Mm → Option (Unit × Mm)) (hk7 : ∀ (v1 : Int32) (v2 : Int32) (st : Mm), k7 v1 v2 st = some q → AW G st 7 [(0, .ref (gad G 13)), (1, .int v1), (2, .int v2)] []) (v1 : Int32) (v2 : Int32) (st : Mm) (hf : b_Rdr_readSum_7 r_readCondition r_readPart r_readPiece r_readSum r_readTerm r_readFactor k7 v1 v2 st = some q) : AW G st 7 [(0, .ref (gad G 13)), (1, .int v1), (2, .int v2)] [] := by
  unfold b_Rdr_readSum_7 at hf
  refine aw_iload_n C 2 2 (j := 2) rfl rfl (by decide +kernel) rfl ?_
  refine aw_sipush C (i0 := 160) (v := 160) (by decide) (by decide +kernel) rfl ?_
  refine aw_icmp_ge C (tgt := 70) (off := 59) (by decide +kernel) (by decide) rfl (fun c1 => ?_) (fun c1 => ?_)
  · have hf := ift c1 hf
    exact aw_vretq C CR0 hgr hgs hf (by decide +kernel)
  · have hf := iff_ c1 hf
    refine aw_aload_n C 0 0 (j := 0) rfl rfl (by decide +kernel) rfl ?_
    refine aw_get C (k := 7) fc_8 (lc_13 E) rfl (by decide) tb_173 (by decide +kernel) rfl ?_
    refine aw_if_ne C (tgt := 70) (off := 52) (by decide +kernel) (by decide) rfl (fun c2 => ?_) (fun c2 => ?_)
    · have hf := ift c2 hf
      refine aw_aload_n C 0 0 (j := 0) rfl rfl (by decide +kernel) rfl ?_
      obtain ⟨q3, hq3, hf⟩ := ibd hf
      refine aw_callV C (rest := []) (c_Rdr_look E _ q3 hq3) tb_484 yf_35 yi_35 (lc_13 E) [] rfl rfl _ rfl (Nat.le_trans (by decide) hgd) (Nat.le_of_ble_eq_true rfl) (by decide +kernel) rfl ?_
      show AW _ _ _ _ [.int q3.1]
      refine aw_istore_n C [(3, .int q3.1), (0, .ref (gad G 13)), (1, .int v1), (2, .int v2)] (j := 3) rfl (by rw [hnL]; decide) rfl (by decide +kernel) rfl ?_
      refine aw_iload_n C 3 0 (j := 3) rfl rfl (by decide +kernel) rfl ?_
      refine aw_bipush C (i0 := 43) (v := 43) (by decide) (by decide +kernel) rfl ?_
      refine aw_icmp_eq C (tgt := 39) (off := 10) (by decide +kernel) (by decide) rfl (fun c4 => ?_) (fun c4 => ?_)
      · have hf := ift c4 hf
        refine aw_sub [(0, .ref (gad G 13)), (1, .int v1), (2, .int v2), (3, .int q3.1)] [1, 2, 3, 0] rfl ?_
        exact t_Rdr_readSum_39 C CR0 r_readCondition r_readPart r_readPiece r_readSum r_readTerm r_readFactor E d0 hd0 hr_readCondition hr_readPart hr_readPiece hr_readSum hr_readTerm hr_readFactor hnL hgd hgr hgs k7 hk7 v1 v2 q3.1 _ hf
      · have hf := iff_ c4 hf
        refine aw_iload_n C 3 0 (j := 3) rfl rfl (by decide +kernel) rfl ?_
        refine aw_bipush C (i0 := 45) (v := 45) (by decide) (by decide +kernel) rfl ?_
        refine aw_icmp_eq C (tgt := 39) (off := 4) (by decide +kernel) (by decide) rfl (fun c5 => ?_) (fun c5 => ?_)
        · have hf := ift c5 hf
          refine aw_sub [(0, .ref (gad G 13)), (1, .int v1), (2, .int v2), (3, .int q3.1)] [1, 2, 3, 0] rfl ?_
          exact t_Rdr_readSum_39 C CR0 r_readCondition r_readPart r_readPiece r_readSum r_readTerm r_readFactor E d0 hd0 hr_readCondition hr_readPart hr_readPiece hr_readSum hr_readTerm hr_readFactor hnL hgd hgr hgs k7 hk7 v1 v2 q3.1 _ hf
        · have hf := iff_ c5 hf
          exact aw_vretq C CR0 hgr hgs hf (by decide +kernel)
    · have hf := iff_ c2 hf
      exact aw_vretq C CR0 hgr hgs hf (by decide +kernel)
theorem u_Rdr_readSum_7 {G : Cx} (C : CX G prog_10_method_19_code "PaperStars$Reader") (CR0 : CR G (Option.none)) (r_readCondition : Int32 → Mm → Option (Unit × Mm)) (r_readPart : Int32 → Mm → Option (Unit × Mm)) (r_readPiece : Int32 → Mm → Option (Unit × Mm)) (r_readSum : Int32 → Mm → Option (Unit × Mm)) (r_readTerm : Int32 → Mm → Option (Unit × Mm)) (r_readFactor : Int32 → Mm → Option (Unit × Mm)) (E : LCin (gly G)) (d0 : Nat) (hd0 : d0 + 1 ≤ gd G) (hr_readCondition : ∀ (v1 : Int32) (st : Mm) (q : Unit × Mm), r_readCondition v1 st = some q → Con d0 Y41 prog_10_method_15_code 4 (Option.none) (gly G) (fun ad => [.ref (ad 13), .int v1]) st (none) q.2) (hr_readPart : ∀ (v1 : Int32) (st : Mm) (q : Unit × Mm), r_readPart v1 st = some q → Con d0 Y42 prog_10_method_16_code 4 (Option.none) (gly G) (fun ad => [.ref (ad 13), .int v1]) st (none) q.2) (hr_readPiece : ∀ (v1 : Int32) (st : Mm) (q : Unit × Mm), r_readPiece v1 st = some q → Con d0 Y43 prog_10_method_17_code 4 (Option.none) (gly G) (fun ad => [.ref (ad 13), .int v1]) st (none) q.2) (hr_readSum : ∀ (v1 : Int32) (st : Mm) (q : Unit × Mm), r_readSum v1 st = some q → Con d0 Y46 prog_10_method_19_code 4 (Option.none) (gly G) (fun ad => [.ref (ad 13), .int v1]) st (none) q.2) (hr_readTerm : ∀ (v1 : Int32) (st : Mm) (q : Unit × Mm), r_readTerm v1 st = some q → Con d0 Y47 prog_10_method_20_code 4 (Option.none) (gly G) (fun ad => [.ref (ad 13), .int v1]) st (none) q.2) (hr_readFactor : ∀ (v1 : Int32) (st : Mm) (q : Unit × Mm), r_readFactor v1 st = some q → Con d0 Y48 prog_10_method_21_code 2 (Option.none) (gly G) (fun ad => [.ref (ad 13), .int v1]) st (none) q.2) (hnL : gnL G = 4) (hgd : 2 ≤ gd G) {q : Unit × Mm} (hgr : gr G = none) (hgs : gsf G = q.2) : ∀ (n : Nat) (v1 : Int32) (v2 : Int32) (st : Mm), f_Rdr_readSum_7 r_readCondition r_readPart r_readPiece r_readSum r_readTerm r_readFactor n v1 v2 st = some q → AW G st 7 [(0, .ref (gad G 13)), (1, .int v1), (2, .int v2)] [] := by
  intro n
  induction n with
  | zero => intro v1 v2 st hf; cases hf
  | succ n ih => intro v1 v2 st hf; exact t_Rdr_readSum_7 C CR0 r_readCondition r_readPart r_readPiece r_readSum r_readTerm r_readFactor E d0 hd0 hr_readCondition hr_readPart hr_readPiece hr_readSum hr_readTerm hr_readFactor hnL hgd hgr hgs (f_Rdr_readSum_7 r_readCondition r_readPart r_readPiece r_readSum r_readTerm r_readFactor n) ih v1 v2 st hf
theorem t_Rdr_readSum {G : Cx} (C : CX G prog_10_method_19_code "PaperStars$Reader") (CR0 : CR G (Option.none)) (r_readCondition : Int32 → Mm → Option (Unit × Mm)) (r_readPart : Int32 → Mm → Option (Unit × Mm)) (r_readPiece : Int32 → Mm → Option (Unit × Mm)) (r_readSum : Int32 → Mm → Option (Unit × Mm)) (r_readTerm : Int32 → Mm → Option (Unit × Mm)) (r_readFactor : Int32 → Mm → Option (Unit × Mm)) (E : LCin (gly G)) (d0 : Nat) (hd0 : d0 + 1 ≤ gd G) (hr_readCondition : ∀ (v1 : Int32) (st : Mm) (q : Unit × Mm), r_readCondition v1 st = some q → Con d0 Y41 prog_10_method_15_code 4 (Option.none) (gly G) (fun ad => [.ref (ad 13), .int v1]) st (none) q.2) (hr_readPart : ∀ (v1 : Int32) (st : Mm) (q : Unit × Mm), r_readPart v1 st = some q → Con d0 Y42 prog_10_method_16_code 4 (Option.none) (gly G) (fun ad => [.ref (ad 13), .int v1]) st (none) q.2) (hr_readPiece : ∀ (v1 : Int32) (st : Mm) (q : Unit × Mm), r_readPiece v1 st = some q → Con d0 Y43 prog_10_method_17_code 4 (Option.none) (gly G) (fun ad => [.ref (ad 13), .int v1]) st (none) q.2) (hr_readSum : ∀ (v1 : Int32) (st : Mm) (q : Unit × Mm), r_readSum v1 st = some q → Con d0 Y46 prog_10_method_19_code 4 (Option.none) (gly G) (fun ad => [.ref (ad 13), .int v1]) st (none) q.2) (hr_readTerm : ∀ (v1 : Int32) (st : Mm) (q : Unit × Mm), r_readTerm v1 st = some q → Con d0 Y47 prog_10_method_20_code 4 (Option.none) (gly G) (fun ad => [.ref (ad 13), .int v1]) st (none) q.2) (hr_readFactor : ∀ (v1 : Int32) (st : Mm) (q : Unit × Mm), r_readFactor v1 st = some q → Con d0 Y48 prog_10_method_21_code 2 (Option.none) (gly G) (fun ad => [.ref (ad 13), .int v1]) st (none) q.2) (hnL : gnL G = 4) (hgd : 2 ≤ gd G) {q : Unit × Mm} (hgr : gr G = none) (hgs : gsf G = q.2) (v1 : Int32) (st : Mm) (hf : f_Rdr_readSum r_readCondition r_readPart r_readPiece r_readSum r_readTerm r_readFactor v1 st = some q) : AW G st 0 [(0, .ref (gad G 13)), (1, .int v1)] [] := by
  unfold f_Rdr_readSum at hf
  refine aw_aload_n C 0 0 (j := 0) rfl rfl (by decide +kernel) rfl ?_
  refine aw_iload_n C 1 1 (j := 1) rfl rfl (by decide +kernel) rfl ?_
  obtain ⟨q1, hq1, hf⟩ := ibd hf
  refine aw_callV C (rest := []) (hr_readTerm v1 _ q1 hq1) tb_533 yf_47 yi_47 (lc_13 E) [.int v1] rfl rfl _ rfl hd0 (Nat.le_of_ble_eq_true rfl) (by decide +kernel) rfl ?_
  show AW _ _ _ _ []
  refine aw_iconst C (i0 := 0) (v := 0) (by decide) (by decide +kernel) rfl ?_
  refine aw_istore_n C [(2, .int (0 : Int32)), (0, .ref (gad G 13)), (1, .int v1)] (j := 2) rfl (by rw [hnL]; decide) rfl (by decide +kernel) rfl ?_
  refine aw_sub [(0, .ref (gad G 13)), (1, .int v1), (2, .int (0 : Int32))] [1, 2, 0] rfl ?_
  exact u_Rdr_readSum_7 C CR0 r_readCondition r_readPart r_readPiece r_readSum r_readTerm r_readFactor E d0 hd0 hr_readCondition hr_readPart hr_readPiece hr_readSum hr_readTerm hr_readFactor hnL hgd hgr hgs _ v1 (0 : Int32) _ hf
theorem g_Rdr_readSum {lay : Ly} (r_readCondition : Int32 → Mm → Option (Unit × Mm)) (r_readPart : Int32 → Mm → Option (Unit × Mm)) (r_readPiece : Int32 → Mm → Option (Unit × Mm)) (r_readSum : Int32 → Mm → Option (Unit × Mm)) (r_readTerm : Int32 → Mm → Option (Unit × Mm)) (r_readFactor : Int32 → Mm → Option (Unit × Mm)) (E : LCin lay) (d0 : Nat) (hr_readCondition : ∀ (v1 : Int32) (st : Mm) (q : Unit × Mm), r_readCondition v1 st = some q → Con d0 Y41 prog_10_method_15_code 4 (Option.none) lay (fun ad => [.ref (ad 13), .int v1]) st (none) q.2) (hr_readPart : ∀ (v1 : Int32) (st : Mm) (q : Unit × Mm), r_readPart v1 st = some q → Con d0 Y42 prog_10_method_16_code 4 (Option.none) lay (fun ad => [.ref (ad 13), .int v1]) st (none) q.2) (hr_readPiece : ∀ (v1 : Int32) (st : Mm) (q : Unit × Mm), r_readPiece v1 st = some q → Con d0 Y43 prog_10_method_17_code 4 (Option.none) lay (fun ad => [.ref (ad 13), .int v1]) st (none) q.2) (hr_readSum : ∀ (v1 : Int32) (st : Mm) (q : Unit × Mm), r_readSum v1 st = some q → Con d0 Y46 prog_10_method_19_code 4 (Option.none) lay (fun ad => [.ref (ad 13), .int v1]) st (none) q.2) (hr_readTerm : ∀ (v1 : Int32) (st : Mm) (q : Unit × Mm), r_readTerm v1 st = some q → Con d0 Y47 prog_10_method_20_code 4 (Option.none) lay (fun ad => [.ref (ad 13), .int v1]) st (none) q.2) (hr_readFactor : ∀ (v1 : Int32) (st : Mm) (q : Unit × Mm), r_readFactor v1 st = some q → Con d0 Y48 prog_10_method_21_code 2 (Option.none) lay (fun ad => [.ref (ad 13), .int v1]) st (none) q.2) (hB : 2 ≤ d0 + 1) (v1 : Int32) (st : Mm) (q : Unit × Mm) (hf : f_Rdr_readSum r_readCondition r_readPart r_readPiece r_readSum r_readTerm r_readFactor v1 st = some q) : Con (d0 + 1) Y46 prog_10_method_19_code 4 (Option.none) lay (fun ad => [.ref (ad 13), .int v1]) st (none) q.2 :=
  am_met yf_46.2.2.2.2.2 (fun ad => Nat.le_of_ble_eq_true rfl) (fun G C CR0 e1 e2 e3 e4 e5 => t_Rdr_readSum C CR0 r_readCondition r_readPart r_readPiece r_readSum r_readTerm r_readFactor (by rw [e1]; exact E) d0 (by rw [e5]; exact Nat.le_refl _) (by rw [e1]; exact hr_readCondition) (by rw [e1]; exact hr_readPart) (by rw [e1]; exact hr_readPiece) (by rw [e1]; exact hr_readSum) (by rw [e1]; exact hr_readTerm) (by rw [e1]; exact hr_readFactor) e2 (by rw [e5]; exact hB) e3 e4 v1 st hf)
def b_Rdr_readPiece_17 (r_readCondition : Int32 → Mm → Option (Unit × Mm)) (r_readPart : Int32 → Mm → Option (Unit × Mm)) (r_readPiece : Int32 → Mm → Option (Unit × Mm)) (r_readSum : Int32 → Mm → Option (Unit × Mm)) (r_readTerm : Int32 → Mm → Option (Unit × Mm)) (r_readFactor : Int32 → Mm → Option (Unit × Mm)) (v1 : Int32) (v2 : Int32) (st : Mm) : Option (Unit × Mm) :=
  (f_Rdr_mayOpen v1 st).bind (fun q1 => if q1.1 = 0 then (some ((), q1.2)) else (lt_ ((q1.2.1 13 6) + (1 : Int32)) (fun a3 => if v2 = (33 : Int32) then ((r_readPiece (v1 + (1 : Int32)) (sI q1.2 13 6 a3)).bind (fun q5 => (f_Cond_put (33 : Int32) (0 : Int32) q5.2).bind (fun q6 => some ((), q6.2)))) else ((r_readCondition (v1 + (1 : Int32)) (sI q1.2 13 6 a3)).bind (fun q7 => (f_Rdr_take (41 : Int32) q7.2).bind (fun q8 => some ((), q8.2)))))))
def b_Rdr_readPiece_115 (r_readCondition : Int32 → Mm → Option (Unit × Mm)) (r_readPart : Int32 → Mm → Option (Unit × Mm)) (r_readPiece : Int32 → Mm → Option (Unit × Mm)) (r_readSum : Int32 → Mm → Option (Unit × Mm)) (r_readTerm : Int32 → Mm → Option (Unit × Mm)) (r_readFactor : Int32 → Mm → Option (Unit × Mm)) (v1 : Int32) (v3 : Int32) (st : Mm) : Option (Unit × Mm) :=
  lt_ ((st.1 13 6) + (1 : Int32)) (fun a1 => (r_readSum v1 (sI st 13 6 a1)).bind (fun q2 => (f_Cond_put v3 (0 : Int32) q2.2).bind (fun q3 => some ((), q3.2))))
def f_Rdr_readPiece (r_readCondition : Int32 → Mm → Option (Unit × Mm)) (r_readPart : Int32 → Mm → Option (Unit × Mm)) (r_readPiece : Int32 → Mm → Option (Unit × Mm)) (r_readSum : Int32 → Mm → Option (Unit × Mm)) (r_readTerm : Int32 → Mm → Option (Unit × Mm)) (r_readFactor : Int32 → Mm → Option (Unit × Mm)) (v1 : Int32) (st : Mm) : Option (Unit × Mm) :=
  (f_Rdr_look st).bind (fun q1 => if q1.1 = (33 : Int32) then (b_Rdr_readPiece_17 r_readCondition r_readPart r_readPiece r_readSum r_readTerm r_readFactor v1 q1.1 q1.2) else (if q1.1 = (40 : Int32) then (b_Rdr_readPiece_17 r_readCondition r_readPart r_readPiece r_readSum r_readTerm r_readFactor v1 q1.1 q1.2) else ((r_readSum v1 q1.2).bind (fun q4 => (f_Rdr_look q4.2).bind (fun q5 => if q5.1 = (60 : Int32) then (b_Rdr_readPiece_115 r_readCondition r_readPart r_readPiece r_readSum r_readTerm r_readFactor v1 q5.1 q5.2) else (if q5.1 = (62 : Int32) then (b_Rdr_readPiece_115 r_readCondition r_readPart r_readPiece r_readSum r_readTerm r_readFactor v1 q5.1 q5.2) else (if q5.1 = (61 : Int32) then (b_Rdr_readPiece_115 r_readCondition r_readPart r_readPiece r_readSum r_readTerm r_readFactor v1 q5.1 q5.2) else ((f_Rdr_fail (1 : Int32) (q5.2.1 13 6) q5.2).bind (fun q9 => some ((), q9.2))))))))))
theorem t_Rdr_readPiece_17 {G : Cx} (C : CX G prog_10_method_17_code "PaperStars$Reader") (CR0 : CR G (Option.none)) (r_readCondition : Int32 → Mm → Option (Unit × Mm)) (r_readPart : Int32 → Mm → Option (Unit × Mm)) (r_readPiece : Int32 → Mm → Option (Unit × Mm)) (r_readSum : Int32 → Mm → Option (Unit × Mm)) (r_readTerm : Int32 → Mm → Option (Unit × Mm)) (r_readFactor : Int32 → Mm → Option (Unit × Mm)) (E : LCin (gly G)) (d0 : Nat) (hd0 : d0 + 1 ≤ gd G) (hr_readCondition : ∀ (v1 : Int32) (st : Mm) (q : Unit × Mm), r_readCondition v1 st = some q → Con d0 Y41 prog_10_method_15_code 4 (Option.none) (gly G) (fun ad => [.ref (ad 13), .int v1]) st (none) q.2) (hr_readPart : ∀ (v1 : Int32) (st : Mm) (q : Unit × Mm), r_readPart v1 st = some q → Con d0 Y42 prog_10_method_16_code 4 (Option.none) (gly G) (fun ad => [.ref (ad 13), .int v1]) st (none) q.2) (hr_readPiece : ∀ (v1 : Int32) (st : Mm) (q : Unit × Mm), r_readPiece v1 st = some q → Con d0 Y43 prog_10_method_17_code 4 (Option.none) (gly G) (fun ad => [.ref (ad 13), .int v1]) st (none) q.2) (hr_readSum : ∀ (v1 : Int32) (st : Mm) (q : Unit × Mm), r_readSum v1 st = some q → Con d0 Y46 prog_10_method_19_code 4 (Option.none) (gly G) (fun ad => [.ref (ad 13), .int v1]) st (none) q.2) (hr_readTerm : ∀ (v1 : Int32) (st : Mm) (q : Unit × Mm), r_readTerm v1 st = some q → Con d0 Y47 prog_10_method_20_code 4 (Option.none) (gly G) (fun ad => [.ref (ad 13), .int v1]) st (none) q.2) (hr_readFactor : ∀ (v1 : Int32) (st : Mm) (q : Unit × Mm), r_readFactor v1 st = some q → Con d0 Y48 prog_10_method_21_code 2 (Option.none) (gly G) (fun ad => [.ref (ad 13), .int v1]) st (none) q.2) (hnL : gnL G = 4) (hgd : 2 ≤ gd G) {q : Unit × Mm} (hgr : gr G = none) (hgs : gsf G = q.2) (v1 : Int32) (v2 : Int32) (st : Mm) (hf : b_Rdr_readPiece_17 r_readCondition r_readPart r_readPiece r_readSum r_readTerm r_readFactor v1 v2 st = some q) : AW G st 17 [(0, .ref (gad G 13)), (1, .int v1), (2, .int v2)] [] := by
  unfold b_Rdr_readPiece_17 at hf
  refine aw_aload_n C 0 0 (j := 0) rfl rfl (by decide +kernel) rfl ?_
  refine aw_iload_n C 1 1 (j := 1) rfl rfl (by decide +kernel) rfl ?_
  obtain ⟨q1, hq1, hf⟩ := ibd hf
  refine aw_callV C (rest := []) (c_Rdr_mayOpen E v1 _ q1 hq1) tb_521 yf_44 yi_44 (lc_13 E) [.int v1] rfl rfl _ rfl (Nat.le_trans (by decide) hgd) (Nat.le_of_ble_eq_true rfl) (by decide +kernel) rfl ?_
  show AW _ _ _ _ [.int q1.1]
  refine aw_if_ne C (tgt := 26) (off := 4) (by decide +kernel) (by decide) rfl (fun c2 => ?_) (fun c2 => ?_)
  · have hf := ift c2 hf
    exact aw_vretq C CR0 hgr hgs hf (by decide +kernel)
  · have hf := iff_ c2 hf
    refine aw_aload_n C 0 0 (j := 0) rfl rfl (by decide +kernel) rfl ?_
    refine aw_dup C rfl (by decide +kernel) rfl ?_
    refine aw_get C (k := 6) fc_8 (lc_13 E) rfl (by decide) tb_172 (by decide +kernel) rfl ?_
    refine aw_iconst C (i0 := 1) (v := 1) (by decide) (by decide +kernel) rfl ?_
    refine aw_iadd C (by decide +kernel) rfl ?_
    obtain ⟨a3, ha3⟩ : ∃ z, z = ((q1.2.1 13 6) + (1 : Int32)) := ⟨_, rfl⟩
    refine aw_nmi ha3 ?_
    have hf := ilt ha3 hf
    refine aw_put C (k := 6) fc_8 (lc_13 E) rfl (by decide) rfl rfl tb_172 (by decide +kernel) rfl ?_
    refine aw_iload_n C 2 2 (j := 2) rfl rfl (by decide +kernel) rfl ?_
    refine aw_bipush C (i0 := 33) (v := 33) (by decide) (by decide +kernel) rfl ?_
    refine aw_icmp_ne C (tgt := 63) (off := 24) (by decide +kernel) (by decide) rfl (fun c4 => ?_) (fun c4 => ?_)
    · have hf := ift c4 hf
      refine aw_aload_n C 0 0 (j := 0) rfl rfl (by decide +kernel) rfl ?_
      refine aw_iload_n C 1 1 (j := 1) rfl rfl (by decide +kernel) rfl ?_
      refine aw_iconst C (i0 := 1) (v := 1) (by decide) (by decide +kernel) rfl ?_
      refine aw_iadd C (by decide +kernel) rfl ?_
      obtain ⟨q5, hq5, hf⟩ := ibd hf
      refine aw_callV C (rest := []) (hr_readPiece (v1 + (1 : Int32)) _ q5 hq5) tb_517 yf_43 yi_43 (lc_13 E) [.int (v1 + (1 : Int32))] rfl rfl _ rfl hd0 (Nat.le_of_ble_eq_true rfl) (by decide +kernel) rfl ?_
      show AW _ _ _ _ []
      refine aw_aload_n C 0 0 (j := 0) rfl rfl (by decide +kernel) rfl ?_
      refine aw_getr C (k := 1) fc_8 (lc_13 E) rfl (by decide) tb_167 (by decide +kernel) rfl ?_
      refine aw_bipush C (i0 := 33) (v := 33) (by decide) (by decide +kernel) rfl ?_
      refine aw_iconst C (i0 := 0) (v := 0) (by decide) (by decide +kernel) rfl ?_
      obtain ⟨q6, hq6, hf⟩ := ibd hf
      refine aw_callV C (rest := []) (c_Cond_put E (33 : Int32) (0 : Int32) _ q6 hq6) tb_525 yf_45 yi_45 (lc_17 E) [.int (33 : Int32), .int (0 : Int32)] rfl rfl _ rfl (Nat.le_trans (by decide) hgd) (Nat.le_of_ble_eq_true rfl) (by decide +kernel) rfl ?_
      show AW _ _ _ _ [.int q6.1]
      refine aw_pop C rfl (by decide +kernel) rfl ?_
      refine aw_goto C (tgt := 76) (off := 16) (by decide +kernel) (by decide) ?_
      exact aw_vretq C CR0 hgr hgs hf (by decide +kernel)
    · have hf := iff_ c4 hf
      refine aw_aload_n C 0 0 (j := 0) rfl rfl (by decide +kernel) rfl ?_
      refine aw_iload_n C 1 1 (j := 1) rfl rfl (by decide +kernel) rfl ?_
      refine aw_iconst C (i0 := 1) (v := 1) (by decide) (by decide +kernel) rfl ?_
      refine aw_iadd C (by decide +kernel) rfl ?_
      obtain ⟨q7, hq7, hf⟩ := ibd hf
      refine aw_callV C (rest := []) (hr_readCondition (v1 + (1 : Int32)) _ q7 hq7) tb_509 yf_41 yi_41 (lc_13 E) [.int (v1 + (1 : Int32))] rfl rfl _ rfl hd0 (Nat.le_of_ble_eq_true rfl) (by decide +kernel) rfl ?_
      show AW _ _ _ _ []
      refine aw_aload_n C 0 0 (j := 0) rfl rfl (by decide +kernel) rfl ?_
      refine aw_bipush C (i0 := 41) (v := 41) (by decide) (by decide +kernel) rfl ?_
      obtain ⟨q8, hq8, hf⟩ := ibd hf
      refine aw_callV C (rest := []) (c_Rdr_take E (41 : Int32) _ q8 hq8) tb_501 yf_39 yi_39 (lc_13 E) [.int (41 : Int32)] rfl rfl _ rfl (Nat.le_trans (by decide) hgd) (Nat.le_of_ble_eq_true rfl) (by decide +kernel) rfl ?_
      show AW _ _ _ _ []
      exact aw_vretq C CR0 hgr hgs hf (by decide +kernel)
theorem t_Rdr_readPiece_115 {G : Cx} (C : CX G prog_10_method_17_code "PaperStars$Reader") (CR0 : CR G (Option.none)) (r_readCondition : Int32 → Mm → Option (Unit × Mm)) (r_readPart : Int32 → Mm → Option (Unit × Mm)) (r_readPiece : Int32 → Mm → Option (Unit × Mm)) (r_readSum : Int32 → Mm → Option (Unit × Mm)) (r_readTerm : Int32 → Mm → Option (Unit × Mm)) (r_readFactor : Int32 → Mm → Option (Unit × Mm)) (E : LCin (gly G)) (d0 : Nat) (hd0 : d0 + 1 ≤ gd G) (hr_readCondition : ∀ (v1 : Int32) (st : Mm) (q : Unit × Mm), r_readCondition v1 st = some q → Con d0 Y41 prog_10_method_15_code 4 (Option.none) (gly G) (fun ad => [.ref (ad 13), .int v1]) st (none) q.2) (hr_readPart : ∀ (v1 : Int32) (st : Mm) (q : Unit × Mm), r_readPart v1 st = some q → Con d0 Y42 prog_10_method_16_code 4 (Option.none) (gly G) (fun ad => [.ref (ad 13), .int v1]) st (none) q.2) (hr_readPiece : ∀ (v1 : Int32) (st : Mm) (q : Unit × Mm), r_readPiece v1 st = some q → Con d0 Y43 prog_10_method_17_code 4 (Option.none) (gly G) (fun ad => [.ref (ad 13), .int v1]) st (none) q.2) (hr_readSum : ∀ (v1 : Int32) (st : Mm) (q : Unit × Mm), r_readSum v1 st = some q → Con d0 Y46 prog_10_method_19_code 4 (Option.none) (gly G) (fun ad => [.ref (ad 13), .int v1]) st (none) q.2) (hr_readTerm : ∀ (v1 : Int32) (st : Mm) (q : Unit × Mm), r_readTerm v1 st = some q → Con d0 Y47 prog_10_method_20_code 4 (Option.none) (gly G) (fun ad => [.ref (ad 13), .int v1]) st (none) q.2) (hr_readFactor : ∀ (v1 : Int32) (st : Mm) (q : Unit × Mm), r_readFactor v1 st = some q → Con d0 Y48 prog_10_method_21_code 2 (Option.none) (gly G) (fun ad => [.ref (ad 13), .int v1]) st (none) q.2) (hnL : gnL G = 4) (hgd : 2 ≤ gd G) {q : Unit × Mm} (hgr : gr G = none) (hgs : gsf G = q.2) (v1 : Int32) (v3 : Int32) (st : Mm) (hf : b_Rdr_readPiece_115 r_readCondition r_readPart r_readPiece r_readSum r_readTerm r_readFactor v1 v3 st = some q) : AW G st 115 [(0, .ref (gad G 13)), (1, .int v1), (3, .int v3)] [] := by
  unfold b_Rdr_readPiece_115 at hf
  refine aw_aload_n C 0 0 (j := 0) rfl rfl (by decide +kernel) rfl ?_
  refine aw_dup C rfl (by decide +kernel) rfl ?_
  refine aw_get C (k := 6) fc_8 (lc_13 E) rfl (by decide) tb_172 (by decide +kernel) rfl ?_
  refine aw_iconst C (i0 := 1) (v := 1) (by decide) (by decide +kernel) rfl ?_
  refine aw_iadd C (by decide +kernel) rfl ?_
  obtain ⟨a1, ha1⟩ : ∃ z, z = ((st.1 13 6) + (1 : Int32)) := ⟨_, rfl⟩
  refine aw_nmi ha1 ?_
  have hf := ilt ha1 hf
  refine aw_put C (k := 6) fc_8 (lc_13 E) rfl (by decide) rfl rfl tb_172 (by decide +kernel) rfl ?_
  refine aw_aload_n C 0 0 (j := 0) rfl rfl (by decide +kernel) rfl ?_
  refine aw_iload_n C 1 1 (j := 1) rfl rfl (by decide +kernel) rfl ?_
  obtain ⟨q2, hq2, hf⟩ := ibd hf
  refine aw_callV C (rest := []) (hr_readSum v1 _ q2 hq2) tb_529 yf_46 yi_46 (lc_13 E) [.int v1] rfl rfl _ rfl hd0 (Nat.le_of_ble_eq_true rfl) (by decide +kernel) rfl ?_
  show AW _ _ _ _ []
  refine aw_aload_n C 0 0 (j := 0) rfl rfl (by decide +kernel) rfl ?_
  refine aw_getr C (k := 1) fc_8 (lc_13 E) rfl (by decide) tb_167 (by decide +kernel) rfl ?_
  refine aw_iload_n C 3 2 (j := 3) rfl rfl (by decide +kernel) rfl ?_
  refine aw_iconst C (i0 := 0) (v := 0) (by decide) (by decide +kernel) rfl ?_
  obtain ⟨q3, hq3, hf⟩ := ibd hf
  refine aw_callV C (rest := []) (c_Cond_put E v3 (0 : Int32) _ q3 hq3) tb_525 yf_45 yi_45 (lc_17 E) [.int v3, .int (0 : Int32)] rfl rfl _ rfl (Nat.le_trans (by decide) hgd) (Nat.le_of_ble_eq_true rfl) (by decide +kernel) rfl ?_
  show AW _ _ _ _ [.int q3.1]
  refine aw_pop C rfl (by decide +kernel) rfl ?_
  exact aw_vretq C CR0 hgr hgs hf (by decide +kernel)
theorem t_Rdr_readPiece {G : Cx} (C : CX G prog_10_method_17_code "PaperStars$Reader") (CR0 : CR G (Option.none)) (r_readCondition : Int32 → Mm → Option (Unit × Mm)) (r_readPart : Int32 → Mm → Option (Unit × Mm)) (r_readPiece : Int32 → Mm → Option (Unit × Mm)) (r_readSum : Int32 → Mm → Option (Unit × Mm)) (r_readTerm : Int32 → Mm → Option (Unit × Mm)) (r_readFactor : Int32 → Mm → Option (Unit × Mm)) (E : LCin (gly G)) (d0 : Nat) (hd0 : d0 + 1 ≤ gd G) (hr_readCondition : ∀ (v1 : Int32) (st : Mm) (q : Unit × Mm), r_readCondition v1 st = some q → Con d0 Y41 prog_10_method_15_code 4 (Option.none) (gly G) (fun ad => [.ref (ad 13), .int v1]) st (none) q.2) (hr_readPart : ∀ (v1 : Int32) (st : Mm) (q : Unit × Mm), r_readPart v1 st = some q → Con d0 Y42 prog_10_method_16_code 4 (Option.none) (gly G) (fun ad => [.ref (ad 13), .int v1]) st (none) q.2) (hr_readPiece : ∀ (v1 : Int32) (st : Mm) (q : Unit × Mm), r_readPiece v1 st = some q → Con d0 Y43 prog_10_method_17_code 4 (Option.none) (gly G) (fun ad => [.ref (ad 13), .int v1]) st (none) q.2) (hr_readSum : ∀ (v1 : Int32) (st : Mm) (q : Unit × Mm), r_readSum v1 st = some q → Con d0 Y46 prog_10_method_19_code 4 (Option.none) (gly G) (fun ad => [.ref (ad 13), .int v1]) st (none) q.2) (hr_readTerm : ∀ (v1 : Int32) (st : Mm) (q : Unit × Mm), r_readTerm v1 st = some q → Con d0 Y47 prog_10_method_20_code 4 (Option.none) (gly G) (fun ad => [.ref (ad 13), .int v1]) st (none) q.2) (hr_readFactor : ∀ (v1 : Int32) (st : Mm) (q : Unit × Mm), r_readFactor v1 st = some q → Con d0 Y48 prog_10_method_21_code 2 (Option.none) (gly G) (fun ad => [.ref (ad 13), .int v1]) st (none) q.2) (hnL : gnL G = 4) (hgd : 2 ≤ gd G) {q : Unit × Mm} (hgr : gr G = none) (hgs : gsf G = q.2) (v1 : Int32) (st : Mm) (hf : f_Rdr_readPiece r_readCondition r_readPart r_readPiece r_readSum r_readTerm r_readFactor v1 st = some q) : AW G st 0 [(0, .ref (gad G 13)), (1, .int v1)] [] := by
  unfold f_Rdr_readPiece at hf
  refine aw_aload_n C 0 0 (j := 0) rfl rfl (by decide +kernel) rfl ?_
  obtain ⟨q1, hq1, hf⟩ := ibd hf
  refine aw_callV C (rest := []) (c_Rdr_look E _ q1 hq1) tb_484 yf_35 yi_35 (lc_13 E) [] rfl rfl _ rfl (Nat.le_trans (by decide) hgd) (Nat.le_of_ble_eq_true rfl) (by decide +kernel) rfl ?_
  show AW _ _ _ _ [.int q1.1]
  refine aw_istore_n C [(2, .int q1.1), (0, .ref (gad G 13)), (1, .int v1)] (j := 2) rfl (by rw [hnL]; decide) rfl (by decide +kernel) rfl ?_
  refine aw_iload_n C 2 0 (j := 2) rfl rfl (by decide +kernel) rfl ?_
  refine aw_bipush C (i0 := 33) (v := 33) (by decide) (by decide +kernel) rfl ?_
  refine aw_icmp_eq C (tgt := 17) (off := 9) (by decide +kernel) (by decide) rfl (fun c2 => ?_) (fun c2 => ?_)
  · have hf := ift c2 hf
    refine aw_sub [(0, .ref (gad G 13)), (1, .int v1), (2, .int q1.1)] [1, 2, 0] rfl ?_
    exact t_Rdr_readPiece_17 C CR0 r_readCondition r_readPart r_readPiece r_readSum r_readTerm r_readFactor E d0 hd0 hr_readCondition hr_readPart hr_readPiece hr_readSum hr_readTerm hr_readFactor hnL hgd hgr hgs v1 q1.1 _ hf
  · have hf := iff_ c2 hf
    refine aw_iload_n C 2 0 (j := 2) rfl rfl (by decide +kernel) rfl ?_
    refine aw_bipush C (i0 := 40) (v := 40) (by decide) (by decide +kernel) rfl ?_
    refine aw_icmp_ne C (tgt := 77) (off := 63) (by decide +kernel) (by decide) rfl (fun c3 => ?_) (fun c3 => ?_)
    · have hf := ift c3 hf
      refine aw_sub [(0, .ref (gad G 13)), (1, .int v1), (2, .int q1.1)] [1, 2, 0] rfl ?_
      exact t_Rdr_readPiece_17 C CR0 r_readCondition r_readPart r_readPiece r_readSum r_readTerm r_readFactor E d0 hd0 hr_readCondition hr_readPart hr_readPiece hr_readSum hr_readTerm hr_readFactor hnL hgd hgr hgs v1 q1.1 _ hf
    · have hf := iff_ c3 hf
      refine aw_aload_n C 0 1 (j := 0) rfl rfl (by decide +kernel) rfl ?_
      refine aw_iload_n C 1 2 (j := 1) rfl rfl (by decide +kernel) rfl ?_
      obtain ⟨q4, hq4, hf⟩ := ibd hf
      refine aw_callV C (rest := []) (hr_readSum v1 _ q4 hq4) tb_529 yf_46 yi_46 (lc_13 E) [.int v1] rfl rfl _ rfl hd0 (Nat.le_of_ble_eq_true rfl) (by decide +kernel) rfl ?_
      show AW _ _ _ _ []
      refine aw_aload_n C 0 1 (j := 0) rfl rfl (by decide +kernel) rfl ?_
      obtain ⟨q5, hq5, hf⟩ := ibd hf
      refine aw_callV C (rest := []) (c_Rdr_look E _ q5 hq5) tb_484 yf_35 yi_35 (lc_13 E) [] rfl rfl _ rfl (Nat.le_trans (by decide) hgd) (Nat.le_of_ble_eq_true rfl) (by decide +kernel) rfl ?_
      show AW _ _ _ _ [.int q5.1]
      refine aw_istore_n C [(3, .int q5.1), (2, .int q1.1), (0, .ref (gad G 13)), (1, .int v1)] (j := 3) rfl (by rw [hnL]; decide) rfl (by decide +kernel) rfl ?_
      refine aw_iload_n C 3 0 (j := 3) rfl rfl (by decide +kernel) rfl ?_
      refine aw_bipush C (i0 := 60) (v := 60) (by decide) (by decide +kernel) rfl ?_
      refine aw_icmp_eq C (tgt := 115) (off := 25) (by decide +kernel) (by decide) rfl (fun c6 => ?_) (fun c6 => ?_)
      · have hf := ift c6 hf
        refine aw_sub [(0, .ref (gad G 13)), (1, .int v1), (3, .int q5.1)] [2, 3, 0] rfl ?_
        exact t_Rdr_readPiece_115 C CR0 r_readCondition r_readPart r_readPiece r_readSum r_readTerm r_readFactor E d0 hd0 hr_readCondition hr_readPart hr_readPiece hr_readSum hr_readTerm hr_readFactor hnL hgd hgr hgs v1 q5.1 _ hf
      · have hf := iff_ c6 hf
        refine aw_iload_n C 3 0 (j := 3) rfl rfl (by decide +kernel) rfl ?_
        refine aw_bipush C (i0 := 62) (v := 62) (by decide) (by decide +kernel) rfl ?_
        refine aw_icmp_eq C (tgt := 115) (off := 19) (by decide +kernel) (by decide) rfl (fun c7 => ?_) (fun c7 => ?_)
        · have hf := ift c7 hf
          refine aw_sub [(0, .ref (gad G 13)), (1, .int v1), (3, .int q5.1)] [2, 3, 0] rfl ?_
          exact t_Rdr_readPiece_115 C CR0 r_readCondition r_readPart r_readPiece r_readSum r_readTerm r_readFactor E d0 hd0 hr_readCondition hr_readPart hr_readPiece hr_readSum hr_readTerm hr_readFactor hnL hgd hgr hgs v1 q5.1 _ hf
        · have hf := iff_ c7 hf
          refine aw_iload_n C 3 0 (j := 3) rfl rfl (by decide +kernel) rfl ?_
          refine aw_bipush C (i0 := 61) (v := 61) (by decide) (by decide +kernel) rfl ?_
          refine aw_icmp_eq C (tgt := 115) (off := 13) (by decide +kernel) (by decide) rfl (fun c8 => ?_) (fun c8 => ?_)
          · have hf := ift c8 hf
            refine aw_sub [(0, .ref (gad G 13)), (1, .int v1), (3, .int q5.1)] [2, 3, 0] rfl ?_
            exact t_Rdr_readPiece_115 C CR0 r_readCondition r_readPart r_readPiece r_readSum r_readTerm r_readFactor E d0 hd0 hr_readCondition hr_readPart hr_readPiece hr_readSum hr_readTerm hr_readFactor hnL hgd hgr hgs v1 q5.1 _ hf
          · have hf := iff_ c8 hf
            refine aw_aload_n C 0 2 (j := 0) rfl rfl (by decide +kernel) rfl ?_
            refine aw_iconst C (i0 := 1) (v := 1) (by decide) (by decide +kernel) rfl ?_
            refine aw_aload_n C 0 2 (j := 0) rfl rfl (by decide +kernel) rfl ?_
            refine aw_get C (k := 6) fc_8 (lc_13 E) rfl (by decide) tb_172 (by decide +kernel) rfl ?_
            obtain ⟨q9, hq9, hf⟩ := ibd hf
            refine aw_callV C (rest := []) (c_Rdr_fail E (1 : Int32) (q5.2.1 13 6) _ q9 hq9) tb_488 yf_36 yi_36 (lc_13 E) [.int (1 : Int32), .int (q5.2.1 13 6)] rfl rfl _ rfl (Nat.le_trans (by decide) hgd) (Nat.le_of_ble_eq_true rfl) (by decide +kernel) rfl ?_
            show AW _ _ _ _ []
            exact aw_vretq C CR0 hgr hgs hf (by decide +kernel)
theorem g_Rdr_readPiece {lay : Ly} (r_readCondition : Int32 → Mm → Option (Unit × Mm)) (r_readPart : Int32 → Mm → Option (Unit × Mm)) (r_readPiece : Int32 → Mm → Option (Unit × Mm)) (r_readSum : Int32 → Mm → Option (Unit × Mm)) (r_readTerm : Int32 → Mm → Option (Unit × Mm)) (r_readFactor : Int32 → Mm → Option (Unit × Mm)) (E : LCin lay) (d0 : Nat) (hr_readCondition : ∀ (v1 : Int32) (st : Mm) (q : Unit × Mm), r_readCondition v1 st = some q → Con d0 Y41 prog_10_method_15_code 4 (Option.none) lay (fun ad => [.ref (ad 13), .int v1]) st (none) q.2) (hr_readPart : ∀ (v1 : Int32) (st : Mm) (q : Unit × Mm), r_readPart v1 st = some q → Con d0 Y42 prog_10_method_16_code 4 (Option.none) lay (fun ad => [.ref (ad 13), .int v1]) st (none) q.2) (hr_readPiece : ∀ (v1 : Int32) (st : Mm) (q : Unit × Mm), r_readPiece v1 st = some q → Con d0 Y43 prog_10_method_17_code 4 (Option.none) lay (fun ad => [.ref (ad 13), .int v1]) st (none) q.2) (hr_readSum : ∀ (v1 : Int32) (st : Mm) (q : Unit × Mm), r_readSum v1 st = some q → Con d0 Y46 prog_10_method_19_code 4 (Option.none) lay (fun ad => [.ref (ad 13), .int v1]) st (none) q.2) (hr_readTerm : ∀ (v1 : Int32) (st : Mm) (q : Unit × Mm), r_readTerm v1 st = some q → Con d0 Y47 prog_10_method_20_code 4 (Option.none) lay (fun ad => [.ref (ad 13), .int v1]) st (none) q.2) (hr_readFactor : ∀ (v1 : Int32) (st : Mm) (q : Unit × Mm), r_readFactor v1 st = some q → Con d0 Y48 prog_10_method_21_code 2 (Option.none) lay (fun ad => [.ref (ad 13), .int v1]) st (none) q.2) (hB : 2 ≤ d0 + 1) (v1 : Int32) (st : Mm) (q : Unit × Mm) (hf : f_Rdr_readPiece r_readCondition r_readPart r_readPiece r_readSum r_readTerm r_readFactor v1 st = some q) : Con (d0 + 1) Y43 prog_10_method_17_code 4 (Option.none) lay (fun ad => [.ref (ad 13), .int v1]) st (none) q.2 :=
  am_met yf_43.2.2.2.2.2 (fun ad => Nat.le_of_ble_eq_true rfl) (fun G C CR0 e1 e2 e3 e4 e5 => t_Rdr_readPiece C CR0 r_readCondition r_readPart r_readPiece r_readSum r_readTerm r_readFactor (by rw [e1]; exact E) d0 (by rw [e5]; exact Nat.le_refl _) (by rw [e1]; exact hr_readCondition) (by rw [e1]; exact hr_readPart) (by rw [e1]; exact hr_readPiece) (by rw [e1]; exact hr_readSum) (by rw [e1]; exact hr_readTerm) (by rw [e1]; exact hr_readFactor) e2 (by rw [e5]; exact hB) e3 e4 v1 st hf)
def b_Rdr_readPart_4 (r_readCondition : Int32 → Mm → Option (Unit × Mm)) (r_readPart : Int32 → Mm → Option (Unit × Mm)) (r_readPiece : Int32 → Mm → Option (Unit × Mm)) (r_readSum : Int32 → Mm → Option (Unit × Mm)) (r_readTerm : Int32 → Mm → Option (Unit × Mm)) (r_readFactor : Int32 → Mm → Option (Unit × Mm)) (k4 : Int32 → Int32 → Int32 → Mm → Option (Unit × Mm)) (v1 : Int32) (v2 : Int32) (v3 : Int32) (st : Mm) : Option (Unit × Mm) :=
  if (160 : Int32) ≤ v3 then (some ((), st)) else (if (st.1 13 7) = 0 then ((r_readPiece v1 st).bind (fun q3 => (f_Cond_aimHere v2 q3.2).bind (fun q4 => (f_Rdr_look q4.2).bind (fun q5 => if q5.1 = (38 : Int32) then (lt_ ((q5.2.1 13 6) + (1 : Int32)) (fun a7 => (f_Cond_put (38 : Int32) (0 : Int32) (sI q5.2 13 6 a7)).bind (fun q8 => lt_ (v3 + (1 : Int32)) (fun a9 => k4 v1 q8.1 a9 q8.2)))) else (some ((), q5.2)))))) else (some ((), st)))
def f_Rdr_readPart_4 (r_readCondition : Int32 → Mm → Option (Unit × Mm)) (r_readPart : Int32 → Mm → Option (Unit × Mm)) (r_readPiece : Int32 → Mm → Option (Unit × Mm)) (r_readSum : Int32 → Mm → Option (Unit × Mm)) (r_readTerm : Int32 → Mm → Option (Unit × Mm)) (r_readFactor : Int32 → Mm → Option (Unit × Mm)) : Nat → Int32 → Int32 → Int32 → Mm → Option (Unit × Mm)
  | 0 => fun _ _ _ _ => none
  | n + 1 => b_Rdr_readPart_4 r_readCondition r_readPart r_readPiece r_readSum r_readTerm r_readFactor (f_Rdr_readPart_4 r_readCondition r_readPart r_readPiece r_readSum r_readTerm r_readFactor n)
def f_Rdr_readPart (r_readCondition : Int32 → Mm → Option (Unit × Mm)) (r_readPart : Int32 → Mm → Option (Unit × Mm)) (r_readPiece : Int32 → Mm → Option (Unit × Mm)) (r_readSum : Int32 → Mm → Option (Unit × Mm)) (r_readTerm : Int32 → Mm → Option (Unit × Mm)) (r_readFactor : Int32 → Mm → Option (Unit × Mm)) (v1 : Int32) (st : Mm) : Option (Unit × Mm) :=
  f_Rdr_readPart_4 r_readCondition r_readPart r_readPiece r_readSum r_readTerm r_readFactor 1000000 v1 (-1 : Int32) (0 : Int32) st
theorem t_Rdr_readPart_4 {G : Cx} (C : CX G prog_10_method_16_code "PaperStars$Reader") (CR0 : CR G (Option.none)) (r_readCondition : Int32 → Mm → Option (Unit × Mm)) (r_readPart : Int32 → Mm → Option (Unit × Mm)) (r_readPiece : Int32 → Mm → Option (Unit × Mm)) (r_readSum : Int32 → Mm → Option (Unit × Mm)) (r_readTerm : Int32 → Mm → Option (Unit × Mm)) (r_readFactor : Int32 → Mm → Option (Unit × Mm)) (E : LCin (gly G)) (d0 : Nat) (hd0 : d0 + 1 ≤ gd G) (hr_readCondition : ∀ (v1 : Int32) (st : Mm) (q : Unit × Mm), r_readCondition v1 st = some q → Con d0 Y41 prog_10_method_15_code 4 (Option.none) (gly G) (fun ad => [.ref (ad 13), .int v1]) st (none) q.2) (hr_readPart : ∀ (v1 : Int32) (st : Mm) (q : Unit × Mm), r_readPart v1 st = some q → Con d0 Y42 prog_10_method_16_code 4 (Option.none) (gly G) (fun ad => [.ref (ad 13), .int v1]) st (none) q.2) (hr_readPiece : ∀ (v1 : Int32) (st : Mm) (q : Unit × Mm), r_readPiece v1 st = some q → Con d0 Y43 prog_10_method_17_code 4 (Option.none) (gly G) (fun ad => [.ref (ad 13), .int v1]) st (none) q.2) (hr_readSum : ∀ (v1 : Int32) (st : Mm) (q : Unit × Mm), r_readSum v1 st = some q → Con d0 Y46 prog_10_method_19_code 4 (Option.none) (gly G) (fun ad => [.ref (ad 13), .int v1]) st (none) q.2) (hr_readTerm : ∀ (v1 : Int32) (st : Mm) (q : Unit × Mm), r_readTerm v1 st = some q → Con d0 Y47 prog_10_method_20_code 4 (Option.none) (gly G) (fun ad => [.ref (ad 13), .int v1]) st (none) q.2) (hr_readFactor : ∀ (v1 : Int32) (st : Mm) (q : Unit × Mm), r_readFactor v1 st = some q → Con d0 Y48 prog_10_method_21_code 2 (Option.none) (gly G) (fun ad => [.ref (ad 13), .int v1]) st (none) q.2) (hnL : gnL G = 4) (hgd : 2 ≤ gd G) {q : Unit × Mm} (hgr : gr G = none) (hgs : gsf G = q.2) (k4 : Int32 → Int32 → Int32 → Mm → Option (Unit × Mm)) (hk4 : ∀ (v1 : Int32) (v2 : Int32) (v3 : Int32) (st : Mm), k4 v1 v2 v3 st = some q → AW G st 4 [(0, .ref (gad G 13)), (1, .int v1), (2, .int v2), (3, .int v3)] []) (v1 : Int32) (v2 : Int32) (v3 : Int32) (st : Mm) (hf : b_Rdr_readPart_4 r_readCondition r_readPart r_readPiece r_readSum r_readTerm r_readFactor k4 v1 v2 v3 st = some q) : AW G st 4 [(0, .ref (gad G 13)), (1, .int v1), (2, .int v2), (3, .int v3)] [] := by
  unfold b_Rdr_readPart_4 at hf
  refine aw_iload_n C 3 3 (j := 3) rfl rfl (by decide +kernel) rfl ?_
  refine aw_sipush C (i0 := 160) (v := 160) (by decide) (by decide +kernel) rfl ?_
  refine aw_icmp_ge C (tgt := 68) (off := 60) (by decide +kernel) (by decide) rfl (fun c1 => ?_) (fun c1 => ?_)
  · have hf := ift c1 hf
    exact aw_vretq C CR0 hgr hgs hf (by decide +kernel)
  · have hf := iff_ c1 hf
    refine aw_aload_n C 0 0 (j := 0) rfl rfl (by decide +kernel) rfl ?_
    refine aw_get C (k := 7) fc_8 (lc_13 E) rfl (by decide) tb_173 (by decide +kernel) rfl ?_
    refine aw_if_ne C (tgt := 68) (off := 53) (by decide +kernel) (by decide) rfl (fun c2 => ?_) (fun c2 => ?_)
    · have hf := ift c2 hf
      refine aw_aload_n C 0 0 (j := 0) rfl rfl (by decide +kernel) rfl ?_
      refine aw_iload_n C 1 1 (j := 1) rfl rfl (by decide +kernel) rfl ?_
      obtain ⟨q3, hq3, hf⟩ := ibd hf
      refine aw_callV C (rest := []) (hr_readPiece v1 _ q3 hq3) tb_517 yf_43 yi_43 (lc_13 E) [.int v1] rfl rfl _ rfl hd0 (Nat.le_of_ble_eq_true rfl) (by decide +kernel) rfl ?_
      show AW _ _ _ _ []
      refine aw_aload_n C 0 0 (j := 0) rfl rfl (by decide +kernel) rfl ?_
      refine aw_getr C (k := 1) fc_8 (lc_13 E) rfl (by decide) tb_167 (by decide +kernel) rfl ?_
      refine aw_iload_n C 2 2 (j := 2) rfl rfl (by decide +kernel) rfl ?_
      obtain ⟨q4, hq4, hf⟩ := ibd hf
      refine aw_callV C (rest := []) (c_Cond_aimHere E v2 _ q4 hq4) tb_553 yf_52 yi_52 (lc_17 E) [.int v2] rfl rfl _ rfl (Nat.le_trans (by decide) hgd) (Nat.le_of_ble_eq_true rfl) (by decide +kernel) rfl ?_
      show AW _ _ _ _ []
      refine aw_aload_n C 0 0 (j := 0) rfl rfl (by decide +kernel) rfl ?_
      obtain ⟨q5, hq5, hf⟩ := ibd hf
      refine aw_callV C (rest := []) (c_Rdr_look E _ q5 hq5) tb_484 yf_35 yi_35 (lc_13 E) [] rfl rfl _ rfl (Nat.le_trans (by decide) hgd) (Nat.le_of_ble_eq_true rfl) (by decide +kernel) rfl ?_
      show AW _ _ _ _ [.int q5.1]
      refine aw_bipush C (i0 := 38) (v := 38) (by decide) (by decide +kernel) rfl ?_
      refine aw_icmp_eq C (tgt := 41) (off := 4) (by decide +kernel) (by decide) rfl (fun c6 => ?_) (fun c6 => ?_)
      · have hf := ift c6 hf
        refine aw_aload_n C 0 0 (j := 0) rfl rfl (by decide +kernel) rfl ?_
        refine aw_dup C rfl (by decide +kernel) rfl ?_
        refine aw_get C (k := 6) fc_8 (lc_13 E) rfl (by decide) tb_172 (by decide +kernel) rfl ?_
        refine aw_iconst C (i0 := 1) (v := 1) (by decide) (by decide +kernel) rfl ?_
        refine aw_iadd C (by decide +kernel) rfl ?_
        obtain ⟨a7, ha7⟩ : ∃ z, z = ((q5.2.1 13 6) + (1 : Int32)) := ⟨_, rfl⟩
        refine aw_nmi ha7 ?_
        have hf := ilt ha7 hf
        refine aw_put C (k := 6) fc_8 (lc_13 E) rfl (by decide) rfl rfl tb_172 (by decide +kernel) rfl ?_
        refine aw_aload_n C 0 0 (j := 0) rfl rfl (by decide +kernel) rfl ?_
        refine aw_getr C (k := 1) fc_8 (lc_13 E) rfl (by decide) tb_167 (by decide +kernel) rfl ?_
        refine aw_bipush C (i0 := 38) (v := 38) (by decide) (by decide +kernel) rfl ?_
        refine aw_iconst C (i0 := 0) (v := 0) (by decide) (by decide +kernel) rfl ?_
        obtain ⟨q8, hq8, hf⟩ := ibd hf
        refine aw_callV C (rest := []) (c_Cond_put E (38 : Int32) (0 : Int32) _ q8 hq8) tb_525 yf_45 yi_45 (lc_17 E) [.int (38 : Int32), .int (0 : Int32)] rfl rfl _ rfl (Nat.le_trans (by decide) hgd) (Nat.le_of_ble_eq_true rfl) (by decide +kernel) rfl ?_
        show AW _ _ _ _ [.int q8.1]
        refine aw_istore_n C [(2, .int q8.1), (0, .ref (gad G 13)), (1, .int v1), (3, .int v3)] (j := 2) rfl (by rw [hnL]; decide) rfl (by decide +kernel) rfl ?_
        obtain ⟨a9, ha9⟩ : ∃ z, z = (v3 + (1 : Int32)) := ⟨_, rfl⟩
        have hf := ilt ha9 hf
        refine aw_iinc C [(3, .int a9), (2, .int q8.1), (0, .ref (gad G 13)), (1, .int v1)] 3 (n := 1) rfl (by rw [ha9]; rfl) (by rw [hnL]; decide) rfl (by decide +kernel) rfl ?_
        refine aw_goto C (tgt := 4) (off := -61) (by decide +kernel) (by decide) ?_
        refine aw_sub [(0, .ref (gad G 13)), (1, .int v1), (2, .int q8.1), (3, .int a9)] [2, 3, 1, 0] rfl ?_
        exact hk4 v1 q8.1 a9 _ hf
      · have hf := iff_ c6 hf
        exact aw_vretq C CR0 hgr hgs hf (by decide +kernel)
    · have hf := iff_ c2 hf
      exact aw_vretq C CR0 hgr hgs hf (by decide +kernel)
theorem u_Rdr_readPart_4 {G : Cx} (C : CX G prog_10_method_16_code "PaperStars$Reader") (CR0 : CR G (Option.none)) (r_readCondition : Int32 → Mm → Option (Unit × Mm)) (r_readPart : Int32 → Mm → Option (Unit × Mm)) (r_readPiece : Int32 → Mm → Option (Unit × Mm)) (r_readSum : Int32 → Mm → Option (Unit × Mm)) (r_readTerm : Int32 → Mm → Option (Unit × Mm)) (r_readFactor : Int32 → Mm → Option (Unit × Mm)) (E : LCin (gly G)) (d0 : Nat) (hd0 : d0 + 1 ≤ gd G) (hr_readCondition : ∀ (v1 : Int32) (st : Mm) (q : Unit × Mm), r_readCondition v1 st = some q → Con d0 Y41 prog_10_method_15_code 4 (Option.none) (gly G) (fun ad => [.ref (ad 13), .int v1]) st (none) q.2) (hr_readPart : ∀ (v1 : Int32) (st : Mm) (q : Unit × Mm), r_readPart v1 st = some q → Con d0 Y42 prog_10_method_16_code 4 (Option.none) (gly G) (fun ad => [.ref (ad 13), .int v1]) st (none) q.2) (hr_readPiece : ∀ (v1 : Int32) (st : Mm) (q : Unit × Mm), r_readPiece v1 st = some q → Con d0 Y43 prog_10_method_17_code 4 (Option.none) (gly G) (fun ad => [.ref (ad 13), .int v1]) st (none) q.2) (hr_readSum : ∀ (v1 : Int32) (st : Mm) (q : Unit × Mm), r_readSum v1 st = some q → Con d0 Y46 prog_10_method_19_code 4 (Option.none) (gly G) (fun ad => [.ref (ad 13), .int v1]) st (none) q.2) (hr_readTerm : ∀ (v1 : Int32) (st : Mm) (q : Unit × Mm), r_readTerm v1 st = some q → Con d0 Y47 prog_10_method_20_code 4 (Option.none) (gly G) (fun ad => [.ref (ad 13), .int v1]) st (none) q.2) (hr_readFactor : ∀ (v1 : Int32) (st : Mm) (q : Unit × Mm), r_readFactor v1 st = some q → Con d0 Y48 prog_10_method_21_code 2 (Option.none) (gly G) (fun ad => [.ref (ad 13), .int v1]) st (none) q.2) (hnL : gnL G = 4) (hgd : 2 ≤ gd G) {q : Unit × Mm} (hgr : gr G = none) (hgs : gsf G = q.2) : ∀ (n : Nat) (v1 : Int32) (v2 : Int32) (v3 : Int32) (st : Mm), f_Rdr_readPart_4 r_readCondition r_readPart r_readPiece r_readSum r_readTerm r_readFactor n v1 v2 v3 st = some q → AW G st 4 [(0, .ref (gad G 13)), (1, .int v1), (2, .int v2), (3, .int v3)] [] := by
  intro n
  induction n with
  | zero => intro v1 v2 v3 st hf; cases hf
  | succ n ih => intro v1 v2 v3 st hf; exact t_Rdr_readPart_4 C CR0 r_readCondition r_readPart r_readPiece r_readSum r_readTerm r_readFactor E d0 hd0 hr_readCondition hr_readPart hr_readPiece hr_readSum hr_readTerm hr_readFactor hnL hgd hgr hgs (f_Rdr_readPart_4 r_readCondition r_readPart r_readPiece r_readSum r_readTerm r_readFactor n) ih v1 v2 v3 st hf
theorem t_Rdr_readPart {G : Cx} (C : CX G prog_10_method_16_code "PaperStars$Reader") (CR0 : CR G (Option.none)) (r_readCondition : Int32 → Mm → Option (Unit × Mm)) (r_readPart : Int32 → Mm → Option (Unit × Mm)) (r_readPiece : Int32 → Mm → Option (Unit × Mm)) (r_readSum : Int32 → Mm → Option (Unit × Mm)) (r_readTerm : Int32 → Mm → Option (Unit × Mm)) (r_readFactor : Int32 → Mm → Option (Unit × Mm)) (E : LCin (gly G)) (d0 : Nat) (hd0 : d0 + 1 ≤ gd G) (hr_readCondition : ∀ (v1 : Int32) (st : Mm) (q : Unit × Mm), r_readCondition v1 st = some q → Con d0 Y41 prog_10_method_15_code 4 (Option.none) (gly G) (fun ad => [.ref (ad 13), .int v1]) st (none) q.2) (hr_readPart : ∀ (v1 : Int32) (st : Mm) (q : Unit × Mm), r_readPart v1 st = some q → Con d0 Y42 prog_10_method_16_code 4 (Option.none) (gly G) (fun ad => [.ref (ad 13), .int v1]) st (none) q.2) (hr_readPiece : ∀ (v1 : Int32) (st : Mm) (q : Unit × Mm), r_readPiece v1 st = some q → Con d0 Y43 prog_10_method_17_code 4 (Option.none) (gly G) (fun ad => [.ref (ad 13), .int v1]) st (none) q.2) (hr_readSum : ∀ (v1 : Int32) (st : Mm) (q : Unit × Mm), r_readSum v1 st = some q → Con d0 Y46 prog_10_method_19_code 4 (Option.none) (gly G) (fun ad => [.ref (ad 13), .int v1]) st (none) q.2) (hr_readTerm : ∀ (v1 : Int32) (st : Mm) (q : Unit × Mm), r_readTerm v1 st = some q → Con d0 Y47 prog_10_method_20_code 4 (Option.none) (gly G) (fun ad => [.ref (ad 13), .int v1]) st (none) q.2) (hr_readFactor : ∀ (v1 : Int32) (st : Mm) (q : Unit × Mm), r_readFactor v1 st = some q → Con d0 Y48 prog_10_method_21_code 2 (Option.none) (gly G) (fun ad => [.ref (ad 13), .int v1]) st (none) q.2) (hnL : gnL G = 4) (hgd : 2 ≤ gd G) {q : Unit × Mm} (hgr : gr G = none) (hgs : gsf G = q.2) (v1 : Int32) (st : Mm) (hf : f_Rdr_readPart r_readCondition r_readPart r_readPiece r_readSum r_readTerm r_readFactor v1 st = some q) : AW G st 0 [(0, .ref (gad G 13)), (1, .int v1)] [] := by
  unfold f_Rdr_readPart at hf
  refine aw_iconst C (i0 := -1) (v := -1) (by decide) (by decide +kernel) rfl ?_
  refine aw_istore_n C [(2, .int (-1 : Int32)), (0, .ref (gad G 13)), (1, .int v1)] (j := 2) rfl (by rw [hnL]; decide) rfl (by decide +kernel) rfl ?_
  refine aw_iconst C (i0 := 0) (v := 0) (by decide) (by decide +kernel) rfl ?_
  refine aw_istore_n C [(3, .int (0 : Int32)), (2, .int (-1 : Int32)), (0, .ref (gad G 13)), (1, .int v1)] (j := 3) rfl (by rw [hnL]; decide) rfl (by decide +kernel) rfl ?_
  refine aw_sub [(0, .ref (gad G 13)), (1, .int v1), (2, .int (-1 : Int32)), (3, .int (0 : Int32))] [2, 3, 1, 0] rfl ?_
  exact u_Rdr_readPart_4 C CR0 r_readCondition r_readPart r_readPiece r_readSum r_readTerm r_readFactor E d0 hd0 hr_readCondition hr_readPart hr_readPiece hr_readSum hr_readTerm hr_readFactor hnL hgd hgr hgs _ v1 (-1 : Int32) (0 : Int32) _ hf
theorem g_Rdr_readPart {lay : Ly} (r_readCondition : Int32 → Mm → Option (Unit × Mm)) (r_readPart : Int32 → Mm → Option (Unit × Mm)) (r_readPiece : Int32 → Mm → Option (Unit × Mm)) (r_readSum : Int32 → Mm → Option (Unit × Mm)) (r_readTerm : Int32 → Mm → Option (Unit × Mm)) (r_readFactor : Int32 → Mm → Option (Unit × Mm)) (E : LCin lay) (d0 : Nat) (hr_readCondition : ∀ (v1 : Int32) (st : Mm) (q : Unit × Mm), r_readCondition v1 st = some q → Con d0 Y41 prog_10_method_15_code 4 (Option.none) lay (fun ad => [.ref (ad 13), .int v1]) st (none) q.2) (hr_readPart : ∀ (v1 : Int32) (st : Mm) (q : Unit × Mm), r_readPart v1 st = some q → Con d0 Y42 prog_10_method_16_code 4 (Option.none) lay (fun ad => [.ref (ad 13), .int v1]) st (none) q.2) (hr_readPiece : ∀ (v1 : Int32) (st : Mm) (q : Unit × Mm), r_readPiece v1 st = some q → Con d0 Y43 prog_10_method_17_code 4 (Option.none) lay (fun ad => [.ref (ad 13), .int v1]) st (none) q.2) (hr_readSum : ∀ (v1 : Int32) (st : Mm) (q : Unit × Mm), r_readSum v1 st = some q → Con d0 Y46 prog_10_method_19_code 4 (Option.none) lay (fun ad => [.ref (ad 13), .int v1]) st (none) q.2) (hr_readTerm : ∀ (v1 : Int32) (st : Mm) (q : Unit × Mm), r_readTerm v1 st = some q → Con d0 Y47 prog_10_method_20_code 4 (Option.none) lay (fun ad => [.ref (ad 13), .int v1]) st (none) q.2) (hr_readFactor : ∀ (v1 : Int32) (st : Mm) (q : Unit × Mm), r_readFactor v1 st = some q → Con d0 Y48 prog_10_method_21_code 2 (Option.none) lay (fun ad => [.ref (ad 13), .int v1]) st (none) q.2) (hB : 2 ≤ d0 + 1) (v1 : Int32) (st : Mm) (q : Unit × Mm) (hf : f_Rdr_readPart r_readCondition r_readPart r_readPiece r_readSum r_readTerm r_readFactor v1 st = some q) : Con (d0 + 1) Y42 prog_10_method_16_code 4 (Option.none) lay (fun ad => [.ref (ad 13), .int v1]) st (none) q.2 :=
  am_met yf_42.2.2.2.2.2 (fun ad => Nat.le_of_ble_eq_true rfl) (fun G C CR0 e1 e2 e3 e4 e5 => t_Rdr_readPart C CR0 r_readCondition r_readPart r_readPiece r_readSum r_readTerm r_readFactor (by rw [e1]; exact E) d0 (by rw [e5]; exact Nat.le_refl _) (by rw [e1]; exact hr_readCondition) (by rw [e1]; exact hr_readPart) (by rw [e1]; exact hr_readPiece) (by rw [e1]; exact hr_readSum) (by rw [e1]; exact hr_readTerm) (by rw [e1]; exact hr_readFactor) e2 (by rw [e5]; exact hB) e3 e4 v1 st hf)
def b_Rdr_readCondition_4 (r_readCondition : Int32 → Mm → Option (Unit × Mm)) (r_readPart : Int32 → Mm → Option (Unit × Mm)) (r_readPiece : Int32 → Mm → Option (Unit × Mm)) (r_readSum : Int32 → Mm → Option (Unit × Mm)) (r_readTerm : Int32 → Mm → Option (Unit × Mm)) (r_readFactor : Int32 → Mm → Option (Unit × Mm)) (k4 : Int32 → Int32 → Int32 → Mm → Option (Unit × Mm)) (v1 : Int32) (v2 : Int32) (v3 : Int32) (st : Mm) : Option (Unit × Mm) :=
  if (160 : Int32) ≤ v3 then (some ((), st)) else (if (st.1 13 7) = 0 then ((r_readPart v1 st).bind (fun q3 => (f_Cond_aimHere v2 q3.2).bind (fun q4 => (f_Rdr_look q4.2).bind (fun q5 => if q5.1 = (124 : Int32) then (lt_ ((q5.2.1 13 6) + (1 : Int32)) (fun a7 => (f_Cond_put (124 : Int32) (0 : Int32) (sI q5.2 13 6 a7)).bind (fun q8 => lt_ (v3 + (1 : Int32)) (fun a9 => k4 v1 q8.1 a9 q8.2)))) else (some ((), q5.2)))))) else (some ((), st)))
def f_Rdr_readCondition_4 (r_readCondition : Int32 → Mm → Option (Unit × Mm)) (r_readPart : Int32 → Mm → Option (Unit × Mm)) (r_readPiece : Int32 → Mm → Option (Unit × Mm)) (r_readSum : Int32 → Mm → Option (Unit × Mm)) (r_readTerm : Int32 → Mm → Option (Unit × Mm)) (r_readFactor : Int32 → Mm → Option (Unit × Mm)) : Nat → Int32 → Int32 → Int32 → Mm → Option (Unit × Mm)
  | 0 => fun _ _ _ _ => none
  | n + 1 => b_Rdr_readCondition_4 r_readCondition r_readPart r_readPiece r_readSum r_readTerm r_readFactor (f_Rdr_readCondition_4 r_readCondition r_readPart r_readPiece r_readSum r_readTerm r_readFactor n)
def f_Rdr_readCondition (r_readCondition : Int32 → Mm → Option (Unit × Mm)) (r_readPart : Int32 → Mm → Option (Unit × Mm)) (r_readPiece : Int32 → Mm → Option (Unit × Mm)) (r_readSum : Int32 → Mm → Option (Unit × Mm)) (r_readTerm : Int32 → Mm → Option (Unit × Mm)) (r_readFactor : Int32 → Mm → Option (Unit × Mm)) (v1 : Int32) (st : Mm) : Option (Unit × Mm) :=
  f_Rdr_readCondition_4 r_readCondition r_readPart r_readPiece r_readSum r_readTerm r_readFactor 1000000 v1 (-1 : Int32) (0 : Int32) st
theorem t_Rdr_readCondition_4 {G : Cx} (C : CX G prog_10_method_15_code "PaperStars$Reader") (CR0 : CR G (Option.none)) (r_readCondition : Int32 → Mm → Option (Unit × Mm)) (r_readPart : Int32 → Mm → Option (Unit × Mm)) (r_readPiece : Int32 → Mm → Option (Unit × Mm)) (r_readSum : Int32 → Mm → Option (Unit × Mm)) (r_readTerm : Int32 → Mm → Option (Unit × Mm)) (r_readFactor : Int32 → Mm → Option (Unit × Mm)) (E : LCin (gly G)) (d0 : Nat) (hd0 : d0 + 1 ≤ gd G) (hr_readCondition : ∀ (v1 : Int32) (st : Mm) (q : Unit × Mm), r_readCondition v1 st = some q → Con d0 Y41 prog_10_method_15_code 4 (Option.none) (gly G) (fun ad => [.ref (ad 13), .int v1]) st (none) q.2) (hr_readPart : ∀ (v1 : Int32) (st : Mm) (q : Unit × Mm), r_readPart v1 st = some q → Con d0 Y42 prog_10_method_16_code 4 (Option.none) (gly G) (fun ad => [.ref (ad 13), .int v1]) st (none) q.2) (hr_readPiece : ∀ (v1 : Int32) (st : Mm) (q : Unit × Mm), r_readPiece v1 st = some q → Con d0 Y43 prog_10_method_17_code 4 (Option.none) (gly G) (fun ad => [.ref (ad 13), .int v1]) st (none) q.2) (hr_readSum : ∀ (v1 : Int32) (st : Mm) (q : Unit × Mm), r_readSum v1 st = some q → Con d0 Y46 prog_10_method_19_code 4 (Option.none) (gly G) (fun ad => [.ref (ad 13), .int v1]) st (none) q.2) (hr_readTerm : ∀ (v1 : Int32) (st : Mm) (q : Unit × Mm), r_readTerm v1 st = some q → Con d0 Y47 prog_10_method_20_code 4 (Option.none) (gly G) (fun ad => [.ref (ad 13), .int v1]) st (none) q.2) (hr_readFactor : ∀ (v1 : Int32) (st : Mm) (q : Unit × Mm), r_readFactor v1 st = some q → Con d0 Y48 prog_10_method_21_code 2 (Option.none) (gly G) (fun ad => [.ref (ad 13), .int v1]) st (none) q.2) (hnL : gnL G = 4) (hgd : 2 ≤ gd G) {q : Unit × Mm} (hgr : gr G = none) (hgs : gsf G = q.2) (k4 : Int32 → Int32 → Int32 → Mm → Option (Unit × Mm)) (hk4 : ∀ (v1 : Int32) (v2 : Int32) (v3 : Int32) (st : Mm), k4 v1 v2 v3 st = some q → AW G st 4 [(0, .ref (gad G 13)), (1, .int v1), (2, .int v2), (3, .int v3)] []) (v1 : Int32) (v2 : Int32) (v3 : Int32) (st : Mm) (hf : b_Rdr_readCondition_4 r_readCondition r_readPart r_readPiece r_readSum r_readTerm r_readFactor k4 v1 v2 v3 st = some q) : AW G st 4 [(0, .ref (gad G 13)), (1, .int v1), (2, .int v2), (3, .int v3)] [] := by
  unfold b_Rdr_readCondition_4 at hf
  refine aw_iload_n C 3 3 (j := 3) rfl rfl (by decide +kernel) rfl ?_
  refine aw_sipush C (i0 := 160) (v := 160) (by decide) (by decide +kernel) rfl ?_
  refine aw_icmp_ge C (tgt := 68) (off := 60) (by decide +kernel) (by decide) rfl (fun c1 => ?_) (fun c1 => ?_)
  · have hf := ift c1 hf
    exact aw_vretq C CR0 hgr hgs hf (by decide +kernel)
  · have hf := iff_ c1 hf
    refine aw_aload_n C 0 0 (j := 0) rfl rfl (by decide +kernel) rfl ?_
    refine aw_get C (k := 7) fc_8 (lc_13 E) rfl (by decide) tb_173 (by decide +kernel) rfl ?_
    refine aw_if_ne C (tgt := 68) (off := 53) (by decide +kernel) (by decide) rfl (fun c2 => ?_) (fun c2 => ?_)
    · have hf := ift c2 hf
      refine aw_aload_n C 0 0 (j := 0) rfl rfl (by decide +kernel) rfl ?_
      refine aw_iload_n C 1 1 (j := 1) rfl rfl (by decide +kernel) rfl ?_
      obtain ⟨q3, hq3, hf⟩ := ibd hf
      refine aw_callV C (rest := []) (hr_readPart v1 _ q3 hq3) tb_513 yf_42 yi_42 (lc_13 E) [.int v1] rfl rfl _ rfl hd0 (Nat.le_of_ble_eq_true rfl) (by decide +kernel) rfl ?_
      show AW _ _ _ _ []
      refine aw_aload_n C 0 0 (j := 0) rfl rfl (by decide +kernel) rfl ?_
      refine aw_getr C (k := 1) fc_8 (lc_13 E) rfl (by decide) tb_167 (by decide +kernel) rfl ?_
      refine aw_iload_n C 2 2 (j := 2) rfl rfl (by decide +kernel) rfl ?_
      obtain ⟨q4, hq4, hf⟩ := ibd hf
      refine aw_callV C (rest := []) (c_Cond_aimHere E v2 _ q4 hq4) tb_553 yf_52 yi_52 (lc_17 E) [.int v2] rfl rfl _ rfl (Nat.le_trans (by decide) hgd) (Nat.le_of_ble_eq_true rfl) (by decide +kernel) rfl ?_
      show AW _ _ _ _ []
      refine aw_aload_n C 0 0 (j := 0) rfl rfl (by decide +kernel) rfl ?_
      obtain ⟨q5, hq5, hf⟩ := ibd hf
      refine aw_callV C (rest := []) (c_Rdr_look E _ q5 hq5) tb_484 yf_35 yi_35 (lc_13 E) [] rfl rfl _ rfl (Nat.le_trans (by decide) hgd) (Nat.le_of_ble_eq_true rfl) (by decide +kernel) rfl ?_
      show AW _ _ _ _ [.int q5.1]
      refine aw_bipush C (i0 := 124) (v := 124) (by decide) (by decide +kernel) rfl ?_
      refine aw_icmp_eq C (tgt := 41) (off := 4) (by decide +kernel) (by decide) rfl (fun c6 => ?_) (fun c6 => ?_)
      · have hf := ift c6 hf
        refine aw_aload_n C 0 0 (j := 0) rfl rfl (by decide +kernel) rfl ?_
        refine aw_dup C rfl (by decide +kernel) rfl ?_
        refine aw_get C (k := 6) fc_8 (lc_13 E) rfl (by decide) tb_172 (by decide +kernel) rfl ?_
        refine aw_iconst C (i0 := 1) (v := 1) (by decide) (by decide +kernel) rfl ?_
        refine aw_iadd C (by decide +kernel) rfl ?_
        obtain ⟨a7, ha7⟩ : ∃ z, z = ((q5.2.1 13 6) + (1 : Int32)) := ⟨_, rfl⟩
        refine aw_nmi ha7 ?_
        have hf := ilt ha7 hf
        refine aw_put C (k := 6) fc_8 (lc_13 E) rfl (by decide) rfl rfl tb_172 (by decide +kernel) rfl ?_
        refine aw_aload_n C 0 0 (j := 0) rfl rfl (by decide +kernel) rfl ?_
        refine aw_getr C (k := 1) fc_8 (lc_13 E) rfl (by decide) tb_167 (by decide +kernel) rfl ?_
        refine aw_bipush C (i0 := 124) (v := 124) (by decide) (by decide +kernel) rfl ?_
        refine aw_iconst C (i0 := 0) (v := 0) (by decide) (by decide +kernel) rfl ?_
        obtain ⟨q8, hq8, hf⟩ := ibd hf
        refine aw_callV C (rest := []) (c_Cond_put E (124 : Int32) (0 : Int32) _ q8 hq8) tb_525 yf_45 yi_45 (lc_17 E) [.int (124 : Int32), .int (0 : Int32)] rfl rfl _ rfl (Nat.le_trans (by decide) hgd) (Nat.le_of_ble_eq_true rfl) (by decide +kernel) rfl ?_
        show AW _ _ _ _ [.int q8.1]
        refine aw_istore_n C [(2, .int q8.1), (0, .ref (gad G 13)), (1, .int v1), (3, .int v3)] (j := 2) rfl (by rw [hnL]; decide) rfl (by decide +kernel) rfl ?_
        obtain ⟨a9, ha9⟩ : ∃ z, z = (v3 + (1 : Int32)) := ⟨_, rfl⟩
        have hf := ilt ha9 hf
        refine aw_iinc C [(3, .int a9), (2, .int q8.1), (0, .ref (gad G 13)), (1, .int v1)] 3 (n := 1) rfl (by rw [ha9]; rfl) (by rw [hnL]; decide) rfl (by decide +kernel) rfl ?_
        refine aw_goto C (tgt := 4) (off := -61) (by decide +kernel) (by decide) ?_
        refine aw_sub [(0, .ref (gad G 13)), (1, .int v1), (2, .int q8.1), (3, .int a9)] [2, 3, 1, 0] rfl ?_
        exact hk4 v1 q8.1 a9 _ hf
      · have hf := iff_ c6 hf
        exact aw_vretq C CR0 hgr hgs hf (by decide +kernel)
    · have hf := iff_ c2 hf
      exact aw_vretq C CR0 hgr hgs hf (by decide +kernel)
theorem u_Rdr_readCondition_4 {G : Cx} (C : CX G prog_10_method_15_code "PaperStars$Reader") (CR0 : CR G (Option.none)) (r_readCondition : Int32 → Mm → Option (Unit × Mm)) (r_readPart : Int32 → Mm → Option (Unit × Mm)) (r_readPiece : Int32 → Mm → Option (Unit × Mm)) (r_readSum : Int32 → Mm → Option (Unit × Mm)) (r_readTerm : Int32 → Mm → Option (Unit × Mm)) (r_readFactor : Int32 → Mm → Option (Unit × Mm)) (E : LCin (gly G)) (d0 : Nat) (hd0 : d0 + 1 ≤ gd G) (hr_readCondition : ∀ (v1 : Int32) (st : Mm) (q : Unit × Mm), r_readCondition v1 st = some q → Con d0 Y41 prog_10_method_15_code 4 (Option.none) (gly G) (fun ad => [.ref (ad 13), .int v1]) st (none) q.2) (hr_readPart : ∀ (v1 : Int32) (st : Mm) (q : Unit × Mm), r_readPart v1 st = some q → Con d0 Y42 prog_10_method_16_code 4 (Option.none) (gly G) (fun ad => [.ref (ad 13), .int v1]) st (none) q.2) (hr_readPiece : ∀ (v1 : Int32) (st : Mm) (q : Unit × Mm), r_readPiece v1 st = some q → Con d0 Y43 prog_10_method_17_code 4 (Option.none) (gly G) (fun ad => [.ref (ad 13), .int v1]) st (none) q.2) (hr_readSum : ∀ (v1 : Int32) (st : Mm) (q : Unit × Mm), r_readSum v1 st = some q → Con d0 Y46 prog_10_method_19_code 4 (Option.none) (gly G) (fun ad => [.ref (ad 13), .int v1]) st (none) q.2) (hr_readTerm : ∀ (v1 : Int32) (st : Mm) (q : Unit × Mm), r_readTerm v1 st = some q → Con d0 Y47 prog_10_method_20_code 4 (Option.none) (gly G) (fun ad => [.ref (ad 13), .int v1]) st (none) q.2) (hr_readFactor : ∀ (v1 : Int32) (st : Mm) (q : Unit × Mm), r_readFactor v1 st = some q → Con d0 Y48 prog_10_method_21_code 2 (Option.none) (gly G) (fun ad => [.ref (ad 13), .int v1]) st (none) q.2) (hnL : gnL G = 4) (hgd : 2 ≤ gd G) {q : Unit × Mm} (hgr : gr G = none) (hgs : gsf G = q.2) : ∀ (n : Nat) (v1 : Int32) (v2 : Int32) (v3 : Int32) (st : Mm), f_Rdr_readCondition_4 r_readCondition r_readPart r_readPiece r_readSum r_readTerm r_readFactor n v1 v2 v3 st = some q → AW G st 4 [(0, .ref (gad G 13)), (1, .int v1), (2, .int v2), (3, .int v3)] [] := by
  intro n
  induction n with
  | zero => intro v1 v2 v3 st hf; cases hf
  | succ n ih => intro v1 v2 v3 st hf; exact t_Rdr_readCondition_4 C CR0 r_readCondition r_readPart r_readPiece r_readSum r_readTerm r_readFactor E d0 hd0 hr_readCondition hr_readPart hr_readPiece hr_readSum hr_readTerm hr_readFactor hnL hgd hgr hgs (f_Rdr_readCondition_4 r_readCondition r_readPart r_readPiece r_readSum r_readTerm r_readFactor n) ih v1 v2 v3 st hf
theorem t_Rdr_readCondition {G : Cx} (C : CX G prog_10_method_15_code "PaperStars$Reader") (CR0 : CR G (Option.none)) (r_readCondition : Int32 → Mm → Option (Unit × Mm)) (r_readPart : Int32 → Mm → Option (Unit × Mm)) (r_readPiece : Int32 → Mm → Option (Unit × Mm)) (r_readSum : Int32 → Mm → Option (Unit × Mm)) (r_readTerm : Int32 → Mm → Option (Unit × Mm)) (r_readFactor : Int32 → Mm → Option (Unit × Mm)) (E : LCin (gly G)) (d0 : Nat) (hd0 : d0 + 1 ≤ gd G) (hr_readCondition : ∀ (v1 : Int32) (st : Mm) (q : Unit × Mm), r_readCondition v1 st = some q → Con d0 Y41 prog_10_method_15_code 4 (Option.none) (gly G) (fun ad => [.ref (ad 13), .int v1]) st (none) q.2) (hr_readPart : ∀ (v1 : Int32) (st : Mm) (q : Unit × Mm), r_readPart v1 st = some q → Con d0 Y42 prog_10_method_16_code 4 (Option.none) (gly G) (fun ad => [.ref (ad 13), .int v1]) st (none) q.2) (hr_readPiece : ∀ (v1 : Int32) (st : Mm) (q : Unit × Mm), r_readPiece v1 st = some q → Con d0 Y43 prog_10_method_17_code 4 (Option.none) (gly G) (fun ad => [.ref (ad 13), .int v1]) st (none) q.2) (hr_readSum : ∀ (v1 : Int32) (st : Mm) (q : Unit × Mm), r_readSum v1 st = some q → Con d0 Y46 prog_10_method_19_code 4 (Option.none) (gly G) (fun ad => [.ref (ad 13), .int v1]) st (none) q.2) (hr_readTerm : ∀ (v1 : Int32) (st : Mm) (q : Unit × Mm), r_readTerm v1 st = some q → Con d0 Y47 prog_10_method_20_code 4 (Option.none) (gly G) (fun ad => [.ref (ad 13), .int v1]) st (none) q.2) (hr_readFactor : ∀ (v1 : Int32) (st : Mm) (q : Unit × Mm), r_readFactor v1 st = some q → Con d0 Y48 prog_10_method_21_code 2 (Option.none) (gly G) (fun ad => [.ref (ad 13), .int v1]) st (none) q.2) (hnL : gnL G = 4) (hgd : 2 ≤ gd G) {q : Unit × Mm} (hgr : gr G = none) (hgs : gsf G = q.2) (v1 : Int32) (st : Mm) (hf : f_Rdr_readCondition r_readCondition r_readPart r_readPiece r_readSum r_readTerm r_readFactor v1 st = some q) : AW G st 0 [(0, .ref (gad G 13)), (1, .int v1)] [] := by
  unfold f_Rdr_readCondition at hf
  refine aw_iconst C (i0 := -1) (v := -1) (by decide) (by decide +kernel) rfl ?_
  refine aw_istore_n C [(2, .int (-1 : Int32)), (0, .ref (gad G 13)), (1, .int v1)] (j := 2) rfl (by rw [hnL]; decide) rfl (by decide +kernel) rfl ?_
  refine aw_iconst C (i0 := 0) (v := 0) (by decide) (by decide +kernel) rfl ?_
  refine aw_istore_n C [(3, .int (0 : Int32)), (2, .int (-1 : Int32)), (0, .ref (gad G 13)), (1, .int v1)] (j := 3) rfl (by rw [hnL]; decide) rfl (by decide +kernel) rfl ?_
  refine aw_sub [(0, .ref (gad G 13)), (1, .int v1), (2, .int (-1 : Int32)), (3, .int (0 : Int32))] [2, 3, 1, 0] rfl ?_
  exact u_Rdr_readCondition_4 C CR0 r_readCondition r_readPart r_readPiece r_readSum r_readTerm r_readFactor E d0 hd0 hr_readCondition hr_readPart hr_readPiece hr_readSum hr_readTerm hr_readFactor hnL hgd hgr hgs _ v1 (-1 : Int32) (0 : Int32) _ hf
theorem g_Rdr_readCondition {lay : Ly} (r_readCondition : Int32 → Mm → Option (Unit × Mm)) (r_readPart : Int32 → Mm → Option (Unit × Mm)) (r_readPiece : Int32 → Mm → Option (Unit × Mm)) (r_readSum : Int32 → Mm → Option (Unit × Mm)) (r_readTerm : Int32 → Mm → Option (Unit × Mm)) (r_readFactor : Int32 → Mm → Option (Unit × Mm)) (E : LCin lay) (d0 : Nat) (hr_readCondition : ∀ (v1 : Int32) (st : Mm) (q : Unit × Mm), r_readCondition v1 st = some q → Con d0 Y41 prog_10_method_15_code 4 (Option.none) lay (fun ad => [.ref (ad 13), .int v1]) st (none) q.2) (hr_readPart : ∀ (v1 : Int32) (st : Mm) (q : Unit × Mm), r_readPart v1 st = some q → Con d0 Y42 prog_10_method_16_code 4 (Option.none) lay (fun ad => [.ref (ad 13), .int v1]) st (none) q.2) (hr_readPiece : ∀ (v1 : Int32) (st : Mm) (q : Unit × Mm), r_readPiece v1 st = some q → Con d0 Y43 prog_10_method_17_code 4 (Option.none) lay (fun ad => [.ref (ad 13), .int v1]) st (none) q.2) (hr_readSum : ∀ (v1 : Int32) (st : Mm) (q : Unit × Mm), r_readSum v1 st = some q → Con d0 Y46 prog_10_method_19_code 4 (Option.none) lay (fun ad => [.ref (ad 13), .int v1]) st (none) q.2) (hr_readTerm : ∀ (v1 : Int32) (st : Mm) (q : Unit × Mm), r_readTerm v1 st = some q → Con d0 Y47 prog_10_method_20_code 4 (Option.none) lay (fun ad => [.ref (ad 13), .int v1]) st (none) q.2) (hr_readFactor : ∀ (v1 : Int32) (st : Mm) (q : Unit × Mm), r_readFactor v1 st = some q → Con d0 Y48 prog_10_method_21_code 2 (Option.none) lay (fun ad => [.ref (ad 13), .int v1]) st (none) q.2) (hB : 2 ≤ d0 + 1) (v1 : Int32) (st : Mm) (q : Unit × Mm) (hf : f_Rdr_readCondition r_readCondition r_readPart r_readPiece r_readSum r_readTerm r_readFactor v1 st = some q) : Con (d0 + 1) Y41 prog_10_method_15_code 4 (Option.none) lay (fun ad => [.ref (ad 13), .int v1]) st (none) q.2 :=
  am_met yf_41.2.2.2.2.2 (fun ad => Nat.le_of_ble_eq_true rfl) (fun G C CR0 e1 e2 e3 e4 e5 => t_Rdr_readCondition C CR0 r_readCondition r_readPart r_readPiece r_readSum r_readTerm r_readFactor (by rw [e1]; exact E) d0 (by rw [e5]; exact Nat.le_refl _) (by rw [e1]; exact hr_readCondition) (by rw [e1]; exact hr_readPart) (by rw [e1]; exact hr_readPiece) (by rw [e1]; exact hr_readSum) (by rw [e1]; exact hr_readTerm) (by rw [e1]; exact hr_readFactor) e2 (by rw [e5]; exact hB) e3 e4 v1 st hf)
def R_Rd : Nat → (Int32 → Mm → Option (Unit × Mm)) × (Int32 → Mm → Option (Unit × Mm)) × (Int32 → Mm → Option (Unit × Mm)) × (Int32 → Mm → Option (Unit × Mm)) × (Int32 → Mm → Option (Unit × Mm)) × (Int32 → Mm → Option (Unit × Mm))
  | 0 => (fun _ _ => none, fun _ _ => none, fun _ _ => none, fun _ _ => none, fun _ _ => none, fun _ _ => none)
  | n + 1 => (f_Rdr_readCondition ((R_Rd n).1) ((R_Rd n).2.1) ((R_Rd n).2.2.1) ((R_Rd n).2.2.2.1) ((R_Rd n).2.2.2.2.1) ((R_Rd n).2.2.2.2.2), f_Rdr_readPart ((R_Rd n).1) ((R_Rd n).2.1) ((R_Rd n).2.2.1) ((R_Rd n).2.2.2.1) ((R_Rd n).2.2.2.2.1) ((R_Rd n).2.2.2.2.2), f_Rdr_readPiece ((R_Rd n).1) ((R_Rd n).2.1) ((R_Rd n).2.2.1) ((R_Rd n).2.2.2.1) ((R_Rd n).2.2.2.2.1) ((R_Rd n).2.2.2.2.2), f_Rdr_readSum ((R_Rd n).1) ((R_Rd n).2.1) ((R_Rd n).2.2.1) ((R_Rd n).2.2.2.1) ((R_Rd n).2.2.2.2.1) ((R_Rd n).2.2.2.2.2), f_Rdr_readTerm ((R_Rd n).1) ((R_Rd n).2.1) ((R_Rd n).2.2.1) ((R_Rd n).2.2.2.1) ((R_Rd n).2.2.2.2.1) ((R_Rd n).2.2.2.2.2), f_Rdr_readFactor ((R_Rd n).1) ((R_Rd n).2.1) ((R_Rd n).2.2.1) ((R_Rd n).2.2.2.1) ((R_Rd n).2.2.2.2.1) ((R_Rd n).2.2.2.2.2))
theorem rc_Rd {lay : Ly} (E : LCin lay) : ∀ n : Nat, (∀ (v1 : Int32) (st : Mm) (q : Unit × Mm), (R_Rd n).1 v1 st = some q → Con (2 + n) Y41 prog_10_method_15_code 4 (Option.none) lay (fun ad => [.ref (ad 13), .int v1]) st (none) q.2) ∧ (∀ (v1 : Int32) (st : Mm) (q : Unit × Mm), (R_Rd n).2.1 v1 st = some q → Con (2 + n) Y42 prog_10_method_16_code 4 (Option.none) lay (fun ad => [.ref (ad 13), .int v1]) st (none) q.2) ∧ (∀ (v1 : Int32) (st : Mm) (q : Unit × Mm), (R_Rd n).2.2.1 v1 st = some q → Con (2 + n) Y43 prog_10_method_17_code 4 (Option.none) lay (fun ad => [.ref (ad 13), .int v1]) st (none) q.2) ∧ (∀ (v1 : Int32) (st : Mm) (q : Unit × Mm), (R_Rd n).2.2.2.1 v1 st = some q → Con (2 + n) Y46 prog_10_method_19_code 4 (Option.none) lay (fun ad => [.ref (ad 13), .int v1]) st (none) q.2) ∧ (∀ (v1 : Int32) (st : Mm) (q : Unit × Mm), (R_Rd n).2.2.2.2.1 v1 st = some q → Con (2 + n) Y47 prog_10_method_20_code 4 (Option.none) lay (fun ad => [.ref (ad 13), .int v1]) st (none) q.2) ∧ (∀ (v1 : Int32) (st : Mm) (q : Unit × Mm), (R_Rd n).2.2.2.2.2 v1 st = some q → Con (2 + n) Y48 prog_10_method_21_code 2 (Option.none) lay (fun ad => [.ref (ad 13), .int v1]) st (none) q.2) := by
  intro n
  induction n with
  | zero => exact ⟨fun _ _ _ hf => (by cases hf), fun _ _ _ hf => (by cases hf), fun _ _ _ hf => (by cases hf), fun _ _ _ hf => (by cases hf), fun _ _ _ hf => (by cases hf), fun _ _ _ hf => (by cases hf)⟩
  | succ n ih => exact ⟨fun v1 st q hf => g_Rdr_readCondition ((R_Rd n).1) ((R_Rd n).2.1) ((R_Rd n).2.2.1) ((R_Rd n).2.2.2.1) ((R_Rd n).2.2.2.2.1) ((R_Rd n).2.2.2.2.2) E (2 + n) ih.1 ih.2.1 ih.2.2.1 ih.2.2.2.1 ih.2.2.2.2.1 ih.2.2.2.2.2 (by omega) v1 st q hf, fun v1 st q hf => g_Rdr_readPart ((R_Rd n).1) ((R_Rd n).2.1) ((R_Rd n).2.2.1) ((R_Rd n).2.2.2.1) ((R_Rd n).2.2.2.2.1) ((R_Rd n).2.2.2.2.2) E (2 + n) ih.1 ih.2.1 ih.2.2.1 ih.2.2.2.1 ih.2.2.2.2.1 ih.2.2.2.2.2 (by omega) v1 st q hf, fun v1 st q hf => g_Rdr_readPiece ((R_Rd n).1) ((R_Rd n).2.1) ((R_Rd n).2.2.1) ((R_Rd n).2.2.2.1) ((R_Rd n).2.2.2.2.1) ((R_Rd n).2.2.2.2.2) E (2 + n) ih.1 ih.2.1 ih.2.2.1 ih.2.2.2.1 ih.2.2.2.2.1 ih.2.2.2.2.2 (by omega) v1 st q hf, fun v1 st q hf => g_Rdr_readSum ((R_Rd n).1) ((R_Rd n).2.1) ((R_Rd n).2.2.1) ((R_Rd n).2.2.2.1) ((R_Rd n).2.2.2.2.1) ((R_Rd n).2.2.2.2.2) E (2 + n) ih.1 ih.2.1 ih.2.2.1 ih.2.2.2.1 ih.2.2.2.2.1 ih.2.2.2.2.2 (by omega) v1 st q hf, fun v1 st q hf => g_Rdr_readTerm ((R_Rd n).1) ((R_Rd n).2.1) ((R_Rd n).2.2.1) ((R_Rd n).2.2.2.1) ((R_Rd n).2.2.2.2.1) ((R_Rd n).2.2.2.2.2) E (2 + n) ih.1 ih.2.1 ih.2.2.1 ih.2.2.2.1 ih.2.2.2.2.1 ih.2.2.2.2.2 (by omega) v1 st q hf, fun v1 st q hf => g_Rdr_readFactor ((R_Rd n).1) ((R_Rd n).2.1) ((R_Rd n).2.2.1) ((R_Rd n).2.2.2.1) ((R_Rd n).2.2.2.2.1) ((R_Rd n).2.2.2.2.2) E (2 + n) ih.1 ih.2.1 ih.2.2.1 ih.2.2.2.1 ih.2.2.2.2.1 ih.2.2.2.2.2 (by omega) v1 st q hf⟩
