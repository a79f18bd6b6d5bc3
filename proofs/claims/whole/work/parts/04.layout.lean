def LC : Ly := [.inr (11, [some (some 1), some (some 6), some (some 11), some (some 13), some (some 24), some (some 27), some (some 30), some (some 34), some (some 42), some (some 46), some (some 52), some (some 56), none, none, none]), .inr (9, [none, none, none, none, some (some 2), some (some 3), some (some 4), some (some 5)]), .inl (0, 8), .inl (0, 16), .inl (0, 16), .inl (0, 16), .inr (9, [none, none, none, none, some (some 7), some (some 8), some (some 9), some (some 10)]), .inl (0, 8), .inl (0, 16), .inl (0, 16), .inl (0, 16), .inr (10, [none, some (some 12)]), .inl (0, 200), .inr (8, [some (some 14), some (some 17), some (some 21), some (some 22), some (some 23), none, none, none, none, none, none, none, none]), .inr (3, [none, none, none, none, none, none, some (some 15), some (some 16)]), .inl (0, 16), .inl (0, 16), .inr (0, [some (some 18), some (some 19), some (some 20), none, none, none, none]), .inl (0, 160), .inl (0, 160), .inl (0, 40), .inl (0, 160), .inl (0, 8), .inl (0, 16), .inr (3, [none, none, none, none, none, none, some (some 25), some (some 26)]), .inl (0, 16), .inl (0, 16), .inr (3, [none, none, none, none, none, none, some (some 28), some (some 29)]), .inl (0, 16), .inl (0, 16), .inr (6, [none, some (some 31), some (some 32), some (some 33)]), .inl (0, 16), .inl (0, 16), .inl (0, 256), .inr (7, [none, none, none, some (some 35), some (some 36), some (some 37), none, some (some 38), some (some 39), some (some 40), some (some 41)]), .inl (0, 256), .inl (0, 256), .inl (0, 16), .inl (0, 256), .inl (0, 256), .inl (0, 256), .inl (0, 256), .inr (4, [some (some 43), some (some 44), some (some 45)]), .inl (0, 8192), .inl (0, 256), .inl (0, 6), .inr (2, [some (some 47), some (some 50), none, none, some (some 51)]), .inr (3, [none, none, none, none, none, none, some (some 48), some (some 49)]), .inl (0, 16), .inl (0, 16), .inl (0, 16), .inl (0, 16), .inr (1, [some (some 53), some (some 54), some (some 55), none]), .inl (0, 16), .inl (0, 256), .inl (3, 300), .inr (5, [none, some (some 57)]), .inl (0, 1024)]
def LM : Ly := [.inr (12, [none, none, none, none, some (some 59), some (some 60), some (some 61), some (some 62), none, none, none, some (some 63), none, none, none, none, none, some (some 64), some (some 65), none, none, none, none, none, none, none, none, none, none, none, some (some 66), some (some 67), some (some 68), some (some 69), some (some 70), some (some 71), some (some 72), some (some 73), some (some 74), none, none, none, some (some 75), some (some 76), some (some 77), some (some 78), some (some 79), some (some 80), none, none, some (some 81), some (some 82), some (some 83), some (some 84), some (some 85), some (some 86), none, none, none, none, none, some (some 87), some (some 88), some (some 89), some (some 90)]), .inl (0, 9), .inl (0, 16), .inl (1, 256), .inl (1, 256), .inl (0, 9), .inl (0, 256), .inl (2, 200), .inl (0, 180), .inl (0, 180), .inl (0, 180), .inl (1, 256), .inl (0, 180), .inl (0, 7), .inl (1, 256), .inl (0, 256), .inl (0, 256), .inl (0, 16384), .inl (0, 6), .inl (1, 256), .inl (1, 256), .inl (0, 64), .inl (3, 2200), .inl (0, 5), .inl (3, 5), .inl (3, 50), .inl (1, 49), .inl (0, 10), .inl (0, 1024), .inl (0, 9), .inl (0, 16), .inl (1, 256), .inl (1, 256)]
def LCin (lay : Ly) : Prop := ∀ (c : Nat) (x : Le), LC[c]? = some x → lay[c]? = some x
def LAin (lay : Ly) : Prop := ∀ (c : Nat) (x : Le), (LC ++ LM)[c]? = some x → lay[c]? = some x
theorem la_lc {lay : Ly} (h : LAin lay) : LCin lay := fun c x hx => h c x (by rw [List.getElem?_append_left (List.getElem?_eq_some_iff.mp hx).1]; exact hx)
theorem lc_0 {lay : Ly} (h : LCin lay) : lay[0]? = some (.inr (11, [some (some 1), some (some 6), some (some 11), some (some 13), some (some 24), some (some 27), some (some 30), some (some 34), some (some 42), some (some 46), some (some 52), some (some 56), none, none, none])) := h 0 _ rfl
theorem lc_1 {lay : Ly} (h : LCin lay) : lay[1]? = some (.inr (9, [none, none, none, none, some (some 2), some (some 3), some (some 4), some (some 5)])) := h 1 _ rfl
theorem lc_2 {lay : Ly} (h : LCin lay) : lay[2]? = some (.inl (0, 8)) := h 2 _ rfl
theorem lc_3 {lay : Ly} (h : LCin lay) : lay[3]? = some (.inl (0, 16)) := h 3 _ rfl
theorem lc_4 {lay : Ly} (h : LCin lay) : lay[4]? = some (.inl (0, 16)) := h 4 _ rfl
theorem lc_5 {lay : Ly} (h : LCin lay) : lay[5]? = some (.inl (0, 16)) := h 5 _ rfl
theorem lc_6 {lay : Ly} (h : LCin lay) : lay[6]? = some (.inr (9, [none, none, none, none, some (some 7), some (some 8), some (some 9), some (some 10)])) := h 6 _ rfl
theorem lc_7 {lay : Ly} (h : LCin lay) : lay[7]? = some (.inl (0, 8)) := h 7 _ rfl
theorem lc_8 {lay : Ly} (h : LCin lay) : lay[8]? = some (.inl (0, 16)) := h 8 _ rfl
theorem lc_9 {lay : Ly} (h : LCin lay) : lay[9]? = some (.inl (0, 16)) := h 9 _ rfl
theorem lc_10 {lay : Ly} (h : LCin lay) : lay[10]? = some (.inl (0, 16)) := h 10 _ rfl
theorem lc_11 {lay : Ly} (h : LCin lay) : lay[11]? = some (.inr (10, [none, some (some 12)])) := h 11 _ rfl
theorem lc_12 {lay : Ly} (h : LCin lay) : lay[12]? = some (.inl (0, 200)) := h 12 _ rfl
theorem lc_13 {lay : Ly} (h : LCin lay) : lay[13]? = some (.inr (8, [some (some 14), some (some 17), some (some 21), some (some 22), some (some 23), none, none, none, none, none, none, none, none])) := h 13 _ rfl
theorem lc_14 {lay : Ly} (h : LCin lay) : lay[14]? = some (.inr (3, [none, none, none, none, none, none, some (some 15), some (some 16)])) := h 14 _ rfl
theorem lc_15 {lay : Ly} (h : LCin lay) : lay[15]? = some (.inl (0, 16)) := h 15 _ rfl
theorem lc_16 {lay : Ly} (h : LCin lay) : lay[16]? = some (.inl (0, 16)) := h 16 _ rfl
theorem lc_17 {lay : Ly} (h : LCin lay) : lay[17]? = some (.inr (0, [some (some 18), some (some 19), some (some 20), none, none, none, none])) := h 17 _ rfl
theorem lc_18 {lay : Ly} (h : LCin lay) : lay[18]? = some (.inl (0, 160)) := h 18 _ rfl
theorem lc_19 {lay : Ly} (h : LCin lay) : lay[19]? = some (.inl (0, 160)) := h 19 _ rfl
theorem lc_20 {lay : Ly} (h : LCin lay) : lay[20]? = some (.inl (0, 40)) := h 20 _ rfl
theorem lc_21 {lay : Ly} (h : LCin lay) : lay[21]? = some (.inl (0, 160)) := h 21 _ rfl
theorem lc_22 {lay : Ly} (h : LCin lay) : lay[22]? = some (.inl (0, 8)) := h 22 _ rfl
theorem lc_23 {lay : Ly} (h : LCin lay) : lay[23]? = some (.inl (0, 16)) := h 23 _ rfl
theorem lc_24 {lay : Ly} (h : LCin lay) : lay[24]? = some (.inr (3, [none, none, none, none, none, none, some (some 25), some (some 26)])) := h 24 _ rfl
theorem lc_25 {lay : Ly} (h : LCin lay) : lay[25]? = some (.inl (0, 16)) := h 25 _ rfl
theorem lc_26 {lay : Ly} (h : LCin lay) : lay[26]? = some (.inl (0, 16)) := h 26 _ rfl
theorem lc_27 {lay : Ly} (h : LCin lay) : lay[27]? = some (.inr (3, [none, none, none, none, none, none, some (some 28), some (some 29)])) := h 27 _ rfl
theorem lc_28 {lay : Ly} (h : LCin lay) : lay[28]? = some (.inl (0, 16)) := h 28 _ rfl
theorem lc_29 {lay : Ly} (h : LCin lay) : lay[29]? = some (.inl (0, 16)) := h 29 _ rfl
theorem lc_30 {lay : Ly} (h : LCin lay) : lay[30]? = some (.inr (6, [none, some (some 31), some (some 32), some (some 33)])) := h 30 _ rfl
theorem lc_31 {lay : Ly} (h : LCin lay) : lay[31]? = some (.inl (0, 16)) := h 31 _ rfl
theorem lc_32 {lay : Ly} (h : LCin lay) : lay[32]? = some (.inl (0, 16)) := h 32 _ rfl
theorem lc_33 {lay : Ly} (h : LCin lay) : lay[33]? = some (.inl (0, 256)) := h 33 _ rfl
theorem lc_34 {lay : Ly} (h : LCin lay) : lay[34]? = some (.inr (7, [none, none, none, some (some 35), some (some 36), some (some 37), none, some (some 38), some (some 39), some (some 40), some (some 41)])) := h 34 _ rfl
theorem lc_35 {lay : Ly} (h : LCin lay) : lay[35]? = some (.inl (0, 256)) := h 35 _ rfl
theorem lc_36 {lay : Ly} (h : LCin lay) : lay[36]? = some (.inl (0, 256)) := h 36 _ rfl
theorem lc_37 {lay : Ly} (h : LCin lay) : lay[37]? = some (.inl (0, 16)) := h 37 _ rfl
theorem lc_38 {lay : Ly} (h : LCin lay) : lay[38]? = some (.inl (0, 256)) := h 38 _ rfl
theorem lc_39 {lay : Ly} (h : LCin lay) : lay[39]? = some (.inl (0, 256)) := h 39 _ rfl
theorem lc_40 {lay : Ly} (h : LCin lay) : lay[40]? = some (.inl (0, 256)) := h 40 _ rfl
theorem lc_41 {lay : Ly} (h : LCin lay) : lay[41]? = some (.inl (0, 256)) := h 41 _ rfl
theorem lc_42 {lay : Ly} (h : LCin lay) : lay[42]? = some (.inr (4, [some (some 43), some (some 44), some (some 45)])) := h 42 _ rfl
theorem lc_43 {lay : Ly} (h : LCin lay) : lay[43]? = some (.inl (0, 8192)) := h 43 _ rfl
theorem lc_44 {lay : Ly} (h : LCin lay) : lay[44]? = some (.inl (0, 256)) := h 44 _ rfl
theorem lc_45 {lay : Ly} (h : LCin lay) : lay[45]? = some (.inl (0, 6)) := h 45 _ rfl
theorem lc_46 {lay : Ly} (h : LCin lay) : lay[46]? = some (.inr (2, [some (some 47), some (some 50), none, none, some (some 51)])) := h 46 _ rfl
theorem lc_47 {lay : Ly} (h : LCin lay) : lay[47]? = some (.inr (3, [none, none, none, none, none, none, some (some 48), some (some 49)])) := h 47 _ rfl
theorem lc_48 {lay : Ly} (h : LCin lay) : lay[48]? = some (.inl (0, 16)) := h 48 _ rfl
theorem lc_49 {lay : Ly} (h : LCin lay) : lay[49]? = some (.inl (0, 16)) := h 49 _ rfl
theorem lc_50 {lay : Ly} (h : LCin lay) : lay[50]? = some (.inl (0, 16)) := h 50 _ rfl
theorem lc_51 {lay : Ly} (h : LCin lay) : lay[51]? = some (.inl (0, 16)) := h 51 _ rfl
theorem lc_52 {lay : Ly} (h : LCin lay) : lay[52]? = some (.inr (1, [some (some 53), some (some 54), some (some 55), none])) := h 52 _ rfl
theorem lc_53 {lay : Ly} (h : LCin lay) : lay[53]? = some (.inl (0, 16)) := h 53 _ rfl
theorem lc_54 {lay : Ly} (h : LCin lay) : lay[54]? = some (.inl (0, 256)) := h 54 _ rfl
theorem lc_55 {lay : Ly} (h : LCin lay) : lay[55]? = some (.inl (3, 300)) := h 55 _ rfl
theorem lc_56 {lay : Ly} (h : LCin lay) : lay[56]? = some (.inr (5, [none, some (some 57)])) := h 56 _ rfl
theorem lc_57 {lay : Ly} (h : LCin lay) : lay[57]? = some (.inl (0, 1024)) := h 57 _ rfl
theorem la_58 {lay : Ly} (h : LAin lay) : lay[58]? = some (.inr (12, [none, none, none, none, some (some 59), some (some 60), some (some 61), some (some 62), none, none, none, some (some 63), none, none, none, none, none, some (some 64), some (some 65), none, none, none, none, none, none, none, none, none, none, none, some (some 66), some (some 67), some (some 68), some (some 69), some (some 70), some (some 71), some (some 72), some (some 73), some (some 74), none, none, none, some (some 75), some (some 76), some (some 77), some (some 78), some (some 79), some (some 80), none, none, some (some 81), some (some 82), some (some 83), some (some 84), some (some 85), some (some 86), none, none, none, none, none, some (some 87), some (some 88), some (some 89), some (some 90)])) := h 58 _ rfl
theorem la_59 {lay : Ly} (h : LAin lay) : lay[59]? = some (.inl (0, 9)) := h 59 _ rfl
theorem la_60 {lay : Ly} (h : LAin lay) : lay[60]? = some (.inl (0, 16)) := h 60 _ rfl
theorem la_61 {lay : Ly} (h : LAin lay) : lay[61]? = some (.inl (1, 256)) := h 61 _ rfl
theorem la_62 {lay : Ly} (h : LAin lay) : lay[62]? = some (.inl (1, 256)) := h 62 _ rfl
theorem la_63 {lay : Ly} (h : LAin lay) : lay[63]? = some (.inl (0, 9)) := h 63 _ rfl
theorem la_64 {lay : Ly} (h : LAin lay) : lay[64]? = some (.inl (0, 256)) := h 64 _ rfl
theorem la_65 {lay : Ly} (h : LAin lay) : lay[65]? = some (.inl (2, 200)) := h 65 _ rfl
theorem la_66 {lay : Ly} (h : LAin lay) : lay[66]? = some (.inl (0, 180)) := h 66 _ rfl
theorem la_67 {lay : Ly} (h : LAin lay) : lay[67]? = some (.inl (0, 180)) := h 67 _ rfl
theorem la_68 {lay : Ly} (h : LAin lay) : lay[68]? = some (.inl (0, 180)) := h 68 _ rfl
theorem la_69 {lay : Ly} (h : LAin lay) : lay[69]? = some (.inl (1, 256)) := h 69 _ rfl
theorem la_70 {lay : Ly} (h : LAin lay) : lay[70]? = some (.inl (0, 180)) := h 70 _ rfl
theorem la_71 {lay : Ly} (h : LAin lay) : lay[71]? = some (.inl (0, 7)) := h 71 _ rfl
theorem la_72 {lay : Ly} (h : LAin lay) : lay[72]? = some (.inl (1, 256)) := h 72 _ rfl
theorem la_73 {lay : Ly} (h : LAin lay) : lay[73]? = some (.inl (0, 256)) := h 73 _ rfl
theorem la_74 {lay : Ly} (h : LAin lay) : lay[74]? = some (.inl (0, 256)) := h 74 _ rfl
theorem la_75 {lay : Ly} (h : LAin lay) : lay[75]? = some (.inl (0, 16384)) := h 75 _ rfl
theorem la_76 {lay : Ly} (h : LAin lay) : lay[76]? = some (.inl (0, 6)) := h 76 _ rfl
theorem la_77 {lay : Ly} (h : LAin lay) : lay[77]? = some (.inl (1, 256)) := h 77 _ rfl
theorem la_78 {lay : Ly} (h : LAin lay) : lay[78]? = some (.inl (1, 256)) := h 78 _ rfl
theorem la_79 {lay : Ly} (h : LAin lay) : lay[79]? = some (.inl (0, 64)) := h 79 _ rfl
theorem la_80 {lay : Ly} (h : LAin lay) : lay[80]? = some (.inl (3, 2200)) := h 80 _ rfl
theorem la_81 {lay : Ly} (h : LAin lay) : lay[81]? = some (.inl (0, 5)) := h 81 _ rfl
theorem la_82 {lay : Ly} (h : LAin lay) : lay[82]? = some (.inl (3, 5)) := h 82 _ rfl
theorem la_83 {lay : Ly} (h : LAin lay) : lay[83]? = some (.inl (3, 50)) := h 83 _ rfl
theorem la_84 {lay : Ly} (h : LAin lay) : lay[84]? = some (.inl (1, 49)) := h 84 _ rfl
theorem la_85 {lay : Ly} (h : LAin lay) : lay[85]? = some (.inl (0, 10)) := h 85 _ rfl
theorem la_86 {lay : Ly} (h : LAin lay) : lay[86]? = some (.inl (0, 1024)) := h 86 _ rfl
theorem la_87 {lay : Ly} (h : LAin lay) : lay[87]? = some (.inl (0, 9)) := h 87 _ rfl
theorem la_88 {lay : Ly} (h : LAin lay) : lay[88]? = some (.inl (0, 16)) := h 88 _ rfl
theorem la_89 {lay : Ly} (h : LAin lay) : lay[89]? = some (.inl (1, 256)) := h 89 _ rfl
theorem la_90 {lay : Ly} (h : LAin lay) : lay[90]? = some (.inl (1, 256)) := h 90 _ rfl
def FoldAt (lay : Ly) (f0 f1 f2 : Nat) : Prop := lay[f0]? = some (.inr (3, [none, none, none, none, none, none, some (some f1), some (some f2)])) ∧ lay[f1]? = some (.inl (0, 16)) ∧ lay[f2]? = some (.inl (0, 16))
def TabAt (lay : Ly) (t0 t1 t2 t3 t4 : Nat) : Prop := lay[t0]? = some (.inr (9, [none, none, none, none, some (some t1), some (some t2), some (some t3), some (some t4)])) ∧ lay[t1]? = some (.inl (0, 8)) ∧ lay[t2]? = some (.inl (0, 16)) ∧ lay[t3]? = some (.inl (0, 16)) ∧ lay[t4]? = some (.inl (0, 16))
theorem am_ne {x y : Int32} {k : Int} (h : ¬ x = y) (hk : y.toInt = k) : ¬ x.toInt = k := fun e => h (Int32.toInt_inj.mp (e.trans hk.symm))
