-- the shapes: the cells of a FewTypes, of a FewTypesModel
def fw_X : List fw_K := [.inl (8, [some 1, some 32, none, some 63, some 65, some 71, some 75, some 77, some 81, some 82, some 83, some 84, some 85]), .inl (6, [some 2, some 6, some 8, some 9, some 10, some 27, none, some 28]), .inl (0, [some 3, some 4, some 5, none]), .inr (0, 10, []), .inr (0, 10, []), .inr (0, 10, []), .inl (2, [some 7, none, none]), .inr (0, 10, []), .inr (0, 12, []), .inr (0, 3, []), .inr (3, 8, [11, 13, 15, 17, 19, 21, 23, 25]), .inl (2, [some 12, none, none]), .inr (0, 10, []), .inl (2, [some 14, none, none]), .inr (0, 10, []), .inl (2, [some 16, none, none]), .inr (0, 10, []), .inl (2, [some 18, none, none]), .inr (0, 10, []), .inl (2, [some 20, none, none]), .inr (0, 10, []), .inl (2, [some 22, none, none]), .inr (0, 10, []), .inl (2, [some 24, none, none]), .inr (0, 10, []), .inl (2, [some 26, none, none]), .inr (0, 10, []), .inr (0, 8, []), .inl (1, [some 29, some 30, some 31, none]), .inr (0, 8, []), .inr (0, 8, []), .inr (0, 8, []), .inl (6, [some 33, some 37, some 39, some 40, some 41, some 58, none, some 59]), .inl (0, [some 34, some 35, some 36, none]), .inr (0, 10, []), .inr (0, 10, []), .inr (0, 10, []), .inl (2, [some 38, none, none]), .inr (0, 10, []), .inr (0, 12, []), .inr (0, 3, []), .inr (3, 8, [42, 44, 46, 48, 50, 52, 54, 56]), .inl (2, [some 43, none, none]), .inr (0, 10, []), .inl (2, [some 45, none, none]), .inr (0, 10, []), .inl (2, [some 47, none, none]), .inr (0, 10, []), .inl (2, [some 49, none, none]), .inr (0, 10, []), .inl (2, [some 51, none, none]), .inr (0, 10, []), .inl (2, [some 53, none, none]), .inr (0, 10, []), .inl (2, [some 55, none, none]), .inr (0, 10, []), .inl (2, [some 57, none, none]), .inr (0, 10, []), .inr (0, 8, []), .inl (1, [some 60, some 61, some 62, none]), .inr (0, 8, []), .inr (0, 8, []), .inr (0, 8, []), .inl (7, [some 64, none, none]), .inr (0, 60, []), .inl (4, [some 66, some 67, some 68, some 69, some 70, none, none, none, none, none, none]), .inr (0, 10, []), .inr (0, 10, []), .inr (0, 10, []), .inr (2, 176, []), .inr (0, 1024, []), .inl (3, [some 72, some 73, some 74, none, none]), .inr (0, 216, []), .inr (0, 6, []), .inr (0, 6, []), .inl (2, [some 76, none, none]), .inr (0, 10, []), .inl (0, [some 78, some 79, some 80, none]), .inr (0, 10, []), .inr (0, 10, []), .inr (0, 10, []), .inr (0, 9, []), .inr (0, 10, []), .inr (0, 10, []), .inr (0, 10, []), .inr (4, 4, [86, 88, 90, 92]), .inl (5, [some 87, none, none, none]), .inr (0, 24, []), .inl (5, [some 89, none, none, none]), .inr (0, 24, []), .inl (5, [some 91, none, none, none]), .inr (0, 24, []), .inl (5, [some 93, none, none, none]), .inr (0, 24, [])]
theorem fw_X0 : fw_X[0]? = some (.inl (8, [some 1, some 32, none, some 63, some 65, some 71, some 75, some 77, some 81, some 82, some 83, some 84, some 85])) := rfl
theorem fw_X1 : fw_X[1]? = some (.inl (6, [some 2, some 6, some 8, some 9, some 10, some 27, none, some 28])) := rfl
theorem fw_X2 : fw_X[2]? = some (.inl (0, [some 3, some 4, some 5, none])) := rfl
theorem fw_X3 : fw_X[3]? = some (.inr (0, 10, [])) := rfl
theorem fw_X4 : fw_X[4]? = some (.inr (0, 10, [])) := rfl
theorem fw_X5 : fw_X[5]? = some (.inr (0, 10, [])) := rfl
theorem fw_X6 : fw_X[6]? = some (.inl (2, [some 7, none, none])) := rfl
theorem fw_X7 : fw_X[7]? = some (.inr (0, 10, [])) := rfl
theorem fw_X8 : fw_X[8]? = some (.inr (0, 12, [])) := rfl
theorem fw_X9 : fw_X[9]? = some (.inr (0, 3, [])) := rfl
theorem fw_X10 : fw_X[10]? = some (.inr (3, 8, [11, 13, 15, 17, 19, 21, 23, 25])) := rfl
theorem fw_X11 : fw_X[11]? = some (.inl (2, [some 12, none, none])) := rfl
theorem fw_X12 : fw_X[12]? = some (.inr (0, 10, [])) := rfl
theorem fw_X13 : fw_X[13]? = some (.inl (2, [some 14, none, none])) := rfl
theorem fw_X14 : fw_X[14]? = some (.inr (0, 10, [])) := rfl
theorem fw_X15 : fw_X[15]? = some (.inl (2, [some 16, none, none])) := rfl
theorem fw_X16 : fw_X[16]? = some (.inr (0, 10, [])) := rfl
theorem fw_X17 : fw_X[17]? = some (.inl (2, [some 18, none, none])) := rfl
theorem fw_X18 : fw_X[18]? = some (.inr (0, 10, [])) := rfl
theorem fw_X19 : fw_X[19]? = some (.inl (2, [some 20, none, none])) := rfl
theorem fw_X20 : fw_X[20]? = some (.inr (0, 10, [])) := rfl
theorem fw_X21 : fw_X[21]? = some (.inl (2, [some 22, none, none])) := rfl
theorem fw_X22 : fw_X[22]? = some (.inr (0, 10, [])) := rfl
theorem fw_X23 : fw_X[23]? = some (.inl (2, [some 24, none, none])) := rfl
theorem fw_X24 : fw_X[24]? = some (.inr (0, 10, [])) := rfl
theorem fw_X25 : fw_X[25]? = some (.inl (2, [some 26, none, none])) := rfl
theorem fw_X26 : fw_X[26]? = some (.inr (0, 10, [])) := rfl
theorem fw_X27 : fw_X[27]? = some (.inr (0, 8, [])) := rfl
theorem fw_X28 : fw_X[28]? = some (.inl (1, [some 29, some 30, some 31, none])) := rfl
theorem fw_X29 : fw_X[29]? = some (.inr (0, 8, [])) := rfl
theorem fw_X30 : fw_X[30]? = some (.inr (0, 8, [])) := rfl
theorem fw_X31 : fw_X[31]? = some (.inr (0, 8, [])) := rfl
theorem fw_X32 : fw_X[32]? = some (.inl (6, [some 33, some 37, some 39, some 40, some 41, some 58, none, some 59])) := rfl
theorem fw_X33 : fw_X[33]? = some (.inl (0, [some 34, some 35, some 36, none])) := rfl
theorem fw_X34 : fw_X[34]? = some (.inr (0, 10, [])) := rfl
theorem fw_X35 : fw_X[35]? = some (.inr (0, 10, [])) := rfl
theorem fw_X36 : fw_X[36]? = some (.inr (0, 10, [])) := rfl
theorem fw_X37 : fw_X[37]? = some (.inl (2, [some 38, none, none])) := rfl
theorem fw_X38 : fw_X[38]? = some (.inr (0, 10, [])) := rfl
theorem fw_X39 : fw_X[39]? = some (.inr (0, 12, [])) := rfl
theorem fw_X40 : fw_X[40]? = some (.inr (0, 3, [])) := rfl
theorem fw_X41 : fw_X[41]? = some (.inr (3, 8, [42, 44, 46, 48, 50, 52, 54, 56])) := rfl
theorem fw_X42 : fw_X[42]? = some (.inl (2, [some 43, none, none])) := rfl
theorem fw_X43 : fw_X[43]? = some (.inr (0, 10, [])) := rfl
theorem fw_X44 : fw_X[44]? = some (.inl (2, [some 45, none, none])) := rfl
theorem fw_X45 : fw_X[45]? = some (.inr (0, 10, [])) := rfl
theorem fw_X46 : fw_X[46]? = some (.inl (2, [some 47, none, none])) := rfl
theorem fw_X47 : fw_X[47]? = some (.inr (0, 10, [])) := rfl
theorem fw_X48 : fw_X[48]? = some (.inl (2, [some 49, none, none])) := rfl
theorem fw_X49 : fw_X[49]? = some (.inr (0, 10, [])) := rfl
theorem fw_X50 : fw_X[50]? = some (.inl (2, [some 51, none, none])) := rfl
theorem fw_X51 : fw_X[51]? = some (.inr (0, 10, [])) := rfl
theorem fw_X52 : fw_X[52]? = some (.inl (2, [some 53, none, none])) := rfl
theorem fw_X53 : fw_X[53]? = some (.inr (0, 10, [])) := rfl
theorem fw_X54 : fw_X[54]? = some (.inl (2, [some 55, none, none])) := rfl
theorem fw_X55 : fw_X[55]? = some (.inr (0, 10, [])) := rfl
theorem fw_X56 : fw_X[56]? = some (.inl (2, [some 57, none, none])) := rfl
theorem fw_X57 : fw_X[57]? = some (.inr (0, 10, [])) := rfl
theorem fw_X58 : fw_X[58]? = some (.inr (0, 8, [])) := rfl
theorem fw_X59 : fw_X[59]? = some (.inl (1, [some 60, some 61, some 62, none])) := rfl
theorem fw_X60 : fw_X[60]? = some (.inr (0, 8, [])) := rfl
theorem fw_X61 : fw_X[61]? = some (.inr (0, 8, [])) := rfl
theorem fw_X62 : fw_X[62]? = some (.inr (0, 8, [])) := rfl
theorem fw_X63 : fw_X[63]? = some (.inl (7, [some 64, none, none])) := rfl
theorem fw_X64 : fw_X[64]? = some (.inr (0, 60, [])) := rfl
theorem fw_X65 : fw_X[65]? = some (.inl (4, [some 66, some 67, some 68, some 69, some 70, none, none, none, none, none, none])) := rfl
theorem fw_X66 : fw_X[66]? = some (.inr (0, 10, [])) := rfl
theorem fw_X67 : fw_X[67]? = some (.inr (0, 10, [])) := rfl
theorem fw_X68 : fw_X[68]? = some (.inr (0, 10, [])) := rfl
theorem fw_X69 : fw_X[69]? = some (.inr (2, 176, [])) := rfl
theorem fw_X70 : fw_X[70]? = some (.inr (0, 1024, [])) := rfl
theorem fw_X71 : fw_X[71]? = some (.inl (3, [some 72, some 73, some 74, none, none])) := rfl
theorem fw_X72 : fw_X[72]? = some (.inr (0, 216, [])) := rfl
theorem fw_X73 : fw_X[73]? = some (.inr (0, 6, [])) := rfl
theorem fw_X74 : fw_X[74]? = some (.inr (0, 6, [])) := rfl
theorem fw_X75 : fw_X[75]? = some (.inl (2, [some 76, none, none])) := rfl
theorem fw_X76 : fw_X[76]? = some (.inr (0, 10, [])) := rfl
theorem fw_X77 : fw_X[77]? = some (.inl (0, [some 78, some 79, some 80, none])) := rfl
theorem fw_X78 : fw_X[78]? = some (.inr (0, 10, [])) := rfl
theorem fw_X79 : fw_X[79]? = some (.inr (0, 10, [])) := rfl
theorem fw_X80 : fw_X[80]? = some (.inr (0, 10, [])) := rfl
theorem fw_X81 : fw_X[81]? = some (.inr (0, 9, [])) := rfl
theorem fw_X82 : fw_X[82]? = some (.inr (0, 10, [])) := rfl
theorem fw_X83 : fw_X[83]? = some (.inr (0, 10, [])) := rfl
theorem fw_X84 : fw_X[84]? = some (.inr (0, 10, [])) := rfl
theorem fw_X85 : fw_X[85]? = some (.inr (4, 4, [86, 88, 90, 92])) := rfl
theorem fw_X86 : fw_X[86]? = some (.inl (5, [some 87, none, none, none])) := rfl
theorem fw_X87 : fw_X[87]? = some (.inr (0, 24, [])) := rfl
theorem fw_X88 : fw_X[88]? = some (.inl (5, [some 89, none, none, none])) := rfl
theorem fw_X89 : fw_X[89]? = some (.inr (0, 24, [])) := rfl
theorem fw_X90 : fw_X[90]? = some (.inl (5, [some 91, none, none, none])) := rfl
theorem fw_X91 : fw_X[91]? = some (.inr (0, 24, [])) := rfl
theorem fw_X92 : fw_X[92]? = some (.inl (5, [some 93, none, none, none])) := rfl
theorem fw_X93 : fw_X[93]? = some (.inr (0, 24, [])) := rfl
def fw_Mo : List fw_K := [.inl (9, [none, some 1, some 2, some 3, some 4, some 5, none, some 6, none, none, some 7, none, some 8, some 9, some 10, none, none, none, some 11, some 12, some 13, none, some 14, some 15, some 16, some 17, some 18, some 19, some 20, some 21, some 22, some 23, none, some 24, some 25, some 26, some 27]), .inr (0, 10, []), .inr (0, 10, []), .inr (0, 10, []), .inr (0, 12, []), .inr (0, 3, []), .inr (0, 10, []), .inr (0, 104, []), .inr (0, 8, []), .inr (0, 8, []), .inr (0, 60, []), .inr (0, 30, []), .inr (1, 11264, []), .inr (0, 11264, []), .inr (0, 10, []), .inr (1, 1024, []), .inr (0, 1024, []), .inr (0, 10, []), .inr (0, 6, []), .inr (0, 6, []), .inr (0, 10, []), .inr (0, 10, []), .inr (0, 12, []), .inr (0, 190, []), .inr (0, 4, []), .inr (0, 4, []), .inr (0, 96, []), .inr (0, 24, [])]
theorem fw_Mo0 : fw_Mo[0]? = some (.inl (9, [none, some 1, some 2, some 3, some 4, some 5, none, some 6, none, none, some 7, none, some 8, some 9, some 10, none, none, none, some 11, some 12, some 13, none, some 14, some 15, some 16, some 17, some 18, some 19, some 20, some 21, some 22, some 23, none, some 24, some 25, some 26, some 27])) := rfl
theorem fw_Mo1 : fw_Mo[1]? = some (.inr (0, 10, [])) := rfl
theorem fw_Mo2 : fw_Mo[2]? = some (.inr (0, 10, [])) := rfl
theorem fw_Mo3 : fw_Mo[3]? = some (.inr (0, 10, [])) := rfl
theorem fw_Mo4 : fw_Mo[4]? = some (.inr (0, 12, [])) := rfl
theorem fw_Mo5 : fw_Mo[5]? = some (.inr (0, 3, [])) := rfl
theorem fw_Mo6 : fw_Mo[6]? = some (.inr (0, 10, [])) := rfl
theorem fw_Mo7 : fw_Mo[7]? = some (.inr (0, 104, [])) := rfl
theorem fw_Mo8 : fw_Mo[8]? = some (.inr (0, 8, [])) := rfl
theorem fw_Mo9 : fw_Mo[9]? = some (.inr (0, 8, [])) := rfl
theorem fw_Mo10 : fw_Mo[10]? = some (.inr (0, 60, [])) := rfl
theorem fw_Mo11 : fw_Mo[11]? = some (.inr (0, 30, [])) := rfl
theorem fw_Mo12 : fw_Mo[12]? = some (.inr (1, 11264, [])) := rfl
theorem fw_Mo13 : fw_Mo[13]? = some (.inr (0, 11264, [])) := rfl
theorem fw_Mo14 : fw_Mo[14]? = some (.inr (0, 10, [])) := rfl
theorem fw_Mo15 : fw_Mo[15]? = some (.inr (1, 1024, [])) := rfl
theorem fw_Mo16 : fw_Mo[16]? = some (.inr (0, 1024, [])) := rfl
theorem fw_Mo17 : fw_Mo[17]? = some (.inr (0, 10, [])) := rfl
theorem fw_Mo18 : fw_Mo[18]? = some (.inr (0, 6, [])) := rfl
theorem fw_Mo19 : fw_Mo[19]? = some (.inr (0, 6, [])) := rfl
theorem fw_Mo20 : fw_Mo[20]? = some (.inr (0, 10, [])) := rfl
theorem fw_Mo21 : fw_Mo[21]? = some (.inr (0, 10, [])) := rfl
theorem fw_Mo22 : fw_Mo[22]? = some (.inr (0, 12, [])) := rfl
theorem fw_Mo23 : fw_Mo[23]? = some (.inr (0, 190, [])) := rfl
theorem fw_Mo24 : fw_Mo[24]? = some (.inr (0, 4, [])) := rfl
theorem fw_Mo25 : fw_Mo[25]? = some (.inr (0, 4, [])) := rfl
theorem fw_Mo26 : fw_Mo[26]? = some (.inr (0, 96, [])) := rfl
theorem fw_Mo27 : fw_Mo[27]? = some (.inr (0, 24, [])) := rfl
abbrev fw_okL (t : Nat) : Prop := fw_X[t]? = some (.inl (2, [some (t + 1), none, none])) ∧ fw_X[t + 1]? = some (.inr (0, 10, []))
abbrev fw_okS (t : Nat) : Prop := fw_X[t]? = some (.inl (5, [some (t + 1), none, none, none])) ∧ fw_X[t + 1]? = some (.inr (0, 24, []))
theorem fw_bz0 : fw_bz 0 = some 0 := by decide
theorem fw_bz1 : fw_bz 1 = some 1 := by decide
theorem fw_icm1 : Int32.ofInt (-1) = (-1) := by decide
theorem fw_ic0 : Int32.ofInt (0) = 0 := by decide
theorem fw_ic1 : Int32.ofInt (1) = 1 := by decide
theorem fw_ic2 : Int32.ofInt (2) = 2 := by decide
theorem fw_ic3 : Int32.ofInt (3) = 3 := by decide
theorem fw_ic4 : Int32.ofInt (4) = 4 := by decide
theorem fw_bpm20 : (Int8.ofInt (-20)).toInt32 = (-20) := by decide
theorem fw_bpm14 : (Int8.ofInt (-14)).toInt32 = (-14) := by decide
theorem fw_bpm13 : (Int8.ofInt (-13)).toInt32 = (-13) := by decide
theorem fw_bpm12 : (Int8.ofInt (-12)).toInt32 = (-12) := by decide
theorem fw_bpm11 : (Int8.ofInt (-11)).toInt32 = (-11) := by decide
theorem fw_bpm4 : (Int8.ofInt (-4)).toInt32 = (-4) := by decide
theorem fw_bpm3 : (Int8.ofInt (-3)).toInt32 = (-3) := by decide
theorem fw_bpm2 : (Int8.ofInt (-2)).toInt32 = (-2) := by decide
theorem fw_bp6 : (Int8.ofInt (6)).toInt32 = 6 := by decide
theorem fw_bp8 : (Int8.ofInt (8)).toInt32 = 8 := by decide
theorem fw_bp9 : (Int8.ofInt (9)).toInt32 = 9 := by decide
theorem fw_bp10 : (Int8.ofInt (10)).toInt32 = 10 := by decide
theorem fw_bp11 : (Int8.ofInt (11)).toInt32 = 11 := by decide
theorem fw_bp12 : (Int8.ofInt (12)).toInt32 = 12 := by decide
theorem fw_bp13 : (Int8.ofInt (13)).toInt32 = 13 := by decide
theorem fw_bp16 : (Int8.ofInt (16)).toInt32 = 16 := by decide
theorem fw_bp24 : (Int8.ofInt (24)).toInt32 = 24 := by decide
theorem fw_bp32 : (Int8.ofInt (32)).toInt32 = 32 := by decide
theorem fw_bp44 : (Int8.ofInt (44)).toInt32 = 44 := by decide
theorem fw_bp48 : (Int8.ofInt (48)).toInt32 = 48 := by decide
theorem fw_bp49 : (Int8.ofInt (49)).toInt32 = 49 := by decide
theorem fw_bp57 : (Int8.ofInt (57)).toInt32 = 57 := by decide
theorem fw_bp60 : (Int8.ofInt (60)).toInt32 = 60 := by decide
theorem fw_bp63 : (Int8.ofInt (63)).toInt32 = 63 := by decide
theorem fw_bp95 : (Int8.ofInt (95)).toInt32 = 95 := by decide
theorem fw_bp97 : (Int8.ofInt (97)).toInt32 = 97 := by decide
theorem fw_bp98 : (Int8.ofInt (98)).toInt32 = 98 := by decide
theorem fw_bp99 : (Int8.ofInt (99)).toInt32 = 99 := by decide
theorem fw_bp108 : (Int8.ofInt (108)).toInt32 = 108 := by decide
theorem fw_bp109 : (Int8.ofInt (109)).toInt32 = 109 := by decide
theorem fw_bp110 : (Int8.ofInt (110)).toInt32 = 110 := by decide
theorem fw_bp116 : (Int8.ofInt (116)).toInt32 = 116 := by decide
theorem fw_bp126 : (Int8.ofInt (126)).toInt32 = 126 := by decide
theorem fw_sp200 : (Int16.ofInt (200)).toInt32 = 200 := by decide
theorem fw_sp1000 : (Int16.ofInt (1000)).toInt32 = 1000 := by decide
theorem fw_sp1024 : (Int16.ofInt (1024)).toInt32 = 1024 := by decide
theorem fw_ti {x c : Int32} (h : ¬ x = c) : x.toInt ≠ c.toInt := fun e => h (Int32.toInt_inj.mp e)
theorem fw_sw0_2 {x : Int32} : x.toInt ≠ (0 : Int32).toInt → x.toInt ≠ (1 : Int32).toInt → x.toInt ≠ (2 : Int32).toInt → x.toInt < 0 ∨ 2 < x.toInt := by
  intro g0 g1 g2
  have e0 : (0 : Int32).toInt = 0 := by decide
  have e1 : (1 : Int32).toInt = 1 := by decide
  have e2 : (2 : Int32).toInt = 2 := by decide
  omega
theorem fw_sw0_3 {x : Int32} : x.toInt ≠ (0 : Int32).toInt → x.toInt ≠ (1 : Int32).toInt → x.toInt ≠ (2 : Int32).toInt → x.toInt ≠ (3 : Int32).toInt → x.toInt < 0 ∨ 3 < x.toInt := by
  intro g0 g1 g2 g3
  have e0 : (0 : Int32).toInt = 0 := by decide
  have e1 : (1 : Int32).toInt = 1 := by decide
  have e2 : (2 : Int32).toInt = 2 := by decide
  have e3 : (3 : Int32).toInt = 3 := by decide
  omega
theorem fw_sw0_4 {x : Int32} : x.toInt ≠ (0 : Int32).toInt → x.toInt ≠ (1 : Int32).toInt → x.toInt ≠ (2 : Int32).toInt → x.toInt ≠ (3 : Int32).toInt → x.toInt ≠ (4 : Int32).toInt → x.toInt < 0 ∨ 4 < x.toInt := by
  intro g0 g1 g2 g3 g4
  have e0 : (0 : Int32).toInt = 0 := by decide
  have e1 : (1 : Int32).toInt = 1 := by decide
  have e2 : (2 : Int32).toInt = 2 := by decide
  have e3 : (3 : Int32).toInt = 3 := by decide
  have e4 : (4 : Int32).toInt = 4 := by decide
  omega
theorem fw_lk_kindOf_1 {x : Int32} : x.toInt ≠ (109 : Int32).toInt → x.toInt ≠ (110 : Int32).toInt → x.toInt ≠ (116 : Int32).toInt → Op.lookupswitch.offset (#[(109, 39), (110, 37), (116, 35)] : Array (Int × Int)).toList 41 x.toInt = 41 := by
  intro g0 g1 g2
  rw [show (109 : Int32).toInt = 109 by decide] at g0
  rw [show (110 : Int32).toInt = 110 by decide] at g1
  rw [show (116 : Int32).toInt = 116 by decide] at g2
  simp only [Op.lookupswitch.offset]
  rw [if_neg (Ne.symm g0), if_neg (Ne.symm g1), if_neg (Ne.symm g2)]
section FWI
variable {own : String} {cc : ByteArray} {nL : Nat} {rty : Option FieldType} {sh : List fw_K} {d : Nat} {rt : Option Int32} {μ1 : fw_M} {pc : Nat} {lv : List (Nat × Value)} {st : List Value} {μ : fw_M}
theorem fw_iinc2 {i j : Nat} {n : Int} {x v c : Int32} {lv1 : List (Nat × Value)} (hd : decode cc pc = .ok (.iinc i n, 3)) (hj : lv[j]? = some (i, .int x)) (hc : Int32.ofInt n = c) (hv : v = x + c) (hn : i < nL) (h : (i, Value.int v) :: lv.filter (fun q => !(q.1 == i) && !(q.1 + 1 == i && q.2.category == 2)) = lv1) (kk : fw_R own cc nL rty sh d rt μ1 (pc + 3) lv1 st μ) : fw_R own cc nL rty sh d rt μ1 pc lv st μ := fw_iinc hd hj (hc ▸ hv) hn h kk
end FWI
theorem fw_max1 : Cond.static Lib.Math.max.name ∈ fw_tb := fw_m 631 (by decide +kernel) (by decide +kernel)
theorem fw_max2 : Cond.code Lib.Math.max.name Lib.Math.max.code 2 (some .int) ∈ fw_tb := fw_m 632 (by decide +kernel) (by decide +kernel)
theorem fw_min1 : Cond.static Lib.Math.min.name ∈ fw_tb := fw_m 668 (by decide +kernel) (by decide +kernel)
theorem fw_min2 : Cond.code Lib.Math.min.name Lib.Math.min.code 2 (some .int) ∈ fw_tb := fw_m 669 (by decide +kernel) (by decide +kernel)
theorem fw_mi : Cond.initialized "java/lang/Math" ∈ fw_tb := fw_m 72 (by decide +kernel) (by decide +kernel)
section FWX
variable {own : String} {cc : ByteArray} {nL : Nat} {rty : Option FieldType} {sh : List fw_K} {d : Nat} {rt : Option Int32} {μ1 : fw_M} {pc : Nat} {lv : List (Nat × Value)} {st : List Value} {μ : fw_M}
theorem fw_mmax {index : Nat} {x y : Int32} (hd : decode cc pc = .ok (.invokestatic index, 3)) (hw : Cond.methodLink own index Lib.Math.max.name ∈ fw_tb) (hd1 : 1 ≤ d) (hroom : (st.map fun v => v.category).sum ≤ 8) (k : fw_R own cc nL rty sh d rt μ1 (pc + 3) lv (.int (if x < y then y else x) :: st) μ) : fw_R own cc nL rty sh d rt μ1 pc lv (.int y :: .int x :: st) μ := by
  intro p l e s m args below meth c D dA ad A H locs ls C hl hP hD hS
  refine va_mmax C.1 C.2.1 (C.2.2.1.trans hl.1.symm) C.2.2.2.1 (C.2.2.2.2.1 _ hw) (C.2.2.2.2.1 _ fw_max1) (C.2.2.2.2.1 _ fw_mi) (C.2.2.2.2.1 _ fw_max2) hd1 ?_ (Nat.zero_le _) (Nat.zero_le _) hd (k C hl hP hD hS)
  rw [fw_cat]
  show _ ≤ 40 * d
  omega
theorem fw_mmin {index : Nat} {x y : Int32} (hd : decode cc pc = .ok (.invokestatic index, 3)) (hw : Cond.methodLink own index Lib.Math.min.name ∈ fw_tb) (hd1 : 1 ≤ d) (hroom : (st.map fun v => v.category).sum ≤ 8) (k : fw_R own cc nL rty sh d rt μ1 (pc + 3) lv (.int (if y < x then y else x) :: st) μ) : fw_R own cc nL rty sh d rt μ1 pc lv (.int y :: .int x :: st) μ := by
  intro p l e s m args below meth c D dA ad A H locs ls C hl hP hD hS
  refine va_mmin C.1 C.2.1 (C.2.2.1.trans hl.1.symm) C.2.2.2.1 (C.2.2.2.2.1 _ hw) (C.2.2.2.2.1 _ fw_min1) (C.2.2.2.2.1 _ fw_mi) (C.2.2.2.2.1 _ fw_min2) hd1 ?_ (Nat.zero_le _) (Nat.zero_le _) hd (k C hl hP hD hS)
  rw [fw_cat]
  show _ ≤ 40 * d
  omega
end FWX
