/-! the cells of LeapJoin, of LeapJoinModel and the law's out, in the order in which they are made -/
def sh : List gS := [.inl (8, [4, 6, 11, 16, 21, 32, 43, 46, 47, 49, 51, 53, 54, 56, 0, 0, 1]), .inl (6, [0, 5, 0]), .inr (1, 400, 0), .inl (5, [0, 0, 0, 7, 8, 9, 10]), .inr (0, 4, 0), .inr (0, 4, 0), .inr (0, 12, 0), .inr (0, 48, 0), .inl (5, [0, 0, 0, 12, 13, 14, 15]), .inr (0, 4, 0), .inr (0, 4, 0), .inr (0, 12, 0), .inr (0, 48, 0), .inl (5, [0, 0, 0, 17, 18, 19, 20]), .inr (0, 4, 0), .inr (0, 4, 0), .inr (0, 12, 0), .inr (0, 48, 0), .inl (1, [0, 0, 0, 22, 23, 24, 25, 26, 27, 28, 29, 30, 31]), .inr (0, 4, 0), .inr (0, 4, 0), .inr (0, 20736, 0), .inr (0, 5, 0), .inr (0, 48, 0), .inr (0, 3, 0), .inr (0, 16, 0), .inr (0, 16, 0), .inr (0, 16, 0), .inr (0, 16, 0), .inl (1, [0, 0, 0, 33, 34, 35, 36, 37, 38, 39, 40, 41, 42]), .inr (0, 4, 0), .inr (0, 4, 0), .inr (0, 20736, 0), .inr (0, 5, 0), .inr (0, 48, 0), .inr (0, 3, 0), .inr (0, 16, 0), .inr (0, 16, 0), .inr (0, 16, 0), .inr (0, 16, 0), .inl (0, [44, 45]), .inr (0, 100, 0), .inr (0, 100, 0), .inl (7, [0, 0, 0, 0]), .inl (2, [48, 0, 0]), .inr (0, 300, 0), .inl (2, [50, 0, 0]), .inr (0, 300, 0), .inl (3, [0, 52, 0]), .inr (0, 120, 0), .inr (4, 4, 439), .inl (4, [0, 55]), .inr (0, 60, 0), .inr (0, 4, 0), .inl (4, [0, 58]), .inr (0, 60, 0), .inl (4, [0, 60]), .inr (0, 60, 0), .inl (4, [0, 62]), .inr (0, 60, 0), .inl (4, [0, 64]), .inr (0, 60, 0), .inl (9, [0, 66, 0, 0, 0, 67, 68, 69, 70, 0, 71, 72, 0, 73, 74, 75, 76, 0, 77, 0, 78, 79, 80, 81, 82, 83, 0, 0, 84, 0, 1, 0, 0, 0, 85, 86, 87, 88, 89, 90, 91, 92, 0]), .inr (0, 400, 0), .inr (0, 4, 0), .inr (0, 12, 0), .inr (0, 4, 0), .inr (0, 144, 0), .inr (0, 300, 0), .inr (0, 5, 0), .inr (0, 331, 0), .inr (0, 4, 0), .inr (0, 4, 0), .inr (0, 12, 0), .inr (0, 4, 0), .inr (0, 4, 0), .inr (0, 192, 0), .inr (0, 16, 0), .inr (0, 16, 0), .inr (0, 5, 0), .inr (0, 82944, 0), .inr (0, 13240, 0), .inr (0, 400, 0), .inr (0, 400, 0), .inr (0, 4, 0), .inr (2, 20736, 0), .inr (0, 100, 0), .inr (0, 4, 0), .inr (0, 150, 0), .inr (0, 331, 0), .inr (3, 1, 1)]
theorem s0 : sh[0]? = some (.inl (8, [4, 6, 11, 16, 21, 32, 43, 46, 47, 49, 51, 53, 54, 56, 0, 0, 1])) := rfl
theorem s1 : sh[1]? = some (.inl (6, [0, 5, 0])) := rfl
theorem s2 : sh[2]? = some (.inr (1, 400, 0)) := rfl
theorem s3 : sh[3]? = some (.inl (5, [0, 0, 0, 7, 8, 9, 10])) := rfl
theorem s4 : sh[4]? = some (.inr (0, 4, 0)) := rfl
theorem s5 : sh[5]? = some (.inr (0, 4, 0)) := rfl
theorem s6 : sh[6]? = some (.inr (0, 12, 0)) := rfl
theorem s7 : sh[7]? = some (.inr (0, 48, 0)) := rfl
theorem s8 : sh[8]? = some (.inl (5, [0, 0, 0, 12, 13, 14, 15])) := rfl
theorem s9 : sh[9]? = some (.inr (0, 4, 0)) := rfl
theorem s10 : sh[10]? = some (.inr (0, 4, 0)) := rfl
theorem s11 : sh[11]? = some (.inr (0, 12, 0)) := rfl
theorem s12 : sh[12]? = some (.inr (0, 48, 0)) := rfl
theorem s13 : sh[13]? = some (.inl (5, [0, 0, 0, 17, 18, 19, 20])) := rfl
theorem s14 : sh[14]? = some (.inr (0, 4, 0)) := rfl
theorem s15 : sh[15]? = some (.inr (0, 4, 0)) := rfl
theorem s16 : sh[16]? = some (.inr (0, 12, 0)) := rfl
theorem s17 : sh[17]? = some (.inr (0, 48, 0)) := rfl
theorem s18 : sh[18]? = some (.inl (1, [0, 0, 0, 22, 23, 24, 25, 26, 27, 28, 29, 30, 31])) := rfl
theorem s19 : sh[19]? = some (.inr (0, 4, 0)) := rfl
theorem s20 : sh[20]? = some (.inr (0, 4, 0)) := rfl
theorem s21 : sh[21]? = some (.inr (0, 20736, 0)) := rfl
theorem s22 : sh[22]? = some (.inr (0, 5, 0)) := rfl
theorem s23 : sh[23]? = some (.inr (0, 48, 0)) := rfl
theorem s24 : sh[24]? = some (.inr (0, 3, 0)) := rfl
theorem s25 : sh[25]? = some (.inr (0, 16, 0)) := rfl
theorem s26 : sh[26]? = some (.inr (0, 16, 0)) := rfl
theorem s27 : sh[27]? = some (.inr (0, 16, 0)) := rfl
theorem s28 : sh[28]? = some (.inr (0, 16, 0)) := rfl
theorem s29 : sh[29]? = some (.inl (1, [0, 0, 0, 33, 34, 35, 36, 37, 38, 39, 40, 41, 42])) := rfl
theorem s30 : sh[30]? = some (.inr (0, 4, 0)) := rfl
theorem s31 : sh[31]? = some (.inr (0, 4, 0)) := rfl
theorem s32 : sh[32]? = some (.inr (0, 20736, 0)) := rfl
theorem s33 : sh[33]? = some (.inr (0, 5, 0)) := rfl
theorem s34 : sh[34]? = some (.inr (0, 48, 0)) := rfl
theorem s35 : sh[35]? = some (.inr (0, 3, 0)) := rfl
theorem s36 : sh[36]? = some (.inr (0, 16, 0)) := rfl
theorem s37 : sh[37]? = some (.inr (0, 16, 0)) := rfl
theorem s38 : sh[38]? = some (.inr (0, 16, 0)) := rfl
theorem s39 : sh[39]? = some (.inr (0, 16, 0)) := rfl
theorem s40 : sh[40]? = some (.inl (0, [44, 45])) := rfl
theorem s41 : sh[41]? = some (.inr (0, 100, 0)) := rfl
theorem s42 : sh[42]? = some (.inr (0, 100, 0)) := rfl
theorem s43 : sh[43]? = some (.inl (7, [0, 0, 0, 0])) := rfl
theorem s44 : sh[44]? = some (.inl (2, [48, 0, 0])) := rfl
theorem s45 : sh[45]? = some (.inr (0, 300, 0)) := rfl
theorem s46 : sh[46]? = some (.inl (2, [50, 0, 0])) := rfl
theorem s47 : sh[47]? = some (.inr (0, 300, 0)) := rfl
theorem s48 : sh[48]? = some (.inl (3, [0, 52, 0])) := rfl
theorem s49 : sh[49]? = some (.inr (0, 120, 0)) := rfl
theorem s50 : sh[50]? = some (.inr (4, 4, 439)) := rfl
theorem s51 : sh[51]? = some (.inl (4, [0, 55])) := rfl
theorem s52 : sh[52]? = some (.inr (0, 60, 0)) := rfl
theorem s53 : sh[53]? = some (.inr (0, 4, 0)) := rfl
theorem s54 : sh[54]? = some (.inl (4, [0, 58])) := rfl
theorem s55 : sh[55]? = some (.inr (0, 60, 0)) := rfl
theorem s56 : sh[56]? = some (.inl (4, [0, 60])) := rfl
theorem s57 : sh[57]? = some (.inr (0, 60, 0)) := rfl
theorem s58 : sh[58]? = some (.inl (4, [0, 62])) := rfl
theorem s59 : sh[59]? = some (.inr (0, 60, 0)) := rfl
theorem s60 : sh[60]? = some (.inl (4, [0, 64])) := rfl
theorem s61 : sh[61]? = some (.inr (0, 60, 0)) := rfl
theorem s62 : sh[62]? = some (.inl (9, [0, 66, 0, 0, 0, 67, 68, 69, 70, 0, 71, 72, 0, 73, 74, 75, 76, 0, 77, 0, 78, 79, 80, 81, 82, 83, 0, 0, 84, 0, 1, 0, 0, 0, 85, 86, 87, 88, 89, 90, 91, 92, 0])) := rfl
theorem s63 : sh[63]? = some (.inr (0, 400, 0)) := rfl
theorem s64 : sh[64]? = some (.inr (0, 4, 0)) := rfl
theorem s65 : sh[65]? = some (.inr (0, 12, 0)) := rfl
theorem s66 : sh[66]? = some (.inr (0, 4, 0)) := rfl
theorem s67 : sh[67]? = some (.inr (0, 144, 0)) := rfl
theorem s68 : sh[68]? = some (.inr (0, 300, 0)) := rfl
theorem s69 : sh[69]? = some (.inr (0, 5, 0)) := rfl
theorem s70 : sh[70]? = some (.inr (0, 331, 0)) := rfl
theorem s71 : sh[71]? = some (.inr (0, 4, 0)) := rfl
theorem s72 : sh[72]? = some (.inr (0, 4, 0)) := rfl
theorem s73 : sh[73]? = some (.inr (0, 12, 0)) := rfl
theorem s74 : sh[74]? = some (.inr (0, 4, 0)) := rfl
theorem s75 : sh[75]? = some (.inr (0, 4, 0)) := rfl
theorem s76 : sh[76]? = some (.inr (0, 192, 0)) := rfl
theorem s77 : sh[77]? = some (.inr (0, 16, 0)) := rfl
theorem s78 : sh[78]? = some (.inr (0, 16, 0)) := rfl
theorem s79 : sh[79]? = some (.inr (0, 5, 0)) := rfl
theorem s80 : sh[80]? = some (.inr (0, 82944, 0)) := rfl
theorem s81 : sh[81]? = some (.inr (0, 13240, 0)) := rfl
theorem s82 : sh[82]? = some (.inr (0, 400, 0)) := rfl
theorem s83 : sh[83]? = some (.inr (0, 400, 0)) := rfl
theorem s84 : sh[84]? = some (.inr (0, 4, 0)) := rfl
theorem s85 : sh[85]? = some (.inr (2, 20736, 0)) := rfl
theorem s86 : sh[86]? = some (.inr (0, 100, 0)) := rfl
theorem s87 : sh[87]? = some (.inr (0, 4, 0)) := rfl
theorem s88 : sh[88]? = some (.inr (0, 150, 0)) := rfl
theorem s89 : sh[89]? = some (.inr (0, 331, 0)) := rfl
theorem s90 : sh[90]? = some (.inr (3, 1, 1)) := rfl
abbrev g0 : gM := fun _ _ => 0
abbrev h0 : gN := fun _ _ => 0
theorem g_lt {a b : Int32} : a < b ↔ a.toInt < b.toInt := Int32.lt_iff_toInt_lt
theorem g_le {a b : Int32} : a ≤ b ↔ a.toInt ≤ b.toInt := Int32.le_iff_toInt_le
theorem g_eq {a b : Int32} : a = b ↔ a.toInt = b.toInt := Int32.toInt_inj.symm
theorem g_0shr (x : Int32) : (0 : Int32) >>> x = 0 := by simp
theorem g_l0 : (0 : Int32).toInt = 0 := by decide
theorem g_l1 : (1 : Int32).toInt = 1 := by decide
theorem g_l2 : (2 : Int32).toInt = 2 := by decide
theorem g_l3 : (3 : Int32).toInt = 3 := by decide
theorem g_l4 : (4 : Int32).toInt = 4 := by decide
theorem g_l5 : (5 : Int32).toInt = 5 := by decide
theorem g_lm1 : ((-1) : Int32).toInt = -1 := by decide
theorem g_l400 : (400 : Int32).toInt = 400 := by decide
theorem g_l40 : (40 : Int32).toInt = 40 := by decide
theorem g_l15 : (15 : Int32).toInt = 15 := by decide
