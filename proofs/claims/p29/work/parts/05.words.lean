theorem zGt_1 {w : Cond} (i : Nat) (h : tables_1_1[i]? = some w) (hg : goodWord w = true) : w ∈ zGW := List.mem_filter.mpr ⟨List.mem_append_right _ (show w ∈ tables_1_1 ++ (tables_1_2 ++ (tables_1_3 ++ (tables_1_4 ++ tables_1_5))) from List.mem_append_left _ (List.mem_of_getElem? h)), hg⟩
theorem zGt_2 {w : Cond} (i : Nat) (h : tables_1_2[i]? = some w) (hg : goodWord w = true) : w ∈ zGW := List.mem_filter.mpr ⟨List.mem_append_right _ (show w ∈ tables_1_1 ++ (tables_1_2 ++ (tables_1_3 ++ (tables_1_4 ++ tables_1_5))) from List.mem_append_right _ (List.mem_append_left _ (List.mem_of_getElem? h))), hg⟩
theorem zGt_3 {w : Cond} (i : Nat) (h : tables_1_3[i]? = some w) (hg : goodWord w = true) : w ∈ zGW := List.mem_filter.mpr ⟨List.mem_append_right _ (show w ∈ tables_1_1 ++ (tables_1_2 ++ (tables_1_3 ++ (tables_1_4 ++ tables_1_5))) from List.mem_append_right _ (List.mem_append_right _ (List.mem_append_left _ (List.mem_of_getElem? h)))), hg⟩
theorem zGt_4 {w : Cond} (i : Nat) (h : tables_1_4[i]? = some w) (hg : goodWord w = true) : w ∈ zGW := List.mem_filter.mpr ⟨List.mem_append_right _ (show w ∈ tables_1_1 ++ (tables_1_2 ++ (tables_1_3 ++ (tables_1_4 ++ tables_1_5))) from List.mem_append_right _ (List.mem_append_right _ (List.mem_append_right _ (List.mem_append_left _ (List.mem_of_getElem? h))))), hg⟩
theorem zGt_5 {w : Cond} (i : Nat) (h : tables_1_5[i]? = some w) (hg : goodWord w = true) : w ∈ zGW := List.mem_filter.mpr ⟨List.mem_append_right _ (show w ∈ tables_1_1 ++ (tables_1_2 ++ (tables_1_3 ++ (tables_1_4 ++ tables_1_5))) from List.mem_append_right _ (List.mem_append_right _ (List.mem_append_right _ (List.mem_append_right _ (List.mem_of_getElem? h))))), hg⟩
theorem sh_0 : zT[0]? = some (3, 8, [2, 19, 36, 0, 53, 55, 64]) := by decide +kernel
theorem sh_1 : zT[1]? = some (3, 0, [3, 11, 14, 16]) := by decide +kernel
theorem sh_2 : zT[2]? = some (3, 6, [0, 4, 5, 6, 7, 8, 9, 0, 10]) := by decide +kernel
theorem sh_3 : zT[3]? = some (0, 6, []) := by decide +kernel
theorem sh_4 : zT[4]? = some (0, 6, []) := by decide +kernel
theorem sh_5 : zT[5]? = some (0, 6, []) := by decide +kernel
theorem sh_6 : zT[6]? = some (0, 6, []) := by decide +kernel
theorem sh_7 : zT[7]? = some (0, 8, []) := by decide +kernel
theorem sh_8 : zT[8]? = some (0, 24, []) := by decide +kernel
theorem sh_9 : zT[9]? = some (0, 3, []) := by decide +kernel
theorem sh_10 : zT[10]? = some (3, 3, [0, 12, 13]) := by decide +kernel
theorem sh_11 : zT[11]? = some (0, 4, []) := by decide +kernel
theorem sh_12 : zT[12]? = some (0, 4, []) := by decide +kernel
theorem sh_13 : zT[13]? = some (3, 1, [0, 15]) := by decide +kernel
theorem sh_14 : zT[14]? = some (0, 8, []) := by decide +kernel
theorem sh_15 : zT[15]? = some (3, 5, [0, 17, 18]) := by decide +kernel
theorem sh_16 : zT[16]? = some (0, 6, []) := by decide +kernel
theorem sh_17 : zT[17]? = some (0, 6, []) := by decide +kernel
theorem sh_18 : zT[18]? = some (3, 0, [20, 28, 31, 33]) := by decide +kernel
theorem sh_19 : zT[19]? = some (3, 6, [0, 21, 22, 23, 24, 25, 26, 0, 27]) := by decide +kernel
theorem sh_20 : zT[20]? = some (0, 6, []) := by decide +kernel
theorem sh_21 : zT[21]? = some (0, 6, []) := by decide +kernel
theorem sh_22 : zT[22]? = some (0, 6, []) := by decide +kernel
theorem sh_23 : zT[23]? = some (0, 6, []) := by decide +kernel
theorem sh_24 : zT[24]? = some (0, 8, []) := by decide +kernel
theorem sh_25 : zT[25]? = some (0, 24, []) := by decide +kernel
theorem sh_26 : zT[26]? = some (0, 3, []) := by decide +kernel
theorem sh_27 : zT[27]? = some (3, 3, [0, 29, 30]) := by decide +kernel
theorem sh_28 : zT[28]? = some (0, 4, []) := by decide +kernel
theorem sh_29 : zT[29]? = some (0, 4, []) := by decide +kernel
theorem sh_30 : zT[30]? = some (3, 1, [0, 32]) := by decide +kernel
theorem sh_31 : zT[31]? = some (0, 8, []) := by decide +kernel
theorem sh_32 : zT[32]? = some (3, 5, [0, 34, 35]) := by decide +kernel
theorem sh_33 : zT[33]? = some (0, 6, []) := by decide +kernel
theorem sh_34 : zT[34]? = some (0, 6, []) := by decide +kernel
theorem sh_35 : zT[35]? = some (3, 0, [37, 45, 48, 50]) := by decide +kernel
theorem sh_36 : zT[36]? = some (3, 6, [0, 38, 39, 40, 41, 42, 43, 0, 44]) := by decide +kernel
theorem sh_37 : zT[37]? = some (0, 6, []) := by decide +kernel
theorem sh_38 : zT[38]? = some (0, 6, []) := by decide +kernel
theorem sh_39 : zT[39]? = some (0, 6, []) := by decide +kernel
theorem sh_40 : zT[40]? = some (0, 6, []) := by decide +kernel
theorem sh_41 : zT[41]? = some (0, 8, []) := by decide +kernel
theorem sh_42 : zT[42]? = some (0, 24, []) := by decide +kernel
theorem sh_43 : zT[43]? = some (0, 3, []) := by decide +kernel
theorem sh_44 : zT[44]? = some (3, 3, [0, 46, 47]) := by decide +kernel
theorem sh_45 : zT[45]? = some (0, 4, []) := by decide +kernel
theorem sh_46 : zT[46]? = some (0, 4, []) := by decide +kernel
theorem sh_47 : zT[47]? = some (3, 1, [0, 49]) := by decide +kernel
theorem sh_48 : zT[48]? = some (0, 8, []) := by decide +kernel
theorem sh_49 : zT[49]? = some (3, 5, [0, 51, 52]) := by decide +kernel
theorem sh_50 : zT[50]? = some (0, 6, []) := by decide +kernel
theorem sh_51 : zT[51]? = some (0, 6, []) := by decide +kernel
theorem sh_52 : zT[52]? = some (3, 4, [54, 0]) := by decide +kernel
theorem sh_53 : zT[53]? = some (0, 60, []) := by decide +kernel
theorem sh_54 : zT[54]? = some (3, 7, [56, 0, 0]) := by decide +kernel
theorem sh_55 : zT[55]? = some (3, 6, [0, 57, 58, 59, 60, 61, 62, 0, 63]) := by decide +kernel
theorem sh_56 : zT[56]? = some (0, 6, []) := by decide +kernel
theorem sh_57 : zT[57]? = some (0, 6, []) := by decide +kernel
theorem sh_58 : zT[58]? = some (0, 6, []) := by decide +kernel
theorem sh_59 : zT[59]? = some (0, 6, []) := by decide +kernel
theorem sh_60 : zT[60]? = some (0, 8, []) := by decide +kernel
theorem sh_61 : zT[61]? = some (0, 24, []) := by decide +kernel
theorem sh_62 : zT[62]? = some (0, 3, []) := by decide +kernel
theorem sh_63 : zT[63]? = some (3, 2, [65, 0, 66, 67, 68, 69]) := by decide +kernel
theorem sh_64 : zT[64]? = some (0, 6, []) := by decide +kernel
theorem sh_65 : zT[65]? = some (1, 18, []) := by decide +kernel
theorem sh_66 : zT[66]? = some (1, 729, []) := by decide +kernel
theorem sh_67 : zT[67]? = some (1, 729, []) := by decide +kernel
theorem sh_68 : zT[68]? = some (1, 729, []) := by decide +kernel
theorem sh_69 : zT[69]? = some (3, 9, [0, 71, 72, 73, 74, 0, 0, 0, 0, 0, 0, 0, 0, 75, 0, 0, 0, 0, 0, 76, 77, 0, 78, 79, 80, 0, 81, 0, 82, 0, 0, 0, 83, 84, 0, 85, 86, 87, 0, 0]) := by decide +kernel
theorem sh_70 : zT[70]? = some (0, 6, []) := by decide +kernel
theorem sh_71 : zT[71]? = some (0, 6, []) := by decide +kernel
theorem sh_72 : zT[72]? = some (0, 6, []) := by decide +kernel
theorem sh_73 : zT[73]? = some (0, 6, []) := by decide +kernel
theorem sh_74 : zT[74]? = some (0, 24, []) := by decide +kernel
theorem sh_75 : zT[75]? = some (0, 4, []) := by decide +kernel
theorem sh_76 : zT[76]? = some (0, 4, []) := by decide +kernel
theorem sh_77 : zT[77]? = some (0, 8, []) := by decide +kernel
theorem sh_78 : zT[78]? = some (0, 6, []) := by decide +kernel
theorem sh_79 : zT[79]? = some (0, 6, []) := by decide +kernel
theorem sh_80 : zT[80]? = some (0, 60, []) := by decide +kernel
theorem sh_81 : zT[81]? = some (0, 28, []) := by decide +kernel
theorem sh_82 : zT[82]? = some (0, 729, []) := by decide +kernel
theorem sh_83 : zT[83]? = some (0, 729, []) := by decide +kernel
theorem sh_84 : zT[84]? = some (0, 729, []) := by decide +kernel
theorem sh_85 : zT[85]? = some (0, 240, []) := by decide +kernel
theorem sh_86 : zT[86]? = some (2, 2, []) := by decide +kernel
def isX0 (a : Nat) : Prop := a = 1 ∨ a = 18 ∨ a = 35
theorem shX0_0 {a : Nat} (h : isX0 a) : zT[a]? = some (3, 0, [a + 2, a + 10, a + 13, a + 15]) := by
  rcases h with rfl | rfl | rfl <;> decide +kernel
theorem isX0_1 : isX0 1 := by unfold isX0; omega
theorem isX0_18 : isX0 18 := by unfold isX0; omega
theorem isX0_35 : isX0 35 := by unfold isX0; omega
def isX1 (a : Nat) : Prop := a = 13 ∨ a = 30 ∨ a = 47
theorem shX1_0 {a : Nat} (h : isX1 a) : zT[a]? = some (3, 1, [0, a + 2]) := by
  rcases h with rfl | rfl | rfl <;> decide +kernel
theorem isX1_13 : isX1 13 := by unfold isX1; omega
theorem isX1_30 : isX1 30 := by unfold isX1; omega
theorem isX1_47 : isX1 47 := by unfold isX1; omega
def isX3 (a : Nat) : Prop := a = 10 ∨ a = 27 ∨ a = 44
theorem shX3_0 {a : Nat} (h : isX3 a) : zT[a]? = some (3, 3, [0, a + 2, a + 3]) := by
  rcases h with rfl | rfl | rfl <;> decide +kernel
theorem isX3_10 : isX3 10 := by unfold isX3; omega
theorem isX3_27 : isX3 27 := by unfold isX3; omega
theorem isX3_44 : isX3 44 := by unfold isX3; omega
def isX5 (a : Nat) : Prop := a = 15 ∨ a = 32 ∨ a = 49
theorem shX5_0 {a : Nat} (h : isX5 a) : zT[a]? = some (3, 5, [0, a + 2, a + 3]) := by
  rcases h with rfl | rfl | rfl <;> decide +kernel
theorem isX5_15 : isX5 15 := by unfold isX5; omega
theorem isX5_32 : isX5 32 := by unfold isX5; omega
theorem isX5_49 : isX5 49 := by unfold isX5; omega
def isX6 (a : Nat) : Prop := a = 2 ∨ a = 19 ∨ a = 36 ∨ a = 55
theorem shX6_0 {a : Nat} (h : isX6 a) : zT[a]? = some (3, 6, [0, a + 2, a + 3, a + 4, a + 5, a + 6, a + 7, 0, a + 8]) := by
  rcases h with rfl | rfl | rfl | rfl <;> decide +kernel
theorem isX6_2 : isX6 2 := by unfold isX6; omega
theorem isX6_19 : isX6 19 := by unfold isX6; omega
theorem isX6_36 : isX6 36 := by unfold isX6; omega
theorem isX6_55 : isX6 55 := by unfold isX6; omega
theorem isX6_X0_1 {a : Nat} (h : isX0 a) : isX6 (a + 1) := by
  rcases h with rfl | rfl | rfl <;> (unfold isX6; omega)
theorem isX3_X0_9 {a : Nat} (h : isX0 a) : isX3 (a + 9) := by
  rcases h with rfl | rfl | rfl <;> (unfold isX3; omega)
theorem isX1_X0_12 {a : Nat} (h : isX0 a) : isX1 (a + 12) := by
  rcases h with rfl | rfl | rfl <;> (unfold isX1; omega)
theorem isX5_X0_14 {a : Nat} (h : isX0 a) : isX5 (a + 14) := by
  rcases h with rfl | rfl | rfl <;> (unfold isX5; omega)
theorem shX1_1 {a : Nat} (h : isX1 a) : zT[a + 1]? = some (0, 8, []) := by
  rcases h with rfl | rfl | rfl <;> decide +kernel
theorem shX3_1 {a : Nat} (h : isX3 a) : zT[a + 1]? = some (0, 4, []) := by
  rcases h with rfl | rfl | rfl <;> decide +kernel
theorem shX3_2 {a : Nat} (h : isX3 a) : zT[a + 2]? = some (0, 4, []) := by
  rcases h with rfl | rfl | rfl <;> decide +kernel
theorem shX5_1 {a : Nat} (h : isX5 a) : zT[a + 1]? = some (0, 6, []) := by
  rcases h with rfl | rfl | rfl <;> decide +kernel
theorem shX5_2 {a : Nat} (h : isX5 a) : zT[a + 2]? = some (0, 6, []) := by
  rcases h with rfl | rfl | rfl <;> decide +kernel
theorem shX6_1 {a : Nat} (h : isX6 a) : zT[a + 1]? = some (0, 6, []) := by
  rcases h with rfl | rfl | rfl | rfl <;> decide +kernel
theorem shX6_2 {a : Nat} (h : isX6 a) : zT[a + 2]? = some (0, 6, []) := by
  rcases h with rfl | rfl | rfl | rfl <;> decide +kernel
theorem shX6_3 {a : Nat} (h : isX6 a) : zT[a + 3]? = some (0, 6, []) := by
  rcases h with rfl | rfl | rfl | rfl <;> decide +kernel
theorem shX6_4 {a : Nat} (h : isX6 a) : zT[a + 4]? = some (0, 6, []) := by
  rcases h with rfl | rfl | rfl | rfl <;> decide +kernel
theorem shX6_5 {a : Nat} (h : isX6 a) : zT[a + 5]? = some (0, 8, []) := by
  rcases h with rfl | rfl | rfl | rfl <;> decide +kernel
theorem shX6_6 {a : Nat} (h : isX6 a) : zT[a + 6]? = some (0, 24, []) := by
  rcases h with rfl | rfl | rfl | rfl <;> decide +kernel
theorem shX6_7 {a : Nat} (h : isX6 a) : zT[a + 7]? = some (0, 3, []) := by
  rcases h with rfl | rfl | rfl | rfl <;> decide +kernel
def zB (v : Int32) : Prop := narrow .boolean (.int v) = .int v
set_option maxRecDepth 20000 in
theorem wi_X0 : ∀ w ∈ u_ws RX0 TX0 4, w ∈ zGW := by decide +kernel
set_option maxRecDepth 20000 in
theorem wi_X1 : ∀ w ∈ u_ws RX1 TX1 2, w ∈ zGW := by decide +kernel
set_option maxRecDepth 20000 in
theorem wi_X2 : ∀ w ∈ u_ws RX2 TX2 6, w ∈ zGW := by decide +kernel
set_option maxRecDepth 20000 in
theorem wi_X3 : ∀ w ∈ u_ws RX3 TX3 3, w ∈ zGW := by decide +kernel
set_option maxRecDepth 20000 in
theorem wi_X4 : ∀ w ∈ u_ws RX4 TX4 2, w ∈ zGW := by decide +kernel
set_option maxRecDepth 20000 in
theorem wi_X5 : ∀ w ∈ u_ws RX5 TX5 3, w ∈ zGW := by decide +kernel
set_option maxRecDepth 20000 in
theorem wi_X6 : ∀ w ∈ u_ws RX6 TX6 9, w ∈ zGW := by decide +kernel
set_option maxRecDepth 20000 in
theorem wi_X7 : ∀ w ∈ u_ws RX7 TX7 3, w ∈ zGW := by decide +kernel
set_option maxRecDepth 20000 in
theorem wi_X8 : ∀ w ∈ u_ws RX8 TX8 7, w ∈ zGW := by decide +kernel
set_option maxRecDepth 20000 in
theorem wi_X9 : ∀ w ∈ u_ws RX9 TX9 40, w ∈ zGW := by decide +kernel
set_option maxRecDepth 100000 in
theorem fw_X8_10 : zFW RX8 10 8 0 RX8 TX8 7 := ⟨rfl, by decide, wi_X8, zGt_1 214 rfl rfl⟩
set_option maxRecDepth 100000 in
theorem fw_X8_16 : zFW RX8 16 8 1 RX8 TX8 7 := ⟨rfl, by decide, wi_X8, zGt_1 215 rfl rfl⟩
set_option maxRecDepth 100000 in
theorem fw_X8_19 : zFW RX8 19 8 2 RX8 TX8 7 := ⟨rfl, by decide, wi_X8, zGt_1 216 rfl rfl⟩
set_option maxRecDepth 100000 in
theorem fw_X8_22 : zFW RX8 22 8 3 RX8 TX8 7 := ⟨rfl, by decide, wi_X8, zGt_1 217 rfl rfl⟩
set_option maxRecDepth 100000 in
theorem fw_X8_29 : zFW RX8 29 8 4 RX8 TX8 7 := ⟨rfl, by decide, wi_X8, zGt_1 218 rfl rfl⟩
set_option maxRecDepth 100000 in
theorem fw_X8_36 : zFW RX8 36 8 5 RX8 TX8 7 := ⟨rfl, by decide, wi_X8, zGt_1 219 rfl rfl⟩
set_option maxRecDepth 100000 in
theorem fw_X8_43 : zFW RX8 43 8 6 RX8 TX8 7 := ⟨rfl, by decide, wi_X8, zGt_1 220 rfl rfl⟩
set_option maxRecDepth 100000 in
theorem fw_X8_51 : zFW RX8 51 0 0 RX0 TX0 4 := ⟨rfl, by decide, wi_X0, zGt_1 135 rfl rfl⟩
set_option maxRecDepth 100000 in
theorem fw_X8_55 : zFW RX8 55 6 0 RX6 TX6 9 := ⟨rfl, by decide, wi_X6, zGt_1 44 rfl rfl⟩
set_option maxRecDepth 100000 in
theorem fw_X8_60 : zFW RX8 60 6 1 RX6 TX6 9 := ⟨rfl, by decide, wi_X6, zGt_1 46 rfl rfl⟩
set_option maxRecDepth 100000 in
theorem fw_X8_64 : zFW RX8 64 6 2 RX6 TX6 9 := ⟨rfl, by decide, wi_X6, zGt_1 48 rfl rfl⟩
set_option maxRecDepth 100000 in
theorem fw_X8_67 : zFW RX8 67 6 3 RX6 TX6 9 := ⟨rfl, by decide, wi_X6, zGt_1 50 rfl rfl⟩
set_option maxRecDepth 100000 in
theorem fw_X8_70 : zFW RX8 70 6 4 RX6 TX6 9 := ⟨rfl, by decide, wi_X6, zGt_1 52 rfl rfl⟩
set_option maxRecDepth 100000 in
theorem fw_X8_89 : zFW RX8 89 6 5 RX6 TX6 9 := ⟨rfl, by decide, wi_X6, zGt_1 54 rfl rfl⟩
set_option maxRecDepth 100000 in
theorem fw_X8_92 : zFW RX8 92 4 1 RX4 TX4 2 := ⟨rfl, by decide, wi_X4, zGt_1 161 rfl rfl⟩
set_option maxRecDepth 100000 in
theorem fw_X8_95 : zFW RX8 95 4 0 RX4 TX4 2 := ⟨rfl, by decide, wi_X4, zGt_1 158 rfl rfl⟩
set_option maxRecDepth 100000 in
theorem fw_X8_114 : zFW RX8 114 6 7 RX6 TX6 9 := ⟨rfl, by decide, wi_X6, zGt_1 58 rfl rfl⟩
set_option maxRecDepth 100000 in
theorem fw_X8_117 : zFW RX8 117 6 6 RX6 TX6 9 := ⟨rfl, by decide, wi_X6, zGt_1 56 rfl rfl⟩
set_option maxRecDepth 100000 in
theorem fw_X8_124 : zFW RX8 124 7 2 RX7 TX7 3 := ⟨rfl, by decide, wi_X7, zGt_1 180 rfl rfl⟩
set_option maxRecDepth 100000 in
theorem fw_X8_127 : zFW RX8 127 7 1 RX7 TX7 3 := ⟨rfl, by decide, wi_X7, zGt_1 178 rfl rfl⟩
set_option maxRecDepth 100000 in
theorem fw_X8_137 : zFW RX8 137 7 0 RX7 TX7 3 := ⟨rfl, by decide, wi_X7, zGt_1 176 rfl rfl⟩
set_option maxRecDepth 100000 in
theorem fw_X8_142 : zFW RX8 142 6 8 RX6 TX6 9 := ⟨rfl, by decide, wi_X6, zGt_1 60 rfl rfl⟩
set_option maxRecDepth 100000 in
theorem fw_X8_196 : zFW RX8 196 0 1 RX0 TX0 4 := ⟨rfl, by decide, wi_X0, zGt_1 137 rfl rfl⟩
set_option maxRecDepth 100000 in
theorem fw_X8_200 : zFW RX8 200 3 0 RX3 TX3 3 := ⟨rfl, by decide, wi_X3, zGt_1 88 rfl rfl⟩
set_option maxRecDepth 100000 in
theorem fw_X8_203 : zFW RX8 203 3 1 RX3 TX3 3 := ⟨rfl, by decide, wi_X3, zGt_1 90 rfl rfl⟩
set_option maxRecDepth 100000 in
theorem fw_X8_206 : zFW RX8 206 3 2 RX3 TX3 3 := ⟨rfl, by decide, wi_X3, zGt_1 92 rfl rfl⟩
set_option maxRecDepth 100000 in
theorem fw_X8_228 : zFW RX8 228 0 2 RX0 TX0 4 := ⟨rfl, by decide, wi_X0, zGt_1 139 rfl rfl⟩
set_option maxRecDepth 100000 in
theorem fw_X8_232 : zFW RX8 232 1 0 RX1 TX1 2 := ⟨rfl, by decide, wi_X1, zGt_1 107 rfl rfl⟩
set_option maxRecDepth 100000 in
theorem fw_X8_235 : zFW RX8 235 1 1 RX1 TX1 2 := ⟨rfl, by decide, wi_X1, zGt_1 109 rfl rfl⟩
set_option maxRecDepth 100000 in
theorem fw_X8_257 : zFW RX8 257 0 3 RX0 TX0 4 := ⟨rfl, by decide, wi_X0, zGt_1 141 rfl rfl⟩
set_option maxRecDepth 100000 in
theorem fw_X8_261 : zFW RX8 261 5 0 RX5 TX5 3 := ⟨rfl, by decide, wi_X5, zGt_1 122 rfl rfl⟩
set_option maxRecDepth 100000 in
theorem fw_X8_264 : zFW RX8 264 5 1 RX5 TX5 3 := ⟨rfl, by decide, wi_X5, zGt_1 124 rfl rfl⟩
set_option maxRecDepth 100000 in
theorem fw_X8_267 : zFW RX8 267 5 2 RX5 TX5 3 := ⟨rfl, by decide, wi_X5, zGt_1 126 rfl rfl⟩
set_option maxRecDepth 100000 in
theorem fw_X0_10 : zFW RX0 10 0 0 RX0 TX0 4 := ⟨rfl, by decide, wi_X0, zGt_1 134 rfl rfl⟩
set_option maxRecDepth 100000 in
theorem fw_X0_19 : zFW RX0 19 0 1 RX0 TX0 4 := ⟨rfl, by decide, wi_X0, zGt_1 136 rfl rfl⟩
set_option maxRecDepth 100000 in
theorem fw_X0_26 : zFW RX0 26 0 2 RX0 TX0 4 := ⟨rfl, by decide, wi_X0, zGt_1 138 rfl rfl⟩
set_option maxRecDepth 100000 in
theorem fw_X0_33 : zFW RX0 33 0 3 RX0 TX0 4 := ⟨rfl, by decide, wi_X0, zGt_1 140 rfl rfl⟩
set_option maxRecDepth 100000 in
theorem fw_X1_9 : zFW RX1 9 1 0 RX1 TX1 2 := ⟨rfl, by decide, wi_X1, zGt_1 106 rfl rfl⟩
set_option maxRecDepth 100000 in
theorem fw_X1_15 : zFW RX1 15 1 1 RX1 TX1 2 := ⟨rfl, by decide, wi_X1, zGt_1 108 rfl rfl⟩
set_option maxRecDepth 100000 in
theorem fw_X2_9 : zFW RX2 9 2 0 RX2 TX2 6 := ⟨rfl, by decide, wi_X2, zGt_1 194 rfl rfl⟩
set_option maxRecDepth 100000 in
theorem fw_X2_15 : zFW RX2 15 2 1 RX2 TX2 6 := ⟨rfl, by decide, wi_X2, zGt_1 195 rfl rfl⟩
set_option maxRecDepth 100000 in
theorem fw_X2_19 : zFW RX2 19 2 2 RX2 TX2 6 := ⟨rfl, by decide, wi_X2, zGt_1 196 rfl rfl⟩
set_option maxRecDepth 100000 in
theorem fw_X2_23 : zFW RX2 23 2 3 RX2 TX2 6 := ⟨rfl, by decide, wi_X2, zGt_1 197 rfl rfl⟩
set_option maxRecDepth 100000 in
theorem fw_X2_26 : zFW RX2 26 2 4 RX2 TX2 6 := ⟨rfl, by decide, wi_X2, zGt_1 198 rfl rfl⟩
set_option maxRecDepth 100000 in
theorem fw_X2_29 : zFW RX2 29 2 5 RX2 TX2 6 := ⟨rfl, by decide, wi_X2, zGt_1 199 rfl rfl⟩
set_option maxRecDepth 100000 in
theorem fw_X3_9 : zFW RX3 9 3 0 RX3 TX3 3 := ⟨rfl, by decide, wi_X3, zGt_1 87 rfl rfl⟩
set_option maxRecDepth 100000 in
theorem fw_X3_15 : zFW RX3 15 3 1 RX3 TX3 3 := ⟨rfl, by decide, wi_X3, zGt_1 89 rfl rfl⟩
set_option maxRecDepth 100000 in
theorem fw_X3_19 : zFW RX3 19 3 2 RX3 TX3 3 := ⟨rfl, by decide, wi_X3, zGt_1 91 rfl rfl⟩
set_option maxRecDepth 100000 in
theorem fw_X4_9 : zFW RX4 9 4 0 RX4 TX4 2 := ⟨rfl, by decide, wi_X4, zGt_1 157 rfl rfl⟩
set_option maxRecDepth 100000 in
theorem fw_X4_15 : zFW RX4 15 4 1 RX4 TX4 2 := ⟨rfl, by decide, wi_X4, zGt_1 159 rfl rfl⟩
set_option maxRecDepth 100000 in
theorem fw_X5_9 : zFW RX5 9 5 0 RX5 TX5 3 := ⟨rfl, by decide, wi_X5, zGt_1 121 rfl rfl⟩
set_option maxRecDepth 100000 in
theorem fw_X5_15 : zFW RX5 15 5 1 RX5 TX5 3 := ⟨rfl, by decide, wi_X5, zGt_1 123 rfl rfl⟩
set_option maxRecDepth 100000 in
theorem fw_X5_19 : zFW RX5 19 5 2 RX5 TX5 3 := ⟨rfl, by decide, wi_X5, zGt_1 125 rfl rfl⟩
set_option maxRecDepth 100000 in
theorem fw_X6_9 : zFW RX6 9 6 0 RX6 TX6 9 := ⟨rfl, by decide, wi_X6, zGt_1 43 rfl rfl⟩
set_option maxRecDepth 100000 in
theorem fw_X6_15 : zFW RX6 15 6 1 RX6 TX6 9 := ⟨rfl, by decide, wi_X6, zGt_1 45 rfl rfl⟩
set_option maxRecDepth 100000 in
theorem fw_X6_19 : zFW RX6 19 6 2 RX6 TX6 9 := ⟨rfl, by decide, wi_X6, zGt_1 47 rfl rfl⟩
set_option maxRecDepth 100000 in
theorem fw_X6_22 : zFW RX6 22 6 3 RX6 TX6 9 := ⟨rfl, by decide, wi_X6, zGt_1 49 rfl rfl⟩
set_option maxRecDepth 100000 in
theorem fw_X6_25 : zFW RX6 25 6 4 RX6 TX6 9 := ⟨rfl, by decide, wi_X6, zGt_1 51 rfl rfl⟩
set_option maxRecDepth 100000 in
theorem fw_X6_36 : zFW RX6 36 6 5 RX6 TX6 9 := ⟨rfl, by decide, wi_X6, zGt_1 53 rfl rfl⟩
set_option maxRecDepth 100000 in
theorem fw_X6_39 : zFW RX6 39 6 6 RX6 TX6 9 := ⟨rfl, by decide, wi_X6, zGt_1 55 rfl rfl⟩
set_option maxRecDepth 100000 in
theorem fw_X6_42 : zFW RX6 42 6 7 RX6 TX6 9 := ⟨rfl, by decide, wi_X6, zGt_1 57 rfl rfl⟩
set_option maxRecDepth 100000 in
theorem fw_X6_45 : zFW RX6 45 6 8 RX6 TX6 9 := ⟨rfl, by decide, wi_X6, zGt_1 59 rfl rfl⟩
set_option maxRecDepth 100000 in
theorem fw_X7_12 : zFW RX7 12 7 0 RX7 TX7 3 := ⟨rfl, by decide, wi_X7, zGt_1 175 rfl rfl⟩
set_option maxRecDepth 100000 in
theorem fw_X7_18 : zFW RX7 18 7 1 RX7 TX7 3 := ⟨rfl, by decide, wi_X7, zGt_1 177 rfl rfl⟩
set_option maxRecDepth 100000 in
theorem fw_X7_22 : zFW RX7 22 7 2 RX7 TX7 3 := ⟨rfl, by decide, wi_X7, zGt_1 179 rfl rfl⟩
set_option maxRecDepth 100000 in
theorem fw_X7_29 : zFW RX7 29 4 1 RX4 TX4 2 := ⟨rfl, by decide, wi_X4, zGt_1 160 rfl rfl⟩
set_option maxRecDepth 100000 in
theorem fw_X9_7 : zFW RX9 7 9 1 RX9 TX9 40 := ⟨rfl, by decide, wi_X9, zGt_3 205 rfl rfl⟩
set_option maxRecDepth 100000 in
theorem fw_X9_13 : zFW RX9 13 9 2 RX9 TX9 40 := ⟨rfl, by decide, wi_X9, zGt_3 206 rfl rfl⟩
set_option maxRecDepth 100000 in
theorem fw_X9_16 : zFW RX9 16 9 3 RX9 TX9 40 := ⟨rfl, by decide, wi_X9, zGt_3 207 rfl rfl⟩
set_option maxRecDepth 100000 in
theorem fw_X9_19 : zFW RX9 19 9 4 RX9 TX9 40 := ⟨rfl, by decide, wi_X9, zGt_3 208 rfl rfl⟩
set_option maxRecDepth 100000 in
theorem fw_X9_22 : zFW RX9 22 9 13 RX9 TX9 40 := ⟨rfl, by decide, wi_X9, zGt_3 217 rfl rfl⟩
set_option maxRecDepth 100000 in
theorem fw_X9_25 : zFW RX9 25 9 19 RX9 TX9 40 := ⟨rfl, by decide, wi_X9, zGt_3 223 rfl rfl⟩
set_option maxRecDepth 100000 in
theorem fw_X9_28 : zFW RX9 28 9 20 RX9 TX9 40 := ⟨rfl, by decide, wi_X9, zGt_3 224 rfl rfl⟩
set_option maxRecDepth 100000 in
theorem fw_X9_31 : zFW RX9 31 9 22 RX9 TX9 40 := ⟨rfl, by decide, wi_X9, zGt_3 226 rfl rfl⟩
set_option maxRecDepth 100000 in
theorem fw_X9_34 : zFW RX9 34 9 23 RX9 TX9 40 := ⟨rfl, by decide, wi_X9, zGt_3 227 rfl rfl⟩
set_option maxRecDepth 100000 in
theorem fw_X9_37 : zFW RX9 37 9 24 RX9 TX9 40 := ⟨rfl, by decide, wi_X9, zGt_3 228 rfl rfl⟩
set_option maxRecDepth 100000 in
theorem fw_X9_40 : zFW RX9 40 9 26 RX9 TX9 40 := ⟨rfl, by decide, wi_X9, zGt_3 230 rfl rfl⟩
set_option maxRecDepth 100000 in
theorem fw_X9_43 : zFW RX9 43 9 28 RX9 TX9 40 := ⟨rfl, by decide, wi_X9, zGt_3 232 rfl rfl⟩
set_option maxRecDepth 100000 in
theorem fw_X9_46 : zFW RX9 46 9 32 RX9 TX9 40 := ⟨rfl, by decide, wi_X9, zGt_3 236 rfl rfl⟩
set_option maxRecDepth 100000 in
theorem fw_X9_49 : zFW RX9 49 9 33 RX9 TX9 40 := ⟨rfl, by decide, wi_X9, zGt_3 237 rfl rfl⟩
set_option maxRecDepth 100000 in
theorem fw_X9_52 : zFW RX9 52 9 35 RX9 TX9 40 := ⟨rfl, by decide, wi_X9, zGt_3 239 rfl rfl⟩
set_option maxRecDepth 100000 in
theorem fw_X9_55 : zFW RX9 55 9 36 RX9 TX9 40 := ⟨rfl, by decide, wi_X9, zGt_4 0 rfl rfl⟩
set_option maxRecDepth 100000 in
theorem fw_X9_58 : zFW RX9 58 9 37 RX9 TX9 40 := ⟨rfl, by decide, wi_X9, zGt_4 1 rfl rfl⟩
set_option maxRecDepth 100000 in
theorem fw_X9_62 : zFW RX9 62 9 5 RX9 TX9 40 := ⟨rfl, by decide, wi_X9, zGt_3 209 rfl rfl⟩
set_option maxRecDepth 100000 in
theorem fw_X9_66 : zFW RX9 66 9 6 RX9 TX9 40 := ⟨rfl, by decide, wi_X9, zGt_3 210 rfl rfl⟩
set_option maxRecDepth 100000 in
theorem fw_X9_69 : zFW RX9 69 9 7 RX9 TX9 40 := ⟨rfl, by decide, wi_X9, zGt_3 211 rfl rfl⟩
set_option maxRecDepth 100000 in
theorem fw_X9_72 : zFW RX9 72 9 8 RX9 TX9 40 := ⟨rfl, by decide, wi_X9, zGt_3 212 rfl rfl⟩
set_option maxRecDepth 100000 in
theorem fw_X9_75 : zFW RX9 75 9 9 RX9 TX9 40 := ⟨rfl, by decide, wi_X9, zGt_3 213 rfl rfl⟩
set_option maxRecDepth 100000 in
theorem fw_X9_78 : zFW RX9 78 9 10 RX9 TX9 40 := ⟨rfl, by decide, wi_X9, zGt_3 214 rfl rfl⟩
set_option maxRecDepth 100000 in
theorem fw_X9_81 : zFW RX9 81 9 12 RX9 TX9 40 := ⟨rfl, by decide, wi_X9, zGt_3 216 rfl rfl⟩
set_option maxRecDepth 100000 in
theorem fw_X9_84 : zFW RX9 84 9 14 RX9 TX9 40 := ⟨rfl, by decide, wi_X9, zGt_3 218 rfl rfl⟩
set_option maxRecDepth 100000 in
theorem fw_X9_97 : zFW RX9 97 9 0 RX9 TX9 40 := ⟨rfl, by decide, wi_X9, zGt_3 204 rfl rfl⟩
set_option maxRecDepth 100000 in
theorem fw_X9_115 : zFW RX9 115 9 11 RX9 TX9 40 := ⟨rfl, by decide, wi_X9, zGt_3 215 rfl rfl⟩
set_option maxRecDepth 100000 in
theorem fw_X9_130 : zFW RX9 130 9 27 RX9 TX9 40 := ⟨rfl, by decide, wi_X9, zGt_3 231 rfl rfl⟩
set_option maxRecDepth 100000 in
theorem fw_X9_151 : zFW RX9 151 9 15 RX9 TX9 40 := ⟨rfl, by decide, wi_X9, zGt_3 219 rfl rfl⟩
set_option maxRecDepth 100000 in
theorem fw_X9_154 : zFW RX9 154 9 16 RX9 TX9 40 := ⟨rfl, by decide, wi_X9, zGt_3 220 rfl rfl⟩
set_option maxRecDepth 100000 in
theorem fw_X9_166 : zFW RX9 166 9 17 RX9 TX9 40 := ⟨rfl, by decide, wi_X9, zGt_3 221 rfl rfl⟩
set_option maxRecDepth 100000 in
theorem fw_X9_169 : zFW RX9 169 9 30 RX9 TX9 40 := ⟨rfl, by decide, wi_X9, zGt_3 234 rfl rfl⟩
set_option maxRecDepth 100000 in
theorem fw_X9_172 : zFW RX9 172 9 31 RX9 TX9 40 := ⟨rfl, by decide, wi_X9, zGt_3 235 rfl rfl⟩
set_option maxRecDepth 100000 in
theorem fw_X9_175 : zFW RX9 175 9 29 RX9 TX9 40 := ⟨rfl, by decide, wi_X9, zGt_3 233 rfl rfl⟩
set_option maxRecDepth 100000 in
theorem fw_X9_231 : zFW RX9 231 9 34 RX9 TX9 40 := ⟨rfl, by decide, wi_X9, zGt_3 238 rfl rfl⟩
set_option maxRecDepth 100000 in
theorem fw_X9_262 : zFW RX9 262 9 18 RX9 TX9 40 := ⟨rfl, by decide, wi_X9, zGt_3 222 rfl rfl⟩
set_option maxRecDepth 100000 in
theorem fw_X9_272 : zFW RX9 272 9 21 RX9 TX9 40 := ⟨rfl, by decide, wi_X9, zGt_3 225 rfl rfl⟩
set_option maxRecDepth 100000 in
theorem fw_X9_297 : zFW RX9 297 9 25 RX9 TX9 40 := ⟨rfl, by decide, wi_X9, zGt_3 229 rfl rfl⟩
set_option maxRecDepth 100000 in
theorem fw_X9_302 : zFW RX9 302 9 39 RX9 TX9 40 := ⟨rfl, by decide, wi_X9, zGt_4 3 rfl rfl⟩
set_option maxRecDepth 100000 in
theorem fw_X9_306 : zFW RX9 306 9 38 RX9 TX9 40 := ⟨rfl, by decide, wi_X9, zGt_4 2 rfl rfl⟩
theorem pw_X1_0 : zPW 0 TX1 2 tyX1 .int := ⟨tyX1_ok, nmX1, rfl, by decide +kernel⟩
theorem pw_X2_1 : zPW 1 TX2 6 tyX2 .int := ⟨tyX2_ok, nmX2, rfl, by decide +kernel⟩
theorem pw_X3_0 : zPW 0 TX3 3 tyX3 .int := ⟨tyX3_ok, nmX3, rfl, by decide +kernel⟩
theorem pw_X4_1 : zPW 1 TX4 2 tyX4 .int := ⟨tyX4_ok, nmX4, rfl, by decide +kernel⟩
theorem pw_X5_0 : zPW 0 TX5 3 tyX5 .int := ⟨tyX5_ok, nmX5, rfl, by decide +kernel⟩
theorem pw_X6_0 : zPW 0 TX6 9 tyX6 .int := ⟨tyX6_ok, nmX6, rfl, by decide +kernel⟩
theorem pw_X6_7 : zPW 7 TX6 9 tyX6 .int := ⟨tyX6_ok, nmX6, rfl, by decide +kernel⟩
theorem pw_X7_1 : zPW 1 TX7 3 tyX7 .int := ⟨tyX7_ok, nmX7, rfl, by decide +kernel⟩
theorem pw_X7_2 : zPW 2 TX7 3 tyX7 .int := ⟨tyX7_ok, nmX7, rfl, by decide +kernel⟩
theorem pw_X8_3 : zPW 3 TX8 7 tyX8 .int := ⟨tyX8_ok, nmX8, rfl, by decide +kernel⟩
theorem pw_X9_0 : zPW 0 TX9 40 tyX9 .int := ⟨tyX9_ok, nmX9, rfl, by decide +kernel⟩
theorem pw_X9_5 : zPW 5 TX9 40 tyX9 .int := ⟨tyX9_ok, nmX9, rfl, by decide +kernel⟩
theorem pw_X9_6 : zPW 6 TX9 40 tyX9 .int := ⟨tyX9_ok, nmX9, rfl, by decide +kernel⟩
theorem pw_X9_7 : zPW 7 TX9 40 tyX9 .int := ⟨tyX9_ok, nmX9, rfl, by decide +kernel⟩
theorem pw_X9_8 : zPW 8 TX9 40 tyX9 .int := ⟨tyX9_ok, nmX9, rfl, by decide +kernel⟩
theorem pw_X9_9 : zPW 9 TX9 40 tyX9 .int := ⟨tyX9_ok, nmX9, rfl, by decide +kernel⟩
theorem pw_X9_10 : zPW 10 TX9 40 tyX9 .int := ⟨tyX9_ok, nmX9, rfl, by decide +kernel⟩
theorem pw_X9_11 : zPW 11 TX9 40 tyX9 .int := ⟨tyX9_ok, nmX9, rfl, by decide +kernel⟩
theorem pw_X9_12 : zPW 12 TX9 40 tyX9 .int := ⟨tyX9_ok, nmX9, rfl, by decide +kernel⟩
theorem pw_X9_14 : zPW 14 TX9 40 tyX9 .int := ⟨tyX9_ok, nmX9, rfl, by decide +kernel⟩
theorem pw_X9_15 : zPW 15 TX9 40 tyX9 .int := ⟨tyX9_ok, nmX9, rfl, by decide +kernel⟩
theorem pw_X9_16 : zPW 16 TX9 40 tyX9 .int := ⟨tyX9_ok, nmX9, rfl, by decide +kernel⟩
theorem pw_X9_17 : zPW 17 TX9 40 tyX9 .int := ⟨tyX9_ok, nmX9, rfl, by decide +kernel⟩
theorem pw_X9_18 : zPW 18 TX9 40 tyX9 .int := ⟨tyX9_ok, nmX9, rfl, by decide +kernel⟩
theorem pw_X9_21 : zPW 21 TX9 40 tyX9 .int := ⟨tyX9_ok, nmX9, rfl, by decide +kernel⟩
theorem pw_X9_25 : zPW 25 TX9 40 tyX9 .int := ⟨tyX9_ok, nmX9, rfl, by decide +kernel⟩
theorem pw_X9_27 : zPW 27 TX9 40 tyX9 .int := ⟨tyX9_ok, nmX9, rfl, by decide +kernel⟩
theorem pw_X9_29 : zPW 29 TX9 40 tyX9 .int := ⟨tyX9_ok, nmX9, rfl, by decide +kernel⟩
theorem pw_X9_30 : zPW 30 TX9 40 tyX9 .int := ⟨tyX9_ok, nmX9, rfl, by decide +kernel⟩
theorem pw_X9_31 : zPW 31 TX9 40 tyX9 .int := ⟨tyX9_ok, nmX9, rfl, by decide +kernel⟩
theorem pw_X9_34 : zPW 34 TX9 40 tyX9 .int := ⟨tyX9_ok, nmX9, rfl, by decide +kernel⟩
theorem pw_X9_38 : zPW 38 TX9 40 tyX9 .int := ⟨tyX9_ok, nmX9, rfl, by decide +kernel⟩
theorem pw_X9_39 : zPW 39 TX9 40 tyX9 .boolean := ⟨tyX9_ok, nmX9, rfl, by decide +kernel⟩
set_option maxRecDepth 100000 in
theorem mc_X6_has : Cond.code yX6_has cX6_has 2 (some .boolean) ∈ zGW := zGt_2 16 rfl rfl
set_option maxRecDepth 100000 in
theorem mi_X6_has : Cond.instanceMethod yX6_has ∈ zGW := zGt_2 14 rfl rfl
set_option maxRecDepth 100000 in
theorem ml_X6_has : Cond.selects yX6_has.cls yX6_has yX6_has ∈ zGW := zGt_2 15 rfl rfl
theorem my_X6_has : yX6_has.cls ≠ "java/lang/invoke/MethodHandle" ∧ yX6_has.cls ≠ "java/lang/invoke/VarHandle" ∧ (parseMethodDescriptor yX6_has.desc).map (fun d => d.parameters.length) = some 1 := by decide +kernel
set_option maxRecDepth 100000 in
theorem ni_X6 : Cond.initialized RX6 ∈ zGW := zGt_1 3 rfl rfl
set_option maxRecDepth 100000 in
theorem vw_X8_79 : zVW RX8 79 yX6_has cX6_has 2 (some .boolean) 1 := ⟨mc_X6_has, zGt_2 13 rfl rfl, mi_X6_has, ml_X6_has, ni_X6, my_X6_has⟩
set_option maxRecDepth 100000 in
theorem mc_X4_clear : Cond.code yX4_clear cX4_clear 2 (some .int) ∈ zGW := zGt_2 37 rfl rfl
set_option maxRecDepth 100000 in
theorem mi_X4_clear : Cond.instanceMethod yX4_clear ∈ zGW := zGt_2 35 rfl rfl
set_option maxRecDepth 100000 in
theorem ml_X4_clear : Cond.selects yX4_clear.cls yX4_clear yX4_clear ∈ zGW := zGt_2 36 rfl rfl
theorem my_X4_clear : yX4_clear.cls ≠ "java/lang/invoke/MethodHandle" ∧ yX4_clear.cls ≠ "java/lang/invoke/VarHandle" ∧ (parseMethodDescriptor yX4_clear.desc).map (fun d => d.parameters.length) = some 0 := by decide +kernel
set_option maxRecDepth 100000 in
theorem ni_X4 : Cond.initialized RX4 ∈ zGW := zGt_1 7 rfl rfl
set_option maxRecDepth 100000 in
theorem vw_X8_98 : zVW RX8 98 yX4_clear cX4_clear 2 (some .int) 0 := ⟨mc_X4_clear, zGt_2 34 rfl rfl, mi_X4_clear, ml_X4_clear, ni_X4, my_X4_clear⟩
set_option maxRecDepth 100000 in
theorem mc_X4_faultAsTide : Cond.code yX4_faultAsTide cX4_faultAsTide 2 (some .int) ∈ zGW := zGt_2 45 rfl rfl
set_option maxRecDepth 100000 in
theorem mi_X4_faultAsTide : Cond.instanceMethod yX4_faultAsTide ∈ zGW := zGt_2 43 rfl rfl
set_option maxRecDepth 100000 in
theorem ml_X4_faultAsTide : Cond.selects yX4_faultAsTide.cls yX4_faultAsTide yX4_faultAsTide ∈ zGW := zGt_2 44 rfl rfl
theorem my_X4_faultAsTide : yX4_faultAsTide.cls ≠ "java/lang/invoke/MethodHandle" ∧ yX4_faultAsTide.cls ≠ "java/lang/invoke/VarHandle" ∧ (parseMethodDescriptor yX4_faultAsTide.desc).map (fun d => d.parameters.length) = some 0 := by decide +kernel
set_option maxRecDepth 100000 in
theorem vw_X8_102 : zVW RX8 102 yX4_faultAsTide cX4_faultAsTide 2 (some .int) 0 := ⟨mc_X4_faultAsTide, zGt_2 42 rfl rfl, mi_X4_faultAsTide, ml_X4_faultAsTide, ni_X4, my_X4_faultAsTide⟩
set_option maxRecDepth 100000 in
theorem mc_X4_faultAsSeason : Cond.code yX4_faultAsSeason cX4_faultAsSeason 4 (some .int) ∈ zGW := zGt_2 50 rfl rfl
set_option maxRecDepth 100000 in
theorem mi_X4_faultAsSeason : Cond.instanceMethod yX4_faultAsSeason ∈ zGW := zGt_2 48 rfl rfl
set_option maxRecDepth 100000 in
theorem ml_X4_faultAsSeason : Cond.selects yX4_faultAsSeason.cls yX4_faultAsSeason yX4_faultAsSeason ∈ zGW := zGt_2 49 rfl rfl
theorem my_X4_faultAsSeason : yX4_faultAsSeason.cls ≠ "java/lang/invoke/MethodHandle" ∧ yX4_faultAsSeason.cls ≠ "java/lang/invoke/VarHandle" ∧ (parseMethodDescriptor yX4_faultAsSeason.desc).map (fun d => d.parameters.length) = some 0 := by decide +kernel
set_option maxRecDepth 100000 in
theorem vw_X8_105 : zVW RX8 105 yX4_faultAsSeason cX4_faultAsSeason 4 (some .int) 0 := ⟨mc_X4_faultAsSeason, zGt_2 47 rfl rfl, mi_X4_faultAsSeason, ml_X4_faultAsSeason, ni_X4, my_X4_faultAsSeason⟩
set_option maxRecDepth 100000 in
theorem mc_X7_tryOut : Cond.code yX7_tryOut cX7_tryOut 6 none ∈ zGW := zGt_2 81 rfl rfl
set_option maxRecDepth 100000 in
theorem mi_X7_tryOut : Cond.instanceMethod yX7_tryOut ∈ zGW := zGt_2 79 rfl rfl
set_option maxRecDepth 100000 in
theorem ml_X7_tryOut : Cond.selects yX7_tryOut.cls yX7_tryOut yX7_tryOut ∈ zGW := zGt_2 80 rfl rfl
theorem my_X7_tryOut : yX7_tryOut.cls ≠ "java/lang/invoke/MethodHandle" ∧ yX7_tryOut.cls ≠ "java/lang/invoke/VarHandle" ∧ (parseMethodDescriptor yX7_tryOut.desc).map (fun d => d.parameters.length) = some 2 := by decide +kernel
set_option maxRecDepth 100000 in
theorem ni_X7 : Cond.initialized RX7 ∈ zGW := zGt_1 8 rfl rfl
set_option maxRecDepth 100000 in
theorem vw_X8_120 : zVW RX8 120 yX7_tryOut cX7_tryOut 6 none 2 := ⟨mc_X7_tryOut, zGt_2 78 rfl rfl, mi_X7_tryOut, ml_X7_tryOut, ni_X7, my_X7_tryOut⟩
set_option maxRecDepth 100000 in
theorem mc_X6_look : Cond.code yX6_look cX6_look 3 (some .int) ∈ zGW := zGt_2 144 rfl rfl
set_option maxRecDepth 100000 in
theorem mi_X6_look : Cond.instanceMethod yX6_look ∈ zGW := zGt_2 142 rfl rfl
set_option maxRecDepth 100000 in
theorem ml_X6_look : Cond.selects yX6_look.cls yX6_look yX6_look ∈ zGW := zGt_2 143 rfl rfl
theorem my_X6_look : yX6_look.cls ≠ "java/lang/invoke/MethodHandle" ∧ yX6_look.cls ≠ "java/lang/invoke/VarHandle" ∧ (parseMethodDescriptor yX6_look.desc).map (fun d => d.parameters.length) = some 2 := by decide +kernel
set_option maxRecDepth 100000 in
theorem vw_X8_130 : zVW RX8 130 yX6_look cX6_look 3 (some .int) 2 := ⟨mc_X6_look, zGt_2 141 rfl rfl, mi_X6_look, ml_X6_look, ni_X6, my_X6_look⟩
set_option maxRecDepth 100000 in
theorem mc_X8_seasonCanBe : Cond.code yX8_seasonCanBe cX8_seasonCanBe 1 (some .boolean) ∈ zGW := zGt_2 152 rfl rfl
set_option maxRecDepth 100000 in
theorem mi_X8_seasonCanBe : Cond.instanceMethod yX8_seasonCanBe ∈ zGW := zGt_2 151 rfl rfl
theorem ml_X8_seasonCanBe : Cond.selects yX8_seasonCanBe.cls yX8_seasonCanBe yX8_seasonCanBe ∈ zGW := zGW_in 5 (by decide +kernel) (by decide +kernel)
theorem my_X8_seasonCanBe : yX8_seasonCanBe.cls ≠ "java/lang/invoke/MethodHandle" ∧ yX8_seasonCanBe.cls ≠ "java/lang/invoke/VarHandle" ∧ (parseMethodDescriptor yX8_seasonCanBe.desc).map (fun d => d.parameters.length) = some 0 := by decide +kernel
set_option maxRecDepth 100000 in
theorem ni_X8 : Cond.initialized RX8 ∈ zGW := zGt_1 1 rfl rfl
set_option maxRecDepth 100000 in
theorem vw_X8_133 : zVW RX8 133 yX8_seasonCanBe cX8_seasonCanBe 1 (some .boolean) 0 := ⟨mc_X8_seasonCanBe, zGt_2 149 rfl rfl, mi_X8_seasonCanBe, ml_X8_seasonCanBe, ni_X8, my_X8_seasonCanBe⟩
set_option maxRecDepth 100000 in
theorem mc_X6_become : Cond.code yX6_become cX6_become 2 none ∈ zGW := zGt_2 85 rfl rfl
set_option maxRecDepth 100000 in
theorem mi_X6_become : Cond.instanceMethod yX6_become ∈ zGW := zGt_2 83 rfl rfl
set_option maxRecDepth 100000 in
theorem ml_X6_become : Cond.selects yX6_become.cls yX6_become yX6_become ∈ zGW := zGt_2 84 rfl rfl
theorem my_X6_become : yX6_become.cls ≠ "java/lang/invoke/MethodHandle" ∧ yX6_become.cls ≠ "java/lang/invoke/VarHandle" ∧ (parseMethodDescriptor yX6_become.desc).map (fun d => d.parameters.length) = some 1 := by decide +kernel
set_option maxRecDepth 100000 in
theorem vw_X8_138 : zVW RX8 138 yX6_become cX6_become 2 none 1 := ⟨mc_X6_become, zGt_2 157 rfl rfl, mi_X6_become, ml_X6_become, ni_X6, my_X6_become⟩
set_option maxRecDepth 100000 in
theorem mc_X6_meanBy : Cond.code yX6_meanBy cX6_meanBy 4 (some .int) ∈ zGW := zGt_2 172 rfl rfl
set_option maxRecDepth 100000 in
theorem mi_X6_meanBy : Cond.instanceMethod yX6_meanBy ∈ zGW := zGt_2 170 rfl rfl
set_option maxRecDepth 100000 in
theorem ml_X6_meanBy : Cond.selects yX6_meanBy.cls yX6_meanBy yX6_meanBy ∈ zGW := zGt_2 171 rfl rfl
theorem my_X6_meanBy : yX6_meanBy.cls ≠ "java/lang/invoke/MethodHandle" ∧ yX6_meanBy.cls ≠ "java/lang/invoke/VarHandle" ∧ (parseMethodDescriptor yX6_meanBy.desc).map (fun d => d.parameters.length) = some 3 := by decide +kernel
set_option maxRecDepth 100000 in
theorem vw_X8_148 : zVW RX8 148 yX6_meanBy cX6_meanBy 4 (some .int) 3 := ⟨mc_X6_meanBy, zGt_2 169 rfl rfl, mi_X6_meanBy, ml_X6_meanBy, ni_X6, my_X6_meanBy⟩
set_option maxRecDepth 100000 in
theorem mc_X6_worstBy : Cond.code yX6_worstBy cX6_worstBy 4 (some .int) ∈ zGW := zGt_2 188 rfl rfl
set_option maxRecDepth 100000 in
theorem mi_X6_worstBy : Cond.instanceMethod yX6_worstBy ∈ zGW := zGt_2 186 rfl rfl
set_option maxRecDepth 100000 in
theorem ml_X6_worstBy : Cond.selects yX6_worstBy.cls yX6_worstBy yX6_worstBy ∈ zGW := zGt_2 187 rfl rfl
theorem my_X6_worstBy : yX6_worstBy.cls ≠ "java/lang/invoke/MethodHandle" ∧ yX6_worstBy.cls ≠ "java/lang/invoke/VarHandle" ∧ (parseMethodDescriptor yX6_worstBy.desc).map (fun d => d.parameters.length) = some 3 := by decide +kernel
set_option maxRecDepth 100000 in
theorem vw_X8_152 : zVW RX8 152 yX6_worstBy cX6_worstBy 4 (some .int) 3 := ⟨mc_X6_worstBy, zGt_2 185 rfl rfl, mi_X6_worstBy, ml_X6_worstBy, ni_X6, my_X6_worstBy⟩
set_option maxRecDepth 100000 in
theorem mc_X8_refusalOf : Cond.code yX8_refusalOf cX8_refusalOf 3 (some .int) ∈ zGW := zGt_2 196 rfl rfl
set_option maxRecDepth 100000 in
theorem mi_X8_refusalOf : Cond.instanceMethod yX8_refusalOf ∈ zGW := zGt_2 195 rfl rfl
theorem ml_X8_refusalOf : Cond.selects yX8_refusalOf.cls yX8_refusalOf yX8_refusalOf ∈ zGW := zGW_in 6 (by decide +kernel) (by decide +kernel)
theorem my_X8_refusalOf : yX8_refusalOf.cls ≠ "java/lang/invoke/MethodHandle" ∧ yX8_refusalOf.cls ≠ "java/lang/invoke/VarHandle" ∧ (parseMethodDescriptor yX8_refusalOf.desc).map (fun d => d.parameters.length) = some 2 := by decide +kernel
set_option maxRecDepth 100000 in
theorem vw_X8_155 : zVW RX8 155 yX8_refusalOf cX8_refusalOf 3 (some .int) 2 := ⟨mc_X8_refusalOf, zGt_2 193 rfl rfl, mi_X8_refusalOf, ml_X8_refusalOf, ni_X8, my_X8_refusalOf⟩
set_option maxRecDepth 100000 in
theorem mc_X6_ownersSide : Cond.code yX6_ownersSide cX6_ownersSide 5 (some .int) ∈ zGW := zGt_2 200 rfl rfl
set_option maxRecDepth 100000 in
theorem mi_X6_ownersSide : Cond.instanceMethod yX6_ownersSide ∈ zGW := zGt_2 198 rfl rfl
set_option maxRecDepth 100000 in
theorem ml_X6_ownersSide : Cond.selects yX6_ownersSide.cls yX6_ownersSide yX6_ownersSide ∈ zGW := zGt_2 199 rfl rfl
theorem my_X6_ownersSide : yX6_ownersSide.cls ≠ "java/lang/invoke/MethodHandle" ∧ yX6_ownersSide.cls ≠ "java/lang/invoke/VarHandle" ∧ (parseMethodDescriptor yX6_ownersSide.desc).map (fun d => d.parameters.length) = some 2 := by decide +kernel
set_option maxRecDepth 100000 in
theorem vw_X8_158 : zVW RX8 158 yX6_ownersSide cX6_ownersSide 5 (some .int) 2 := ⟨mc_X6_ownersSide, zGt_2 197 rfl rfl, mi_X6_ownersSide, ml_X6_ownersSide, ni_X6, my_X6_ownersSide⟩
set_option maxRecDepth 100000 in
theorem mc_X6_leastMean : Cond.code yX6_leastMean cX6_leastMean 3 (some .int) ∈ zGW := zGt_2 209 rfl rfl
set_option maxRecDepth 100000 in
theorem mi_X6_leastMean : Cond.instanceMethod yX6_leastMean ∈ zGW := zGt_2 207 rfl rfl
set_option maxRecDepth 100000 in
theorem ml_X6_leastMean : Cond.selects yX6_leastMean.cls yX6_leastMean yX6_leastMean ∈ zGW := zGt_2 208 rfl rfl
theorem my_X6_leastMean : yX6_leastMean.cls ≠ "java/lang/invoke/MethodHandle" ∧ yX6_leastMean.cls ≠ "java/lang/invoke/VarHandle" ∧ (parseMethodDescriptor yX6_leastMean.desc).map (fun d => d.parameters.length) = some 2 := by decide +kernel
set_option maxRecDepth 100000 in
theorem vw_X8_161 : zVW RX8 161 yX6_leastMean cX6_leastMean 3 (some .int) 2 := ⟨mc_X6_leastMean, zGt_2 206 rfl rfl, mi_X6_leastMean, ml_X6_leastMean, ni_X6, my_X6_leastMean⟩
set_option maxRecDepth 100000 in
theorem mc_X6_moored : Cond.code yX6_moored cX6_moored 2 (some .boolean) ∈ zGW := zGt_2 99 rfl rfl
set_option maxRecDepth 100000 in
theorem mi_X6_moored : Cond.instanceMethod yX6_moored ∈ zGW := zGt_2 97 rfl rfl
set_option maxRecDepth 100000 in
theorem ml_X6_moored : Cond.selects yX6_moored.cls yX6_moored yX6_moored ∈ zGW := zGt_2 98 rfl rfl
theorem my_X6_moored : yX6_moored.cls ≠ "java/lang/invoke/MethodHandle" ∧ yX6_moored.cls ≠ "java/lang/invoke/VarHandle" ∧ (parseMethodDescriptor yX6_moored.desc).map (fun d => d.parameters.length) = some 1 := by decide +kernel
set_option maxRecDepth 100000 in
theorem vw_X8_164 : zVW RX8 164 yX6_moored cX6_moored 2 (some .boolean) 1 := ⟨mc_X6_moored, zGt_2 215 rfl rfl, mi_X6_moored, ml_X6_moored, ni_X6, my_X6_moored⟩
set_option maxRecDepth 100000 in
theorem mc_X2_gather : Cond.code yX2_gather cX2_gather 7 none ∈ zGW := zGt_2 220 rfl rfl
set_option maxRecDepth 100000 in
theorem mi_X2_gather : Cond.instanceMethod yX2_gather ∈ zGW := zGt_2 218 rfl rfl
set_option maxRecDepth 100000 in
theorem ml_X2_gather : Cond.selects yX2_gather.cls yX2_gather yX2_gather ∈ zGW := zGt_2 219 rfl rfl
theorem my_X2_gather : yX2_gather.cls ≠ "java/lang/invoke/MethodHandle" ∧ yX2_gather.cls ≠ "java/lang/invoke/VarHandle" ∧ (parseMethodDescriptor yX2_gather.desc).map (fun d => d.parameters.length) = some 2 := by decide +kernel
set_option maxRecDepth 100000 in
theorem ni_X2 : Cond.initialized RX2 ∈ zGW := zGt_1 9 rfl rfl
set_option maxRecDepth 100000 in
theorem vw_X8_168 : zVW RX8 168 yX2_gather cX2_gather 7 none 2 := ⟨mc_X2_gather, zGt_2 217 rfl rfl, mi_X2_gather, ml_X2_gather, ni_X2, my_X2_gather⟩
set_option maxRecDepth 100000 in
theorem mc_X2_leastWithin : Cond.code yX2_leastWithin cX2_leastWithin 5 (some .int) ∈ zGW := zGt_2 227 rfl rfl
set_option maxRecDepth 100000 in
theorem mi_X2_leastWithin : Cond.instanceMethod yX2_leastWithin ∈ zGW := zGt_2 225 rfl rfl
set_option maxRecDepth 100000 in
theorem ml_X2_leastWithin : Cond.selects yX2_leastWithin.cls yX2_leastWithin yX2_leastWithin ∈ zGW := zGt_2 226 rfl rfl
theorem my_X2_leastWithin : yX2_leastWithin.cls ≠ "java/lang/invoke/MethodHandle" ∧ yX2_leastWithin.cls ≠ "java/lang/invoke/VarHandle" ∧ (parseMethodDescriptor yX2_leastWithin.desc).map (fun d => d.parameters.length) = some 1 := by decide +kernel
set_option maxRecDepth 100000 in
theorem vw_X8_172 : zVW RX8 172 yX2_leastWithin cX2_leastWithin 5 (some .int) 1 := ⟨mc_X2_leastWithin, zGt_2 224 rfl rfl, mi_X2_leastWithin, ml_X2_leastWithin, ni_X2, my_X2_leastWithin⟩
set_option maxRecDepth 100000 in
theorem mc_X2_meanOfChoice : Cond.code yX2_meanOfChoice cX2_meanOfChoice 2 (some .int) ∈ zGW := zGt_3 1 rfl rfl
set_option maxRecDepth 100000 in
theorem mi_X2_meanOfChoice : Cond.instanceMethod yX2_meanOfChoice ∈ zGW := zGt_2 239 rfl rfl
set_option maxRecDepth 100000 in
theorem ml_X2_meanOfChoice : Cond.selects yX2_meanOfChoice.cls yX2_meanOfChoice yX2_meanOfChoice ∈ zGW := zGt_3 0 rfl rfl
theorem my_X2_meanOfChoice : yX2_meanOfChoice.cls ≠ "java/lang/invoke/MethodHandle" ∧ yX2_meanOfChoice.cls ≠ "java/lang/invoke/VarHandle" ∧ (parseMethodDescriptor yX2_meanOfChoice.desc).map (fun d => d.parameters.length) = some 1 := by decide +kernel
set_option maxRecDepth 100000 in
theorem vw_X8_175 : zVW RX8 175 yX2_meanOfChoice cX2_meanOfChoice 2 (some .int) 1 := ⟨mc_X2_meanOfChoice, zGt_2 238 rfl rfl, mi_X2_meanOfChoice, ml_X2_meanOfChoice, ni_X2, my_X2_meanOfChoice⟩
set_option maxRecDepth 100000 in
theorem mc_X2_sideInChoice : Cond.code yX2_sideInChoice cX2_sideInChoice 5 (some .int) ∈ zGW := zGt_3 6 rfl rfl
set_option maxRecDepth 100000 in
theorem mi_X2_sideInChoice : Cond.instanceMethod yX2_sideInChoice ∈ zGW := zGt_3 4 rfl rfl
set_option maxRecDepth 100000 in
theorem ml_X2_sideInChoice : Cond.selects yX2_sideInChoice.cls yX2_sideInChoice yX2_sideInChoice ∈ zGW := zGt_3 5 rfl rfl
theorem my_X2_sideInChoice : yX2_sideInChoice.cls ≠ "java/lang/invoke/MethodHandle" ∧ yX2_sideInChoice.cls ≠ "java/lang/invoke/VarHandle" ∧ (parseMethodDescriptor yX2_sideInChoice.desc).map (fun d => d.parameters.length) = some 2 := by decide +kernel
set_option maxRecDepth 100000 in
theorem vw_X8_178 : zVW RX8 178 yX2_sideInChoice cX2_sideInChoice 5 (some .int) 2 := ⟨mc_X2_sideInChoice, zGt_3 3 rfl rfl, mi_X2_sideInChoice, ml_X2_sideInChoice, ni_X2, my_X2_sideInChoice⟩
set_option maxRecDepth 100000 in
theorem mc_X2_drawLine : Cond.code yX2_drawLine cX2_drawLine 3 (some .int) ∈ zGW := zGt_3 14 rfl rfl
set_option maxRecDepth 100000 in
theorem mi_X2_drawLine : Cond.instanceMethod yX2_drawLine ∈ zGW := zGt_3 12 rfl rfl
set_option maxRecDepth 100000 in
theorem ml_X2_drawLine : Cond.selects yX2_drawLine.cls yX2_drawLine yX2_drawLine ∈ zGW := zGt_3 13 rfl rfl
theorem my_X2_drawLine : yX2_drawLine.cls ≠ "java/lang/invoke/MethodHandle" ∧ yX2_drawLine.cls ≠ "java/lang/invoke/VarHandle" ∧ (parseMethodDescriptor yX2_drawLine.desc).map (fun d => d.parameters.length) = some 0 := by decide +kernel
set_option maxRecDepth 100000 in
theorem vw_X8_181 : zVW RX8 181 yX2_drawLine cX2_drawLine 3 (some .int) 0 := ⟨mc_X2_drawLine, zGt_3 11 rfl rfl, mi_X2_drawLine, ml_X2_drawLine, ni_X2, my_X2_drawLine⟩
set_option maxRecDepth 100000 in
theorem mc_X2_onLine : Cond.code yX2_onLine cX2_onLine 3 (some .int) ∈ zGW := zGt_3 27 rfl rfl
set_option maxRecDepth 100000 in
theorem mi_X2_onLine : Cond.instanceMethod yX2_onLine ∈ zGW := zGt_3 25 rfl rfl
set_option maxRecDepth 100000 in
theorem ml_X2_onLine : Cond.selects yX2_onLine.cls yX2_onLine yX2_onLine ∈ zGW := zGt_3 26 rfl rfl
theorem my_X2_onLine : yX2_onLine.cls ≠ "java/lang/invoke/MethodHandle" ∧ yX2_onLine.cls ≠ "java/lang/invoke/VarHandle" ∧ (parseMethodDescriptor yX2_onLine.desc).map (fun d => d.parameters.length) = some 2 := by decide +kernel
set_option maxRecDepth 100000 in
theorem vw_X8_184 : zVW RX8 184 yX2_onLine cX2_onLine 3 (some .int) 2 := ⟨mc_X2_onLine, zGt_3 24 rfl rfl, mi_X2_onLine, ml_X2_onLine, ni_X2, my_X2_onLine⟩
set_option maxRecDepth 100000 in
theorem mc_X2_commonSide : Cond.code yX2_commonSide cX2_commonSide 3 (some .int) ∈ zGW := zGt_3 35 rfl rfl
set_option maxRecDepth 100000 in
theorem mi_X2_commonSide : Cond.instanceMethod yX2_commonSide ∈ zGW := zGt_3 33 rfl rfl
set_option maxRecDepth 100000 in
theorem ml_X2_commonSide : Cond.selects yX2_commonSide.cls yX2_commonSide yX2_commonSide ∈ zGW := zGt_3 34 rfl rfl
theorem my_X2_commonSide : yX2_commonSide.cls ≠ "java/lang/invoke/MethodHandle" ∧ yX2_commonSide.cls ≠ "java/lang/invoke/VarHandle" ∧ (parseMethodDescriptor yX2_commonSide.desc).map (fun d => d.parameters.length) = some 0 := by decide +kernel
set_option maxRecDepth 100000 in
theorem vw_X8_187 : zVW RX8 187 yX2_commonSide cX2_commonSide 3 (some .int) 0 := ⟨mc_X2_commonSide, zGt_3 32 rfl rfl, mi_X2_commonSide, ml_X2_commonSide, ni_X2, my_X2_commonSide⟩
set_option maxRecDepth 100000 in
theorem mc_X2_meanOfAllBy : Cond.code yX2_meanOfAllBy cX2_meanOfAllBy 4 (some .int) ∈ zGW := zGt_3 39 rfl rfl
set_option maxRecDepth 100000 in
theorem mi_X2_meanOfAllBy : Cond.instanceMethod yX2_meanOfAllBy ∈ zGW := zGt_3 37 rfl rfl
set_option maxRecDepth 100000 in
theorem ml_X2_meanOfAllBy : Cond.selects yX2_meanOfAllBy.cls yX2_meanOfAllBy yX2_meanOfAllBy ∈ zGW := zGt_3 38 rfl rfl
theorem my_X2_meanOfAllBy : yX2_meanOfAllBy.cls ≠ "java/lang/invoke/MethodHandle" ∧ yX2_meanOfAllBy.cls ≠ "java/lang/invoke/VarHandle" ∧ (parseMethodDescriptor yX2_meanOfAllBy.desc).map (fun d => d.parameters.length) = some 1 := by decide +kernel
set_option maxRecDepth 100000 in
theorem vw_X8_190 : zVW RX8 190 yX2_meanOfAllBy cX2_meanOfAllBy 4 (some .int) 1 := ⟨mc_X2_meanOfAllBy, zGt_3 40 rfl rfl, mi_X2_meanOfAllBy, ml_X2_meanOfAllBy, ni_X2, my_X2_meanOfAllBy⟩
set_option maxRecDepth 100000 in
theorem mc_X6_captainsSide : Cond.code yX6_captainsSide cX6_captainsSide 6 (some .int) ∈ zGW := zGt_3 48 rfl rfl
set_option maxRecDepth 100000 in
theorem mi_X6_captainsSide : Cond.instanceMethod yX6_captainsSide ∈ zGW := zGt_3 46 rfl rfl
set_option maxRecDepth 100000 in
theorem ml_X6_captainsSide : Cond.selects yX6_captainsSide.cls yX6_captainsSide yX6_captainsSide ∈ zGW := zGt_3 47 rfl rfl
theorem my_X6_captainsSide : yX6_captainsSide.cls ≠ "java/lang/invoke/MethodHandle" ∧ yX6_captainsSide.cls ≠ "java/lang/invoke/VarHandle" ∧ (parseMethodDescriptor yX6_captainsSide.desc).map (fun d => d.parameters.length) = some 3 := by decide +kernel
set_option maxRecDepth 100000 in
theorem vw_X8_193 : zVW RX8 193 yX6_captainsSide cX6_captainsSide 6 (some .int) 3 := ⟨mc_X6_captainsSide, zGt_3 45 rfl rfl, mi_X6_captainsSide, ml_X6_captainsSide, ni_X6, my_X6_captainsSide⟩
set_option maxRecDepth 100000 in
theorem mc_X6_digitAt : Cond.code yX6_digitAt cX6_digitAt 2 (some .int) ∈ zGW := zGt_2 132 rfl rfl
set_option maxRecDepth 100000 in
theorem mi_X6_digitAt : Cond.instanceMethod yX6_digitAt ∈ zGW := zGt_2 130 rfl rfl
set_option maxRecDepth 100000 in
theorem ml_X6_digitAt : Cond.selects yX6_digitAt.cls yX6_digitAt yX6_digitAt ∈ zGW := zGt_2 131 rfl rfl
theorem my_X6_digitAt : yX6_digitAt.cls ≠ "java/lang/invoke/MethodHandle" ∧ yX6_digitAt.cls ≠ "java/lang/invoke/VarHandle" ∧ (parseMethodDescriptor yX6_digitAt.desc).map (fun d => d.parameters.length) = some 1 := by decide +kernel
set_option maxRecDepth 100000 in
theorem vw_X8_209 : zVW RX8 209 yX6_digitAt cX6_digitAt 2 (some .int) 1 := ⟨mc_X6_digitAt, zGt_3 73 rfl rfl, mi_X6_digitAt, ml_X6_digitAt, ni_X6, my_X6_digitAt⟩
set_option maxRecDepth 100000 in
theorem mc_X3_worthTaking : Cond.code yX3_worthTaking cX3_worthTaking 4 (some .int) ∈ zGW := zGt_3 77 rfl rfl
set_option maxRecDepth 100000 in
theorem mi_X3_worthTaking : Cond.instanceMethod yX3_worthTaking ∈ zGW := zGt_3 75 rfl rfl
set_option maxRecDepth 100000 in
theorem ml_X3_worthTaking : Cond.selects yX3_worthTaking.cls yX3_worthTaking yX3_worthTaking ∈ zGW := zGt_3 76 rfl rfl
theorem my_X3_worthTaking : yX3_worthTaking.cls ≠ "java/lang/invoke/MethodHandle" ∧ yX3_worthTaking.cls ≠ "java/lang/invoke/VarHandle" ∧ (parseMethodDescriptor yX3_worthTaking.desc).map (fun d => d.parameters.length) = some 1 := by decide +kernel
set_option maxRecDepth 100000 in
theorem ni_X3 : Cond.initialized RX3 ∈ zGW := zGt_1 4 rfl rfl
set_option maxRecDepth 100000 in
theorem vw_X8_212 : zVW RX8 212 yX3_worthTaking cX3_worthTaking 4 (some .int) 1 := ⟨mc_X3_worthTaking, zGt_3 74 rfl rfl, mi_X3_worthTaking, ml_X3_worthTaking, ni_X3, my_X3_worthTaking⟩
set_option maxRecDepth 100000 in
theorem mc_X3_premiumsOf : Cond.code yX3_premiumsOf cX3_premiumsOf 2 (some .int) ∈ zGW := zGt_3 81 rfl rfl
set_option maxRecDepth 100000 in
theorem mi_X3_premiumsOf : Cond.instanceMethod yX3_premiumsOf ∈ zGW := zGt_3 79 rfl rfl
set_option maxRecDepth 100000 in
theorem ml_X3_premiumsOf : Cond.selects yX3_premiumsOf.cls yX3_premiumsOf yX3_premiumsOf ∈ zGW := zGt_3 80 rfl rfl
theorem my_X3_premiumsOf : yX3_premiumsOf.cls ≠ "java/lang/invoke/MethodHandle" ∧ yX3_premiumsOf.cls ≠ "java/lang/invoke/VarHandle" ∧ (parseMethodDescriptor yX3_premiumsOf.desc).map (fun d => d.parameters.length) = some 1 := by decide +kernel
set_option maxRecDepth 100000 in
theorem vw_X8_215 : zVW RX8 215 yX3_premiumsOf cX3_premiumsOf 2 (some .int) 1 := ⟨mc_X3_premiumsOf, zGt_3 78 rfl rfl, mi_X3_premiumsOf, ml_X3_premiumsOf, ni_X3, my_X3_premiumsOf⟩
set_option maxRecDepth 100000 in
theorem mc_X3_paysOf : Cond.code yX3_paysOf cX3_paysOf 2 (some .int) ∈ zGW := zGt_3 88 rfl rfl
set_option maxRecDepth 100000 in
theorem mi_X3_paysOf : Cond.instanceMethod yX3_paysOf ∈ zGW := zGt_3 86 rfl rfl
set_option maxRecDepth 100000 in
theorem ml_X3_paysOf : Cond.selects yX3_paysOf.cls yX3_paysOf yX3_paysOf ∈ zGW := zGt_3 87 rfl rfl
theorem my_X3_paysOf : yX3_paysOf.cls ≠ "java/lang/invoke/MethodHandle" ∧ yX3_paysOf.cls ≠ "java/lang/invoke/VarHandle" ∧ (parseMethodDescriptor yX3_paysOf.desc).map (fun d => d.parameters.length) = some 1 := by decide +kernel
set_option maxRecDepth 100000 in
theorem vw_X8_218 : zVW RX8 218 yX3_paysOf cX3_paysOf 2 (some .int) 1 := ⟨mc_X3_paysOf, zGt_3 85 rfl rfl, mi_X3_paysOf, ml_X3_paysOf, ni_X3, my_X3_paysOf⟩
set_option maxRecDepth 100000 in
theorem mc_X6_whole : Cond.code yX6_whole cX6_whole 2 (some .int) ∈ zGW := zGt_2 176 rfl rfl
set_option maxRecDepth 100000 in
theorem mi_X6_whole : Cond.instanceMethod yX6_whole ∈ zGW := zGt_2 174 rfl rfl
set_option maxRecDepth 100000 in
theorem ml_X6_whole : Cond.selects yX6_whole.cls yX6_whole yX6_whole ∈ zGW := zGt_2 175 rfl rfl
theorem my_X6_whole : yX6_whole.cls ≠ "java/lang/invoke/MethodHandle" ∧ yX6_whole.cls ≠ "java/lang/invoke/VarHandle" ∧ (parseMethodDescriptor yX6_whole.desc).map (fun d => d.parameters.length) = some 1 := by decide +kernel
set_option maxRecDepth 100000 in
theorem vw_X8_221 : zVW RX8 221 yX6_whole cX6_whole 2 (some .int) 1 := ⟨mc_X6_whole, zGt_3 89 rfl rfl, mi_X6_whole, ml_X6_whole, ni_X6, my_X6_whole⟩
set_option maxRecDepth 100000 in
theorem mc_X1_has : Cond.code yX1_has cX1_has 2 (some .boolean) ∈ zGW := zGt_3 103 rfl rfl
set_option maxRecDepth 100000 in
theorem mi_X1_has : Cond.instanceMethod yX1_has ∈ zGW := zGt_3 101 rfl rfl
set_option maxRecDepth 100000 in
theorem ml_X1_has : Cond.selects yX1_has.cls yX1_has yX1_has ∈ zGW := zGt_3 102 rfl rfl
theorem my_X1_has : yX1_has.cls ≠ "java/lang/invoke/MethodHandle" ∧ yX1_has.cls ≠ "java/lang/invoke/VarHandle" ∧ (parseMethodDescriptor yX1_has.desc).map (fun d => d.parameters.length) = some 1 := by decide +kernel
set_option maxRecDepth 100000 in
theorem ni_X1 : Cond.initialized RX1 ∈ zGW := zGt_1 5 rfl rfl
set_option maxRecDepth 100000 in
theorem vw_X8_238 : zVW RX8 238 yX1_has cX1_has 2 (some .boolean) 1 := ⟨mc_X1_has, zGt_3 100 rfl rfl, mi_X1_has, ml_X1_has, ni_X1, my_X1_has⟩
set_option maxRecDepth 100000 in
theorem mc_X1_countDrawn : Cond.code yX1_countDrawn cX1_countDrawn 5 (some .int) ∈ zGW := zGt_3 114 rfl rfl
set_option maxRecDepth 100000 in
theorem mi_X1_countDrawn : Cond.instanceMethod yX1_countDrawn ∈ zGW := zGt_3 112 rfl rfl
set_option maxRecDepth 100000 in
theorem ml_X1_countDrawn : Cond.selects yX1_countDrawn.cls yX1_countDrawn yX1_countDrawn ∈ zGW := zGt_3 113 rfl rfl
theorem my_X1_countDrawn : yX1_countDrawn.cls ≠ "java/lang/invoke/MethodHandle" ∧ yX1_countDrawn.cls ≠ "java/lang/invoke/VarHandle" ∧ (parseMethodDescriptor yX1_countDrawn.desc).map (fun d => d.parameters.length) = some 2 := by decide +kernel
set_option maxRecDepth 100000 in
theorem vw_X8_243 : zVW RX8 243 yX1_countDrawn cX1_countDrawn 5 (some .int) 2 := ⟨mc_X1_countDrawn, zGt_3 111 rfl rfl, mi_X1_countDrawn, ml_X1_countDrawn, ni_X1, my_X1_countDrawn⟩
set_option maxRecDepth 100000 in
theorem mc_X5_namesOnTwo : Cond.code yX5_namesOnTwo cX5_namesOnTwo 4 (some .int) ∈ zGW := zGt_3 147 rfl rfl
set_option maxRecDepth 100000 in
theorem mi_X5_namesOnTwo : Cond.instanceMethod yX5_namesOnTwo ∈ zGW := zGt_3 145 rfl rfl
set_option maxRecDepth 100000 in
theorem ml_X5_namesOnTwo : Cond.selects yX5_namesOnTwo.cls yX5_namesOnTwo yX5_namesOnTwo ∈ zGW := zGt_3 146 rfl rfl
theorem my_X5_namesOnTwo : yX5_namesOnTwo.cls ≠ "java/lang/invoke/MethodHandle" ∧ yX5_namesOnTwo.cls ≠ "java/lang/invoke/VarHandle" ∧ (parseMethodDescriptor yX5_namesOnTwo.desc).map (fun d => d.parameters.length) = some 1 := by decide +kernel
set_option maxRecDepth 100000 in
theorem ni_X5 : Cond.initialized RX5 ∈ zGW := zGt_1 6 rfl rfl
set_option maxRecDepth 100000 in
theorem vw_X8_270 : zVW RX8 270 yX5_namesOnTwo cX5_namesOnTwo 4 (some .int) 1 := ⟨mc_X5_namesOnTwo, zGt_3 144 rfl rfl, mi_X5_namesOnTwo, ml_X5_namesOnTwo, ni_X5, my_X5_namesOnTwo⟩
set_option maxRecDepth 100000 in
theorem mc_X6_lostToTeeth : Cond.code yX6_lostToTeeth cX6_lostToTeeth 3 (some .int) ∈ zGW := zGt_2 180 rfl rfl
set_option maxRecDepth 100000 in
theorem mi_X6_lostToTeeth : Cond.instanceMethod yX6_lostToTeeth ∈ zGW := zGt_2 178 rfl rfl
set_option maxRecDepth 100000 in
theorem ml_X6_lostToTeeth : Cond.selects yX6_lostToTeeth.cls yX6_lostToTeeth yX6_lostToTeeth ∈ zGW := zGt_2 179 rfl rfl
theorem my_X6_lostToTeeth : yX6_lostToTeeth.cls ≠ "java/lang/invoke/MethodHandle" ∧ yX6_lostToTeeth.cls ≠ "java/lang/invoke/VarHandle" ∧ (parseMethodDescriptor yX6_lostToTeeth.desc).map (fun d => d.parameters.length) = some 1 := by decide +kernel
set_option maxRecDepth 100000 in
theorem vw_X8_274 : zVW RX8 274 yX6_lostToTeeth cX6_lostToTeeth 3 (some .int) 1 := ⟨mc_X6_lostToTeeth, zGt_3 160 rfl rfl, mi_X6_lostToTeeth, ml_X6_lostToTeeth, ni_X6, my_X6_lostToTeeth⟩
set_option maxRecDepth 100000 in
theorem mc_X8_imageBooks : Cond.code yX8_imageBooks cX8_imageBooks 2 (some (.object "StraitFleet$Books")) ∈ zGW := zGt_3 169 rfl rfl
set_option maxRecDepth 100000 in
theorem mi_X8_imageBooks : Cond.instanceMethod yX8_imageBooks ∈ zGW := zGt_3 168 rfl rfl
theorem ml_X8_imageBooks : Cond.selects yX8_imageBooks.cls yX8_imageBooks yX8_imageBooks ∈ zGW := zGW_in 12 (by decide +kernel) (by decide +kernel)
theorem my_X8_imageBooks : yX8_imageBooks.cls ≠ "java/lang/invoke/MethodHandle" ∧ yX8_imageBooks.cls ≠ "java/lang/invoke/VarHandle" ∧ (parseMethodDescriptor yX8_imageBooks.desc).map (fun d => d.parameters.length) = some 1 := by decide +kernel
set_option maxRecDepth 100000 in
theorem vw_X8_280 : zVW RX8 280 yX8_imageBooks cX8_imageBooks 2 (some (.object "StraitFleet$Books")) 1 := ⟨mc_X8_imageBooks, zGt_3 166 rfl rfl, mi_X8_imageBooks, ml_X8_imageBooks, ni_X8, my_X8_imageBooks⟩
set_option maxRecDepth 100000 in
theorem mc_X0_become : Cond.code yX0_become cX0_become 2 none ∈ zGW := zGt_3 173 rfl rfl
set_option maxRecDepth 100000 in
theorem mi_X0_become : Cond.instanceMethod yX0_become ∈ zGW := zGt_3 171 rfl rfl
set_option maxRecDepth 100000 in
theorem ml_X0_become : Cond.selects yX0_become.cls yX0_become yX0_become ∈ zGW := zGt_3 172 rfl rfl
theorem my_X0_become : yX0_become.cls ≠ "java/lang/invoke/MethodHandle" ∧ yX0_become.cls ≠ "java/lang/invoke/VarHandle" ∧ (parseMethodDescriptor yX0_become.desc).map (fun d => d.parameters.length) = some 1 := by decide +kernel
set_option maxRecDepth 100000 in
theorem ni_X0 : Cond.initialized RX0 ∈ zGW := zGt_1 2 rfl rfl
set_option maxRecDepth 100000 in
theorem vw_X8_284 : zVW RX8 284 yX0_become cX0_become 2 none 1 := ⟨mc_X0_become, zGt_3 170 rfl rfl, mi_X0_become, ml_X0_become, ni_X0, my_X0_become⟩
set_option maxRecDepth 100000 in
theorem vw_X0_37 : zVW RX0 37 yX6_become cX6_become 2 none 1 := ⟨mc_X6_become, zGt_3 174 rfl rfl, mi_X6_become, ml_X6_become, ni_X6, my_X6_become⟩
set_option maxRecDepth 100000 in
theorem mc_X3_become : Cond.code yX3_become cX3_become 2 none ∈ zGW := zGt_3 178 rfl rfl
set_option maxRecDepth 100000 in
theorem mi_X3_become : Cond.instanceMethod yX3_become ∈ zGW := zGt_3 176 rfl rfl
set_option maxRecDepth 100000 in
theorem ml_X3_become : Cond.selects yX3_become.cls yX3_become yX3_become ∈ zGW := zGt_3 177 rfl rfl
theorem my_X3_become : yX3_become.cls ≠ "java/lang/invoke/MethodHandle" ∧ yX3_become.cls ≠ "java/lang/invoke/VarHandle" ∧ (parseMethodDescriptor yX3_become.desc).map (fun d => d.parameters.length) = some 1 := by decide +kernel
set_option maxRecDepth 100000 in
theorem vw_X0_41 : zVW RX0 41 yX3_become cX3_become 2 none 1 := ⟨mc_X3_become, zGt_3 175 rfl rfl, mi_X3_become, ml_X3_become, ni_X3, my_X3_become⟩
set_option maxRecDepth 100000 in
theorem mc_X1_become : Cond.code yX1_become cX1_become 2 none ∈ zGW := zGt_3 183 rfl rfl
set_option maxRecDepth 100000 in
theorem mi_X1_become : Cond.instanceMethod yX1_become ∈ zGW := zGt_3 181 rfl rfl
set_option maxRecDepth 100000 in
theorem ml_X1_become : Cond.selects yX1_become.cls yX1_become yX1_become ∈ zGW := zGt_3 182 rfl rfl
theorem my_X1_become : yX1_become.cls ≠ "java/lang/invoke/MethodHandle" ∧ yX1_become.cls ≠ "java/lang/invoke/VarHandle" ∧ (parseMethodDescriptor yX1_become.desc).map (fun d => d.parameters.length) = some 1 := by decide +kernel
set_option maxRecDepth 100000 in
theorem vw_X0_44 : zVW RX0 44 yX1_become cX1_become 2 none 1 := ⟨mc_X1_become, zGt_3 180 rfl rfl, mi_X1_become, ml_X1_become, ni_X1, my_X1_become⟩
set_option maxRecDepth 100000 in
theorem mc_X5_become : Cond.code yX5_become cX5_become 2 none ∈ zGW := zGt_3 188 rfl rfl
set_option maxRecDepth 100000 in
theorem mi_X5_become : Cond.instanceMethod yX5_become ∈ zGW := zGt_3 186 rfl rfl
set_option maxRecDepth 100000 in
theorem ml_X5_become : Cond.selects yX5_become.cls yX5_become yX5_become ∈ zGW := zGt_3 187 rfl rfl
theorem my_X5_become : yX5_become.cls ≠ "java/lang/invoke/MethodHandle" ∧ yX5_become.cls ≠ "java/lang/invoke/VarHandle" ∧ (parseMethodDescriptor yX5_become.desc).map (fun d => d.parameters.length) = some 1 := by decide +kernel
set_option maxRecDepth 100000 in
theorem vw_X0_47 : zVW RX0 47 yX5_become cX5_become 2 none 1 := ⟨mc_X5_become, zGt_3 185 rfl rfl, mi_X5_become, ml_X5_become, ni_X5, my_X5_become⟩
set_option maxRecDepth 100000 in
theorem vw_X1_29 : zVW RX1 29 yX1_has cX1_has 2 (some .boolean) 1 := ⟨mc_X1_has, zGt_3 115 rfl rfl, mi_X1_has, ml_X1_has, ni_X1, my_X1_has⟩
set_option maxRecDepth 100000 in
theorem vw_X2_32 : zVW RX2 32 yX6_moored cX6_moored 2 (some .boolean) 1 := ⟨mc_X6_moored, zGt_2 221 rfl rfl, mi_X6_moored, ml_X6_moored, ni_X6, my_X6_moored⟩
set_option maxRecDepth 100000 in
theorem vw_X2_37 : zVW RX2 37 yX6_meanBy cX6_meanBy 4 (some .int) 3 := ⟨mc_X6_meanBy, zGt_2 222 rfl rfl, mi_X6_meanBy, ml_X6_meanBy, ni_X6, my_X6_meanBy⟩
set_option maxRecDepth 100000 in
theorem vw_X2_41 : zVW RX2 41 yX6_worstBy cX6_worstBy 4 (some .int) 3 := ⟨mc_X6_worstBy, zGt_2 223 rfl rfl, mi_X6_worstBy, ml_X6_worstBy, ni_X6, my_X6_worstBy⟩
set_option maxRecDepth 100000 in
theorem mc_X2_spreadChoices : Cond.code yX2_spreadChoices cX2_spreadChoices 7 (some .int) ∈ zGW := zGt_2 231 rfl rfl
set_option maxRecDepth 100000 in
theorem mi_X2_spreadChoices : Cond.instanceMethod yX2_spreadChoices ∈ zGW := zGt_2 230 rfl rfl
theorem ml_X2_spreadChoices : Cond.selects yX2_spreadChoices.cls yX2_spreadChoices yX2_spreadChoices ∈ zGW := zGW_in 7 (by decide +kernel) (by decide +kernel)
theorem my_X2_spreadChoices : yX2_spreadChoices.cls ≠ "java/lang/invoke/MethodHandle" ∧ yX2_spreadChoices.cls ≠ "java/lang/invoke/VarHandle" ∧ (parseMethodDescriptor yX2_spreadChoices.desc).map (fun d => d.parameters.length) = some 0 := by decide +kernel
set_option maxRecDepth 100000 in
theorem vw_X2_44 : zVW RX2 44 yX2_spreadChoices cX2_spreadChoices 7 (some .int) 0 := ⟨mc_X2_spreadChoices, zGt_2 228 rfl rfl, mi_X2_spreadChoices, ml_X2_spreadChoices, ni_X2, my_X2_spreadChoices⟩
set_option maxRecDepth 100000 in
theorem mc_X2_widenFront : Cond.code yX2_widenFront cX2_widenFront 16 (some .int) ∈ zGW := zGt_3 18 rfl rfl
set_option maxRecDepth 100000 in
theorem mi_X2_widenFront : Cond.instanceMethod yX2_widenFront ∈ zGW := zGt_3 17 rfl rfl
theorem ml_X2_widenFront : Cond.selects yX2_widenFront.cls yX2_widenFront yX2_widenFront ∈ zGW := zGW_in 8 (by decide +kernel) (by decide +kernel)
theorem my_X2_widenFront : yX2_widenFront.cls ≠ "java/lang/invoke/MethodHandle" ∧ yX2_widenFront.cls ≠ "java/lang/invoke/VarHandle" ∧ (parseMethodDescriptor yX2_widenFront.desc).map (fun d => d.parameters.length) = some 2 := by decide +kernel
set_option maxRecDepth 100000 in
theorem vw_X2_59 : zVW RX2 59 yX2_widenFront cX2_widenFront 16 (some .int) 2 := ⟨mc_X2_widenFront, zGt_3 15 rfl rfl, mi_X2_widenFront, ml_X2_widenFront, ni_X2, my_X2_widenFront⟩
set_option maxRecDepth 100000 in
theorem vw_X2_77 : zVW RX2 77 yX2_meanOfAllBy cX2_meanOfAllBy 4 (some .int) 1 := ⟨mc_X2_meanOfAllBy, zGt_3 36 rfl rfl, mi_X2_meanOfAllBy, ml_X2_meanOfAllBy, ni_X2, my_X2_meanOfAllBy⟩
set_option maxRecDepth 100000 in
theorem mc_X4_sideAt : Cond.code yX4_sideAt cX4_sideAt 2 (some .int) ∈ zGW := zGt_2 54 rfl rfl
set_option maxRecDepth 100000 in
theorem mi_X4_sideAt : Cond.instanceMethod yX4_sideAt ∈ zGW := zGt_2 52 rfl rfl
set_option maxRecDepth 100000 in
theorem ml_X4_sideAt : Cond.selects yX4_sideAt.cls yX4_sideAt yX4_sideAt ∈ zGW := zGt_2 53 rfl rfl
theorem my_X4_sideAt : yX4_sideAt.cls ≠ "java/lang/invoke/MethodHandle" ∧ yX4_sideAt.cls ≠ "java/lang/invoke/VarHandle" ∧ (parseMethodDescriptor yX4_sideAt.desc).map (fun d => d.parameters.length) = some 1 := by decide +kernel
set_option maxRecDepth 100000 in
theorem vw_X4_23 : zVW RX4 23 yX4_sideAt cX4_sideAt 2 (some .int) 1 := ⟨mc_X4_sideAt, zGt_2 51 rfl rfl, mi_X4_sideAt, ml_X4_sideAt, ni_X4, my_X4_sideAt⟩
set_option maxRecDepth 100000 in
theorem mc_X4_hourPassesAt : Cond.code yX4_hourPassesAt cX4_hourPassesAt 2 (some .boolean) ∈ zGW := zGt_2 62 rfl rfl
set_option maxRecDepth 100000 in
theorem mi_X4_hourPassesAt : Cond.instanceMethod yX4_hourPassesAt ∈ zGW := zGt_2 60 rfl rfl
set_option maxRecDepth 100000 in
theorem ml_X4_hourPassesAt : Cond.selects yX4_hourPassesAt.cls yX4_hourPassesAt yX4_hourPassesAt ∈ zGW := zGt_2 61 rfl rfl
theorem my_X4_hourPassesAt : yX4_hourPassesAt.cls ≠ "java/lang/invoke/MethodHandle" ∧ yX4_hourPassesAt.cls ≠ "java/lang/invoke/VarHandle" ∧ (parseMethodDescriptor yX4_hourPassesAt.desc).map (fun d => d.parameters.length) = some 1 := by decide +kernel
set_option maxRecDepth 100000 in
theorem vw_X4_27 : zVW RX4 27 yX4_hourPassesAt cX4_hourPassesAt 2 (some .boolean) 1 := ⟨mc_X4_hourPassesAt, zGt_2 59 rfl rfl, mi_X4_hourPassesAt, ml_X4_hourPassesAt, ni_X4, my_X4_hourPassesAt⟩
set_option maxRecDepth 100000 in
theorem mc_X4_shipAt : Cond.code yX4_shipAt cX4_shipAt 2 (some .int) ∈ zGW := zGt_2 66 rfl rfl
set_option maxRecDepth 100000 in
theorem mi_X4_shipAt : Cond.instanceMethod yX4_shipAt ∈ zGW := zGt_2 64 rfl rfl
set_option maxRecDepth 100000 in
theorem ml_X4_shipAt : Cond.selects yX4_shipAt.cls yX4_shipAt yX4_shipAt ∈ zGW := zGt_2 65 rfl rfl
theorem my_X4_shipAt : yX4_shipAt.cls ≠ "java/lang/invoke/MethodHandle" ∧ yX4_shipAt.cls ≠ "java/lang/invoke/VarHandle" ∧ (parseMethodDescriptor yX4_shipAt.desc).map (fun d => d.parameters.length) = some 1 := by decide +kernel
set_option maxRecDepth 100000 in
theorem vw_X4_31 : zVW RX4 31 yX4_shipAt cX4_shipAt 2 (some .int) 1 := ⟨mc_X4_shipAt, zGt_2 63 rfl rfl, mi_X4_shipAt, ml_X4_shipAt, ni_X4, my_X4_shipAt⟩
set_option maxRecDepth 100000 in
theorem mc_X4_holds : Cond.code yX4_holds cX4_holds 2 (some .boolean) ∈ zGW := zGt_2 58 rfl rfl
set_option maxRecDepth 100000 in
theorem mi_X4_holds : Cond.instanceMethod yX4_holds ∈ zGW := zGt_2 57 rfl rfl
theorem ml_X4_holds : Cond.selects yX4_holds.cls yX4_holds yX4_holds ∈ zGW := zGW_in 0 (by decide +kernel) (by decide +kernel)
theorem my_X4_holds : yX4_holds.cls ≠ "java/lang/invoke/MethodHandle" ∧ yX4_holds.cls ≠ "java/lang/invoke/VarHandle" ∧ (parseMethodDescriptor yX4_holds.desc).map (fun d => d.parameters.length) = some 1 := by decide +kernel
set_option maxRecDepth 100000 in
theorem vw_X4_34 : zVW RX4 34 yX4_holds cX4_holds 2 (some .boolean) 1 := ⟨mc_X4_holds, zGt_2 55 rfl rfl, mi_X4_holds, ml_X4_holds, ni_X4, my_X4_holds⟩
set_option maxRecDepth 100000 in
theorem mc_X5_rollsWith : Cond.code yX5_rollsWith cX5_rollsWith 5 (some .int) ∈ zGW := zGt_3 151 rfl rfl
set_option maxRecDepth 100000 in
theorem mi_X5_rollsWith : Cond.instanceMethod yX5_rollsWith ∈ zGW := zGt_3 150 rfl rfl
theorem ml_X5_rollsWith : Cond.selects yX5_rollsWith.cls yX5_rollsWith yX5_rollsWith ∈ zGW := zGW_in 11 (by decide +kernel) (by decide +kernel)
theorem my_X5_rollsWith : yX5_rollsWith.cls ≠ "java/lang/invoke/MethodHandle" ∧ yX5_rollsWith.cls ≠ "java/lang/invoke/VarHandle" ∧ (parseMethodDescriptor yX5_rollsWith.desc).map (fun d => d.parameters.length) = some 2 := by decide +kernel
set_option maxRecDepth 100000 in
theorem vw_X5_28 : zVW RX5 28 yX5_rollsWith cX5_rollsWith 5 (some .int) 2 := ⟨mc_X5_rollsWith, zGt_3 148 rfl rfl, mi_X5_rollsWith, ml_X5_rollsWith, ni_X5, my_X5_rollsWith⟩
set_option maxRecDepth 100000 in
theorem vw_X6_58 : zVW RX6 58 yX6_has cX6_has 2 (some .boolean) 1 := ⟨mc_X6_has, zGt_2 95 rfl rfl, mi_X6_has, ml_X6_has, ni_X6, my_X6_has⟩
set_option maxRecDepth 100000 in
theorem vw_X6_62 : zVW RX6 62 yX6_moored cX6_moored 2 (some .boolean) 1 := ⟨mc_X6_moored, zGt_2 96 rfl rfl, mi_X6_moored, ml_X6_moored, ni_X6, my_X6_moored⟩
set_option maxRecDepth 100000 in
theorem mc_X6_sendByTeeth : Cond.code yX6_sendByTeeth cX6_sendByTeeth 3 none ∈ zGW := zGt_2 108 rfl rfl
set_option maxRecDepth 100000 in
theorem mi_X6_sendByTeeth : Cond.instanceMethod yX6_sendByTeeth ∈ zGW := zGt_2 107 rfl rfl
theorem ml_X6_sendByTeeth : Cond.selects yX6_sendByTeeth.cls yX6_sendByTeeth yX6_sendByTeeth ∈ zGW := zGW_in 1 (by decide +kernel) (by decide +kernel)
theorem my_X6_sendByTeeth : yX6_sendByTeeth.cls ≠ "java/lang/invoke/MethodHandle" ∧ yX6_sendByTeeth.cls ≠ "java/lang/invoke/VarHandle" ∧ (parseMethodDescriptor yX6_sendByTeeth.desc).map (fun d => d.parameters.length) = some 1 := by decide +kernel
set_option maxRecDepth 100000 in
theorem vw_X6_65 : zVW RX6 65 yX6_sendByTeeth cX6_sendByTeeth 3 none 1 := ⟨mc_X6_sendByTeeth, zGt_2 105 rfl rfl, mi_X6_sendByTeeth, ml_X6_sendByTeeth, ni_X6, my_X6_sendByTeeth⟩
set_option maxRecDepth 100000 in
theorem mc_X6_sendByWhirl : Cond.code yX6_sendByWhirl cX6_sendByWhirl 3 none ∈ zGW := zGt_2 124 rfl rfl
set_option maxRecDepth 100000 in
theorem mi_X6_sendByWhirl : Cond.instanceMethod yX6_sendByWhirl ∈ zGW := zGt_2 123 rfl rfl
theorem ml_X6_sendByWhirl : Cond.selects yX6_sendByWhirl.cls yX6_sendByWhirl yX6_sendByWhirl ∈ zGW := zGW_in 4 (by decide +kernel) (by decide +kernel)
theorem my_X6_sendByWhirl : yX6_sendByWhirl.cls ≠ "java/lang/invoke/MethodHandle" ∧ yX6_sendByWhirl.cls ≠ "java/lang/invoke/VarHandle" ∧ (parseMethodDescriptor yX6_sendByWhirl.desc).map (fun d => d.parameters.length) = some 2 := by decide +kernel
set_option maxRecDepth 100000 in
theorem vw_X6_69 : zVW RX6 69 yX6_sendByWhirl cX6_sendByWhirl 3 none 2 := ⟨mc_X6_sendByWhirl, zGt_2 121 rfl rfl, mi_X6_sendByWhirl, ml_X6_sendByWhirl, ni_X6, my_X6_sendByWhirl⟩
set_option maxRecDepth 100000 in
theorem mc_X6_fare : Cond.code yX6_fare cX6_fare 2 (some .int) ∈ zGW := zGt_2 136 rfl rfl
set_option maxRecDepth 100000 in
theorem mi_X6_fare : Cond.instanceMethod yX6_fare ∈ zGW := zGt_2 134 rfl rfl
set_option maxRecDepth 100000 in
theorem ml_X6_fare : Cond.selects yX6_fare.cls yX6_fare yX6_fare ∈ zGW := zGt_2 135 rfl rfl
theorem my_X6_fare : yX6_fare.cls ≠ "java/lang/invoke/MethodHandle" ∧ yX6_fare.cls ≠ "java/lang/invoke/VarHandle" ∧ (parseMethodDescriptor yX6_fare.desc).map (fun d => d.parameters.length) = some 1 := by decide +kernel
set_option maxRecDepth 100000 in
theorem vw_X6_73 : zVW RX6 73 yX6_fare cX6_fare 2 (some .int) 1 := ⟨mc_X6_fare, zGt_2 133 rfl rfl, mi_X6_fare, ml_X6_fare, ni_X6, my_X6_fare⟩
set_option maxRecDepth 100000 in
theorem mc_X6_menToTeeth : Cond.code yX6_menToTeeth cX6_menToTeeth 2 (some .int) ∈ zGW := zGt_2 112 rfl rfl
set_option maxRecDepth 100000 in
theorem mi_X6_menToTeeth : Cond.instanceMethod yX6_menToTeeth ∈ zGW := zGt_2 111 rfl rfl
theorem ml_X6_menToTeeth : Cond.selects yX6_menToTeeth.cls yX6_menToTeeth yX6_menToTeeth ∈ zGW := zGW_in 2 (by decide +kernel) (by decide +kernel)
theorem my_X6_menToTeeth : yX6_menToTeeth.cls ≠ "java/lang/invoke/MethodHandle" ∧ yX6_menToTeeth.cls ≠ "java/lang/invoke/VarHandle" ∧ (parseMethodDescriptor yX6_menToTeeth.desc).map (fun d => d.parameters.length) = some 1 := by decide +kernel
set_option maxRecDepth 100000 in
theorem vw_X6_77 : zVW RX6 77 yX6_menToTeeth cX6_menToTeeth 2 (some .int) 1 := ⟨mc_X6_menToTeeth, zGt_2 109 rfl rfl, mi_X6_menToTeeth, ml_X6_menToTeeth, ni_X6, my_X6_menToTeeth⟩
set_option maxRecDepth 100000 in
theorem mc_X6_lose : Cond.code yX6_lose cX6_lose 2 none ∈ zGW := zGt_2 120 rfl rfl
set_option maxRecDepth 100000 in
theorem mi_X6_lose : Cond.instanceMethod yX6_lose ∈ zGW := zGt_2 119 rfl rfl
theorem ml_X6_lose : Cond.selects yX6_lose.cls yX6_lose yX6_lose ∈ zGW := zGW_in 3 (by decide +kernel) (by decide +kernel)
theorem my_X6_lose : yX6_lose.cls ≠ "java/lang/invoke/MethodHandle" ∧ yX6_lose.cls ≠ "java/lang/invoke/VarHandle" ∧ (parseMethodDescriptor yX6_lose.desc).map (fun d => d.parameters.length) = some 1 := by decide +kernel
set_option maxRecDepth 100000 in
theorem vw_X6_86 : zVW RX6 86 yX6_lose cX6_lose 2 none 1 := ⟨mc_X6_lose, zGt_2 117 rfl rfl, mi_X6_lose, ml_X6_lose, ni_X6, my_X6_lose⟩
set_option maxRecDepth 100000 in
theorem vw_X6_92 : zVW RX6 92 yX6_digitAt cX6_digitAt 2 (some .int) 1 := ⟨mc_X6_digitAt, zGt_2 129 rfl rfl, mi_X6_digitAt, ml_X6_digitAt, ni_X6, my_X6_digitAt⟩
set_option maxRecDepth 100000 in
theorem vw_X6_98 : zVW RX6 98 yX6_whole cX6_whole 2 (some .int) 1 := ⟨mc_X6_whole, zGt_2 173 rfl rfl, mi_X6_whole, ml_X6_whole, ni_X6, my_X6_whole⟩
set_option maxRecDepth 100000 in
theorem vw_X6_101 : zVW RX6 101 yX6_lostToTeeth cX6_lostToTeeth 3 (some .int) 1 := ⟨mc_X6_lostToTeeth, zGt_2 177 rfl rfl, mi_X6_lostToTeeth, ml_X6_lostToTeeth, ni_X6, my_X6_lostToTeeth⟩
set_option maxRecDepth 100000 in
theorem vw_X6_104 : zVW RX6 104 yX6_meanBy cX6_meanBy 4 (some .int) 3 := ⟨mc_X6_meanBy, zGt_2 201 rfl rfl, mi_X6_meanBy, ml_X6_meanBy, ni_X6, my_X6_meanBy⟩
set_option maxRecDepth 100000 in
theorem vw_X6_108 : zVW RX6 108 yX6_ownersSide cX6_ownersSide 5 (some .int) 2 := ⟨mc_X6_ownersSide, zGt_2 210 rfl rfl, mi_X6_ownersSide, ml_X6_ownersSide, ni_X6, my_X6_ownersSide⟩
set_option maxRecDepth 100000 in
theorem mc_X6_captainGets : Cond.code yX6_captainGets cX6_captainGets 6 (some .int) ∈ zGW := zGt_3 52 rfl rfl
set_option maxRecDepth 100000 in
theorem mi_X6_captainGets : Cond.instanceMethod yX6_captainGets ∈ zGW := zGt_3 51 rfl rfl
theorem ml_X6_captainGets : Cond.selects yX6_captainGets.cls yX6_captainGets yX6_captainGets ∈ zGW := zGW_in 9 (by decide +kernel) (by decide +kernel)
theorem my_X6_captainGets : yX6_captainGets.cls ≠ "java/lang/invoke/MethodHandle" ∧ yX6_captainGets.cls ≠ "java/lang/invoke/VarHandle" ∧ (parseMethodDescriptor yX6_captainGets.desc).map (fun d => d.parameters.length) = some 4 := by decide +kernel
set_option maxRecDepth 100000 in
theorem vw_X6_111 : zVW RX6 111 yX6_captainGets cX6_captainGets 6 (some .int) 4 := ⟨mc_X6_captainGets, zGt_3 49 rfl rfl, mi_X6_captainGets, ml_X6_captainGets, ni_X6, my_X6_captainGets⟩
set_option maxRecDepth 100000 in
theorem mc_X6_rewardFor : Cond.code yX6_rewardFor cX6_rewardFor 3 (some .int) ∈ zGW := zGt_3 56 rfl rfl
set_option maxRecDepth 100000 in
theorem mi_X6_rewardFor : Cond.instanceMethod yX6_rewardFor ∈ zGW := zGt_3 55 rfl rfl
theorem ml_X6_rewardFor : Cond.selects yX6_rewardFor.cls yX6_rewardFor yX6_rewardFor ∈ zGW := zGW_in 10 (by decide +kernel) (by decide +kernel)
theorem my_X6_rewardFor : yX6_rewardFor.cls ≠ "java/lang/invoke/MethodHandle" ∧ yX6_rewardFor.cls ≠ "java/lang/invoke/VarHandle" ∧ (parseMethodDescriptor yX6_rewardFor.desc).map (fun d => d.parameters.length) = some 2 := by decide +kernel
set_option maxRecDepth 100000 in
theorem vw_X6_115 : zVW RX6 115 yX6_rewardFor cX6_rewardFor 3 (some .int) 2 := ⟨mc_X6_rewardFor, zGt_3 53 rfl rfl, mi_X6_rewardFor, ml_X6_rewardFor, ni_X6, my_X6_rewardFor⟩
set_option maxRecDepth 100000 in
theorem vw_X7_25 : zVW RX7 25 yX6_become cX6_become 2 none 1 := ⟨mc_X6_become, zGt_2 82 rfl rfl, mi_X6_become, ml_X6_become, ni_X6, my_X6_become⟩
set_option maxRecDepth 100000 in
theorem vw_X7_34 : zVW RX7 34 yX4_hourPassesAt cX4_hourPassesAt 2 (some .boolean) 1 := ⟨mc_X4_hourPassesAt, zGt_2 89 rfl rfl, mi_X4_hourPassesAt, ml_X4_hourPassesAt, ni_X4, my_X4_hourPassesAt⟩
set_option maxRecDepth 100000 in
theorem vw_X7_38 : zVW RX7 38 yX4_shipAt cX4_shipAt 2 (some .int) 1 := ⟨mc_X4_shipAt, zGt_2 90 rfl rfl, mi_X4_shipAt, ml_X4_shipAt, ni_X4, my_X4_shipAt⟩
set_option maxRecDepth 100000 in
theorem mc_X6_whyNot : Cond.code yX6_whyNot cX6_whyNot 2 (some .int) ∈ zGW := zGt_2 94 rfl rfl
set_option maxRecDepth 100000 in
theorem mi_X6_whyNot : Cond.instanceMethod yX6_whyNot ∈ zGW := zGt_2 92 rfl rfl
set_option maxRecDepth 100000 in
theorem ml_X6_whyNot : Cond.selects yX6_whyNot.cls yX6_whyNot yX6_whyNot ∈ zGW := zGt_2 93 rfl rfl
theorem my_X6_whyNot : yX6_whyNot.cls ≠ "java/lang/invoke/MethodHandle" ∧ yX6_whyNot.cls ≠ "java/lang/invoke/VarHandle" ∧ (parseMethodDescriptor yX6_whyNot.desc).map (fun d => d.parameters.length) = some 1 := by decide +kernel
set_option maxRecDepth 100000 in
theorem vw_X7_42 : zVW RX7 42 yX6_whyNot cX6_whyNot 2 (some .int) 1 := ⟨mc_X6_whyNot, zGt_2 91 rfl rfl, mi_X6_whyNot, ml_X6_whyNot, ni_X6, my_X6_whyNot⟩
set_option maxRecDepth 100000 in
theorem vw_X7_45 : zVW RX7 45 yX4_sideAt cX4_sideAt 2 (some .int) 1 := ⟨mc_X4_sideAt, zGt_2 100 rfl rfl, mi_X4_sideAt, ml_X4_sideAt, ni_X4, my_X4_sideAt⟩
set_option maxRecDepth 100000 in
theorem mc_X6_send : Cond.code yX6_send cX6_send 4 none ∈ zGW := zGt_2 104 rfl rfl
set_option maxRecDepth 100000 in
theorem mi_X6_send : Cond.instanceMethod yX6_send ∈ zGW := zGt_2 102 rfl rfl
set_option maxRecDepth 100000 in
theorem ml_X6_send : Cond.selects yX6_send.cls yX6_send yX6_send ∈ zGW := zGt_2 103 rfl rfl
theorem my_X6_send : yX6_send.cls ≠ "java/lang/invoke/MethodHandle" ∧ yX6_send.cls ≠ "java/lang/invoke/VarHandle" ∧ (parseMethodDescriptor yX6_send.desc).map (fun d => d.parameters.length) = some 3 := by decide +kernel
set_option maxRecDepth 100000 in
theorem vw_X7_48 : zVW RX7 48 yX6_send cX6_send 4 none 3 := ⟨mc_X6_send, zGt_2 101 rfl rfl, mi_X6_send, ml_X6_send, ni_X6, my_X6_send⟩
set_option maxRecDepth 100000 in
theorem mc_X9_isShip : Cond.code yX9_isShip cX9_isShip 2 (some .boolean) ∈ zGW := zGt_4 110 rfl rfl
set_option maxRecDepth 100000 in
theorem mi_X9_isShip : Cond.instanceMethod yX9_isShip ∈ zGW := zGt_4 109 rfl rfl
theorem ml_X9_isShip : Cond.selects yX9_isShip.cls yX9_isShip yX9_isShip ∈ zGW := zGW_in 13 (by decide +kernel) (by decide +kernel)
theorem my_X9_isShip : yX9_isShip.cls ≠ "java/lang/invoke/MethodHandle" ∧ yX9_isShip.cls ≠ "java/lang/invoke/VarHandle" ∧ (parseMethodDescriptor yX9_isShip.desc).map (fun d => d.parameters.length) = some 1 := by decide +kernel
set_option maxRecDepth 100000 in
theorem ni_X9 : Cond.initialized RX9 ∈ zGW := zGt_1 10 rfl rfl
set_option maxRecDepth 100000 in
theorem vw_X9_112 : zVW RX9 112 yX9_isShip cX9_isShip 2 (some .boolean) 1 := ⟨mc_X9_isShip, zGt_4 107 rfl rfl, mi_X9_isShip, ml_X9_isShip, ni_X9, my_X9_isShip⟩
set_option maxRecDepth 100000 in
theorem mc_X9_toldSet : Cond.code yX9_toldSet cX9_toldSet 2 (some .int) ∈ zGW := zGt_4 122 rfl rfl
set_option maxRecDepth 100000 in
theorem mi_X9_toldSet : Cond.instanceMethod yX9_toldSet ∈ zGW := zGt_4 121 rfl rfl
theorem ml_X9_toldSet : Cond.selects yX9_toldSet.cls yX9_toldSet yX9_toldSet ∈ zGW := zGW_in 14 (by decide +kernel) (by decide +kernel)
theorem my_X9_toldSet : yX9_toldSet.cls ≠ "java/lang/invoke/MethodHandle" ∧ yX9_toldSet.cls ≠ "java/lang/invoke/VarHandle" ∧ (parseMethodDescriptor yX9_toldSet.desc).map (fun d => d.parameters.length) = some 1 := by decide +kernel
set_option maxRecDepth 100000 in
theorem vw_X9_123 : zVW RX9 123 yX9_toldSet cX9_toldSet 2 (some .int) 1 := ⟨mc_X9_toldSet, zGt_4 119 rfl rfl, mi_X9_toldSet, ml_X9_toldSet, ni_X9, my_X9_toldSet⟩
set_option maxRecDepth 100000 in
theorem mc_X9_faultOfTide : Cond.code yX9_faultOfTide cX9_faultOfTide 2 (some .int) ∈ zGW := zGt_4 140 rfl rfl
set_option maxRecDepth 100000 in
theorem mi_X9_faultOfTide : Cond.instanceMethod yX9_faultOfTide ∈ zGW := zGt_4 139 rfl rfl
theorem ml_X9_faultOfTide : Cond.selects yX9_faultOfTide.cls yX9_faultOfTide yX9_faultOfTide ∈ zGW := zGW_in 15 (by decide +kernel) (by decide +kernel)
theorem my_X9_faultOfTide : yX9_faultOfTide.cls ≠ "java/lang/invoke/MethodHandle" ∧ yX9_faultOfTide.cls ≠ "java/lang/invoke/VarHandle" ∧ (parseMethodDescriptor yX9_faultOfTide.desc).map (fun d => d.parameters.length) = some 0 := by decide +kernel
set_option maxRecDepth 100000 in
theorem vw_X9_141 : zVW RX9 141 yX9_faultOfTide cX9_faultOfTide 2 (some .int) 0 := ⟨mc_X9_faultOfTide, zGt_4 137 rfl rfl, mi_X9_faultOfTide, ml_X9_faultOfTide, ni_X9, my_X9_faultOfTide⟩
set_option maxRecDepth 100000 in
theorem mc_X9_faultOfSeason : Cond.code yX9_faultOfSeason cX9_faultOfSeason 5 (some .int) ∈ zGW := zGt_4 146 rfl rfl
set_option maxRecDepth 100000 in
theorem mi_X9_faultOfSeason : Cond.instanceMethod yX9_faultOfSeason ∈ zGW := zGt_4 145 rfl rfl
theorem ml_X9_faultOfSeason : Cond.selects yX9_faultOfSeason.cls yX9_faultOfSeason yX9_faultOfSeason ∈ zGW := zGW_in 16 (by decide +kernel) (by decide +kernel)
theorem my_X9_faultOfSeason : yX9_faultOfSeason.cls ≠ "java/lang/invoke/MethodHandle" ∧ yX9_faultOfSeason.cls ≠ "java/lang/invoke/VarHandle" ∧ (parseMethodDescriptor yX9_faultOfSeason.desc).map (fun d => d.parameters.length) = some 0 := by decide +kernel
set_option maxRecDepth 100000 in
theorem vw_X9_145 : zVW RX9 145 yX9_faultOfSeason cX9_faultOfSeason 5 (some .int) 0 := ⟨mc_X9_faultOfSeason, zGt_4 143 rfl rfl, mi_X9_faultOfSeason, ml_X9_faultOfSeason, ni_X9, my_X9_faultOfSeason⟩
set_option maxRecDepth 100000 in
theorem mc_X9_lostByTeeth : Cond.code yX9_lostByTeeth cX9_lostByTeeth 3 (some .int) ∈ zGW := zGt_4 176 rfl rfl
set_option maxRecDepth 100000 in
theorem mi_X9_lostByTeeth : Cond.instanceMethod yX9_lostByTeeth ∈ zGW := zGt_4 175 rfl rfl
theorem ml_X9_lostByTeeth : Cond.selects yX9_lostByTeeth.cls yX9_lostByTeeth yX9_lostByTeeth ∈ zGW := zGW_in 21 (by decide +kernel) (by decide +kernel)
theorem my_X9_lostByTeeth : yX9_lostByTeeth.cls ≠ "java/lang/invoke/MethodHandle" ∧ yX9_lostByTeeth.cls ≠ "java/lang/invoke/VarHandle" ∧ (parseMethodDescriptor yX9_lostByTeeth.desc).map (fun d => d.parameters.length) = some 1 := by decide +kernel
set_option maxRecDepth 100000 in
theorem vw_X9_148 : zVW RX9 148 yX9_lostByTeeth cX9_lostByTeeth 3 (some .int) 1 := ⟨mc_X9_lostByTeeth, zGt_4 173 rfl rfl, mi_X9_lostByTeeth, ml_X9_lostByTeeth, ni_X9, my_X9_lostByTeeth⟩
set_option maxRecDepth 100000 in
theorem mc_X9_tenths : Cond.code yX9_tenths cX9_tenths 2 (some .int) ∈ zGW := zGt_4 187 rfl rfl
set_option maxRecDepth 100000 in
theorem mi_X9_tenths : Cond.instanceMethod yX9_tenths ∈ zGW := zGt_4 186 rfl rfl
theorem ml_X9_tenths : Cond.selects yX9_tenths.cls yX9_tenths yX9_tenths ∈ zGW := zGW_in 23 (by decide +kernel) (by decide +kernel)
theorem my_X9_tenths : yX9_tenths.cls ≠ "java/lang/invoke/MethodHandle" ∧ yX9_tenths.cls ≠ "java/lang/invoke/VarHandle" ∧ (parseMethodDescriptor yX9_tenths.desc).map (fun d => d.parameters.length) = some 1 := by decide +kernel
set_option maxRecDepth 100000 in
theorem vw_X9_163 : zVW RX9 163 yX9_tenths cX9_tenths 2 (some .int) 1 := ⟨mc_X9_tenths, zGt_4 184 rfl rfl, mi_X9_tenths, ml_X9_tenths, ni_X9, my_X9_tenths⟩
set_option maxRecDepth 100000 in
theorem mc_X9_goTeeth : Cond.code yX9_goTeeth cX9_goTeeth 3 none ∈ zGW := zGt_4 172 rfl rfl
set_option maxRecDepth 100000 in
theorem mi_X9_goTeeth : Cond.instanceMethod yX9_goTeeth ∈ zGW := zGt_4 171 rfl rfl
theorem ml_X9_goTeeth : Cond.selects yX9_goTeeth.cls yX9_goTeeth yX9_goTeeth ∈ zGW := zGW_in 20 (by decide +kernel) (by decide +kernel)
theorem my_X9_goTeeth : yX9_goTeeth.cls ≠ "java/lang/invoke/MethodHandle" ∧ yX9_goTeeth.cls ≠ "java/lang/invoke/VarHandle" ∧ (parseMethodDescriptor yX9_goTeeth.desc).map (fun d => d.parameters.length) = some 1 := by decide +kernel
set_option maxRecDepth 100000 in
theorem vw_X9_178 : zVW RX9 178 yX9_goTeeth cX9_goTeeth 3 none 1 := ⟨mc_X9_goTeeth, zGt_4 169 rfl rfl, mi_X9_goTeeth, ml_X9_goTeeth, ni_X9, my_X9_goTeeth⟩
set_option maxRecDepth 100000 in
theorem mc_X9_goWhirl : Cond.code yX9_goWhirl cX9_goWhirl 4 none ∈ zGW := zGt_4 180 rfl rfl
set_option maxRecDepth 100000 in
theorem mi_X9_goWhirl : Cond.instanceMethod yX9_goWhirl ∈ zGW := zGt_4 179 rfl rfl
theorem ml_X9_goWhirl : Cond.selects yX9_goWhirl.cls yX9_goWhirl yX9_goWhirl ∈ zGW := zGW_in 22 (by decide +kernel) (by decide +kernel)
theorem my_X9_goWhirl : yX9_goWhirl.cls ≠ "java/lang/invoke/MethodHandle" ∧ yX9_goWhirl.cls ≠ "java/lang/invoke/VarHandle" ∧ (parseMethodDescriptor yX9_goWhirl.desc).map (fun d => d.parameters.length) = some 2 := by decide +kernel
set_option maxRecDepth 100000 in
theorem vw_X9_182 : zVW RX9 182 yX9_goWhirl cX9_goWhirl 4 none 2 := ⟨mc_X9_goWhirl, zGt_4 177 rfl rfl, mi_X9_goWhirl, ml_X9_goWhirl, ni_X9, my_X9_goWhirl⟩
set_option maxRecDepth 100000 in
theorem mc_X9_goCape : Cond.code yX9_goCape cX9_goCape 2 none ∈ zGW := zGt_4 191 rfl rfl
set_option maxRecDepth 100000 in
theorem mi_X9_goCape : Cond.instanceMethod yX9_goCape ∈ zGW := zGt_4 190 rfl rfl
theorem ml_X9_goCape : Cond.selects yX9_goCape.cls yX9_goCape yX9_goCape ∈ zGW := zGW_in 24 (by decide +kernel) (by decide +kernel)
theorem my_X9_goCape : yX9_goCape.cls ≠ "java/lang/invoke/MethodHandle" ∧ yX9_goCape.cls ≠ "java/lang/invoke/VarHandle" ∧ (parseMethodDescriptor yX9_goCape.desc).map (fun d => d.parameters.length) = some 1 := by decide +kernel
set_option maxRecDepth 100000 in
theorem vw_X9_186 : zVW RX9 186 yX9_goCape cX9_goCape 2 none 1 := ⟨mc_X9_goCape, zGt_4 188 rfl rfl, mi_X9_goCape, ml_X9_goCape, ni_X9, my_X9_goCape⟩
set_option maxRecDepth 100000 in
theorem mc_X9_order : Cond.code yX9_order cX9_order 4 none ∈ zGW := zGt_4 168 rfl rfl
set_option maxRecDepth 100000 in
theorem mi_X9_order : Cond.instanceMethod yX9_order ∈ zGW := zGt_4 167 rfl rfl
theorem ml_X9_order : Cond.selects yX9_order.cls yX9_order yX9_order ∈ zGW := zGW_in 19 (by decide +kernel) (by decide +kernel)
theorem my_X9_order : yX9_order.cls ≠ "java/lang/invoke/MethodHandle" ∧ yX9_order.cls ≠ "java/lang/invoke/VarHandle" ∧ (parseMethodDescriptor yX9_order.desc).map (fun d => d.parameters.length) = some 3 := by decide +kernel
set_option maxRecDepth 100000 in
theorem vw_X9_189 : zVW RX9 189 yX9_order cX9_order 4 none 3 := ⟨mc_X9_order, zGt_4 165 rfl rfl, mi_X9_order, ml_X9_order, ni_X9, my_X9_order⟩
set_option maxRecDepth 100000 in
theorem mc_X9_keepNow : Cond.code yX9_keepNow cX9_keepNow 2 none ∈ zGW := zGt_4 160 rfl rfl
set_option maxRecDepth 100000 in
theorem mi_X9_keepNow : Cond.instanceMethod yX9_keepNow ∈ zGW := zGt_4 159 rfl rfl
theorem ml_X9_keepNow : Cond.selects yX9_keepNow.cls yX9_keepNow yX9_keepNow ∈ zGW := zGW_in 17 (by decide +kernel) (by decide +kernel)
theorem my_X9_keepNow : yX9_keepNow.cls ≠ "java/lang/invoke/MethodHandle" ∧ yX9_keepNow.cls ≠ "java/lang/invoke/VarHandle" ∧ (parseMethodDescriptor yX9_keepNow.desc).map (fun d => d.parameters.length) = some 0 := by decide +kernel
set_option maxRecDepth 100000 in
theorem vw_X9_193 : zVW RX9 193 yX9_keepNow cX9_keepNow 2 none 0 := ⟨mc_X9_keepNow, zGt_4 157 rfl rfl, mi_X9_keepNow, ml_X9_keepNow, ni_X9, my_X9_keepNow⟩
set_option maxRecDepth 100000 in
theorem mc_X9_goSeason : Cond.code yX9_goSeason cX9_goSeason 3 none ∈ zGW := zGt_4 164 rfl rfl
set_option maxRecDepth 100000 in
theorem mi_X9_goSeason : Cond.instanceMethod yX9_goSeason ∈ zGW := zGt_4 163 rfl rfl
theorem ml_X9_goSeason : Cond.selects yX9_goSeason.cls yX9_goSeason yX9_goSeason ∈ zGW := zGW_in 18 (by decide +kernel) (by decide +kernel)
theorem my_X9_goSeason : yX9_goSeason.cls ≠ "java/lang/invoke/MethodHandle" ∧ yX9_goSeason.cls ≠ "java/lang/invoke/VarHandle" ∧ (parseMethodDescriptor yX9_goSeason.desc).map (fun d => d.parameters.length) = some 0 := by decide +kernel
set_option maxRecDepth 100000 in
theorem vw_X9_196 : zVW RX9 196 yX9_goSeason cX9_goSeason 3 none 0 := ⟨mc_X9_goSeason, zGt_4 161 rfl rfl, mi_X9_goSeason, ml_X9_goSeason, ni_X9, my_X9_goSeason⟩
set_option maxRecDepth 100000 in
theorem mc_X9_putBack : Cond.code yX9_putBack cX9_putBack 2 none ∈ zGW := zGt_4 195 rfl rfl
set_option maxRecDepth 100000 in
theorem mi_X9_putBack : Cond.instanceMethod yX9_putBack ∈ zGW := zGt_4 194 rfl rfl
theorem ml_X9_putBack : Cond.selects yX9_putBack.cls yX9_putBack yX9_putBack ∈ zGW := zGW_in 25 (by decide +kernel) (by decide +kernel)
theorem my_X9_putBack : yX9_putBack.cls ≠ "java/lang/invoke/MethodHandle" ∧ yX9_putBack.cls ≠ "java/lang/invoke/VarHandle" ∧ (parseMethodDescriptor yX9_putBack.desc).map (fun d => d.parameters.length) = some 0 := by decide +kernel
set_option maxRecDepth 100000 in
theorem vw_X9_199 : zVW RX9 199 yX9_putBack cX9_putBack 2 none 0 := ⟨mc_X9_putBack, zGt_4 192 rfl rfl, mi_X9_putBack, ml_X9_putBack, ni_X9, my_X9_putBack⟩
set_option maxRecDepth 100000 in
theorem mc_X9_stateOf : Cond.code yX9_stateOf cX9_stateOf 3 (some .int) ∈ zGW := zGt_4 204 rfl rfl
set_option maxRecDepth 100000 in
theorem mi_X9_stateOf : Cond.instanceMethod yX9_stateOf ∈ zGW := zGt_4 203 rfl rfl
theorem ml_X9_stateOf : Cond.selects yX9_stateOf.cls yX9_stateOf yX9_stateOf ∈ zGW := zGW_in 26 (by decide +kernel) (by decide +kernel)
theorem my_X9_stateOf : yX9_stateOf.cls ≠ "java/lang/invoke/MethodHandle" ∧ yX9_stateOf.cls ≠ "java/lang/invoke/VarHandle" ∧ (parseMethodDescriptor yX9_stateOf.desc).map (fun d => d.parameters.length) = some 2 := by decide +kernel
set_option maxRecDepth 100000 in
theorem vw_X9_202 : zVW RX9 202 yX9_stateOf cX9_stateOf 3 (some .int) 2 := ⟨mc_X9_stateOf, zGt_4 201 rfl rfl, mi_X9_stateOf, ml_X9_stateOf, ni_X9, my_X9_stateOf⟩
set_option maxRecDepth 100000 in
theorem mc_X9_teethTake : Cond.code yX9_teethTake cX9_teethTake 3 (some .int) ∈ zGW := zGt_4 234 rfl rfl
set_option maxRecDepth 100000 in
theorem mi_X9_teethTake : Cond.instanceMethod yX9_teethTake ∈ zGW := zGt_4 233 rfl rfl
theorem ml_X9_teethTake : Cond.selects yX9_teethTake.cls yX9_teethTake yX9_teethTake ∈ zGW := zGW_in 28 (by decide +kernel) (by decide +kernel)
theorem my_X9_teethTake : yX9_teethTake.cls ≠ "java/lang/invoke/MethodHandle" ∧ yX9_teethTake.cls ≠ "java/lang/invoke/VarHandle" ∧ (parseMethodDescriptor yX9_teethTake.desc).map (fun d => d.parameters.length) = some 1 := by decide +kernel
set_option maxRecDepth 100000 in
theorem vw_X9_206 : zVW RX9 206 yX9_teethTake cX9_teethTake 3 (some .int) 1 := ⟨mc_X9_teethTake, zGt_4 231 rfl rfl, mi_X9_teethTake, ml_X9_teethTake, ni_X9, my_X9_teethTake⟩
set_option maxRecDepth 100000 in
theorem mc_X9_allOf : Cond.code yX9_allOf cX9_allOf 2 (some .int) ∈ zGW := zGt_4 238 rfl rfl
set_option maxRecDepth 100000 in
theorem mi_X9_allOf : Cond.instanceMethod yX9_allOf ∈ zGW := zGt_4 237 rfl rfl
theorem ml_X9_allOf : Cond.selects yX9_allOf.cls yX9_allOf yX9_allOf ∈ zGW := zGW_in 29 (by decide +kernel) (by decide +kernel)
theorem my_X9_allOf : yX9_allOf.cls ≠ "java/lang/invoke/MethodHandle" ∧ yX9_allOf.cls ≠ "java/lang/invoke/VarHandle" ∧ (parseMethodDescriptor yX9_allOf.desc).map (fun d => d.parameters.length) = some 1 := by decide +kernel
set_option maxRecDepth 100000 in
theorem vw_X9_209 : zVW RX9 209 yX9_allOf cX9_allOf 2 (some .int) 1 := ⟨mc_X9_allOf, zGt_4 235 rfl rfl, mi_X9_allOf, ml_X9_allOf, ni_X9, my_X9_allOf⟩
set_option maxRecDepth 100000 in
theorem mc_X9_meanOf : Cond.code yX9_meanOf cX9_meanOf 4 (some .int) ∈ zGW := zGt_4 230 rfl rfl
set_option maxRecDepth 100000 in
theorem mi_X9_meanOf : Cond.instanceMethod yX9_meanOf ∈ zGW := zGt_4 229 rfl rfl
theorem ml_X9_meanOf : Cond.selects yX9_meanOf.cls yX9_meanOf yX9_meanOf ∈ zGW := zGW_in 27 (by decide +kernel) (by decide +kernel)
theorem my_X9_meanOf : yX9_meanOf.cls ≠ "java/lang/invoke/MethodHandle" ∧ yX9_meanOf.cls ≠ "java/lang/invoke/VarHandle" ∧ (parseMethodDescriptor yX9_meanOf.desc).map (fun d => d.parameters.length) = some 3 := by decide +kernel
set_option maxRecDepth 100000 in
theorem vw_X9_212 : zVW RX9 212 yX9_meanOf cX9_meanOf 4 (some .int) 3 := ⟨mc_X9_meanOf, zGt_4 227 rfl rfl, mi_X9_meanOf, ml_X9_meanOf, ni_X9, my_X9_meanOf⟩
set_option maxRecDepth 100000 in
theorem mc_X9_worstOf : Cond.code yX9_worstOf cX9_worstOf 4 (some .int) ∈ zGW := zGt_5 6 rfl rfl
set_option maxRecDepth 100000 in
theorem mi_X9_worstOf : Cond.instanceMethod yX9_worstOf ∈ zGW := zGt_5 5 rfl rfl
theorem ml_X9_worstOf : Cond.selects yX9_worstOf.cls yX9_worstOf yX9_worstOf ∈ zGW := zGW_in 30 (by decide +kernel) (by decide +kernel)
theorem my_X9_worstOf : yX9_worstOf.cls ≠ "java/lang/invoke/MethodHandle" ∧ yX9_worstOf.cls ≠ "java/lang/invoke/VarHandle" ∧ (parseMethodDescriptor yX9_worstOf.desc).map (fun d => d.parameters.length) = some 3 := by decide +kernel
set_option maxRecDepth 100000 in
theorem vw_X9_222 : zVW RX9 222 yX9_worstOf cX9_worstOf 4 (some .int) 3 := ⟨mc_X9_worstOf, zGt_5 3 rfl rfl, mi_X9_worstOf, ml_X9_worstOf, ni_X9, my_X9_worstOf⟩
set_option maxRecDepth 100000 in
theorem mc_X9_choiceOf : Cond.code yX9_choiceOf cX9_choiceOf 5 (some .int) ∈ zGW := zGt_5 14 rfl rfl
set_option maxRecDepth 100000 in
theorem mi_X9_choiceOf : Cond.instanceMethod yX9_choiceOf ∈ zGW := zGt_5 13 rfl rfl
theorem ml_X9_choiceOf : Cond.selects yX9_choiceOf.cls yX9_choiceOf yX9_choiceOf ∈ zGW := zGW_in 31 (by decide +kernel) (by decide +kernel)
theorem my_X9_choiceOf : yX9_choiceOf.cls ≠ "java/lang/invoke/MethodHandle" ∧ yX9_choiceOf.cls ≠ "java/lang/invoke/VarHandle" ∧ (parseMethodDescriptor yX9_choiceOf.desc).map (fun d => d.parameters.length) = some 2 := by decide +kernel
set_option maxRecDepth 100000 in
theorem vw_X9_225 : zVW RX9 225 yX9_choiceOf cX9_choiceOf 5 (some .int) 2 := ⟨mc_X9_choiceOf, zGt_5 11 rfl rfl, mi_X9_choiceOf, ml_X9_choiceOf, ni_X9, my_X9_choiceOf⟩
set_option maxRecDepth 100000 in
theorem mc_X9_isInHarbour : Cond.code yX9_isInHarbour cX9_isInHarbour 2 (some .boolean) ∈ zGW := zGt_5 28 rfl rfl
set_option maxRecDepth 100000 in
theorem mi_X9_isInHarbour : Cond.instanceMethod yX9_isInHarbour ∈ zGW := zGt_5 27 rfl rfl
theorem ml_X9_isInHarbour : Cond.selects yX9_isInHarbour.cls yX9_isInHarbour yX9_isInHarbour ∈ zGW := zGW_in 32 (by decide +kernel) (by decide +kernel)
theorem my_X9_isInHarbour : yX9_isInHarbour.cls ≠ "java/lang/invoke/MethodHandle" ∧ yX9_isInHarbour.cls ≠ "java/lang/invoke/VarHandle" ∧ (parseMethodDescriptor yX9_isInHarbour.desc).map (fun d => d.parameters.length) = some 1 := by decide +kernel
set_option maxRecDepth 100000 in
theorem vw_X9_234 : zVW RX9 234 yX9_isInHarbour cX9_isInHarbour 2 (some .boolean) 1 := ⟨mc_X9_isInHarbour, zGt_5 25 rfl rfl, mi_X9_isInHarbour, ml_X9_isInHarbour, ni_X9, my_X9_isInHarbour⟩
set_option maxRecDepth 100000 in
theorem mc_X9_layFleet : Cond.code yX9_layFleet cX9_layFleet 5 none ∈ zGW := zGt_5 33 rfl rfl
set_option maxRecDepth 100000 in
theorem mi_X9_layFleet : Cond.instanceMethod yX9_layFleet ∈ zGW := zGt_5 32 rfl rfl
theorem ml_X9_layFleet : Cond.selects yX9_layFleet.cls yX9_layFleet yX9_layFleet ∈ zGW := zGW_in 33 (by decide +kernel) (by decide +kernel)
theorem my_X9_layFleet : yX9_layFleet.cls ≠ "java/lang/invoke/MethodHandle" ∧ yX9_layFleet.cls ≠ "java/lang/invoke/VarHandle" ∧ (parseMethodDescriptor yX9_layFleet.desc).map (fun d => d.parameters.length) = some 1 := by decide +kernel
set_option maxRecDepth 100000 in
theorem vw_X9_239 : zVW RX9 239 yX9_layFleet cX9_layFleet 5 none 1 := ⟨mc_X9_layFleet, zGt_5 30 rfl rfl, mi_X9_layFleet, ml_X9_layFleet, ni_X9, my_X9_layFleet⟩
set_option maxRecDepth 100000 in
theorem mc_X9_behindIt : Cond.code yX9_behindIt cX9_behindIt 4 (some .int) ∈ zGW := zGt_5 37 rfl rfl
set_option maxRecDepth 100000 in
theorem mi_X9_behindIt : Cond.instanceMethod yX9_behindIt ∈ zGW := zGt_5 36 rfl rfl
theorem ml_X9_behindIt : Cond.selects yX9_behindIt.cls yX9_behindIt yX9_behindIt ∈ zGW := zGW_in 34 (by decide +kernel) (by decide +kernel)
theorem my_X9_behindIt : yX9_behindIt.cls ≠ "java/lang/invoke/MethodHandle" ∧ yX9_behindIt.cls ≠ "java/lang/invoke/VarHandle" ∧ (parseMethodDescriptor yX9_behindIt.desc).map (fun d => d.parameters.length) = some 1 := by decide +kernel
set_option maxRecDepth 100000 in
theorem vw_X9_242 : zVW RX9 242 yX9_behindIt cX9_behindIt 4 (some .int) 1 := ⟨mc_X9_behindIt, zGt_5 34 rfl rfl, mi_X9_behindIt, ml_X9_behindIt, ni_X9, my_X9_behindIt⟩
set_option maxRecDepth 100000 in
theorem mc_X9_isOnLine : Cond.code yX9_isOnLine cX9_isOnLine 6 (some .boolean) ∈ zGW := zGt_5 45 rfl rfl
set_option maxRecDepth 100000 in
theorem mi_X9_isOnLine : Cond.instanceMethod yX9_isOnLine ∈ zGW := zGt_5 44 rfl rfl
theorem ml_X9_isOnLine : Cond.selects yX9_isOnLine.cls yX9_isOnLine yX9_isOnLine ∈ zGW := zGW_in 35 (by decide +kernel) (by decide +kernel)
theorem my_X9_isOnLine : yX9_isOnLine.cls ≠ "java/lang/invoke/MethodHandle" ∧ yX9_isOnLine.cls ≠ "java/lang/invoke/VarHandle" ∧ (parseMethodDescriptor yX9_isOnLine.desc).map (fun d => d.parameters.length) = some 1 := by decide +kernel
set_option maxRecDepth 100000 in
theorem vw_X9_245 : zVW RX9 245 yX9_isOnLine cX9_isOnLine 6 (some .boolean) 1 := ⟨mc_X9_isOnLine, zGt_5 42 rfl rfl, mi_X9_isOnLine, ml_X9_isOnLine, ni_X9, my_X9_isOnLine⟩
set_option maxRecDepth 100000 in
theorem mc_X9_lessThan : Cond.code yX9_lessThan cX9_lessThan 4 (some .int) ∈ zGW := zGt_5 49 rfl rfl
set_option maxRecDepth 100000 in
theorem mi_X9_lessThan : Cond.instanceMethod yX9_lessThan ∈ zGW := zGt_5 48 rfl rfl
theorem ml_X9_lessThan : Cond.selects yX9_lessThan.cls yX9_lessThan yX9_lessThan ∈ zGW := zGW_in 36 (by decide +kernel) (by decide +kernel)
theorem my_X9_lessThan : yX9_lessThan.cls ≠ "java/lang/invoke/MethodHandle" ∧ yX9_lessThan.cls ≠ "java/lang/invoke/VarHandle" ∧ (parseMethodDescriptor yX9_lessThan.desc).map (fun d => d.parameters.length) = some 1 := by decide +kernel
set_option maxRecDepth 100000 in
theorem vw_X9_248 : zVW RX9 248 yX9_lessThan cX9_lessThan 4 (some .int) 1 := ⟨mc_X9_lessThan, zGt_5 46 rfl rfl, mi_X9_lessThan, ml_X9_lessThan, ni_X9, my_X9_lessThan⟩
set_option maxRecDepth 100000 in
theorem mc_X9_gets : Cond.code yX9_gets cX9_gets 7 (some .int) ∈ zGW := zGt_5 65 rfl rfl
set_option maxRecDepth 100000 in
theorem mi_X9_gets : Cond.instanceMethod yX9_gets ∈ zGW := zGt_5 64 rfl rfl
theorem ml_X9_gets : Cond.selects yX9_gets.cls yX9_gets yX9_gets ∈ zGW := zGW_in 38 (by decide +kernel) (by decide +kernel)
theorem my_X9_gets : yX9_gets.cls ≠ "java/lang/invoke/MethodHandle" ∧ yX9_gets.cls ≠ "java/lang/invoke/VarHandle" ∧ (parseMethodDescriptor yX9_gets.desc).map (fun d => d.parameters.length) = some 4 := by decide +kernel
set_option maxRecDepth 100000 in
theorem vw_X9_251 : zVW RX9 251 yX9_gets cX9_gets 7 (some .int) 4 := ⟨mc_X9_gets, zGt_5 62 rfl rfl, mi_X9_gets, ml_X9_gets, ni_X9, my_X9_gets⟩
set_option maxRecDepth 100000 in
theorem mc_X9_captainBy : Cond.code yX9_captainBy cX9_captainBy 6 (some .int) ∈ zGW := zGt_5 61 rfl rfl
set_option maxRecDepth 100000 in
theorem mi_X9_captainBy : Cond.instanceMethod yX9_captainBy ∈ zGW := zGt_5 60 rfl rfl
theorem ml_X9_captainBy : Cond.selects yX9_captainBy.cls yX9_captainBy yX9_captainBy ∈ zGW := zGW_in 37 (by decide +kernel) (by decide +kernel)
theorem my_X9_captainBy : yX9_captainBy.cls ≠ "java/lang/invoke/MethodHandle" ∧ yX9_captainBy.cls ≠ "java/lang/invoke/VarHandle" ∧ (parseMethodDescriptor yX9_captainBy.desc).map (fun d => d.parameters.length) = some 3 := by decide +kernel
set_option maxRecDepth 100000 in
theorem vw_X9_255 : zVW RX9 255 yX9_captainBy cX9_captainBy 6 (some .int) 3 := ⟨mc_X9_captainBy, zGt_5 58 rfl rfl, mi_X9_captainBy, ml_X9_captainBy, ni_X9, my_X9_captainBy⟩
set_option maxRecDepth 100000 in
theorem mc_X9_got : Cond.code yX9_got cX9_got 4 (some .int) ∈ zGW := zGt_5 87 rfl rfl
set_option maxRecDepth 100000 in
theorem mi_X9_got : Cond.instanceMethod yX9_got ∈ zGW := zGt_5 86 rfl rfl
theorem ml_X9_got : Cond.selects yX9_got.cls yX9_got yX9_got ∈ zGW := zGW_in 39 (by decide +kernel) (by decide +kernel)
theorem my_X9_got : yX9_got.cls ≠ "java/lang/invoke/MethodHandle" ∧ yX9_got.cls ≠ "java/lang/invoke/VarHandle" ∧ (parseMethodDescriptor yX9_got.desc).map (fun d => d.parameters.length) = some 1 := by decide +kernel
set_option maxRecDepth 100000 in
theorem vw_X9_265 : zVW RX9 265 yX9_got cX9_got 4 (some .int) 1 := ⟨mc_X9_got, zGt_5 84 rfl rfl, mi_X9_got, ml_X9_got, ni_X9, my_X9_got⟩
set_option maxRecDepth 100000 in
theorem mc_X9_premiums : Cond.code yX9_premiums cX9_premiums 4 (some .int) ∈ zGW := zGt_5 91 rfl rfl
set_option maxRecDepth 100000 in
theorem mi_X9_premiums : Cond.instanceMethod yX9_premiums ∈ zGW := zGt_5 90 rfl rfl
theorem ml_X9_premiums : Cond.selects yX9_premiums.cls yX9_premiums yX9_premiums ∈ zGW := zGW_in 40 (by decide +kernel) (by decide +kernel)
theorem my_X9_premiums : yX9_premiums.cls ≠ "java/lang/invoke/MethodHandle" ∧ yX9_premiums.cls ≠ "java/lang/invoke/VarHandle" ∧ (parseMethodDescriptor yX9_premiums.desc).map (fun d => d.parameters.length) = some 1 := by decide +kernel
set_option maxRecDepth 100000 in
theorem vw_X9_268 : zVW RX9 268 yX9_premiums cX9_premiums 4 (some .int) 1 := ⟨mc_X9_premiums, zGt_5 88 rfl rfl, mi_X9_premiums, ml_X9_premiums, ni_X9, my_X9_premiums⟩
set_option maxRecDepth 100000 in
theorem mc_X9_isAboard : Cond.code yX9_isAboard cX9_isAboard 2 (some .boolean) ∈ zGW := zGt_5 104 rfl rfl
set_option maxRecDepth 100000 in
theorem mi_X9_isAboard : Cond.instanceMethod yX9_isAboard ∈ zGW := zGt_5 103 rfl rfl
theorem ml_X9_isAboard : Cond.selects yX9_isAboard.cls yX9_isAboard yX9_isAboard ∈ zGW := zGW_in 41 (by decide +kernel) (by decide +kernel)
theorem my_X9_isAboard : yX9_isAboard.cls ≠ "java/lang/invoke/MethodHandle" ∧ yX9_isAboard.cls ≠ "java/lang/invoke/VarHandle" ∧ (parseMethodDescriptor yX9_isAboard.desc).map (fun d => d.parameters.length) = some 1 := by decide +kernel
set_option maxRecDepth 100000 in
theorem vw_X9_275 : zVW RX9 275 yX9_isAboard cX9_isAboard 2 (some .boolean) 1 := ⟨mc_X9_isAboard, zGt_5 101 rfl rfl, mi_X9_isAboard, ml_X9_isAboard, ni_X9, my_X9_isAboard⟩
set_option maxRecDepth 100000 in
theorem mc_X9_pass : Cond.code yX9_pass cX9_pass 3 (some .int) ∈ zGW := zGt_5 162 rfl rfl
set_option maxRecDepth 100000 in
theorem mi_X9_pass : Cond.instanceMethod yX9_pass ∈ zGW := zGt_5 161 rfl rfl
theorem ml_X9_pass : Cond.selects yX9_pass.cls yX9_pass yX9_pass ∈ zGW := zGW_in 44 (by decide +kernel) (by decide +kernel)
theorem my_X9_pass : yX9_pass.cls ≠ "java/lang/invoke/MethodHandle" ∧ yX9_pass.cls ≠ "java/lang/invoke/VarHandle" ∧ (parseMethodDescriptor yX9_pass.desc).map (fun d => d.parameters.length) = some 1 := by decide +kernel
set_option maxRecDepth 100000 in
theorem vw_X9_309 : zVW RX9 309 yX9_pass cX9_pass 3 (some .int) 1 := ⟨mc_X9_pass, zGt_5 159 rfl rfl, mi_X9_pass, ml_X9_pass, ni_X9, my_X9_pass⟩
set_option maxRecDepth 100000 in
theorem mc_X9_passNumbers : Cond.code yX9_passNumbers cX9_passNumbers 1 none ∈ zGW := zGt_5 158 rfl rfl
set_option maxRecDepth 100000 in
theorem mi_X9_passNumbers : Cond.instanceMethod yX9_passNumbers ∈ zGW := zGt_5 157 rfl rfl
theorem ml_X9_passNumbers : Cond.selects yX9_passNumbers.cls yX9_passNumbers yX9_passNumbers ∈ zGW := zGW_in 43 (by decide +kernel) (by decide +kernel)
theorem my_X9_passNumbers : yX9_passNumbers.cls ≠ "java/lang/invoke/MethodHandle" ∧ yX9_passNumbers.cls ≠ "java/lang/invoke/VarHandle" ∧ (parseMethodDescriptor yX9_passNumbers.desc).map (fun d => d.parameters.length) = some 0 := by decide +kernel
set_option maxRecDepth 100000 in
theorem vw_X9_312 : zVW RX9 312 yX9_passNumbers cX9_passNumbers 1 none 0 := ⟨mc_X9_passNumbers, zGt_5 155 rfl rfl, mi_X9_passNumbers, ml_X9_passNumbers, ni_X9, my_X9_passNumbers⟩
set_option maxRecDepth 100000 in
theorem mc_X9_passAll : Cond.code yX9_passAll cX9_passAll 2 none ∈ zGW := zGt_5 154 rfl rfl
set_option maxRecDepth 100000 in
theorem mi_X9_passAll : Cond.instanceMethod yX9_passAll ∈ zGW := zGt_5 153 rfl rfl
theorem ml_X9_passAll : Cond.selects yX9_passAll.cls yX9_passAll yX9_passAll ∈ zGW := zGW_in 42 (by decide +kernel) (by decide +kernel)
theorem my_X9_passAll : yX9_passAll.cls ≠ "java/lang/invoke/MethodHandle" ∧ yX9_passAll.cls ≠ "java/lang/invoke/VarHandle" ∧ (parseMethodDescriptor yX9_passAll.desc).map (fun d => d.parameters.length) = some 0 := by decide +kernel
set_option maxRecDepth 100000 in
theorem vw_X9_315 : zVW RX9 315 yX9_passAll cX9_passAll 2 none 0 := ⟨mc_X9_passAll, zGt_5 151 rfl rfl, mi_X9_passAll, ml_X9_passAll, ni_X9, my_X9_passAll⟩
set_option maxRecDepth 100000 in
theorem mc_X9_toldMany : Cond.code yX9_toldMany cX9_toldMany 2 (some .int) ∈ zGW := zGt_5 179 rfl rfl
set_option maxRecDepth 100000 in
theorem mi_X9_toldMany : Cond.instanceMethod yX9_toldMany ∈ zGW := zGt_5 178 rfl rfl
theorem ml_X9_toldMany : Cond.selects yX9_toldMany.cls yX9_toldMany yX9_toldMany ∈ zGW := zGW_in 45 (by decide +kernel) (by decide +kernel)
theorem my_X9_toldMany : yX9_toldMany.cls ≠ "java/lang/invoke/MethodHandle" ∧ yX9_toldMany.cls ≠ "java/lang/invoke/VarHandle" ∧ (parseMethodDescriptor yX9_toldMany.desc).map (fun d => d.parameters.length) = some 1 := by decide +kernel
set_option maxRecDepth 100000 in
theorem vw_X9_328 : zVW RX9 328 yX9_toldMany cX9_toldMany 2 (some .int) 1 := ⟨mc_X9_toldMany, zGt_5 176 rfl rfl, mi_X9_toldMany, ml_X9_toldMany, ni_X9, my_X9_toldMany⟩
set_option maxRecDepth 100000 in
theorem mc_X8_within : Cond.code yX8_within cX8_within 3 (some .boolean) ∈ zGW := zGt_2 2 rfl rfl
set_option maxRecDepth 100000 in
theorem ms_X8_within : Cond.static yX8_within ∈ zGW := zGt_2 1 rfl rfl
theorem my_X8_within : yX8_within.cls ≠ "java/lang/invoke/MethodHandle" ∧ yX8_within.cls ≠ "java/lang/invoke/VarHandle" ∧ (parseMethodDescriptor yX8_within.desc).map (fun d => d.parameters.length) = some 3 := by decide +kernel
set_option maxRecDepth 100000 in
theorem sw_X8_47 : zSW RX8 47 yX8_within cX8_within 3 (some .boolean) 3 := ⟨mc_X8_within, zGt_2 0 rfl rfl, ms_X8_within, ni_X8, my_X8_within⟩
set_option maxRecDepth 100000 in
theorem mc_J6_bitCount_0f7a4 : Cond.code yJ6_bitCount_0f7a4 cJ6_bitCount_0f7a4 1 (some .int) ∈ zGW := zGt_2 5 rfl rfl
set_option maxRecDepth 100000 in
theorem ms_J6_bitCount_0f7a4 : Cond.static yJ6_bitCount_0f7a4 ∈ zGW := zGt_2 4 rfl rfl
theorem my_J6_bitCount_0f7a4 : yJ6_bitCount_0f7a4.cls ≠ "java/lang/invoke/MethodHandle" ∧ yJ6_bitCount_0f7a4.cls ≠ "java/lang/invoke/VarHandle" ∧ (parseMethodDescriptor yJ6_bitCount_0f7a4.desc).map (fun d => d.parameters.length) = some 1 := by decide +kernel
set_option maxRecDepth 100000 in
theorem ni_J6 : Cond.initialized "java/lang/Integer" ∈ zGW := zGt_1 11 rfl rfl
set_option maxRecDepth 100000 in
theorem sw_X8_73 : zSW RX8 73 yJ6_bitCount_0f7a4 cJ6_bitCount_0f7a4 1 (some .int) 1 := ⟨mc_J6_bitCount_0f7a4, zGt_2 3 rfl rfl, ms_J6_bitCount_0f7a4, ni_J6, my_J6_bitCount_0f7a4⟩
set_option maxRecDepth 100000 in
theorem mc_X8_isHour : Cond.code yX8_isHour cX8_isHour 1 (some .boolean) ∈ zGW := zGt_2 168 rfl rfl
set_option maxRecDepth 100000 in
theorem ms_X8_isHour : Cond.static yX8_isHour ∈ zGW := zGt_2 167 rfl rfl
theorem my_X8_isHour : yX8_isHour.cls ≠ "java/lang/invoke/MethodHandle" ∧ yX8_isHour.cls ≠ "java/lang/invoke/VarHandle" ∧ (parseMethodDescriptor yX8_isHour.desc).map (fun d => d.parameters.length) = some 1 := by decide +kernel
set_option maxRecDepth 100000 in
theorem sw_X8_145 : zSW RX8 145 yX8_isHour cX8_isHour 1 (some .boolean) 1 := ⟨mc_X8_isHour, zGt_2 166 rfl rfl, ms_X8_isHour, ni_X8, my_X8_isHour⟩
set_option maxRecDepth 100000 in
theorem mc_X8_partOf : Cond.code yX8_partOf cX8_partOf 7 (some .long) ∈ zGW := zGt_3 118 rfl rfl
set_option maxRecDepth 100000 in
theorem ms_X8_partOf : Cond.static yX8_partOf ∈ zGW := zGt_3 117 rfl rfl
theorem my_X8_partOf : yX8_partOf.cls ≠ "java/lang/invoke/MethodHandle" ∧ yX8_partOf.cls ≠ "java/lang/invoke/VarHandle" ∧ (parseMethodDescriptor yX8_partOf.desc).map (fun d => d.parameters.length) = some 3 := by decide +kernel
set_option maxRecDepth 100000 in
theorem sw_X8_246 : zSW RX8 246 yX8_partOf cX8_partOf 7 (some .long) 3 := ⟨mc_X8_partOf, zGt_3 116 rfl rfl, ms_X8_partOf, ni_X8, my_X8_partOf⟩
set_option maxRecDepth 100000 in
theorem mc_X8_ways : Cond.code yX8_ways cX8_ways 5 (some .long) ∈ zGW := zGt_3 128 rfl rfl
set_option maxRecDepth 100000 in
theorem ms_X8_ways : Cond.static yX8_ways ∈ zGW := zGt_3 127 rfl rfl
theorem my_X8_ways : yX8_ways.cls ≠ "java/lang/invoke/MethodHandle" ∧ yX8_ways.cls ≠ "java/lang/invoke/VarHandle" ∧ (parseMethodDescriptor yX8_ways.desc).map (fun d => d.parameters.length) = some 2 := by decide +kernel
set_option maxRecDepth 100000 in
theorem sw_X8_250 : zSW RX8 250 yX8_ways cX8_ways 5 (some .long) 2 := ⟨mc_X8_ways, zGt_3 126 rfl rfl, ms_X8_ways, ni_X8, my_X8_ways⟩
set_option maxRecDepth 100000 in
theorem mc_X8_power : Cond.code yX8_power cX8_power 5 (some .long) ∈ zGW := zGt_3 131 rfl rfl
set_option maxRecDepth 100000 in
theorem ms_X8_power : Cond.static yX8_power ∈ zGW := zGt_3 130 rfl rfl
theorem my_X8_power : yX8_power.cls ≠ "java/lang/invoke/MethodHandle" ∧ yX8_power.cls ≠ "java/lang/invoke/VarHandle" ∧ (parseMethodDescriptor yX8_power.desc).map (fun d => d.parameters.length) = some 2 := by decide +kernel
set_option maxRecDepth 100000 in
theorem sw_X8_254 : zSW RX8 254 yX8_power cX8_power 5 (some .long) 2 := ⟨mc_X8_power, zGt_3 129 rfl rfl, ms_X8_power, ni_X8, my_X8_power⟩
set_option maxRecDepth 100000 in
theorem mc_X8_drawAfter : Cond.code yX8_drawAfter cX8_drawAfter 1 (some .int) ∈ zGW := zGt_2 127 rfl rfl
set_option maxRecDepth 100000 in
theorem ms_X8_drawAfter : Cond.static yX8_drawAfter ∈ zGW := zGt_2 126 rfl rfl
theorem my_X8_drawAfter : yX8_drawAfter.cls ≠ "java/lang/invoke/MethodHandle" ∧ yX8_drawAfter.cls ≠ "java/lang/invoke/VarHandle" ∧ (parseMethodDescriptor yX8_drawAfter.desc).map (fun d => d.parameters.length) = some 1 := by decide +kernel
set_option maxRecDepth 100000 in
theorem sw_X8_277 : zSW RX8 277 yX8_drawAfter cX8_drawAfter 1 (some .int) 1 := ⟨mc_X8_drawAfter, zGt_3 161 rfl rfl, ms_X8_drawAfter, ni_X8, my_X8_drawAfter⟩
set_option maxRecDepth 100000 in
theorem mc_X8_commonDivisor : Cond.code yX8_commonDivisor cX8_commonDivisor 11 (some .long) ∈ zGW := zGt_3 121 rfl rfl
set_option maxRecDepth 100000 in
theorem ms_X8_commonDivisor : Cond.static yX8_commonDivisor ∈ zGW := zGt_3 120 rfl rfl
theorem my_X8_commonDivisor : yX8_commonDivisor.cls ≠ "java/lang/invoke/MethodHandle" ∧ yX8_commonDivisor.cls ≠ "java/lang/invoke/VarHandle" ∧ (parseMethodDescriptor yX8_commonDivisor.desc).map (fun d => d.parameters.length) = some 2 := by decide +kernel
set_option maxRecDepth 100000 in
theorem sw_X8_288 : zSW RX8 288 yX8_commonDivisor cX8_commonDivisor 11 (some .long) 2 := ⟨mc_X8_commonDivisor, zGt_3 119 rfl rfl, ms_X8_commonDivisor, ni_X8, my_X8_commonDivisor⟩
set_option maxRecDepth 100000 in
theorem mc_X2_worstIn : Cond.code yX2_worstIn cX2_worstIn 2 (some .int) ∈ zGW := zGt_2 234 rfl rfl
set_option maxRecDepth 100000 in
theorem ms_X2_worstIn : Cond.static yX2_worstIn ∈ zGW := zGt_2 233 rfl rfl
theorem my_X2_worstIn : yX2_worstIn.cls ≠ "java/lang/invoke/MethodHandle" ∧ yX2_worstIn.cls ≠ "java/lang/invoke/VarHandle" ∧ (parseMethodDescriptor yX2_worstIn.desc).map (fun d => d.parameters.length) = some 1 := by decide +kernel
set_option maxRecDepth 100000 in
theorem sw_X2_48 : zSW RX2 48 yX2_worstIn cX2_worstIn 2 (some .int) 1 := ⟨mc_X2_worstIn, zGt_2 232 rfl rfl, ms_X2_worstIn, ni_X2, my_X2_worstIn⟩
set_option maxRecDepth 100000 in
theorem mc_X2_meanIn : Cond.code yX2_meanIn cX2_meanIn 2 (some .int) ∈ zGW := zGt_2 237 rfl rfl
set_option maxRecDepth 100000 in
theorem ms_X2_meanIn : Cond.static yX2_meanIn ∈ zGW := zGt_2 236 rfl rfl
theorem my_X2_meanIn : yX2_meanIn.cls ≠ "java/lang/invoke/MethodHandle" ∧ yX2_meanIn.cls ≠ "java/lang/invoke/VarHandle" ∧ (parseMethodDescriptor yX2_meanIn.desc).map (fun d => d.parameters.length) = some 1 := by decide +kernel
set_option maxRecDepth 100000 in
theorem sw_X2_52 : zSW RX2 52 yX2_meanIn cX2_meanIn 2 (some .int) 1 := ⟨mc_X2_meanIn, zGt_2 235 rfl rfl, ms_X2_meanIn, ni_X2, my_X2_meanIn⟩
set_option maxRecDepth 100000 in
theorem mc_X3_sumOver : Cond.code yX3_sumOver cX3_sumOver 4 (some .int) ∈ zGW := zGt_3 84 rfl rfl
set_option maxRecDepth 100000 in
theorem ms_X3_sumOver : Cond.static yX3_sumOver ∈ zGW := zGt_3 83 rfl rfl
theorem my_X3_sumOver : yX3_sumOver.cls ≠ "java/lang/invoke/MethodHandle" ∧ yX3_sumOver.cls ≠ "java/lang/invoke/VarHandle" ∧ (parseMethodDescriptor yX3_sumOver.desc).map (fun d => d.parameters.length) = some 2 := by decide +kernel
set_option maxRecDepth 100000 in
theorem sw_X3_28 : zSW RX3 28 yX3_sumOver cX3_sumOver 4 (some .int) 2 := ⟨mc_X3_sumOver, zGt_3 82 rfl rfl, ms_X3_sumOver, ni_X3, my_X3_sumOver⟩
set_option maxRecDepth 100000 in
theorem mc_X9_in : Cond.code yX9_in cX9_in 6 (some .boolean) ∈ zGW := zGt_4 96 rfl rfl
set_option maxRecDepth 100000 in
theorem ms_X9_in : Cond.static yX9_in ∈ zGW := zGt_4 95 rfl rfl
theorem my_X9_in : yX9_in.cls ≠ "java/lang/invoke/MethodHandle" ∧ yX9_in.cls ≠ "java/lang/invoke/VarHandle" ∧ (parseMethodDescriptor yX9_in.desc).map (fun d => d.parameters.length) = some 3 := by decide +kernel
set_option maxRecDepth 100000 in
theorem sw_X9_89 : zSW RX9 89 yX9_in cX9_in 6 (some .boolean) 3 := ⟨mc_X9_in, zGt_4 94 rfl rfl, ms_X9_in, ni_X9, my_X9_in⟩
set_option maxRecDepth 100000 in
theorem mc_X9_isNumber : Cond.code yX9_isNumber cX9_isNumber 1 (some .boolean) ∈ zGW := zGt_4 92 rfl rfl
set_option maxRecDepth 100000 in
theorem ms_X9_isNumber : Cond.static yX9_isNumber ∈ zGW := zGt_4 91 rfl rfl
theorem my_X9_isNumber : yX9_isNumber.cls ≠ "java/lang/invoke/MethodHandle" ∧ yX9_isNumber.cls ≠ "java/lang/invoke/VarHandle" ∧ (parseMethodDescriptor yX9_isNumber.desc).map (fun d => d.parameters.length) = some 1 := by decide +kernel
set_option maxRecDepth 100000 in
theorem sw_X9_93 : zSW RX9 93 yX9_isNumber cX9_isNumber 1 (some .boolean) 1 := ⟨mc_X9_isNumber, zGt_4 90 rfl rfl, ms_X9_isNumber, ni_X9, my_X9_isNumber⟩
set_option maxRecDepth 100000 in
theorem mc_X9_ones : Cond.code yX9_ones cX9_ones 3 (some .int) ∈ zGW := zGt_4 102 rfl rfl
set_option maxRecDepth 100000 in
theorem ms_X9_ones : Cond.static yX9_ones ∈ zGW := zGt_4 101 rfl rfl
theorem my_X9_ones : yX9_ones.cls ≠ "java/lang/invoke/MethodHandle" ∧ yX9_ones.cls ≠ "java/lang/invoke/VarHandle" ∧ (parseMethodDescriptor yX9_ones.desc).map (fun d => d.parameters.length) = some 1 := by decide +kernel
set_option maxRecDepth 100000 in
theorem sw_X9_108 : zSW RX9 108 yX9_ones cX9_ones 3 (some .int) 1 := ⟨mc_X9_ones, zGt_4 100 rfl rfl, ms_X9_ones, ni_X9, my_X9_ones⟩
set_option maxRecDepth 100000 in
theorem mc_X9_greatest : Cond.code yX9_greatest cX9_greatest 1 (some .int) ∈ zGW := zGt_4 118 rfl rfl
set_option maxRecDepth 100000 in
theorem ms_X9_greatest : Cond.static yX9_greatest ∈ zGW := zGt_4 117 rfl rfl
theorem my_X9_greatest : yX9_greatest.cls ≠ "java/lang/invoke/MethodHandle" ∧ yX9_greatest.cls ≠ "java/lang/invoke/VarHandle" ∧ (parseMethodDescriptor yX9_greatest.desc).map (fun d => d.parameters.length) = some 1 := by decide +kernel
set_option maxRecDepth 100000 in
theorem sw_X9_120 : zSW RX9 120 yX9_greatest cX9_greatest 1 (some .int) 1 := ⟨mc_X9_greatest, zGt_4 116 rfl rfl, ms_X9_greatest, ni_X9, my_X9_greatest⟩
set_option maxRecDepth 100000 in
theorem mc_X9_isSide : Cond.code yX9_isSide cX9_isSide 1 (some .boolean) ∈ zGW := zGt_4 223 rfl rfl
set_option maxRecDepth 100000 in
theorem ms_X9_isSide : Cond.static yX9_isSide ∈ zGW := zGt_4 222 rfl rfl
theorem my_X9_isSide : yX9_isSide.cls ≠ "java/lang/invoke/MethodHandle" ∧ yX9_isSide.cls ≠ "java/lang/invoke/VarHandle" ∧ (parseMethodDescriptor yX9_isSide.desc).map (fun d => d.parameters.length) = some 1 := by decide +kernel
set_option maxRecDepth 100000 in
theorem sw_X9_216 : zSW RX9 216 yX9_isSide cX9_isSide 1 (some .boolean) 1 := ⟨mc_X9_isSide, zGt_4 221 rfl rfl, ms_X9_isSide, ni_X9, my_X9_isSide⟩
set_option maxRecDepth 100000 in
theorem mc_X9_isHour : Cond.code yX9_isHour cX9_isHour 1 (some .boolean) ∈ zGW := zGt_4 226 rfl rfl
set_option maxRecDepth 100000 in
theorem ms_X9_isHour : Cond.static yX9_isHour ∈ zGW := zGt_4 225 rfl rfl
theorem my_X9_isHour : yX9_isHour.cls ≠ "java/lang/invoke/MethodHandle" ∧ yX9_isHour.cls ≠ "java/lang/invoke/VarHandle" ∧ (parseMethodDescriptor yX9_isHour.desc).map (fun d => d.parameters.length) = some 1 := by decide +kernel
set_option maxRecDepth 100000 in
theorem sw_X9_219 : zSW RX9 219 yX9_isHour cX9_isHour 1 (some .boolean) 1 := ⟨mc_X9_isHour, zGt_4 224 rfl rfl, ms_X9_isHour, ni_X9, my_X9_isHour⟩
set_option maxRecDepth 100000 in
theorem mc_X9_lowest : Cond.code yX9_lowest cX9_lowest 11 (some .long) ∈ zGW := zGt_5 113 rfl rfl
set_option maxRecDepth 100000 in
theorem ms_X9_lowest : Cond.static yX9_lowest ∈ zGW := zGt_5 112 rfl rfl
theorem my_X9_lowest : yX9_lowest.cls ≠ "java/lang/invoke/MethodHandle" ∧ yX9_lowest.cls ≠ "java/lang/invoke/VarHandle" ∧ (parseMethodDescriptor yX9_lowest.desc).map (fun d => d.parameters.length) = some 3 := by decide +kernel
set_option maxRecDepth 100000 in
theorem sw_X9_282 : zSW RX9 282 yX9_lowest cX9_lowest 11 (some .long) 3 := ⟨mc_X9_lowest, zGt_5 111 rfl rfl, ms_X9_lowest, ni_X9, my_X9_lowest⟩
set_option maxRecDepth 100000 in
theorem mc_X9_choose : Cond.code yX9_choose cX9_choose 5 (some .long) ∈ zGW := zGt_5 121 rfl rfl
set_option maxRecDepth 100000 in
theorem ms_X9_choose : Cond.static yX9_choose ∈ zGW := zGt_5 120 rfl rfl
theorem my_X9_choose : yX9_choose.cls ≠ "java/lang/invoke/MethodHandle" ∧ yX9_choose.cls ≠ "java/lang/invoke/VarHandle" ∧ (parseMethodDescriptor yX9_choose.desc).map (fun d => d.parameters.length) = some 2 := by decide +kernel
set_option maxRecDepth 100000 in
theorem sw_X9_288 : zSW RX9 288 yX9_choose cX9_choose 5 (some .long) 2 := ⟨mc_X9_choose, zGt_5 119 rfl rfl, ms_X9_choose, ni_X9, my_X9_choose⟩
set_option maxRecDepth 100000 in
theorem mc_X9_power : Cond.code yX9_power cX9_power 5 (some .long) ∈ zGW := zGt_5 124 rfl rfl
set_option maxRecDepth 100000 in
theorem ms_X9_power : Cond.static yX9_power ∈ zGW := zGt_5 123 rfl rfl
theorem my_X9_power : yX9_power.cls ≠ "java/lang/invoke/MethodHandle" ∧ yX9_power.cls ≠ "java/lang/invoke/VarHandle" ∧ (parseMethodDescriptor yX9_power.desc).map (fun d => d.parameters.length) = some 2 := by decide +kernel
set_option maxRecDepth 100000 in
theorem sw_X9_292 : zSW RX9 292 yX9_power cX9_power 5 (some .long) 2 := ⟨mc_X9_power, zGt_5 122 rfl rfl, ms_X9_power, ni_X9, my_X9_power⟩
theorem nw_X1_25 : zNWd RX1 25 yX8_within "StraitFleet" cX8_within 3 (some .boolean) 3 := ⟨mc_X8_within, zNW_in 630 (by decide +kernel) (by decide +kernel), ms_X8_within, ni_X8, my_X8_within⟩
theorem nw_X2_55 : zNWd RX2 55 yX8_within "StraitFleet" cX8_within 3 (some .boolean) 3 := ⟨mc_X8_within, zNW_in 528 (by decide +kernel) (by decide +kernel), ms_X8_within, ni_X8, my_X8_within⟩
theorem nw_X4_19 : zNWd RX4 19 yX8_within "StraitFleet" cX8_within 3 (some .boolean) 3 := ⟨mc_X8_within, zNW_in 332 (by decide +kernel) (by decide +kernel), ms_X8_within, ni_X8, my_X8_within⟩
theorem nw_X6_54 : zNWd RX6 54 yX8_within "StraitFleet" cX8_within 3 (some .boolean) 3 := ⟨mc_X8_within, zNW_in 303 (by decide +kernel) (by decide +kernel), ms_X8_within, ni_X8, my_X8_within⟩
theorem nw_X6_89 : zNWd RX6 89 yX8_drawAfter "StraitFleet" cX8_drawAfter 1 (some .int) 1 := ⟨mc_X8_drawAfter, zNW_in 411 (by decide +kernel) (by decide +kernel), ms_X8_drawAfter, ni_X8, my_X8_drawAfter⟩
set_option maxRecDepth 100000 in
theorem aw_X1_19 : zAW RX1 19 := ⟨zGt_3 184 rfl rfl, zGt_2 88 rfl rfl, zGt_2 87 rfl rfl, zGt_1 13 rfl rfl⟩
set_option maxRecDepth 100000 in
theorem aw_X2_71 : zAW RX2 71 := ⟨zGt_3 23 rfl rfl, zGt_2 88 rfl rfl, zGt_2 87 rfl rfl, zGt_1 13 rfl rfl⟩
set_option maxRecDepth 100000 in
theorem aw_X3_22 : zAW RX3 22 := ⟨zGt_3 179 rfl rfl, zGt_2 88 rfl rfl, zGt_2 87 rfl rfl, zGt_1 13 rfl rfl⟩
set_option maxRecDepth 100000 in
theorem aw_X5_22 : zAW RX5 22 := ⟨zGt_3 189 rfl rfl, zGt_2 88 rfl rfl, zGt_2 87 rfl rfl, zGt_1 13 rfl rfl⟩
set_option maxRecDepth 100000 in
theorem aw_X6_48 : zAW RX6 48 := ⟨zGt_2 86 rfl rfl, zGt_2 88 rfl rfl, zGt_2 87 rfl rfl, zGt_1 13 rfl rfl⟩
set_option maxRecDepth 100000 in
theorem mw_X8_108 : zMW RX8 108 Lib.Math.min.name Lib.Math.min.code 2 (some .int) := ⟨zGt_2 71 rfl rfl, zGt_2 72 rfl rfl, zGt_1 12 rfl rfl, zGt_2 73 rfl rfl⟩
set_option maxRecDepth 100000 in
theorem mw_X8_225 : zMW RX8 225 Lib.Math.max.name Lib.Math.max.code 2 (some .int) := ⟨zGt_3 91 rfl rfl, zGt_2 114 rfl rfl, zGt_1 12 rfl rfl, zGt_2 115 rfl rfl⟩
set_option maxRecDepth 100000 in
theorem mw_X2_65 : zMW RX2 65 Lib.MathLoose.min_long.x Lib.MathLoose.min_long.code 4 (some .long) := ⟨zGt_3 20 rfl rfl, zGt_3 21 rfl rfl, zGt_1 12 rfl rfl, zGt_3 22 rfl rfl⟩
set_option maxRecDepth 100000 in
theorem mw_X6_80 : zMW RX6 80 Lib.Math.max.name Lib.Math.max.code 2 (some .int) := ⟨zGt_2 113 rfl rfl, zGt_2 114 rfl rfl, zGt_1 12 rfl rfl, zGt_2 115 rfl rfl⟩
set_option maxRecDepth 100000 in
theorem mw_X6_95 : zMW RX6 95 Lib.Math.min.name Lib.Math.min.code 2 (some .int) := ⟨zGt_2 116 rfl rfl, zGt_2 72 rfl rfl, zGt_1 12 rfl rfl, zGt_2 73 rfl rfl⟩
set_option maxRecDepth 100000 in
theorem cw_X8_167 : Cond.constant RX8 167 99999 ∈ zGW := zGt_2 216 rfl rfl
set_option maxRecDepth 100000 in
theorem cw_X8_224 : Cond.constant RX8 224 1000000 ∈ zGW := zGt_3 90 rfl rfl
set_option maxRecDepth 100000 in
theorem cw_X8_287 : Cond.constant RX8 287 65537 ∈ zGW := zGt_2 128 rfl rfl
set_option maxRecDepth 100000 in
theorem cw_X9_230 : Cond.constant RX9 230 1000000000 ∈ zGW := zGt_5 20 rfl rfl
set_option maxRecDepth 100000 in
theorem cw_X9_271 : Cond.constant RX9 271 1000000 ∈ zGW := zGt_5 92 rfl rfl
set_option maxRecDepth 100000 in
theorem cw_J6_265 : Cond.constant "java/lang/Integer" 265 1431655765 ∈ zGW := zGt_2 6 rfl rfl
set_option maxRecDepth 100000 in
theorem cw_J6_266 : Cond.constant "java/lang/Integer" 266 858993459 ∈ zGW := zGt_2 7 rfl rfl
set_option maxRecDepth 100000 in
theorem cw_J6_267 : Cond.constant "java/lang/Integer" 267 252645135 ∈ zGW := zGt_2 8 rfl rfl
set_option maxRecDepth 100000 in
theorem cl_X8_239 : Cond.constantLong RX8 239 (-1000000000000000001) ∈ zGW := zGt_3 109 rfl rfl
set_option maxRecDepth 100000 in
theorem cl_X8_241 : Cond.constantLong RX8 241 (-1000000000000000002) ∈ zGW := zGt_3 110 rfl rfl
set_option maxRecDepth 100000 in
theorem cl_X2_63 : Cond.constantLong RX2 63 (4611686018427387904) ∈ zGW := zGt_3 19 rfl rfl
set_option maxRecDepth 100000 in
theorem cl_X9_87 : Cond.constantLong RX9 87 (5) ∈ zGW := zGt_4 93 rfl rfl
set_option maxRecDepth 100000 in
theorem cl_X9_100 : Cond.constantLong RX9 100 (999) ∈ zGW := zGt_4 99 rfl rfl
set_option maxRecDepth 100000 in
theorem cl_X9_102 : Cond.constantLong RX9 102 (2) ∈ zGW := zGt_4 200 rfl rfl
set_option maxRecDepth 100000 in
theorem cl_X9_104 : Cond.constantLong RX9 104 (30) ∈ zGW := zGt_4 97 rfl rfl
set_option maxRecDepth 100000 in
theorem cl_X9_106 : Cond.constantLong RX9 106 (9) ∈ zGW := zGt_4 98 rfl rfl
set_option maxRecDepth 100000 in
theorem cl_X9_118 : Cond.constantLong RX9 118 (7) ∈ zGW := zGt_4 115 rfl rfl
set_option maxRecDepth 100000 in
theorem cl_X9_126 : Cond.constantLong RX9 126 (33) ∈ zGW := zGt_4 127 rfl rfl
set_option maxRecDepth 100000 in
theorem cl_X9_128 : Cond.constantLong RX9 128 (126) ∈ zGW := zGt_4 128 rfl rfl
set_option maxRecDepth 100000 in
theorem cl_X9_133 : Cond.constantLong RX9 133 (48) ∈ zGW := zGt_4 141 rfl rfl
set_option maxRecDepth 100000 in
theorem cl_X9_135 : Cond.constantLong RX9 135 (57) ∈ zGW := zGt_4 142 rfl rfl
set_option maxRecDepth 100000 in
theorem cl_X9_137 : Cond.constantLong RX9 137 (65) ∈ zGW := zGt_4 147 rfl rfl
set_option maxRecDepth 100000 in
theorem cl_X9_139 : Cond.constantLong RX9 139 (70) ∈ zGW := zGt_4 148 rfl rfl
set_option maxRecDepth 100000 in
theorem cl_X9_157 : Cond.constantLong RX9 157 (75) ∈ zGW := zGt_4 181 rfl rfl
set_option maxRecDepth 100000 in
theorem cl_X9_159 : Cond.constantLong RX9 159 (74) ∈ zGW := zGt_4 182 rfl rfl
set_option maxRecDepth 100000 in
theorem cl_X9_161 : Cond.constantLong RX9 161 (65537) ∈ zGW := zGt_4 183 rfl rfl
set_option maxRecDepth 100000 in
theorem cl_X9_228 : Cond.constantLong RX9 228 (976) ∈ zGW := zGt_5 19 rfl rfl
set_option maxRecDepth 100000 in
theorem cl_X9_237 : Cond.constantLong RX9 237 (99999) ∈ zGW := zGt_5 29 rfl rfl
set_option maxRecDepth 100000 in
theorem cl_X9_258 : Cond.constantLong RX9 258 (3) ∈ zGW := zGt_5 74 rfl rfl
set_option maxRecDepth 100000 in
theorem cl_X9_260 : Cond.constantLong RX9 260 (9999) ∈ zGW := zGt_5 75 rfl rfl
set_option maxRecDepth 100000 in
theorem cl_X9_278 : Cond.constantLong RX9 278 (-1000000000000000001) ∈ zGW := zGt_5 109 rfl rfl
set_option maxRecDepth 100000 in
theorem cl_X9_280 : Cond.constantLong RX9 280 (-1000000000000000002) ∈ zGW := zGt_5 110 rfl rfl
set_option maxRecDepth 100000 in
theorem cl_X9_286 : Cond.constantLong RX9 286 (8) ∈ zGW := zGt_5 118 rfl rfl
set_option maxRecDepth 100000 in
theorem cl_X9_295 : Cond.constantLong RX9 295 (255) ∈ zGW := zGt_5 129 rfl rfl
set_option maxRecDepth 100000 in
theorem cl_X9_300 : Cond.constantLong RX9 300 (99) ∈ zGW := zGt_5 146 rfl rfl
set_option maxRecDepth 100000 in
theorem cl_X9_318 : Cond.constantLong RX9 318 (20) ∈ zGW := zGt_5 171 rfl rfl
set_option maxRecDepth 100000 in
theorem cl_X9_320 : Cond.constantLong RX9 320 (27) ∈ zGW := zGt_5 172 rfl rfl
set_option maxRecDepth 100000 in
theorem cl_X9_322 : Cond.constantLong RX9 322 (35) ∈ zGW := zGt_5 173 rfl rfl
set_option maxRecDepth 100000 in
theorem cl_X9_324 : Cond.constantLong RX9 324 (100) ∈ zGW := zGt_5 174 rfl rfl
set_option maxRecDepth 100000 in
theorem cl_X9_326 : Cond.constantLong RX9 326 (123) ∈ zGW := zGt_5 175 rfl rfl
set_option maxRecDepth 100000 in
theorem gs_X8_83 : zGW2 RX8 83 "TERM_LEAST" := zGt_2 22 rfl rfl
set_option maxRecDepth 100000 in
theorem gs_X8_86 : zGW2 RX8 86 "TERM_MOST" := zGt_2 24 rfl rfl
