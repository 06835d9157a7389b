theorem sh_0 : zT[0]? = some (3, 8, [2, 19, 36, 0, 53, 55, 64]) := by decide +kernel
theorem sh_1 : zT[1]? = some (3, 0, [3, 11, 14, 16]) := by decide +kernel
theorem sh_2 : zT[2]? = some (3, 6, [0, 4, 5, 6, 7, 8, 9, 0, 10]) := by decide +kernel
theorem sh_3 : zT[3]? = some (0, 6, []) := by decide +kernel
theorem sh_4 : zT[4]? = some (0, 6, []) := by decide +kernel
theorem sh_5 : zT[5]? = some (0, 6, []) := by decide +kernel
theorem sh_6 : zT[6]? = some (0, 6, []) := by decide +kernel
theorem sh_7 : zT[7]? = some (0, 8, []) := by decide +kernel
theorem sh_8 : zT[8]? = some (0, 24, []) := by decide +kernel
theorem sh_9 : zT[9]? = some (0, 3, []) := by decide +kernel
theorem sh_10 : zT[10]? = some (3, 3, [0, 12, 13]) := by decide +kernel
theorem sh_11 : zT[11]? = some (0, 4, []) := by decide +kernel
theorem sh_12 : zT[12]? = some (0, 4, []) := by decide +kernel
theorem sh_13 : zT[13]? = some (3, 1, [0, 15]) := by decide +kernel
theorem sh_14 : zT[14]? = some (0, 8, []) := by decide +kernel
theorem sh_15 : zT[15]? = some (3, 5, [0, 17, 18]) := by decide +kernel
theorem sh_16 : zT[16]? = some (0, 6, []) := by decide +kernel
theorem sh_17 : zT[17]? = some (0, 6, []) := by decide +kernel
theorem sh_18 : zT[18]? = some (3, 0, [20, 28, 31, 33]) := by decide +kernel
theorem sh_19 : zT[19]? = some (3, 6, [0, 21, 22, 23, 24, 25, 26, 0, 27]) := by decide +kernel
theorem sh_20 : zT[20]? = some (0, 6, []) := by decide +kernel
theorem sh_21 : zT[21]? = some (0, 6, []) := by decide +kernel
theorem sh_22 : zT[22]? = some (0, 6, []) := by decide +kernel
theorem sh_23 : zT[23]? = some (0, 6, []) := by decide +kernel
theorem sh_24 : zT[24]? = some (0, 8, []) := by decide +kernel
theorem sh_25 : zT[25]? = some (0, 24, []) := by decide +kernel
theorem sh_26 : zT[26]? = some (0, 3, []) := by decide +kernel
theorem sh_27 : zT[27]? = some (3, 3, [0, 29, 30]) := by decide +kernel
theorem sh_28 : zT[28]? = some (0, 4, []) := by decide +kernel
theorem sh_29 : zT[29]? = some (0, 4, []) := by decide +kernel
theorem sh_30 : zT[30]? = some (3, 1, [0, 32]) := by decide +kernel
theorem sh_31 : zT[31]? = some (0, 8, []) := by decide +kernel
theorem sh_32 : zT[32]? = some (3, 5, [0, 34, 35]) := by decide +kernel
theorem sh_33 : zT[33]? = some (0, 6, []) := by decide +kernel
theorem sh_34 : zT[34]? = some (0, 6, []) := by decide +kernel
theorem sh_35 : zT[35]? = some (3, 0, [37, 45, 48, 50]) := by decide +kernel
theorem sh_36 : zT[36]? = some (3, 6, [0, 38, 39, 40, 41, 42, 43, 0, 44]) := by decide +kernel
theorem sh_37 : zT[37]? = some (0, 6, []) := by decide +kernel
theorem sh_38 : zT[38]? = some (0, 6, []) := by decide +kernel
theorem sh_39 : zT[39]? = some (0, 6, []) := by decide +kernel
theorem sh_40 : zT[40]? = some (0, 6, []) := by decide +kernel
theorem sh_41 : zT[41]? = some (0, 8, []) := by decide +kernel
theorem sh_42 : zT[42]? = some (0, 24, []) := by decide +kernel
theorem sh_43 : zT[43]? = some (0, 3, []) := by decide +kernel
theorem sh_44 : zT[44]? = some (3, 3, [0, 46, 47]) := by decide +kernel
theorem sh_45 : zT[45]? = some (0, 4, []) := by decide +kernel
theorem sh_46 : zT[46]? = some (0, 4, []) := by decide +kernel
theorem sh_47 : zT[47]? = some (3, 1, [0, 49]) := by decide +kernel
theorem sh_48 : zT[48]? = some (0, 8, []) := by decide +kernel
theorem sh_49 : zT[49]? = some (3, 5, [0, 51, 52]) := by decide +kernel
theorem sh_50 : zT[50]? = some (0, 6, []) := by decide +kernel
theorem sh_51 : zT[51]? = some (0, 6, []) := by decide +kernel
theorem sh_52 : zT[52]? = some (3, 4, [54, 0]) := by decide +kernel
theorem sh_53 : zT[53]? = some (0, 60, []) := by decide +kernel
theorem sh_54 : zT[54]? = some (3, 7, [56, 0, 0]) := by decide +kernel
theorem sh_55 : zT[55]? = some (3, 6, [0, 57, 58, 59, 60, 61, 62, 0, 63]) := by decide +kernel
theorem sh_56 : zT[56]? = some (0, 6, []) := by decide +kernel
theorem sh_57 : zT[57]? = some (0, 6, []) := by decide +kernel
theorem sh_58 : zT[58]? = some (0, 6, []) := by decide +kernel
theorem sh_59 : zT[59]? = some (0, 6, []) := by decide +kernel
theorem sh_60 : zT[60]? = some (0, 8, []) := by decide +kernel
theorem sh_61 : zT[61]? = some (0, 24, []) := by decide +kernel
theorem sh_62 : zT[62]? = some (0, 3, []) := by decide +kernel
theorem sh_63 : zT[63]? = some (3, 2, [65, 0, 66, 67, 68, 69]) := by decide +kernel
theorem sh_64 : zT[64]? = some (0, 6, []) := by decide +kernel
theorem sh_65 : zT[65]? = some (1, 18, []) := by decide +kernel
theorem sh_66 : zT[66]? = some (1, 729, []) := by decide +kernel
theorem sh_67 : zT[67]? = some (1, 729, []) := by decide +kernel
theorem sh_68 : zT[68]? = some (1, 729, []) := by decide +kernel
theorem sh_69 : zT[69]? = some (3, 9, [0, 71, 72, 73, 74, 0, 0, 0, 0, 0, 0, 0, 0, 75, 0, 0, 0, 0, 0, 76, 77, 0, 78, 79, 80, 0, 81, 0, 82, 0, 0, 0, 83, 84, 0, 85, 86, 87, 0, 0]) := by decide +kernel
theorem sh_70 : zT[70]? = some (0, 6, []) := by decide +kernel
theorem sh_71 : zT[71]? = some (0, 6, []) := by decide +kernel
theorem sh_72 : zT[72]? = some (0, 6, []) := by decide +kernel
theorem sh_73 : zT[73]? = some (0, 6, []) := by decide +kernel
theorem sh_74 : zT[74]? = some (0, 24, []) := by decide +kernel
theorem sh_75 : zT[75]? = some (0, 4, []) := by decide +kernel
theorem sh_76 : zT[76]? = some (0, 4, []) := by decide +kernel
theorem sh_77 : zT[77]? = some (0, 8, []) := by decide +kernel
theorem sh_78 : zT[78]? = some (0, 6, []) := by decide +kernel
theorem sh_79 : zT[79]? = some (0, 6, []) := by decide +kernel
theorem sh_80 : zT[80]? = some (0, 60, []) := by decide +kernel
theorem sh_81 : zT[81]? = some (0, 28, []) := by decide +kernel
theorem sh_82 : zT[82]? = some (0, 729, []) := by decide +kernel
theorem sh_83 : zT[83]? = some (0, 729, []) := by decide +kernel
theorem sh_84 : zT[84]? = some (0, 729, []) := by decide +kernel
theorem sh_85 : zT[85]? = some (0, 240, []) := by decide +kernel
theorem sh_86 : zT[86]? = some (2, 2, []) := by decide +kernel
def isX0 (a : Nat) : Prop := a = 1 ∨ a = 18 ∨ a = 35
theorem shX0_0 {a : Nat} (h : isX0 a) : zT[a]? = some (3, 0, [a + 2, a + 10, a + 13, a + 15]) := by
  rcases h with rfl | rfl | rfl <;> decide +kernel
theorem isX0_1 : isX0 1 := by unfold isX0; omega
theorem isX0_18 : isX0 18 := by unfold isX0; omega
theorem isX0_35 : isX0 35 := by unfold isX0; omega
def isX1 (a : Nat) : Prop := a = 13 ∨ a = 30 ∨ a = 47
theorem shX1_0 {a : Nat} (h : isX1 a) : zT[a]? = some (3, 1, [0, a + 2]) := by
  rcases h with rfl | rfl | rfl <;> decide +kernel
theorem isX1_13 : isX1 13 := by unfold isX1; omega
theorem isX1_30 : isX1 30 := by unfold isX1; omega
theorem isX1_47 : isX1 47 := by unfold isX1; omega
def isX3 (a : Nat) : Prop := a = 10 ∨ a = 27 ∨ a = 44
theorem shX3_0 {a : Nat} (h : isX3 a) : zT[a]? = some (3, 3, [0, a + 2, a + 3]) := by
  rcases h with rfl | rfl | rfl <;> decide +kernel
theorem isX3_10 : isX3 10 := by unfold isX3; omega
theorem isX3_27 : isX3 27 := by unfold isX3; omega
theorem isX3_44 : isX3 44 := by unfold isX3; omega
def isX5 (a : Nat) : Prop := a = 15 ∨ a = 32 ∨ a = 49
theorem shX5_0 {a : Nat} (h : isX5 a) : zT[a]? = some (3, 5, [0, a + 2, a + 3]) := by
  rcases h with rfl | rfl | rfl <;> decide +kernel
theorem isX5_15 : isX5 15 := by unfold isX5; omega
theorem isX5_32 : isX5 32 := by unfold isX5; omega
theorem isX5_49 : isX5 49 := by unfold isX5; omega
def isX6 (a : Nat) : Prop := a = 2 ∨ a = 19 ∨ a = 36 ∨ a = 55
theorem shX6_0 {a : Nat} (h : isX6 a) : zT[a]? = some (3, 6, [0, a + 2, a + 3, a + 4, a + 5, a + 6, a + 7, 0, a + 8]) := by
  rcases h with rfl | rfl | rfl | rfl <;> decide +kernel
theorem isX6_2 : isX6 2 := by unfold isX6; omega
theorem isX6_19 : isX6 19 := by unfold isX6; omega
theorem isX6_36 : isX6 36 := by unfold isX6; omega
theorem isX6_55 : isX6 55 := by unfold isX6; omega
theorem isX6_X0_1 {a : Nat} (h : isX0 a) : isX6 (a + 1) := by
  rcases h with rfl | rfl | rfl <;> (unfold isX6; omega)
theorem isX3_X0_9 {a : Nat} (h : isX0 a) : isX3 (a + 9) := by
  rcases h with rfl | rfl | rfl <;> (unfold isX3; omega)
theorem isX1_X0_12 {a : Nat} (h : isX0 a) : isX1 (a + 12) := by
  rcases h with rfl | rfl | rfl <;> (unfold isX1; omega)
theorem isX5_X0_14 {a : Nat} (h : isX0 a) : isX5 (a + 14) := by
  rcases h with rfl | rfl | rfl <;> (unfold isX5; omega)
theorem shX1_1 {a : Nat} (h : isX1 a) : zT[a + 1]? = some (0, 8, []) := by
  rcases h with rfl | rfl | rfl <;> decide +kernel
theorem shX3_1 {a : Nat} (h : isX3 a) : zT[a + 1]? = some (0, 4, []) := by
  rcases h with rfl | rfl | rfl <;> decide +kernel
theorem shX3_2 {a : Nat} (h : isX3 a) : zT[a + 2]? = some (0, 4, []) := by
  rcases h with rfl | rfl | rfl <;> decide +kernel
theorem shX5_1 {a : Nat} (h : isX5 a) : zT[a + 1]? = some (0, 6, []) := by
  rcases h with rfl | rfl | rfl <;> decide +kernel
theorem shX5_2 {a : Nat} (h : isX5 a) : zT[a + 2]? = some (0, 6, []) := by
  rcases h with rfl | rfl | rfl <;> decide +kernel
theorem shX6_1 {a : Nat} (h : isX6 a) : zT[a + 1]? = some (0, 6, []) := by
  rcases h with rfl | rfl | rfl | rfl <;> decide +kernel
theorem shX6_2 {a : Nat} (h : isX6 a) : zT[a + 2]? = some (0, 6, []) := by
  rcases h with rfl | rfl | rfl | rfl <;> decide +kernel
theorem shX6_3 {a : Nat} (h : isX6 a) : zT[a + 3]? = some (0, 6, []) := by
  rcases h with rfl | rfl | rfl | rfl <;> decide +kernel
theorem shX6_4 {a : Nat} (h : isX6 a) : zT[a + 4]? = some (0, 6, []) := by
  rcases h with rfl | rfl | rfl | rfl <;> decide +kernel
theorem shX6_5 {a : Nat} (h : isX6 a) : zT[a + 5]? = some (0, 8, []) := by
  rcases h with rfl | rfl | rfl | rfl <;> decide +kernel
theorem shX6_6 {a : Nat} (h : isX6 a) : zT[a + 6]? = some (0, 24, []) := by
  rcases h with rfl | rfl | rfl | rfl <;> decide +kernel
theorem shX6_7 {a : Nat} (h : isX6 a) : zT[a + 7]? = some (0, 3, []) := by
  rcases h with rfl | rfl | rfl | rfl <;> decide +kernel
def zB (v : Int32) : Prop := narrow .boolean (.int v) = .int v
set_option maxRecDepth 20000 in
theorem wi_X0 : ∀ w ∈ u_ws RX0 TX0 4, w ∈ zGW := by decide +kernel
set_option maxRecDepth 20000 in
theorem wi_X1 : ∀ w ∈ u_ws RX1 TX1 2, w ∈ zGW := by decide +kernel
set_option maxRecDepth 20000 in
theorem wi_X2 : ∀ w ∈ u_ws RX2 TX2 6, w ∈ zGW := by decide +kernel
set_option maxRecDepth 20000 in
theorem wi_X3 : ∀ w ∈ u_ws RX3 TX3 3, w ∈ zGW := by decide +kernel
set_option maxRecDepth 20000 in
theorem wi_X4 : ∀ w ∈ u_ws RX4 TX4 2, w ∈ zGW := by decide +kernel
set_option maxRecDepth 20000 in
theorem wi_X5 : ∀ w ∈ u_ws RX5 TX5 3, w ∈ zGW := by decide +kernel
set_option maxRecDepth 20000 in
theorem wi_X6 : ∀ w ∈ u_ws RX6 TX6 9, w ∈ zGW := by decide +kernel
set_option maxRecDepth 20000 in
theorem wi_X7 : ∀ w ∈ u_ws RX7 TX7 3, w ∈ zGW := by decide +kernel
set_option maxRecDepth 20000 in
theorem wi_X8 : ∀ w ∈ u_ws RX8 TX8 7, w ∈ zGW := by decide +kernel
set_option maxRecDepth 20000 in
theorem wi_X9 : ∀ w ∈ u_ws RX9 TX9 40, w ∈ zGW := by decide +kernel
theorem fw_X8_10 : zFW RX8 10 8 0 RX8 TX8 7 := ⟨rfl, by decide, wi_X8, zGW_in 260 (by decide +kernel) (by decide +kernel)⟩
theorem fw_X8_16 : zFW RX8 16 8 1 RX8 TX8 7 := ⟨rfl, by decide, wi_X8, zGW_in 261 (by decide +kernel) (by decide +kernel)⟩
theorem fw_X8_19 : zFW RX8 19 8 2 RX8 TX8 7 := ⟨rfl, by decide, wi_X8, zGW_in 262 (by decide +kernel) (by decide +kernel)⟩
theorem fw_X8_22 : zFW RX8 22 8 3 RX8 TX8 7 := ⟨rfl, by decide, wi_X8, zGW_in 263 (by decide +kernel) (by decide +kernel)⟩
theorem fw_X8_29 : zFW RX8 29 8 4 RX8 TX8 7 := ⟨rfl, by decide, wi_X8, zGW_in 264 (by decide +kernel) (by decide +kernel)⟩
theorem fw_X8_36 : zFW RX8 36 8 5 RX8 TX8 7 := ⟨rfl, by decide, wi_X8, zGW_in 265 (by decide +kernel) (by decide +kernel)⟩
theorem fw_X8_43 : zFW RX8 43 8 6 RX8 TX8 7 := ⟨rfl, by decide, wi_X8, zGW_in 266 (by decide +kernel) (by decide +kernel)⟩
theorem fw_X8_51 : zFW RX8 51 0 0 RX0 TX0 4 := ⟨rfl, by decide, wi_X0, zGW_in 181 (by decide +kernel) (by decide +kernel)⟩
theorem fw_X8_55 : zFW RX8 55 6 0 RX6 TX6 9 := ⟨rfl, by decide, wi_X6, zGW_in 90 (by decide +kernel) (by decide +kernel)⟩
theorem fw_X8_60 : zFW RX8 60 6 1 RX6 TX6 9 := ⟨rfl, by decide, wi_X6, zGW_in 92 (by decide +kernel) (by decide +kernel)⟩
theorem fw_X8_64 : zFW RX8 64 6 2 RX6 TX6 9 := ⟨rfl, by decide, wi_X6, zGW_in 94 (by decide +kernel) (by decide +kernel)⟩
theorem fw_X8_67 : zFW RX8 67 6 3 RX6 TX6 9 := ⟨rfl, by decide, wi_X6, zGW_in 96 (by decide +kernel) (by decide +kernel)⟩
theorem fw_X8_70 : zFW RX8 70 6 4 RX6 TX6 9 := ⟨rfl, by decide, wi_X6, zGW_in 98 (by decide +kernel) (by decide +kernel)⟩
theorem fw_X8_89 : zFW RX8 89 6 5 RX6 TX6 9 := ⟨rfl, by decide, wi_X6, zGW_in 100 (by decide +kernel) (by decide +kernel)⟩
theorem fw_X8_92 : zFW RX8 92 4 1 RX4 TX4 2 := ⟨rfl, by decide, wi_X4, zGW_in 207 (by decide +kernel) (by decide +kernel)⟩
theorem fw_X8_95 : zFW RX8 95 4 0 RX4 TX4 2 := ⟨rfl, by decide, wi_X4, zGW_in 204 (by decide +kernel) (by decide +kernel)⟩
theorem fw_X8_114 : zFW RX8 114 6 7 RX6 TX6 9 := ⟨rfl, by decide, wi_X6, zGW_in 104 (by decide +kernel) (by decide +kernel)⟩
theorem fw_X8_117 : zFW RX8 117 6 6 RX6 TX6 9 := ⟨rfl, by decide, wi_X6, zGW_in 102 (by decide +kernel) (by decide +kernel)⟩
theorem fw_X8_124 : zFW RX8 124 7 2 RX7 TX7 3 := ⟨rfl, by decide, wi_X7, zGW_in 226 (by decide +kernel) (by decide +kernel)⟩
theorem fw_X8_127 : zFW RX8 127 7 1 RX7 TX7 3 := ⟨rfl, by decide, wi_X7, zGW_in 224 (by decide +kernel) (by decide +kernel)⟩
theorem fw_X8_137 : zFW RX8 137 7 0 RX7 TX7 3 := ⟨rfl, by decide, wi_X7, zGW_in 222 (by decide +kernel) (by decide +kernel)⟩
theorem fw_X8_142 : zFW RX8 142 6 8 RX6 TX6 9 := ⟨rfl, by decide, wi_X6, zGW_in 106 (by decide +kernel) (by decide +kernel)⟩
theorem fw_X8_196 : zFW RX8 196 0 1 RX0 TX0 4 := ⟨rfl, by decide, wi_X0, zGW_in 183 (by decide +kernel) (by decide +kernel)⟩
theorem fw_X8_200 : zFW RX8 200 3 0 RX3 TX3 3 := ⟨rfl, by decide, wi_X3, zGW_in 134 (by decide +kernel) (by decide +kernel)⟩
theorem fw_X8_203 : zFW RX8 203 3 1 RX3 TX3 3 := ⟨rfl, by decide, wi_X3, zGW_in 136 (by decide +kernel) (by decide +kernel)⟩
theorem fw_X8_206 : zFW RX8 206 3 2 RX3 TX3 3 := ⟨rfl, by decide, wi_X3, zGW_in 138 (by decide +kernel) (by decide +kernel)⟩
theorem fw_X8_228 : zFW RX8 228 0 2 RX0 TX0 4 := ⟨rfl, by decide, wi_X0, zGW_in 185 (by decide +kernel) (by decide +kernel)⟩
theorem fw_X8_232 : zFW RX8 232 1 0 RX1 TX1 2 := ⟨rfl, by decide, wi_X1, zGW_in 153 (by decide +kernel) (by decide +kernel)⟩
theorem fw_X8_235 : zFW RX8 235 1 1 RX1 TX1 2 := ⟨rfl, by decide, wi_X1, zGW_in 155 (by decide +kernel) (by decide +kernel)⟩
theorem fw_X8_257 : zFW RX8 257 0 3 RX0 TX0 4 := ⟨rfl, by decide, wi_X0, zGW_in 187 (by decide +kernel) (by decide +kernel)⟩
theorem fw_X8_261 : zFW RX8 261 5 0 RX5 TX5 3 := ⟨rfl, by decide, wi_X5, zGW_in 168 (by decide +kernel) (by decide +kernel)⟩
theorem fw_X8_264 : zFW RX8 264 5 1 RX5 TX5 3 := ⟨rfl, by decide, wi_X5, zGW_in 170 (by decide +kernel) (by decide +kernel)⟩
theorem fw_X8_267 : zFW RX8 267 5 2 RX5 TX5 3 := ⟨rfl, by decide, wi_X5, zGW_in 172 (by decide +kernel) (by decide +kernel)⟩
theorem fw_X0_10 : zFW RX0 10 0 0 RX0 TX0 4 := ⟨rfl, by decide, wi_X0, zGW_in 180 (by decide +kernel) (by decide +kernel)⟩
theorem fw_X0_19 : zFW RX0 19 0 1 RX0 TX0 4 := ⟨rfl, by decide, wi_X0, zGW_in 182 (by decide +kernel) (by decide +kernel)⟩
theorem fw_X0_26 : zFW RX0 26 0 2 RX0 TX0 4 := ⟨rfl, by decide, wi_X0, zGW_in 184 (by decide +kernel) (by decide +kernel)⟩
theorem fw_X0_33 : zFW RX0 33 0 3 RX0 TX0 4 := ⟨rfl, by decide, wi_X0, zGW_in 186 (by decide +kernel) (by decide +kernel)⟩
theorem fw_X1_9 : zFW RX1 9 1 0 RX1 TX1 2 := ⟨rfl, by decide, wi_X1, zGW_in 152 (by decide +kernel) (by decide +kernel)⟩
theorem fw_X1_15 : zFW RX1 15 1 1 RX1 TX1 2 := ⟨rfl, by decide, wi_X1, zGW_in 154 (by decide +kernel) (by decide +kernel)⟩
theorem fw_X2_9 : zFW RX2 9 2 0 RX2 TX2 6 := ⟨rfl, by decide, wi_X2, zGW_in 240 (by decide +kernel) (by decide +kernel)⟩
theorem fw_X2_15 : zFW RX2 15 2 1 RX2 TX2 6 := ⟨rfl, by decide, wi_X2, zGW_in 241 (by decide +kernel) (by decide +kernel)⟩
theorem fw_X2_19 : zFW RX2 19 2 2 RX2 TX2 6 := ⟨rfl, by decide, wi_X2, zGW_in 242 (by decide +kernel) (by decide +kernel)⟩
theorem fw_X2_23 : zFW RX2 23 2 3 RX2 TX2 6 := ⟨rfl, by decide, wi_X2, zGW_in 243 (by decide +kernel) (by decide +kernel)⟩
theorem fw_X2_26 : zFW RX2 26 2 4 RX2 TX2 6 := ⟨rfl, by decide, wi_X2, zGW_in 244 (by decide +kernel) (by decide +kernel)⟩
theorem fw_X2_29 : zFW RX2 29 2 5 RX2 TX2 6 := ⟨rfl, by decide, wi_X2, zGW_in 245 (by decide +kernel) (by decide +kernel)⟩
theorem fw_X3_9 : zFW RX3 9 3 0 RX3 TX3 3 := ⟨rfl, by decide, wi_X3, zGW_in 133 (by decide +kernel) (by decide +kernel)⟩
theorem fw_X3_15 : zFW RX3 15 3 1 RX3 TX3 3 := ⟨rfl, by decide, wi_X3, zGW_in 135 (by decide +kernel) (by decide +kernel)⟩
theorem fw_X3_19 : zFW RX3 19 3 2 RX3 TX3 3 := ⟨rfl, by decide, wi_X3, zGW_in 137 (by decide +kernel) (by decide +kernel)⟩
theorem fw_X4_9 : zFW RX4 9 4 0 RX4 TX4 2 := ⟨rfl, by decide, wi_X4, zGW_in 203 (by decide +kernel) (by decide +kernel)⟩
theorem fw_X4_15 : zFW RX4 15 4 1 RX4 TX4 2 := ⟨rfl, by decide, wi_X4, zGW_in 205 (by decide +kernel) (by decide +kernel)⟩
theorem fw_X5_9 : zFW RX5 9 5 0 RX5 TX5 3 := ⟨rfl, by decide, wi_X5, zGW_in 167 (by decide +kernel) (by decide +kernel)⟩
theorem fw_X5_15 : zFW RX5 15 5 1 RX5 TX5 3 := ⟨rfl, by decide, wi_X5, zGW_in 169 (by decide +kernel) (by decide +kernel)⟩
theorem fw_X5_19 : zFW RX5 19 5 2 RX5 TX5 3 := ⟨rfl, by decide, wi_X5, zGW_in 171 (by decide +kernel) (by decide +kernel)⟩
theorem fw_X6_9 : zFW RX6 9 6 0 RX6 TX6 9 := ⟨rfl, by decide, wi_X6, zGW_in 89 (by decide +kernel) (by decide +kernel)⟩
theorem fw_X6_15 : zFW RX6 15 6 1 RX6 TX6 9 := ⟨rfl, by decide, wi_X6, zGW_in 91 (by decide +kernel) (by decide +kernel)⟩
theorem fw_X6_19 : zFW RX6 19 6 2 RX6 TX6 9 := ⟨rfl, by decide, wi_X6, zGW_in 93 (by decide +kernel) (by decide +kernel)⟩
theorem fw_X6_22 : zFW RX6 22 6 3 RX6 TX6 9 := ⟨rfl, by decide, wi_X6, zGW_in 95 (by decide +kernel) (by decide +kernel)⟩
theorem fw_X6_25 : zFW RX6 25 6 4 RX6 TX6 9 := ⟨rfl, by decide, wi_X6, zGW_in 97 (by decide +kernel) (by decide +kernel)⟩
theorem fw_X6_36 : zFW RX6 36 6 5 RX6 TX6 9 := ⟨rfl, by decide, wi_X6, zGW_in 99 (by decide +kernel) (by decide +kernel)⟩
theorem fw_X6_39 : zFW RX6 39 6 6 RX6 TX6 9 := ⟨rfl, by decide, wi_X6, zGW_in 101 (by decide +kernel) (by decide +kernel)⟩
theorem fw_X6_42 : zFW RX6 42 6 7 RX6 TX6 9 := ⟨rfl, by decide, wi_X6, zGW_in 103 (by decide +kernel) (by decide +kernel)⟩
theorem fw_X6_45 : zFW RX6 45 6 8 RX6 TX6 9 := ⟨rfl, by decide, wi_X6, zGW_in 105 (by decide +kernel) (by decide +kernel)⟩
theorem fw_X7_12 : zFW RX7 12 7 0 RX7 TX7 3 := ⟨rfl, by decide, wi_X7, zGW_in 221 (by decide +kernel) (by decide +kernel)⟩
theorem fw_X7_18 : zFW RX7 18 7 1 RX7 TX7 3 := ⟨rfl, by decide, wi_X7, zGW_in 223 (by decide +kernel) (by decide +kernel)⟩
theorem fw_X7_22 : zFW RX7 22 7 2 RX7 TX7 3 := ⟨rfl, by decide, wi_X7, zGW_in 225 (by decide +kernel) (by decide +kernel)⟩
theorem fw_X7_29 : zFW RX7 29 4 1 RX4 TX4 2 := ⟨rfl, by decide, wi_X4, zGW_in 206 (by decide +kernel) (by decide +kernel)⟩
theorem fw_X9_7 : zFW RX9 7 9 1 RX9 TX9 40 := ⟨rfl, by decide, wi_X9, zGW_in 731 (by decide +kernel) (by decide +kernel)⟩
theorem fw_X9_13 : zFW RX9 13 9 2 RX9 TX9 40 := ⟨rfl, by decide, wi_X9, zGW_in 732 (by decide +kernel) (by decide +kernel)⟩
theorem fw_X9_16 : zFW RX9 16 9 3 RX9 TX9 40 := ⟨rfl, by decide, wi_X9, zGW_in 733 (by decide +kernel) (by decide +kernel)⟩
theorem fw_X9_19 : zFW RX9 19 9 4 RX9 TX9 40 := ⟨rfl, by decide, wi_X9, zGW_in 734 (by decide +kernel) (by decide +kernel)⟩
theorem fw_X9_22 : zFW RX9 22 9 13 RX9 TX9 40 := ⟨rfl, by decide, wi_X9, zGW_in 743 (by decide +kernel) (by decide +kernel)⟩
theorem fw_X9_25 : zFW RX9 25 9 19 RX9 TX9 40 := ⟨rfl, by decide, wi_X9, zGW_in 749 (by decide +kernel) (by decide +kernel)⟩
theorem fw_X9_28 : zFW RX9 28 9 20 RX9 TX9 40 := ⟨rfl, by decide, wi_X9, zGW_in 750 (by decide +kernel) (by decide +kernel)⟩
theorem fw_X9_31 : zFW RX9 31 9 22 RX9 TX9 40 := ⟨rfl, by decide, wi_X9, zGW_in 752 (by decide +kernel) (by decide +kernel)⟩
theorem fw_X9_34 : zFW RX9 34 9 23 RX9 TX9 40 := ⟨rfl, by decide, wi_X9, zGW_in 753 (by decide +kernel) (by decide +kernel)⟩
theorem fw_X9_37 : zFW RX9 37 9 24 RX9 TX9 40 := ⟨rfl, by decide, wi_X9, zGW_in 754 (by decide +kernel) (by decide +kernel)⟩
theorem fw_X9_40 : zFW RX9 40 9 26 RX9 TX9 40 := ⟨rfl, by decide, wi_X9, zGW_in 756 (by decide +kernel) (by decide +kernel)⟩
theorem fw_X9_43 : zFW RX9 43 9 28 RX9 TX9 40 := ⟨rfl, by decide, wi_X9, zGW_in 758 (by decide +kernel) (by decide +kernel)⟩
theorem fw_X9_46 : zFW RX9 46 9 32 RX9 TX9 40 := ⟨rfl, by decide, wi_X9, zGW_in 762 (by decide +kernel) (by decide +kernel)⟩
theorem fw_X9_49 : zFW RX9 49 9 33 RX9 TX9 40 := ⟨rfl, by decide, wi_X9, zGW_in 763 (by decide +kernel) (by decide +kernel)⟩
theorem fw_X9_52 : zFW RX9 52 9 35 RX9 TX9 40 := ⟨rfl, by decide, wi_X9, zGW_in 765 (by decide +kernel) (by decide +kernel)⟩
theorem fw_X9_55 : zFW RX9 55 9 36 RX9 TX9 40 := ⟨rfl, by decide, wi_X9, zGW_in 766 (by decide +kernel) (by decide +kernel)⟩
theorem fw_X9_58 : zFW RX9 58 9 37 RX9 TX9 40 := ⟨rfl, by decide, wi_X9, zGW_in 767 (by decide +kernel) (by decide +kernel)⟩
theorem fw_X9_62 : zFW RX9 62 9 5 RX9 TX9 40 := ⟨rfl, by decide, wi_X9, zGW_in 735 (by decide +kernel) (by decide +kernel)⟩
theorem fw_X9_66 : zFW RX9 66 9 6 RX9 TX9 40 := ⟨rfl, by decide, wi_X9, zGW_in 736 (by decide +kernel) (by decide +kernel)⟩
theorem fw_X9_69 : zFW RX9 69 9 7 RX9 TX9 40 := ⟨rfl, by decide, wi_X9, zGW_in 737 (by decide +kernel) (by decide +kernel)⟩
theorem fw_X9_72 : zFW RX9 72 9 8 RX9 TX9 40 := ⟨rfl, by decide, wi_X9, zGW_in 738 (by decide +kernel) (by decide +kernel)⟩
theorem fw_X9_75 : zFW RX9 75 9 9 RX9 TX9 40 := ⟨rfl, by decide, wi_X9, zGW_in 739 (by decide +kernel) (by decide +kernel)⟩
theorem fw_X9_78 : zFW RX9 78 9 10 RX9 TX9 40 := ⟨rfl, by decide, wi_X9, zGW_in 740 (by decide +kernel) (by decide +kernel)⟩
theorem fw_X9_81 : zFW RX9 81 9 12 RX9 TX9 40 := ⟨rfl, by decide, wi_X9, zGW_in 742 (by decide +kernel) (by decide +kernel)⟩
theorem fw_X9_84 : zFW RX9 84 9 14 RX9 TX9 40 := ⟨rfl, by decide, wi_X9, zGW_in 744 (by decide +kernel) (by decide +kernel)⟩
theorem fw_X9_97 : zFW RX9 97 9 0 RX9 TX9 40 := ⟨rfl, by decide, wi_X9, zGW_in 730 (by decide +kernel) (by decide +kernel)⟩
theorem fw_X9_115 : zFW RX9 115 9 11 RX9 TX9 40 := ⟨rfl, by decide, wi_X9, zGW_in 741 (by decide +kernel) (by decide +kernel)⟩
theorem fw_X9_130 : zFW RX9 130 9 27 RX9 TX9 40 := ⟨rfl, by decide, wi_X9, zGW_in 757 (by decide +kernel) (by decide +kernel)⟩
theorem fw_X9_151 : zFW RX9 151 9 15 RX9 TX9 40 := ⟨rfl, by decide, wi_X9, zGW_in 745 (by decide +kernel) (by decide +kernel)⟩
theorem fw_X9_154 : zFW RX9 154 9 16 RX9 TX9 40 := ⟨rfl, by decide, wi_X9, zGW_in 746 (by decide +kernel) (by decide +kernel)⟩
theorem fw_X9_166 : zFW RX9 166 9 17 RX9 TX9 40 := ⟨rfl, by decide, wi_X9, zGW_in 747 (by decide +kernel) (by decide +kernel)⟩
theorem fw_X9_169 : zFW RX9 169 9 30 RX9 TX9 40 := ⟨rfl, by decide, wi_X9, zGW_in 760 (by decide +kernel) (by decide +kernel)⟩
theorem fw_X9_172 : zFW RX9 172 9 31 RX9 TX9 40 := ⟨rfl, by decide, wi_X9, zGW_in 761 (by decide +kernel) (by decide +kernel)⟩
theorem fw_X9_175 : zFW RX9 175 9 29 RX9 TX9 40 := ⟨rfl, by decide, wi_X9, zGW_in 759 (by decide +kernel) (by decide +kernel)⟩
theorem fw_X9_231 : zFW RX9 231 9 34 RX9 TX9 40 := ⟨rfl, by decide, wi_X9, zGW_in 764 (by decide +kernel) (by decide +kernel)⟩
theorem fw_X9_262 : zFW RX9 262 9 18 RX9 TX9 40 := ⟨rfl, by decide, wi_X9, zGW_in 748 (by decide +kernel) (by decide +kernel)⟩
theorem fw_X9_272 : zFW RX9 272 9 21 RX9 TX9 40 := ⟨rfl, by decide, wi_X9, zGW_in 751 (by decide +kernel) (by decide +kernel)⟩
theorem fw_X9_297 : zFW RX9 297 9 25 RX9 TX9 40 := ⟨rfl, by decide, wi_X9, zGW_in 755 (by decide +kernel) (by decide +kernel)⟩
theorem fw_X9_302 : zFW RX9 302 9 39 RX9 TX9 40 := ⟨rfl, by decide, wi_X9, zGW_in 769 (by decide +kernel) (by decide +kernel)⟩
theorem fw_X9_306 : zFW RX9 306 9 38 RX9 TX9 40 := ⟨rfl, by decide, wi_X9, zGW_in 768 (by decide +kernel) (by decide +kernel)⟩
theorem pw_X1_0 : zPW 0 TX1 2 tyX1 .int := ⟨tyX1_ok, nmX1, rfl, by decide +kernel⟩
theorem pw_X2_1 : zPW 1 TX2 6 tyX2 .int := ⟨tyX2_ok, nmX2, rfl, by decide +kernel⟩
theorem pw_X3_0 : zPW 0 TX3 3 tyX3 .int := ⟨tyX3_ok, nmX3, rfl, by decide +kernel⟩
theorem pw_X4_1 : zPW 1 TX4 2 tyX4 .int := ⟨tyX4_ok, nmX4, rfl, by decide +kernel⟩
theorem pw_X5_0 : zPW 0 TX5 3 tyX5 .int := ⟨tyX5_ok, nmX5, rfl, by decide +kernel⟩
theorem pw_X6_0 : zPW 0 TX6 9 tyX6 .int := ⟨tyX6_ok, nmX6, rfl, by decide +kernel⟩
theorem pw_X6_7 : zPW 7 TX6 9 tyX6 .int := ⟨tyX6_ok, nmX6, rfl, by decide +kernel⟩
theorem pw_X7_1 : zPW 1 TX7 3 tyX7 .int := ⟨tyX7_ok, nmX7, rfl, by decide +kernel⟩
theorem pw_X7_2 : zPW 2 TX7 3 tyX7 .int := ⟨tyX7_ok, nmX7, rfl, by decide +kernel⟩
theorem pw_X8_3 : zPW 3 TX8 7 tyX8 .int := ⟨tyX8_ok, nmX8, rfl, by decide +kernel⟩
theorem pw_X9_0 : zPW 0 TX9 40 tyX9 .int := ⟨tyX9_ok, nmX9, rfl, by decide +kernel⟩
theorem pw_X9_5 : zPW 5 TX9 40 tyX9 .int := ⟨tyX9_ok, nmX9, rfl, by decide +kernel⟩
theorem pw_X9_6 : zPW 6 TX9 40 tyX9 .int := ⟨tyX9_ok, nmX9, rfl, by decide +kernel⟩
theorem pw_X9_7 : zPW 7 TX9 40 tyX9 .int := ⟨tyX9_ok, nmX9, rfl, by decide +kernel⟩
theorem pw_X9_8 : zPW 8 TX9 40 tyX9 .int := ⟨tyX9_ok, nmX9, rfl, by decide +kernel⟩
theorem pw_X9_9 : zPW 9 TX9 40 tyX9 .int := ⟨tyX9_ok, nmX9, rfl, by decide +kernel⟩
theorem pw_X9_10 : zPW 10 TX9 40 tyX9 .int := ⟨tyX9_ok, nmX9, rfl, by decide +kernel⟩
theorem pw_X9_11 : zPW 11 TX9 40 tyX9 .int := ⟨tyX9_ok, nmX9, rfl, by decide +kernel⟩
theorem pw_X9_12 : zPW 12 TX9 40 tyX9 .int := ⟨tyX9_ok, nmX9, rfl, by decide +kernel⟩
theorem pw_X9_14 : zPW 14 TX9 40 tyX9 .int := ⟨tyX9_ok, nmX9, rfl, by decide +kernel⟩
theorem pw_X9_15 : zPW 15 TX9 40 tyX9 .int := ⟨tyX9_ok, nmX9, rfl, by decide +kernel⟩
theorem pw_X9_16 : zPW 16 TX9 40 tyX9 .int := ⟨tyX9_ok, nmX9, rfl, by decide +kernel⟩
theorem pw_X9_17 : zPW 17 TX9 40 tyX9 .int := ⟨tyX9_ok, nmX9, rfl, by decide +kernel⟩
theorem pw_X9_18 : zPW 18 TX9 40 tyX9 .int := ⟨tyX9_ok, nmX9, rfl, by decide +kernel⟩
theorem pw_X9_21 : zPW 21 TX9 40 tyX9 .int := ⟨tyX9_ok, nmX9, rfl, by decide +kernel⟩
theorem pw_X9_25 : zPW 25 TX9 40 tyX9 .int := ⟨tyX9_ok, nmX9, rfl, by decide +kernel⟩
theorem pw_X9_27 : zPW 27 TX9 40 tyX9 .int := ⟨tyX9_ok, nmX9, rfl, by decide +kernel⟩
theorem pw_X9_29 : zPW 29 TX9 40 tyX9 .int := ⟨tyX9_ok, nmX9, rfl, by decide +kernel⟩
theorem pw_X9_30 : zPW 30 TX9 40 tyX9 .int := ⟨tyX9_ok, nmX9, rfl, by decide +kernel⟩
theorem pw_X9_31 : zPW 31 TX9 40 tyX9 .int := ⟨tyX9_ok, nmX9, rfl, by decide +kernel⟩
theorem pw_X9_34 : zPW 34 TX9 40 tyX9 .int := ⟨tyX9_ok, nmX9, rfl, by decide +kernel⟩
theorem pw_X9_38 : zPW 38 TX9 40 tyX9 .int := ⟨tyX9_ok, nmX9, rfl, by decide +kernel⟩
theorem pw_X9_39 : zPW 39 TX9 40 tyX9 .boolean := ⟨tyX9_ok, nmX9, rfl, by decide +kernel⟩
theorem mc_X6_has : Cond.code yX6_has cX6_has 2 (some .boolean) ∈ zGW := zGW_in 302 (by decide +kernel) (by decide +kernel)
theorem mi_X6_has : Cond.instanceMethod yX6_has ∈ zGW := zGW_in 300 (by decide +kernel) (by decide +kernel)
theorem ml_X6_has : Cond.selects yX6_has.cls yX6_has yX6_has ∈ zGW := zGW_in 301 (by decide +kernel) (by decide +kernel)
theorem my_X6_has : yX6_has.cls ≠ "java/lang/invoke/MethodHandle" ∧ yX6_has.cls ≠ "java/lang/invoke/VarHandle" ∧ (parseMethodDescriptor yX6_has.desc).map (fun d => d.parameters.length) = some 1 := by decide +kernel
theorem ni_X6 : Cond.initialized RX6 ∈ zGW := zGW_in 49 (by decide +kernel) (by decide +kernel)
theorem vw_X8_79 : zVW RX8 79 yX6_has cX6_has 2 (some .boolean) 1 := ⟨mc_X6_has, zGW_in 299 (by decide +kernel) (by decide +kernel), mi_X6_has, ml_X6_has, ni_X6, my_X6_has⟩
theorem mc_X4_clear : Cond.code yX4_clear cX4_clear 2 (some .int) ∈ zGW := zGW_in 323 (by decide +kernel) (by decide +kernel)
theorem mi_X4_clear : Cond.instanceMethod yX4_clear ∈ zGW := zGW_in 321 (by decide +kernel) (by decide +kernel)
theorem ml_X4_clear : Cond.selects yX4_clear.cls yX4_clear yX4_clear ∈ zGW := zGW_in 322 (by decide +kernel) (by decide +kernel)
theorem my_X4_clear : yX4_clear.cls ≠ "java/lang/invoke/MethodHandle" ∧ yX4_clear.cls ≠ "java/lang/invoke/VarHandle" ∧ (parseMethodDescriptor yX4_clear.desc).map (fun d => d.parameters.length) = some 0 := by decide +kernel
theorem ni_X4 : Cond.initialized RX4 ∈ zGW := zGW_in 53 (by decide +kernel) (by decide +kernel)
theorem vw_X8_98 : zVW RX8 98 yX4_clear cX4_clear 2 (some .int) 0 := ⟨mc_X4_clear, zGW_in 320 (by decide +kernel) (by decide +kernel), mi_X4_clear, ml_X4_clear, ni_X4, my_X4_clear⟩
theorem mc_X4_faultAsTide : Cond.code yX4_faultAsTide cX4_faultAsTide 2 (some .int) ∈ zGW := zGW_in 331 (by decide +kernel) (by decide +kernel)
theorem mi_X4_faultAsTide : Cond.instanceMethod yX4_faultAsTide ∈ zGW := zGW_in 329 (by decide +kernel) (by decide +kernel)
theorem ml_X4_faultAsTide : Cond.selects yX4_faultAsTide.cls yX4_faultAsTide yX4_faultAsTide ∈ zGW := zGW_in 330 (by decide +kernel) (by decide +kernel)
theorem my_X4_faultAsTide : yX4_faultAsTide.cls ≠ "java/lang/invoke/MethodHandle" ∧ yX4_faultAsTide.cls ≠ "java/lang/invoke/VarHandle" ∧ (parseMethodDescriptor yX4_faultAsTide.desc).map (fun d => d.parameters.length) = some 0 := by decide +kernel
theorem vw_X8_102 : zVW RX8 102 yX4_faultAsTide cX4_faultAsTide 2 (some .int) 0 := ⟨mc_X4_faultAsTide, zGW_in 328 (by decide +kernel) (by decide +kernel), mi_X4_faultAsTide, ml_X4_faultAsTide, ni_X4, my_X4_faultAsTide⟩
theorem mc_X4_faultAsSeason : Cond.code yX4_faultAsSeason cX4_faultAsSeason 4 (some .int) ∈ zGW := zGW_in 336 (by decide +kernel) (by decide +kernel)
theorem mi_X4_faultAsSeason : Cond.instanceMethod yX4_faultAsSeason ∈ zGW := zGW_in 334 (by decide +kernel) (by decide +kernel)
theorem ml_X4_faultAsSeason : Cond.selects yX4_faultAsSeason.cls yX4_faultAsSeason yX4_faultAsSeason ∈ zGW := zGW_in 335 (by decide +kernel) (by decide +kernel)
theorem my_X4_faultAsSeason : yX4_faultAsSeason.cls ≠ "java/lang/invoke/MethodHandle" ∧ yX4_faultAsSeason.cls ≠ "java/lang/invoke/VarHandle" ∧ (parseMethodDescriptor yX4_faultAsSeason.desc).map (fun d => d.parameters.length) = some 0 := by decide +kernel
theorem vw_X8_105 : zVW RX8 105 yX4_faultAsSeason cX4_faultAsSeason 4 (some .int) 0 := ⟨mc_X4_faultAsSeason, zGW_in 333 (by decide +kernel) (by decide +kernel), mi_X4_faultAsSeason, ml_X4_faultAsSeason, ni_X4, my_X4_faultAsSeason⟩
theorem mc_X7_tryOut : Cond.code yX7_tryOut cX7_tryOut 6 none ∈ zGW := zGW_in 367 (by decide +kernel) (by decide +kernel)
theorem mi_X7_tryOut : Cond.instanceMethod yX7_tryOut ∈ zGW := zGW_in 365 (by decide +kernel) (by decide +kernel)
theorem ml_X7_tryOut : Cond.selects yX7_tryOut.cls yX7_tryOut yX7_tryOut ∈ zGW := zGW_in 366 (by decide +kernel) (by decide +kernel)
theorem my_X7_tryOut : yX7_tryOut.cls ≠ "java/lang/invoke/MethodHandle" ∧ yX7_tryOut.cls ≠ "java/lang/invoke/VarHandle" ∧ (parseMethodDescriptor yX7_tryOut.desc).map (fun d => d.parameters.length) = some 2 := by decide +kernel
theorem ni_X7 : Cond.initialized RX7 ∈ zGW := zGW_in 54 (by decide +kernel) (by decide +kernel)
theorem vw_X8_120 : zVW RX8 120 yX7_tryOut cX7_tryOut 6 none 2 := ⟨mc_X7_tryOut, zGW_in 364 (by decide +kernel) (by decide +kernel), mi_X7_tryOut, ml_X7_tryOut, ni_X7, my_X7_tryOut⟩
theorem mc_X6_look : Cond.code yX6_look cX6_look 3 (some .int) ∈ zGW := zGW_in 430 (by decide +kernel) (by decide +kernel)
theorem mi_X6_look : Cond.instanceMethod yX6_look ∈ zGW := zGW_in 428 (by decide +kernel) (by decide +kernel)
theorem ml_X6_look : Cond.selects yX6_look.cls yX6_look yX6_look ∈ zGW := zGW_in 429 (by decide +kernel) (by decide +kernel)
theorem my_X6_look : yX6_look.cls ≠ "java/lang/invoke/MethodHandle" ∧ yX6_look.cls ≠ "java/lang/invoke/VarHandle" ∧ (parseMethodDescriptor yX6_look.desc).map (fun d => d.parameters.length) = some 2 := by decide +kernel
theorem vw_X8_130 : zVW RX8 130 yX6_look cX6_look 3 (some .int) 2 := ⟨mc_X6_look, zGW_in 427 (by decide +kernel) (by decide +kernel), mi_X6_look, ml_X6_look, ni_X6, my_X6_look⟩
theorem mc_X8_seasonCanBe : Cond.code yX8_seasonCanBe cX8_seasonCanBe 1 (some .boolean) ∈ zGW := zGW_in 438 (by decide +kernel) (by decide +kernel)
theorem mi_X8_seasonCanBe : Cond.instanceMethod yX8_seasonCanBe ∈ zGW := zGW_in 437 (by decide +kernel) (by decide +kernel)
theorem ml_X8_seasonCanBe : Cond.selects yX8_seasonCanBe.cls yX8_seasonCanBe yX8_seasonCanBe ∈ zGW := zGW_in 5 (by decide +kernel) (by decide +kernel)
theorem my_X8_seasonCanBe : yX8_seasonCanBe.cls ≠ "java/lang/invoke/MethodHandle" ∧ yX8_seasonCanBe.cls ≠ "java/lang/invoke/VarHandle" ∧ (parseMethodDescriptor yX8_seasonCanBe.desc).map (fun d => d.parameters.length) = some 0 := by decide +kernel
theorem ni_X8 : Cond.initialized RX8 ∈ zGW := zGW_in 47 (by decide +kernel) (by decide +kernel)
theorem vw_X8_133 : zVW RX8 133 yX8_seasonCanBe cX8_seasonCanBe 1 (some .boolean) 0 := ⟨mc_X8_seasonCanBe, zGW_in 435 (by decide +kernel) (by decide +kernel), mi_X8_seasonCanBe, ml_X8_seasonCanBe, ni_X8, my_X8_seasonCanBe⟩
theorem mc_X6_become : Cond.code yX6_become cX6_become 2 none ∈ zGW := zGW_in 371 (by decide +kernel) (by decide +kernel)
theorem mi_X6_become : Cond.instanceMethod yX6_become ∈ zGW := zGW_in 369 (by decide +kernel) (by decide +kernel)
theorem ml_X6_become : Cond.selects yX6_become.cls yX6_become yX6_become ∈ zGW := zGW_in 370 (by decide +kernel) (by decide +kernel)
theorem my_X6_become : yX6_become.cls ≠ "java/lang/invoke/MethodHandle" ∧ yX6_become.cls ≠ "java/lang/invoke/VarHandle" ∧ (parseMethodDescriptor yX6_become.desc).map (fun d => d.parameters.length) = some 1 := by decide +kernel
theorem vw_X8_138 : zVW RX8 138 yX6_become cX6_become 2 none 1 := ⟨mc_X6_become, zGW_in 443 (by decide +kernel) (by decide +kernel), mi_X6_become, ml_X6_become, ni_X6, my_X6_become⟩
theorem mc_X6_meanBy : Cond.code yX6_meanBy cX6_meanBy 4 (some .int) ∈ zGW := zGW_in 458 (by decide +kernel) (by decide +kernel)
theorem mi_X6_meanBy : Cond.instanceMethod yX6_meanBy ∈ zGW := zGW_in 456 (by decide +kernel) (by decide +kernel)
theorem ml_X6_meanBy : Cond.selects yX6_meanBy.cls yX6_meanBy yX6_meanBy ∈ zGW := zGW_in 457 (by decide +kernel) (by decide +kernel)
theorem my_X6_meanBy : yX6_meanBy.cls ≠ "java/lang/invoke/MethodHandle" ∧ yX6_meanBy.cls ≠ "java/lang/invoke/VarHandle" ∧ (parseMethodDescriptor yX6_meanBy.desc).map (fun d => d.parameters.length) = some 3 := by decide +kernel
theorem vw_X8_148 : zVW RX8 148 yX6_meanBy cX6_meanBy 4 (some .int) 3 := ⟨mc_X6_meanBy, zGW_in 455 (by decide +kernel) (by decide +kernel), mi_X6_meanBy, ml_X6_meanBy, ni_X6, my_X6_meanBy⟩
theorem mc_X6_worstBy : Cond.code yX6_worstBy cX6_worstBy 4 (some .int) ∈ zGW := zGW_in 474 (by decide +kernel) (by decide +kernel)
theorem mi_X6_worstBy : Cond.instanceMethod yX6_worstBy ∈ zGW := zGW_in 472 (by decide +kernel) (by decide +kernel)
theorem ml_X6_worstBy : Cond.selects yX6_worstBy.cls yX6_worstBy yX6_worstBy ∈ zGW := zGW_in 473 (by decide +kernel) (by decide +kernel)
theorem my_X6_worstBy : yX6_worstBy.cls ≠ "java/lang/invoke/MethodHandle" ∧ yX6_worstBy.cls ≠ "java/lang/invoke/VarHandle" ∧ (parseMethodDescriptor yX6_worstBy.desc).map (fun d => d.parameters.length) = some 3 := by decide +kernel
theorem vw_X8_152 : zVW RX8 152 yX6_worstBy cX6_worstBy 4 (some .int) 3 := ⟨mc_X6_worstBy, zGW_in 471 (by decide +kernel) (by decide +kernel), mi_X6_worstBy, ml_X6_worstBy, ni_X6, my_X6_worstBy⟩
theorem mc_X8_refusalOf : Cond.code yX8_refusalOf cX8_refusalOf 3 (some .int) ∈ zGW := zGW_in 482 (by decide +kernel) (by decide +kernel)
theorem mi_X8_refusalOf : Cond.instanceMethod yX8_refusalOf ∈ zGW := zGW_in 481 (by decide +kernel) (by decide +kernel)
theorem ml_X8_refusalOf : Cond.selects yX8_refusalOf.cls yX8_refusalOf yX8_refusalOf ∈ zGW := zGW_in 6 (by decide +kernel) (by decide +kernel)
theorem my_X8_refusalOf : yX8_refusalOf.cls ≠ "java/lang/invoke/MethodHandle" ∧ yX8_refusalOf.cls ≠ "java/lang/invoke/VarHandle" ∧ (parseMethodDescriptor yX8_refusalOf.desc).map (fun d => d.parameters.length) = some 2 := by decide +kernel
theorem vw_X8_155 : zVW RX8 155 yX8_refusalOf cX8_refusalOf 3 (some .int) 2 := ⟨mc_X8_refusalOf, zGW_in 479 (by decide +kernel) (by decide +kernel), mi_X8_refusalOf, ml_X8_refusalOf, ni_X8, my_X8_refusalOf⟩
theorem mc_X6_ownersSide : Cond.code yX6_ownersSide cX6_ownersSide 5 (some .int) ∈ zGW := zGW_in 486 (by decide +kernel) (by decide +kernel)
theorem mi_X6_ownersSide : Cond.instanceMethod yX6_ownersSide ∈ zGW := zGW_in 484 (by decide +kernel) (by decide +kernel)
theorem ml_X6_ownersSide : Cond.selects yX6_ownersSide.cls yX6_ownersSide yX6_ownersSide ∈ zGW := zGW_in 485 (by decide +kernel) (by decide +kernel)
theorem my_X6_ownersSide : yX6_ownersSide.cls ≠ "java/lang/invoke/MethodHandle" ∧ yX6_ownersSide.cls ≠ "java/lang/invoke/VarHandle" ∧ (parseMethodDescriptor yX6_ownersSide.desc).map (fun d => d.parameters.length) = some 2 := by decide +kernel
theorem vw_X8_158 : zVW RX8 158 yX6_ownersSide cX6_ownersSide 5 (some .int) 2 := ⟨mc_X6_ownersSide, zGW_in 483 (by decide +kernel) (by decide +kernel), mi_X6_ownersSide, ml_X6_ownersSide, ni_X6, my_X6_ownersSide⟩
theorem mc_X6_leastMean : Cond.code yX6_leastMean cX6_leastMean 3 (some .int) ∈ zGW := zGW_in 495 (by decide +kernel) (by decide +kernel)
theorem mi_X6_leastMean : Cond.instanceMethod yX6_leastMean ∈ zGW := zGW_in 493 (by decide +kernel) (by decide +kernel)
theorem ml_X6_leastMean : Cond.selects yX6_leastMean.cls yX6_leastMean yX6_leastMean ∈ zGW := zGW_in 494 (by decide +kernel) (by decide +kernel)
theorem my_X6_leastMean : yX6_leastMean.cls ≠ "java/lang/invoke/MethodHandle" ∧ yX6_leastMean.cls ≠ "java/lang/invoke/VarHandle" ∧ (parseMethodDescriptor yX6_leastMean.desc).map (fun d => d.parameters.length) = some 2 := by decide +kernel
theorem vw_X8_161 : zVW RX8 161 yX6_leastMean cX6_leastMean 3 (some .int) 2 := ⟨mc_X6_leastMean, zGW_in 492 (by decide +kernel) (by decide +kernel), mi_X6_leastMean, ml_X6_leastMean, ni_X6, my_X6_leastMean⟩
theorem mc_X6_moored : Cond.code yX6_moored cX6_moored 2 (some .boolean) ∈ zGW := zGW_in 385 (by decide +kernel) (by decide +kernel)
theorem mi_X6_moored : Cond.instanceMethod yX6_moored ∈ zGW := zGW_in 383 (by decide +kernel) (by decide +kernel)
theorem ml_X6_moored : Cond.selects yX6_moored.cls yX6_moored yX6_moored ∈ zGW := zGW_in 384 (by decide +kernel) (by decide +kernel)
theorem my_X6_moored : yX6_moored.cls ≠ "java/lang/invoke/MethodHandle" ∧ yX6_moored.cls ≠ "java/lang/invoke/VarHandle" ∧ (parseMethodDescriptor yX6_moored.desc).map (fun d => d.parameters.length) = some 1 := by decide +kernel
theorem vw_X8_164 : zVW RX8 164 yX6_moored cX6_moored 2 (some .boolean) 1 := ⟨mc_X6_moored, zGW_in 501 (by decide +kernel) (by decide +kernel), mi_X6_moored, ml_X6_moored, ni_X6, my_X6_moored⟩
theorem mc_X2_gather : Cond.code yX2_gather cX2_gather 7 none ∈ zGW := zGW_in 506 (by decide +kernel) (by decide +kernel)
theorem mi_X2_gather : Cond.instanceMethod yX2_gather ∈ zGW := zGW_in 504 (by decide +kernel) (by decide +kernel)
theorem ml_X2_gather : Cond.selects yX2_gather.cls yX2_gather yX2_gather ∈ zGW := zGW_in 505 (by decide +kernel) (by decide +kernel)
theorem my_X2_gather : yX2_gather.cls ≠ "java/lang/invoke/MethodHandle" ∧ yX2_gather.cls ≠ "java/lang/invoke/VarHandle" ∧ (parseMethodDescriptor yX2_gather.desc).map (fun d => d.parameters.length) = some 2 := by decide +kernel
theorem ni_X2 : Cond.initialized RX2 ∈ zGW := zGW_in 55 (by decide +kernel) (by decide +kernel)
theorem vw_X8_168 : zVW RX8 168 yX2_gather cX2_gather 7 none 2 := ⟨mc_X2_gather, zGW_in 503 (by decide +kernel) (by decide +kernel), mi_X2_gather, ml_X2_gather, ni_X2, my_X2_gather⟩
theorem mc_X2_leastWithin : Cond.code yX2_leastWithin cX2_leastWithin 5 (some .int) ∈ zGW := zGW_in 513 (by decide +kernel) (by decide +kernel)
theorem mi_X2_leastWithin : Cond.instanceMethod yX2_leastWithin ∈ zGW := zGW_in 511 (by decide +kernel) (by decide +kernel)
theorem ml_X2_leastWithin : Cond.selects yX2_leastWithin.cls yX2_leastWithin yX2_leastWithin ∈ zGW := zGW_in 512 (by decide +kernel) (by decide +kernel)
theorem my_X2_leastWithin : yX2_leastWithin.cls ≠ "java/lang/invoke/MethodHandle" ∧ yX2_leastWithin.cls ≠ "java/lang/invoke/VarHandle" ∧ (parseMethodDescriptor yX2_leastWithin.desc).map (fun d => d.parameters.length) = some 1 := by decide +kernel
theorem vw_X8_172 : zVW RX8 172 yX2_leastWithin cX2_leastWithin 5 (some .int) 1 := ⟨mc_X2_leastWithin, zGW_in 510 (by decide +kernel) (by decide +kernel), mi_X2_leastWithin, ml_X2_leastWithin, ni_X2, my_X2_leastWithin⟩
theorem mc_X2_meanOfChoice : Cond.code yX2_meanOfChoice cX2_meanOfChoice 2 (some .int) ∈ zGW := zGW_in 527 (by decide +kernel) (by decide +kernel)
theorem mi_X2_meanOfChoice : Cond.instanceMethod yX2_meanOfChoice ∈ zGW := zGW_in 525 (by decide +kernel) (by decide +kernel)
theorem ml_X2_meanOfChoice : Cond.selects yX2_meanOfChoice.cls yX2_meanOfChoice yX2_meanOfChoice ∈ zGW := zGW_in 526 (by decide +kernel) (by decide +kernel)
theorem my_X2_meanOfChoice : yX2_meanOfChoice.cls ≠ "java/lang/invoke/MethodHandle" ∧ yX2_meanOfChoice.cls ≠ "java/lang/invoke/VarHandle" ∧ (parseMethodDescriptor yX2_meanOfChoice.desc).map (fun d => d.parameters.length) = some 1 := by decide +kernel
theorem vw_X8_175 : zVW RX8 175 yX2_meanOfChoice cX2_meanOfChoice 2 (some .int) 1 := ⟨mc_X2_meanOfChoice, zGW_in 524 (by decide +kernel) (by decide +kernel), mi_X2_meanOfChoice, ml_X2_meanOfChoice, ni_X2, my_X2_meanOfChoice⟩
theorem mc_X2_sideInChoice : Cond.code yX2_sideInChoice cX2_sideInChoice 5 (some .int) ∈ zGW := zGW_in 532 (by decide +kernel) (by decide +kernel)
theorem mi_X2_sideInChoice : Cond.instanceMethod yX2_sideInChoice ∈ zGW := zGW_in 530 (by decide +kernel) (by decide +kernel)
theorem ml_X2_sideInChoice : Cond.selects yX2_sideInChoice.cls yX2_sideInChoice yX2_sideInChoice ∈ zGW := zGW_in 531 (by decide +kernel) (by decide +kernel)
theorem my_X2_sideInChoice : yX2_sideInChoice.cls ≠ "java/lang/invoke/MethodHandle" ∧ yX2_sideInChoice.cls ≠ "java/lang/invoke/VarHandle" ∧ (parseMethodDescriptor yX2_sideInChoice.desc).map (fun d => d.parameters.length) = some 2 := by decide +kernel
theorem vw_X8_178 : zVW RX8 178 yX2_sideInChoice cX2_sideInChoice 5 (some .int) 2 := ⟨mc_X2_sideInChoice, zGW_in 529 (by decide +kernel) (by decide +kernel), mi_X2_sideInChoice, ml_X2_sideInChoice, ni_X2, my_X2_sideInChoice⟩
theorem mc_X2_drawLine : Cond.code yX2_drawLine cX2_drawLine 3 (some .int) ∈ zGW := zGW_in 540 (by decide +kernel) (by decide +kernel)
theorem mi_X2_drawLine : Cond.instanceMethod yX2_drawLine ∈ zGW := zGW_in 538 (by decide +kernel) (by decide +kernel)
theorem ml_X2_drawLine : Cond.selects yX2_drawLine.cls yX2_drawLine yX2_drawLine ∈ zGW := zGW_in 539 (by decide +kernel) (by decide +kernel)
theorem my_X2_drawLine : yX2_drawLine.cls ≠ "java/lang/invoke/MethodHandle" ∧ yX2_drawLine.cls ≠ "java/lang/invoke/VarHandle" ∧ (parseMethodDescriptor yX2_drawLine.desc).map (fun d => d.parameters.length) = some 0 := by decide +kernel
theorem vw_X8_181 : zVW RX8 181 yX2_drawLine cX2_drawLine 3 (some .int) 0 := ⟨mc_X2_drawLine, zGW_in 537 (by decide +kernel) (by decide +kernel), mi_X2_drawLine, ml_X2_drawLine, ni_X2, my_X2_drawLine⟩
theorem mc_X2_onLine : Cond.code yX2_onLine cX2_onLine 3 (some .int) ∈ zGW := zGW_in 553 (by decide +kernel) (by decide +kernel)
theorem mi_X2_onLine : Cond.instanceMethod yX2_onLine ∈ zGW := zGW_in 551 (by decide +kernel) (by decide +kernel)
theorem ml_X2_onLine : Cond.selects yX2_onLine.cls yX2_onLine yX2_onLine ∈ zGW := zGW_in 552 (by decide +kernel) (by decide +kernel)
theorem my_X2_onLine : yX2_onLine.cls ≠ "java/lang/invoke/MethodHandle" ∧ yX2_onLine.cls ≠ "java/lang/invoke/VarHandle" ∧ (parseMethodDescriptor yX2_onLine.desc).map (fun d => d.parameters.length) = some 2 := by decide +kernel
theorem vw_X8_184 : zVW RX8 184 yX2_onLine cX2_onLine 3 (some .int) 2 := ⟨mc_X2_onLine, zGW_in 550 (by decide +kernel) (by decide +kernel), mi_X2_onLine, ml_X2_onLine, ni_X2, my_X2_onLine⟩
theorem mc_X2_commonSide : Cond.code yX2_commonSide cX2_commonSide 3 (some .int) ∈ zGW := zGW_in 561 (by decide +kernel) (by decide +kernel)
theorem mi_X2_commonSide : Cond.instanceMethod yX2_commonSide ∈ zGW := zGW_in 559 (by decide +kernel) (by decide +kernel)
theorem ml_X2_commonSide : Cond.selects yX2_commonSide.cls yX2_commonSide yX2_commonSide ∈ zGW := zGW_in 560 (by decide +kernel) (by decide +kernel)
theorem my_X2_commonSide : yX2_commonSide.cls ≠ "java/lang/invoke/MethodHandle" ∧ yX2_commonSide.cls ≠ "java/lang/invoke/VarHandle" ∧ (parseMethodDescriptor yX2_commonSide.desc).map (fun d => d.parameters.length) = some 0 := by decide +kernel
theorem vw_X8_187 : zVW RX8 187 yX2_commonSide cX2_commonSide 3 (some .int) 0 := ⟨mc_X2_commonSide, zGW_in 558 (by decide +kernel) (by decide +kernel), mi_X2_commonSide, ml_X2_commonSide, ni_X2, my_X2_commonSide⟩
theorem mc_X2_meanOfAllBy : Cond.code yX2_meanOfAllBy cX2_meanOfAllBy 4 (some .int) ∈ zGW := zGW_in 565 (by decide +kernel) (by decide +kernel)
theorem mi_X2_meanOfAllBy : Cond.instanceMethod yX2_meanOfAllBy ∈ zGW := zGW_in 563 (by decide +kernel) (by decide +kernel)
theorem ml_X2_meanOfAllBy : Cond.selects yX2_meanOfAllBy.cls yX2_meanOfAllBy yX2_meanOfAllBy ∈ zGW := zGW_in 564 (by decide +kernel) (by decide +kernel)
theorem my_X2_meanOfAllBy : yX2_meanOfAllBy.cls ≠ "java/lang/invoke/MethodHandle" ∧ yX2_meanOfAllBy.cls ≠ "java/lang/invoke/VarHandle" ∧ (parseMethodDescriptor yX2_meanOfAllBy.desc).map (fun d => d.parameters.length) = some 1 := by decide +kernel
theorem vw_X8_190 : zVW RX8 190 yX2_meanOfAllBy cX2_meanOfAllBy 4 (some .int) 1 := ⟨mc_X2_meanOfAllBy, zGW_in 566 (by decide +kernel) (by decide +kernel), mi_X2_meanOfAllBy, ml_X2_meanOfAllBy, ni_X2, my_X2_meanOfAllBy⟩
theorem mc_X6_captainsSide : Cond.code yX6_captainsSide cX6_captainsSide 6 (some .int) ∈ zGW := zGW_in 574 (by decide +kernel) (by decide +kernel)
theorem mi_X6_captainsSide : Cond.instanceMethod yX6_captainsSide ∈ zGW := zGW_in 572 (by decide +kernel) (by decide +kernel)
theorem ml_X6_captainsSide : Cond.selects yX6_captainsSide.cls yX6_captainsSide yX6_captainsSide ∈ zGW := zGW_in 573 (by decide +kernel) (by decide +kernel)
theorem my_X6_captainsSide : yX6_captainsSide.cls ≠ "java/lang/invoke/MethodHandle" ∧ yX6_captainsSide.cls ≠ "java/lang/invoke/VarHandle" ∧ (parseMethodDescriptor yX6_captainsSide.desc).map (fun d => d.parameters.length) = some 3 := by decide +kernel
theorem vw_X8_193 : zVW RX8 193 yX6_captainsSide cX6_captainsSide 6 (some .int) 3 := ⟨mc_X6_captainsSide, zGW_in 571 (by decide +kernel) (by decide +kernel), mi_X6_captainsSide, ml_X6_captainsSide, ni_X6, my_X6_captainsSide⟩
theorem mc_X6_digitAt : Cond.code yX6_digitAt cX6_digitAt 2 (some .int) ∈ zGW := zGW_in 418 (by decide +kernel) (by decide +kernel)
theorem mi_X6_digitAt : Cond.instanceMethod yX6_digitAt ∈ zGW := zGW_in 416 (by decide +kernel) (by decide +kernel)
theorem ml_X6_digitAt : Cond.selects yX6_digitAt.cls yX6_digitAt yX6_digitAt ∈ zGW := zGW_in 417 (by decide +kernel) (by decide +kernel)
theorem my_X6_digitAt : yX6_digitAt.cls ≠ "java/lang/invoke/MethodHandle" ∧ yX6_digitAt.cls ≠ "java/lang/invoke/VarHandle" ∧ (parseMethodDescriptor yX6_digitAt.desc).map (fun d => d.parameters.length) = some 1 := by decide +kernel
theorem vw_X8_209 : zVW RX8 209 yX6_digitAt cX6_digitAt 2 (some .int) 1 := ⟨mc_X6_digitAt, zGW_in 599 (by decide +kernel) (by decide +kernel), mi_X6_digitAt, ml_X6_digitAt, ni_X6, my_X6_digitAt⟩
theorem mc_X3_worthTaking : Cond.code yX3_worthTaking cX3_worthTaking 4 (some .int) ∈ zGW := zGW_in 603 (by decide +kernel) (by decide +kernel)
theorem mi_X3_worthTaking : Cond.instanceMethod yX3_worthTaking ∈ zGW := zGW_in 601 (by decide +kernel) (by decide +kernel)
theorem ml_X3_worthTaking : Cond.selects yX3_worthTaking.cls yX3_worthTaking yX3_worthTaking ∈ zGW := zGW_in 602 (by decide +kernel) (by decide +kernel)
theorem my_X3_worthTaking : yX3_worthTaking.cls ≠ "java/lang/invoke/MethodHandle" ∧ yX3_worthTaking.cls ≠ "java/lang/invoke/VarHandle" ∧ (parseMethodDescriptor yX3_worthTaking.desc).map (fun d => d.parameters.length) = some 1 := by decide +kernel
theorem ni_X3 : Cond.initialized RX3 ∈ zGW := zGW_in 50 (by decide +kernel) (by decide +kernel)
theorem vw_X8_212 : zVW RX8 212 yX3_worthTaking cX3_worthTaking 4 (some .int) 1 := ⟨mc_X3_worthTaking, zGW_in 600 (by decide +kernel) (by decide +kernel), mi_X3_worthTaking, ml_X3_worthTaking, ni_X3, my_X3_worthTaking⟩
theorem mc_X3_premiumsOf : Cond.code yX3_premiumsOf cX3_premiumsOf 2 (some .int) ∈ zGW := zGW_in 607 (by decide +kernel) (by decide +kernel)
theorem mi_X3_premiumsOf : Cond.instanceMethod yX3_premiumsOf ∈ zGW := zGW_in 605 (by decide +kernel) (by decide +kernel)
theorem ml_X3_premiumsOf : Cond.selects yX3_premiumsOf.cls yX3_premiumsOf yX3_premiumsOf ∈ zGW := zGW_in 606 (by decide +kernel) (by decide +kernel)
theorem my_X3_premiumsOf : yX3_premiumsOf.cls ≠ "java/lang/invoke/MethodHandle" ∧ yX3_premiumsOf.cls ≠ "java/lang/invoke/VarHandle" ∧ (parseMethodDescriptor yX3_premiumsOf.desc).map (fun d => d.parameters.length) = some 1 := by decide +kernel
theorem vw_X8_215 : zVW RX8 215 yX3_premiumsOf cX3_premiumsOf 2 (some .int) 1 := ⟨mc_X3_premiumsOf, zGW_in 604 (by decide +kernel) (by decide +kernel), mi_X3_premiumsOf, ml_X3_premiumsOf, ni_X3, my_X3_premiumsOf⟩
theorem mc_X3_paysOf : Cond.code yX3_paysOf cX3_paysOf 2 (some .int) ∈ zGW := zGW_in 614 (by decide +kernel) (by decide +kernel)
theorem mi_X3_paysOf : Cond.instanceMethod yX3_paysOf ∈ zGW := zGW_in 612 (by decide +kernel) (by decide +kernel)
theorem ml_X3_paysOf : Cond.selects yX3_paysOf.cls yX3_paysOf yX3_paysOf ∈ zGW := zGW_in 613 (by decide +kernel) (by decide +kernel)
theorem my_X3_paysOf : yX3_paysOf.cls ≠ "java/lang/invoke/MethodHandle" ∧ yX3_paysOf.cls ≠ "java/lang/invoke/VarHandle" ∧ (parseMethodDescriptor yX3_paysOf.desc).map (fun d => d.parameters.length) = some 1 := by decide +kernel
theorem vw_X8_218 : zVW RX8 218 yX3_paysOf cX3_paysOf 2 (some .int) 1 := ⟨mc_X3_paysOf, zGW_in 611 (by decide +kernel) (by decide +kernel), mi_X3_paysOf, ml_X3_paysOf, ni_X3, my_X3_paysOf⟩
theorem mc_X6_whole : Cond.code yX6_whole cX6_whole 2 (some .int) ∈ zGW := zGW_in 462 (by decide +kernel) (by decide +kernel)
theorem mi_X6_whole : Cond.instanceMethod yX6_whole ∈ zGW := zGW_in 460 (by decide +kernel) (by decide +kernel)
theorem ml_X6_whole : Cond.selects yX6_whole.cls yX6_whole yX6_whole ∈ zGW := zGW_in 461 (by decide +kernel) (by decide +kernel)
theorem my_X6_whole : yX6_whole.cls ≠ "java/lang/invoke/MethodHandle" ∧ yX6_whole.cls ≠ "java/lang/invoke/VarHandle" ∧ (parseMethodDescriptor yX6_whole.desc).map (fun d => d.parameters.length) = some 1 := by decide +kernel
theorem vw_X8_221 : zVW RX8 221 yX6_whole cX6_whole 2 (some .int) 1 := ⟨mc_X6_whole, zGW_in 615 (by decide +kernel) (by decide +kernel), mi_X6_whole, ml_X6_whole, ni_X6, my_X6_whole⟩
theorem mc_X1_has : Cond.code yX1_has cX1_has 2 (some .boolean) ∈ zGW := zGW_in 629 (by decide +kernel) (by decide +kernel)
theorem mi_X1_has : Cond.instanceMethod yX1_has ∈ zGW := zGW_in 627 (by decide +kernel) (by decide +kernel)
theorem ml_X1_has : Cond.selects yX1_has.cls yX1_has yX1_has ∈ zGW := zGW_in 628 (by decide +kernel) (by decide +kernel)
theorem my_X1_has : yX1_has.cls ≠ "java/lang/invoke/MethodHandle" ∧ yX1_has.cls ≠ "java/lang/invoke/VarHandle" ∧ (parseMethodDescriptor yX1_has.desc).map (fun d => d.parameters.length) = some 1 := by decide +kernel
theorem ni_X1 : Cond.initialized RX1 ∈ zGW := zGW_in 51 (by decide +kernel) (by decide +kernel)
theorem vw_X8_238 : zVW RX8 238 yX1_has cX1_has 2 (some .boolean) 1 := ⟨mc_X1_has, zGW_in 626 (by decide +kernel) (by decide +kernel), mi_X1_has, ml_X1_has, ni_X1, my_X1_has⟩
theorem mc_X1_countDrawn : Cond.code yX1_countDrawn cX1_countDrawn 5 (some .int) ∈ zGW := zGW_in 640 (by decide +kernel) (by decide +kernel)
theorem mi_X1_countDrawn : Cond.instanceMethod yX1_countDrawn ∈ zGW := zGW_in 638 (by decide +kernel) (by decide +kernel)
theorem ml_X1_countDrawn : Cond.selects yX1_countDrawn.cls yX1_countDrawn yX1_countDrawn ∈ zGW := zGW_in 639 (by decide +kernel) (by decide +kernel)
theorem my_X1_countDrawn : yX1_countDrawn.cls ≠ "java/lang/invoke/MethodHandle" ∧ yX1_countDrawn.cls ≠ "java/lang/invoke/VarHandle" ∧ (parseMethodDescriptor yX1_countDrawn.desc).map (fun d => d.parameters.length) = some 2 := by decide +kernel
theorem vw_X8_243 : zVW RX8 243 yX1_countDrawn cX1_countDrawn 5 (some .int) 2 := ⟨mc_X1_countDrawn, zGW_in 637 (by decide +kernel) (by decide +kernel), mi_X1_countDrawn, ml_X1_countDrawn, ni_X1, my_X1_countDrawn⟩
theorem mc_X5_namesOnTwo : Cond.code yX5_namesOnTwo cX5_namesOnTwo 4 (some .int) ∈ zGW := zGW_in 673 (by decide +kernel) (by decide +kernel)
theorem mi_X5_namesOnTwo : Cond.instanceMethod yX5_namesOnTwo ∈ zGW := zGW_in 671 (by decide +kernel) (by decide +kernel)
theorem ml_X5_namesOnTwo : Cond.selects yX5_namesOnTwo.cls yX5_namesOnTwo yX5_namesOnTwo ∈ zGW := zGW_in 672 (by decide +kernel) (by decide +kernel)
theorem my_X5_namesOnTwo : yX5_namesOnTwo.cls ≠ "java/lang/invoke/MethodHandle" ∧ yX5_namesOnTwo.cls ≠ "java/lang/invoke/VarHandle" ∧ (parseMethodDescriptor yX5_namesOnTwo.desc).map (fun d => d.parameters.length) = some 1 := by decide +kernel
theorem ni_X5 : Cond.initialized RX5 ∈ zGW := zGW_in 52 (by decide +kernel) (by decide +kernel)
theorem vw_X8_270 : zVW RX8 270 yX5_namesOnTwo cX5_namesOnTwo 4 (some .int) 1 := ⟨mc_X5_namesOnTwo, zGW_in 670 (by decide +kernel) (by decide +kernel), mi_X5_namesOnTwo, ml_X5_namesOnTwo, ni_X5, my_X5_namesOnTwo⟩
theorem mc_X6_lostToTeeth : Cond.code yX6_lostToTeeth cX6_lostToTeeth 3 (some .int) ∈ zGW := zGW_in 466 (by decide +kernel) (by decide +kernel)
theorem mi_X6_lostToTeeth : Cond.instanceMethod yX6_lostToTeeth ∈ zGW := zGW_in 464 (by decide +kernel) (by decide +kernel)
theorem ml_X6_lostToTeeth : Cond.selects yX6_lostToTeeth.cls yX6_lostToTeeth yX6_lostToTeeth ∈ zGW := zGW_in 465 (by decide +kernel) (by decide +kernel)
theorem my_X6_lostToTeeth : yX6_lostToTeeth.cls ≠ "java/lang/invoke/MethodHandle" ∧ yX6_lostToTeeth.cls ≠ "java/lang/invoke/VarHandle" ∧ (parseMethodDescriptor yX6_lostToTeeth.desc).map (fun d => d.parameters.length) = some 1 := by decide +kernel
theorem vw_X8_274 : zVW RX8 274 yX6_lostToTeeth cX6_lostToTeeth 3 (some .int) 1 := ⟨mc_X6_lostToTeeth, zGW_in 686 (by decide +kernel) (by decide +kernel), mi_X6_lostToTeeth, ml_X6_lostToTeeth, ni_X6, my_X6_lostToTeeth⟩
theorem mc_X8_imageBooks : Cond.code yX8_imageBooks cX8_imageBooks 2 (some (.object "StraitFleet$Books")) ∈ zGW := zGW_in 695 (by decide +kernel) (by decide +kernel)
theorem mi_X8_imageBooks : Cond.instanceMethod yX8_imageBooks ∈ zGW := zGW_in 694 (by decide +kernel) (by decide +kernel)
theorem ml_X8_imageBooks : Cond.selects yX8_imageBooks.cls yX8_imageBooks yX8_imageBooks ∈ zGW := zGW_in 12 (by decide +kernel) (by decide +kernel)
theorem my_X8_imageBooks : yX8_imageBooks.cls ≠ "java/lang/invoke/MethodHandle" ∧ yX8_imageBooks.cls ≠ "java/lang/invoke/VarHandle" ∧ (parseMethodDescriptor yX8_imageBooks.desc).map (fun d => d.parameters.length) = some 1 := by decide +kernel
theorem vw_X8_280 : zVW RX8 280 yX8_imageBooks cX8_imageBooks 2 (some (.object "StraitFleet$Books")) 1 := ⟨mc_X8_imageBooks, zGW_in 692 (by decide +kernel) (by decide +kernel), mi_X8_imageBooks, ml_X8_imageBooks, ni_X8, my_X8_imageBooks⟩
theorem mc_X0_become : Cond.code yX0_become cX0_become 2 none ∈ zGW := zGW_in 699 (by decide +kernel) (by decide +kernel)
theorem mi_X0_become : Cond.instanceMethod yX0_become ∈ zGW := zGW_in 697 (by decide +kernel) (by decide +kernel)
theorem ml_X0_become : Cond.selects yX0_become.cls yX0_become yX0_become ∈ zGW := zGW_in 698 (by decide +kernel) (by decide +kernel)
theorem my_X0_become : yX0_become.cls ≠ "java/lang/invoke/MethodHandle" ∧ yX0_become.cls ≠ "java/lang/invoke/VarHandle" ∧ (parseMethodDescriptor yX0_become.desc).map (fun d => d.parameters.length) = some 1 := by decide +kernel
theorem ni_X0 : Cond.initialized RX0 ∈ zGW := zGW_in 48 (by decide +kernel) (by decide +kernel)
theorem vw_X8_284 : zVW RX8 284 yX0_become cX0_become 2 none 1 := ⟨mc_X0_become, zGW_in 696 (by decide +kernel) (by decide +kernel), mi_X0_become, ml_X0_become, ni_X0, my_X0_become⟩
theorem vw_X0_37 : zVW RX0 37 yX6_become cX6_become 2 none 1 := ⟨mc_X6_become, zGW_in 700 (by decide +kernel) (by decide +kernel), mi_X6_become, ml_X6_become, ni_X6, my_X6_become⟩
theorem mc_X3_become : Cond.code yX3_become cX3_become 2 none ∈ zGW := zGW_in 704 (by decide +kernel) (by decide +kernel)
theorem mi_X3_become : Cond.instanceMethod yX3_become ∈ zGW := zGW_in 702 (by decide +kernel) (by decide +kernel)
theorem ml_X3_become : Cond.selects yX3_become.cls yX3_become yX3_become ∈ zGW := zGW_in 703 (by decide +kernel) (by decide +kernel)
theorem my_X3_become : yX3_become.cls ≠ "java/lang/invoke/MethodHandle" ∧ yX3_become.cls ≠ "java/lang/invoke/VarHandle" ∧ (parseMethodDescriptor yX3_become.desc).map (fun d => d.parameters.length) = some 1 := by decide +kernel
theorem vw_X0_41 : zVW RX0 41 yX3_become cX3_become 2 none 1 := ⟨mc_X3_become, zGW_in 701 (by decide +kernel) (by decide +kernel), mi_X3_become, ml_X3_become, ni_X3, my_X3_become⟩
theorem mc_X1_become : Cond.code yX1_become cX1_become 2 none ∈ zGW := zGW_in 709 (by decide +kernel) (by decide +kernel)
theorem mi_X1_become : Cond.instanceMethod yX1_become ∈ zGW := zGW_in 707 (by decide +kernel) (by decide +kernel)
theorem ml_X1_become : Cond.selects yX1_become.cls yX1_become yX1_become ∈ zGW := zGW_in 708 (by decide +kernel) (by decide +kernel)
theorem my_X1_become : yX1_become.cls ≠ "java/lang/invoke/MethodHandle" ∧ yX1_become.cls ≠ "java/lang/invoke/VarHandle" ∧ (parseMethodDescriptor yX1_become.desc).map (fun d => d.parameters.length) = some 1 := by decide +kernel
theorem vw_X0_44 : zVW RX0 44 yX1_become cX1_become 2 none 1 := ⟨mc_X1_become, zGW_in 706 (by decide +kernel) (by decide +kernel), mi_X1_become, ml_X1_become, ni_X1, my_X1_become⟩
theorem mc_X5_become : Cond.code yX5_become cX5_become 2 none ∈ zGW := zGW_in 714 (by decide +kernel) (by decide +kernel)
theorem mi_X5_become : Cond.instanceMethod yX5_become ∈ zGW := zGW_in 712 (by decide +kernel) (by decide +kernel)
theorem ml_X5_become : Cond.selects yX5_become.cls yX5_become yX5_become ∈ zGW := zGW_in 713 (by decide +kernel) (by decide +kernel)
theorem my_X5_become : yX5_become.cls ≠ "java/lang/invoke/MethodHandle" ∧ yX5_become.cls ≠ "java/lang/invoke/VarHandle" ∧ (parseMethodDescriptor yX5_become.desc).map (fun d => d.parameters.length) = some 1 := by decide +kernel
theorem vw_X0_47 : zVW RX0 47 yX5_become cX5_become 2 none 1 := ⟨mc_X5_become, zGW_in 711 (by decide +kernel) (by decide +kernel), mi_X5_become, ml_X5_become, ni_X5, my_X5_become⟩
theorem vw_X1_29 : zVW RX1 29 yX1_has cX1_has 2 (some .boolean) 1 := ⟨mc_X1_has, zGW_in 641 (by decide +kernel) (by decide +kernel), mi_X1_has, ml_X1_has, ni_X1, my_X1_has⟩
theorem vw_X2_32 : zVW RX2 32 yX6_moored cX6_moored 2 (some .boolean) 1 := ⟨mc_X6_moored, zGW_in 507 (by decide +kernel) (by decide +kernel), mi_X6_moored, ml_X6_moored, ni_X6, my_X6_moored⟩
theorem vw_X2_37 : zVW RX2 37 yX6_meanBy cX6_meanBy 4 (some .int) 3 := ⟨mc_X6_meanBy, zGW_in 508 (by decide +kernel) (by decide +kernel), mi_X6_meanBy, ml_X6_meanBy, ni_X6, my_X6_meanBy⟩
theorem vw_X2_41 : zVW RX2 41 yX6_worstBy cX6_worstBy 4 (some .int) 3 := ⟨mc_X6_worstBy, zGW_in 509 (by decide +kernel) (by decide +kernel), mi_X6_worstBy, ml_X6_worstBy, ni_X6, my_X6_worstBy⟩
theorem mc_X2_spreadChoices : Cond.code yX2_spreadChoices cX2_spreadChoices 7 (some .int) ∈ zGW := zGW_in 517 (by decide +kernel) (by decide +kernel)
theorem mi_X2_spreadChoices : Cond.instanceMethod yX2_spreadChoices ∈ zGW := zGW_in 516 (by decide +kernel) (by decide +kernel)
theorem ml_X2_spreadChoices : Cond.selects yX2_spreadChoices.cls yX2_spreadChoices yX2_spreadChoices ∈ zGW := zGW_in 7 (by decide +kernel) (by decide +kernel)
theorem my_X2_spreadChoices : yX2_spreadChoices.cls ≠ "java/lang/invoke/MethodHandle" ∧ yX2_spreadChoices.cls ≠ "java/lang/invoke/VarHandle" ∧ (parseMethodDescriptor yX2_spreadChoices.desc).map (fun d => d.parameters.length) = some 0 := by decide +kernel
theorem vw_X2_44 : zVW RX2 44 yX2_spreadChoices cX2_spreadChoices 7 (some .int) 0 := ⟨mc_X2_spreadChoices, zGW_in 514 (by decide +kernel) (by decide +kernel), mi_X2_spreadChoices, ml_X2_spreadChoices, ni_X2, my_X2_spreadChoices⟩
theorem mc_X2_widenFront : Cond.code yX2_widenFront cX2_widenFront 16 (some .int) ∈ zGW := zGW_in 544 (by decide +kernel) (by decide +kernel)
theorem mi_X2_widenFront : Cond.instanceMethod yX2_widenFront ∈ zGW := zGW_in 543 (by decide +kernel) (by decide +kernel)
theorem ml_X2_widenFront : Cond.selects yX2_widenFront.cls yX2_widenFront yX2_widenFront ∈ zGW := zGW_in 8 (by decide +kernel) (by decide +kernel)
theorem my_X2_widenFront : yX2_widenFront.cls ≠ "java/lang/invoke/MethodHandle" ∧ yX2_widenFront.cls ≠ "java/lang/invoke/VarHandle" ∧ (parseMethodDescriptor yX2_widenFront.desc).map (fun d => d.parameters.length) = some 2 := by decide +kernel
theorem vw_X2_59 : zVW RX2 59 yX2_widenFront cX2_widenFront 16 (some .int) 2 := ⟨mc_X2_widenFront, zGW_in 541 (by decide +kernel) (by decide +kernel), mi_X2_widenFront, ml_X2_widenFront, ni_X2, my_X2_widenFront⟩
theorem vw_X2_77 : zVW RX2 77 yX2_meanOfAllBy cX2_meanOfAllBy 4 (some .int) 1 := ⟨mc_X2_meanOfAllBy, zGW_in 562 (by decide +kernel) (by decide +kernel), mi_X2_meanOfAllBy, ml_X2_meanOfAllBy, ni_X2, my_X2_meanOfAllBy⟩
theorem mc_X4_sideAt : Cond.code yX4_sideAt cX4_sideAt 2 (some .int) ∈ zGW := zGW_in 340 (by decide +kernel) (by decide +kernel)
theorem mi_X4_sideAt : Cond.instanceMethod yX4_sideAt ∈ zGW := zGW_in 338 (by decide +kernel) (by decide +kernel)
theorem ml_X4_sideAt : Cond.selects yX4_sideAt.cls yX4_sideAt yX4_sideAt ∈ zGW := zGW_in 339 (by decide +kernel) (by decide +kernel)
theorem my_X4_sideAt : yX4_sideAt.cls ≠ "java/lang/invoke/MethodHandle" ∧ yX4_sideAt.cls ≠ "java/lang/invoke/VarHandle" ∧ (parseMethodDescriptor yX4_sideAt.desc).map (fun d => d.parameters.length) = some 1 := by decide +kernel
theorem vw_X4_23 : zVW RX4 23 yX4_sideAt cX4_sideAt 2 (some .int) 1 := ⟨mc_X4_sideAt, zGW_in 337 (by decide +kernel) (by decide +kernel), mi_X4_sideAt, ml_X4_sideAt, ni_X4, my_X4_sideAt⟩
theorem mc_X4_hourPassesAt : Cond.code yX4_hourPassesAt cX4_hourPassesAt 2 (some .boolean) ∈ zGW := zGW_in 348 (by decide +kernel) (by decide +kernel)
theorem mi_X4_hourPassesAt : Cond.instanceMethod yX4_hourPassesAt ∈ zGW := zGW_in 346 (by decide +kernel) (by decide +kernel)
theorem ml_X4_hourPassesAt : Cond.selects yX4_hourPassesAt.cls yX4_hourPassesAt yX4_hourPassesAt ∈ zGW := zGW_in 347 (by decide +kernel) (by decide +kernel)
theorem my_X4_hourPassesAt : yX4_hourPassesAt.cls ≠ "java/lang/invoke/MethodHandle" ∧ yX4_hourPassesAt.cls ≠ "java/lang/invoke/VarHandle" ∧ (parseMethodDescriptor yX4_hourPassesAt.desc).map (fun d => d.parameters.length) = some 1 := by decide +kernel
theorem vw_X4_27 : zVW RX4 27 yX4_hourPassesAt cX4_hourPassesAt 2 (some .boolean) 1 := ⟨mc_X4_hourPassesAt, zGW_in 345 (by decide +kernel) (by decide +kernel), mi_X4_hourPassesAt, ml_X4_hourPassesAt, ni_X4, my_X4_hourPassesAt⟩
theorem mc_X4_shipAt : Cond.code yX4_shipAt cX4_shipAt 2 (some .int) ∈ zGW := zGW_in 352 (by decide +kernel) (by decide +kernel)
theorem mi_X4_shipAt : Cond.instanceMethod yX4_shipAt ∈ zGW := zGW_in 350 (by decide +kernel) (by decide +kernel)
theorem ml_X4_shipAt : Cond.selects yX4_shipAt.cls yX4_shipAt yX4_shipAt ∈ zGW := zGW_in 351 (by decide +kernel) (by decide +kernel)
theorem my_X4_shipAt : yX4_shipAt.cls ≠ "java/lang/invoke/MethodHandle" ∧ yX4_shipAt.cls ≠ "java/lang/invoke/VarHandle" ∧ (parseMethodDescriptor yX4_shipAt.desc).map (fun d => d.parameters.length) = some 1 := by decide +kernel
theorem vw_X4_31 : zVW RX4 31 yX4_shipAt cX4_shipAt 2 (some .int) 1 := ⟨mc_X4_shipAt, zGW_in 349 (by decide +kernel) (by decide +kernel), mi_X4_shipAt, ml_X4_shipAt, ni_X4, my_X4_shipAt⟩
theorem mc_X4_holds : Cond.code yX4_holds cX4_holds 2 (some .boolean) ∈ zGW := zGW_in 344 (by decide +kernel) (by decide +kernel)
theorem mi_X4_holds : Cond.instanceMethod yX4_holds ∈ zGW := zGW_in 343 (by decide +kernel) (by decide +kernel)
theorem ml_X4_holds : Cond.selects yX4_holds.cls yX4_holds yX4_holds ∈ zGW := zGW_in 0 (by decide +kernel) (by decide +kernel)
theorem my_X4_holds : yX4_holds.cls ≠ "java/lang/invoke/MethodHandle" ∧ yX4_holds.cls ≠ "java/lang/invoke/VarHandle" ∧ (parseMethodDescriptor yX4_holds.desc).map (fun d => d.parameters.length) = some 1 := by decide +kernel
theorem vw_X4_34 : zVW RX4 34 yX4_holds cX4_holds 2 (some .boolean) 1 := ⟨mc_X4_holds, zGW_in 341 (by decide +kernel) (by decide +kernel), mi_X4_holds, ml_X4_holds, ni_X4, my_X4_holds⟩
theorem mc_X5_rollsWith : Cond.code yX5_rollsWith cX5_rollsWith 5 (some .int) ∈ zGW := zGW_in 677 (by decide +kernel) (by decide +kernel)
theorem mi_X5_rollsWith : Cond.instanceMethod yX5_rollsWith ∈ zGW := zGW_in 676 (by decide +kernel) (by decide +kernel)
theorem ml_X5_rollsWith : Cond.selects yX5_rollsWith.cls yX5_rollsWith yX5_rollsWith ∈ zGW := zGW_in 11 (by decide +kernel) (by decide +kernel)
theorem my_X5_rollsWith : yX5_rollsWith.cls ≠ "java/lang/invoke/MethodHandle" ∧ yX5_rollsWith.cls ≠ "java/lang/invoke/VarHandle" ∧ (parseMethodDescriptor yX5_rollsWith.desc).map (fun d => d.parameters.length) = some 2 := by decide +kernel
theorem vw_X5_28 : zVW RX5 28 yX5_rollsWith cX5_rollsWith 5 (some .int) 2 := ⟨mc_X5_rollsWith, zGW_in 674 (by decide +kernel) (by decide +kernel), mi_X5_rollsWith, ml_X5_rollsWith, ni_X5, my_X5_rollsWith⟩
theorem vw_X6_58 : zVW RX6 58 yX6_has cX6_has 2 (some .boolean) 1 := ⟨mc_X6_has, zGW_in 381 (by decide +kernel) (by decide +kernel), mi_X6_has, ml_X6_has, ni_X6, my_X6_has⟩
theorem vw_X6_62 : zVW RX6 62 yX6_moored cX6_moored 2 (some .boolean) 1 := ⟨mc_X6_moored, zGW_in 382 (by decide +kernel) (by decide +kernel), mi_X6_moored, ml_X6_moored, ni_X6, my_X6_moored⟩
theorem mc_X6_sendByTeeth : Cond.code yX6_sendByTeeth cX6_sendByTeeth 3 none ∈ zGW := zGW_in 394 (by decide +kernel) (by decide +kernel)
theorem mi_X6_sendByTeeth : Cond.instanceMethod yX6_sendByTeeth ∈ zGW := zGW_in 393 (by decide +kernel) (by decide +kernel)
theorem ml_X6_sendByTeeth : Cond.selects yX6_sendByTeeth.cls yX6_sendByTeeth yX6_sendByTeeth ∈ zGW := zGW_in 1 (by decide +kernel) (by decide +kernel)
theorem my_X6_sendByTeeth : yX6_sendByTeeth.cls ≠ "java/lang/invoke/MethodHandle" ∧ yX6_sendByTeeth.cls ≠ "java/lang/invoke/VarHandle" ∧ (parseMethodDescriptor yX6_sendByTeeth.desc).map (fun d => d.parameters.length) = some 1 := by decide +kernel
theorem vw_X6_65 : zVW RX6 65 yX6_sendByTeeth cX6_sendByTeeth 3 none 1 := ⟨mc_X6_sendByTeeth, zGW_in 391 (by decide +kernel) (by decide +kernel), mi_X6_sendByTeeth, ml_X6_sendByTeeth, ni_X6, my_X6_sendByTeeth⟩
theorem mc_X6_sendByWhirl : Cond.code yX6_sendByWhirl cX6_sendByWhirl 3 none ∈ zGW := zGW_in 410 (by decide +kernel) (by decide +kernel)
theorem mi_X6_sendByWhirl : Cond.instanceMethod yX6_sendByWhirl ∈ zGW := zGW_in 409 (by decide +kernel) (by decide +kernel)
theorem ml_X6_sendByWhirl : Cond.selects yX6_sendByWhirl.cls yX6_sendByWhirl yX6_sendByWhirl ∈ zGW := zGW_in 4 (by decide +kernel) (by decide +kernel)
theorem my_X6_sendByWhirl : yX6_sendByWhirl.cls ≠ "java/lang/invoke/MethodHandle" ∧ yX6_sendByWhirl.cls ≠ "java/lang/invoke/VarHandle" ∧ (parseMethodDescriptor yX6_sendByWhirl.desc).map (fun d => d.parameters.length) = some 2 := by decide +kernel
theorem vw_X6_69 : zVW RX6 69 yX6_sendByWhirl cX6_sendByWhirl 3 none 2 := ⟨mc_X6_sendByWhirl, zGW_in 407 (by decide +kernel) (by decide +kernel), mi_X6_sendByWhirl, ml_X6_sendByWhirl, ni_X6, my_X6_sendByWhirl⟩
theorem mc_X6_fare : Cond.code yX6_fare cX6_fare 2 (some .int) ∈ zGW := zGW_in 422 (by decide +kernel) (by decide +kernel)
theorem mi_X6_fare : Cond.instanceMethod yX6_fare ∈ zGW := zGW_in 420 (by decide +kernel) (by decide +kernel)
theorem ml_X6_fare : Cond.selects yX6_fare.cls yX6_fare yX6_fare ∈ zGW := zGW_in 421 (by decide +kernel) (by decide +kernel)
theorem my_X6_fare : yX6_fare.cls ≠ "java/lang/invoke/MethodHandle" ∧ yX6_fare.cls ≠ "java/lang/invoke/VarHandle" ∧ (parseMethodDescriptor yX6_fare.desc).map (fun d => d.parameters.length) = some 1 := by decide +kernel
theorem vw_X6_73 : zVW RX6 73 yX6_fare cX6_fare 2 (some .int) 1 := ⟨mc_X6_fare, zGW_in 419 (by decide +kernel) (by decide +kernel), mi_X6_fare, ml_X6_fare, ni_X6, my_X6_fare⟩
theorem mc_X6_menToTeeth : Cond.code yX6_menToTeeth cX6_menToTeeth 2 (some .int) ∈ zGW := zGW_in 398 (by decide +kernel) (by decide +kernel)
theorem mi_X6_menToTeeth : Cond.instanceMethod yX6_menToTeeth ∈ zGW := zGW_in 397 (by decide +kernel) (by decide +kernel)
theorem ml_X6_menToTeeth : Cond.selects yX6_menToTeeth.cls yX6_menToTeeth yX6_menToTeeth ∈ zGW := zGW_in 2 (by decide +kernel) (by decide +kernel)
theorem my_X6_menToTeeth : yX6_menToTeeth.cls ≠ "java/lang/invoke/MethodHandle" ∧ yX6_menToTeeth.cls ≠ "java/lang/invoke/VarHandle" ∧ (parseMethodDescriptor yX6_menToTeeth.desc).map (fun d => d.parameters.length) = some 1 := by decide +kernel
theorem vw_X6_77 : zVW RX6 77 yX6_menToTeeth cX6_menToTeeth 2 (some .int) 1 := ⟨mc_X6_menToTeeth, zGW_in 395 (by decide +kernel) (by decide +kernel), mi_X6_menToTeeth, ml_X6_menToTeeth, ni_X6, my_X6_menToTeeth⟩
theorem mc_X6_lose : Cond.code yX6_lose cX6_lose 2 none ∈ zGW := zGW_in 406 (by decide +kernel) (by decide +kernel)
theorem mi_X6_lose : Cond.instanceMethod yX6_lose ∈ zGW := zGW_in 405 (by decide +kernel) (by decide +kernel)
theorem ml_X6_lose : Cond.selects yX6_lose.cls yX6_lose yX6_lose ∈ zGW := zGW_in 3 (by decide +kernel) (by decide +kernel)
theorem my_X6_lose : yX6_lose.cls ≠ "java/lang/invoke/MethodHandle" ∧ yX6_lose.cls ≠ "java/lang/invoke/VarHandle" ∧ (parseMethodDescriptor yX6_lose.desc).map (fun d => d.parameters.length) = some 1 := by decide +kernel
theorem vw_X6_86 : zVW RX6 86 yX6_lose cX6_lose 2 none 1 := ⟨mc_X6_lose, zGW_in 403 (by decide +kernel) (by decide +kernel), mi_X6_lose, ml_X6_lose, ni_X6, my_X6_lose⟩
theorem vw_X6_92 : zVW RX6 92 yX6_digitAt cX6_digitAt 2 (some .int) 1 := ⟨mc_X6_digitAt, zGW_in 415 (by decide +kernel) (by decide +kernel), mi_X6_digitAt, ml_X6_digitAt, ni_X6, my_X6_digitAt⟩
theorem vw_X6_98 : zVW RX6 98 yX6_whole cX6_whole 2 (some .int) 1 := ⟨mc_X6_whole, zGW_in 459 (by decide +kernel) (by decide +kernel), mi_X6_whole, ml_X6_whole, ni_X6, my_X6_whole⟩
theorem vw_X6_101 : zVW RX6 101 yX6_lostToTeeth cX6_lostToTeeth 3 (some .int) 1 := ⟨mc_X6_lostToTeeth, zGW_in 463 (by decide +kernel) (by decide +kernel), mi_X6_lostToTeeth, ml_X6_lostToTeeth, ni_X6, my_X6_lostToTeeth⟩
theorem vw_X6_104 : zVW RX6 104 yX6_meanBy cX6_meanBy 4 (some .int) 3 := ⟨mc_X6_meanBy, zGW_in 487 (by decide +kernel) (by decide +kernel), mi_X6_meanBy, ml_X6_meanBy, ni_X6, my_X6_meanBy⟩
theorem vw_X6_108 : zVW RX6 108 yX6_ownersSide cX6_ownersSide 5 (some .int) 2 := ⟨mc_X6_ownersSide, zGW_in 496 (by decide +kernel) (by decide +kernel), mi_X6_ownersSide, ml_X6_ownersSide, ni_X6, my_X6_ownersSide⟩
theorem mc_X6_captainGets : Cond.code yX6_captainGets cX6_captainGets 6 (some .int) ∈ zGW := zGW_in 578 (by decide +kernel) (by decide +kernel)
theorem mi_X6_captainGets : Cond.instanceMethod yX6_captainGets ∈ zGW := zGW_in 577 (by decide +kernel) (by decide +kernel)
theorem ml_X6_captainGets : Cond.selects yX6_captainGets.cls yX6_captainGets yX6_captainGets ∈ zGW := zGW_in 9 (by decide +kernel) (by decide +kernel)
theorem my_X6_captainGets : yX6_captainGets.cls ≠ "java/lang/invoke/MethodHandle" ∧ yX6_captainGets.cls ≠ "java/lang/invoke/VarHandle" ∧ (parseMethodDescriptor yX6_captainGets.desc).map (fun d => d.parameters.length) = some 4 := by decide +kernel
theorem vw_X6_111 : zVW RX6 111 yX6_captainGets cX6_captainGets 6 (some .int) 4 := ⟨mc_X6_captainGets, zGW_in 575 (by decide +kernel) (by decide +kernel), mi_X6_captainGets, ml_X6_captainGets, ni_X6, my_X6_captainGets⟩
theorem mc_X6_rewardFor : Cond.code yX6_rewardFor cX6_rewardFor 3 (some .int) ∈ zGW := zGW_in 582 (by decide +kernel) (by decide +kernel)
theorem mi_X6_rewardFor : Cond.instanceMethod yX6_rewardFor ∈ zGW := zGW_in 581 (by decide +kernel) (by decide +kernel)
theorem ml_X6_rewardFor : Cond.selects yX6_rewardFor.cls yX6_rewardFor yX6_rewardFor ∈ zGW := zGW_in 10 (by decide +kernel) (by decide +kernel)
theorem my_X6_rewardFor : yX6_rewardFor.cls ≠ "java/lang/invoke/MethodHandle" ∧ yX6_rewardFor.cls ≠ "java/lang/invoke/VarHandle" ∧ (parseMethodDescriptor yX6_rewardFor.desc).map (fun d => d.parameters.length) = some 2 := by decide +kernel
theorem vw_X6_115 : zVW RX6 115 yX6_rewardFor cX6_rewardFor 3 (some .int) 2 := ⟨mc_X6_rewardFor, zGW_in 579 (by decide +kernel) (by decide +kernel), mi_X6_rewardFor, ml_X6_rewardFor, ni_X6, my_X6_rewardFor⟩
theorem vw_X7_25 : zVW RX7 25 yX6_become cX6_become 2 none 1 := ⟨mc_X6_become, zGW_in 368 (by decide +kernel) (by decide +kernel), mi_X6_become, ml_X6_become, ni_X6, my_X6_become⟩
theorem vw_X7_34 : zVW RX7 34 yX4_hourPassesAt cX4_hourPassesAt 2 (some .boolean) 1 := ⟨mc_X4_hourPassesAt, zGW_in 375 (by decide +kernel) (by decide +kernel), mi_X4_hourPassesAt, ml_X4_hourPassesAt, ni_X4, my_X4_hourPassesAt⟩
theorem vw_X7_38 : zVW RX7 38 yX4_shipAt cX4_shipAt 2 (some .int) 1 := ⟨mc_X4_shipAt, zGW_in 376 (by decide +kernel) (by decide +kernel), mi_X4_shipAt, ml_X4_shipAt, ni_X4, my_X4_shipAt⟩
theorem mc_X6_whyNot : Cond.code yX6_whyNot cX6_whyNot 2 (some .int) ∈ zGW := zGW_in 380 (by decide +kernel) (by decide +kernel)
theorem mi_X6_whyNot : Cond.instanceMethod yX6_whyNot ∈ zGW := zGW_in 378 (by decide +kernel) (by decide +kernel)
theorem ml_X6_whyNot : Cond.selects yX6_whyNot.cls yX6_whyNot yX6_whyNot ∈ zGW := zGW_in 379 (by decide +kernel) (by decide +kernel)
theorem my_X6_whyNot : yX6_whyNot.cls ≠ "java/lang/invoke/MethodHandle" ∧ yX6_whyNot.cls ≠ "java/lang/invoke/VarHandle" ∧ (parseMethodDescriptor yX6_whyNot.desc).map (fun d => d.parameters.length) = some 1 := by decide +kernel
theorem vw_X7_42 : zVW RX7 42 yX6_whyNot cX6_whyNot 2 (some .int) 1 := ⟨mc_X6_whyNot, zGW_in 377 (by decide +kernel) (by decide +kernel), mi_X6_whyNot, ml_X6_whyNot, ni_X6, my_X6_whyNot⟩
theorem vw_X7_45 : zVW RX7 45 yX4_sideAt cX4_sideAt 2 (some .int) 1 := ⟨mc_X4_sideAt, zGW_in 386 (by decide +kernel) (by decide +kernel), mi_X4_sideAt, ml_X4_sideAt, ni_X4, my_X4_sideAt⟩
theorem mc_X6_send : Cond.code yX6_send cX6_send 4 none ∈ zGW := zGW_in 390 (by decide +kernel) (by decide +kernel)
theorem mi_X6_send : Cond.instanceMethod yX6_send ∈ zGW := zGW_in 388 (by decide +kernel) (by decide +kernel)
theorem ml_X6_send : Cond.selects yX6_send.cls yX6_send yX6_send ∈ zGW := zGW_in 389 (by decide +kernel) (by decide +kernel)
theorem my_X6_send : yX6_send.cls ≠ "java/lang/invoke/MethodHandle" ∧ yX6_send.cls ≠ "java/lang/invoke/VarHandle" ∧ (parseMethodDescriptor yX6_send.desc).map (fun d => d.parameters.length) = some 3 := by decide +kernel
theorem vw_X7_48 : zVW RX7 48 yX6_send cX6_send 4 none 3 := ⟨mc_X6_send, zGW_in 387 (by decide +kernel) (by decide +kernel), mi_X6_send, ml_X6_send, ni_X6, my_X6_send⟩
theorem mc_X9_isShip : Cond.code yX9_isShip cX9_isShip 2 (some .boolean) ∈ zGW := zGW_in 876 (by decide +kernel) (by decide +kernel)
theorem mi_X9_isShip : Cond.instanceMethod yX9_isShip ∈ zGW := zGW_in 875 (by decide +kernel) (by decide +kernel)
theorem ml_X9_isShip : Cond.selects yX9_isShip.cls yX9_isShip yX9_isShip ∈ zGW := zGW_in 13 (by decide +kernel) (by decide +kernel)
theorem my_X9_isShip : yX9_isShip.cls ≠ "java/lang/invoke/MethodHandle" ∧ yX9_isShip.cls ≠ "java/lang/invoke/VarHandle" ∧ (parseMethodDescriptor yX9_isShip.desc).map (fun d => d.parameters.length) = some 1 := by decide +kernel
theorem ni_X9 : Cond.initialized RX9 ∈ zGW := zGW_in 56 (by decide +kernel) (by decide +kernel)
theorem vw_X9_112 : zVW RX9 112 yX9_isShip cX9_isShip 2 (some .boolean) 1 := ⟨mc_X9_isShip, zGW_in 873 (by decide +kernel) (by decide +kernel), mi_X9_isShip, ml_X9_isShip, ni_X9, my_X9_isShip⟩
theorem mc_X9_toldSet : Cond.code yX9_toldSet cX9_toldSet 2 (some .int) ∈ zGW := zGW_in 888 (by decide +kernel) (by decide +kernel)
theorem mi_X9_toldSet : Cond.instanceMethod yX9_toldSet ∈ zGW := zGW_in 887 (by decide +kernel) (by decide +kernel)
theorem ml_X9_toldSet : Cond.selects yX9_toldSet.cls yX9_toldSet yX9_toldSet ∈ zGW := zGW_in 14 (by decide +kernel) (by decide +kernel)
theorem my_X9_toldSet : yX9_toldSet.cls ≠ "java/lang/invoke/MethodHandle" ∧ yX9_toldSet.cls ≠ "java/lang/invoke/VarHandle" ∧ (parseMethodDescriptor yX9_toldSet.desc).map (fun d => d.parameters.length) = some 1 := by decide +kernel
theorem vw_X9_123 : zVW RX9 123 yX9_toldSet cX9_toldSet 2 (some .int) 1 := ⟨mc_X9_toldSet, zGW_in 885 (by decide +kernel) (by decide +kernel), mi_X9_toldSet, ml_X9_toldSet, ni_X9, my_X9_toldSet⟩
theorem mc_X9_faultOfTide : Cond.code yX9_faultOfTide cX9_faultOfTide 2 (some .int) ∈ zGW := zGW_in 906 (by decide +kernel) (by decide +kernel)
theorem mi_X9_faultOfTide : Cond.instanceMethod yX9_faultOfTide ∈ zGW := zGW_in 905 (by decide +kernel) (by decide +kernel)
theorem ml_X9_faultOfTide : Cond.selects yX9_faultOfTide.cls yX9_faultOfTide yX9_faultOfTide ∈ zGW := zGW_in 15 (by decide +kernel) (by decide +kernel)
theorem my_X9_faultOfTide : yX9_faultOfTide.cls ≠ "java/lang/invoke/MethodHandle" ∧ yX9_faultOfTide.cls ≠ "java/lang/invoke/VarHandle" ∧ (parseMethodDescriptor yX9_faultOfTide.desc).map (fun d => d.parameters.length) = some 0 := by decide +kernel
theorem vw_X9_141 : zVW RX9 141 yX9_faultOfTide cX9_faultOfTide 2 (some .int) 0 := ⟨mc_X9_faultOfTide, zGW_in 903 (by decide +kernel) (by decide +kernel), mi_X9_faultOfTide, ml_X9_faultOfTide, ni_X9, my_X9_faultOfTide⟩
theorem mc_X9_faultOfSeason : Cond.code yX9_faultOfSeason cX9_faultOfSeason 5 (some .int) ∈ zGW := zGW_in 912 (by decide +kernel) (by decide +kernel)
theorem mi_X9_faultOfSeason : Cond.instanceMethod yX9_faultOfSeason ∈ zGW := zGW_in 911 (by decide +kernel) (by decide +kernel)
theorem ml_X9_faultOfSeason : Cond.selects yX9_faultOfSeason.cls yX9_faultOfSeason yX9_faultOfSeason ∈ zGW := zGW_in 16 (by decide +kernel) (by decide +kernel)
theorem my_X9_faultOfSeason : yX9_faultOfSeason.cls ≠ "java/lang/invoke/MethodHandle" ∧ yX9_faultOfSeason.cls ≠ "java/lang/invoke/VarHandle" ∧ (parseMethodDescriptor yX9_faultOfSeason.desc).map (fun d => d.parameters.length) = some 0 := by decide +kernel
theorem vw_X9_145 : zVW RX9 145 yX9_faultOfSeason cX9_faultOfSeason 5 (some .int) 0 := ⟨mc_X9_faultOfSeason, zGW_in 909 (by decide +kernel) (by decide +kernel), mi_X9_faultOfSeason, ml_X9_faultOfSeason, ni_X9, my_X9_faultOfSeason⟩
theorem mc_X9_lostByTeeth : Cond.code yX9_lostByTeeth cX9_lostByTeeth 3 (some .int) ∈ zGW := zGW_in 942 (by decide +kernel) (by decide +kernel)
theorem mi_X9_lostByTeeth : Cond.instanceMethod yX9_lostByTeeth ∈ zGW := zGW_in 941 (by decide +kernel) (by decide +kernel)
theorem ml_X9_lostByTeeth : Cond.selects yX9_lostByTeeth.cls yX9_lostByTeeth yX9_lostByTeeth ∈ zGW := zGW_in 21 (by decide +kernel) (by decide +kernel)
theorem my_X9_lostByTeeth : yX9_lostByTeeth.cls ≠ "java/lang/invoke/MethodHandle" ∧ yX9_lostByTeeth.cls ≠ "java/lang/invoke/VarHandle" ∧ (parseMethodDescriptor yX9_lostByTeeth.desc).map (fun d => d.parameters.length) = some 1 := by decide +kernel
theorem vw_X9_148 : zVW RX9 148 yX9_lostByTeeth cX9_lostByTeeth 3 (some .int) 1 := ⟨mc_X9_lostByTeeth, zGW_in 939 (by decide +kernel) (by decide +kernel), mi_X9_lostByTeeth, ml_X9_lostByTeeth, ni_X9, my_X9_lostByTeeth⟩
theorem mc_X9_tenths : Cond.code yX9_tenths cX9_tenths 2 (some .int) ∈ zGW := zGW_in 953 (by decide +kernel) (by decide +kernel)
theorem mi_X9_tenths : Cond.instanceMethod yX9_tenths ∈ zGW := zGW_in 952 (by decide +kernel) (by decide +kernel)
theorem ml_X9_tenths : Cond.selects yX9_tenths.cls yX9_tenths yX9_tenths ∈ zGW := zGW_in 23 (by decide +kernel) (by decide +kernel)
theorem my_X9_tenths : yX9_tenths.cls ≠ "java/lang/invoke/MethodHandle" ∧ yX9_tenths.cls ≠ "java/lang/invoke/VarHandle" ∧ (parseMethodDescriptor yX9_tenths.desc).map (fun d => d.parameters.length) = some 1 := by decide +kernel
theorem vw_X9_163 : zVW RX9 163 yX9_tenths cX9_tenths 2 (some .int) 1 := ⟨mc_X9_tenths, zGW_in 950 (by decide +kernel) (by decide +kernel), mi_X9_tenths, ml_X9_tenths, ni_X9, my_X9_tenths⟩
theorem mc_X9_goTeeth : Cond.code yX9_goTeeth cX9_goTeeth 3 none ∈ zGW := zGW_in 938 (by decide +kernel) (by decide +kernel)
theorem mi_X9_goTeeth : Cond.instanceMethod yX9_goTeeth ∈ zGW := zGW_in 937 (by decide +kernel) (by decide +kernel)
theorem ml_X9_goTeeth : Cond.selects yX9_goTeeth.cls yX9_goTeeth yX9_goTeeth ∈ zGW := zGW_in 20 (by decide +kernel) (by decide +kernel)
theorem my_X9_goTeeth : yX9_goTeeth.cls ≠ "java/lang/invoke/MethodHandle" ∧ yX9_goTeeth.cls ≠ "java/lang/invoke/VarHandle" ∧ (parseMethodDescriptor yX9_goTeeth.desc).map (fun d => d.parameters.length) = some 1 := by decide +kernel
theorem vw_X9_178 : zVW RX9 178 yX9_goTeeth cX9_goTeeth 3 none 1 := ⟨mc_X9_goTeeth, zGW_in 935 (by decide +kernel) (by decide +kernel), mi_X9_goTeeth, ml_X9_goTeeth, ni_X9, my_X9_goTeeth⟩
theorem mc_X9_goWhirl : Cond.code yX9_goWhirl cX9_goWhirl 4 none ∈ zGW := zGW_in 946 (by decide +kernel) (by decide +kernel)
theorem mi_X9_goWhirl : Cond.instanceMethod yX9_goWhirl ∈ zGW := zGW_in 945 (by decide +kernel) (by decide +kernel)
theorem ml_X9_goWhirl : Cond.selects yX9_goWhirl.cls yX9_goWhirl yX9_goWhirl ∈ zGW := zGW_in 22 (by decide +kernel) (by decide +kernel)
theorem my_X9_goWhirl : yX9_goWhirl.cls ≠ "java/lang/invoke/MethodHandle" ∧ yX9_goWhirl.cls ≠ "java/lang/invoke/VarHandle" ∧ (parseMethodDescriptor yX9_goWhirl.desc).map (fun d => d.parameters.length) = some 2 := by decide +kernel
theorem vw_X9_182 : zVW RX9 182 yX9_goWhirl cX9_goWhirl 4 none 2 := ⟨mc_X9_goWhirl, zGW_in 943 (by decide +kernel) (by decide +kernel), mi_X9_goWhirl, ml_X9_goWhirl, ni_X9, my_X9_goWhirl⟩
theorem mc_X9_goCape : Cond.code yX9_goCape cX9_goCape 2 none ∈ zGW := zGW_in 957 (by decide +kernel) (by decide +kernel)
theorem mi_X9_goCape : Cond.instanceMethod yX9_goCape ∈ zGW := zGW_in 956 (by decide +kernel) (by decide +kernel)
theorem ml_X9_goCape : Cond.selects yX9_goCape.cls yX9_goCape yX9_goCape ∈ zGW := zGW_in 24 (by decide +kernel) (by decide +kernel)
theorem my_X9_goCape : yX9_goCape.cls ≠ "java/lang/invoke/MethodHandle" ∧ yX9_goCape.cls ≠ "java/lang/invoke/VarHandle" ∧ (parseMethodDescriptor yX9_goCape.desc).map (fun d => d.parameters.length) = some 1 := by decide +kernel
theorem vw_X9_186 : zVW RX9 186 yX9_goCape cX9_goCape 2 none 1 := ⟨mc_X9_goCape, zGW_in 954 (by decide +kernel) (by decide +kernel), mi_X9_goCape, ml_X9_goCape, ni_X9, my_X9_goCape⟩
theorem mc_X9_order : Cond.code yX9_order cX9_order 4 none ∈ zGW := zGW_in 934 (by decide +kernel) (by decide +kernel)
theorem mi_X9_order : Cond.instanceMethod yX9_order ∈ zGW := zGW_in 933 (by decide +kernel) (by decide +kernel)
theorem ml_X9_order : Cond.selects yX9_order.cls yX9_order yX9_order ∈ zGW := zGW_in 19 (by decide +kernel) (by decide +kernel)
theorem my_X9_order : yX9_order.cls ≠ "java/lang/invoke/MethodHandle" ∧ yX9_order.cls ≠ "java/lang/invoke/VarHandle" ∧ (parseMethodDescriptor yX9_order.desc).map (fun d => d.parameters.length) = some 3 := by decide +kernel
theorem vw_X9_189 : zVW RX9 189 yX9_order cX9_order 4 none 3 := ⟨mc_X9_order, zGW_in 931 (by decide +kernel) (by decide +kernel), mi_X9_order, ml_X9_order, ni_X9, my_X9_order⟩
theorem mc_X9_keepNow : Cond.code yX9_keepNow cX9_keepNow 2 none ∈ zGW := zGW_in 926 (by decide +kernel) (by decide +kernel)
theorem mi_X9_keepNow : Cond.instanceMethod yX9_keepNow ∈ zGW := zGW_in 925 (by decide +kernel) (by decide +kernel)
theorem ml_X9_keepNow : Cond.selects yX9_keepNow.cls yX9_keepNow yX9_keepNow ∈ zGW := zGW_in 17 (by decide +kernel) (by decide +kernel)
theorem my_X9_keepNow : yX9_keepNow.cls ≠ "java/lang/invoke/MethodHandle" ∧ yX9_keepNow.cls ≠ "java/lang/invoke/VarHandle" ∧ (parseMethodDescriptor yX9_keepNow.desc).map (fun d => d.parameters.length) = some 0 := by decide +kernel
theorem vw_X9_193 : zVW RX9 193 yX9_keepNow cX9_keepNow 2 none 0 := ⟨mc_X9_keepNow, zGW_in 923 (by decide +kernel) (by decide +kernel), mi_X9_keepNow, ml_X9_keepNow, ni_X9, my_X9_keepNow⟩
theorem mc_X9_goSeason : Cond.code yX9_goSeason cX9_goSeason 3 none ∈ zGW := zGW_in 930 (by decide +kernel) (by decide +kernel)
theorem mi_X9_goSeason : Cond.instanceMethod yX9_goSeason ∈ zGW := zGW_in 929 (by decide +kernel) (by decide +kernel)
theorem ml_X9_goSeason : Cond.selects yX9_goSeason.cls yX9_goSeason yX9_goSeason ∈ zGW := zGW_in 18 (by decide +kernel) (by decide +kernel)
theorem my_X9_goSeason : yX9_goSeason.cls ≠ "java/lang/invoke/MethodHandle" ∧ yX9_goSeason.cls ≠ "java/lang/invoke/VarHandle" ∧ (parseMethodDescriptor yX9_goSeason.desc).map (fun d => d.parameters.length) = some 0 := by decide +kernel
theorem vw_X9_196 : zVW RX9 196 yX9_goSeason cX9_goSeason 3 none 0 := ⟨mc_X9_goSeason, zGW_in 927 (by decide +kernel) (by decide +kernel), mi_X9_goSeason, ml_X9_goSeason, ni_X9, my_X9_goSeason⟩
theorem mc_X9_putBack : Cond.code yX9_putBack cX9_putBack 2 none ∈ zGW := zGW_in 961 (by decide +kernel) (by decide +kernel)
theorem mi_X9_putBack : Cond.instanceMethod yX9_putBack ∈ zGW := zGW_in 960 (by decide +kernel) (by decide +kernel)
theorem ml_X9_putBack : Cond.selects yX9_putBack.cls yX9_putBack yX9_putBack ∈ zGW := zGW_in 25 (by decide +kernel) (by decide +kernel)
theorem my_X9_putBack : yX9_putBack.cls ≠ "java/lang/invoke/MethodHandle" ∧ yX9_putBack.cls ≠ "java/lang/invoke/VarHandle" ∧ (parseMethodDescriptor yX9_putBack.desc).map (fun d => d.parameters.length) = some 0 := by decide +kernel
theorem vw_X9_199 : zVW RX9 199 yX9_putBack cX9_putBack 2 none 0 := ⟨mc_X9_putBack, zGW_in 958 (by decide +kernel) (by decide +kernel), mi_X9_putBack, ml_X9_putBack, ni_X9, my_X9_putBack⟩
theorem mc_X9_stateOf : Cond.code yX9_stateOf cX9_stateOf 3 (some .int) ∈ zGW := zGW_in 970 (by decide +kernel) (by decide +kernel)
theorem mi_X9_stateOf : Cond.instanceMethod yX9_stateOf ∈ zGW := zGW_in 969 (by decide +kernel) (by decide +kernel)
theorem ml_X9_stateOf : Cond.selects yX9_stateOf.cls yX9_stateOf yX9_stateOf ∈ zGW := zGW_in 26 (by decide +kernel) (by decide +kernel)
theorem my_X9_stateOf : yX9_stateOf.cls ≠ "java/lang/invoke/MethodHandle" ∧ yX9_stateOf.cls ≠ "java/lang/invoke/VarHandle" ∧ (parseMethodDescriptor yX9_stateOf.desc).map (fun d => d.parameters.length) = some 2 := by decide +kernel
theorem vw_X9_202 : zVW RX9 202 yX9_stateOf cX9_stateOf 3 (some .int) 2 := ⟨mc_X9_stateOf, zGW_in 967 (by decide +kernel) (by decide +kernel), mi_X9_stateOf, ml_X9_stateOf, ni_X9, my_X9_stateOf⟩
theorem mc_X9_teethTake : Cond.code yX9_teethTake cX9_teethTake 3 (some .int) ∈ zGW := zGW_in 1000 (by decide +kernel) (by decide +kernel)
theorem mi_X9_teethTake : Cond.instanceMethod yX9_teethTake ∈ zGW := zGW_in 999 (by decide +kernel) (by decide +kernel)
theorem ml_X9_teethTake : Cond.selects yX9_teethTake.cls yX9_teethTake yX9_teethTake ∈ zGW := zGW_in 28 (by decide +kernel) (by decide +kernel)
theorem my_X9_teethTake : yX9_teethTake.cls ≠ "java/lang/invoke/MethodHandle" ∧ yX9_teethTake.cls ≠ "java/lang/invoke/VarHandle" ∧ (parseMethodDescriptor yX9_teethTake.desc).map (fun d => d.parameters.length) = some 1 := by decide +kernel
theorem vw_X9_206 : zVW RX9 206 yX9_teethTake cX9_teethTake 3 (some .int) 1 := ⟨mc_X9_teethTake, zGW_in 997 (by decide +kernel) (by decide +kernel), mi_X9_teethTake, ml_X9_teethTake, ni_X9, my_X9_teethTake⟩
theorem mc_X9_allOf : Cond.code yX9_allOf cX9_allOf 2 (some .int) ∈ zGW := zGW_in 1004 (by decide +kernel) (by decide +kernel)
theorem mi_X9_allOf : Cond.instanceMethod yX9_allOf ∈ zGW := zGW_in 1003 (by decide +kernel) (by decide +kernel)
theorem ml_X9_allOf : Cond.selects yX9_allOf.cls yX9_allOf yX9_allOf ∈ zGW := zGW_in 29 (by decide +kernel) (by decide +kernel)
theorem my_X9_allOf : yX9_allOf.cls ≠ "java/lang/invoke/MethodHandle" ∧ yX9_allOf.cls ≠ "java/lang/invoke/VarHandle" ∧ (parseMethodDescriptor yX9_allOf.desc).map (fun d => d.parameters.length) = some 1 := by decide +kernel
theorem vw_X9_209 : zVW RX9 209 yX9_allOf cX9_allOf 2 (some .int) 1 := ⟨mc_X9_allOf, zGW_in 1001 (by decide +kernel) (by decide +kernel), mi_X9_allOf, ml_X9_allOf, ni_X9, my_X9_allOf⟩
theorem mc_X9_meanOf : Cond.code yX9_meanOf cX9_meanOf 4 (some .int) ∈ zGW := zGW_in 996 (by decide +kernel) (by decide +kernel)
theorem mi_X9_meanOf : Cond.instanceMethod yX9_meanOf ∈ zGW := zGW_in 995 (by decide +kernel) (by decide +kernel)
theorem ml_X9_meanOf : Cond.selects yX9_meanOf.cls yX9_meanOf yX9_meanOf ∈ zGW := zGW_in 27 (by decide +kernel) (by decide +kernel)
theorem my_X9_meanOf : yX9_meanOf.cls ≠ "java/lang/invoke/MethodHandle" ∧ yX9_meanOf.cls ≠ "java/lang/invoke/VarHandle" ∧ (parseMethodDescriptor yX9_meanOf.desc).map (fun d => d.parameters.length) = some 3 := by decide +kernel
theorem vw_X9_212 : zVW RX9 212 yX9_meanOf cX9_meanOf 4 (some .int) 3 := ⟨mc_X9_meanOf, zGW_in 993 (by decide +kernel) (by decide +kernel), mi_X9_meanOf, ml_X9_meanOf, ni_X9, my_X9_meanOf⟩
theorem mc_X9_worstOf : Cond.code yX9_worstOf cX9_worstOf 4 (some .int) ∈ zGW := zGW_in 1012 (by decide +kernel) (by decide +kernel)
theorem mi_X9_worstOf : Cond.instanceMethod yX9_worstOf ∈ zGW := zGW_in 1011 (by decide +kernel) (by decide +kernel)
theorem ml_X9_worstOf : Cond.selects yX9_worstOf.cls yX9_worstOf yX9_worstOf ∈ zGW := zGW_in 30 (by decide +kernel) (by decide +kernel)
theorem my_X9_worstOf : yX9_worstOf.cls ≠ "java/lang/invoke/MethodHandle" ∧ yX9_worstOf.cls ≠ "java/lang/invoke/VarHandle" ∧ (parseMethodDescriptor yX9_worstOf.desc).map (fun d => d.parameters.length) = some 3 := by decide +kernel
theorem vw_X9_222 : zVW RX9 222 yX9_worstOf cX9_worstOf 4 (some .int) 3 := ⟨mc_X9_worstOf, zGW_in 1009 (by decide +kernel) (by decide +kernel), mi_X9_worstOf, ml_X9_worstOf, ni_X9, my_X9_worstOf⟩
theorem mc_X9_choiceOf : Cond.code yX9_choiceOf cX9_choiceOf 5 (some .int) ∈ zGW := zGW_in 1020 (by decide +kernel) (by decide +kernel)
theorem mi_X9_choiceOf : Cond.instanceMethod yX9_choiceOf ∈ zGW := zGW_in 1019 (by decide +kernel) (by decide +kernel)
theorem ml_X9_choiceOf : Cond.selects yX9_choiceOf.cls yX9_choiceOf yX9_choiceOf ∈ zGW := zGW_in 31 (by decide +kernel) (by decide +kernel)
theorem my_X9_choiceOf : yX9_choiceOf.cls ≠ "java/lang/invoke/MethodHandle" ∧ yX9_choiceOf.cls ≠ "java/lang/invoke/VarHandle" ∧ (parseMethodDescriptor yX9_choiceOf.desc).map (fun d => d.parameters.length) = some 2 := by decide +kernel
theorem vw_X9_225 : zVW RX9 225 yX9_choiceOf cX9_choiceOf 5 (some .int) 2 := ⟨mc_X9_choiceOf, zGW_in 1017 (by decide +kernel) (by decide +kernel), mi_X9_choiceOf, ml_X9_choiceOf, ni_X9, my_X9_choiceOf⟩
theorem mc_X9_isInHarbour : Cond.code yX9_isInHarbour cX9_isInHarbour 2 (some .boolean) ∈ zGW := zGW_in 1034 (by decide +kernel) (by decide +kernel)
theorem mi_X9_isInHarbour : Cond.instanceMethod yX9_isInHarbour ∈ zGW := zGW_in 1033 (by decide +kernel) (by decide +kernel)
theorem ml_X9_isInHarbour : Cond.selects yX9_isInHarbour.cls yX9_isInHarbour yX9_isInHarbour ∈ zGW := zGW_in 32 (by decide +kernel) (by decide +kernel)
theorem my_X9_isInHarbour : yX9_isInHarbour.cls ≠ "java/lang/invoke/MethodHandle" ∧ yX9_isInHarbour.cls ≠ "java/lang/invoke/VarHandle" ∧ (parseMethodDescriptor yX9_isInHarbour.desc).map (fun d => d.parameters.length) = some 1 := by decide +kernel
theorem vw_X9_234 : zVW RX9 234 yX9_isInHarbour cX9_isInHarbour 2 (some .boolean) 1 := ⟨mc_X9_isInHarbour, zGW_in 1031 (by decide +kernel) (by decide +kernel), mi_X9_isInHarbour, ml_X9_isInHarbour, ni_X9, my_X9_isInHarbour⟩
theorem mc_X9_layFleet : Cond.code yX9_layFleet cX9_layFleet 5 none ∈ zGW := zGW_in 1039 (by decide +kernel) (by decide +kernel)
theorem mi_X9_layFleet : Cond.instanceMethod yX9_layFleet ∈ zGW := zGW_in 1038 (by decide +kernel) (by decide +kernel)
theorem ml_X9_layFleet : Cond.selects yX9_layFleet.cls yX9_layFleet yX9_layFleet ∈ zGW := zGW_in 33 (by decide +kernel) (by decide +kernel)
theorem my_X9_layFleet : yX9_layFleet.cls ≠ "java/lang/invoke/MethodHandle" ∧ yX9_layFleet.cls ≠ "java/lang/invoke/VarHandle" ∧ (parseMethodDescriptor yX9_layFleet.desc).map (fun d => d.parameters.length) = some 1 := by decide +kernel
theorem vw_X9_239 : zVW RX9 239 yX9_layFleet cX9_layFleet 5 none 1 := ⟨mc_X9_layFleet, zGW_in 1036 (by decide +kernel) (by decide +kernel), mi_X9_layFleet, ml_X9_layFleet, ni_X9, my_X9_layFleet⟩
theorem mc_X9_behindIt : Cond.code yX9_behindIt cX9_behindIt 4 (some .int) ∈ zGW := zGW_in 1043 (by decide +kernel) (by decide +kernel)
theorem mi_X9_behindIt : Cond.instanceMethod yX9_behindIt ∈ zGW := zGW_in 1042 (by decide +kernel) (by decide +kernel)
theorem ml_X9_behindIt : Cond.selects yX9_behindIt.cls yX9_behindIt yX9_behindIt ∈ zGW := zGW_in 34 (by decide +kernel) (by decide +kernel)
theorem my_X9_behindIt : yX9_behindIt.cls ≠ "java/lang/invoke/MethodHandle" ∧ yX9_behindIt.cls ≠ "java/lang/invoke/VarHandle" ∧ (parseMethodDescriptor yX9_behindIt.desc).map (fun d => d.parameters.length) = some 1 := by decide +kernel
theorem vw_X9_242 : zVW RX9 242 yX9_behindIt cX9_behindIt 4 (some .int) 1 := ⟨mc_X9_behindIt, zGW_in 1040 (by decide +kernel) (by decide +kernel), mi_X9_behindIt, ml_X9_behindIt, ni_X9, my_X9_behindIt⟩
theorem mc_X9_isOnLine : Cond.code yX9_isOnLine cX9_isOnLine 6 (some .boolean) ∈ zGW := zGW_in 1051 (by decide +kernel) (by decide +kernel)
theorem mi_X9_isOnLine : Cond.instanceMethod yX9_isOnLine ∈ zGW := zGW_in 1050 (by decide +kernel) (by decide +kernel)
theorem ml_X9_isOnLine : Cond.selects yX9_isOnLine.cls yX9_isOnLine yX9_isOnLine ∈ zGW := zGW_in 35 (by decide +kernel) (by decide +kernel)
theorem my_X9_isOnLine : yX9_isOnLine.cls ≠ "java/lang/invoke/MethodHandle" ∧ yX9_isOnLine.cls ≠ "java/lang/invoke/VarHandle" ∧ (parseMethodDescriptor yX9_isOnLine.desc).map (fun d => d.parameters.length) = some 1 := by decide +kernel
theorem vw_X9_245 : zVW RX9 245 yX9_isOnLine cX9_isOnLine 6 (some .boolean) 1 := ⟨mc_X9_isOnLine, zGW_in 1048 (by decide +kernel) (by decide +kernel), mi_X9_isOnLine, ml_X9_isOnLine, ni_X9, my_X9_isOnLine⟩
theorem mc_X9_lessThan : Cond.code yX9_lessThan cX9_lessThan 4 (some .int) ∈ zGW := zGW_in 1055 (by decide +kernel) (by decide +kernel)
theorem mi_X9_lessThan : Cond.instanceMethod yX9_lessThan ∈ zGW := zGW_in 1054 (by decide +kernel) (by decide +kernel)
theorem ml_X9_lessThan : Cond.selects yX9_lessThan.cls yX9_lessThan yX9_lessThan ∈ zGW := zGW_in 36 (by decide +kernel) (by decide +kernel)
theorem my_X9_lessThan : yX9_lessThan.cls ≠ "java/lang/invoke/MethodHandle" ∧ yX9_lessThan.cls ≠ "java/lang/invoke/VarHandle" ∧ (parseMethodDescriptor yX9_lessThan.desc).map (fun d => d.parameters.length) = some 1 := by decide +kernel
theorem vw_X9_248 : zVW RX9 248 yX9_lessThan cX9_lessThan 4 (some .int) 1 := ⟨mc_X9_lessThan, zGW_in 1052 (by decide +kernel) (by decide +kernel), mi_X9_lessThan, ml_X9_lessThan, ni_X9, my_X9_lessThan⟩
theorem mc_X9_gets : Cond.code yX9_gets cX9_gets 7 (some .int) ∈ zGW := zGW_in 1071 (by decide +kernel) (by decide +kernel)
theorem mi_X9_gets : Cond.instanceMethod yX9_gets ∈ zGW := zGW_in 1070 (by decide +kernel) (by decide +kernel)
theorem ml_X9_gets : Cond.selects yX9_gets.cls yX9_gets yX9_gets ∈ zGW := zGW_in 38 (by decide +kernel) (by decide +kernel)
theorem my_X9_gets : yX9_gets.cls ≠ "java/lang/invoke/MethodHandle" ∧ yX9_gets.cls ≠ "java/lang/invoke/VarHandle" ∧ (parseMethodDescriptor yX9_gets.desc).map (fun d => d.parameters.length) = some 4 := by decide +kernel
theorem vw_X9_251 : zVW RX9 251 yX9_gets cX9_gets 7 (some .int) 4 := ⟨mc_X9_gets, zGW_in 1068 (by decide +kernel) (by decide +kernel), mi_X9_gets, ml_X9_gets, ni_X9, my_X9_gets⟩
theorem mc_X9_captainBy : Cond.code yX9_captainBy cX9_captainBy 6 (some .int) ∈ zGW := zGW_in 1067 (by decide +kernel) (by decide +kernel)
theorem mi_X9_captainBy : Cond.instanceMethod yX9_captainBy ∈ zGW := zGW_in 1066 (by decide +kernel) (by decide +kernel)
theorem ml_X9_captainBy : Cond.selects yX9_captainBy.cls yX9_captainBy yX9_captainBy ∈ zGW := zGW_in 37 (by decide +kernel) (by decide +kernel)
theorem my_X9_captainBy : yX9_captainBy.cls ≠ "java/lang/invoke/MethodHandle" ∧ yX9_captainBy.cls ≠ "java/lang/invoke/VarHandle" ∧ (parseMethodDescriptor yX9_captainBy.desc).map (fun d => d.parameters.length) = some 3 := by decide +kernel
theorem vw_X9_255 : zVW RX9 255 yX9_captainBy cX9_captainBy 6 (some .int) 3 := ⟨mc_X9_captainBy, zGW_in 1064 (by decide +kernel) (by decide +kernel), mi_X9_captainBy, ml_X9_captainBy, ni_X9, my_X9_captainBy⟩
theorem mc_X9_got : Cond.code yX9_got cX9_got 4 (some .int) ∈ zGW := zGW_in 1093 (by decide +kernel) (by decide +kernel)
theorem mi_X9_got : Cond.instanceMethod yX9_got ∈ zGW := zGW_in 1092 (by decide +kernel) (by decide +kernel)
theorem ml_X9_got : Cond.selects yX9_got.cls yX9_got yX9_got ∈ zGW := zGW_in 39 (by decide +kernel) (by decide +kernel)
theorem my_X9_got : yX9_got.cls ≠ "java/lang/invoke/MethodHandle" ∧ yX9_got.cls ≠ "java/lang/invoke/VarHandle" ∧ (parseMethodDescriptor yX9_got.desc).map (fun d => d.parameters.length) = some 1 := by decide +kernel
theorem vw_X9_265 : zVW RX9 265 yX9_got cX9_got 4 (some .int) 1 := ⟨mc_X9_got, zGW_in 1090 (by decide +kernel) (by decide +kernel), mi_X9_got, ml_X9_got, ni_X9, my_X9_got⟩
theorem mc_X9_premiums : Cond.code yX9_premiums cX9_premiums 4 (some .int) ∈ zGW := zGW_in 1097 (by decide +kernel) (by decide +kernel)
theorem mi_X9_premiums : Cond.instanceMethod yX9_premiums ∈ zGW := zGW_in 1096 (by decide +kernel) (by decide +kernel)
theorem ml_X9_premiums : Cond.selects yX9_premiums.cls yX9_premiums yX9_premiums ∈ zGW := zGW_in 40 (by decide +kernel) (by decide +kernel)
theorem my_X9_premiums : yX9_premiums.cls ≠ "java/lang/invoke/MethodHandle" ∧ yX9_premiums.cls ≠ "java/lang/invoke/VarHandle" ∧ (parseMethodDescriptor yX9_premiums.desc).map (fun d => d.parameters.length) = some 1 := by decide +kernel
theorem vw_X9_268 : zVW RX9 268 yX9_premiums cX9_premiums 4 (some .int) 1 := ⟨mc_X9_premiums, zGW_in 1094 (by decide +kernel) (by decide +kernel), mi_X9_premiums, ml_X9_premiums, ni_X9, my_X9_premiums⟩
theorem mc_X9_isAboard : Cond.code yX9_isAboard cX9_isAboard 2 (some .boolean) ∈ zGW := zGW_in 1110 (by decide +kernel) (by decide +kernel)
theorem mi_X9_isAboard : Cond.instanceMethod yX9_isAboard ∈ zGW := zGW_in 1109 (by decide +kernel) (by decide +kernel)
theorem ml_X9_isAboard : Cond.selects yX9_isAboard.cls yX9_isAboard yX9_isAboard ∈ zGW := zGW_in 41 (by decide +kernel) (by decide +kernel)
theorem my_X9_isAboard : yX9_isAboard.cls ≠ "java/lang/invoke/MethodHandle" ∧ yX9_isAboard.cls ≠ "java/lang/invoke/VarHandle" ∧ (parseMethodDescriptor yX9_isAboard.desc).map (fun d => d.parameters.length) = some 1 := by decide +kernel
theorem vw_X9_275 : zVW RX9 275 yX9_isAboard cX9_isAboard 2 (some .boolean) 1 := ⟨mc_X9_isAboard, zGW_in 1107 (by decide +kernel) (by decide +kernel), mi_X9_isAboard, ml_X9_isAboard, ni_X9, my_X9_isAboard⟩
theorem mc_X9_pass : Cond.code yX9_pass cX9_pass 3 (some .int) ∈ zGW := zGW_in 1168 (by decide +kernel) (by decide +kernel)
theorem mi_X9_pass : Cond.instanceMethod yX9_pass ∈ zGW := zGW_in 1167 (by decide +kernel) (by decide +kernel)
theorem ml_X9_pass : Cond.selects yX9_pass.cls yX9_pass yX9_pass ∈ zGW := zGW_in 44 (by decide +kernel) (by decide +kernel)
theorem my_X9_pass : yX9_pass.cls ≠ "java/lang/invoke/MethodHandle" ∧ yX9_pass.cls ≠ "java/lang/invoke/VarHandle" ∧ (parseMethodDescriptor yX9_pass.desc).map (fun d => d.parameters.length) = some 1 := by decide +kernel
theorem vw_X9_309 : zVW RX9 309 yX9_pass cX9_pass 3 (some .int) 1 := ⟨mc_X9_pass, zGW_in 1165 (by decide +kernel) (by decide +kernel), mi_X9_pass, ml_X9_pass, ni_X9, my_X9_pass⟩
theorem mc_X9_passNumbers : Cond.code yX9_passNumbers cX9_passNumbers 1 none ∈ zGW := zGW_in 1164 (by decide +kernel) (by decide +kernel)
theorem mi_X9_passNumbers : Cond.instanceMethod yX9_passNumbers ∈ zGW := zGW_in 1163 (by decide +kernel) (by decide +kernel)
theorem ml_X9_passNumbers : Cond.selects yX9_passNumbers.cls yX9_passNumbers yX9_passNumbers ∈ zGW := zGW_in 43 (by decide +kernel) (by decide +kernel)
theorem my_X9_passNumbers : yX9_passNumbers.cls ≠ "java/lang/invoke/MethodHandle" ∧ yX9_passNumbers.cls ≠ "java/lang/invoke/VarHandle" ∧ (parseMethodDescriptor yX9_passNumbers.desc).map (fun d => d.parameters.length) = some 0 := by decide +kernel
theorem vw_X9_312 : zVW RX9 312 yX9_passNumbers cX9_passNumbers 1 none 0 := ⟨mc_X9_passNumbers, zGW_in 1161 (by decide +kernel) (by decide +kernel), mi_X9_passNumbers, ml_X9_passNumbers, ni_X9, my_X9_passNumbers⟩
theorem mc_X9_passAll : Cond.code yX9_passAll cX9_passAll 2 none ∈ zGW := zGW_in 1160 (by decide +kernel) (by decide +kernel)
theorem mi_X9_passAll : Cond.instanceMethod yX9_passAll ∈ zGW := zGW_in 1159 (by decide +kernel) (by decide +kernel)
theorem ml_X9_passAll : Cond.selects yX9_passAll.cls yX9_passAll yX9_passAll ∈ zGW := zGW_in 42 (by decide +kernel) (by decide +kernel)
theorem my_X9_passAll : yX9_passAll.cls ≠ "java/lang/invoke/MethodHandle" ∧ yX9_passAll.cls ≠ "java/lang/invoke/VarHandle" ∧ (parseMethodDescriptor yX9_passAll.desc).map (fun d => d.parameters.length) = some 0 := by decide +kernel
theorem vw_X9_315 : zVW RX9 315 yX9_passAll cX9_passAll 2 none 0 := ⟨mc_X9_passAll, zGW_in 1157 (by decide +kernel) (by decide +kernel), mi_X9_passAll, ml_X9_passAll, ni_X9, my_X9_passAll⟩
theorem mc_X9_toldMany : Cond.code yX9_toldMany cX9_toldMany 2 (some .int) ∈ zGW := zGW_in 1185 (by decide +kernel) (by decide +kernel)
theorem mi_X9_toldMany : Cond.instanceMethod yX9_toldMany ∈ zGW := zGW_in 1184 (by decide +kernel) (by decide +kernel)
theorem ml_X9_toldMany : Cond.selects yX9_toldMany.cls yX9_toldMany yX9_toldMany ∈ zGW := zGW_in 45 (by decide +kernel) (by decide +kernel)
theorem my_X9_toldMany : yX9_toldMany.cls ≠ "java/lang/invoke/MethodHandle" ∧ yX9_toldMany.cls ≠ "java/lang/invoke/VarHandle" ∧ (parseMethodDescriptor yX9_toldMany.desc).map (fun d => d.parameters.length) = some 1 := by decide +kernel
theorem vw_X9_328 : zVW RX9 328 yX9_toldMany cX9_toldMany 2 (some .int) 1 := ⟨mc_X9_toldMany, zGW_in 1182 (by decide +kernel) (by decide +kernel), mi_X9_toldMany, ml_X9_toldMany, ni_X9, my_X9_toldMany⟩
theorem mc_X8_within : Cond.code yX8_within cX8_within 3 (some .boolean) ∈ zGW := zGW_in 288 (by decide +kernel) (by decide +kernel)
theorem ms_X8_within : Cond.static yX8_within ∈ zGW := zGW_in 287 (by decide +kernel) (by decide +kernel)
theorem my_X8_within : yX8_within.cls ≠ "java/lang/invoke/MethodHandle" ∧ yX8_within.cls ≠ "java/lang/invoke/VarHandle" ∧ (parseMethodDescriptor yX8_within.desc).map (fun d => d.parameters.length) = some 3 := by decide +kernel
theorem sw_X8_47 : zSW RX8 47 yX8_within cX8_within 3 (some .boolean) 3 := ⟨mc_X8_within, zGW_in 286 (by decide +kernel) (by decide +kernel), ms_X8_within, ni_X8, my_X8_within⟩
theorem mc_J6_bitCount_0f7a4 : Cond.code yJ6_bitCount_0f7a4 cJ6_bitCount_0f7a4 1 (some .int) ∈ zGW := zGW_in 291 (by decide +kernel) (by decide +kernel)
theorem ms_J6_bitCount_0f7a4 : Cond.static yJ6_bitCount_0f7a4 ∈ zGW := zGW_in 290 (by decide +kernel) (by decide +kernel)
theorem my_J6_bitCount_0f7a4 : yJ6_bitCount_0f7a4.cls ≠ "java/lang/invoke/MethodHandle" ∧ yJ6_bitCount_0f7a4.cls ≠ "java/lang/invoke/VarHandle" ∧ (parseMethodDescriptor yJ6_bitCount_0f7a4.desc).map (fun d => d.parameters.length) = some 1 := by decide +kernel
theorem ni_J6 : Cond.initialized "java/lang/Integer" ∈ zGW := zGW_in 57 (by decide +kernel) (by decide +kernel)
theorem sw_X8_73 : zSW RX8 73 yJ6_bitCount_0f7a4 cJ6_bitCount_0f7a4 1 (some .int) 1 := ⟨mc_J6_bitCount_0f7a4, zGW_in 289 (by decide +kernel) (by decide +kernel), ms_J6_bitCount_0f7a4, ni_J6, my_J6_bitCount_0f7a4⟩
theorem mc_X8_isHour : Cond.code yX8_isHour cX8_isHour 1 (some .boolean) ∈ zGW := zGW_in 454 (by decide +kernel) (by decide +kernel)
theorem ms_X8_isHour : Cond.static yX8_isHour ∈ zGW := zGW_in 453 (by decide +kernel) (by decide +kernel)
theorem my_X8_isHour : yX8_isHour.cls ≠ "java/lang/invoke/MethodHandle" ∧ yX8_isHour.cls ≠ "java/lang/invoke/VarHandle" ∧ (parseMethodDescriptor yX8_isHour.desc).map (fun d => d.parameters.length) = some 1 := by decide +kernel
theorem sw_X8_145 : zSW RX8 145 yX8_isHour cX8_isHour 1 (some .boolean) 1 := ⟨mc_X8_isHour, zGW_in 452 (by decide +kernel) (by decide +kernel), ms_X8_isHour, ni_X8, my_X8_isHour⟩
theorem mc_X8_partOf : Cond.code yX8_partOf cX8_partOf 7 (some .long) ∈ zGW := zGW_in 644 (by decide +kernel) (by decide +kernel)
theorem ms_X8_partOf : Cond.static yX8_partOf ∈ zGW := zGW_in 643 (by decide +kernel) (by decide +kernel)
theorem my_X8_partOf : yX8_partOf.cls ≠ "java/lang/invoke/MethodHandle" ∧ yX8_partOf.cls ≠ "java/lang/invoke/VarHandle" ∧ (parseMethodDescriptor yX8_partOf.desc).map (fun d => d.parameters.length) = some 3 := by decide +kernel
theorem sw_X8_246 : zSW RX8 246 yX8_partOf cX8_partOf 7 (some .long) 3 := ⟨mc_X8_partOf, zGW_in 642 (by decide +kernel) (by decide +kernel), ms_X8_partOf, ni_X8, my_X8_partOf⟩
theorem mc_X8_ways : Cond.code yX8_ways cX8_ways 5 (some .long) ∈ zGW := zGW_in 654 (by decide +kernel) (by decide +kernel)
theorem ms_X8_ways : Cond.static yX8_ways ∈ zGW := zGW_in 653 (by decide +kernel) (by decide +kernel)
theorem my_X8_ways : yX8_ways.cls ≠ "java/lang/invoke/MethodHandle" ∧ yX8_ways.cls ≠ "java/lang/invoke/VarHandle" ∧ (parseMethodDescriptor yX8_ways.desc).map (fun d => d.parameters.length) = some 2 := by decide +kernel
theorem sw_X8_250 : zSW RX8 250 yX8_ways cX8_ways 5 (some .long) 2 := ⟨mc_X8_ways, zGW_in 652 (by decide +kernel) (by decide +kernel), ms_X8_ways, ni_X8, my_X8_ways⟩
theorem mc_X8_power : Cond.code yX8_power cX8_power 5 (some .long) ∈ zGW := zGW_in 657 (by decide +kernel) (by decide +kernel)
theorem ms_X8_power : Cond.static yX8_power ∈ zGW := zGW_in 656 (by decide +kernel) (by decide +kernel)
theorem my_X8_power : yX8_power.cls ≠ "java/lang/invoke/MethodHandle" ∧ yX8_power.cls ≠ "java/lang/invoke/VarHandle" ∧ (parseMethodDescriptor yX8_power.desc).map (fun d => d.parameters.length) = some 2 := by decide +kernel
theorem sw_X8_254 : zSW RX8 254 yX8_power cX8_power 5 (some .long) 2 := ⟨mc_X8_power, zGW_in 655 (by decide +kernel) (by decide +kernel), ms_X8_power, ni_X8, my_X8_power⟩
theorem mc_X8_drawAfter : Cond.code yX8_drawAfter cX8_drawAfter 1 (some .int) ∈ zGW := zGW_in 413 (by decide +kernel) (by decide +kernel)
theorem ms_X8_drawAfter : Cond.static yX8_drawAfter ∈ zGW := zGW_in 412 (by decide +kernel) (by decide +kernel)
theorem my_X8_drawAfter : yX8_drawAfter.cls ≠ "java/lang/invoke/MethodHandle" ∧ yX8_drawAfter.cls ≠ "java/lang/invoke/VarHandle" ∧ (parseMethodDescriptor yX8_drawAfter.desc).map (fun d => d.parameters.length) = some 1 := by decide +kernel
theorem sw_X8_277 : zSW RX8 277 yX8_drawAfter cX8_drawAfter 1 (some .int) 1 := ⟨mc_X8_drawAfter, zGW_in 687 (by decide +kernel) (by decide +kernel), ms_X8_drawAfter, ni_X8, my_X8_drawAfter⟩
theorem mc_X8_commonDivisor : Cond.code yX8_commonDivisor cX8_commonDivisor 11 (some .long) ∈ zGW := zGW_in 647 (by decide +kernel) (by decide +kernel)
theorem ms_X8_commonDivisor : Cond.static yX8_commonDivisor ∈ zGW := zGW_in 646 (by decide +kernel) (by decide +kernel)
theorem my_X8_commonDivisor : yX8_commonDivisor.cls ≠ "java/lang/invoke/MethodHandle" ∧ yX8_commonDivisor.cls ≠ "java/lang/invoke/VarHandle" ∧ (parseMethodDescriptor yX8_commonDivisor.desc).map (fun d => d.parameters.length) = some 2 := by decide +kernel
theorem sw_X8_288 : zSW RX8 288 yX8_commonDivisor cX8_commonDivisor 11 (some .long) 2 := ⟨mc_X8_commonDivisor, zGW_in 645 (by decide +kernel) (by decide +kernel), ms_X8_commonDivisor, ni_X8, my_X8_commonDivisor⟩
theorem mc_X2_worstIn : Cond.code yX2_worstIn cX2_worstIn 2 (some .int) ∈ zGW := zGW_in 520 (by decide +kernel) (by decide +kernel)
theorem ms_X2_worstIn : Cond.static yX2_worstIn ∈ zGW := zGW_in 519 (by decide +kernel) (by decide +kernel)
theorem my_X2_worstIn : yX2_worstIn.cls ≠ "java/lang/invoke/MethodHandle" ∧ yX2_worstIn.cls ≠ "java/lang/invoke/VarHandle" ∧ (parseMethodDescriptor yX2_worstIn.desc).map (fun d => d.parameters.length) = some 1 := by decide +kernel
theorem sw_X2_48 : zSW RX2 48 yX2_worstIn cX2_worstIn 2 (some .int) 1 := ⟨mc_X2_worstIn, zGW_in 518 (by decide +kernel) (by decide +kernel), ms_X2_worstIn, ni_X2, my_X2_worstIn⟩
theorem mc_X2_meanIn : Cond.code yX2_meanIn cX2_meanIn 2 (some .int) ∈ zGW := zGW_in 523 (by decide +kernel) (by decide +kernel)
theorem ms_X2_meanIn : Cond.static yX2_meanIn ∈ zGW := zGW_in 522 (by decide +kernel) (by decide +kernel)
theorem my_X2_meanIn : yX2_meanIn.cls ≠ "java/lang/invoke/MethodHandle" ∧ yX2_meanIn.cls ≠ "java/lang/invoke/VarHandle" ∧ (parseMethodDescriptor yX2_meanIn.desc).map (fun d => d.parameters.length) = some 1 := by decide +kernel
theorem sw_X2_52 : zSW RX2 52 yX2_meanIn cX2_meanIn 2 (some .int) 1 := ⟨mc_X2_meanIn, zGW_in 521 (by decide +kernel) (by decide +kernel), ms_X2_meanIn, ni_X2, my_X2_meanIn⟩
theorem mc_X3_sumOver : Cond.code yX3_sumOver cX3_sumOver 4 (some .int) ∈ zGW := zGW_in 610 (by decide +kernel) (by decide +kernel)
theorem ms_X3_sumOver : Cond.static yX3_sumOver ∈ zGW := zGW_in 609 (by decide +kernel) (by decide +kernel)
theorem my_X3_sumOver : yX3_sumOver.cls ≠ "java/lang/invoke/MethodHandle" ∧ yX3_sumOver.cls ≠ "java/lang/invoke/VarHandle" ∧ (parseMethodDescriptor yX3_sumOver.desc).map (fun d => d.parameters.length) = some 2 := by decide +kernel
theorem sw_X3_28 : zSW RX3 28 yX3_sumOver cX3_sumOver 4 (some .int) 2 := ⟨mc_X3_sumOver, zGW_in 608 (by decide +kernel) (by decide +kernel), ms_X3_sumOver, ni_X3, my_X3_sumOver⟩
theorem mc_X9_in : Cond.code yX9_in cX9_in 6 (some .boolean) ∈ zGW := zGW_in 862 (by decide +kernel) (by decide +kernel)
theorem ms_X9_in : Cond.static yX9_in ∈ zGW := zGW_in 861 (by decide +kernel) (by decide +kernel)
theorem my_X9_in : yX9_in.cls ≠ "java/lang/invoke/MethodHandle" ∧ yX9_in.cls ≠ "java/lang/invoke/VarHandle" ∧ (parseMethodDescriptor yX9_in.desc).map (fun d => d.parameters.length) = some 3 := by decide +kernel
theorem sw_X9_89 : zSW RX9 89 yX9_in cX9_in 6 (some .boolean) 3 := ⟨mc_X9_in, zGW_in 860 (by decide +kernel) (by decide +kernel), ms_X9_in, ni_X9, my_X9_in⟩
theorem mc_X9_isNumber : Cond.code yX9_isNumber cX9_isNumber 1 (some .boolean) ∈ zGW := zGW_in 858 (by decide +kernel) (by decide +kernel)
theorem ms_X9_isNumber : Cond.static yX9_isNumber ∈ zGW := zGW_in 857 (by decide +kernel) (by decide +kernel)
theorem my_X9_isNumber : yX9_isNumber.cls ≠ "java/lang/invoke/MethodHandle" ∧ yX9_isNumber.cls ≠ "java/lang/invoke/VarHandle" ∧ (parseMethodDescriptor yX9_isNumber.desc).map (fun d => d.parameters.length) = some 1 := by decide +kernel
theorem sw_X9_93 : zSW RX9 93 yX9_isNumber cX9_isNumber 1 (some .boolean) 1 := ⟨mc_X9_isNumber, zGW_in 856 (by decide +kernel) (by decide +kernel), ms_X9_isNumber, ni_X9, my_X9_isNumber⟩
theorem mc_X9_ones : Cond.code yX9_ones cX9_ones 3 (some .int) ∈ zGW := zGW_in 868 (by decide +kernel) (by decide +kernel)
theorem ms_X9_ones : Cond.static yX9_ones ∈ zGW := zGW_in 867 (by decide +kernel) (by decide +kernel)
theorem my_X9_ones : yX9_ones.cls ≠ "java/lang/invoke/MethodHandle" ∧ yX9_ones.cls ≠ "java/lang/invoke/VarHandle" ∧ (parseMethodDescriptor yX9_ones.desc).map (fun d => d.parameters.length) = some 1 := by decide +kernel
theorem sw_X9_108 : zSW RX9 108 yX9_ones cX9_ones 3 (some .int) 1 := ⟨mc_X9_ones, zGW_in 866 (by decide +kernel) (by decide +kernel), ms_X9_ones, ni_X9, my_X9_ones⟩
theorem mc_X9_greatest : Cond.code yX9_greatest cX9_greatest 1 (some .int) ∈ zGW := zGW_in 884 (by decide +kernel) (by decide +kernel)
theorem ms_X9_greatest : Cond.static yX9_greatest ∈ zGW := zGW_in 883 (by decide +kernel) (by decide +kernel)
theorem my_X9_greatest : yX9_greatest.cls ≠ "java/lang/invoke/MethodHandle" ∧ yX9_greatest.cls ≠ "java/lang/invoke/VarHandle" ∧ (parseMethodDescriptor yX9_greatest.desc).map (fun d => d.parameters.length) = some 1 := by decide +kernel
theorem sw_X9_120 : zSW RX9 120 yX9_greatest cX9_greatest 1 (some .int) 1 := ⟨mc_X9_greatest, zGW_in 882 (by decide +kernel) (by decide +kernel), ms_X9_greatest, ni_X9, my_X9_greatest⟩
theorem mc_X9_isSide : Cond.code yX9_isSide cX9_isSide 1 (some .boolean) ∈ zGW := zGW_in 989 (by decide +kernel) (by decide +kernel)
theorem ms_X9_isSide : Cond.static yX9_isSide ∈ zGW := zGW_in 988 (by decide +kernel) (by decide +kernel)
theorem my_X9_isSide : yX9_isSide.cls ≠ "java/lang/invoke/MethodHandle" ∧ yX9_isSide.cls ≠ "java/lang/invoke/VarHandle" ∧ (parseMethodDescriptor yX9_isSide.desc).map (fun d => d.parameters.length) = some 1 := by decide +kernel
theorem sw_X9_216 : zSW RX9 216 yX9_isSide cX9_isSide 1 (some .boolean) 1 := ⟨mc_X9_isSide, zGW_in 987 (by decide +kernel) (by decide +kernel), ms_X9_isSide, ni_X9, my_X9_isSide⟩
theorem mc_X9_isHour : Cond.code yX9_isHour cX9_isHour 1 (some .boolean) ∈ zGW := zGW_in 992 (by decide +kernel) (by decide +kernel)
theorem ms_X9_isHour : Cond.static yX9_isHour ∈ zGW := zGW_in 991 (by decide +kernel) (by decide +kernel)
theorem my_X9_isHour : yX9_isHour.cls ≠ "java/lang/invoke/MethodHandle" ∧ yX9_isHour.cls ≠ "java/lang/invoke/VarHandle" ∧ (parseMethodDescriptor yX9_isHour.desc).map (fun d => d.parameters.length) = some 1 := by decide +kernel
theorem sw_X9_219 : zSW RX9 219 yX9_isHour cX9_isHour 1 (some .boolean) 1 := ⟨mc_X9_isHour, zGW_in 990 (by decide +kernel) (by decide +kernel), ms_X9_isHour, ni_X9, my_X9_isHour⟩
theorem mc_X9_lowest : Cond.code yX9_lowest cX9_lowest 11 (some .long) ∈ zGW := zGW_in 1119 (by decide +kernel) (by decide +kernel)
theorem ms_X9_lowest : Cond.static yX9_lowest ∈ zGW := zGW_in 1118 (by decide +kernel) (by decide +kernel)
theorem my_X9_lowest : yX9_lowest.cls ≠ "java/lang/invoke/MethodHandle" ∧ yX9_lowest.cls ≠ "java/lang/invoke/VarHandle" ∧ (parseMethodDescriptor yX9_lowest.desc).map (fun d => d.parameters.length) = some 3 := by decide +kernel
theorem sw_X9_282 : zSW RX9 282 yX9_lowest cX9_lowest 11 (some .long) 3 := ⟨mc_X9_lowest, zGW_in 1117 (by decide +kernel) (by decide +kernel), ms_X9_lowest, ni_X9, my_X9_lowest⟩
theorem mc_X9_choose : Cond.code yX9_choose cX9_choose 5 (some .long) ∈ zGW := zGW_in 1127 (by decide +kernel) (by decide +kernel)
theorem ms_X9_choose : Cond.static yX9_choose ∈ zGW := zGW_in 1126 (by decide +kernel) (by decide +kernel)
theorem my_X9_choose : yX9_choose.cls ≠ "java/lang/invoke/MethodHandle" ∧ yX9_choose.cls ≠ "java/lang/invoke/VarHandle" ∧ (parseMethodDescriptor yX9_choose.desc).map (fun d => d.parameters.length) = some 2 := by decide +kernel
theorem sw_X9_288 : zSW RX9 288 yX9_choose cX9_choose 5 (some .long) 2 := ⟨mc_X9_choose, zGW_in 1125 (by decide +kernel) (by decide +kernel), ms_X9_choose, ni_X9, my_X9_choose⟩
theorem mc_X9_power : Cond.code yX9_power cX9_power 5 (some .long) ∈ zGW := zGW_in 1130 (by decide +kernel) (by decide +kernel)
theorem ms_X9_power : Cond.static yX9_power ∈ zGW := zGW_in 1129 (by decide +kernel) (by decide +kernel)
theorem my_X9_power : yX9_power.cls ≠ "java/lang/invoke/MethodHandle" ∧ yX9_power.cls ≠ "java/lang/invoke/VarHandle" ∧ (parseMethodDescriptor yX9_power.desc).map (fun d => d.parameters.length) = some 2 := by decide +kernel
theorem sw_X9_292 : zSW RX9 292 yX9_power cX9_power 5 (some .long) 2 := ⟨mc_X9_power, zGW_in 1128 (by decide +kernel) (by decide +kernel), ms_X9_power, ni_X9, my_X9_power⟩
theorem nw_X1_25 : zNWd RX1 25 yX8_within "StraitFleet" cX8_within 3 (some .boolean) 3 := ⟨mc_X8_within, zNW_in 630 (by decide +kernel) (by decide +kernel), ms_X8_within, ni_X8, my_X8_within⟩
theorem nw_X2_55 : zNWd RX2 55 yX8_within "StraitFleet" cX8_within 3 (some .boolean) 3 := ⟨mc_X8_within, zNW_in 528 (by decide +kernel) (by decide +kernel), ms_X8_within, ni_X8, my_X8_within⟩
theorem nw_X4_19 : zNWd RX4 19 yX8_within "StraitFleet" cX8_within 3 (some .boolean) 3 := ⟨mc_X8_within, zNW_in 332 (by decide +kernel) (by decide +kernel), ms_X8_within, ni_X8, my_X8_within⟩
theorem nw_X6_54 : zNWd RX6 54 yX8_within "StraitFleet" cX8_within 3 (some .boolean) 3 := ⟨mc_X8_within, zNW_in 303 (by decide +kernel) (by decide +kernel), ms_X8_within, ni_X8, my_X8_within⟩
theorem nw_X6_89 : zNWd RX6 89 yX8_drawAfter "StraitFleet" cX8_drawAfter 1 (some .int) 1 := ⟨mc_X8_drawAfter, zNW_in 411 (by decide +kernel) (by decide +kernel), ms_X8_drawAfter, ni_X8, my_X8_drawAfter⟩
theorem aw_X1_19 : zAW RX1 19 := ⟨zGW_in 710 (by decide +kernel) (by decide +kernel), zGW_in 374 (by decide +kernel) (by decide +kernel), zGW_in 373 (by decide +kernel) (by decide +kernel), zGW_in 59 (by decide +kernel) (by decide +kernel)⟩
theorem aw_X2_71 : zAW RX2 71 := ⟨zGW_in 549 (by decide +kernel) (by decide +kernel), zGW_in 374 (by decide +kernel) (by decide +kernel), zGW_in 373 (by decide +kernel) (by decide +kernel), zGW_in 59 (by decide +kernel) (by decide +kernel)⟩
theorem aw_X3_22 : zAW RX3 22 := ⟨zGW_in 705 (by decide +kernel) (by decide +kernel), zGW_in 374 (by decide +kernel) (by decide +kernel), zGW_in 373 (by decide +kernel) (by decide +kernel), zGW_in 59 (by decide +kernel) (by decide +kernel)⟩
theorem aw_X5_22 : zAW RX5 22 := ⟨zGW_in 715 (by decide +kernel) (by decide +kernel), zGW_in 374 (by decide +kernel) (by decide +kernel), zGW_in 373 (by decide +kernel) (by decide +kernel), zGW_in 59 (by decide +kernel) (by decide +kernel)⟩
theorem aw_X6_48 : zAW RX6 48 := ⟨zGW_in 372 (by decide +kernel) (by decide +kernel), zGW_in 374 (by decide +kernel) (by decide +kernel), zGW_in 373 (by decide +kernel) (by decide +kernel), zGW_in 59 (by decide +kernel) (by decide +kernel)⟩
theorem mw_X8_108 : zMW RX8 108 Lib.Math.min.name Lib.Math.min.code 2 (some .int) := ⟨zGW_in 357 (by decide +kernel) (by decide +kernel), zGW_in 358 (by decide +kernel) (by decide +kernel), zGW_in 58 (by decide +kernel) (by decide +kernel), zGW_in 359 (by decide +kernel) (by decide +kernel)⟩
theorem mw_X8_225 : zMW RX8 225 Lib.Math.max.name Lib.Math.max.code 2 (some .int) := ⟨zGW_in 617 (by decide +kernel) (by decide +kernel), zGW_in 400 (by decide +kernel) (by decide +kernel), zGW_in 58 (by decide +kernel) (by decide +kernel), zGW_in 401 (by decide +kernel) (by decide +kernel)⟩
theorem mw_X2_65 : zMW RX2 65 Lib.MathLoose.min_long.x Lib.MathLoose.min_long.code 4 (some .long) := ⟨zGW_in 546 (by decide +kernel) (by decide +kernel), zGW_in 547 (by decide +kernel) (by decide +kernel), zGW_in 58 (by decide +kernel) (by decide +kernel), zGW_in 548 (by decide +kernel) (by decide +kernel)⟩
theorem mw_X6_80 : zMW RX6 80 Lib.Math.max.name Lib.Math.max.code 2 (some .int) := ⟨zGW_in 399 (by decide +kernel) (by decide +kernel), zGW_in 400 (by decide +kernel) (by decide +kernel), zGW_in 58 (by decide +kernel) (by decide +kernel), zGW_in 401 (by decide +kernel) (by decide +kernel)⟩
theorem mw_X6_95 : zMW RX6 95 Lib.Math.min.name Lib.Math.min.code 2 (some .int) := ⟨zGW_in 402 (by decide +kernel) (by decide +kernel), zGW_in 358 (by decide +kernel) (by decide +kernel), zGW_in 58 (by decide +kernel) (by decide +kernel), zGW_in 359 (by decide +kernel) (by decide +kernel)⟩
theorem cw_X8_167 : Cond.constant RX8 167 99999 ∈ zGW := zGW_in 502 (by decide +kernel) (by decide +kernel)
theorem cw_X8_224 : Cond.constant RX8 224 1000000 ∈ zGW := zGW_in 616 (by decide +kernel) (by decide +kernel)
theorem cw_X8_287 : Cond.constant RX8 287 65537 ∈ zGW := zGW_in 414 (by decide +kernel) (by decide +kernel)
theorem cw_X9_230 : Cond.constant RX9 230 1000000000 ∈ zGW := zGW_in 1026 (by decide +kernel) (by decide +kernel)
theorem cw_X9_271 : Cond.constant RX9 271 1000000 ∈ zGW := zGW_in 1098 (by decide +kernel) (by decide +kernel)
theorem cw_J6_265 : Cond.constant "java/lang/Integer" 265 1431655765 ∈ zGW := zGW_in 292 (by decide +kernel) (by decide +kernel)
theorem cw_J6_266 : Cond.constant "java/lang/Integer" 266 858993459 ∈ zGW := zGW_in 293 (by decide +kernel) (by decide +kernel)
theorem cw_J6_267 : Cond.constant "java/lang/Integer" 267 252645135 ∈ zGW := zGW_in 294 (by decide +kernel) (by decide +kernel)
theorem cl_X8_239 : Cond.constantLong RX8 239 (-1000000000000000001) ∈ zGW := zGW_in 635 (by decide +kernel) (by decide +kernel)
theorem cl_X8_241 : Cond.constantLong RX8 241 (-1000000000000000002) ∈ zGW := zGW_in 636 (by decide +kernel) (by decide +kernel)
theorem cl_X2_63 : Cond.constantLong RX2 63 (4611686018427387904) ∈ zGW := zGW_in 545 (by decide +kernel) (by decide +kernel)
theorem cl_X9_87 : Cond.constantLong RX9 87 (5) ∈ zGW := zGW_in 859 (by decide +kernel) (by decide +kernel)
theorem cl_X9_100 : Cond.constantLong RX9 100 (999) ∈ zGW := zGW_in 865 (by decide +kernel) (by decide +kernel)
theorem cl_X9_102 : Cond.constantLong RX9 102 (2) ∈ zGW := zGW_in 966 (by decide +kernel) (by decide +kernel)
theorem cl_X9_104 : Cond.constantLong RX9 104 (30) ∈ zGW := zGW_in 863 (by decide +kernel) (by decide +kernel)
theorem cl_X9_106 : Cond.constantLong RX9 106 (9) ∈ zGW := zGW_in 864 (by decide +kernel) (by decide +kernel)
theorem cl_X9_118 : Cond.constantLong RX9 118 (7) ∈ zGW := zGW_in 881 (by decide +kernel) (by decide +kernel)
theorem cl_X9_126 : Cond.constantLong RX9 126 (33) ∈ zGW := zGW_in 893 (by decide +kernel) (by decide +kernel)
theorem cl_X9_128 : Cond.constantLong RX9 128 (126) ∈ zGW := zGW_in 894 (by decide +kernel) (by decide +kernel)
theorem cl_X9_133 : Cond.constantLong RX9 133 (48) ∈ zGW := zGW_in 907 (by decide +kernel) (by decide +kernel)
theorem cl_X9_135 : Cond.constantLong RX9 135 (57) ∈ zGW := zGW_in 908 (by decide +kernel) (by decide +kernel)
theorem cl_X9_137 : Cond.constantLong RX9 137 (65) ∈ zGW := zGW_in 913 (by decide +kernel) (by decide +kernel)
theorem cl_X9_139 : Cond.constantLong RX9 139 (70) ∈ zGW := zGW_in 914 (by decide +kernel) (by decide +kernel)
theorem cl_X9_157 : Cond.constantLong RX9 157 (75) ∈ zGW := zGW_in 947 (by decide +kernel) (by decide +kernel)
theorem cl_X9_159 : Cond.constantLong RX9 159 (74) ∈ zGW := zGW_in 948 (by decide +kernel) (by decide +kernel)
theorem cl_X9_161 : Cond.constantLong RX9 161 (65537) ∈ zGW := zGW_in 949 (by decide +kernel) (by decide +kernel)
theorem cl_X9_228 : Cond.constantLong RX9 228 (976) ∈ zGW := zGW_in 1025 (by decide +kernel) (by decide +kernel)
theorem cl_X9_237 : Cond.constantLong RX9 237 (99999) ∈ zGW := zGW_in 1035 (by decide +kernel) (by decide +kernel)
theorem cl_X9_258 : Cond.constantLong RX9 258 (3) ∈ zGW := zGW_in 1080 (by decide +kernel) (by decide +kernel)
theorem cl_X9_260 : Cond.constantLong RX9 260 (9999) ∈ zGW := zGW_in 1081 (by decide +kernel) (by decide +kernel)
theorem cl_X9_278 : Cond.constantLong RX9 278 (-1000000000000000001) ∈ zGW := zGW_in 1115 (by decide +kernel) (by decide +kernel)
theorem cl_X9_280 : Cond.constantLong RX9 280 (-1000000000000000002) ∈ zGW := zGW_in 1116 (by decide +kernel) (by decide +kernel)
theorem cl_X9_286 : Cond.constantLong RX9 286 (8) ∈ zGW := zGW_in 1124 (by decide +kernel) (by decide +kernel)
theorem cl_X9_295 : Cond.constantLong RX9 295 (255) ∈ zGW := zGW_in 1135 (by decide +kernel) (by decide +kernel)
theorem cl_X9_300 : Cond.constantLong RX9 300 (99) ∈ zGW := zGW_in 1152 (by decide +kernel) (by decide +kernel)
theorem cl_X9_318 : Cond.constantLong RX9 318 (20) ∈ zGW := zGW_in 1177 (by decide +kernel) (by decide +kernel)
theorem cl_X9_320 : Cond.constantLong RX9 320 (27) ∈ zGW := zGW_in 1178 (by decide +kernel) (by decide +kernel)
theorem cl_X9_322 : Cond.constantLong RX9 322 (35) ∈ zGW := zGW_in 1179 (by decide +kernel) (by decide +kernel)
theorem cl_X9_324 : Cond.constantLong RX9 324 (100) ∈ zGW := zGW_in 1180 (by decide +kernel) (by decide +kernel)
theorem cl_X9_326 : Cond.constantLong RX9 326 (123) ∈ zGW := zGW_in 1181 (by decide +kernel) (by decide +kernel)
theorem gs_X8_83 : zGW2 RX8 83 "TERM_LEAST" := zGW_in 308 (by decide +kernel) (by decide +kernel)
theorem gs_X8_86 : zGW2 RX8 86 "TERM_MOST" := zGW_in 310 (by decide +kernel) (by decide +kernel)
