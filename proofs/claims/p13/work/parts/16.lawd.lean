set_option maxRecDepth 100000 in
theorem mc1_X8_ship : Cond.code yX8_ship cX8_ship 6 (some .int) ∈ zGW := zGt_1 239 rfl rfl
set_option maxRecDepth 100000 in
theorem vw_L_13 : zVW RL 13 yX8_ship cX8_ship 6 (some .int) 4 := ⟨mc1_X8_ship, zGt_1 236 rfl rfl, zGt_1 237 rfl rfl, zGt_1 238 rfl rfl, zGt_1 1 rfl rfl, by decide +kernel⟩
set_option maxRecDepth 100000 in
theorem mc1_X9_ship : Cond.code yX9_ship cX9_ship 5 (some .int) ∈ zGW := zGt_4 89 rfl rfl
set_option maxRecDepth 100000 in
theorem vw_L_17 : zVW RL 17 yX9_ship cX9_ship 5 (some .int) 4 := ⟨mc1_X9_ship, zGt_4 86 rfl rfl, zGt_4 87 rfl rfl, zGt_4 88 rfl rfl, zGt_1 10 rfl rfl, by decide +kernel⟩
set_option maxRecDepth 100000 in
theorem mc1_X8_scrap : Cond.code yX8_scrap cX8_scrap 3 (some .int) ∈ zGW := zGt_2 12 rfl rfl
set_option maxRecDepth 100000 in
theorem vw_L_18 : zVW RL 18 yX8_scrap cX8_scrap 3 (some .int) 1 := ⟨mc1_X8_scrap, zGt_2 9 rfl rfl, zGt_2 10 rfl rfl, zGt_2 11 rfl rfl, zGt_1 1 rfl rfl, by decide +kernel⟩
set_option maxRecDepth 100000 in
theorem mc1_X9_scrap : Cond.code yX9_scrap cX9_scrap 2 (some .int) ∈ zGW := zGt_4 106 rfl rfl
set_option maxRecDepth 100000 in
theorem vw_L_22 : zVW RL 22 yX9_scrap cX9_scrap 2 (some .int) 1 := ⟨mc1_X9_scrap, zGt_4 103 rfl rfl, zGt_4 104 rfl rfl, zGt_4 105 rfl rfl, zGt_1 10 rfl rfl, by decide +kernel⟩
set_option maxRecDepth 100000 in
theorem mc1_X8_set : Cond.code yX8_set cX8_set 4 (some .int) ∈ zGW := zGt_2 21 rfl rfl
set_option maxRecDepth 100000 in
theorem vw_L_23 : zVW RL 23 yX8_set cX8_set 4 (some .int) 2 := ⟨mc1_X8_set, zGt_2 18 rfl rfl, zGt_2 19 rfl rfl, zGt_2 20 rfl rfl, zGt_1 1 rfl rfl, by decide +kernel⟩
set_option maxRecDepth 100000 in
theorem mc1_X9_set : Cond.code yX9_set cX9_set 4 (some .int) ∈ zGW := zGt_4 114 rfl rfl
set_option maxRecDepth 100000 in
theorem vw_L_27 : zVW RL 27 yX9_set cX9_set 4 (some .int) 2 := ⟨mc1_X9_set, zGt_4 111 rfl rfl, zGt_4 112 rfl rfl, zGt_4 113 rfl rfl, zGt_1 10 rfl rfl, by decide +kernel⟩
set_option maxRecDepth 100000 in
theorem mc1_X8_say : Cond.code yX8_say cX8_say 2 (some .int) ∈ zGW := zGt_2 29 rfl rfl
set_option maxRecDepth 100000 in
theorem vw_L_28 : zVW RL 28 yX8_say cX8_say 2 (some .int) 1 := ⟨mc1_X8_say, zGt_2 26 rfl rfl, zGt_2 27 rfl rfl, zGt_2 28 rfl rfl, zGt_1 1 rfl rfl, by decide +kernel⟩
set_option maxRecDepth 100000 in
theorem mc1_X9_say : Cond.code yX9_say cX9_say 2 (some .int) ∈ zGW := zGt_4 126 rfl rfl
set_option maxRecDepth 100000 in
theorem vw_L_31 : zVW RL 31 yX9_say cX9_say 2 (some .int) 1 := ⟨mc1_X9_say, zGt_4 123 rfl rfl, zGt_4 124 rfl rfl, zGt_4 125 rfl rfl, zGt_1 10 rfl rfl, by decide +kernel⟩
set_option maxRecDepth 100000 in
theorem mc1_X8_wipe : Cond.code yX8_wipe cX8_wipe 1 (some .int) ∈ zGW := zGt_2 33 rfl rfl
set_option maxRecDepth 100000 in
theorem vw_L_32 : zVW RL 32 yX8_wipe cX8_wipe 1 (some .int) 0 := ⟨mc1_X8_wipe, zGt_2 30 rfl rfl, zGt_2 31 rfl rfl, zGt_2 32 rfl rfl, zGt_1 1 rfl rfl, by decide +kernel⟩
set_option maxRecDepth 100000 in
theorem mc1_X9_wipe : Cond.code yX9_wipe cX9_wipe 2 (some .int) ∈ zGW := zGt_4 132 rfl rfl
set_option maxRecDepth 100000 in
theorem vw_L_36 : zVW RL 36 yX9_wipe cX9_wipe 2 (some .int) 0 := ⟨mc1_X9_wipe, zGt_4 129 rfl rfl, zGt_4 130 rfl rfl, zGt_4 131 rfl rfl, zGt_1 10 rfl rfl, by decide +kernel⟩
set_option maxRecDepth 100000 in
theorem mc1_X8_fault : Cond.code yX8_fault cX8_fault 2 (some .int) ∈ zGW := zGt_2 41 rfl rfl
set_option maxRecDepth 100000 in
theorem vw_L_37 : zVW RL 37 yX8_fault cX8_fault 2 (some .int) 1 := ⟨mc1_X8_fault, zGt_2 38 rfl rfl, zGt_2 39 rfl rfl, zGt_2 40 rfl rfl, zGt_1 1 rfl rfl, by decide +kernel⟩
set_option maxRecDepth 100000 in
theorem mc1_X9_fault : Cond.code yX9_fault cX9_fault 2 (some .int) ∈ zGW := zGt_4 136 rfl rfl
set_option maxRecDepth 100000 in
theorem vw_L_40 : zVW RL 40 yX9_fault cX9_fault 2 (some .int) 1 := ⟨mc1_X9_fault, zGt_4 133 rfl rfl, zGt_4 134 rfl rfl, zGt_4 135 rfl rfl, zGt_1 10 rfl rfl, by decide +kernel⟩
set_option maxRecDepth 100000 in
theorem mc1_X8_tide : Cond.code yX8_tide cX8_tide 3 (some .int) ∈ zGW := zGt_2 70 rfl rfl
set_option maxRecDepth 100000 in
theorem vw_L_41 : zVW RL 41 yX8_tide cX8_tide 3 (some .int) 0 := ⟨mc1_X8_tide, zGt_2 67 rfl rfl, zGt_2 68 rfl rfl, zGt_2 69 rfl rfl, zGt_1 1 rfl rfl, by decide +kernel⟩
set_option maxRecDepth 100000 in
theorem mc1_X9_tide : Cond.code yX9_tide cX9_tide 2 (some .int) ∈ zGW := zGt_4 152 rfl rfl
set_option maxRecDepth 100000 in
theorem vw_L_44 : zVW RL 44 yX9_tide cX9_tide 2 (some .int) 0 := ⟨mc1_X9_tide, zGt_4 149 rfl rfl, zGt_4 150 rfl rfl, zGt_4 151 rfl rfl, zGt_1 10 rfl rfl, by decide +kernel⟩
set_option maxRecDepth 100000 in
theorem mc1_X8_judge : Cond.code yX8_judge cX8_judge 2 (some .int) ∈ zGW := zGt_2 77 rfl rfl
set_option maxRecDepth 100000 in
theorem vw_L_45 : zVW RL 45 yX8_judge cX8_judge 2 (some .int) 1 := ⟨mc1_X8_judge, zGt_2 74 rfl rfl, zGt_2 75 rfl rfl, zGt_2 76 rfl rfl, zGt_1 1 rfl rfl, by decide +kernel⟩
set_option maxRecDepth 100000 in
theorem mc1_X9_judge : Cond.code yX9_judge cX9_judge 2 (some .int) ∈ zGW := zGt_4 156 rfl rfl
set_option maxRecDepth 100000 in
theorem vw_L_48 : zVW RL 48 yX9_judge cX9_judge 2 (some .int) 1 := ⟨mc1_X9_judge, zGt_4 153 rfl rfl, zGt_4 154 rfl rfl, zGt_4 155 rfl rfl, zGt_1 10 rfl rfl, by decide +kernel⟩
set_option maxRecDepth 100000 in
theorem mc1_X8_state : Cond.code yX8_state cX8_state 3 (some .int) ∈ zGW := zGt_2 140 rfl rfl
set_option maxRecDepth 100000 in
theorem vw_L_49 : zVW RL 49 yX8_state cX8_state 3 (some .int) 2 := ⟨mc1_X8_state, zGt_2 137 rfl rfl, zGt_2 138 rfl rfl, zGt_2 139 rfl rfl, zGt_1 1 rfl rfl, by decide +kernel⟩
set_option maxRecDepth 100000 in
theorem mc1_X9_state : Cond.code yX9_state cX9_state 3 (some .int) ∈ zGW := zGt_4 199 rfl rfl
set_option maxRecDepth 100000 in
theorem vw_L_52 : zVW RL 52 yX9_state cX9_state 3 (some .int) 2 := ⟨mc1_X9_state, zGt_4 196 rfl rfl, zGt_4 197 rfl rfl, zGt_4 198 rfl rfl, zGt_1 10 rfl rfl, by decide +kernel⟩
set_option maxRecDepth 100000 in
theorem mc1_X8_behind : Cond.code yX8_behind cX8_behind 3 (some .int) ∈ zGW := zGt_2 148 rfl rfl
set_option maxRecDepth 100000 in
theorem vw_L_53 : zVW RL 53 yX8_behind cX8_behind 3 (some .int) 2 := ⟨mc1_X8_behind, zGt_2 145 rfl rfl, zGt_2 146 rfl rfl, zGt_2 147 rfl rfl, zGt_1 1 rfl rfl, by decide +kernel⟩
set_option maxRecDepth 100000 in
theorem mc1_X9_behind : Cond.code yX9_behind cX9_behind 4 (some .int) ∈ zGW := zGt_4 208 rfl rfl
set_option maxRecDepth 100000 in
theorem vw_L_56 : zVW RL 56 yX9_behind cX9_behind 4 (some .int) 2 := ⟨mc1_X9_behind, zGt_4 205 rfl rfl, zGt_4 206 rfl rfl, zGt_4 207 rfl rfl, zGt_1 10 rfl rfl, by decide +kernel⟩
set_option maxRecDepth 100000 in
theorem mc1_X8_done : Cond.code yX8_done cX8_done 1 (some .int) ∈ zGW := zGt_2 156 rfl rfl
set_option maxRecDepth 100000 in
theorem vw_L_57 : zVW RL 57 yX8_done cX8_done 1 (some .int) 0 := ⟨mc1_X8_done, zGt_2 153 rfl rfl, zGt_2 154 rfl rfl, zGt_2 155 rfl rfl, zGt_1 1 rfl rfl, by decide +kernel⟩
set_option maxRecDepth 100000 in
theorem mc1_X9_done : Cond.code yX9_done cX9_done 1 (some .int) ∈ zGW := zGt_4 212 rfl rfl
set_option maxRecDepth 100000 in
theorem vw_L_60 : zVW RL 60 yX9_done cX9_done 1 (some .int) 0 := ⟨mc1_X9_done, zGt_4 209 rfl rfl, zGt_4 210 rfl rfl, zGt_4 211 rfl rfl, zGt_1 10 rfl rfl, by decide +kernel⟩
set_option maxRecDepth 100000 in
theorem mc1_X8_sum : Cond.code yX8_sum cX8_sum 2 (some .int) ∈ zGW := zGt_2 161 rfl rfl
set_option maxRecDepth 100000 in
theorem vw_L_61 : zVW RL 61 yX8_sum cX8_sum 2 (some .int) 1 := ⟨mc1_X8_sum, zGt_2 158 rfl rfl, zGt_2 159 rfl rfl, zGt_2 160 rfl rfl, zGt_1 1 rfl rfl, by decide +kernel⟩
set_option maxRecDepth 100000 in
theorem mc1_X9_sum : Cond.code yX9_sum cX9_sum 2 (some .int) ∈ zGW := zGt_4 216 rfl rfl
set_option maxRecDepth 100000 in
theorem vw_L_64 : zVW RL 64 yX9_sum cX9_sum 2 (some .int) 1 := ⟨mc1_X9_sum, zGt_4 213 rfl rfl, zGt_4 214 rfl rfl, zGt_4 215 rfl rfl, zGt_1 10 rfl rfl, by decide +kernel⟩
set_option maxRecDepth 100000 in
theorem mc1_X8_mean : Cond.code yX8_mean cX8_mean 4 (some .int) ∈ zGW := zGt_2 165 rfl rfl
set_option maxRecDepth 100000 in
theorem vw_L_65 : zVW RL 65 yX8_mean cX8_mean 4 (some .int) 3 := ⟨mc1_X8_mean, zGt_2 162 rfl rfl, zGt_2 163 rfl rfl, zGt_2 164 rfl rfl, zGt_1 1 rfl rfl, by decide +kernel⟩
set_option maxRecDepth 100000 in
theorem mc1_X9_mean : Cond.code yX9_mean cX9_mean 4 (some .int) ∈ zGW := zGt_4 220 rfl rfl
set_option maxRecDepth 100000 in
theorem vw_L_69 : zVW RL 69 yX9_mean cX9_mean 4 (some .int) 3 := ⟨mc1_X9_mean, zGt_4 217 rfl rfl, zGt_4 218 rfl rfl, zGt_4 219 rfl rfl, zGt_1 10 rfl rfl, by decide +kernel⟩
set_option maxRecDepth 100000 in
theorem mc1_X8_worst : Cond.code yX8_worst cX8_worst 4 (some .int) ∈ zGW := zGt_2 184 rfl rfl
set_option maxRecDepth 100000 in
theorem vw_L_70 : zVW RL 70 yX8_worst cX8_worst 4 (some .int) 3 := ⟨mc1_X8_worst, zGt_2 181 rfl rfl, zGt_2 182 rfl rfl, zGt_2 183 rfl rfl, zGt_1 1 rfl rfl, by decide +kernel⟩
set_option maxRecDepth 100000 in
theorem mc1_X9_worst : Cond.code yX9_worst cX9_worst 4 (some .int) ∈ zGW := zGt_5 2 rfl rfl
set_option maxRecDepth 100000 in
theorem vw_L_73 : zVW RL 73 yX9_worst cX9_worst 4 (some .int) 3 := ⟨mc1_X9_worst, zGt_4 239 rfl rfl, zGt_5 0 rfl rfl, zGt_5 1 rfl rfl, zGt_1 10 rfl rfl, by decide +kernel⟩
set_option maxRecDepth 100000 in
theorem mc1_X8_choice : Cond.code yX8_choice cX8_choice 4 (some .int) ∈ zGW := zGt_2 192 rfl rfl
set_option maxRecDepth 100000 in
theorem vw_L_74 : zVW RL 74 yX8_choice cX8_choice 4 (some .int) 2 := ⟨mc1_X8_choice, zGt_2 189 rfl rfl, zGt_2 190 rfl rfl, zGt_2 191 rfl rfl, zGt_1 1 rfl rfl, by decide +kernel⟩
set_option maxRecDepth 100000 in
theorem mc1_X9_choice : Cond.code yX9_choice cX9_choice 3 (some .int) ∈ zGW := zGt_5 10 rfl rfl
set_option maxRecDepth 100000 in
theorem vw_L_77 : zVW RL 77 yX9_choice cX9_choice 3 (some .int) 2 := ⟨mc1_X9_choice, zGt_5 7 rfl rfl, zGt_5 8 rfl rfl, zGt_5 9 rfl rfl, zGt_1 10 rfl rfl, by decide +kernel⟩
set_option maxRecDepth 100000 in
theorem mc1_X8_held : Cond.code yX8_held cX8_held 9 (some .int) ∈ zGW := zGt_2 205 rfl rfl
set_option maxRecDepth 100000 in
theorem vw_L_78 : zVW RL 78 yX8_held cX8_held 9 (some .int) 3 := ⟨mc1_X8_held, zGt_2 202 rfl rfl, zGt_2 203 rfl rfl, zGt_2 204 rfl rfl, zGt_1 1 rfl rfl, by decide +kernel⟩
set_option maxRecDepth 100000 in
theorem mc1_X9_held : Cond.code yX9_held cX9_held 8 (some .int) ∈ zGW := zGt_5 18 rfl rfl
set_option maxRecDepth 100000 in
theorem vw_L_81 : zVW RL 81 yX9_held cX9_held 8 (some .int) 3 := ⟨mc1_X9_held, zGt_5 15 rfl rfl, zGt_5 16 rfl rfl, zGt_5 17 rfl rfl, zGt_1 10 rfl rfl, by decide +kernel⟩
set_option maxRecDepth 100000 in
theorem mc1_X8_bound : Cond.code yX8_bound cX8_bound 5 (some .int) ∈ zGW := zGt_2 214 rfl rfl
set_option maxRecDepth 100000 in
theorem vw_L_82 : zVW RL 82 yX8_bound cX8_bound 5 (some .int) 3 := ⟨mc1_X8_bound, zGt_2 211 rfl rfl, zGt_2 212 rfl rfl, zGt_2 213 rfl rfl, zGt_1 1 rfl rfl, by decide +kernel⟩
set_option maxRecDepth 100000 in
theorem mc1_X9_bound : Cond.code yX9_bound cX9_bound 7 (some .int) ∈ zGW := zGt_5 24 rfl rfl
set_option maxRecDepth 100000 in
theorem vw_L_85 : zVW RL 85 yX9_bound cX9_bound 7 (some .int) 3 := ⟨mc1_X9_bound, zGt_5 21 rfl rfl, zGt_5 22 rfl rfl, zGt_5 23 rfl rfl, zGt_1 10 rfl rfl, by decide +kernel⟩
set_option maxRecDepth 100000 in
theorem mc1_X8_line : Cond.code yX8_line cX8_line 5 (some .int) ∈ zGW := zGt_3 10 rfl rfl
set_option maxRecDepth 100000 in
theorem vw_L_86 : zVW RL 86 yX8_line cX8_line 5 (some .int) 3 := ⟨mc1_X8_line, zGt_3 7 rfl rfl, zGt_3 8 rfl rfl, zGt_3 9 rfl rfl, zGt_1 1 rfl rfl, by decide +kernel⟩
set_option maxRecDepth 100000 in
theorem mc1_X9_line : Cond.code yX9_line cX9_line 7 (some .int) ∈ zGW := zGt_5 41 rfl rfl
set_option maxRecDepth 100000 in
theorem vw_L_89 : zVW RL 89 yX9_line cX9_line 7 (some .int) 3 := ⟨mc1_X9_line, zGt_5 38 rfl rfl, zGt_5 39 rfl rfl, zGt_5 40 rfl rfl, zGt_1 10 rfl rfl, by decide +kernel⟩
set_option maxRecDepth 100000 in
theorem mc1_X8_convoy : Cond.code yX8_convoy cX8_convoy 4 (some .int) ∈ zGW := zGt_3 31 rfl rfl
set_option maxRecDepth 100000 in
theorem vw_L_90 : zVW RL 90 yX8_convoy cX8_convoy 4 (some .int) 2 := ⟨mc1_X8_convoy, zGt_3 28 rfl rfl, zGt_3 29 rfl rfl, zGt_3 30 rfl rfl, zGt_1 1 rfl rfl, by decide +kernel⟩
set_option maxRecDepth 100000 in
theorem mc1_X9_convoy : Cond.code yX9_convoy cX9_convoy 8 (some .int) ∈ zGW := zGt_5 53 rfl rfl
set_option maxRecDepth 100000 in
theorem vw_L_93 : zVW RL 93 yX9_convoy cX9_convoy 8 (some .int) 2 := ⟨mc1_X9_convoy, zGt_5 50 rfl rfl, zGt_5 51 rfl rfl, zGt_5 52 rfl rfl, zGt_1 10 rfl rfl, by decide +kernel⟩
set_option maxRecDepth 100000 in
theorem mc1_X8_captain : Cond.code yX8_captain cX8_captain 4 (some .int) ∈ zGW := zGt_3 44 rfl rfl
set_option maxRecDepth 100000 in
theorem vw_L_94 : zVW RL 94 yX8_captain cX8_captain 4 (some .int) 2 := ⟨mc1_X8_captain, zGt_3 41 rfl rfl, zGt_3 42 rfl rfl, zGt_3 43 rfl rfl, zGt_1 1 rfl rfl, by decide +kernel⟩
set_option maxRecDepth 100000 in
theorem mc1_X9_captain : Cond.code yX9_captain cX9_captain 3 (some .int) ∈ zGW := zGt_5 57 rfl rfl
set_option maxRecDepth 100000 in
theorem vw_L_97 : zVW RL 97 yX9_captain cX9_captain 3 (some .int) 2 := ⟨mc1_X9_captain, zGt_5 54 rfl rfl, zGt_5 55 rfl rfl, zGt_5 56 rfl rfl, zGt_1 10 rfl rfl, by decide +kernel⟩
set_option maxRecDepth 100000 in
theorem mc1_X8_persuaded : Cond.code yX8_persuaded cX8_persuaded 6 (some .int) ∈ zGW := zGt_3 60 rfl rfl
set_option maxRecDepth 100000 in
theorem vw_L_98 : zVW RL 98 yX8_persuaded cX8_persuaded 6 (some .int) 2 := ⟨mc1_X8_persuaded, zGt_3 57 rfl rfl, zGt_3 58 rfl rfl, zGt_3 59 rfl rfl, zGt_1 1 rfl rfl, by decide +kernel⟩
set_option maxRecDepth 100000 in
theorem mc1_X9_persuaded : Cond.code yX9_persuaded cX9_persuaded 5 (some .int) ∈ zGW := zGt_5 69 rfl rfl
set_option maxRecDepth 100000 in
theorem vw_L_101 : zVW RL 101 yX9_persuaded cX9_persuaded 5 (some .int) 2 := ⟨mc1_X9_persuaded, zGt_5 66 rfl rfl, zGt_5 67 rfl rfl, zGt_5 68 rfl rfl, zGt_1 10 rfl rfl, by decide +kernel⟩
set_option maxRecDepth 100000 in
theorem mc1_X8_offer : Cond.code yX8_offer cX8_offer 5 (some .int) ∈ zGW := zGt_3 64 rfl rfl
set_option maxRecDepth 100000 in
theorem vw_L_102 : zVW RL 102 yX8_offer cX8_offer 5 (some .int) 3 := ⟨mc1_X8_offer, zGt_3 61 rfl rfl, zGt_3 62 rfl rfl, zGt_3 63 rfl rfl, zGt_1 1 rfl rfl, by decide +kernel⟩
set_option maxRecDepth 100000 in
theorem mc1_X9_offer : Cond.code yX9_offer cX9_offer 4 (some .int) ∈ zGW := zGt_5 73 rfl rfl
set_option maxRecDepth 100000 in
theorem vw_L_105 : zVW RL 105 yX9_offer cX9_offer 4 (some .int) 3 := ⟨mc1_X9_offer, zGt_5 70 rfl rfl, zGt_5 71 rfl rfl, zGt_5 72 rfl rfl, zGt_1 10 rfl rfl, by decide +kernel⟩
set_option maxRecDepth 100000 in
theorem mc1_X8_noOffers : Cond.code yX8_noOffers cX8_noOffers 2 (some .int) ∈ zGW := zGt_3 68 rfl rfl
set_option maxRecDepth 100000 in
theorem vw_L_106 : zVW RL 106 yX8_noOffers cX8_noOffers 2 (some .int) 0 := ⟨mc1_X8_noOffers, zGt_3 65 rfl rfl, zGt_3 66 rfl rfl, zGt_3 67 rfl rfl, zGt_1 1 rfl rfl, by decide +kernel⟩
set_option maxRecDepth 100000 in
theorem mc1_X9_noOffers : Cond.code yX9_noOffers cX9_noOffers 2 (some .int) ∈ zGW := zGt_5 79 rfl rfl
set_option maxRecDepth 100000 in
theorem vw_L_109 : zVW RL 109 yX9_noOffers cX9_noOffers 2 (some .int) 0 := ⟨mc1_X9_noOffers, zGt_5 76 rfl rfl, zGt_5 77 rfl rfl, zGt_5 78 rfl rfl, zGt_1 10 rfl rfl, by decide +kernel⟩
set_option maxRecDepth 100000 in
theorem mc1_X8_insured : Cond.code yX8_insured cX8_insured 11 (some .int) ∈ zGW := zGt_3 72 rfl rfl
set_option maxRecDepth 100000 in
theorem vw_L_110 : zVW RL 110 yX8_insured cX8_insured 11 (some .int) 3 := ⟨mc1_X8_insured, zGt_3 69 rfl rfl, zGt_3 70 rfl rfl, zGt_3 71 rfl rfl, zGt_1 1 rfl rfl, by decide +kernel⟩
set_option maxRecDepth 100000 in
theorem mc1_X9_insured : Cond.code yX9_insured cX9_insured 10 (some .int) ∈ zGW := zGt_5 83 rfl rfl
set_option maxRecDepth 100000 in
theorem vw_L_113 : zVW RL 113 yX9_insured cX9_insured 10 (some .int) 3 := ⟨mc1_X9_insured, zGt_5 80 rfl rfl, zGt_5 81 rfl rfl, zGt_5 82 rfl rfl, zGt_1 10 rfl rfl, by decide +kernel⟩
set_option maxRecDepth 100000 in
theorem mc1_X8_aboard : Cond.code yX8_aboard cX8_aboard 3 (some .int) ∈ zGW := zGt_3 95 rfl rfl
set_option maxRecDepth 100000 in
theorem vw_L_114 : zVW RL 114 yX8_aboard cX8_aboard 3 (some .int) 2 := ⟨mc1_X8_aboard, zGt_3 92 rfl rfl, zGt_3 93 rfl rfl, zGt_3 94 rfl rfl, zGt_1 1 rfl rfl, by decide +kernel⟩
set_option maxRecDepth 100000 in
theorem mc1_X9_aboard : Cond.code yX9_aboard cX9_aboard 3 (some .int) ∈ zGW := zGt_5 96 rfl rfl
set_option maxRecDepth 100000 in
theorem vw_L_117 : zVW RL 117 yX9_aboard cX9_aboard 3 (some .int) 2 := ⟨mc1_X9_aboard, zGt_5 93 rfl rfl, zGt_5 94 rfl rfl, zGt_5 95 rfl rfl, zGt_1 10 rfl rfl, by decide +kernel⟩
set_option maxRecDepth 100000 in
theorem mc1_X8_ashore : Cond.code yX8_ashore cX8_ashore 2 (some .int) ∈ zGW := zGt_3 99 rfl rfl
set_option maxRecDepth 100000 in
theorem vw_L_118 : zVW RL 118 yX8_ashore cX8_ashore 2 (some .int) 1 := ⟨mc1_X8_ashore, zGt_3 96 rfl rfl, zGt_3 97 rfl rfl, zGt_3 98 rfl rfl, zGt_1 1 rfl rfl, by decide +kernel⟩
set_option maxRecDepth 100000 in
theorem mc1_X9_ashore : Cond.code yX9_ashore cX9_ashore 2 (some .int) ∈ zGW := zGt_5 100 rfl rfl
set_option maxRecDepth 100000 in
theorem vw_L_121 : zVW RL 121 yX9_ashore cX9_ashore 2 (some .int) 1 := ⟨mc1_X9_ashore, zGt_5 97 rfl rfl, zGt_5 98 rfl rfl, zGt_5 99 rfl rfl, zGt_1 10 rfl rfl, by decide +kernel⟩
set_option maxRecDepth 100000 in
theorem mc1_X8_lot : Cond.code yX8_lot cX8_lot 8 (some .long) ∈ zGW := zGt_3 108 rfl rfl
set_option maxRecDepth 100000 in
theorem vw_L_122 : zVW RL 122 yX8_lot cX8_lot 8 (some .long) 3 := ⟨mc1_X8_lot, zGt_3 105 rfl rfl, zGt_3 106 rfl rfl, zGt_3 107 rfl rfl, zGt_1 1 rfl rfl, by decide +kernel⟩
set_option maxRecDepth 100000 in
theorem mc1_X9_lot : Cond.code yX9_lot cX9_lot 7 (some .long) ∈ zGW := zGt_5 108 rfl rfl
set_option maxRecDepth 100000 in
theorem vw_L_126 : zVW RL 126 yX9_lot cX9_lot 7 (some .long) 3 := ⟨mc1_X9_lot, zGt_5 105 rfl rfl, zGt_5 106 rfl rfl, zGt_5 107 rfl rfl, zGt_1 10 rfl rfl, by decide +kernel⟩
set_option maxRecDepth 100000 in
theorem mc1_X8_often : Cond.code yX8_often cX8_often 9 (some .long) ∈ zGW := zGt_3 125 rfl rfl
set_option maxRecDepth 100000 in
theorem vw_L_127 : zVW RL 127 yX8_often cX8_often 9 (some .long) 5 := ⟨mc1_X8_often, zGt_3 122 rfl rfl, zGt_3 123 rfl rfl, zGt_3 124 rfl rfl, zGt_1 1 rfl rfl, by decide +kernel⟩
set_option maxRecDepth 100000 in
theorem mc1_X9_often : Cond.code yX9_often cX9_often 9 (some .long) ∈ zGW := zGt_5 117 rfl rfl
set_option maxRecDepth 100000 in
theorem vw_L_131 : zVW RL 131 yX9_often cX9_often 9 (some .long) 5 := ⟨mc1_X9_often, zGt_5 114 rfl rfl, zGt_5 115 rfl rfl, zGt_5 116 rfl rfl, zGt_1 10 rfl rfl, by decide +kernel⟩
set_option maxRecDepth 100000 in
theorem mc1_X8_roll : Cond.code yX8_roll cX8_roll 4 (some .int) ∈ zGW := zGt_3 135 rfl rfl
set_option maxRecDepth 100000 in
theorem vw_L_132 : zVW RL 132 yX8_roll cX8_roll 4 (some .int) 2 := ⟨mc1_X8_roll, zGt_3 132 rfl rfl, zGt_3 133 rfl rfl, zGt_3 134 rfl rfl, zGt_1 1 rfl rfl, by decide +kernel⟩
set_option maxRecDepth 100000 in
theorem mc1_X9_roll : Cond.code yX9_roll cX9_roll 3 (some .int) ∈ zGW := zGt_5 128 rfl rfl
set_option maxRecDepth 100000 in
theorem vw_L_135 : zVW RL 135 yX9_roll cX9_roll 3 (some .int) 2 := ⟨mc1_X9_roll, zGt_5 125 rfl rfl, zGt_5 126 rfl rfl, zGt_5 127 rfl rfl, zGt_1 10 rfl rfl, by decide +kernel⟩
set_option maxRecDepth 100000 in
theorem mc1_X8_forget : Cond.code yX8_forget cX8_forget 2 (some .int) ∈ zGW := zGt_3 139 rfl rfl
set_option maxRecDepth 100000 in
theorem vw_L_136 : zVW RL 136 yX8_forget cX8_forget 2 (some .int) 0 := ⟨mc1_X8_forget, zGt_3 136 rfl rfl, zGt_3 137 rfl rfl, zGt_3 138 rfl rfl, zGt_1 1 rfl rfl, by decide +kernel⟩
set_option maxRecDepth 100000 in
theorem mc1_X9_forget : Cond.code yX9_forget cX9_forget 2 (some .int) ∈ zGW := zGt_5 133 rfl rfl
set_option maxRecDepth 100000 in
theorem vw_L_139 : zVW RL 139 yX9_forget cX9_forget 2 (some .int) 0 := ⟨mc1_X9_forget, zGt_5 130 rfl rfl, zGt_5 131 rfl rfl, zGt_5 132 rfl rfl, zGt_1 10 rfl rfl, by decide +kernel⟩
set_option maxRecDepth 100000 in
theorem mc1_X8_twice : Cond.code yX8_twice cX8_twice 2 (some .int) ∈ zGW := zGt_3 143 rfl rfl
set_option maxRecDepth 100000 in
theorem vw_L_140 : zVW RL 140 yX8_twice cX8_twice 2 (some .int) 1 := ⟨mc1_X8_twice, zGt_3 140 rfl rfl, zGt_3 141 rfl rfl, zGt_3 142 rfl rfl, zGt_1 1 rfl rfl, by decide +kernel⟩
set_option maxRecDepth 100000 in
theorem mc1_X9_twice : Cond.code yX9_twice cX9_twice 8 (some .int) ∈ zGW := zGt_5 137 rfl rfl
set_option maxRecDepth 100000 in
theorem vw_L_143 : zVW RL 143 yX9_twice cX9_twice 8 (some .int) 1 := ⟨mc1_X9_twice, zGt_5 134 rfl rfl, zGt_5 135 rfl rfl, zGt_5 136 rfl rfl, zGt_1 10 rfl rfl, by decide +kernel⟩
set_option maxRecDepth 100000 in
theorem mc1_X8_burnt : Cond.code yX8_burnt cX8_burnt 5 (some .long) ∈ zGW := zGt_3 155 rfl rfl
set_option maxRecDepth 100000 in
theorem vw_L_144 : zVW RL 144 yX8_burnt cX8_burnt 5 (some .long) 0 := ⟨mc1_X8_burnt, zGt_3 152 rfl rfl, zGt_3 153 rfl rfl, zGt_3 154 rfl rfl, zGt_1 1 rfl rfl, by decide +kernel⟩
set_option maxRecDepth 100000 in
theorem mc1_X9_burnt : Cond.code yX9_burnt cX9_burnt 5 (some .long) ∈ zGW := zGt_5 141 rfl rfl
set_option maxRecDepth 100000 in
theorem vw_L_148 : zVW RL 148 yX9_burnt cX9_burnt 5 (some .long) 0 := ⟨mc1_X9_burnt, zGt_5 138 rfl rfl, zGt_5 139 rfl rfl, zGt_5 140 rfl rfl, zGt_1 10 rfl rfl, by decide +kernel⟩
set_option maxRecDepth 100000 in
theorem mc1_X8_years : Cond.code yX8_years cX8_years 9 (some .int) ∈ zGW := zGt_3 159 rfl rfl
set_option maxRecDepth 100000 in
theorem vw_L_149 : zVW RL 149 yX8_years cX8_years 9 (some .int) 4 := ⟨mc1_X8_years, zGt_3 156 rfl rfl, zGt_3 157 rfl rfl, zGt_3 158 rfl rfl, zGt_1 1 rfl rfl, by decide +kernel⟩
set_option maxRecDepth 100000 in
theorem mc1_X9_years : Cond.code yX9_years cX9_years 8 (some .int) ∈ zGW := zGt_5 145 rfl rfl
set_option maxRecDepth 100000 in
theorem vw_L_152 : zVW RL 152 yX9_years cX9_years 8 (some .int) 4 := ⟨mc1_X9_years, zGt_5 142 rfl rfl, zGt_5 143 rfl rfl, zGt_5 144 rfl rfl, zGt_1 10 rfl rfl, by decide +kernel⟩
set_option maxRecDepth 100000 in
theorem mc1_X8_image : Cond.code yX8_image cX8_image 2 (some .int) ∈ zGW := zGt_3 165 rfl rfl
set_option maxRecDepth 100000 in
theorem vw_L_153 : zVW RL 153 yX8_image cX8_image 2 (some .int) 1 := ⟨mc1_X8_image, zGt_3 162 rfl rfl, zGt_3 163 rfl rfl, zGt_3 164 rfl rfl, zGt_1 1 rfl rfl, by decide +kernel⟩
set_option maxRecDepth 100000 in
theorem mc1_X9_image : Cond.code yX9_image cX9_image 2 (some .int) ∈ zGW := zGt_5 150 rfl rfl
set_option maxRecDepth 100000 in
theorem vw_L_156 : zVW RL 156 yX9_image cX9_image 2 (some .int) 1 := ⟨mc1_X9_image, zGt_5 147 rfl rfl, zGt_5 148 rfl rfl, zGt_5 149 rfl rfl, zGt_1 10 rfl rfl, by decide +kernel⟩
set_option maxRecDepth 100000 in
theorem mc1_X8_restore : Cond.code yX8_restore cX8_restore 2 (some .int) ∈ zGW := zGt_3 193 rfl rfl
set_option maxRecDepth 100000 in
theorem vw_L_157 : zVW RL 157 yX8_restore cX8_restore 2 (some .int) 1 := ⟨mc1_X8_restore, zGt_3 190 rfl rfl, zGt_3 191 rfl rfl, zGt_3 192 rfl rfl, zGt_1 1 rfl rfl, by decide +kernel⟩
set_option maxRecDepth 100000 in
theorem mc1_X9_restore : Cond.code yX9_restore cX9_restore 2 (some .int) ∈ zGW := zGt_5 166 rfl rfl
set_option maxRecDepth 100000 in
theorem vw_L_160 : zVW RL 160 yX9_restore cX9_restore 2 (some .int) 1 := ⟨mc1_X9_restore, zGt_5 163 rfl rfl, zGt_5 164 rfl rfl, zGt_5 165 rfl rfl, zGt_1 10 rfl rfl, by decide +kernel⟩
set_option maxRecDepth 100000 in
theorem mc1_X8_told : Cond.code yX8_told cX8_told 2 (some .int) ∈ zGW := zGt_3 197 rfl rfl
set_option maxRecDepth 100000 in
theorem vw_L_161 : zVW RL 161 yX8_told cX8_told 2 (some .int) 1 := ⟨mc1_X8_told, zGt_3 194 rfl rfl, zGt_3 195 rfl rfl, zGt_3 196 rfl rfl, zGt_1 1 rfl rfl, by decide +kernel⟩
set_option maxRecDepth 100000 in
theorem mc1_X9_told : Cond.code yX9_told cX9_told 2 (some .int) ∈ zGW := zGt_5 170 rfl rfl
set_option maxRecDepth 100000 in
theorem vw_L_164 : zVW RL 164 yX9_told cX9_told 2 (some .int) 1 := ⟨mc1_X9_told, zGt_5 167 rfl rfl, zGt_5 168 rfl rfl, zGt_5 169 rfl rfl, zGt_1 10 rfl rfl, by decide +kernel⟩
def zchL_law_0 : List UInt8 := [187, 0, 7, 89, 183, 0, 9, 76, 187, 0, 10, 89, 183, 0, 12, 77, 3, 62, 29, 42, 190, 16, 6, 100, 163, 5, 12, 42, 29, 46, 16, 63, 126, 170, 0, 0]
theorem zwL_law_0 : (cL_law.data.toList.drop 0).take 36 = zchL_law_0 := by decide +kernel
def zchL_law_1 : List UInt8 := [126, 170, 0, 0, 0, 0, 4, 253, 0, 0, 0, 0, 0, 0, 0, 35, 0, 0, 0, 159, 0, 0, 0, 212, 0, 0, 0, 235, 0, 0, 1, 12, 0, 0, 1, 35]
theorem zwL_law_1 : (cL_law.data.toList.drop 32).take 36 = zchL_law_1 := by decide +kernel
def zchL_law_6 : List UInt8 := [43, 42, 29, 4, 96, 46, 42, 29, 5, 96, 46, 42, 29, 6, 96, 46, 42, 29, 7, 96, 46, 182, 0, 13, 87, 44, 42, 29, 4, 96, 46, 42, 29, 5, 96, 46]
theorem zwL_law_6 : (cL_law.data.toList.drop 192).take 36 = zchL_law_6 := by decide +kernel
def zchL_law_7 : List UInt8 := [29, 5, 96, 46, 42, 29, 6, 96, 46, 42, 29, 7, 96, 46, 182, 0, 17, 87, 167, 4, 44, 43, 42, 29, 4, 96, 46, 182, 0, 18, 87, 44, 42, 29, 4, 96]
theorem zwL_law_7 : (cL_law.data.toList.drop 224).take 36 = zchL_law_7 := by decide +kernel
def zchL_law_8 : List UInt8 := [42, 29, 4, 96, 46, 182, 0, 22, 87, 167, 4, 21, 43, 42, 29, 4, 96, 46, 42, 29, 5, 96, 46, 182, 0, 23, 87, 44, 42, 29, 4, 96, 46, 42, 29, 5]
theorem zwL_law_8 : (cL_law.data.toList.drop 256).take 36 = zchL_law_8 := by decide +kernel
def zchL_law_9 : List UInt8 := [46, 42, 29, 5, 96, 46, 182, 0, 27, 87, 167, 3, 244, 43, 42, 29, 4, 96, 46, 182, 0, 28, 87, 44, 42, 29, 4, 96, 46, 182, 0, 31, 87, 167, 3, 221]
theorem zwL_law_9 : (cL_law.data.toList.drop 288).take 36 = zchL_law_9 := by decide +kernel
def zchL_law_10 : List UInt8 := [87, 167, 3, 221, 43, 182, 0, 32, 87, 44, 182, 0, 36, 87, 167, 3, 208, 43, 42, 29, 4, 96, 46, 182, 0, 37, 87, 44, 42, 29, 4, 96, 46, 182, 0, 40]
theorem zwL_law_10 : (cL_law.data.toList.drop 320).take 36 = zchL_law_10 := by decide +kernel
def zchL_law_11 : List UInt8 := [46, 182, 0, 40, 87, 167, 3, 185, 43, 182, 0, 41, 87, 44, 182, 0, 44, 87, 167, 3, 172, 43, 42, 29, 4, 96, 46, 182, 0, 45, 87, 44, 42, 29, 4, 96]
theorem zwL_law_11 : (cL_law.data.toList.drop 352).take 36 = zchL_law_11 := by decide +kernel
def zchL_law_12 : List UInt8 := [42, 29, 4, 96, 46, 182, 0, 48, 87, 167, 3, 149, 43, 42, 29, 4, 96, 46, 42, 29, 5, 96, 46, 182, 0, 49, 87, 44, 42, 29, 4, 96, 46, 42, 29, 5]
theorem zwL_law_12 : (cL_law.data.toList.drop 384).take 36 = zchL_law_12 := by decide +kernel
def zchL_law_13 : List UInt8 := [46, 42, 29, 5, 96, 46, 182, 0, 52, 87, 167, 3, 116, 43, 42, 29, 4, 96, 46, 42, 29, 5, 96, 46, 182, 0, 53, 87, 44, 42, 29, 4, 96, 46, 42, 29]
theorem zwL_law_13 : (cL_law.data.toList.drop 416).take 36 = zchL_law_13 := by decide +kernel
def zchL_law_14 : List UInt8 := [96, 46, 42, 29, 5, 96, 46, 182, 0, 56, 87, 167, 3, 83, 43, 182, 0, 57, 87, 44, 182, 0, 60, 87, 167, 3, 70, 43, 42, 29, 4, 96, 46, 182, 0, 61]
theorem zwL_law_14 : (cL_law.data.toList.drop 448).take 36 = zchL_law_14 := by decide +kernel
def zchL_law_15 : List UInt8 := [46, 182, 0, 61, 44, 42, 29, 4, 96, 46, 182, 0, 64, 159, 3, 49, 3, 172, 43, 42, 29, 4, 96, 46, 42, 29, 5, 96, 46, 42, 29, 6, 96, 46, 182, 0]
theorem zwL_law_15 : (cL_law.data.toList.drop 480).take 36 = zchL_law_15 := by decide +kernel
def zchL_law_16 : List UInt8 := [96, 46, 182, 0, 65, 87, 44, 42, 29, 4, 96, 46, 42, 29, 5, 96, 46, 42, 29, 6, 96, 46, 182, 0, 69, 87, 167, 3, 4, 43, 42, 29, 4, 96, 46, 42]
theorem zwL_law_16 : (cL_law.data.toList.drop 512).take 36 = zchL_law_16 := by decide +kernel
def zchL_law_17 : List UInt8 := [4, 96, 46, 42, 29, 5, 96, 46, 42, 29, 6, 96, 46, 182, 0, 70, 87, 44, 42, 29, 4, 96, 46, 42, 29, 5, 96, 46, 42, 29, 6, 96, 46, 182, 0, 73]
theorem zwL_law_17 : (cL_law.data.toList.drop 544).take 36 = zchL_law_17 := by decide +kernel
def zchL_law_18 : List UInt8 := [46, 182, 0, 73, 87, 167, 2, 217, 43, 42, 29, 4, 96, 46, 42, 29, 5, 96, 46, 182, 0, 74, 87, 44, 42, 29, 4, 96, 46, 42, 29, 5, 96, 46, 182, 0]
theorem zwL_law_18 : (cL_law.data.toList.drop 576).take 36 = zchL_law_18 := by decide +kernel
def zchL_law_19 : List UInt8 := [96, 46, 182, 0, 77, 87, 167, 2, 184, 43, 42, 29, 4, 96, 46, 42, 29, 5, 96, 46, 42, 29, 6, 96, 46, 182, 0, 78, 87, 44, 42, 29, 4, 96, 46, 42]
theorem zwL_law_19 : (cL_law.data.toList.drop 608).take 36 = zchL_law_19 := by decide +kernel
def zchL_law_20 : List UInt8 := [4, 96, 46, 42, 29, 5, 96, 46, 42, 29, 6, 96, 46, 182, 0, 81, 87, 167, 2, 141, 43, 42, 29, 4, 96, 46, 42, 29, 5, 96, 46, 42, 29, 6, 96, 46]
theorem zwL_law_20 : (cL_law.data.toList.drop 640).take 36 = zchL_law_20 := by decide +kernel
def zchL_law_21 : List UInt8 := [29, 6, 96, 46, 182, 0, 82, 87, 44, 42, 29, 4, 96, 46, 42, 29, 5, 96, 46, 42, 29, 6, 96, 46, 182, 0, 85, 87, 167, 2, 98, 43, 42, 29, 4, 96]
theorem zwL_law_21 : (cL_law.data.toList.drop 672).take 36 = zchL_law_21 := by decide +kernel
def zchL_law_22 : List UInt8 := [42, 29, 4, 96, 46, 42, 29, 5, 96, 46, 42, 29, 6, 96, 46, 182, 0, 86, 87, 44, 42, 29, 4, 96, 46, 42, 29, 5, 96, 46, 42, 29, 6, 96, 46, 182]
theorem zwL_law_22 : (cL_law.data.toList.drop 704).take 36 = zchL_law_22 := by decide +kernel
def zchL_law_23 : List UInt8 := [6, 96, 46, 182, 0, 89, 87, 167, 2, 55, 43, 42, 29, 4, 96, 46, 42, 29, 5, 96, 46, 182, 0, 90, 87, 44, 42, 29, 4, 96, 46, 42, 29, 5, 96, 46]
theorem zwL_law_23 : (cL_law.data.toList.drop 736).take 36 = zchL_law_23 := by decide +kernel
def zchL_law_24 : List UInt8 := [29, 5, 96, 46, 182, 0, 93, 87, 167, 2, 22, 43, 42, 29, 4, 96, 46, 42, 29, 5, 96, 46, 182, 0, 94, 87, 44, 42, 29, 4, 96, 46, 42, 29, 5, 96]
theorem zwL_law_24 : (cL_law.data.toList.drop 768).take 36 = zchL_law_24 := by decide +kernel
def zchL_law_25 : List UInt8 := [42, 29, 5, 96, 46, 182, 0, 97, 87, 167, 1, 245, 43, 42, 29, 4, 96, 46, 42, 29, 5, 96, 46, 182, 0, 98, 87, 44, 42, 29, 4, 96, 46, 42, 29, 5]
theorem zwL_law_25 : (cL_law.data.toList.drop 800).take 36 = zchL_law_25 := by decide +kernel
def zchL_law_26 : List UInt8 := [46, 42, 29, 5, 96, 46, 182, 0, 101, 87, 167, 1, 212, 43, 42, 29, 4, 96, 46, 42, 29, 5, 96, 46, 42, 29, 6, 96, 46, 182, 0, 102, 87, 44, 42, 29]
theorem zwL_law_26 : (cL_law.data.toList.drop 832).take 36 = zchL_law_26 := by decide +kernel
def zchL_law_27 : List UInt8 := [87, 44, 42, 29, 4, 96, 46, 42, 29, 5, 96, 46, 42, 29, 6, 96, 46, 182, 0, 105, 87, 167, 1, 169, 43, 182, 0, 106, 87, 44, 182, 0, 109, 87, 167, 1]
theorem zwL_law_27 : (cL_law.data.toList.drop 864).take 36 = zchL_law_27 := by decide +kernel
def zchL_law_28 : List UInt8 := [109, 87, 167, 1, 156, 43, 42, 29, 4, 96, 46, 42, 29, 5, 96, 46, 42, 29, 6, 96, 46, 182, 0, 110, 87, 44, 42, 29, 4, 96, 46, 42, 29, 5, 96, 46]
theorem zwL_law_28 : (cL_law.data.toList.drop 896).take 36 = zchL_law_28 := by decide +kernel
def zchL_law_29 : List UInt8 := [29, 5, 96, 46, 42, 29, 6, 96, 46, 182, 0, 113, 87, 167, 1, 113, 43, 42, 29, 4, 96, 46, 42, 29, 5, 96, 46, 182, 0, 114, 87, 44, 42, 29, 4, 96]
theorem zwL_law_29 : (cL_law.data.toList.drop 928).take 36 = zchL_law_29 := by decide +kernel
def zchL_law_30 : List UInt8 := [42, 29, 4, 96, 46, 42, 29, 5, 96, 46, 182, 0, 117, 87, 167, 1, 80, 43, 42, 29, 4, 96, 46, 182, 0, 118, 87, 44, 42, 29, 4, 96, 46, 182, 0, 121]
theorem zwL_law_30 : (cL_law.data.toList.drop 960).take 36 = zchL_law_30 := by decide +kernel
def zchL_law_31 : List UInt8 := [46, 182, 0, 121, 87, 167, 1, 57, 43, 42, 29, 4, 96, 46, 42, 29, 5, 96, 46, 42, 29, 6, 96, 46, 182, 0, 122, 88, 44, 42, 29, 4, 96, 46, 42, 29]
theorem zwL_law_31 : (cL_law.data.toList.drop 992).take 36 = zchL_law_31 := by decide +kernel
def zchL_law_32 : List UInt8 := [96, 46, 42, 29, 5, 96, 46, 42, 29, 6, 96, 46, 182, 0, 126, 88, 167, 1, 14, 43, 42, 29, 4, 96, 46, 42, 29, 5, 96, 46, 42, 29, 6, 96, 46, 42]
theorem zwL_law_32 : (cL_law.data.toList.drop 1024).take 36 = zchL_law_32 := by decide +kernel
def zchL_law_33 : List UInt8 := [6, 96, 46, 42, 29, 7, 96, 46, 42, 29, 8, 96, 46, 182, 0, 127, 88, 44, 42, 29, 4, 96, 46, 42, 29, 5, 96, 46, 42, 29, 6, 96, 46, 42, 29, 7]
theorem zwL_law_33 : (cL_law.data.toList.drop 1056).take 36 = zchL_law_33 := by decide +kernel
def zchL_law_34 : List UInt8 := [46, 42, 29, 7, 96, 46, 42, 29, 8, 96, 46, 182, 0, 131, 88, 167, 0, 207, 43, 42, 29, 4, 96, 46, 42, 29, 5, 96, 46, 182, 0, 132, 87, 44, 42, 29]
theorem zwL_law_34 : (cL_law.data.toList.drop 1088).take 36 = zchL_law_34 := by decide +kernel
def zchL_law_35 : List UInt8 := [87, 44, 42, 29, 4, 96, 46, 42, 29, 5, 96, 46, 182, 0, 135, 87, 167, 0, 174, 43, 182, 0, 136, 87, 44, 182, 0, 139, 87, 167, 0, 161, 43, 42, 29, 4]
theorem zwL_law_35 : (cL_law.data.toList.drop 1120).take 36 = zchL_law_35 := by decide +kernel
def zchL_law_36 : List UInt8 := [43, 42, 29, 4, 96, 46, 182, 0, 140, 87, 44, 42, 29, 4, 96, 46, 182, 0, 143, 87, 167, 0, 138, 43, 182, 0, 144, 88, 44, 182, 0, 148, 88, 167, 0, 125]
theorem zwL_law_36 : (cL_law.data.toList.drop 1152).take 36 = zchL_law_36 := by decide +kernel
def zchL_law_37 : List UInt8 := [88, 167, 0, 125, 43, 42, 29, 4, 96, 46, 42, 29, 5, 96, 46, 42, 29, 6, 96, 46, 42, 29, 7, 96, 46, 182, 0, 149, 87, 44, 42, 29, 4, 96, 46, 42]
theorem zwL_law_37 : (cL_law.data.toList.drop 1184).take 36 = zchL_law_37 := by decide +kernel
def zchL_law_38 : List UInt8 := [4, 96, 46, 42, 29, 5, 96, 46, 42, 29, 6, 96, 46, 42, 29, 7, 96, 46, 182, 0, 152, 87, 167, 0, 72, 43, 42, 29, 4, 96, 46, 182, 0, 153, 87, 44]
theorem zwL_law_38 : (cL_law.data.toList.drop 1216).take 36 = zchL_law_38 := by decide +kernel
def zchL_law_39 : List UInt8 := [0, 153, 87, 44, 42, 29, 4, 96, 46, 182, 0, 156, 87, 167, 0, 49, 43, 42, 29, 4, 96, 46, 182, 0, 157, 87, 44, 42, 29, 4, 96, 46, 182, 0, 160, 87]
theorem zwL_law_39 : (cL_law.data.toList.drop 1248).take 36 = zchL_law_39 := by decide +kernel
def zchL_law_40 : List UInt8 := [182, 0, 160, 87, 167, 0, 26, 43, 42, 29, 4, 96, 46, 182, 0, 161, 87, 44, 42, 29, 4, 96, 46, 182, 0, 164, 87, 167, 0, 3, 132, 3, 6, 167, 250, 241]
theorem zwL_law_40 : (cL_law.data.toList.drop 1280).take 36 = zchL_law_40 := by decide +kernel
def zchL_law_41 : List UInt8 := [6, 167, 250, 241, 4, 172]
theorem zwL_law_41 : (cL_law.data.toList.drop 1312).take 36 = zchL_law_41 := by decide +kernel
theorem d_L_law_0 : decode cL_law 0 = .ok (.new 7, 3) := zo_187 (a := 0) (b := 7) (zby_w zwL_law_0 0 rfl) (zby_w zwL_law_0 1 rfl) (zby_w zwL_law_0 2 rfl) (by decide)
theorem d_L_law_3 : decode cL_law 3 = .ok (.dup, 1) := zo_89 (zby_w zwL_law_0 3 rfl)
theorem d_L_law_4 : decode cL_law 4 = .ok (.invokespecial 9, 3) := zo_183 (a := 0) (b := 9) (zby_w zwL_law_0 4 rfl) (zby_w zwL_law_0 5 rfl) (zby_w zwL_law_0 6 rfl) (by decide)
theorem d_L_law_7 : decode cL_law 7 = .ok (.astore_n 1, 1) := zo_76 (zby_w zwL_law_0 7 rfl)
theorem d_L_law_8 : decode cL_law 8 = .ok (.new 10, 3) := zo_187 (a := 0) (b := 10) (zby_w zwL_law_0 8 rfl) (zby_w zwL_law_0 9 rfl) (zby_w zwL_law_0 10 rfl) (by decide)
theorem d_L_law_11 : decode cL_law 11 = .ok (.dup, 1) := zo_89 (zby_w zwL_law_0 11 rfl)
theorem d_L_law_12 : decode cL_law 12 = .ok (.invokespecial 12, 3) := zo_183 (a := 0) (b := 12) (zby_w zwL_law_0 12 rfl) (zby_w zwL_law_0 13 rfl) (zby_w zwL_law_0 14 rfl) (by decide)
theorem d_L_law_15 : decode cL_law 15 = .ok (.astore_n 2, 1) := zo_77 (zby_w zwL_law_0 15 rfl)
theorem d_L_law_16 : decode cL_law 16 = .ok (.iconst 0, 1) := zo_3 (zby_w zwL_law_0 16 rfl)
theorem d_L_law_17 : decode cL_law 17 = .ok (.istore_n 3, 1) := zo_62 (zby_w zwL_law_0 17 rfl)
theorem d_L_law_18 : decode cL_law 18 = .ok (.iload_n 3, 1) := zo_29 (zby_w zwL_law_0 18 rfl)
theorem d_L_law_19 : decode cL_law 19 = .ok (.aload_n 0, 1) := zo_42 (zby_w zwL_law_0 19 rfl)
theorem d_L_law_20 : decode cL_law 20 = .ok (.arraylength, 1) := zo_190 (zby_w zwL_law_0 20 rfl)
theorem d_L_law_21 : decode cL_law 21 = .ok (.bipush 6, 2) := zo_16 (a := 6) (zby_w zwL_law_0 21 rfl) (zby_w zwL_law_0 22 rfl) (by decide)
theorem d_L_law_23 : decode cL_law 23 = .ok (.isub, 1) := zo_100 (zby_w zwL_law_0 23 rfl)
theorem d_L_law_24 : decode cL_law 24 = .ok (.if_icmp .gt 1292, 3) := zo_163 (a := 5) (b := 12) (zby_w zwL_law_0 24 rfl) (zby_w zwL_law_0 25 rfl) (zby_w zwL_law_0 26 rfl) (by decide)
theorem d_L_law_27 : decode cL_law 27 = .ok (.aload_n 0, 1) := zo_42 (zby_w zwL_law_0 27 rfl)
theorem d_L_law_28 : decode cL_law 28 = .ok (.iload_n 3, 1) := zo_29 (zby_w zwL_law_0 28 rfl)
theorem d_L_law_29 : decode cL_law 29 = .ok (.iaload, 1) := zo_46 (zby_w zwL_law_0 29 rfl)
theorem d_L_law_30 : decode cL_law 30 = .ok (.bipush 63, 2) := zo_16 (a := 63) (zby_w zwL_law_0 30 rfl) (zby_w zwL_law_0 31 rfl) (by decide)
theorem d_L_law_32 : decode cL_law 32 = .ok (.iand, 1) := zo_126 (zby_w zwL_law_1 0 rfl)
theorem d_L_law_33 : decode cL_law 33 = .ok (.tableswitch 1277 0 35 #[159, 212, 235, 268, 291, 304, 327, 340, 363, 396, 429, 442, 465, 508, 551, 584, 627, 670, 713, 746, 779, 812, 855, 868, 911, 944, 967, 1010, 1073, 1106, 1119, 1142, 1155, 1208, 1231, 1254], 159) := by decide +kernel
theorem d_L_law_192 : decode cL_law 192 = .ok (.aload_n 1, 1) := zo_43 (zby_w zwL_law_6 0 rfl)
theorem d_L_law_193 : decode cL_law 193 = .ok (.aload_n 0, 1) := zo_42 (zby_w zwL_law_6 1 rfl)
theorem d_L_law_194 : decode cL_law 194 = .ok (.iload_n 3, 1) := zo_29 (zby_w zwL_law_6 2 rfl)
theorem d_L_law_195 : decode cL_law 195 = .ok (.iconst 1, 1) := zo_4 (zby_w zwL_law_6 3 rfl)
theorem d_L_law_196 : decode cL_law 196 = .ok (.iadd, 1) := zo_96 (zby_w zwL_law_6 4 rfl)
theorem d_L_law_197 : decode cL_law 197 = .ok (.iaload, 1) := zo_46 (zby_w zwL_law_6 5 rfl)
theorem d_L_law_198 : decode cL_law 198 = .ok (.aload_n 0, 1) := zo_42 (zby_w zwL_law_6 6 rfl)
theorem d_L_law_199 : decode cL_law 199 = .ok (.iload_n 3, 1) := zo_29 (zby_w zwL_law_6 7 rfl)
theorem d_L_law_200 : decode cL_law 200 = .ok (.iconst 2, 1) := zo_5 (zby_w zwL_law_6 8 rfl)
theorem d_L_law_201 : decode cL_law 201 = .ok (.iadd, 1) := zo_96 (zby_w zwL_law_6 9 rfl)
theorem d_L_law_202 : decode cL_law 202 = .ok (.iaload, 1) := zo_46 (zby_w zwL_law_6 10 rfl)
theorem d_L_law_203 : decode cL_law 203 = .ok (.aload_n 0, 1) := zo_42 (zby_w zwL_law_6 11 rfl)
theorem d_L_law_204 : decode cL_law 204 = .ok (.iload_n 3, 1) := zo_29 (zby_w zwL_law_6 12 rfl)
theorem d_L_law_205 : decode cL_law 205 = .ok (.iconst 3, 1) := zo_6 (zby_w zwL_law_6 13 rfl)
theorem d_L_law_206 : decode cL_law 206 = .ok (.iadd, 1) := zo_96 (zby_w zwL_law_6 14 rfl)
theorem d_L_law_207 : decode cL_law 207 = .ok (.iaload, 1) := zo_46 (zby_w zwL_law_6 15 rfl)
theorem d_L_law_208 : decode cL_law 208 = .ok (.aload_n 0, 1) := zo_42 (zby_w zwL_law_6 16 rfl)
theorem d_L_law_209 : decode cL_law 209 = .ok (.iload_n 3, 1) := zo_29 (zby_w zwL_law_6 17 rfl)
theorem d_L_law_210 : decode cL_law 210 = .ok (.iconst 4, 1) := zo_7 (zby_w zwL_law_6 18 rfl)
theorem d_L_law_211 : decode cL_law 211 = .ok (.iadd, 1) := zo_96 (zby_w zwL_law_6 19 rfl)
theorem d_L_law_212 : decode cL_law 212 = .ok (.iaload, 1) := zo_46 (zby_w zwL_law_6 20 rfl)
theorem d_L_law_213 : decode cL_law 213 = .ok (.invokevirtual 13, 3) := zo_182 (a := 0) (b := 13) (zby_w zwL_law_6 21 rfl) (zby_w zwL_law_6 22 rfl) (zby_w zwL_law_6 23 rfl) (by decide)
theorem d_L_law_216 : decode cL_law 216 = .ok (.pop, 1) := zo_87 (zby_w zwL_law_6 24 rfl)
theorem d_L_law_217 : decode cL_law 217 = .ok (.aload_n 2, 1) := zo_44 (zby_w zwL_law_6 25 rfl)
theorem d_L_law_218 : decode cL_law 218 = .ok (.aload_n 0, 1) := zo_42 (zby_w zwL_law_6 26 rfl)
theorem d_L_law_219 : decode cL_law 219 = .ok (.iload_n 3, 1) := zo_29 (zby_w zwL_law_6 27 rfl)
theorem d_L_law_220 : decode cL_law 220 = .ok (.iconst 1, 1) := zo_4 (zby_w zwL_law_6 28 rfl)
theorem d_L_law_221 : decode cL_law 221 = .ok (.iadd, 1) := zo_96 (zby_w zwL_law_6 29 rfl)
theorem d_L_law_222 : decode cL_law 222 = .ok (.iaload, 1) := zo_46 (zby_w zwL_law_6 30 rfl)
theorem d_L_law_223 : decode cL_law 223 = .ok (.aload_n 0, 1) := zo_42 (zby_w zwL_law_6 31 rfl)
theorem d_L_law_224 : decode cL_law 224 = .ok (.iload_n 3, 1) := zo_29 (zby_w zwL_law_7 0 rfl)
theorem d_L_law_225 : decode cL_law 225 = .ok (.iconst 2, 1) := zo_5 (zby_w zwL_law_7 1 rfl)
theorem d_L_law_226 : decode cL_law 226 = .ok (.iadd, 1) := zo_96 (zby_w zwL_law_7 2 rfl)
theorem d_L_law_227 : decode cL_law 227 = .ok (.iaload, 1) := zo_46 (zby_w zwL_law_7 3 rfl)
theorem d_L_law_228 : decode cL_law 228 = .ok (.aload_n 0, 1) := zo_42 (zby_w zwL_law_7 4 rfl)
theorem d_L_law_229 : decode cL_law 229 = .ok (.iload_n 3, 1) := zo_29 (zby_w zwL_law_7 5 rfl)
theorem d_L_law_230 : decode cL_law 230 = .ok (.iconst 3, 1) := zo_6 (zby_w zwL_law_7 6 rfl)
theorem d_L_law_231 : decode cL_law 231 = .ok (.iadd, 1) := zo_96 (zby_w zwL_law_7 7 rfl)
theorem d_L_law_232 : decode cL_law 232 = .ok (.iaload, 1) := zo_46 (zby_w zwL_law_7 8 rfl)
theorem d_L_law_233 : decode cL_law 233 = .ok (.aload_n 0, 1) := zo_42 (zby_w zwL_law_7 9 rfl)
theorem d_L_law_234 : decode cL_law 234 = .ok (.iload_n 3, 1) := zo_29 (zby_w zwL_law_7 10 rfl)
theorem d_L_law_235 : decode cL_law 235 = .ok (.iconst 4, 1) := zo_7 (zby_w zwL_law_7 11 rfl)
theorem d_L_law_236 : decode cL_law 236 = .ok (.iadd, 1) := zo_96 (zby_w zwL_law_7 12 rfl)
theorem d_L_law_237 : decode cL_law 237 = .ok (.iaload, 1) := zo_46 (zby_w zwL_law_7 13 rfl)
theorem d_L_law_238 : decode cL_law 238 = .ok (.invokevirtual 17, 3) := zo_182 (a := 0) (b := 17) (zby_w zwL_law_7 14 rfl) (zby_w zwL_law_7 15 rfl) (zby_w zwL_law_7 16 rfl) (by decide)
theorem d_L_law_241 : decode cL_law 241 = .ok (.pop, 1) := zo_87 (zby_w zwL_law_7 17 rfl)
theorem d_L_law_242 : decode cL_law 242 = .ok (.goto 1068, 3) := zo_167 (a := 4) (b := 44) (zby_w zwL_law_7 18 rfl) (zby_w zwL_law_7 19 rfl) (zby_w zwL_law_7 20 rfl) (by decide)
theorem d_L_law_245 : decode cL_law 245 = .ok (.aload_n 1, 1) := zo_43 (zby_w zwL_law_7 21 rfl)
theorem d_L_law_246 : decode cL_law 246 = .ok (.aload_n 0, 1) := zo_42 (zby_w zwL_law_7 22 rfl)
theorem d_L_law_247 : decode cL_law 247 = .ok (.iload_n 3, 1) := zo_29 (zby_w zwL_law_7 23 rfl)
theorem d_L_law_248 : decode cL_law 248 = .ok (.iconst 1, 1) := zo_4 (zby_w zwL_law_7 24 rfl)
theorem d_L_law_249 : decode cL_law 249 = .ok (.iadd, 1) := zo_96 (zby_w zwL_law_7 25 rfl)
theorem d_L_law_250 : decode cL_law 250 = .ok (.iaload, 1) := zo_46 (zby_w zwL_law_7 26 rfl)
theorem d_L_law_251 : decode cL_law 251 = .ok (.invokevirtual 18, 3) := zo_182 (a := 0) (b := 18) (zby_w zwL_law_7 27 rfl) (zby_w zwL_law_7 28 rfl) (zby_w zwL_law_7 29 rfl) (by decide)
theorem d_L_law_254 : decode cL_law 254 = .ok (.pop, 1) := zo_87 (zby_w zwL_law_7 30 rfl)
theorem d_L_law_255 : decode cL_law 255 = .ok (.aload_n 2, 1) := zo_44 (zby_w zwL_law_7 31 rfl)
theorem d_L_law_256 : decode cL_law 256 = .ok (.aload_n 0, 1) := zo_42 (zby_w zwL_law_8 0 rfl)
theorem d_L_law_257 : decode cL_law 257 = .ok (.iload_n 3, 1) := zo_29 (zby_w zwL_law_8 1 rfl)
theorem d_L_law_258 : decode cL_law 258 = .ok (.iconst 1, 1) := zo_4 (zby_w zwL_law_8 2 rfl)
theorem d_L_law_259 : decode cL_law 259 = .ok (.iadd, 1) := zo_96 (zby_w zwL_law_8 3 rfl)
theorem d_L_law_260 : decode cL_law 260 = .ok (.iaload, 1) := zo_46 (zby_w zwL_law_8 4 rfl)
theorem d_L_law_261 : decode cL_law 261 = .ok (.invokevirtual 22, 3) := zo_182 (a := 0) (b := 22) (zby_w zwL_law_8 5 rfl) (zby_w zwL_law_8 6 rfl) (zby_w zwL_law_8 7 rfl) (by decide)
theorem d_L_law_264 : decode cL_law 264 = .ok (.pop, 1) := zo_87 (zby_w zwL_law_8 8 rfl)
theorem d_L_law_265 : decode cL_law 265 = .ok (.goto 1045, 3) := zo_167 (a := 4) (b := 21) (zby_w zwL_law_8 9 rfl) (zby_w zwL_law_8 10 rfl) (zby_w zwL_law_8 11 rfl) (by decide)
theorem d_L_law_268 : decode cL_law 268 = .ok (.aload_n 1, 1) := zo_43 (zby_w zwL_law_8 12 rfl)
theorem d_L_law_269 : decode cL_law 269 = .ok (.aload_n 0, 1) := zo_42 (zby_w zwL_law_8 13 rfl)
theorem d_L_law_270 : decode cL_law 270 = .ok (.iload_n 3, 1) := zo_29 (zby_w zwL_law_8 14 rfl)
theorem d_L_law_271 : decode cL_law 271 = .ok (.iconst 1, 1) := zo_4 (zby_w zwL_law_8 15 rfl)
theorem d_L_law_272 : decode cL_law 272 = .ok (.iadd, 1) := zo_96 (zby_w zwL_law_8 16 rfl)
theorem d_L_law_273 : decode cL_law 273 = .ok (.iaload, 1) := zo_46 (zby_w zwL_law_8 17 rfl)
theorem d_L_law_274 : decode cL_law 274 = .ok (.aload_n 0, 1) := zo_42 (zby_w zwL_law_8 18 rfl)
theorem d_L_law_275 : decode cL_law 275 = .ok (.iload_n 3, 1) := zo_29 (zby_w zwL_law_8 19 rfl)
theorem d_L_law_276 : decode cL_law 276 = .ok (.iconst 2, 1) := zo_5 (zby_w zwL_law_8 20 rfl)
theorem d_L_law_277 : decode cL_law 277 = .ok (.iadd, 1) := zo_96 (zby_w zwL_law_8 21 rfl)
theorem d_L_law_278 : decode cL_law 278 = .ok (.iaload, 1) := zo_46 (zby_w zwL_law_8 22 rfl)
theorem d_L_law_279 : decode cL_law 279 = .ok (.invokevirtual 23, 3) := zo_182 (a := 0) (b := 23) (zby_w zwL_law_8 23 rfl) (zby_w zwL_law_8 24 rfl) (zby_w zwL_law_8 25 rfl) (by decide)
theorem d_L_law_282 : decode cL_law 282 = .ok (.pop, 1) := zo_87 (zby_w zwL_law_8 26 rfl)
theorem d_L_law_283 : decode cL_law 283 = .ok (.aload_n 2, 1) := zo_44 (zby_w zwL_law_8 27 rfl)
theorem d_L_law_284 : decode cL_law 284 = .ok (.aload_n 0, 1) := zo_42 (zby_w zwL_law_8 28 rfl)
theorem d_L_law_285 : decode cL_law 285 = .ok (.iload_n 3, 1) := zo_29 (zby_w zwL_law_8 29 rfl)
theorem d_L_law_286 : decode cL_law 286 = .ok (.iconst 1, 1) := zo_4 (zby_w zwL_law_8 30 rfl)
theorem d_L_law_287 : decode cL_law 287 = .ok (.iadd, 1) := zo_96 (zby_w zwL_law_8 31 rfl)
theorem d_L_law_288 : decode cL_law 288 = .ok (.iaload, 1) := zo_46 (zby_w zwL_law_9 0 rfl)
theorem d_L_law_289 : decode cL_law 289 = .ok (.aload_n 0, 1) := zo_42 (zby_w zwL_law_9 1 rfl)
theorem d_L_law_290 : decode cL_law 290 = .ok (.iload_n 3, 1) := zo_29 (zby_w zwL_law_9 2 rfl)
theorem d_L_law_291 : decode cL_law 291 = .ok (.iconst 2, 1) := zo_5 (zby_w zwL_law_9 3 rfl)
theorem d_L_law_292 : decode cL_law 292 = .ok (.iadd, 1) := zo_96 (zby_w zwL_law_9 4 rfl)
theorem d_L_law_293 : decode cL_law 293 = .ok (.iaload, 1) := zo_46 (zby_w zwL_law_9 5 rfl)
theorem d_L_law_294 : decode cL_law 294 = .ok (.invokevirtual 27, 3) := zo_182 (a := 0) (b := 27) (zby_w zwL_law_9 6 rfl) (zby_w zwL_law_9 7 rfl) (zby_w zwL_law_9 8 rfl) (by decide)
theorem d_L_law_297 : decode cL_law 297 = .ok (.pop, 1) := zo_87 (zby_w zwL_law_9 9 rfl)
theorem d_L_law_298 : decode cL_law 298 = .ok (.goto 1012, 3) := zo_167 (a := 3) (b := 244) (zby_w zwL_law_9 10 rfl) (zby_w zwL_law_9 11 rfl) (zby_w zwL_law_9 12 rfl) (by decide)
theorem d_L_law_301 : decode cL_law 301 = .ok (.aload_n 1, 1) := zo_43 (zby_w zwL_law_9 13 rfl)
theorem d_L_law_302 : decode cL_law 302 = .ok (.aload_n 0, 1) := zo_42 (zby_w zwL_law_9 14 rfl)
theorem d_L_law_303 : decode cL_law 303 = .ok (.iload_n 3, 1) := zo_29 (zby_w zwL_law_9 15 rfl)
theorem d_L_law_304 : decode cL_law 304 = .ok (.iconst 1, 1) := zo_4 (zby_w zwL_law_9 16 rfl)
theorem d_L_law_305 : decode cL_law 305 = .ok (.iadd, 1) := zo_96 (zby_w zwL_law_9 17 rfl)
theorem d_L_law_306 : decode cL_law 306 = .ok (.iaload, 1) := zo_46 (zby_w zwL_law_9 18 rfl)
theorem d_L_law_307 : decode cL_law 307 = .ok (.invokevirtual 28, 3) := zo_182 (a := 0) (b := 28) (zby_w zwL_law_9 19 rfl) (zby_w zwL_law_9 20 rfl) (zby_w zwL_law_9 21 rfl) (by decide)
theorem d_L_law_310 : decode cL_law 310 = .ok (.pop, 1) := zo_87 (zby_w zwL_law_9 22 rfl)
theorem d_L_law_311 : decode cL_law 311 = .ok (.aload_n 2, 1) := zo_44 (zby_w zwL_law_9 23 rfl)
theorem d_L_law_312 : decode cL_law 312 = .ok (.aload_n 0, 1) := zo_42 (zby_w zwL_law_9 24 rfl)
theorem d_L_law_313 : decode cL_law 313 = .ok (.iload_n 3, 1) := zo_29 (zby_w zwL_law_9 25 rfl)
theorem d_L_law_314 : decode cL_law 314 = .ok (.iconst 1, 1) := zo_4 (zby_w zwL_law_9 26 rfl)
theorem d_L_law_315 : decode cL_law 315 = .ok (.iadd, 1) := zo_96 (zby_w zwL_law_9 27 rfl)
theorem d_L_law_316 : decode cL_law 316 = .ok (.iaload, 1) := zo_46 (zby_w zwL_law_9 28 rfl)
theorem d_L_law_317 : decode cL_law 317 = .ok (.invokevirtual 31, 3) := zo_182 (a := 0) (b := 31) (zby_w zwL_law_9 29 rfl) (zby_w zwL_law_9 30 rfl) (zby_w zwL_law_9 31 rfl) (by decide)
theorem d_L_law_320 : decode cL_law 320 = .ok (.pop, 1) := zo_87 (zby_w zwL_law_10 0 rfl)
theorem d_L_law_321 : decode cL_law 321 = .ok (.goto 989, 3) := zo_167 (a := 3) (b := 221) (zby_w zwL_law_10 1 rfl) (zby_w zwL_law_10 2 rfl) (zby_w zwL_law_10 3 rfl) (by decide)
theorem d_L_law_324 : decode cL_law 324 = .ok (.aload_n 1, 1) := zo_43 (zby_w zwL_law_10 4 rfl)
theorem d_L_law_325 : decode cL_law 325 = .ok (.invokevirtual 32, 3) := zo_182 (a := 0) (b := 32) (zby_w zwL_law_10 5 rfl) (zby_w zwL_law_10 6 rfl) (zby_w zwL_law_10 7 rfl) (by decide)
theorem d_L_law_328 : decode cL_law 328 = .ok (.pop, 1) := zo_87 (zby_w zwL_law_10 8 rfl)
theorem d_L_law_329 : decode cL_law 329 = .ok (.aload_n 2, 1) := zo_44 (zby_w zwL_law_10 9 rfl)
theorem d_L_law_330 : decode cL_law 330 = .ok (.invokevirtual 36, 3) := zo_182 (a := 0) (b := 36) (zby_w zwL_law_10 10 rfl) (zby_w zwL_law_10 11 rfl) (zby_w zwL_law_10 12 rfl) (by decide)
theorem d_L_law_333 : decode cL_law 333 = .ok (.pop, 1) := zo_87 (zby_w zwL_law_10 13 rfl)
theorem d_L_law_334 : decode cL_law 334 = .ok (.goto 976, 3) := zo_167 (a := 3) (b := 208) (zby_w zwL_law_10 14 rfl) (zby_w zwL_law_10 15 rfl) (zby_w zwL_law_10 16 rfl) (by decide)
theorem d_L_law_337 : decode cL_law 337 = .ok (.aload_n 1, 1) := zo_43 (zby_w zwL_law_10 17 rfl)
theorem d_L_law_338 : decode cL_law 338 = .ok (.aload_n 0, 1) := zo_42 (zby_w zwL_law_10 18 rfl)
theorem d_L_law_339 : decode cL_law 339 = .ok (.iload_n 3, 1) := zo_29 (zby_w zwL_law_10 19 rfl)
theorem d_L_law_340 : decode cL_law 340 = .ok (.iconst 1, 1) := zo_4 (zby_w zwL_law_10 20 rfl)
theorem d_L_law_341 : decode cL_law 341 = .ok (.iadd, 1) := zo_96 (zby_w zwL_law_10 21 rfl)
theorem d_L_law_342 : decode cL_law 342 = .ok (.iaload, 1) := zo_46 (zby_w zwL_law_10 22 rfl)
theorem d_L_law_343 : decode cL_law 343 = .ok (.invokevirtual 37, 3) := zo_182 (a := 0) (b := 37) (zby_w zwL_law_10 23 rfl) (zby_w zwL_law_10 24 rfl) (zby_w zwL_law_10 25 rfl) (by decide)
theorem d_L_law_346 : decode cL_law 346 = .ok (.pop, 1) := zo_87 (zby_w zwL_law_10 26 rfl)
theorem d_L_law_347 : decode cL_law 347 = .ok (.aload_n 2, 1) := zo_44 (zby_w zwL_law_10 27 rfl)
theorem d_L_law_348 : decode cL_law 348 = .ok (.aload_n 0, 1) := zo_42 (zby_w zwL_law_10 28 rfl)
theorem d_L_law_349 : decode cL_law 349 = .ok (.iload_n 3, 1) := zo_29 (zby_w zwL_law_10 29 rfl)
theorem d_L_law_350 : decode cL_law 350 = .ok (.iconst 1, 1) := zo_4 (zby_w zwL_law_10 30 rfl)
theorem d_L_law_351 : decode cL_law 351 = .ok (.iadd, 1) := zo_96 (zby_w zwL_law_10 31 rfl)
theorem d_L_law_352 : decode cL_law 352 = .ok (.iaload, 1) := zo_46 (zby_w zwL_law_11 0 rfl)
theorem d_L_law_353 : decode cL_law 353 = .ok (.invokevirtual 40, 3) := zo_182 (a := 0) (b := 40) (zby_w zwL_law_11 1 rfl) (zby_w zwL_law_11 2 rfl) (zby_w zwL_law_11 3 rfl) (by decide)
theorem d_L_law_356 : decode cL_law 356 = .ok (.pop, 1) := zo_87 (zby_w zwL_law_11 4 rfl)
theorem d_L_law_357 : decode cL_law 357 = .ok (.goto 953, 3) := zo_167 (a := 3) (b := 185) (zby_w zwL_law_11 5 rfl) (zby_w zwL_law_11 6 rfl) (zby_w zwL_law_11 7 rfl) (by decide)
theorem d_L_law_360 : decode cL_law 360 = .ok (.aload_n 1, 1) := zo_43 (zby_w zwL_law_11 8 rfl)
theorem d_L_law_361 : decode cL_law 361 = .ok (.invokevirtual 41, 3) := zo_182 (a := 0) (b := 41) (zby_w zwL_law_11 9 rfl) (zby_w zwL_law_11 10 rfl) (zby_w zwL_law_11 11 rfl) (by decide)
theorem d_L_law_364 : decode cL_law 364 = .ok (.pop, 1) := zo_87 (zby_w zwL_law_11 12 rfl)
theorem d_L_law_365 : decode cL_law 365 = .ok (.aload_n 2, 1) := zo_44 (zby_w zwL_law_11 13 rfl)
theorem d_L_law_366 : decode cL_law 366 = .ok (.invokevirtual 44, 3) := zo_182 (a := 0) (b := 44) (zby_w zwL_law_11 14 rfl) (zby_w zwL_law_11 15 rfl) (zby_w zwL_law_11 16 rfl) (by decide)
theorem d_L_law_369 : decode cL_law 369 = .ok (.pop, 1) := zo_87 (zby_w zwL_law_11 17 rfl)
theorem d_L_law_370 : decode cL_law 370 = .ok (.goto 940, 3) := zo_167 (a := 3) (b := 172) (zby_w zwL_law_11 18 rfl) (zby_w zwL_law_11 19 rfl) (zby_w zwL_law_11 20 rfl) (by decide)
theorem d_L_law_373 : decode cL_law 373 = .ok (.aload_n 1, 1) := zo_43 (zby_w zwL_law_11 21 rfl)
theorem d_L_law_374 : decode cL_law 374 = .ok (.aload_n 0, 1) := zo_42 (zby_w zwL_law_11 22 rfl)
theorem d_L_law_375 : decode cL_law 375 = .ok (.iload_n 3, 1) := zo_29 (zby_w zwL_law_11 23 rfl)
theorem d_L_law_376 : decode cL_law 376 = .ok (.iconst 1, 1) := zo_4 (zby_w zwL_law_11 24 rfl)
theorem d_L_law_377 : decode cL_law 377 = .ok (.iadd, 1) := zo_96 (zby_w zwL_law_11 25 rfl)
theorem d_L_law_378 : decode cL_law 378 = .ok (.iaload, 1) := zo_46 (zby_w zwL_law_11 26 rfl)
theorem d_L_law_379 : decode cL_law 379 = .ok (.invokevirtual 45, 3) := zo_182 (a := 0) (b := 45) (zby_w zwL_law_11 27 rfl) (zby_w zwL_law_11 28 rfl) (zby_w zwL_law_11 29 rfl) (by decide)
theorem d_L_law_382 : decode cL_law 382 = .ok (.pop, 1) := zo_87 (zby_w zwL_law_11 30 rfl)
theorem d_L_law_383 : decode cL_law 383 = .ok (.aload_n 2, 1) := zo_44 (zby_w zwL_law_11 31 rfl)
theorem d_L_law_384 : decode cL_law 384 = .ok (.aload_n 0, 1) := zo_42 (zby_w zwL_law_12 0 rfl)
theorem d_L_law_385 : decode cL_law 385 = .ok (.iload_n 3, 1) := zo_29 (zby_w zwL_law_12 1 rfl)
theorem d_L_law_386 : decode cL_law 386 = .ok (.iconst 1, 1) := zo_4 (zby_w zwL_law_12 2 rfl)
theorem d_L_law_387 : decode cL_law 387 = .ok (.iadd, 1) := zo_96 (zby_w zwL_law_12 3 rfl)
theorem d_L_law_388 : decode cL_law 388 = .ok (.iaload, 1) := zo_46 (zby_w zwL_law_12 4 rfl)
theorem d_L_law_389 : decode cL_law 389 = .ok (.invokevirtual 48, 3) := zo_182 (a := 0) (b := 48) (zby_w zwL_law_12 5 rfl) (zby_w zwL_law_12 6 rfl) (zby_w zwL_law_12 7 rfl) (by decide)
theorem d_L_law_392 : decode cL_law 392 = .ok (.pop, 1) := zo_87 (zby_w zwL_law_12 8 rfl)
theorem d_L_law_393 : decode cL_law 393 = .ok (.goto 917, 3) := zo_167 (a := 3) (b := 149) (zby_w zwL_law_12 9 rfl) (zby_w zwL_law_12 10 rfl) (zby_w zwL_law_12 11 rfl) (by decide)
theorem d_L_law_396 : decode cL_law 396 = .ok (.aload_n 1, 1) := zo_43 (zby_w zwL_law_12 12 rfl)
theorem d_L_law_397 : decode cL_law 397 = .ok (.aload_n 0, 1) := zo_42 (zby_w zwL_law_12 13 rfl)
theorem d_L_law_398 : decode cL_law 398 = .ok (.iload_n 3, 1) := zo_29 (zby_w zwL_law_12 14 rfl)
theorem d_L_law_399 : decode cL_law 399 = .ok (.iconst 1, 1) := zo_4 (zby_w zwL_law_12 15 rfl)
theorem d_L_law_400 : decode cL_law 400 = .ok (.iadd, 1) := zo_96 (zby_w zwL_law_12 16 rfl)
theorem d_L_law_401 : decode cL_law 401 = .ok (.iaload, 1) := zo_46 (zby_w zwL_law_12 17 rfl)
theorem d_L_law_402 : decode cL_law 402 = .ok (.aload_n 0, 1) := zo_42 (zby_w zwL_law_12 18 rfl)
theorem d_L_law_403 : decode cL_law 403 = .ok (.iload_n 3, 1) := zo_29 (zby_w zwL_law_12 19 rfl)
theorem d_L_law_404 : decode cL_law 404 = .ok (.iconst 2, 1) := zo_5 (zby_w zwL_law_12 20 rfl)
theorem d_L_law_405 : decode cL_law 405 = .ok (.iadd, 1) := zo_96 (zby_w zwL_law_12 21 rfl)
theorem d_L_law_406 : decode cL_law 406 = .ok (.iaload, 1) := zo_46 (zby_w zwL_law_12 22 rfl)
theorem d_L_law_407 : decode cL_law 407 = .ok (.invokevirtual 49, 3) := zo_182 (a := 0) (b := 49) (zby_w zwL_law_12 23 rfl) (zby_w zwL_law_12 24 rfl) (zby_w zwL_law_12 25 rfl) (by decide)
theorem d_L_law_410 : decode cL_law 410 = .ok (.pop, 1) := zo_87 (zby_w zwL_law_12 26 rfl)
theorem d_L_law_411 : decode cL_law 411 = .ok (.aload_n 2, 1) := zo_44 (zby_w zwL_law_12 27 rfl)
theorem d_L_law_412 : decode cL_law 412 = .ok (.aload_n 0, 1) := zo_42 (zby_w zwL_law_12 28 rfl)
theorem d_L_law_413 : decode cL_law 413 = .ok (.iload_n 3, 1) := zo_29 (zby_w zwL_law_12 29 rfl)
theorem d_L_law_414 : decode cL_law 414 = .ok (.iconst 1, 1) := zo_4 (zby_w zwL_law_12 30 rfl)
theorem d_L_law_415 : decode cL_law 415 = .ok (.iadd, 1) := zo_96 (zby_w zwL_law_12 31 rfl)
theorem d_L_law_416 : decode cL_law 416 = .ok (.iaload, 1) := zo_46 (zby_w zwL_law_13 0 rfl)
theorem d_L_law_417 : decode cL_law 417 = .ok (.aload_n 0, 1) := zo_42 (zby_w zwL_law_13 1 rfl)
theorem d_L_law_418 : decode cL_law 418 = .ok (.iload_n 3, 1) := zo_29 (zby_w zwL_law_13 2 rfl)
theorem d_L_law_419 : decode cL_law 419 = .ok (.iconst 2, 1) := zo_5 (zby_w zwL_law_13 3 rfl)
theorem d_L_law_420 : decode cL_law 420 = .ok (.iadd, 1) := zo_96 (zby_w zwL_law_13 4 rfl)
theorem d_L_law_421 : decode cL_law 421 = .ok (.iaload, 1) := zo_46 (zby_w zwL_law_13 5 rfl)
theorem d_L_law_422 : decode cL_law 422 = .ok (.invokevirtual 52, 3) := zo_182 (a := 0) (b := 52) (zby_w zwL_law_13 6 rfl) (zby_w zwL_law_13 7 rfl) (zby_w zwL_law_13 8 rfl) (by decide)
theorem d_L_law_425 : decode cL_law 425 = .ok (.pop, 1) := zo_87 (zby_w zwL_law_13 9 rfl)
theorem d_L_law_426 : decode cL_law 426 = .ok (.goto 884, 3) := zo_167 (a := 3) (b := 116) (zby_w zwL_law_13 10 rfl) (zby_w zwL_law_13 11 rfl) (zby_w zwL_law_13 12 rfl) (by decide)
theorem d_L_law_429 : decode cL_law 429 = .ok (.aload_n 1, 1) := zo_43 (zby_w zwL_law_13 13 rfl)
theorem d_L_law_430 : decode cL_law 430 = .ok (.aload_n 0, 1) := zo_42 (zby_w zwL_law_13 14 rfl)
theorem d_L_law_431 : decode cL_law 431 = .ok (.iload_n 3, 1) := zo_29 (zby_w zwL_law_13 15 rfl)
theorem d_L_law_432 : decode cL_law 432 = .ok (.iconst 1, 1) := zo_4 (zby_w zwL_law_13 16 rfl)
theorem d_L_law_433 : decode cL_law 433 = .ok (.iadd, 1) := zo_96 (zby_w zwL_law_13 17 rfl)
theorem d_L_law_434 : decode cL_law 434 = .ok (.iaload, 1) := zo_46 (zby_w zwL_law_13 18 rfl)
theorem d_L_law_435 : decode cL_law 435 = .ok (.aload_n 0, 1) := zo_42 (zby_w zwL_law_13 19 rfl)
theorem d_L_law_436 : decode cL_law 436 = .ok (.iload_n 3, 1) := zo_29 (zby_w zwL_law_13 20 rfl)
theorem d_L_law_437 : decode cL_law 437 = .ok (.iconst 2, 1) := zo_5 (zby_w zwL_law_13 21 rfl)
theorem d_L_law_438 : decode cL_law 438 = .ok (.iadd, 1) := zo_96 (zby_w zwL_law_13 22 rfl)
theorem d_L_law_439 : decode cL_law 439 = .ok (.iaload, 1) := zo_46 (zby_w zwL_law_13 23 rfl)
theorem d_L_law_440 : decode cL_law 440 = .ok (.invokevirtual 53, 3) := zo_182 (a := 0) (b := 53) (zby_w zwL_law_13 24 rfl) (zby_w zwL_law_13 25 rfl) (zby_w zwL_law_13 26 rfl) (by decide)
theorem d_L_law_443 : decode cL_law 443 = .ok (.pop, 1) := zo_87 (zby_w zwL_law_13 27 rfl)
theorem d_L_law_444 : decode cL_law 444 = .ok (.aload_n 2, 1) := zo_44 (zby_w zwL_law_13 28 rfl)
theorem d_L_law_445 : decode cL_law 445 = .ok (.aload_n 0, 1) := zo_42 (zby_w zwL_law_13 29 rfl)
theorem d_L_law_446 : decode cL_law 446 = .ok (.iload_n 3, 1) := zo_29 (zby_w zwL_law_13 30 rfl)
theorem d_L_law_447 : decode cL_law 447 = .ok (.iconst 1, 1) := zo_4 (zby_w zwL_law_13 31 rfl)
theorem d_L_law_448 : decode cL_law 448 = .ok (.iadd, 1) := zo_96 (zby_w zwL_law_14 0 rfl)
theorem d_L_law_449 : decode cL_law 449 = .ok (.iaload, 1) := zo_46 (zby_w zwL_law_14 1 rfl)
theorem d_L_law_450 : decode cL_law 450 = .ok (.aload_n 0, 1) := zo_42 (zby_w zwL_law_14 2 rfl)
theorem d_L_law_451 : decode cL_law 451 = .ok (.iload_n 3, 1) := zo_29 (zby_w zwL_law_14 3 rfl)
theorem d_L_law_452 : decode cL_law 452 = .ok (.iconst 2, 1) := zo_5 (zby_w zwL_law_14 4 rfl)
theorem d_L_law_453 : decode cL_law 453 = .ok (.iadd, 1) := zo_96 (zby_w zwL_law_14 5 rfl)
theorem d_L_law_454 : decode cL_law 454 = .ok (.iaload, 1) := zo_46 (zby_w zwL_law_14 6 rfl)
theorem d_L_law_455 : decode cL_law 455 = .ok (.invokevirtual 56, 3) := zo_182 (a := 0) (b := 56) (zby_w zwL_law_14 7 rfl) (zby_w zwL_law_14 8 rfl) (zby_w zwL_law_14 9 rfl) (by decide)
theorem d_L_law_458 : decode cL_law 458 = .ok (.pop, 1) := zo_87 (zby_w zwL_law_14 10 rfl)
theorem d_L_law_459 : decode cL_law 459 = .ok (.goto 851, 3) := zo_167 (a := 3) (b := 83) (zby_w zwL_law_14 11 rfl) (zby_w zwL_law_14 12 rfl) (zby_w zwL_law_14 13 rfl) (by decide)
theorem d_L_law_462 : decode cL_law 462 = .ok (.aload_n 1, 1) := zo_43 (zby_w zwL_law_14 14 rfl)
theorem d_L_law_463 : decode cL_law 463 = .ok (.invokevirtual 57, 3) := zo_182 (a := 0) (b := 57) (zby_w zwL_law_14 15 rfl) (zby_w zwL_law_14 16 rfl) (zby_w zwL_law_14 17 rfl) (by decide)
theorem d_L_law_466 : decode cL_law 466 = .ok (.pop, 1) := zo_87 (zby_w zwL_law_14 18 rfl)
theorem d_L_law_467 : decode cL_law 467 = .ok (.aload_n 2, 1) := zo_44 (zby_w zwL_law_14 19 rfl)
theorem d_L_law_468 : decode cL_law 468 = .ok (.invokevirtual 60, 3) := zo_182 (a := 0) (b := 60) (zby_w zwL_law_14 20 rfl) (zby_w zwL_law_14 21 rfl) (zby_w zwL_law_14 22 rfl) (by decide)
theorem d_L_law_471 : decode cL_law 471 = .ok (.pop, 1) := zo_87 (zby_w zwL_law_14 23 rfl)
theorem d_L_law_472 : decode cL_law 472 = .ok (.goto 838, 3) := zo_167 (a := 3) (b := 70) (zby_w zwL_law_14 24 rfl) (zby_w zwL_law_14 25 rfl) (zby_w zwL_law_14 26 rfl) (by decide)
theorem d_L_law_475 : decode cL_law 475 = .ok (.aload_n 1, 1) := zo_43 (zby_w zwL_law_14 27 rfl)
theorem d_L_law_476 : decode cL_law 476 = .ok (.aload_n 0, 1) := zo_42 (zby_w zwL_law_14 28 rfl)
theorem d_L_law_477 : decode cL_law 477 = .ok (.iload_n 3, 1) := zo_29 (zby_w zwL_law_14 29 rfl)
theorem d_L_law_478 : decode cL_law 478 = .ok (.iconst 1, 1) := zo_4 (zby_w zwL_law_14 30 rfl)
theorem d_L_law_479 : decode cL_law 479 = .ok (.iadd, 1) := zo_96 (zby_w zwL_law_14 31 rfl)
theorem d_L_law_480 : decode cL_law 480 = .ok (.iaload, 1) := zo_46 (zby_w zwL_law_15 0 rfl)
theorem d_L_law_481 : decode cL_law 481 = .ok (.invokevirtual 61, 3) := zo_182 (a := 0) (b := 61) (zby_w zwL_law_15 1 rfl) (zby_w zwL_law_15 2 rfl) (zby_w zwL_law_15 3 rfl) (by decide)
theorem d_L_law_484 : decode cL_law 484 = .ok (.aload_n 2, 1) := zo_44 (zby_w zwL_law_15 4 rfl)
theorem d_L_law_485 : decode cL_law 485 = .ok (.aload_n 0, 1) := zo_42 (zby_w zwL_law_15 5 rfl)
theorem d_L_law_486 : decode cL_law 486 = .ok (.iload_n 3, 1) := zo_29 (zby_w zwL_law_15 6 rfl)
theorem d_L_law_487 : decode cL_law 487 = .ok (.iconst 1, 1) := zo_4 (zby_w zwL_law_15 7 rfl)
theorem d_L_law_488 : decode cL_law 488 = .ok (.iadd, 1) := zo_96 (zby_w zwL_law_15 8 rfl)
theorem d_L_law_489 : decode cL_law 489 = .ok (.iaload, 1) := zo_46 (zby_w zwL_law_15 9 rfl)
theorem d_L_law_490 : decode cL_law 490 = .ok (.invokevirtual 64, 3) := zo_182 (a := 0) (b := 64) (zby_w zwL_law_15 10 rfl) (zby_w zwL_law_15 11 rfl) (zby_w zwL_law_15 12 rfl) (by decide)
theorem d_L_law_493 : decode cL_law 493 = .ok (.if_icmp .eq 817, 3) := zo_159 (a := 3) (b := 49) (zby_w zwL_law_15 13 rfl) (zby_w zwL_law_15 14 rfl) (zby_w zwL_law_15 15 rfl) (by decide)
theorem d_L_law_496 : decode cL_law 496 = .ok (.iconst 0, 1) := zo_3 (zby_w zwL_law_15 16 rfl)
theorem d_L_law_497 : decode cL_law 497 = .ok (.ireturn, 1) := zo_172 (zby_w zwL_law_15 17 rfl)
theorem d_L_law_498 : decode cL_law 498 = .ok (.aload_n 1, 1) := zo_43 (zby_w zwL_law_15 18 rfl)
theorem d_L_law_499 : decode cL_law 499 = .ok (.aload_n 0, 1) := zo_42 (zby_w zwL_law_15 19 rfl)
theorem d_L_law_500 : decode cL_law 500 = .ok (.iload_n 3, 1) := zo_29 (zby_w zwL_law_15 20 rfl)
theorem d_L_law_501 : decode cL_law 501 = .ok (.iconst 1, 1) := zo_4 (zby_w zwL_law_15 21 rfl)
theorem d_L_law_502 : decode cL_law 502 = .ok (.iadd, 1) := zo_96 (zby_w zwL_law_15 22 rfl)
theorem d_L_law_503 : decode cL_law 503 = .ok (.iaload, 1) := zo_46 (zby_w zwL_law_15 23 rfl)
theorem d_L_law_504 : decode cL_law 504 = .ok (.aload_n 0, 1) := zo_42 (zby_w zwL_law_15 24 rfl)
theorem d_L_law_505 : decode cL_law 505 = .ok (.iload_n 3, 1) := zo_29 (zby_w zwL_law_15 25 rfl)
theorem d_L_law_506 : decode cL_law 506 = .ok (.iconst 2, 1) := zo_5 (zby_w zwL_law_15 26 rfl)
theorem d_L_law_507 : decode cL_law 507 = .ok (.iadd, 1) := zo_96 (zby_w zwL_law_15 27 rfl)
theorem d_L_law_508 : decode cL_law 508 = .ok (.iaload, 1) := zo_46 (zby_w zwL_law_15 28 rfl)
theorem d_L_law_509 : decode cL_law 509 = .ok (.aload_n 0, 1) := zo_42 (zby_w zwL_law_15 29 rfl)
theorem d_L_law_510 : decode cL_law 510 = .ok (.iload_n 3, 1) := zo_29 (zby_w zwL_law_15 30 rfl)
theorem d_L_law_511 : decode cL_law 511 = .ok (.iconst 3, 1) := zo_6 (zby_w zwL_law_15 31 rfl)
theorem d_L_law_512 : decode cL_law 512 = .ok (.iadd, 1) := zo_96 (zby_w zwL_law_16 0 rfl)
theorem d_L_law_513 : decode cL_law 513 = .ok (.iaload, 1) := zo_46 (zby_w zwL_law_16 1 rfl)
theorem d_L_law_514 : decode cL_law 514 = .ok (.invokevirtual 65, 3) := zo_182 (a := 0) (b := 65) (zby_w zwL_law_16 2 rfl) (zby_w zwL_law_16 3 rfl) (zby_w zwL_law_16 4 rfl) (by decide)
theorem d_L_law_517 : decode cL_law 517 = .ok (.pop, 1) := zo_87 (zby_w zwL_law_16 5 rfl)
theorem d_L_law_518 : decode cL_law 518 = .ok (.aload_n 2, 1) := zo_44 (zby_w zwL_law_16 6 rfl)
theorem d_L_law_519 : decode cL_law 519 = .ok (.aload_n 0, 1) := zo_42 (zby_w zwL_law_16 7 rfl)
theorem d_L_law_520 : decode cL_law 520 = .ok (.iload_n 3, 1) := zo_29 (zby_w zwL_law_16 8 rfl)
theorem d_L_law_521 : decode cL_law 521 = .ok (.iconst 1, 1) := zo_4 (zby_w zwL_law_16 9 rfl)
theorem d_L_law_522 : decode cL_law 522 = .ok (.iadd, 1) := zo_96 (zby_w zwL_law_16 10 rfl)
theorem d_L_law_523 : decode cL_law 523 = .ok (.iaload, 1) := zo_46 (zby_w zwL_law_16 11 rfl)
theorem d_L_law_524 : decode cL_law 524 = .ok (.aload_n 0, 1) := zo_42 (zby_w zwL_law_16 12 rfl)
theorem d_L_law_525 : decode cL_law 525 = .ok (.iload_n 3, 1) := zo_29 (zby_w zwL_law_16 13 rfl)
theorem d_L_law_526 : decode cL_law 526 = .ok (.iconst 2, 1) := zo_5 (zby_w zwL_law_16 14 rfl)
theorem d_L_law_527 : decode cL_law 527 = .ok (.iadd, 1) := zo_96 (zby_w zwL_law_16 15 rfl)
theorem d_L_law_528 : decode cL_law 528 = .ok (.iaload, 1) := zo_46 (zby_w zwL_law_16 16 rfl)
theorem d_L_law_529 : decode cL_law 529 = .ok (.aload_n 0, 1) := zo_42 (zby_w zwL_law_16 17 rfl)
theorem d_L_law_530 : decode cL_law 530 = .ok (.iload_n 3, 1) := zo_29 (zby_w zwL_law_16 18 rfl)
theorem d_L_law_531 : decode cL_law 531 = .ok (.iconst 3, 1) := zo_6 (zby_w zwL_law_16 19 rfl)
theorem d_L_law_532 : decode cL_law 532 = .ok (.iadd, 1) := zo_96 (zby_w zwL_law_16 20 rfl)
theorem d_L_law_533 : decode cL_law 533 = .ok (.iaload, 1) := zo_46 (zby_w zwL_law_16 21 rfl)
theorem d_L_law_534 : decode cL_law 534 = .ok (.invokevirtual 69, 3) := zo_182 (a := 0) (b := 69) (zby_w zwL_law_16 22 rfl) (zby_w zwL_law_16 23 rfl) (zby_w zwL_law_16 24 rfl) (by decide)
theorem d_L_law_537 : decode cL_law 537 = .ok (.pop, 1) := zo_87 (zby_w zwL_law_16 25 rfl)
theorem d_L_law_538 : decode cL_law 538 = .ok (.goto 772, 3) := zo_167 (a := 3) (b := 4) (zby_w zwL_law_16 26 rfl) (zby_w zwL_law_16 27 rfl) (zby_w zwL_law_16 28 rfl) (by decide)
theorem d_L_law_541 : decode cL_law 541 = .ok (.aload_n 1, 1) := zo_43 (zby_w zwL_law_16 29 rfl)
theorem d_L_law_542 : decode cL_law 542 = .ok (.aload_n 0, 1) := zo_42 (zby_w zwL_law_16 30 rfl)
theorem d_L_law_543 : decode cL_law 543 = .ok (.iload_n 3, 1) := zo_29 (zby_w zwL_law_16 31 rfl)
theorem d_L_law_544 : decode cL_law 544 = .ok (.iconst 1, 1) := zo_4 (zby_w zwL_law_17 0 rfl)
theorem d_L_law_545 : decode cL_law 545 = .ok (.iadd, 1) := zo_96 (zby_w zwL_law_17 1 rfl)
theorem d_L_law_546 : decode cL_law 546 = .ok (.iaload, 1) := zo_46 (zby_w zwL_law_17 2 rfl)
theorem d_L_law_547 : decode cL_law 547 = .ok (.aload_n 0, 1) := zo_42 (zby_w zwL_law_17 3 rfl)
theorem d_L_law_548 : decode cL_law 548 = .ok (.iload_n 3, 1) := zo_29 (zby_w zwL_law_17 4 rfl)
theorem d_L_law_549 : decode cL_law 549 = .ok (.iconst 2, 1) := zo_5 (zby_w zwL_law_17 5 rfl)
theorem d_L_law_550 : decode cL_law 550 = .ok (.iadd, 1) := zo_96 (zby_w zwL_law_17 6 rfl)
theorem d_L_law_551 : decode cL_law 551 = .ok (.iaload, 1) := zo_46 (zby_w zwL_law_17 7 rfl)
theorem d_L_law_552 : decode cL_law 552 = .ok (.aload_n 0, 1) := zo_42 (zby_w zwL_law_17 8 rfl)
theorem d_L_law_553 : decode cL_law 553 = .ok (.iload_n 3, 1) := zo_29 (zby_w zwL_law_17 9 rfl)
theorem d_L_law_554 : decode cL_law 554 = .ok (.iconst 3, 1) := zo_6 (zby_w zwL_law_17 10 rfl)
theorem d_L_law_555 : decode cL_law 555 = .ok (.iadd, 1) := zo_96 (zby_w zwL_law_17 11 rfl)
theorem d_L_law_556 : decode cL_law 556 = .ok (.iaload, 1) := zo_46 (zby_w zwL_law_17 12 rfl)
theorem d_L_law_557 : decode cL_law 557 = .ok (.invokevirtual 70, 3) := zo_182 (a := 0) (b := 70) (zby_w zwL_law_17 13 rfl) (zby_w zwL_law_17 14 rfl) (zby_w zwL_law_17 15 rfl) (by decide)
theorem d_L_law_560 : decode cL_law 560 = .ok (.pop, 1) := zo_87 (zby_w zwL_law_17 16 rfl)
theorem d_L_law_561 : decode cL_law 561 = .ok (.aload_n 2, 1) := zo_44 (zby_w zwL_law_17 17 rfl)
theorem d_L_law_562 : decode cL_law 562 = .ok (.aload_n 0, 1) := zo_42 (zby_w zwL_law_17 18 rfl)
theorem d_L_law_563 : decode cL_law 563 = .ok (.iload_n 3, 1) := zo_29 (zby_w zwL_law_17 19 rfl)
theorem d_L_law_564 : decode cL_law 564 = .ok (.iconst 1, 1) := zo_4 (zby_w zwL_law_17 20 rfl)
theorem d_L_law_565 : decode cL_law 565 = .ok (.iadd, 1) := zo_96 (zby_w zwL_law_17 21 rfl)
theorem d_L_law_566 : decode cL_law 566 = .ok (.iaload, 1) := zo_46 (zby_w zwL_law_17 22 rfl)
theorem d_L_law_567 : decode cL_law 567 = .ok (.aload_n 0, 1) := zo_42 (zby_w zwL_law_17 23 rfl)
theorem d_L_law_568 : decode cL_law 568 = .ok (.iload_n 3, 1) := zo_29 (zby_w zwL_law_17 24 rfl)
theorem d_L_law_569 : decode cL_law 569 = .ok (.iconst 2, 1) := zo_5 (zby_w zwL_law_17 25 rfl)
theorem d_L_law_570 : decode cL_law 570 = .ok (.iadd, 1) := zo_96 (zby_w zwL_law_17 26 rfl)
theorem d_L_law_571 : decode cL_law 571 = .ok (.iaload, 1) := zo_46 (zby_w zwL_law_17 27 rfl)
theorem d_L_law_572 : decode cL_law 572 = .ok (.aload_n 0, 1) := zo_42 (zby_w zwL_law_17 28 rfl)
theorem d_L_law_573 : decode cL_law 573 = .ok (.iload_n 3, 1) := zo_29 (zby_w zwL_law_17 29 rfl)
theorem d_L_law_574 : decode cL_law 574 = .ok (.iconst 3, 1) := zo_6 (zby_w zwL_law_17 30 rfl)
theorem d_L_law_575 : decode cL_law 575 = .ok (.iadd, 1) := zo_96 (zby_w zwL_law_17 31 rfl)
theorem d_L_law_576 : decode cL_law 576 = .ok (.iaload, 1) := zo_46 (zby_w zwL_law_18 0 rfl)
theorem d_L_law_577 : decode cL_law 577 = .ok (.invokevirtual 73, 3) := zo_182 (a := 0) (b := 73) (zby_w zwL_law_18 1 rfl) (zby_w zwL_law_18 2 rfl) (zby_w zwL_law_18 3 rfl) (by decide)
theorem d_L_law_580 : decode cL_law 580 = .ok (.pop, 1) := zo_87 (zby_w zwL_law_18 4 rfl)
theorem d_L_law_581 : decode cL_law 581 = .ok (.goto 729, 3) := zo_167 (a := 2) (b := 217) (zby_w zwL_law_18 5 rfl) (zby_w zwL_law_18 6 rfl) (zby_w zwL_law_18 7 rfl) (by decide)
theorem d_L_law_584 : decode cL_law 584 = .ok (.aload_n 1, 1) := zo_43 (zby_w zwL_law_18 8 rfl)
theorem d_L_law_585 : decode cL_law 585 = .ok (.aload_n 0, 1) := zo_42 (zby_w zwL_law_18 9 rfl)
theorem d_L_law_586 : decode cL_law 586 = .ok (.iload_n 3, 1) := zo_29 (zby_w zwL_law_18 10 rfl)
theorem d_L_law_587 : decode cL_law 587 = .ok (.iconst 1, 1) := zo_4 (zby_w zwL_law_18 11 rfl)
theorem d_L_law_588 : decode cL_law 588 = .ok (.iadd, 1) := zo_96 (zby_w zwL_law_18 12 rfl)
theorem d_L_law_589 : decode cL_law 589 = .ok (.iaload, 1) := zo_46 (zby_w zwL_law_18 13 rfl)
theorem d_L_law_590 : decode cL_law 590 = .ok (.aload_n 0, 1) := zo_42 (zby_w zwL_law_18 14 rfl)
theorem d_L_law_591 : decode cL_law 591 = .ok (.iload_n 3, 1) := zo_29 (zby_w zwL_law_18 15 rfl)
theorem d_L_law_592 : decode cL_law 592 = .ok (.iconst 2, 1) := zo_5 (zby_w zwL_law_18 16 rfl)
theorem d_L_law_593 : decode cL_law 593 = .ok (.iadd, 1) := zo_96 (zby_w zwL_law_18 17 rfl)
theorem d_L_law_594 : decode cL_law 594 = .ok (.iaload, 1) := zo_46 (zby_w zwL_law_18 18 rfl)
theorem d_L_law_595 : decode cL_law 595 = .ok (.invokevirtual 74, 3) := zo_182 (a := 0) (b := 74) (zby_w zwL_law_18 19 rfl) (zby_w zwL_law_18 20 rfl) (zby_w zwL_law_18 21 rfl) (by decide)
theorem d_L_law_598 : decode cL_law 598 = .ok (.pop, 1) := zo_87 (zby_w zwL_law_18 22 rfl)
theorem d_L_law_599 : decode cL_law 599 = .ok (.aload_n 2, 1) := zo_44 (zby_w zwL_law_18 23 rfl)
theorem d_L_law_600 : decode cL_law 600 = .ok (.aload_n 0, 1) := zo_42 (zby_w zwL_law_18 24 rfl)
theorem d_L_law_601 : decode cL_law 601 = .ok (.iload_n 3, 1) := zo_29 (zby_w zwL_law_18 25 rfl)
theorem d_L_law_602 : decode cL_law 602 = .ok (.iconst 1, 1) := zo_4 (zby_w zwL_law_18 26 rfl)
theorem d_L_law_603 : decode cL_law 603 = .ok (.iadd, 1) := zo_96 (zby_w zwL_law_18 27 rfl)
theorem d_L_law_604 : decode cL_law 604 = .ok (.iaload, 1) := zo_46 (zby_w zwL_law_18 28 rfl)
theorem d_L_law_605 : decode cL_law 605 = .ok (.aload_n 0, 1) := zo_42 (zby_w zwL_law_18 29 rfl)
theorem d_L_law_606 : decode cL_law 606 = .ok (.iload_n 3, 1) := zo_29 (zby_w zwL_law_18 30 rfl)
theorem d_L_law_607 : decode cL_law 607 = .ok (.iconst 2, 1) := zo_5 (zby_w zwL_law_18 31 rfl)
theorem d_L_law_608 : decode cL_law 608 = .ok (.iadd, 1) := zo_96 (zby_w zwL_law_19 0 rfl)
theorem d_L_law_609 : decode cL_law 609 = .ok (.iaload, 1) := zo_46 (zby_w zwL_law_19 1 rfl)
theorem d_L_law_610 : decode cL_law 610 = .ok (.invokevirtual 77, 3) := zo_182 (a := 0) (b := 77) (zby_w zwL_law_19 2 rfl) (zby_w zwL_law_19 3 rfl) (zby_w zwL_law_19 4 rfl) (by decide)
theorem d_L_law_613 : decode cL_law 613 = .ok (.pop, 1) := zo_87 (zby_w zwL_law_19 5 rfl)
theorem d_L_law_614 : decode cL_law 614 = .ok (.goto 696, 3) := zo_167 (a := 2) (b := 184) (zby_w zwL_law_19 6 rfl) (zby_w zwL_law_19 7 rfl) (zby_w zwL_law_19 8 rfl) (by decide)
theorem d_L_law_617 : decode cL_law 617 = .ok (.aload_n 1, 1) := zo_43 (zby_w zwL_law_19 9 rfl)
theorem d_L_law_618 : decode cL_law 618 = .ok (.aload_n 0, 1) := zo_42 (zby_w zwL_law_19 10 rfl)
theorem d_L_law_619 : decode cL_law 619 = .ok (.iload_n 3, 1) := zo_29 (zby_w zwL_law_19 11 rfl)
theorem d_L_law_620 : decode cL_law 620 = .ok (.iconst 1, 1) := zo_4 (zby_w zwL_law_19 12 rfl)
theorem d_L_law_621 : decode cL_law 621 = .ok (.iadd, 1) := zo_96 (zby_w zwL_law_19 13 rfl)
theorem d_L_law_622 : decode cL_law 622 = .ok (.iaload, 1) := zo_46 (zby_w zwL_law_19 14 rfl)
theorem d_L_law_623 : decode cL_law 623 = .ok (.aload_n 0, 1) := zo_42 (zby_w zwL_law_19 15 rfl)
theorem d_L_law_624 : decode cL_law 624 = .ok (.iload_n 3, 1) := zo_29 (zby_w zwL_law_19 16 rfl)
theorem d_L_law_625 : decode cL_law 625 = .ok (.iconst 2, 1) := zo_5 (zby_w zwL_law_19 17 rfl)
theorem d_L_law_626 : decode cL_law 626 = .ok (.iadd, 1) := zo_96 (zby_w zwL_law_19 18 rfl)
theorem d_L_law_627 : decode cL_law 627 = .ok (.iaload, 1) := zo_46 (zby_w zwL_law_19 19 rfl)
theorem d_L_law_628 : decode cL_law 628 = .ok (.aload_n 0, 1) := zo_42 (zby_w zwL_law_19 20 rfl)
theorem d_L_law_629 : decode cL_law 629 = .ok (.iload_n 3, 1) := zo_29 (zby_w zwL_law_19 21 rfl)
theorem d_L_law_630 : decode cL_law 630 = .ok (.iconst 3, 1) := zo_6 (zby_w zwL_law_19 22 rfl)
theorem d_L_law_631 : decode cL_law 631 = .ok (.iadd, 1) := zo_96 (zby_w zwL_law_19 23 rfl)
theorem d_L_law_632 : decode cL_law 632 = .ok (.iaload, 1) := zo_46 (zby_w zwL_law_19 24 rfl)
theorem d_L_law_633 : decode cL_law 633 = .ok (.invokevirtual 78, 3) := zo_182 (a := 0) (b := 78) (zby_w zwL_law_19 25 rfl) (zby_w zwL_law_19 26 rfl) (zby_w zwL_law_19 27 rfl) (by decide)
theorem d_L_law_636 : decode cL_law 636 = .ok (.pop, 1) := zo_87 (zby_w zwL_law_19 28 rfl)
theorem d_L_law_637 : decode cL_law 637 = .ok (.aload_n 2, 1) := zo_44 (zby_w zwL_law_19 29 rfl)
theorem d_L_law_638 : decode cL_law 638 = .ok (.aload_n 0, 1) := zo_42 (zby_w zwL_law_19 30 rfl)
theorem d_L_law_639 : decode cL_law 639 = .ok (.iload_n 3, 1) := zo_29 (zby_w zwL_law_19 31 rfl)
theorem d_L_law_640 : decode cL_law 640 = .ok (.iconst 1, 1) := zo_4 (zby_w zwL_law_20 0 rfl)
theorem d_L_law_641 : decode cL_law 641 = .ok (.iadd, 1) := zo_96 (zby_w zwL_law_20 1 rfl)
theorem d_L_law_642 : decode cL_law 642 = .ok (.iaload, 1) := zo_46 (zby_w zwL_law_20 2 rfl)
theorem d_L_law_643 : decode cL_law 643 = .ok (.aload_n 0, 1) := zo_42 (zby_w zwL_law_20 3 rfl)
theorem d_L_law_644 : decode cL_law 644 = .ok (.iload_n 3, 1) := zo_29 (zby_w zwL_law_20 4 rfl)
theorem d_L_law_645 : decode cL_law 645 = .ok (.iconst 2, 1) := zo_5 (zby_w zwL_law_20 5 rfl)
theorem d_L_law_646 : decode cL_law 646 = .ok (.iadd, 1) := zo_96 (zby_w zwL_law_20 6 rfl)
theorem d_L_law_647 : decode cL_law 647 = .ok (.iaload, 1) := zo_46 (zby_w zwL_law_20 7 rfl)
theorem d_L_law_648 : decode cL_law 648 = .ok (.aload_n 0, 1) := zo_42 (zby_w zwL_law_20 8 rfl)
theorem d_L_law_649 : decode cL_law 649 = .ok (.iload_n 3, 1) := zo_29 (zby_w zwL_law_20 9 rfl)
theorem d_L_law_650 : decode cL_law 650 = .ok (.iconst 3, 1) := zo_6 (zby_w zwL_law_20 10 rfl)
theorem d_L_law_651 : decode cL_law 651 = .ok (.iadd, 1) := zo_96 (zby_w zwL_law_20 11 rfl)
theorem d_L_law_652 : decode cL_law 652 = .ok (.iaload, 1) := zo_46 (zby_w zwL_law_20 12 rfl)
theorem d_L_law_653 : decode cL_law 653 = .ok (.invokevirtual 81, 3) := zo_182 (a := 0) (b := 81) (zby_w zwL_law_20 13 rfl) (zby_w zwL_law_20 14 rfl) (zby_w zwL_law_20 15 rfl) (by decide)
theorem d_L_law_656 : decode cL_law 656 = .ok (.pop, 1) := zo_87 (zby_w zwL_law_20 16 rfl)
theorem d_L_law_657 : decode cL_law 657 = .ok (.goto 653, 3) := zo_167 (a := 2) (b := 141) (zby_w zwL_law_20 17 rfl) (zby_w zwL_law_20 18 rfl) (zby_w zwL_law_20 19 rfl) (by decide)
theorem d_L_law_660 : decode cL_law 660 = .ok (.aload_n 1, 1) := zo_43 (zby_w zwL_law_20 20 rfl)
theorem d_L_law_661 : decode cL_law 661 = .ok (.aload_n 0, 1) := zo_42 (zby_w zwL_law_20 21 rfl)
theorem d_L_law_662 : decode cL_law 662 = .ok (.iload_n 3, 1) := zo_29 (zby_w zwL_law_20 22 rfl)
theorem d_L_law_663 : decode cL_law 663 = .ok (.iconst 1, 1) := zo_4 (zby_w zwL_law_20 23 rfl)
theorem d_L_law_664 : decode cL_law 664 = .ok (.iadd, 1) := zo_96 (zby_w zwL_law_20 24 rfl)
theorem d_L_law_665 : decode cL_law 665 = .ok (.iaload, 1) := zo_46 (zby_w zwL_law_20 25 rfl)
theorem d_L_law_666 : decode cL_law 666 = .ok (.aload_n 0, 1) := zo_42 (zby_w zwL_law_20 26 rfl)
theorem d_L_law_667 : decode cL_law 667 = .ok (.iload_n 3, 1) := zo_29 (zby_w zwL_law_20 27 rfl)
theorem d_L_law_668 : decode cL_law 668 = .ok (.iconst 2, 1) := zo_5 (zby_w zwL_law_20 28 rfl)
theorem d_L_law_669 : decode cL_law 669 = .ok (.iadd, 1) := zo_96 (zby_w zwL_law_20 29 rfl)
theorem d_L_law_670 : decode cL_law 670 = .ok (.iaload, 1) := zo_46 (zby_w zwL_law_20 30 rfl)
theorem d_L_law_671 : decode cL_law 671 = .ok (.aload_n 0, 1) := zo_42 (zby_w zwL_law_20 31 rfl)
theorem d_L_law_672 : decode cL_law 672 = .ok (.iload_n 3, 1) := zo_29 (zby_w zwL_law_21 0 rfl)
theorem d_L_law_673 : decode cL_law 673 = .ok (.iconst 3, 1) := zo_6 (zby_w zwL_law_21 1 rfl)
theorem d_L_law_674 : decode cL_law 674 = .ok (.iadd, 1) := zo_96 (zby_w zwL_law_21 2 rfl)
theorem d_L_law_675 : decode cL_law 675 = .ok (.iaload, 1) := zo_46 (zby_w zwL_law_21 3 rfl)
theorem d_L_law_676 : decode cL_law 676 = .ok (.invokevirtual 82, 3) := zo_182 (a := 0) (b := 82) (zby_w zwL_law_21 4 rfl) (zby_w zwL_law_21 5 rfl) (zby_w zwL_law_21 6 rfl) (by decide)
theorem d_L_law_679 : decode cL_law 679 = .ok (.pop, 1) := zo_87 (zby_w zwL_law_21 7 rfl)
theorem d_L_law_680 : decode cL_law 680 = .ok (.aload_n 2, 1) := zo_44 (zby_w zwL_law_21 8 rfl)
theorem d_L_law_681 : decode cL_law 681 = .ok (.aload_n 0, 1) := zo_42 (zby_w zwL_law_21 9 rfl)
theorem d_L_law_682 : decode cL_law 682 = .ok (.iload_n 3, 1) := zo_29 (zby_w zwL_law_21 10 rfl)
theorem d_L_law_683 : decode cL_law 683 = .ok (.iconst 1, 1) := zo_4 (zby_w zwL_law_21 11 rfl)
theorem d_L_law_684 : decode cL_law 684 = .ok (.iadd, 1) := zo_96 (zby_w zwL_law_21 12 rfl)
theorem d_L_law_685 : decode cL_law 685 = .ok (.iaload, 1) := zo_46 (zby_w zwL_law_21 13 rfl)
theorem d_L_law_686 : decode cL_law 686 = .ok (.aload_n 0, 1) := zo_42 (zby_w zwL_law_21 14 rfl)
theorem d_L_law_687 : decode cL_law 687 = .ok (.iload_n 3, 1) := zo_29 (zby_w zwL_law_21 15 rfl)
theorem d_L_law_688 : decode cL_law 688 = .ok (.iconst 2, 1) := zo_5 (zby_w zwL_law_21 16 rfl)
theorem d_L_law_689 : decode cL_law 689 = .ok (.iadd, 1) := zo_96 (zby_w zwL_law_21 17 rfl)
theorem d_L_law_690 : decode cL_law 690 = .ok (.iaload, 1) := zo_46 (zby_w zwL_law_21 18 rfl)
theorem d_L_law_691 : decode cL_law 691 = .ok (.aload_n 0, 1) := zo_42 (zby_w zwL_law_21 19 rfl)
theorem d_L_law_692 : decode cL_law 692 = .ok (.iload_n 3, 1) := zo_29 (zby_w zwL_law_21 20 rfl)
theorem d_L_law_693 : decode cL_law 693 = .ok (.iconst 3, 1) := zo_6 (zby_w zwL_law_21 21 rfl)
theorem d_L_law_694 : decode cL_law 694 = .ok (.iadd, 1) := zo_96 (zby_w zwL_law_21 22 rfl)
theorem d_L_law_695 : decode cL_law 695 = .ok (.iaload, 1) := zo_46 (zby_w zwL_law_21 23 rfl)
theorem d_L_law_696 : decode cL_law 696 = .ok (.invokevirtual 85, 3) := zo_182 (a := 0) (b := 85) (zby_w zwL_law_21 24 rfl) (zby_w zwL_law_21 25 rfl) (zby_w zwL_law_21 26 rfl) (by decide)
theorem d_L_law_699 : decode cL_law 699 = .ok (.pop, 1) := zo_87 (zby_w zwL_law_21 27 rfl)
theorem d_L_law_700 : decode cL_law 700 = .ok (.goto 610, 3) := zo_167 (a := 2) (b := 98) (zby_w zwL_law_21 28 rfl) (zby_w zwL_law_21 29 rfl) (zby_w zwL_law_21 30 rfl) (by decide)
theorem d_L_law_703 : decode cL_law 703 = .ok (.aload_n 1, 1) := zo_43 (zby_w zwL_law_21 31 rfl)
theorem d_L_law_704 : decode cL_law 704 = .ok (.aload_n 0, 1) := zo_42 (zby_w zwL_law_22 0 rfl)
theorem d_L_law_705 : decode cL_law 705 = .ok (.iload_n 3, 1) := zo_29 (zby_w zwL_law_22 1 rfl)
theorem d_L_law_706 : decode cL_law 706 = .ok (.iconst 1, 1) := zo_4 (zby_w zwL_law_22 2 rfl)
theorem d_L_law_707 : decode cL_law 707 = .ok (.iadd, 1) := zo_96 (zby_w zwL_law_22 3 rfl)
theorem d_L_law_708 : decode cL_law 708 = .ok (.iaload, 1) := zo_46 (zby_w zwL_law_22 4 rfl)
theorem d_L_law_709 : decode cL_law 709 = .ok (.aload_n 0, 1) := zo_42 (zby_w zwL_law_22 5 rfl)
theorem d_L_law_710 : decode cL_law 710 = .ok (.iload_n 3, 1) := zo_29 (zby_w zwL_law_22 6 rfl)
theorem d_L_law_711 : decode cL_law 711 = .ok (.iconst 2, 1) := zo_5 (zby_w zwL_law_22 7 rfl)
theorem d_L_law_712 : decode cL_law 712 = .ok (.iadd, 1) := zo_96 (zby_w zwL_law_22 8 rfl)
theorem d_L_law_713 : decode cL_law 713 = .ok (.iaload, 1) := zo_46 (zby_w zwL_law_22 9 rfl)
theorem d_L_law_714 : decode cL_law 714 = .ok (.aload_n 0, 1) := zo_42 (zby_w zwL_law_22 10 rfl)
theorem d_L_law_715 : decode cL_law 715 = .ok (.iload_n 3, 1) := zo_29 (zby_w zwL_law_22 11 rfl)
theorem d_L_law_716 : decode cL_law 716 = .ok (.iconst 3, 1) := zo_6 (zby_w zwL_law_22 12 rfl)
theorem d_L_law_717 : decode cL_law 717 = .ok (.iadd, 1) := zo_96 (zby_w zwL_law_22 13 rfl)
theorem d_L_law_718 : decode cL_law 718 = .ok (.iaload, 1) := zo_46 (zby_w zwL_law_22 14 rfl)
theorem d_L_law_719 : decode cL_law 719 = .ok (.invokevirtual 86, 3) := zo_182 (a := 0) (b := 86) (zby_w zwL_law_22 15 rfl) (zby_w zwL_law_22 16 rfl) (zby_w zwL_law_22 17 rfl) (by decide)
theorem d_L_law_722 : decode cL_law 722 = .ok (.pop, 1) := zo_87 (zby_w zwL_law_22 18 rfl)
theorem d_L_law_723 : decode cL_law 723 = .ok (.aload_n 2, 1) := zo_44 (zby_w zwL_law_22 19 rfl)
theorem d_L_law_724 : decode cL_law 724 = .ok (.aload_n 0, 1) := zo_42 (zby_w zwL_law_22 20 rfl)
theorem d_L_law_725 : decode cL_law 725 = .ok (.iload_n 3, 1) := zo_29 (zby_w zwL_law_22 21 rfl)
theorem d_L_law_726 : decode cL_law 726 = .ok (.iconst 1, 1) := zo_4 (zby_w zwL_law_22 22 rfl)
theorem d_L_law_727 : decode cL_law 727 = .ok (.iadd, 1) := zo_96 (zby_w zwL_law_22 23 rfl)
theorem d_L_law_728 : decode cL_law 728 = .ok (.iaload, 1) := zo_46 (zby_w zwL_law_22 24 rfl)
theorem d_L_law_729 : decode cL_law 729 = .ok (.aload_n 0, 1) := zo_42 (zby_w zwL_law_22 25 rfl)
theorem d_L_law_730 : decode cL_law 730 = .ok (.iload_n 3, 1) := zo_29 (zby_w zwL_law_22 26 rfl)
theorem d_L_law_731 : decode cL_law 731 = .ok (.iconst 2, 1) := zo_5 (zby_w zwL_law_22 27 rfl)
theorem d_L_law_732 : decode cL_law 732 = .ok (.iadd, 1) := zo_96 (zby_w zwL_law_22 28 rfl)
theorem d_L_law_733 : decode cL_law 733 = .ok (.iaload, 1) := zo_46 (zby_w zwL_law_22 29 rfl)
theorem d_L_law_734 : decode cL_law 734 = .ok (.aload_n 0, 1) := zo_42 (zby_w zwL_law_22 30 rfl)
theorem d_L_law_735 : decode cL_law 735 = .ok (.iload_n 3, 1) := zo_29 (zby_w zwL_law_22 31 rfl)
theorem d_L_law_736 : decode cL_law 736 = .ok (.iconst 3, 1) := zo_6 (zby_w zwL_law_23 0 rfl)
theorem d_L_law_737 : decode cL_law 737 = .ok (.iadd, 1) := zo_96 (zby_w zwL_law_23 1 rfl)
theorem d_L_law_738 : decode cL_law 738 = .ok (.iaload, 1) := zo_46 (zby_w zwL_law_23 2 rfl)
theorem d_L_law_739 : decode cL_law 739 = .ok (.invokevirtual 89, 3) := zo_182 (a := 0) (b := 89) (zby_w zwL_law_23 3 rfl) (zby_w zwL_law_23 4 rfl) (zby_w zwL_law_23 5 rfl) (by decide)
theorem d_L_law_742 : decode cL_law 742 = .ok (.pop, 1) := zo_87 (zby_w zwL_law_23 6 rfl)
theorem d_L_law_743 : decode cL_law 743 = .ok (.goto 567, 3) := zo_167 (a := 2) (b := 55) (zby_w zwL_law_23 7 rfl) (zby_w zwL_law_23 8 rfl) (zby_w zwL_law_23 9 rfl) (by decide)
theorem d_L_law_746 : decode cL_law 746 = .ok (.aload_n 1, 1) := zo_43 (zby_w zwL_law_23 10 rfl)
theorem d_L_law_747 : decode cL_law 747 = .ok (.aload_n 0, 1) := zo_42 (zby_w zwL_law_23 11 rfl)
theorem d_L_law_748 : decode cL_law 748 = .ok (.iload_n 3, 1) := zo_29 (zby_w zwL_law_23 12 rfl)
theorem d_L_law_749 : decode cL_law 749 = .ok (.iconst 1, 1) := zo_4 (zby_w zwL_law_23 13 rfl)
theorem d_L_law_750 : decode cL_law 750 = .ok (.iadd, 1) := zo_96 (zby_w zwL_law_23 14 rfl)
theorem d_L_law_751 : decode cL_law 751 = .ok (.iaload, 1) := zo_46 (zby_w zwL_law_23 15 rfl)
theorem d_L_law_752 : decode cL_law 752 = .ok (.aload_n 0, 1) := zo_42 (zby_w zwL_law_23 16 rfl)
theorem d_L_law_753 : decode cL_law 753 = .ok (.iload_n 3, 1) := zo_29 (zby_w zwL_law_23 17 rfl)
theorem d_L_law_754 : decode cL_law 754 = .ok (.iconst 2, 1) := zo_5 (zby_w zwL_law_23 18 rfl)
theorem d_L_law_755 : decode cL_law 755 = .ok (.iadd, 1) := zo_96 (zby_w zwL_law_23 19 rfl)
theorem d_L_law_756 : decode cL_law 756 = .ok (.iaload, 1) := zo_46 (zby_w zwL_law_23 20 rfl)
theorem d_L_law_757 : decode cL_law 757 = .ok (.invokevirtual 90, 3) := zo_182 (a := 0) (b := 90) (zby_w zwL_law_23 21 rfl) (zby_w zwL_law_23 22 rfl) (zby_w zwL_law_23 23 rfl) (by decide)
theorem d_L_law_760 : decode cL_law 760 = .ok (.pop, 1) := zo_87 (zby_w zwL_law_23 24 rfl)
theorem d_L_law_761 : decode cL_law 761 = .ok (.aload_n 2, 1) := zo_44 (zby_w zwL_law_23 25 rfl)
theorem d_L_law_762 : decode cL_law 762 = .ok (.aload_n 0, 1) := zo_42 (zby_w zwL_law_23 26 rfl)
theorem d_L_law_763 : decode cL_law 763 = .ok (.iload_n 3, 1) := zo_29 (zby_w zwL_law_23 27 rfl)
theorem d_L_law_764 : decode cL_law 764 = .ok (.iconst 1, 1) := zo_4 (zby_w zwL_law_23 28 rfl)
theorem d_L_law_765 : decode cL_law 765 = .ok (.iadd, 1) := zo_96 (zby_w zwL_law_23 29 rfl)
theorem d_L_law_766 : decode cL_law 766 = .ok (.iaload, 1) := zo_46 (zby_w zwL_law_23 30 rfl)
theorem d_L_law_767 : decode cL_law 767 = .ok (.aload_n 0, 1) := zo_42 (zby_w zwL_law_23 31 rfl)
theorem d_L_law_768 : decode cL_law 768 = .ok (.iload_n 3, 1) := zo_29 (zby_w zwL_law_24 0 rfl)
theorem d_L_law_769 : decode cL_law 769 = .ok (.iconst 2, 1) := zo_5 (zby_w zwL_law_24 1 rfl)
theorem d_L_law_770 : decode cL_law 770 = .ok (.iadd, 1) := zo_96 (zby_w zwL_law_24 2 rfl)
theorem d_L_law_771 : decode cL_law 771 = .ok (.iaload, 1) := zo_46 (zby_w zwL_law_24 3 rfl)
theorem d_L_law_772 : decode cL_law 772 = .ok (.invokevirtual 93, 3) := zo_182 (a := 0) (b := 93) (zby_w zwL_law_24 4 rfl) (zby_w zwL_law_24 5 rfl) (zby_w zwL_law_24 6 rfl) (by decide)
theorem d_L_law_775 : decode cL_law 775 = .ok (.pop, 1) := zo_87 (zby_w zwL_law_24 7 rfl)
theorem d_L_law_776 : decode cL_law 776 = .ok (.goto 534, 3) := zo_167 (a := 2) (b := 22) (zby_w zwL_law_24 8 rfl) (zby_w zwL_law_24 9 rfl) (zby_w zwL_law_24 10 rfl) (by decide)
theorem d_L_law_779 : decode cL_law 779 = .ok (.aload_n 1, 1) := zo_43 (zby_w zwL_law_24 11 rfl)
theorem d_L_law_780 : decode cL_law 780 = .ok (.aload_n 0, 1) := zo_42 (zby_w zwL_law_24 12 rfl)
theorem d_L_law_781 : decode cL_law 781 = .ok (.iload_n 3, 1) := zo_29 (zby_w zwL_law_24 13 rfl)
theorem d_L_law_782 : decode cL_law 782 = .ok (.iconst 1, 1) := zo_4 (zby_w zwL_law_24 14 rfl)
theorem d_L_law_783 : decode cL_law 783 = .ok (.iadd, 1) := zo_96 (zby_w zwL_law_24 15 rfl)
theorem d_L_law_784 : decode cL_law 784 = .ok (.iaload, 1) := zo_46 (zby_w zwL_law_24 16 rfl)
theorem d_L_law_785 : decode cL_law 785 = .ok (.aload_n 0, 1) := zo_42 (zby_w zwL_law_24 17 rfl)
theorem d_L_law_786 : decode cL_law 786 = .ok (.iload_n 3, 1) := zo_29 (zby_w zwL_law_24 18 rfl)
theorem d_L_law_787 : decode cL_law 787 = .ok (.iconst 2, 1) := zo_5 (zby_w zwL_law_24 19 rfl)
theorem d_L_law_788 : decode cL_law 788 = .ok (.iadd, 1) := zo_96 (zby_w zwL_law_24 20 rfl)
theorem d_L_law_789 : decode cL_law 789 = .ok (.iaload, 1) := zo_46 (zby_w zwL_law_24 21 rfl)
theorem d_L_law_790 : decode cL_law 790 = .ok (.invokevirtual 94, 3) := zo_182 (a := 0) (b := 94) (zby_w zwL_law_24 22 rfl) (zby_w zwL_law_24 23 rfl) (zby_w zwL_law_24 24 rfl) (by decide)
theorem d_L_law_793 : decode cL_law 793 = .ok (.pop, 1) := zo_87 (zby_w zwL_law_24 25 rfl)
theorem d_L_law_794 : decode cL_law 794 = .ok (.aload_n 2, 1) := zo_44 (zby_w zwL_law_24 26 rfl)
theorem d_L_law_795 : decode cL_law 795 = .ok (.aload_n 0, 1) := zo_42 (zby_w zwL_law_24 27 rfl)
theorem d_L_law_796 : decode cL_law 796 = .ok (.iload_n 3, 1) := zo_29 (zby_w zwL_law_24 28 rfl)
theorem d_L_law_797 : decode cL_law 797 = .ok (.iconst 1, 1) := zo_4 (zby_w zwL_law_24 29 rfl)
theorem d_L_law_798 : decode cL_law 798 = .ok (.iadd, 1) := zo_96 (zby_w zwL_law_24 30 rfl)
theorem d_L_law_799 : decode cL_law 799 = .ok (.iaload, 1) := zo_46 (zby_w zwL_law_24 31 rfl)
theorem d_L_law_800 : decode cL_law 800 = .ok (.aload_n 0, 1) := zo_42 (zby_w zwL_law_25 0 rfl)
theorem d_L_law_801 : decode cL_law 801 = .ok (.iload_n 3, 1) := zo_29 (zby_w zwL_law_25 1 rfl)
theorem d_L_law_802 : decode cL_law 802 = .ok (.iconst 2, 1) := zo_5 (zby_w zwL_law_25 2 rfl)
theorem d_L_law_803 : decode cL_law 803 = .ok (.iadd, 1) := zo_96 (zby_w zwL_law_25 3 rfl)
theorem d_L_law_804 : decode cL_law 804 = .ok (.iaload, 1) := zo_46 (zby_w zwL_law_25 4 rfl)
theorem d_L_law_805 : decode cL_law 805 = .ok (.invokevirtual 97, 3) := zo_182 (a := 0) (b := 97) (zby_w zwL_law_25 5 rfl) (zby_w zwL_law_25 6 rfl) (zby_w zwL_law_25 7 rfl) (by decide)
theorem d_L_law_808 : decode cL_law 808 = .ok (.pop, 1) := zo_87 (zby_w zwL_law_25 8 rfl)
theorem d_L_law_809 : decode cL_law 809 = .ok (.goto 501, 3) := zo_167 (a := 1) (b := 245) (zby_w zwL_law_25 9 rfl) (zby_w zwL_law_25 10 rfl) (zby_w zwL_law_25 11 rfl) (by decide)
theorem d_L_law_812 : decode cL_law 812 = .ok (.aload_n 1, 1) := zo_43 (zby_w zwL_law_25 12 rfl)
theorem d_L_law_813 : decode cL_law 813 = .ok (.aload_n 0, 1) := zo_42 (zby_w zwL_law_25 13 rfl)
theorem d_L_law_814 : decode cL_law 814 = .ok (.iload_n 3, 1) := zo_29 (zby_w zwL_law_25 14 rfl)
theorem d_L_law_815 : decode cL_law 815 = .ok (.iconst 1, 1) := zo_4 (zby_w zwL_law_25 15 rfl)
theorem d_L_law_816 : decode cL_law 816 = .ok (.iadd, 1) := zo_96 (zby_w zwL_law_25 16 rfl)
theorem d_L_law_817 : decode cL_law 817 = .ok (.iaload, 1) := zo_46 (zby_w zwL_law_25 17 rfl)
theorem d_L_law_818 : decode cL_law 818 = .ok (.aload_n 0, 1) := zo_42 (zby_w zwL_law_25 18 rfl)
theorem d_L_law_819 : decode cL_law 819 = .ok (.iload_n 3, 1) := zo_29 (zby_w zwL_law_25 19 rfl)
theorem d_L_law_820 : decode cL_law 820 = .ok (.iconst 2, 1) := zo_5 (zby_w zwL_law_25 20 rfl)
theorem d_L_law_821 : decode cL_law 821 = .ok (.iadd, 1) := zo_96 (zby_w zwL_law_25 21 rfl)
theorem d_L_law_822 : decode cL_law 822 = .ok (.iaload, 1) := zo_46 (zby_w zwL_law_25 22 rfl)
theorem d_L_law_823 : decode cL_law 823 = .ok (.invokevirtual 98, 3) := zo_182 (a := 0) (b := 98) (zby_w zwL_law_25 23 rfl) (zby_w zwL_law_25 24 rfl) (zby_w zwL_law_25 25 rfl) (by decide)
theorem d_L_law_826 : decode cL_law 826 = .ok (.pop, 1) := zo_87 (zby_w zwL_law_25 26 rfl)
theorem d_L_law_827 : decode cL_law 827 = .ok (.aload_n 2, 1) := zo_44 (zby_w zwL_law_25 27 rfl)
theorem d_L_law_828 : decode cL_law 828 = .ok (.aload_n 0, 1) := zo_42 (zby_w zwL_law_25 28 rfl)
theorem d_L_law_829 : decode cL_law 829 = .ok (.iload_n 3, 1) := zo_29 (zby_w zwL_law_25 29 rfl)
theorem d_L_law_830 : decode cL_law 830 = .ok (.iconst 1, 1) := zo_4 (zby_w zwL_law_25 30 rfl)
theorem d_L_law_831 : decode cL_law 831 = .ok (.iadd, 1) := zo_96 (zby_w zwL_law_25 31 rfl)
theorem d_L_law_832 : decode cL_law 832 = .ok (.iaload, 1) := zo_46 (zby_w zwL_law_26 0 rfl)
theorem d_L_law_833 : decode cL_law 833 = .ok (.aload_n 0, 1) := zo_42 (zby_w zwL_law_26 1 rfl)
theorem d_L_law_834 : decode cL_law 834 = .ok (.iload_n 3, 1) := zo_29 (zby_w zwL_law_26 2 rfl)
theorem d_L_law_835 : decode cL_law 835 = .ok (.iconst 2, 1) := zo_5 (zby_w zwL_law_26 3 rfl)
theorem d_L_law_836 : decode cL_law 836 = .ok (.iadd, 1) := zo_96 (zby_w zwL_law_26 4 rfl)
theorem d_L_law_837 : decode cL_law 837 = .ok (.iaload, 1) := zo_46 (zby_w zwL_law_26 5 rfl)
theorem d_L_law_838 : decode cL_law 838 = .ok (.invokevirtual 101, 3) := zo_182 (a := 0) (b := 101) (zby_w zwL_law_26 6 rfl) (zby_w zwL_law_26 7 rfl) (zby_w zwL_law_26 8 rfl) (by decide)
theorem d_L_law_841 : decode cL_law 841 = .ok (.pop, 1) := zo_87 (zby_w zwL_law_26 9 rfl)
theorem d_L_law_842 : decode cL_law 842 = .ok (.goto 468, 3) := zo_167 (a := 1) (b := 212) (zby_w zwL_law_26 10 rfl) (zby_w zwL_law_26 11 rfl) (zby_w zwL_law_26 12 rfl) (by decide)
theorem d_L_law_845 : decode cL_law 845 = .ok (.aload_n 1, 1) := zo_43 (zby_w zwL_law_26 13 rfl)
theorem d_L_law_846 : decode cL_law 846 = .ok (.aload_n 0, 1) := zo_42 (zby_w zwL_law_26 14 rfl)
theorem d_L_law_847 : decode cL_law 847 = .ok (.iload_n 3, 1) := zo_29 (zby_w zwL_law_26 15 rfl)
theorem d_L_law_848 : decode cL_law 848 = .ok (.iconst 1, 1) := zo_4 (zby_w zwL_law_26 16 rfl)
theorem d_L_law_849 : decode cL_law 849 = .ok (.iadd, 1) := zo_96 (zby_w zwL_law_26 17 rfl)
theorem d_L_law_850 : decode cL_law 850 = .ok (.iaload, 1) := zo_46 (zby_w zwL_law_26 18 rfl)
theorem d_L_law_851 : decode cL_law 851 = .ok (.aload_n 0, 1) := zo_42 (zby_w zwL_law_26 19 rfl)
theorem d_L_law_852 : decode cL_law 852 = .ok (.iload_n 3, 1) := zo_29 (zby_w zwL_law_26 20 rfl)
theorem d_L_law_853 : decode cL_law 853 = .ok (.iconst 2, 1) := zo_5 (zby_w zwL_law_26 21 rfl)
theorem d_L_law_854 : decode cL_law 854 = .ok (.iadd, 1) := zo_96 (zby_w zwL_law_26 22 rfl)
theorem d_L_law_855 : decode cL_law 855 = .ok (.iaload, 1) := zo_46 (zby_w zwL_law_26 23 rfl)
theorem d_L_law_856 : decode cL_law 856 = .ok (.aload_n 0, 1) := zo_42 (zby_w zwL_law_26 24 rfl)
theorem d_L_law_857 : decode cL_law 857 = .ok (.iload_n 3, 1) := zo_29 (zby_w zwL_law_26 25 rfl)
theorem d_L_law_858 : decode cL_law 858 = .ok (.iconst 3, 1) := zo_6 (zby_w zwL_law_26 26 rfl)
theorem d_L_law_859 : decode cL_law 859 = .ok (.iadd, 1) := zo_96 (zby_w zwL_law_26 27 rfl)
theorem d_L_law_860 : decode cL_law 860 = .ok (.iaload, 1) := zo_46 (zby_w zwL_law_26 28 rfl)
theorem d_L_law_861 : decode cL_law 861 = .ok (.invokevirtual 102, 3) := zo_182 (a := 0) (b := 102) (zby_w zwL_law_26 29 rfl) (zby_w zwL_law_26 30 rfl) (zby_w zwL_law_26 31 rfl) (by decide)
theorem d_L_law_864 : decode cL_law 864 = .ok (.pop, 1) := zo_87 (zby_w zwL_law_27 0 rfl)
theorem d_L_law_865 : decode cL_law 865 = .ok (.aload_n 2, 1) := zo_44 (zby_w zwL_law_27 1 rfl)
theorem d_L_law_866 : decode cL_law 866 = .ok (.aload_n 0, 1) := zo_42 (zby_w zwL_law_27 2 rfl)
theorem d_L_law_867 : decode cL_law 867 = .ok (.iload_n 3, 1) := zo_29 (zby_w zwL_law_27 3 rfl)
theorem d_L_law_868 : decode cL_law 868 = .ok (.iconst 1, 1) := zo_4 (zby_w zwL_law_27 4 rfl)
theorem d_L_law_869 : decode cL_law 869 = .ok (.iadd, 1) := zo_96 (zby_w zwL_law_27 5 rfl)
theorem d_L_law_870 : decode cL_law 870 = .ok (.iaload, 1) := zo_46 (zby_w zwL_law_27 6 rfl)
theorem d_L_law_871 : decode cL_law 871 = .ok (.aload_n 0, 1) := zo_42 (zby_w zwL_law_27 7 rfl)
theorem d_L_law_872 : decode cL_law 872 = .ok (.iload_n 3, 1) := zo_29 (zby_w zwL_law_27 8 rfl)
theorem d_L_law_873 : decode cL_law 873 = .ok (.iconst 2, 1) := zo_5 (zby_w zwL_law_27 9 rfl)
theorem d_L_law_874 : decode cL_law 874 = .ok (.iadd, 1) := zo_96 (zby_w zwL_law_27 10 rfl)
theorem d_L_law_875 : decode cL_law 875 = .ok (.iaload, 1) := zo_46 (zby_w zwL_law_27 11 rfl)
theorem d_L_law_876 : decode cL_law 876 = .ok (.aload_n 0, 1) := zo_42 (zby_w zwL_law_27 12 rfl)
theorem d_L_law_877 : decode cL_law 877 = .ok (.iload_n 3, 1) := zo_29 (zby_w zwL_law_27 13 rfl)
theorem d_L_law_878 : decode cL_law 878 = .ok (.iconst 3, 1) := zo_6 (zby_w zwL_law_27 14 rfl)
theorem d_L_law_879 : decode cL_law 879 = .ok (.iadd, 1) := zo_96 (zby_w zwL_law_27 15 rfl)
theorem d_L_law_880 : decode cL_law 880 = .ok (.iaload, 1) := zo_46 (zby_w zwL_law_27 16 rfl)
theorem d_L_law_881 : decode cL_law 881 = .ok (.invokevirtual 105, 3) := zo_182 (a := 0) (b := 105) (zby_w zwL_law_27 17 rfl) (zby_w zwL_law_27 18 rfl) (zby_w zwL_law_27 19 rfl) (by decide)
theorem d_L_law_884 : decode cL_law 884 = .ok (.pop, 1) := zo_87 (zby_w zwL_law_27 20 rfl)
theorem d_L_law_885 : decode cL_law 885 = .ok (.goto 425, 3) := zo_167 (a := 1) (b := 169) (zby_w zwL_law_27 21 rfl) (zby_w zwL_law_27 22 rfl) (zby_w zwL_law_27 23 rfl) (by decide)
theorem d_L_law_888 : decode cL_law 888 = .ok (.aload_n 1, 1) := zo_43 (zby_w zwL_law_27 24 rfl)
theorem d_L_law_889 : decode cL_law 889 = .ok (.invokevirtual 106, 3) := zo_182 (a := 0) (b := 106) (zby_w zwL_law_27 25 rfl) (zby_w zwL_law_27 26 rfl) (zby_w zwL_law_27 27 rfl) (by decide)
theorem d_L_law_892 : decode cL_law 892 = .ok (.pop, 1) := zo_87 (zby_w zwL_law_27 28 rfl)
theorem d_L_law_893 : decode cL_law 893 = .ok (.aload_n 2, 1) := zo_44 (zby_w zwL_law_27 29 rfl)
theorem d_L_law_894 : decode cL_law 894 = .ok (.invokevirtual 109, 3) := zo_182 (a := 0) (b := 109) (zby_w zwL_law_27 30 rfl) (zby_w zwL_law_27 31 rfl) (zby_w zwL_law_27 32 rfl) (by decide)
theorem d_L_law_897 : decode cL_law 897 = .ok (.pop, 1) := zo_87 (zby_w zwL_law_28 1 rfl)
theorem d_L_law_898 : decode cL_law 898 = .ok (.goto 412, 3) := zo_167 (a := 1) (b := 156) (zby_w zwL_law_28 2 rfl) (zby_w zwL_law_28 3 rfl) (zby_w zwL_law_28 4 rfl) (by decide)
theorem d_L_law_901 : decode cL_law 901 = .ok (.aload_n 1, 1) := zo_43 (zby_w zwL_law_28 5 rfl)
theorem d_L_law_902 : decode cL_law 902 = .ok (.aload_n 0, 1) := zo_42 (zby_w zwL_law_28 6 rfl)
theorem d_L_law_903 : decode cL_law 903 = .ok (.iload_n 3, 1) := zo_29 (zby_w zwL_law_28 7 rfl)
theorem d_L_law_904 : decode cL_law 904 = .ok (.iconst 1, 1) := zo_4 (zby_w zwL_law_28 8 rfl)
theorem d_L_law_905 : decode cL_law 905 = .ok (.iadd, 1) := zo_96 (zby_w zwL_law_28 9 rfl)
theorem d_L_law_906 : decode cL_law 906 = .ok (.iaload, 1) := zo_46 (zby_w zwL_law_28 10 rfl)
theorem d_L_law_907 : decode cL_law 907 = .ok (.aload_n 0, 1) := zo_42 (zby_w zwL_law_28 11 rfl)
theorem d_L_law_908 : decode cL_law 908 = .ok (.iload_n 3, 1) := zo_29 (zby_w zwL_law_28 12 rfl)
theorem d_L_law_909 : decode cL_law 909 = .ok (.iconst 2, 1) := zo_5 (zby_w zwL_law_28 13 rfl)
theorem d_L_law_910 : decode cL_law 910 = .ok (.iadd, 1) := zo_96 (zby_w zwL_law_28 14 rfl)
theorem d_L_law_911 : decode cL_law 911 = .ok (.iaload, 1) := zo_46 (zby_w zwL_law_28 15 rfl)
theorem d_L_law_912 : decode cL_law 912 = .ok (.aload_n 0, 1) := zo_42 (zby_w zwL_law_28 16 rfl)
theorem d_L_law_913 : decode cL_law 913 = .ok (.iload_n 3, 1) := zo_29 (zby_w zwL_law_28 17 rfl)
theorem d_L_law_914 : decode cL_law 914 = .ok (.iconst 3, 1) := zo_6 (zby_w zwL_law_28 18 rfl)
theorem d_L_law_915 : decode cL_law 915 = .ok (.iadd, 1) := zo_96 (zby_w zwL_law_28 19 rfl)
theorem d_L_law_916 : decode cL_law 916 = .ok (.iaload, 1) := zo_46 (zby_w zwL_law_28 20 rfl)
theorem d_L_law_917 : decode cL_law 917 = .ok (.invokevirtual 110, 3) := zo_182 (a := 0) (b := 110) (zby_w zwL_law_28 21 rfl) (zby_w zwL_law_28 22 rfl) (zby_w zwL_law_28 23 rfl) (by decide)
theorem d_L_law_920 : decode cL_law 920 = .ok (.pop, 1) := zo_87 (zby_w zwL_law_28 24 rfl)
theorem d_L_law_921 : decode cL_law 921 = .ok (.aload_n 2, 1) := zo_44 (zby_w zwL_law_28 25 rfl)
theorem d_L_law_922 : decode cL_law 922 = .ok (.aload_n 0, 1) := zo_42 (zby_w zwL_law_28 26 rfl)
theorem d_L_law_923 : decode cL_law 923 = .ok (.iload_n 3, 1) := zo_29 (zby_w zwL_law_28 27 rfl)
theorem d_L_law_924 : decode cL_law 924 = .ok (.iconst 1, 1) := zo_4 (zby_w zwL_law_28 28 rfl)
theorem d_L_law_925 : decode cL_law 925 = .ok (.iadd, 1) := zo_96 (zby_w zwL_law_28 29 rfl)
theorem d_L_law_926 : decode cL_law 926 = .ok (.iaload, 1) := zo_46 (zby_w zwL_law_28 30 rfl)
theorem d_L_law_927 : decode cL_law 927 = .ok (.aload_n 0, 1) := zo_42 (zby_w zwL_law_28 31 rfl)
theorem d_L_law_928 : decode cL_law 928 = .ok (.iload_n 3, 1) := zo_29 (zby_w zwL_law_29 0 rfl)
theorem d_L_law_929 : decode cL_law 929 = .ok (.iconst 2, 1) := zo_5 (zby_w zwL_law_29 1 rfl)
theorem d_L_law_930 : decode cL_law 930 = .ok (.iadd, 1) := zo_96 (zby_w zwL_law_29 2 rfl)
theorem d_L_law_931 : decode cL_law 931 = .ok (.iaload, 1) := zo_46 (zby_w zwL_law_29 3 rfl)
theorem d_L_law_932 : decode cL_law 932 = .ok (.aload_n 0, 1) := zo_42 (zby_w zwL_law_29 4 rfl)
theorem d_L_law_933 : decode cL_law 933 = .ok (.iload_n 3, 1) := zo_29 (zby_w zwL_law_29 5 rfl)
theorem d_L_law_934 : decode cL_law 934 = .ok (.iconst 3, 1) := zo_6 (zby_w zwL_law_29 6 rfl)
theorem d_L_law_935 : decode cL_law 935 = .ok (.iadd, 1) := zo_96 (zby_w zwL_law_29 7 rfl)
theorem d_L_law_936 : decode cL_law 936 = .ok (.iaload, 1) := zo_46 (zby_w zwL_law_29 8 rfl)
theorem d_L_law_937 : decode cL_law 937 = .ok (.invokevirtual 113, 3) := zo_182 (a := 0) (b := 113) (zby_w zwL_law_29 9 rfl) (zby_w zwL_law_29 10 rfl) (zby_w zwL_law_29 11 rfl) (by decide)
theorem d_L_law_940 : decode cL_law 940 = .ok (.pop, 1) := zo_87 (zby_w zwL_law_29 12 rfl)
theorem d_L_law_941 : decode cL_law 941 = .ok (.goto 369, 3) := zo_167 (a := 1) (b := 113) (zby_w zwL_law_29 13 rfl) (zby_w zwL_law_29 14 rfl) (zby_w zwL_law_29 15 rfl) (by decide)
theorem d_L_law_944 : decode cL_law 944 = .ok (.aload_n 1, 1) := zo_43 (zby_w zwL_law_29 16 rfl)
theorem d_L_law_945 : decode cL_law 945 = .ok (.aload_n 0, 1) := zo_42 (zby_w zwL_law_29 17 rfl)
theorem d_L_law_946 : decode cL_law 946 = .ok (.iload_n 3, 1) := zo_29 (zby_w zwL_law_29 18 rfl)
theorem d_L_law_947 : decode cL_law 947 = .ok (.iconst 1, 1) := zo_4 (zby_w zwL_law_29 19 rfl)
theorem d_L_law_948 : decode cL_law 948 = .ok (.iadd, 1) := zo_96 (zby_w zwL_law_29 20 rfl)
theorem d_L_law_949 : decode cL_law 949 = .ok (.iaload, 1) := zo_46 (zby_w zwL_law_29 21 rfl)
theorem d_L_law_950 : decode cL_law 950 = .ok (.aload_n 0, 1) := zo_42 (zby_w zwL_law_29 22 rfl)
theorem d_L_law_951 : decode cL_law 951 = .ok (.iload_n 3, 1) := zo_29 (zby_w zwL_law_29 23 rfl)
theorem d_L_law_952 : decode cL_law 952 = .ok (.iconst 2, 1) := zo_5 (zby_w zwL_law_29 24 rfl)
theorem d_L_law_953 : decode cL_law 953 = .ok (.iadd, 1) := zo_96 (zby_w zwL_law_29 25 rfl)
theorem d_L_law_954 : decode cL_law 954 = .ok (.iaload, 1) := zo_46 (zby_w zwL_law_29 26 rfl)
theorem d_L_law_955 : decode cL_law 955 = .ok (.invokevirtual 114, 3) := zo_182 (a := 0) (b := 114) (zby_w zwL_law_29 27 rfl) (zby_w zwL_law_29 28 rfl) (zby_w zwL_law_29 29 rfl) (by decide)
theorem d_L_law_958 : decode cL_law 958 = .ok (.pop, 1) := zo_87 (zby_w zwL_law_29 30 rfl)
theorem d_L_law_959 : decode cL_law 959 = .ok (.aload_n 2, 1) := zo_44 (zby_w zwL_law_29 31 rfl)
theorem d_L_law_960 : decode cL_law 960 = .ok (.aload_n 0, 1) := zo_42 (zby_w zwL_law_30 0 rfl)
theorem d_L_law_961 : decode cL_law 961 = .ok (.iload_n 3, 1) := zo_29 (zby_w zwL_law_30 1 rfl)
theorem d_L_law_962 : decode cL_law 962 = .ok (.iconst 1, 1) := zo_4 (zby_w zwL_law_30 2 rfl)
theorem d_L_law_963 : decode cL_law 963 = .ok (.iadd, 1) := zo_96 (zby_w zwL_law_30 3 rfl)
theorem d_L_law_964 : decode cL_law 964 = .ok (.iaload, 1) := zo_46 (zby_w zwL_law_30 4 rfl)
theorem d_L_law_965 : decode cL_law 965 = .ok (.aload_n 0, 1) := zo_42 (zby_w zwL_law_30 5 rfl)
theorem d_L_law_966 : decode cL_law 966 = .ok (.iload_n 3, 1) := zo_29 (zby_w zwL_law_30 6 rfl)
theorem d_L_law_967 : decode cL_law 967 = .ok (.iconst 2, 1) := zo_5 (zby_w zwL_law_30 7 rfl)
theorem d_L_law_968 : decode cL_law 968 = .ok (.iadd, 1) := zo_96 (zby_w zwL_law_30 8 rfl)
theorem d_L_law_969 : decode cL_law 969 = .ok (.iaload, 1) := zo_46 (zby_w zwL_law_30 9 rfl)
theorem d_L_law_970 : decode cL_law 970 = .ok (.invokevirtual 117, 3) := zo_182 (a := 0) (b := 117) (zby_w zwL_law_30 10 rfl) (zby_w zwL_law_30 11 rfl) (zby_w zwL_law_30 12 rfl) (by decide)
theorem d_L_law_973 : decode cL_law 973 = .ok (.pop, 1) := zo_87 (zby_w zwL_law_30 13 rfl)
theorem d_L_law_974 : decode cL_law 974 = .ok (.goto 336, 3) := zo_167 (a := 1) (b := 80) (zby_w zwL_law_30 14 rfl) (zby_w zwL_law_30 15 rfl) (zby_w zwL_law_30 16 rfl) (by decide)
theorem d_L_law_977 : decode cL_law 977 = .ok (.aload_n 1, 1) := zo_43 (zby_w zwL_law_30 17 rfl)
theorem d_L_law_978 : decode cL_law 978 = .ok (.aload_n 0, 1) := zo_42 (zby_w zwL_law_30 18 rfl)
theorem d_L_law_979 : decode cL_law 979 = .ok (.iload_n 3, 1) := zo_29 (zby_w zwL_law_30 19 rfl)
theorem d_L_law_980 : decode cL_law 980 = .ok (.iconst 1, 1) := zo_4 (zby_w zwL_law_30 20 rfl)
theorem d_L_law_981 : decode cL_law 981 = .ok (.iadd, 1) := zo_96 (zby_w zwL_law_30 21 rfl)
theorem d_L_law_982 : decode cL_law 982 = .ok (.iaload, 1) := zo_46 (zby_w zwL_law_30 22 rfl)
theorem d_L_law_983 : decode cL_law 983 = .ok (.invokevirtual 118, 3) := zo_182 (a := 0) (b := 118) (zby_w zwL_law_30 23 rfl) (zby_w zwL_law_30 24 rfl) (zby_w zwL_law_30 25 rfl) (by decide)
theorem d_L_law_986 : decode cL_law 986 = .ok (.pop, 1) := zo_87 (zby_w zwL_law_30 26 rfl)
theorem d_L_law_987 : decode cL_law 987 = .ok (.aload_n 2, 1) := zo_44 (zby_w zwL_law_30 27 rfl)
theorem d_L_law_988 : decode cL_law 988 = .ok (.aload_n 0, 1) := zo_42 (zby_w zwL_law_30 28 rfl)
theorem d_L_law_989 : decode cL_law 989 = .ok (.iload_n 3, 1) := zo_29 (zby_w zwL_law_30 29 rfl)
theorem d_L_law_990 : decode cL_law 990 = .ok (.iconst 1, 1) := zo_4 (zby_w zwL_law_30 30 rfl)
theorem d_L_law_991 : decode cL_law 991 = .ok (.iadd, 1) := zo_96 (zby_w zwL_law_30 31 rfl)
theorem d_L_law_992 : decode cL_law 992 = .ok (.iaload, 1) := zo_46 (zby_w zwL_law_31 0 rfl)
theorem d_L_law_993 : decode cL_law 993 = .ok (.invokevirtual 121, 3) := zo_182 (a := 0) (b := 121) (zby_w zwL_law_31 1 rfl) (zby_w zwL_law_31 2 rfl) (zby_w zwL_law_31 3 rfl) (by decide)
theorem d_L_law_996 : decode cL_law 996 = .ok (.pop, 1) := zo_87 (zby_w zwL_law_31 4 rfl)
theorem d_L_law_997 : decode cL_law 997 = .ok (.goto 313, 3) := zo_167 (a := 1) (b := 57) (zby_w zwL_law_31 5 rfl) (zby_w zwL_law_31 6 rfl) (zby_w zwL_law_31 7 rfl) (by decide)
theorem d_L_law_1000 : decode cL_law 1000 = .ok (.aload_n 1, 1) := zo_43 (zby_w zwL_law_31 8 rfl)
theorem d_L_law_1001 : decode cL_law 1001 = .ok (.aload_n 0, 1) := zo_42 (zby_w zwL_law_31 9 rfl)
theorem d_L_law_1002 : decode cL_law 1002 = .ok (.iload_n 3, 1) := zo_29 (zby_w zwL_law_31 10 rfl)
theorem d_L_law_1003 : decode cL_law 1003 = .ok (.iconst 1, 1) := zo_4 (zby_w zwL_law_31 11 rfl)
theorem d_L_law_1004 : decode cL_law 1004 = .ok (.iadd, 1) := zo_96 (zby_w zwL_law_31 12 rfl)
theorem d_L_law_1005 : decode cL_law 1005 = .ok (.iaload, 1) := zo_46 (zby_w zwL_law_31 13 rfl)
theorem d_L_law_1006 : decode cL_law 1006 = .ok (.aload_n 0, 1) := zo_42 (zby_w zwL_law_31 14 rfl)
theorem d_L_law_1007 : decode cL_law 1007 = .ok (.iload_n 3, 1) := zo_29 (zby_w zwL_law_31 15 rfl)
theorem d_L_law_1008 : decode cL_law 1008 = .ok (.iconst 2, 1) := zo_5 (zby_w zwL_law_31 16 rfl)
theorem d_L_law_1009 : decode cL_law 1009 = .ok (.iadd, 1) := zo_96 (zby_w zwL_law_31 17 rfl)
theorem d_L_law_1010 : decode cL_law 1010 = .ok (.iaload, 1) := zo_46 (zby_w zwL_law_31 18 rfl)
theorem d_L_law_1011 : decode cL_law 1011 = .ok (.aload_n 0, 1) := zo_42 (zby_w zwL_law_31 19 rfl)
theorem d_L_law_1012 : decode cL_law 1012 = .ok (.iload_n 3, 1) := zo_29 (zby_w zwL_law_31 20 rfl)
theorem d_L_law_1013 : decode cL_law 1013 = .ok (.iconst 3, 1) := zo_6 (zby_w zwL_law_31 21 rfl)
theorem d_L_law_1014 : decode cL_law 1014 = .ok (.iadd, 1) := zo_96 (zby_w zwL_law_31 22 rfl)
theorem d_L_law_1015 : decode cL_law 1015 = .ok (.iaload, 1) := zo_46 (zby_w zwL_law_31 23 rfl)
theorem d_L_law_1016 : decode cL_law 1016 = .ok (.invokevirtual 122, 3) := zo_182 (a := 0) (b := 122) (zby_w zwL_law_31 24 rfl) (zby_w zwL_law_31 25 rfl) (zby_w zwL_law_31 26 rfl) (by decide)
theorem d_L_law_1019 : decode cL_law 1019 = .ok (.pop2, 1) := zo_88 (zby_w zwL_law_31 27 rfl)
theorem d_L_law_1020 : decode cL_law 1020 = .ok (.aload_n 2, 1) := zo_44 (zby_w zwL_law_31 28 rfl)
theorem d_L_law_1021 : decode cL_law 1021 = .ok (.aload_n 0, 1) := zo_42 (zby_w zwL_law_31 29 rfl)
theorem d_L_law_1022 : decode cL_law 1022 = .ok (.iload_n 3, 1) := zo_29 (zby_w zwL_law_31 30 rfl)
theorem d_L_law_1023 : decode cL_law 1023 = .ok (.iconst 1, 1) := zo_4 (zby_w zwL_law_31 31 rfl)
theorem d_L_law_1024 : decode cL_law 1024 = .ok (.iadd, 1) := zo_96 (zby_w zwL_law_32 0 rfl)
theorem d_L_law_1025 : decode cL_law 1025 = .ok (.iaload, 1) := zo_46 (zby_w zwL_law_32 1 rfl)
theorem d_L_law_1026 : decode cL_law 1026 = .ok (.aload_n 0, 1) := zo_42 (zby_w zwL_law_32 2 rfl)
theorem d_L_law_1027 : decode cL_law 1027 = .ok (.iload_n 3, 1) := zo_29 (zby_w zwL_law_32 3 rfl)
theorem d_L_law_1028 : decode cL_law 1028 = .ok (.iconst 2, 1) := zo_5 (zby_w zwL_law_32 4 rfl)
theorem d_L_law_1029 : decode cL_law 1029 = .ok (.iadd, 1) := zo_96 (zby_w zwL_law_32 5 rfl)
theorem d_L_law_1030 : decode cL_law 1030 = .ok (.iaload, 1) := zo_46 (zby_w zwL_law_32 6 rfl)
theorem d_L_law_1031 : decode cL_law 1031 = .ok (.aload_n 0, 1) := zo_42 (zby_w zwL_law_32 7 rfl)
theorem d_L_law_1032 : decode cL_law 1032 = .ok (.iload_n 3, 1) := zo_29 (zby_w zwL_law_32 8 rfl)
theorem d_L_law_1033 : decode cL_law 1033 = .ok (.iconst 3, 1) := zo_6 (zby_w zwL_law_32 9 rfl)
theorem d_L_law_1034 : decode cL_law 1034 = .ok (.iadd, 1) := zo_96 (zby_w zwL_law_32 10 rfl)
theorem d_L_law_1035 : decode cL_law 1035 = .ok (.iaload, 1) := zo_46 (zby_w zwL_law_32 11 rfl)
theorem d_L_law_1036 : decode cL_law 1036 = .ok (.invokevirtual 126, 3) := zo_182 (a := 0) (b := 126) (zby_w zwL_law_32 12 rfl) (zby_w zwL_law_32 13 rfl) (zby_w zwL_law_32 14 rfl) (by decide)
theorem d_L_law_1039 : decode cL_law 1039 = .ok (.pop2, 1) := zo_88 (zby_w zwL_law_32 15 rfl)
theorem d_L_law_1040 : decode cL_law 1040 = .ok (.goto 270, 3) := zo_167 (a := 1) (b := 14) (zby_w zwL_law_32 16 rfl) (zby_w zwL_law_32 17 rfl) (zby_w zwL_law_32 18 rfl) (by decide)
theorem d_L_law_1043 : decode cL_law 1043 = .ok (.aload_n 1, 1) := zo_43 (zby_w zwL_law_32 19 rfl)
theorem d_L_law_1044 : decode cL_law 1044 = .ok (.aload_n 0, 1) := zo_42 (zby_w zwL_law_32 20 rfl)
theorem d_L_law_1045 : decode cL_law 1045 = .ok (.iload_n 3, 1) := zo_29 (zby_w zwL_law_32 21 rfl)
theorem d_L_law_1046 : decode cL_law 1046 = .ok (.iconst 1, 1) := zo_4 (zby_w zwL_law_32 22 rfl)
theorem d_L_law_1047 : decode cL_law 1047 = .ok (.iadd, 1) := zo_96 (zby_w zwL_law_32 23 rfl)
theorem d_L_law_1048 : decode cL_law 1048 = .ok (.iaload, 1) := zo_46 (zby_w zwL_law_32 24 rfl)
theorem d_L_law_1049 : decode cL_law 1049 = .ok (.aload_n 0, 1) := zo_42 (zby_w zwL_law_32 25 rfl)
theorem d_L_law_1050 : decode cL_law 1050 = .ok (.iload_n 3, 1) := zo_29 (zby_w zwL_law_32 26 rfl)
theorem d_L_law_1051 : decode cL_law 1051 = .ok (.iconst 2, 1) := zo_5 (zby_w zwL_law_32 27 rfl)
theorem d_L_law_1052 : decode cL_law 1052 = .ok (.iadd, 1) := zo_96 (zby_w zwL_law_32 28 rfl)
theorem d_L_law_1053 : decode cL_law 1053 = .ok (.iaload, 1) := zo_46 (zby_w zwL_law_32 29 rfl)
theorem d_L_law_1054 : decode cL_law 1054 = .ok (.aload_n 0, 1) := zo_42 (zby_w zwL_law_32 30 rfl)
theorem d_L_law_1055 : decode cL_law 1055 = .ok (.iload_n 3, 1) := zo_29 (zby_w zwL_law_32 31 rfl)
theorem d_L_law_1056 : decode cL_law 1056 = .ok (.iconst 3, 1) := zo_6 (zby_w zwL_law_33 0 rfl)
theorem d_L_law_1057 : decode cL_law 1057 = .ok (.iadd, 1) := zo_96 (zby_w zwL_law_33 1 rfl)
theorem d_L_law_1058 : decode cL_law 1058 = .ok (.iaload, 1) := zo_46 (zby_w zwL_law_33 2 rfl)
theorem d_L_law_1059 : decode cL_law 1059 = .ok (.aload_n 0, 1) := zo_42 (zby_w zwL_law_33 3 rfl)
theorem d_L_law_1060 : decode cL_law 1060 = .ok (.iload_n 3, 1) := zo_29 (zby_w zwL_law_33 4 rfl)
theorem d_L_law_1061 : decode cL_law 1061 = .ok (.iconst 4, 1) := zo_7 (zby_w zwL_law_33 5 rfl)
theorem d_L_law_1062 : decode cL_law 1062 = .ok (.iadd, 1) := zo_96 (zby_w zwL_law_33 6 rfl)
theorem d_L_law_1063 : decode cL_law 1063 = .ok (.iaload, 1) := zo_46 (zby_w zwL_law_33 7 rfl)
theorem d_L_law_1064 : decode cL_law 1064 = .ok (.aload_n 0, 1) := zo_42 (zby_w zwL_law_33 8 rfl)
theorem d_L_law_1065 : decode cL_law 1065 = .ok (.iload_n 3, 1) := zo_29 (zby_w zwL_law_33 9 rfl)
theorem d_L_law_1066 : decode cL_law 1066 = .ok (.iconst 5, 1) := zo_8 (zby_w zwL_law_33 10 rfl)
theorem d_L_law_1067 : decode cL_law 1067 = .ok (.iadd, 1) := zo_96 (zby_w zwL_law_33 11 rfl)
theorem d_L_law_1068 : decode cL_law 1068 = .ok (.iaload, 1) := zo_46 (zby_w zwL_law_33 12 rfl)
theorem d_L_law_1069 : decode cL_law 1069 = .ok (.invokevirtual 127, 3) := zo_182 (a := 0) (b := 127) (zby_w zwL_law_33 13 rfl) (zby_w zwL_law_33 14 rfl) (zby_w zwL_law_33 15 rfl) (by decide)
theorem d_L_law_1072 : decode cL_law 1072 = .ok (.pop2, 1) := zo_88 (zby_w zwL_law_33 16 rfl)
theorem d_L_law_1073 : decode cL_law 1073 = .ok (.aload_n 2, 1) := zo_44 (zby_w zwL_law_33 17 rfl)
theorem d_L_law_1074 : decode cL_law 1074 = .ok (.aload_n 0, 1) := zo_42 (zby_w zwL_law_33 18 rfl)
theorem d_L_law_1075 : decode cL_law 1075 = .ok (.iload_n 3, 1) := zo_29 (zby_w zwL_law_33 19 rfl)
theorem d_L_law_1076 : decode cL_law 1076 = .ok (.iconst 1, 1) := zo_4 (zby_w zwL_law_33 20 rfl)
theorem d_L_law_1077 : decode cL_law 1077 = .ok (.iadd, 1) := zo_96 (zby_w zwL_law_33 21 rfl)
theorem d_L_law_1078 : decode cL_law 1078 = .ok (.iaload, 1) := zo_46 (zby_w zwL_law_33 22 rfl)
theorem d_L_law_1079 : decode cL_law 1079 = .ok (.aload_n 0, 1) := zo_42 (zby_w zwL_law_33 23 rfl)
theorem d_L_law_1080 : decode cL_law 1080 = .ok (.iload_n 3, 1) := zo_29 (zby_w zwL_law_33 24 rfl)
theorem d_L_law_1081 : decode cL_law 1081 = .ok (.iconst 2, 1) := zo_5 (zby_w zwL_law_33 25 rfl)
theorem d_L_law_1082 : decode cL_law 1082 = .ok (.iadd, 1) := zo_96 (zby_w zwL_law_33 26 rfl)
theorem d_L_law_1083 : decode cL_law 1083 = .ok (.iaload, 1) := zo_46 (zby_w zwL_law_33 27 rfl)
theorem d_L_law_1084 : decode cL_law 1084 = .ok (.aload_n 0, 1) := zo_42 (zby_w zwL_law_33 28 rfl)
theorem d_L_law_1085 : decode cL_law 1085 = .ok (.iload_n 3, 1) := zo_29 (zby_w zwL_law_33 29 rfl)
theorem d_L_law_1086 : decode cL_law 1086 = .ok (.iconst 3, 1) := zo_6 (zby_w zwL_law_33 30 rfl)
theorem d_L_law_1087 : decode cL_law 1087 = .ok (.iadd, 1) := zo_96 (zby_w zwL_law_33 31 rfl)
theorem d_L_law_1088 : decode cL_law 1088 = .ok (.iaload, 1) := zo_46 (zby_w zwL_law_34 0 rfl)
theorem d_L_law_1089 : decode cL_law 1089 = .ok (.aload_n 0, 1) := zo_42 (zby_w zwL_law_34 1 rfl)
theorem d_L_law_1090 : decode cL_law 1090 = .ok (.iload_n 3, 1) := zo_29 (zby_w zwL_law_34 2 rfl)
theorem d_L_law_1091 : decode cL_law 1091 = .ok (.iconst 4, 1) := zo_7 (zby_w zwL_law_34 3 rfl)
theorem d_L_law_1092 : decode cL_law 1092 = .ok (.iadd, 1) := zo_96 (zby_w zwL_law_34 4 rfl)
theorem d_L_law_1093 : decode cL_law 1093 = .ok (.iaload, 1) := zo_46 (zby_w zwL_law_34 5 rfl)
theorem d_L_law_1094 : decode cL_law 1094 = .ok (.aload_n 0, 1) := zo_42 (zby_w zwL_law_34 6 rfl)
theorem d_L_law_1095 : decode cL_law 1095 = .ok (.iload_n 3, 1) := zo_29 (zby_w zwL_law_34 7 rfl)
theorem d_L_law_1096 : decode cL_law 1096 = .ok (.iconst 5, 1) := zo_8 (zby_w zwL_law_34 8 rfl)
theorem d_L_law_1097 : decode cL_law 1097 = .ok (.iadd, 1) := zo_96 (zby_w zwL_law_34 9 rfl)
theorem d_L_law_1098 : decode cL_law 1098 = .ok (.iaload, 1) := zo_46 (zby_w zwL_law_34 10 rfl)
theorem d_L_law_1099 : decode cL_law 1099 = .ok (.invokevirtual 131, 3) := zo_182 (a := 0) (b := 131) (zby_w zwL_law_34 11 rfl) (zby_w zwL_law_34 12 rfl) (zby_w zwL_law_34 13 rfl) (by decide)
theorem d_L_law_1102 : decode cL_law 1102 = .ok (.pop2, 1) := zo_88 (zby_w zwL_law_34 14 rfl)
theorem d_L_law_1103 : decode cL_law 1103 = .ok (.goto 207, 3) := zo_167 (a := 0) (b := 207) (zby_w zwL_law_34 15 rfl) (zby_w zwL_law_34 16 rfl) (zby_w zwL_law_34 17 rfl) (by decide)
theorem d_L_law_1106 : decode cL_law 1106 = .ok (.aload_n 1, 1) := zo_43 (zby_w zwL_law_34 18 rfl)
theorem d_L_law_1107 : decode cL_law 1107 = .ok (.aload_n 0, 1) := zo_42 (zby_w zwL_law_34 19 rfl)
theorem d_L_law_1108 : decode cL_law 1108 = .ok (.iload_n 3, 1) := zo_29 (zby_w zwL_law_34 20 rfl)
theorem d_L_law_1109 : decode cL_law 1109 = .ok (.iconst 1, 1) := zo_4 (zby_w zwL_law_34 21 rfl)
theorem d_L_law_1110 : decode cL_law 1110 = .ok (.iadd, 1) := zo_96 (zby_w zwL_law_34 22 rfl)
theorem d_L_law_1111 : decode cL_law 1111 = .ok (.iaload, 1) := zo_46 (zby_w zwL_law_34 23 rfl)
theorem d_L_law_1112 : decode cL_law 1112 = .ok (.aload_n 0, 1) := zo_42 (zby_w zwL_law_34 24 rfl)
theorem d_L_law_1113 : decode cL_law 1113 = .ok (.iload_n 3, 1) := zo_29 (zby_w zwL_law_34 25 rfl)
theorem d_L_law_1114 : decode cL_law 1114 = .ok (.iconst 2, 1) := zo_5 (zby_w zwL_law_34 26 rfl)
theorem d_L_law_1115 : decode cL_law 1115 = .ok (.iadd, 1) := zo_96 (zby_w zwL_law_34 27 rfl)
theorem d_L_law_1116 : decode cL_law 1116 = .ok (.iaload, 1) := zo_46 (zby_w zwL_law_34 28 rfl)
theorem d_L_law_1117 : decode cL_law 1117 = .ok (.invokevirtual 132, 3) := zo_182 (a := 0) (b := 132) (zby_w zwL_law_34 29 rfl) (zby_w zwL_law_34 30 rfl) (zby_w zwL_law_34 31 rfl) (by decide)
theorem d_L_law_1120 : decode cL_law 1120 = .ok (.pop, 1) := zo_87 (zby_w zwL_law_35 0 rfl)
theorem d_L_law_1121 : decode cL_law 1121 = .ok (.aload_n 2, 1) := zo_44 (zby_w zwL_law_35 1 rfl)
theorem d_L_law_1122 : decode cL_law 1122 = .ok (.aload_n 0, 1) := zo_42 (zby_w zwL_law_35 2 rfl)
theorem d_L_law_1123 : decode cL_law 1123 = .ok (.iload_n 3, 1) := zo_29 (zby_w zwL_law_35 3 rfl)
theorem d_L_law_1124 : decode cL_law 1124 = .ok (.iconst 1, 1) := zo_4 (zby_w zwL_law_35 4 rfl)
theorem d_L_law_1125 : decode cL_law 1125 = .ok (.iadd, 1) := zo_96 (zby_w zwL_law_35 5 rfl)
theorem d_L_law_1126 : decode cL_law 1126 = .ok (.iaload, 1) := zo_46 (zby_w zwL_law_35 6 rfl)
theorem d_L_law_1127 : decode cL_law 1127 = .ok (.aload_n 0, 1) := zo_42 (zby_w zwL_law_35 7 rfl)
theorem d_L_law_1128 : decode cL_law 1128 = .ok (.iload_n 3, 1) := zo_29 (zby_w zwL_law_35 8 rfl)
theorem d_L_law_1129 : decode cL_law 1129 = .ok (.iconst 2, 1) := zo_5 (zby_w zwL_law_35 9 rfl)
theorem d_L_law_1130 : decode cL_law 1130 = .ok (.iadd, 1) := zo_96 (zby_w zwL_law_35 10 rfl)
theorem d_L_law_1131 : decode cL_law 1131 = .ok (.iaload, 1) := zo_46 (zby_w zwL_law_35 11 rfl)
theorem d_L_law_1132 : decode cL_law 1132 = .ok (.invokevirtual 135, 3) := zo_182 (a := 0) (b := 135) (zby_w zwL_law_35 12 rfl) (zby_w zwL_law_35 13 rfl) (zby_w zwL_law_35 14 rfl) (by decide)
theorem d_L_law_1135 : decode cL_law 1135 = .ok (.pop, 1) := zo_87 (zby_w zwL_law_35 15 rfl)
theorem d_L_law_1136 : decode cL_law 1136 = .ok (.goto 174, 3) := zo_167 (a := 0) (b := 174) (zby_w zwL_law_35 16 rfl) (zby_w zwL_law_35 17 rfl) (zby_w zwL_law_35 18 rfl) (by decide)
theorem d_L_law_1139 : decode cL_law 1139 = .ok (.aload_n 1, 1) := zo_43 (zby_w zwL_law_35 19 rfl)
theorem d_L_law_1140 : decode cL_law 1140 = .ok (.invokevirtual 136, 3) := zo_182 (a := 0) (b := 136) (zby_w zwL_law_35 20 rfl) (zby_w zwL_law_35 21 rfl) (zby_w zwL_law_35 22 rfl) (by decide)
theorem d_L_law_1143 : decode cL_law 1143 = .ok (.pop, 1) := zo_87 (zby_w zwL_law_35 23 rfl)
theorem d_L_law_1144 : decode cL_law 1144 = .ok (.aload_n 2, 1) := zo_44 (zby_w zwL_law_35 24 rfl)
theorem d_L_law_1145 : decode cL_law 1145 = .ok (.invokevirtual 139, 3) := zo_182 (a := 0) (b := 139) (zby_w zwL_law_35 25 rfl) (zby_w zwL_law_35 26 rfl) (zby_w zwL_law_35 27 rfl) (by decide)
theorem d_L_law_1148 : decode cL_law 1148 = .ok (.pop, 1) := zo_87 (zby_w zwL_law_35 28 rfl)
theorem d_L_law_1149 : decode cL_law 1149 = .ok (.goto 161, 3) := zo_167 (a := 0) (b := 161) (zby_w zwL_law_35 29 rfl) (zby_w zwL_law_35 30 rfl) (zby_w zwL_law_35 31 rfl) (by decide)
theorem d_L_law_1152 : decode cL_law 1152 = .ok (.aload_n 1, 1) := zo_43 (zby_w zwL_law_36 0 rfl)
theorem d_L_law_1153 : decode cL_law 1153 = .ok (.aload_n 0, 1) := zo_42 (zby_w zwL_law_36 1 rfl)
theorem d_L_law_1154 : decode cL_law 1154 = .ok (.iload_n 3, 1) := zo_29 (zby_w zwL_law_36 2 rfl)
theorem d_L_law_1155 : decode cL_law 1155 = .ok (.iconst 1, 1) := zo_4 (zby_w zwL_law_36 3 rfl)
theorem d_L_law_1156 : decode cL_law 1156 = .ok (.iadd, 1) := zo_96 (zby_w zwL_law_36 4 rfl)
theorem d_L_law_1157 : decode cL_law 1157 = .ok (.iaload, 1) := zo_46 (zby_w zwL_law_36 5 rfl)
theorem d_L_law_1158 : decode cL_law 1158 = .ok (.invokevirtual 140, 3) := zo_182 (a := 0) (b := 140) (zby_w zwL_law_36 6 rfl) (zby_w zwL_law_36 7 rfl) (zby_w zwL_law_36 8 rfl) (by decide)
theorem d_L_law_1161 : decode cL_law 1161 = .ok (.pop, 1) := zo_87 (zby_w zwL_law_36 9 rfl)
theorem d_L_law_1162 : decode cL_law 1162 = .ok (.aload_n 2, 1) := zo_44 (zby_w zwL_law_36 10 rfl)
theorem d_L_law_1163 : decode cL_law 1163 = .ok (.aload_n 0, 1) := zo_42 (zby_w zwL_law_36 11 rfl)
theorem d_L_law_1164 : decode cL_law 1164 = .ok (.iload_n 3, 1) := zo_29 (zby_w zwL_law_36 12 rfl)
theorem d_L_law_1165 : decode cL_law 1165 = .ok (.iconst 1, 1) := zo_4 (zby_w zwL_law_36 13 rfl)
theorem d_L_law_1166 : decode cL_law 1166 = .ok (.iadd, 1) := zo_96 (zby_w zwL_law_36 14 rfl)
theorem d_L_law_1167 : decode cL_law 1167 = .ok (.iaload, 1) := zo_46 (zby_w zwL_law_36 15 rfl)
theorem d_L_law_1168 : decode cL_law 1168 = .ok (.invokevirtual 143, 3) := zo_182 (a := 0) (b := 143) (zby_w zwL_law_36 16 rfl) (zby_w zwL_law_36 17 rfl) (zby_w zwL_law_36 18 rfl) (by decide)
theorem d_L_law_1171 : decode cL_law 1171 = .ok (.pop, 1) := zo_87 (zby_w zwL_law_36 19 rfl)
theorem d_L_law_1172 : decode cL_law 1172 = .ok (.goto 138, 3) := zo_167 (a := 0) (b := 138) (zby_w zwL_law_36 20 rfl) (zby_w zwL_law_36 21 rfl) (zby_w zwL_law_36 22 rfl) (by decide)
theorem d_L_law_1175 : decode cL_law 1175 = .ok (.aload_n 1, 1) := zo_43 (zby_w zwL_law_36 23 rfl)
theorem d_L_law_1176 : decode cL_law 1176 = .ok (.invokevirtual 144, 3) := zo_182 (a := 0) (b := 144) (zby_w zwL_law_36 24 rfl) (zby_w zwL_law_36 25 rfl) (zby_w zwL_law_36 26 rfl) (by decide)
theorem d_L_law_1179 : decode cL_law 1179 = .ok (.pop2, 1) := zo_88 (zby_w zwL_law_36 27 rfl)
theorem d_L_law_1180 : decode cL_law 1180 = .ok (.aload_n 2, 1) := zo_44 (zby_w zwL_law_36 28 rfl)
theorem d_L_law_1181 : decode cL_law 1181 = .ok (.invokevirtual 148, 3) := zo_182 (a := 0) (b := 148) (zby_w zwL_law_36 29 rfl) (zby_w zwL_law_36 30 rfl) (zby_w zwL_law_36 31 rfl) (by decide)
theorem d_L_law_1184 : decode cL_law 1184 = .ok (.pop2, 1) := zo_88 (zby_w zwL_law_37 0 rfl)
theorem d_L_law_1185 : decode cL_law 1185 = .ok (.goto 125, 3) := zo_167 (a := 0) (b := 125) (zby_w zwL_law_37 1 rfl) (zby_w zwL_law_37 2 rfl) (zby_w zwL_law_37 3 rfl) (by decide)
theorem d_L_law_1188 : decode cL_law 1188 = .ok (.aload_n 1, 1) := zo_43 (zby_w zwL_law_37 4 rfl)
theorem d_L_law_1189 : decode cL_law 1189 = .ok (.aload_n 0, 1) := zo_42 (zby_w zwL_law_37 5 rfl)
theorem d_L_law_1190 : decode cL_law 1190 = .ok (.iload_n 3, 1) := zo_29 (zby_w zwL_law_37 6 rfl)
theorem d_L_law_1191 : decode cL_law 1191 = .ok (.iconst 1, 1) := zo_4 (zby_w zwL_law_37 7 rfl)
theorem d_L_law_1192 : decode cL_law 1192 = .ok (.iadd, 1) := zo_96 (zby_w zwL_law_37 8 rfl)
theorem d_L_law_1193 : decode cL_law 1193 = .ok (.iaload, 1) := zo_46 (zby_w zwL_law_37 9 rfl)
theorem d_L_law_1194 : decode cL_law 1194 = .ok (.aload_n 0, 1) := zo_42 (zby_w zwL_law_37 10 rfl)
theorem d_L_law_1195 : decode cL_law 1195 = .ok (.iload_n 3, 1) := zo_29 (zby_w zwL_law_37 11 rfl)
theorem d_L_law_1196 : decode cL_law 1196 = .ok (.iconst 2, 1) := zo_5 (zby_w zwL_law_37 12 rfl)
theorem d_L_law_1197 : decode cL_law 1197 = .ok (.iadd, 1) := zo_96 (zby_w zwL_law_37 13 rfl)
theorem d_L_law_1198 : decode cL_law 1198 = .ok (.iaload, 1) := zo_46 (zby_w zwL_law_37 14 rfl)
theorem d_L_law_1199 : decode cL_law 1199 = .ok (.aload_n 0, 1) := zo_42 (zby_w zwL_law_37 15 rfl)
theorem d_L_law_1200 : decode cL_law 1200 = .ok (.iload_n 3, 1) := zo_29 (zby_w zwL_law_37 16 rfl)
theorem d_L_law_1201 : decode cL_law 1201 = .ok (.iconst 3, 1) := zo_6 (zby_w zwL_law_37 17 rfl)
theorem d_L_law_1202 : decode cL_law 1202 = .ok (.iadd, 1) := zo_96 (zby_w zwL_law_37 18 rfl)
theorem d_L_law_1203 : decode cL_law 1203 = .ok (.iaload, 1) := zo_46 (zby_w zwL_law_37 19 rfl)
theorem d_L_law_1204 : decode cL_law 1204 = .ok (.aload_n 0, 1) := zo_42 (zby_w zwL_law_37 20 rfl)
theorem d_L_law_1205 : decode cL_law 1205 = .ok (.iload_n 3, 1) := zo_29 (zby_w zwL_law_37 21 rfl)
theorem d_L_law_1206 : decode cL_law 1206 = .ok (.iconst 4, 1) := zo_7 (zby_w zwL_law_37 22 rfl)
theorem d_L_law_1207 : decode cL_law 1207 = .ok (.iadd, 1) := zo_96 (zby_w zwL_law_37 23 rfl)
theorem d_L_law_1208 : decode cL_law 1208 = .ok (.iaload, 1) := zo_46 (zby_w zwL_law_37 24 rfl)
theorem d_L_law_1209 : decode cL_law 1209 = .ok (.invokevirtual 149, 3) := zo_182 (a := 0) (b := 149) (zby_w zwL_law_37 25 rfl) (zby_w zwL_law_37 26 rfl) (zby_w zwL_law_37 27 rfl) (by decide)
theorem d_L_law_1212 : decode cL_law 1212 = .ok (.pop, 1) := zo_87 (zby_w zwL_law_37 28 rfl)
theorem d_L_law_1213 : decode cL_law 1213 = .ok (.aload_n 2, 1) := zo_44 (zby_w zwL_law_37 29 rfl)
theorem d_L_law_1214 : decode cL_law 1214 = .ok (.aload_n 0, 1) := zo_42 (zby_w zwL_law_37 30 rfl)
theorem d_L_law_1215 : decode cL_law 1215 = .ok (.iload_n 3, 1) := zo_29 (zby_w zwL_law_37 31 rfl)
theorem d_L_law_1216 : decode cL_law 1216 = .ok (.iconst 1, 1) := zo_4 (zby_w zwL_law_38 0 rfl)
theorem d_L_law_1217 : decode cL_law 1217 = .ok (.iadd, 1) := zo_96 (zby_w zwL_law_38 1 rfl)
theorem d_L_law_1218 : decode cL_law 1218 = .ok (.iaload, 1) := zo_46 (zby_w zwL_law_38 2 rfl)
theorem d_L_law_1219 : decode cL_law 1219 = .ok (.aload_n 0, 1) := zo_42 (zby_w zwL_law_38 3 rfl)
theorem d_L_law_1220 : decode cL_law 1220 = .ok (.iload_n 3, 1) := zo_29 (zby_w zwL_law_38 4 rfl)
theorem d_L_law_1221 : decode cL_law 1221 = .ok (.iconst 2, 1) := zo_5 (zby_w zwL_law_38 5 rfl)
theorem d_L_law_1222 : decode cL_law 1222 = .ok (.iadd, 1) := zo_96 (zby_w zwL_law_38 6 rfl)
theorem d_L_law_1223 : decode cL_law 1223 = .ok (.iaload, 1) := zo_46 (zby_w zwL_law_38 7 rfl)
theorem d_L_law_1224 : decode cL_law 1224 = .ok (.aload_n 0, 1) := zo_42 (zby_w zwL_law_38 8 rfl)
theorem d_L_law_1225 : decode cL_law 1225 = .ok (.iload_n 3, 1) := zo_29 (zby_w zwL_law_38 9 rfl)
theorem d_L_law_1226 : decode cL_law 1226 = .ok (.iconst 3, 1) := zo_6 (zby_w zwL_law_38 10 rfl)
theorem d_L_law_1227 : decode cL_law 1227 = .ok (.iadd, 1) := zo_96 (zby_w zwL_law_38 11 rfl)
theorem d_L_law_1228 : decode cL_law 1228 = .ok (.iaload, 1) := zo_46 (zby_w zwL_law_38 12 rfl)
theorem d_L_law_1229 : decode cL_law 1229 = .ok (.aload_n 0, 1) := zo_42 (zby_w zwL_law_38 13 rfl)
theorem d_L_law_1230 : decode cL_law 1230 = .ok (.iload_n 3, 1) := zo_29 (zby_w zwL_law_38 14 rfl)
theorem d_L_law_1231 : decode cL_law 1231 = .ok (.iconst 4, 1) := zo_7 (zby_w zwL_law_38 15 rfl)
theorem d_L_law_1232 : decode cL_law 1232 = .ok (.iadd, 1) := zo_96 (zby_w zwL_law_38 16 rfl)
theorem d_L_law_1233 : decode cL_law 1233 = .ok (.iaload, 1) := zo_46 (zby_w zwL_law_38 17 rfl)
theorem d_L_law_1234 : decode cL_law 1234 = .ok (.invokevirtual 152, 3) := zo_182 (a := 0) (b := 152) (zby_w zwL_law_38 18 rfl) (zby_w zwL_law_38 19 rfl) (zby_w zwL_law_38 20 rfl) (by decide)
theorem d_L_law_1237 : decode cL_law 1237 = .ok (.pop, 1) := zo_87 (zby_w zwL_law_38 21 rfl)
theorem d_L_law_1238 : decode cL_law 1238 = .ok (.goto 72, 3) := zo_167 (a := 0) (b := 72) (zby_w zwL_law_38 22 rfl) (zby_w zwL_law_38 23 rfl) (zby_w zwL_law_38 24 rfl) (by decide)
theorem d_L_law_1241 : decode cL_law 1241 = .ok (.aload_n 1, 1) := zo_43 (zby_w zwL_law_38 25 rfl)
theorem d_L_law_1242 : decode cL_law 1242 = .ok (.aload_n 0, 1) := zo_42 (zby_w zwL_law_38 26 rfl)
theorem d_L_law_1243 : decode cL_law 1243 = .ok (.iload_n 3, 1) := zo_29 (zby_w zwL_law_38 27 rfl)
theorem d_L_law_1244 : decode cL_law 1244 = .ok (.iconst 1, 1) := zo_4 (zby_w zwL_law_38 28 rfl)
theorem d_L_law_1245 : decode cL_law 1245 = .ok (.iadd, 1) := zo_96 (zby_w zwL_law_38 29 rfl)
theorem d_L_law_1246 : decode cL_law 1246 = .ok (.iaload, 1) := zo_46 (zby_w zwL_law_38 30 rfl)
theorem d_L_law_1247 : decode cL_law 1247 = .ok (.invokevirtual 153, 3) := zo_182 (a := 0) (b := 153) (zby_w zwL_law_38 31 rfl) (zby_w zwL_law_38 32 rfl) (zby_w zwL_law_38 33 rfl) (by decide)
theorem d_L_law_1250 : decode cL_law 1250 = .ok (.pop, 1) := zo_87 (zby_w zwL_law_39 2 rfl)
theorem d_L_law_1251 : decode cL_law 1251 = .ok (.aload_n 2, 1) := zo_44 (zby_w zwL_law_39 3 rfl)
theorem d_L_law_1252 : decode cL_law 1252 = .ok (.aload_n 0, 1) := zo_42 (zby_w zwL_law_39 4 rfl)
theorem d_L_law_1253 : decode cL_law 1253 = .ok (.iload_n 3, 1) := zo_29 (zby_w zwL_law_39 5 rfl)
theorem d_L_law_1254 : decode cL_law 1254 = .ok (.iconst 1, 1) := zo_4 (zby_w zwL_law_39 6 rfl)
theorem d_L_law_1255 : decode cL_law 1255 = .ok (.iadd, 1) := zo_96 (zby_w zwL_law_39 7 rfl)
theorem d_L_law_1256 : decode cL_law 1256 = .ok (.iaload, 1) := zo_46 (zby_w zwL_law_39 8 rfl)
theorem d_L_law_1257 : decode cL_law 1257 = .ok (.invokevirtual 156, 3) := zo_182 (a := 0) (b := 156) (zby_w zwL_law_39 9 rfl) (zby_w zwL_law_39 10 rfl) (zby_w zwL_law_39 11 rfl) (by decide)
theorem d_L_law_1260 : decode cL_law 1260 = .ok (.pop, 1) := zo_87 (zby_w zwL_law_39 12 rfl)
theorem d_L_law_1261 : decode cL_law 1261 = .ok (.goto 49, 3) := zo_167 (a := 0) (b := 49) (zby_w zwL_law_39 13 rfl) (zby_w zwL_law_39 14 rfl) (zby_w zwL_law_39 15 rfl) (by decide)
theorem d_L_law_1264 : decode cL_law 1264 = .ok (.aload_n 1, 1) := zo_43 (zby_w zwL_law_39 16 rfl)
theorem d_L_law_1265 : decode cL_law 1265 = .ok (.aload_n 0, 1) := zo_42 (zby_w zwL_law_39 17 rfl)
theorem d_L_law_1266 : decode cL_law 1266 = .ok (.iload_n 3, 1) := zo_29 (zby_w zwL_law_39 18 rfl)
theorem d_L_law_1267 : decode cL_law 1267 = .ok (.iconst 1, 1) := zo_4 (zby_w zwL_law_39 19 rfl)
theorem d_L_law_1268 : decode cL_law 1268 = .ok (.iadd, 1) := zo_96 (zby_w zwL_law_39 20 rfl)
theorem d_L_law_1269 : decode cL_law 1269 = .ok (.iaload, 1) := zo_46 (zby_w zwL_law_39 21 rfl)
theorem d_L_law_1270 : decode cL_law 1270 = .ok (.invokevirtual 157, 3) := zo_182 (a := 0) (b := 157) (zby_w zwL_law_39 22 rfl) (zby_w zwL_law_39 23 rfl) (zby_w zwL_law_39 24 rfl) (by decide)
theorem d_L_law_1273 : decode cL_law 1273 = .ok (.pop, 1) := zo_87 (zby_w zwL_law_39 25 rfl)
theorem d_L_law_1274 : decode cL_law 1274 = .ok (.aload_n 2, 1) := zo_44 (zby_w zwL_law_39 26 rfl)
theorem d_L_law_1275 : decode cL_law 1275 = .ok (.aload_n 0, 1) := zo_42 (zby_w zwL_law_39 27 rfl)
theorem d_L_law_1276 : decode cL_law 1276 = .ok (.iload_n 3, 1) := zo_29 (zby_w zwL_law_39 28 rfl)
theorem d_L_law_1277 : decode cL_law 1277 = .ok (.iconst 1, 1) := zo_4 (zby_w zwL_law_39 29 rfl)
theorem d_L_law_1278 : decode cL_law 1278 = .ok (.iadd, 1) := zo_96 (zby_w zwL_law_39 30 rfl)
theorem d_L_law_1279 : decode cL_law 1279 = .ok (.iaload, 1) := zo_46 (zby_w zwL_law_39 31 rfl)
theorem d_L_law_1280 : decode cL_law 1280 = .ok (.invokevirtual 160, 3) := zo_182 (a := 0) (b := 160) (zby_w zwL_law_40 0 rfl) (zby_w zwL_law_40 1 rfl) (zby_w zwL_law_40 2 rfl) (by decide)
theorem d_L_law_1283 : decode cL_law 1283 = .ok (.pop, 1) := zo_87 (zby_w zwL_law_40 3 rfl)
theorem d_L_law_1284 : decode cL_law 1284 = .ok (.goto 26, 3) := zo_167 (a := 0) (b := 26) (zby_w zwL_law_40 4 rfl) (zby_w zwL_law_40 5 rfl) (zby_w zwL_law_40 6 rfl) (by decide)
theorem d_L_law_1287 : decode cL_law 1287 = .ok (.aload_n 1, 1) := zo_43 (zby_w zwL_law_40 7 rfl)
theorem d_L_law_1288 : decode cL_law 1288 = .ok (.aload_n 0, 1) := zo_42 (zby_w zwL_law_40 8 rfl)
theorem d_L_law_1289 : decode cL_law 1289 = .ok (.iload_n 3, 1) := zo_29 (zby_w zwL_law_40 9 rfl)
theorem d_L_law_1290 : decode cL_law 1290 = .ok (.iconst 1, 1) := zo_4 (zby_w zwL_law_40 10 rfl)
theorem d_L_law_1291 : decode cL_law 1291 = .ok (.iadd, 1) := zo_96 (zby_w zwL_law_40 11 rfl)
theorem d_L_law_1292 : decode cL_law 1292 = .ok (.iaload, 1) := zo_46 (zby_w zwL_law_40 12 rfl)
theorem d_L_law_1293 : decode cL_law 1293 = .ok (.invokevirtual 161, 3) := zo_182 (a := 0) (b := 161) (zby_w zwL_law_40 13 rfl) (zby_w zwL_law_40 14 rfl) (zby_w zwL_law_40 15 rfl) (by decide)
theorem d_L_law_1296 : decode cL_law 1296 = .ok (.pop, 1) := zo_87 (zby_w zwL_law_40 16 rfl)
theorem d_L_law_1297 : decode cL_law 1297 = .ok (.aload_n 2, 1) := zo_44 (zby_w zwL_law_40 17 rfl)
theorem d_L_law_1298 : decode cL_law 1298 = .ok (.aload_n 0, 1) := zo_42 (zby_w zwL_law_40 18 rfl)
theorem d_L_law_1299 : decode cL_law 1299 = .ok (.iload_n 3, 1) := zo_29 (zby_w zwL_law_40 19 rfl)
theorem d_L_law_1300 : decode cL_law 1300 = .ok (.iconst 1, 1) := zo_4 (zby_w zwL_law_40 20 rfl)
theorem d_L_law_1301 : decode cL_law 1301 = .ok (.iadd, 1) := zo_96 (zby_w zwL_law_40 21 rfl)
theorem d_L_law_1302 : decode cL_law 1302 = .ok (.iaload, 1) := zo_46 (zby_w zwL_law_40 22 rfl)
theorem d_L_law_1303 : decode cL_law 1303 = .ok (.invokevirtual 164, 3) := zo_182 (a := 0) (b := 164) (zby_w zwL_law_40 23 rfl) (zby_w zwL_law_40 24 rfl) (zby_w zwL_law_40 25 rfl) (by decide)
theorem d_L_law_1306 : decode cL_law 1306 = .ok (.pop, 1) := zo_87 (zby_w zwL_law_40 26 rfl)
theorem d_L_law_1307 : decode cL_law 1307 = .ok (.goto 3, 3) := zo_167 (a := 0) (b := 3) (zby_w zwL_law_40 27 rfl) (zby_w zwL_law_40 28 rfl) (zby_w zwL_law_40 29 rfl) (by decide)
theorem d_L_law_1310 : decode cL_law 1310 = .ok (.iinc 3 6, 3) := by decide +kernel
theorem d_L_law_1313 : decode cL_law 1313 = .ok (.goto (-1295), 3) := zo_167 (a := 250) (b := 241) (zby_w zwL_law_41 1 rfl) (zby_w zwL_law_41 2 rfl) (zby_w zwL_law_41 3 rfl) (by decide)
theorem d_L_law_1316 : decode cL_law 1316 = .ok (.iconst 1, 1) := zo_4 (zby_w zwL_law_41 4 rfl)
theorem d_L_law_1317 : decode cL_law 1317 = .ok (.ireturn, 1) := zo_172 (zby_w zwL_law_41 5 rfl)
