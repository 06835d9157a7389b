set_option maxRecDepth 100000 in
theorem mc1_X8_ship : Cond.code yX8_ship cX8_ship 6 (some .int) ∈ zGW := zGt_1 239 rfl rfl
set_option maxRecDepth 100000 in
theorem vw_L_13 : zVW RL 13 yX8_ship cX8_ship 6 (some .int) 4 := ⟨mc1_X8_ship, zGt_1 236 rfl rfl, zGt_1 237 rfl rfl, zGt_1 238 rfl rfl, zGt_1 1 rfl rfl, by decide +kernel⟩
set_option maxRecDepth 100000 in
theorem mc1_X9_ship : Cond.code yX9_ship cX9_ship 5 (some .int) ∈ zGW := zGt_4 89 rfl rfl
set_option maxRecDepth 100000 in
theorem vw_L_17 : zVW RL 17 yX9_ship cX9_ship 5 (some .int) 4 := ⟨mc1_X9_ship, zGt_4 86 rfl rfl, zGt_4 87 rfl rfl, zGt_4 88 rfl rfl, zGt_1 10 rfl rfl, by decide +kernel⟩
set_option maxRecDepth 100000 in
theorem mc1_X8_scrap : Cond.code yX8_scrap cX8_scrap 3 (some .int) ∈ zGW := zGt_2 12 rfl rfl
set_option maxRecDepth 100000 in
theorem vw_L_18 : zVW RL 18 yX8_scrap cX8_scrap 3 (some .int) 1 := ⟨mc1_X8_scrap, zGt_2 9 rfl rfl, zGt_2 10 rfl rfl, zGt_2 11 rfl rfl, zGt_1 1 rfl rfl, by decide +kernel⟩
set_option maxRecDepth 100000 in
theorem mc1_X9_scrap : Cond.code yX9_scrap cX9_scrap 2 (some .int) ∈ zGW := zGt_4 106 rfl rfl
set_option maxRecDepth 100000 in
theorem vw_L_22 : zVW RL 22 yX9_scrap cX9_scrap 2 (some .int) 1 := ⟨mc1_X9_scrap, zGt_4 103 rfl rfl, zGt_4 104 rfl rfl, zGt_4 105 rfl rfl, zGt_1 10 rfl rfl, by decide +kernel⟩
set_option maxRecDepth 100000 in
theorem mc1_X8_set : Cond.code yX8_set cX8_set 4 (some .int) ∈ zGW := zGt_2 21 rfl rfl
set_option maxRecDepth 100000 in
theorem vw_L_23 : zVW RL 23 yX8_set cX8_set 4 (some .int) 2 := ⟨mc1_X8_set, zGt_2 18 rfl rfl, zGt_2 19 rfl rfl, zGt_2 20 rfl rfl, zGt_1 1 rfl rfl, by decide +kernel⟩
set_option maxRecDepth 100000 in
theorem mc1_X9_set : Cond.code yX9_set cX9_set 4 (some .int) ∈ zGW := zGt_4 114 rfl rfl
set_option maxRecDepth 100000 in
theorem vw_L_27 : zVW RL 27 yX9_set cX9_set 4 (some .int) 2 := ⟨mc1_X9_set, zGt_4 111 rfl rfl, zGt_4 112 rfl rfl, zGt_4 113 rfl rfl, zGt_1 10 rfl rfl, by decide +kernel⟩
set_option maxRecDepth 100000 in
theorem mc1_X8_say : Cond.code yX8_say cX8_say 2 (some .int) ∈ zGW := zGt_2 29 rfl rfl
set_option maxRecDepth 100000 in
theorem vw_L_28 : zVW RL 28 yX8_say cX8_say 2 (some .int) 1 := ⟨mc1_X8_say, zGt_2 26 rfl rfl, zGt_2 27 rfl rfl, zGt_2 28 rfl rfl, zGt_1 1 rfl rfl, by decide +kernel⟩
set_option maxRecDepth 100000 in
theorem mc1_X9_say : Cond.code yX9_say cX9_say 2 (some .int) ∈ zGW := zGt_4 126 rfl rfl
set_option maxRecDepth 100000 in
theorem vw_L_31 : zVW RL 31 yX9_say cX9_say 2 (some .int) 1 := ⟨mc1_X9_say, zGt_4 123 rfl rfl, zGt_4 124 rfl rfl, zGt_4 125 rfl rfl, zGt_1 10 rfl rfl, by decide +kernel⟩
set_option maxRecDepth 100000 in
theorem mc1_X8_wipe : Cond.code yX8_wipe cX8_wipe 1 (some .int) ∈ zGW := zGt_2 33 rfl rfl
set_option maxRecDepth 100000 in
theorem vw_L_32 : zVW RL 32 yX8_wipe cX8_wipe 1 (some .int) 0 := ⟨mc1_X8_wipe, zGt_2 30 rfl rfl, zGt_2 31 rfl rfl, zGt_2 32 rfl rfl, zGt_1 1 rfl rfl, by decide +kernel⟩
set_option maxRecDepth 100000 in
theorem mc1_X9_wipe : Cond.code yX9_wipe cX9_wipe 2 (some .int) ∈ zGW := zGt_4 132 rfl rfl
set_option maxRecDepth 100000 in
theorem vw_L_36 : zVW RL 36 yX9_wipe cX9_wipe 2 (some .int) 0 := ⟨mc1_X9_wipe, zGt_4 129 rfl rfl, zGt_4 130 rfl rfl, zGt_4 131 rfl rfl, zGt_1 10 rfl rfl, by decide +kernel⟩
set_option maxRecDepth 100000 in
theorem mc1_X8_fault : Cond.code yX8_fault cX8_fault 2 (some .int) ∈ zGW := zGt_2 41 rfl rfl
set_option maxRecDepth 100000 in
theorem vw_L_37 : zVW RL 37 yX8_fault cX8_fault 2 (some .int) 1 := ⟨mc1_X8_fault, zGt_2 38 rfl rfl, zGt_2 39 rfl rfl, zGt_2 40 rfl rfl, zGt_1 1 rfl rfl, by decide +kernel⟩
set_option maxRecDepth 100000 in
theorem mc1_X9_fault : Cond.code yX9_fault cX9_fault 2 (some .int) ∈ zGW := zGt_4 136 rfl rfl
set_option maxRecDepth 100000 in
theorem vw_L_40 : zVW RL 40 yX9_fault cX9_fault 2 (some .int) 1 := ⟨mc1_X9_fault, zGt_4 133 rfl rfl, zGt_4 134 rfl rfl, zGt_4 135 rfl rfl, zGt_1 10 rfl rfl, by decide +kernel⟩
set_option maxRecDepth 100000 in
theorem mc1_X8_tide : Cond.code yX8_tide cX8_tide 3 (some .int) ∈ zGW := zGt_2 70 rfl rfl
set_option maxRecDepth 100000 in
theorem vw_L_41 : zVW RL 41 yX8_tide cX8_tide 3 (some .int) 0 := ⟨mc1_X8_tide, zGt_2 67 rfl rfl, zGt_2 68 rfl rfl, zGt_2 69 rfl rfl, zGt_1 1 rfl rfl, by decide +kernel⟩
set_option maxRecDepth 100000 in
theorem mc1_X9_tide : Cond.code yX9_tide cX9_tide 2 (some .int) ∈ zGW := zGt_4 152 rfl rfl
set_option maxRecDepth 100000 in
theorem vw_L_44 : zVW RL 44 yX9_tide cX9_tide 2 (some .int) 0 := ⟨mc1_X9_tide, zGt_4 149 rfl rfl, zGt_4 150 rfl rfl, zGt_4 151 rfl rfl, zGt_1 10 rfl rfl, by decide +kernel⟩
set_option maxRecDepth 100000 in
theorem mc1_X8_judge : Cond.code yX8_judge cX8_judge 2 (some .int) ∈ zGW := zGt_2 77 rfl rfl
set_option maxRecDepth 100000 in
theorem vw_L_45 : zVW RL 45 yX8_judge cX8_judge 2 (some .int) 1 := ⟨mc1_X8_judge, zGt_2 74 rfl rfl, zGt_2 75 rfl rfl, zGt_2 76 rfl rfl, zGt_1 1 rfl rfl, by decide +kernel⟩
set_option maxRecDepth 100000 in
theorem mc1_X9_judge : Cond.code yX9_judge cX9_judge 2 (some .int) ∈ zGW := zGt_4 156 rfl rfl
set_option maxRecDepth 100000 in
theorem vw_L_48 : zVW RL 48 yX9_judge cX9_judge 2 (some .int) 1 := ⟨mc1_X9_judge, zGt_4 153 rfl rfl, zGt_4 154 rfl rfl, zGt_4 155 rfl rfl, zGt_1 10 rfl rfl, by decide +kernel⟩
set_option maxRecDepth 100000 in
theorem mc1_X8_state : Cond.code yX8_state cX8_state 3 (some .int) ∈ zGW := zGt_2 140 rfl rfl
set_option maxRecDepth 100000 in
theorem vw_L_49 : zVW RL 49 yX8_state cX8_state 3 (some .int) 2 := ⟨mc1_X8_state, zGt_2 137 rfl rfl, zGt_2 138 rfl rfl, zGt_2 139 rfl rfl, zGt_1 1 rfl rfl, by decide +kernel⟩
set_option maxRecDepth 100000 in
theorem mc1_X9_state : Cond.code yX9_state cX9_state 3 (some .int) ∈ zGW := zGt_4 199 rfl rfl
set_option maxRecDepth 100000 in
theorem vw_L_52 : zVW RL 52 yX9_state cX9_state 3 (some .int) 2 := ⟨mc1_X9_state, zGt_4 196 rfl rfl, zGt_4 197 rfl rfl, zGt_4 198 rfl rfl, zGt_1 10 rfl rfl, by decide +kernel⟩
set_option maxRecDepth 100000 in
theorem mc1_X8_behind : Cond.code yX8_behind cX8_behind 3 (some .int) ∈ zGW := zGt_2 148 rfl rfl
set_option maxRecDepth 100000 in
theorem vw_L_53 : zVW RL 53 yX8_behind cX8_behind 3 (some .int) 2 := ⟨mc1_X8_behind, zGt_2 145 rfl rfl, zGt_2 146 rfl rfl, zGt_2 147 rfl rfl, zGt_1 1 rfl rfl, by decide +kernel⟩
set_option maxRecDepth 100000 in
theorem mc1_X9_behind : Cond.code yX9_behind cX9_behind 4 (some .int) ∈ zGW := zGt_4 208 rfl rfl
set_option maxRecDepth 100000 in
theorem vw_L_56 : zVW RL 56 yX9_behind cX9_behind 4 (some .int) 2 := ⟨mc1_X9_behind, zGt_4 205 rfl rfl, zGt_4 206 rfl rfl, zGt_4 207 rfl rfl, zGt_1 10 rfl rfl, by decide +kernel⟩
set_option maxRecDepth 100000 in
theorem mc1_X8_done : Cond.code yX8_done cX8_done 1 (some .int) ∈ zGW := zGt_2 156 rfl rfl
set_option maxRecDepth 100000 in
theorem vw_L_57 : zVW RL 57 yX8_done cX8_done 1 (some .int) 0 := ⟨mc1_X8_done, zGt_2 153 rfl rfl, zGt_2 154 rfl rfl, zGt_2 155 rfl rfl, zGt_1 1 rfl rfl, by decide +kernel⟩
set_option maxRecDepth 100000 in
theorem mc1_X9_done : Cond.code yX9_done cX9_done 1 (some .int) ∈ zGW := zGt_4 212 rfl rfl
set_option maxRecDepth 100000 in
theorem vw_L_60 : zVW RL 60 yX9_done cX9_done 1 (some .int) 0 := ⟨mc1_X9_done, zGt_4 209 rfl rfl, zGt_4 210 rfl rfl, zGt_4 211 rfl rfl, zGt_1 10 rfl rfl, by decide +kernel⟩
set_option maxRecDepth 100000 in
theorem mc1_X8_sum : Cond.code yX8_sum cX8_sum 2 (some .int) ∈ zGW := zGt_2 161 rfl rfl
set_option maxRecDepth 100000 in
theorem vw_L_61 : zVW RL 61 yX8_sum cX8_sum 2 (some .int) 1 := ⟨mc1_X8_sum, zGt_2 158 rfl rfl, zGt_2 159 rfl rfl, zGt_2 160 rfl rfl, zGt_1 1 rfl rfl, by decide +kernel⟩
set_option maxRecDepth 100000 in
theorem mc1_X9_sum : Cond.code yX9_sum cX9_sum 2 (some .int) ∈ zGW := zGt_4 216 rfl rfl
set_option maxRecDepth 100000 in
theorem vw_L_64 : zVW RL 64 yX9_sum cX9_sum 2 (some .int) 1 := ⟨mc1_X9_sum, zGt_4 213 rfl rfl, zGt_4 214 rfl rfl, zGt_4 215 rfl rfl, zGt_1 10 rfl rfl, by decide +kernel⟩
set_option maxRecDepth 100000 in
theorem mc1_X8_mean : Cond.code yX8_mean cX8_mean 4 (some .int) ∈ zGW := zGt_2 165 rfl rfl
set_option maxRecDepth 100000 in
theorem vw_L_65 : zVW RL 65 yX8_mean cX8_mean 4 (some .int) 3 := ⟨mc1_X8_mean, zGt_2 162 rfl rfl, zGt_2 163 rfl rfl, zGt_2 164 rfl rfl, zGt_1 1 rfl rfl, by decide +kernel⟩
set_option maxRecDepth 100000 in
theorem mc1_X9_mean : Cond.code yX9_mean cX9_mean 4 (some .int) ∈ zGW := zGt_4 220 rfl rfl
set_option maxRecDepth 100000 in
theorem vw_L_69 : zVW RL 69 yX9_mean cX9_mean 4 (some .int) 3 := ⟨mc1_X9_mean, zGt_4 217 rfl rfl, zGt_4 218 rfl rfl, zGt_4 219 rfl rfl, zGt_1 10 rfl rfl, by decide +kernel⟩
set_option maxRecDepth 100000 in
theorem mc1_X8_worst : Cond.code yX8_worst cX8_worst 4 (some .int) ∈ zGW := zGt_2 184 rfl rfl
set_option maxRecDepth 100000 in
theorem vw_L_70 : zVW RL 70 yX8_worst cX8_worst 4 (some .int) 3 := ⟨mc1_X8_worst, zGt_2 181 rfl rfl, zGt_2 182 rfl rfl, zGt_2 183 rfl rfl, zGt_1 1 rfl rfl, by decide +kernel⟩
set_option maxRecDepth 100000 in
theorem mc1_X9_worst : Cond.code yX9_worst cX9_worst 4 (some .int) ∈ zGW := zGt_5 2 rfl rfl
set_option maxRecDepth 100000 in
theorem vw_L_73 : zVW RL 73 yX9_worst cX9_worst 4 (some .int) 3 := ⟨mc1_X9_worst, zGt_4 239 rfl rfl, zGt_5 0 rfl rfl, zGt_5 1 rfl rfl, zGt_1 10 rfl rfl, by decide +kernel⟩
set_option maxRecDepth 100000 in
theorem mc1_X8_choice : Cond.code yX8_choice cX8_choice 4 (some .int) ∈ zGW := zGt_2 192 rfl rfl
set_option maxRecDepth 100000 in
theorem vw_L_74 : zVW RL 74 yX8_choice cX8_choice 4 (some .int) 2 := ⟨mc1_X8_choice, zGt_2 189 rfl rfl, zGt_2 190 rfl rfl, zGt_2 191 rfl rfl, zGt_1 1 rfl rfl, by decide +kernel⟩
set_option maxRecDepth 100000 in
theorem mc1_X9_choice : Cond.code yX9_choice cX9_choice 3 (some .int) ∈ zGW := zGt_5 10 rfl rfl
set_option maxRecDepth 100000 in
theorem vw_L_77 : zVW RL 77 yX9_choice cX9_choice 3 (some .int) 2 := ⟨mc1_X9_choice, zGt_5 7 rfl rfl, zGt_5 8 rfl rfl, zGt_5 9 rfl rfl, zGt_1 10 rfl rfl, by decide +kernel⟩
set_option maxRecDepth 100000 in
theorem mc1_X8_held : Cond.code yX8_held cX8_held 9 (some .int) ∈ zGW := zGt_2 205 rfl rfl
set_option maxRecDepth 100000 in
theorem vw_L_78 : zVW RL 78 yX8_held cX8_held 9 (some .int) 3 := ⟨mc1_X8_held, zGt_2 202 rfl rfl, zGt_2 203 rfl rfl, zGt_2 204 rfl rfl, zGt_1 1 rfl rfl, by decide +kernel⟩
set_option maxRecDepth 100000 in
theorem mc1_X9_held : Cond.code yX9_held cX9_held 8 (some .int) ∈ zGW := zGt_5 18 rfl rfl
set_option maxRecDepth 100000 in
theorem vw_L_81 : zVW RL 81 yX9_held cX9_held 8 (some .int) 3 := ⟨mc1_X9_held, zGt_5 15 rfl rfl, zGt_5 16 rfl rfl, zGt_5 17 rfl rfl, zGt_1 10 rfl rfl, by decide +kernel⟩
set_option maxRecDepth 100000 in
theorem mc1_X8_bound : Cond.code yX8_bound cX8_bound 5 (some .int) ∈ zGW := zGt_2 214 rfl rfl
set_option maxRecDepth 100000 in
theorem vw_L_82 : zVW RL 82 yX8_bound cX8_bound 5 (some .int) 3 := ⟨mc1_X8_bound, zGt_2 211 rfl rfl, zGt_2 212 rfl rfl, zGt_2 213 rfl rfl, zGt_1 1 rfl rfl, by decide +kernel⟩
set_option maxRecDepth 100000 in
theorem mc1_X9_bound : Cond.code yX9_bound cX9_bound 7 (some .int) ∈ zGW := zGt_5 24 rfl rfl
set_option maxRecDepth 100000 in
theorem vw_L_85 : zVW RL 85 yX9_bound cX9_bound 7 (some .int) 3 := ⟨mc1_X9_bound, zGt_5 21 rfl rfl, zGt_5 22 rfl rfl, zGt_5 23 rfl rfl, zGt_1 10 rfl rfl, by decide +kernel⟩
set_option maxRecDepth 100000 in
theorem mc1_X8_line : Cond.code yX8_line cX8_line 5 (some .int) ∈ zGW := zGt_3 10 rfl rfl
set_option maxRecDepth 100000 in
theorem vw_L_86 : zVW RL 86 yX8_line cX8_line 5 (some .int) 3 := ⟨mc1_X8_line, zGt_3 7 rfl rfl, zGt_3 8 rfl rfl, zGt_3 9 rfl rfl, zGt_1 1 rfl rfl, by decide +kernel⟩
set_option maxRecDepth 100000 in
theorem mc1_X9_line : Cond.code yX9_line cX9_line 7 (some .int) ∈ zGW := zGt_5 41 rfl rfl
set_option maxRecDepth 100000 in
theorem vw_L_89 : zVW RL 89 yX9_line cX9_line 7 (some .int) 3 := ⟨mc1_X9_line, zGt_5 38 rfl rfl, zGt_5 39 rfl rfl, zGt_5 40 rfl rfl, zGt_1 10 rfl rfl, by decide +kernel⟩
set_option maxRecDepth 100000 in
theorem mc1_X8_convoy : Cond.code yX8_convoy cX8_convoy 4 (some .int) ∈ zGW := zGt_3 31 rfl rfl
set_option maxRecDepth 100000 in
theorem vw_L_90 : zVW RL 90 yX8_convoy cX8_convoy 4 (some .int) 2 := ⟨mc1_X8_convoy, zGt_3 28 rfl rfl, zGt_3 29 rfl rfl, zGt_3 30 rfl rfl, zGt_1 1 rfl rfl, by decide +kernel⟩
set_option maxRecDepth 100000 in
theorem mc1_X9_convoy : Cond.code yX9_convoy cX9_convoy 8 (some .int) ∈ zGW := zGt_5 53 rfl rfl
set_option maxRecDepth 100000 in
theorem vw_L_93 : zVW RL 93 yX9_convoy cX9_convoy 8 (some .int) 2 := ⟨mc1_X9_convoy, zGt_5 50 rfl rfl, zGt_5 51 rfl rfl, zGt_5 52 rfl rfl, zGt_1 10 rfl rfl, by decide +kernel⟩
set_option maxRecDepth 100000 in
theorem mc1_X8_captain : Cond.code yX8_captain cX8_captain 4 (some .int) ∈ zGW := zGt_3 44 rfl rfl
set_option maxRecDepth 100000 in
theorem vw_L_94 : zVW RL 94 yX8_captain cX8_captain 4 (some .int) 2 := ⟨mc1_X8_captain, zGt_3 41 rfl rfl, zGt_3 42 rfl rfl, zGt_3 43 rfl rfl, zGt_1 1 rfl rfl, by decide +kernel⟩
set_option maxRecDepth 100000 in
theorem mc1_X9_captain : Cond.code yX9_captain cX9_captain 3 (some .int) ∈ zGW := zGt_5 57 rfl rfl
set_option maxRecDepth 100000 in
theorem vw_L_97 : zVW RL 97 yX9_captain cX9_captain 3 (some .int) 2 := ⟨mc1_X9_captain, zGt_5 54 rfl rfl, zGt_5 55 rfl rfl, zGt_5 56 rfl rfl, zGt_1 10 rfl rfl, by decide +kernel⟩
set_option maxRecDepth 100000 in
theorem mc1_X8_persuaded : Cond.code yX8_persuaded cX8_persuaded 6 (some .int) ∈ zGW := zGt_3 60 rfl rfl
set_option maxRecDepth 100000 in
theorem vw_L_98 : zVW RL 98 yX8_persuaded cX8_persuaded 6 (some .int) 2 := ⟨mc1_X8_persuaded, zGt_3 57 rfl rfl, zGt_3 58 rfl rfl, zGt_3 59 rfl rfl, zGt_1 1 rfl rfl, by decide +kernel⟩
set_option maxRecDepth 100000 in
theorem mc1_X9_persuaded : Cond.code yX9_persuaded cX9_persuaded 5 (some .int) ∈ zGW := zGt_5 69 rfl rfl
set_option maxRecDepth 100000 in
theorem vw_L_101 : zVW RL 101 yX9_persuaded cX9_persuaded 5 (some .int) 2 := ⟨mc1_X9_persuaded, zGt_5 66 rfl rfl, zGt_5 67 rfl rfl, zGt_5 68 rfl rfl, zGt_1 10 rfl rfl, by decide +kernel⟩
set_option maxRecDepth 100000 in
theorem mc1_X8_offer : Cond.code yX8_offer cX8_offer 5 (some .int) ∈ zGW := zGt_3 64 rfl rfl
set_option maxRecDepth 100000 in
theorem vw_L_102 : zVW RL 102 yX8_offer cX8_offer 5 (some .int) 3 := ⟨mc1_X8_offer, zGt_3 61 rfl rfl, zGt_3 62 rfl rfl, zGt_3 63 rfl rfl, zGt_1 1 rfl rfl, by decide +kernel⟩
set_option maxRecDepth 100000 in
theorem mc1_X9_offer : Cond.code yX9_offer cX9_offer 4 (some .int) ∈ zGW := zGt_5 73 rfl rfl
set_option maxRecDepth 100000 in
theorem vw_L_105 : zVW RL 105 yX9_offer cX9_offer 4 (some .int) 3 := ⟨mc1_X9_offer, zGt_5 70 rfl rfl, zGt_5 71 rfl rfl, zGt_5 72 rfl rfl, zGt_1 10 rfl rfl, by decide +kernel⟩
set_option maxRecDepth 100000 in
theorem mc1_X8_noOffers : Cond.code yX8_noOffers cX8_noOffers 2 (some .int) ∈ zGW := zGt_3 68 rfl rfl
set_option maxRecDepth 100000 in
theorem vw_L_106 : zVW RL 106 yX8_noOffers cX8_noOffers 2 (some .int) 0 := ⟨mc1_X8_noOffers, zGt_3 65 rfl rfl, zGt_3 66 rfl rfl, zGt_3 67 rfl rfl, zGt_1 1 rfl rfl, by decide +kernel⟩
set_option maxRecDepth 100000 in
theorem mc1_X9_noOffers : Cond.code yX9_noOffers cX9_noOffers 2 (some .int) ∈ zGW := zGt_5 79 rfl rfl
set_option maxRecDepth 100000 in
theorem vw_L_109 : zVW RL 109 yX9_noOffers cX9_noOffers 2 (some .int) 0 := ⟨mc1_X9_noOffers, zGt_5 76 rfl rfl, zGt_5 77 rfl rfl, zGt_5 78 rfl rfl, zGt_1 10 rfl rfl, by decide +kernel⟩
set_option maxRecDepth 100000 in
theorem mc1_X8_insured : Cond.code yX8_insured cX8_insured 11 (some .int) ∈ zGW := zGt_3 72 rfl rfl
set_option maxRecDepth 100000 in
theorem vw_L_110 : zVW RL 110 yX8_insured cX8_insured 11 (some .int) 3 := ⟨mc1_X8_insured, zGt_3 69 rfl rfl, zGt_3 70 rfl rfl, zGt_3 71 rfl rfl, zGt_1 1 rfl rfl, by decide +kernel⟩
set_option maxRecDepth 100000 in
theorem mc1_X9_insured : Cond.code yX9_insured cX9_insured 10 (some .int) ∈ zGW := zGt_5 83 rfl rfl
set_option maxRecDepth 100000 in
theorem vw_L_113 : zVW RL 113 yX9_insured cX9_insured 10 (some .int) 3 := ⟨mc1_X9_insured, zGt_5 80 rfl rfl, zGt_5 81 rfl rfl, zGt_5 82 rfl rfl, zGt_1 10 rfl rfl, by decide +kernel⟩
set_option maxRecDepth 100000 in
theorem mc1_X8_aboard : Cond.code yX8_aboard cX8_aboard 3 (some .int) ∈ zGW := zGt_3 95 rfl rfl
set_option maxRecDepth 100000 in
theorem vw_L_114 : zVW RL 114 yX8_aboard cX8_aboard 3 (some .int) 2 := ⟨mc1_X8_aboard, zGt_3 92 rfl rfl, zGt_3 93 rfl rfl, zGt_3 94 rfl rfl, zGt_1 1 rfl rfl, by decide +kernel⟩
set_option maxRecDepth 100000 in
theorem mc1_X9_aboard : Cond.code yX9_aboard cX9_aboard 3 (some .int) ∈ zGW := zGt_5 96 rfl rfl
set_option maxRecDepth 100000 in
theorem vw_L_117 : zVW RL 117 yX9_aboard cX9_aboard 3 (some .int) 2 := ⟨mc1_X9_aboard, zGt_5 93 rfl rfl, zGt_5 94 rfl rfl, zGt_5 95 rfl rfl, zGt_1 10 rfl rfl, by decide +kernel⟩
set_option maxRecDepth 100000 in
theorem mc1_X8_ashore : Cond.code yX8_ashore cX8_ashore 2 (some .int) ∈ zGW := zGt_3 99 rfl rfl
set_option maxRecDepth 100000 in
theorem vw_L_118 : zVW RL 118 yX8_ashore cX8_ashore 2 (some .int) 1 := ⟨mc1_X8_ashore, zGt_3 96 rfl rfl, zGt_3 97 rfl rfl, zGt_3 98 rfl rfl, zGt_1 1 rfl rfl, by decide +kernel⟩
set_option maxRecDepth 100000 in
theorem mc1_X9_ashore : Cond.code yX9_ashore cX9_ashore 2 (some .int) ∈ zGW := zGt_5 100 rfl rfl
set_option maxRecDepth 100000 in
theorem vw_L_121 : zVW RL 121 yX9_ashore cX9_ashore 2 (some .int) 1 := ⟨mc1_X9_ashore, zGt_5 97 rfl rfl, zGt_5 98 rfl rfl, zGt_5 99 rfl rfl, zGt_1 10 rfl rfl, by decide +kernel⟩
set_option maxRecDepth 100000 in
theorem mc1_X8_lot : Cond.code yX8_lot cX8_lot 8 (some .long) ∈ zGW := zGt_3 108 rfl rfl
set_option maxRecDepth 100000 in
theorem vw_L_122 : zVW RL 122 yX8_lot cX8_lot 8 (some .long) 3 := ⟨mc1_X8_lot, zGt_3 105 rfl rfl, zGt_3 106 rfl rfl, zGt_3 107 rfl rfl, zGt_1 1 rfl rfl, by decide +kernel⟩
set_option maxRecDepth 100000 in
theorem mc1_X9_lot : Cond.code yX9_lot cX9_lot 7 (some .long) ∈ zGW := zGt_5 108 rfl rfl
set_option maxRecDepth 100000 in
theorem vw_L_126 : zVW RL 126 yX9_lot cX9_lot 7 (some .long) 3 := ⟨mc1_X9_lot, zGt_5 105 rfl rfl, zGt_5 106 rfl rfl, zGt_5 107 rfl rfl, zGt_1 10 rfl rfl, by decide +kernel⟩
set_option maxRecDepth 100000 in
theorem mc1_X8_often : Cond.code yX8_often cX8_often 9 (some .long) ∈ zGW := zGt_3 125 rfl rfl
set_option maxRecDepth 100000 in
theorem vw_L_127 : zVW RL 127 yX8_often cX8_often 9 (some .long) 5 := ⟨mc1_X8_often, zGt_3 122 rfl rfl, zGt_3 123 rfl rfl, zGt_3 124 rfl rfl, zGt_1 1 rfl rfl, by decide +kernel⟩
set_option maxRecDepth 100000 in
theorem mc1_X9_often : Cond.code yX9_often cX9_often 9 (some .long) ∈ zGW := zGt_5 117 rfl rfl
set_option maxRecDepth 100000 in
theorem vw_L_131 : zVW RL 131 yX9_often cX9_often 9 (some .long) 5 := ⟨mc1_X9_often, zGt_5 114 rfl rfl, zGt_5 115 rfl rfl, zGt_5 116 rfl rfl, zGt_1 10 rfl rfl, by decide +kernel⟩
set_option maxRecDepth 100000 in
theorem mc1_X8_roll : Cond.code yX8_roll cX8_roll 4 (some .int) ∈ zGW := zGt_3 135 rfl rfl
set_option maxRecDepth 100000 in
theorem vw_L_132 : zVW RL 132 yX8_roll cX8_roll 4 (some .int) 2 := ⟨mc1_X8_roll, zGt_3 132 rfl rfl, zGt_3 133 rfl rfl, zGt_3 134 rfl rfl, zGt_1 1 rfl rfl, by decide +kernel⟩
set_option maxRecDepth 100000 in
theorem mc1_X9_roll : Cond.code yX9_roll cX9_roll 3 (some .int) ∈ zGW := zGt_5 128 rfl rfl
set_option maxRecDepth 100000 in
theorem vw_L_135 : zVW RL 135 yX9_roll cX9_roll 3 (some .int) 2 := ⟨mc1_X9_roll, zGt_5 125 rfl rfl, zGt_5 126 rfl rfl, zGt_5 127 rfl rfl, zGt_1 10 rfl rfl, by decide +kernel⟩
set_option maxRecDepth 100000 in
theorem mc1_X8_forget : Cond.code yX8_forget cX8_forget 2 (some .int) ∈ zGW := zGt_3 139 rfl rfl
set_option maxRecDepth 100000 in
theorem vw_L_136 : zVW RL 136 yX8_forget cX8_forget 2 (some .int) 0 := ⟨mc1_X8_forget, zGt_3 136 rfl rfl, zGt_3 137 rfl rfl, zGt_3 138 rfl rfl, zGt_1 1 rfl rfl, by decide +kernel⟩
set_option maxRecDepth 100000 in
theorem mc1_X9_forget : Cond.code yX9_forget cX9_forget 2 (some .int) ∈ zGW := zGt_5 133 rfl rfl
set_option maxRecDepth 100000 in
theorem vw_L_139 : zVW RL 139 yX9_forget cX9_forget 2 (some .int) 0 := ⟨mc1_X9_forget, zGt_5 130 rfl rfl, zGt_5 131 rfl rfl, zGt_5 132 rfl rfl, zGt_1 10 rfl rfl, by decide +kernel⟩
set_option maxRecDepth 100000 in
theorem mc1_X8_twice : Cond.code yX8_twice cX8_twice 2 (some .int) ∈ zGW := zGt_3 143 rfl rfl
set_option maxRecDepth 100000 in
theorem vw_L_140 : zVW RL 140 yX8_twice cX8_twice 2 (some .int) 1 := ⟨mc1_X8_twice, zGt_3 140 rfl rfl, zGt_3 141 rfl rfl, zGt_3 142 rfl rfl, zGt_1 1 rfl rfl, by decide +kernel⟩
set_option maxRecDepth 100000 in
theorem mc1_X9_twice : Cond.code yX9_twice cX9_twice 8 (some .int) ∈ zGW := zGt_5 137 rfl rfl
set_option maxRecDepth 100000 in
theorem vw_L_143 : zVW RL 143 yX9_twice cX9_twice 8 (some .int) 1 := ⟨mc1_X9_twice, zGt_5 134 rfl rfl, zGt_5 135 rfl rfl, zGt_5 136 rfl rfl, zGt_1 10 rfl rfl, by decide +kernel⟩
set_option maxRecDepth 100000 in
theorem mc1_X8_burnt : Cond.code yX8_burnt cX8_burnt 5 (some .long) ∈ zGW := zGt_3 155 rfl rfl
set_option maxRecDepth 100000 in
theorem vw_L_144 : zVW RL 144 yX8_burnt cX8_burnt 5 (some .long) 0 := ⟨mc1_X8_burnt, zGt_3 152 rfl rfl, zGt_3 153 rfl rfl, zGt_3 154 rfl rfl, zGt_1 1 rfl rfl, by decide +kernel⟩
set_option maxRecDepth 100000 in
theorem mc1_X9_burnt : Cond.code yX9_burnt cX9_burnt 5 (some .long) ∈ zGW := zGt_5 141 rfl rfl
set_option maxRecDepth 100000 in
theorem vw_L_148 : zVW RL 148 yX9_burnt cX9_burnt 5 (some .long) 0 := ⟨mc1_X9_burnt, zGt_5 138 rfl rfl, zGt_5 139 rfl rfl, zGt_5 140 rfl rfl, zGt_1 10 rfl rfl, by decide +kernel⟩
set_option maxRecDepth 100000 in
theorem mc1_X8_years : Cond.code yX8_years cX8_years 9 (some .int) ∈ zGW := zGt_3 159 rfl rfl
set_option maxRecDepth 100000 in
theorem vw_L_149 : zVW RL 149 yX8_years cX8_years 9 (some .int) 4 := ⟨mc1_X8_years, zGt_3 156 rfl rfl, zGt_3 157 rfl rfl, zGt_3 158 rfl rfl, zGt_1 1 rfl rfl, by decide +kernel⟩
set_option maxRecDepth 100000 in
theorem mc1_X9_years : Cond.code yX9_years cX9_years 8 (some .int) ∈ zGW := zGt_5 145 rfl rfl
set_option maxRecDepth 100000 in
theorem vw_L_152 : zVW RL 152 yX9_years cX9_years 8 (some .int) 4 := ⟨mc1_X9_years, zGt_5 142 rfl rfl, zGt_5 143 rfl rfl, zGt_5 144 rfl rfl, zGt_1 10 rfl rfl, by decide +kernel⟩
set_option maxRecDepth 100000 in
theorem mc1_X8_image : Cond.code yX8_image cX8_image 2 (some .int) ∈ zGW := zGt_3 165 rfl rfl
set_option maxRecDepth 100000 in
theorem vw_L_153 : zVW RL 153 yX8_image cX8_image 2 (some .int) 1 := ⟨mc1_X8_image, zGt_3 162 rfl rfl, zGt_3 163 rfl rfl, zGt_3 164 rfl rfl, zGt_1 1 rfl rfl, by decide +kernel⟩
set_option maxRecDepth 100000 in
theorem mc1_X9_image : Cond.code yX9_image cX9_image 2 (some .int) ∈ zGW := zGt_5 150 rfl rfl
set_option maxRecDepth 100000 in
theorem vw_L_156 : zVW RL 156 yX9_image cX9_image 2 (some .int) 1 := ⟨mc1_X9_image, zGt_5 147 rfl rfl, zGt_5 148 rfl rfl, zGt_5 149 rfl rfl, zGt_1 10 rfl rfl, by decide +kernel⟩
set_option maxRecDepth 100000 in
theorem mc1_X8_restore : Cond.code yX8_restore cX8_restore 2 (some .int) ∈ zGW := zGt_3 193 rfl rfl
set_option maxRecDepth 100000 in
theorem vw_L_157 : zVW RL 157 yX8_restore cX8_restore 2 (some .int) 1 := ⟨mc1_X8_restore, zGt_3 190 rfl rfl, zGt_3 191 rfl rfl, zGt_3 192 rfl rfl, zGt_1 1 rfl rfl, by decide +kernel⟩
set_option maxRecDepth 100000 in
theorem mc1_X9_restore : Cond.code yX9_restore cX9_restore 2 (some .int) ∈ zGW := zGt_5 166 rfl rfl
set_option maxRecDepth 100000 in
theorem vw_L_160 : zVW RL 160 yX9_restore cX9_restore 2 (some .int) 1 := ⟨mc1_X9_restore, zGt_5 163 rfl rfl, zGt_5 164 rfl rfl, zGt_5 165 rfl rfl, zGt_1 10 rfl rfl, by decide +kernel⟩
set_option maxRecDepth 100000 in
theorem mc1_X8_told : Cond.code yX8_told cX8_told 2 (some .int) ∈ zGW := zGt_3 197 rfl rfl
set_option maxRecDepth 100000 in
theorem vw_L_161 : zVW RL 161 yX8_told cX8_told 2 (some .int) 1 := ⟨mc1_X8_told, zGt_3 194 rfl rfl, zGt_3 195 rfl rfl, zGt_3 196 rfl rfl, zGt_1 1 rfl rfl, by decide +kernel⟩
set_option maxRecDepth 100000 in
theorem mc1_X9_told : Cond.code yX9_told cX9_told 2 (some .int) ∈ zGW := zGt_5 170 rfl rfl
set_option maxRecDepth 100000 in
theorem vw_L_164 : zVW RL 164 yX9_told cX9_told 2 (some .int) 1 := ⟨mc1_X9_told, zGt_5 167 rfl rfl, zGt_5 168 rfl rfl, zGt_5 169 rfl rfl, zGt_1 10 rfl rfl, by decide +kernel⟩
def zchL_law_0 : List UInt8 := [187, 0, 7, 89, 183, 0, 9, 76, 187, 0, 10, 89, 183, 0, 12, 77, 3, 62, 29, 42, 190, 16, 6, 100, 163, 5, 13, 42, 29, 46, 16, 63, 126, 170, 0, 0]
theorem zwL_law_0 : (cL_law.data.toList.drop 0).take 36 = zchL_law_0 := by decide +kernel
def zchL_law_1 : List UInt8 := [126, 170, 0, 0, 0, 0, 4, 254, 0, 0, 0, 0, 0, 0, 0, 35, 0, 0, 0, 159, 0, 0, 0, 212, 0, 0, 0, 235, 0, 0, 1, 12, 0, 0, 1, 35]
theorem zwL_law_1 : (cL_law.data.toList.drop 32).take 36 = zchL_law_1 := by decide +kernel
def zchL_law_6 : List UInt8 := [43, 42, 29, 4, 96, 46, 42, 29, 5, 96, 46, 42, 29, 6, 96, 46, 42, 29, 7, 96, 46, 182, 0, 13, 87, 44, 42, 29, 4, 96, 46, 42, 29, 5, 96, 46]
theorem zwL_law_6 : (cL_law.data.toList.drop 192).take 36 = zchL_law_6 := by decide +kernel
def zchL_law_7 : List UInt8 := [29, 5, 96, 46, 42, 29, 6, 96, 46, 42, 29, 7, 96, 46, 182, 0, 17, 87, 167, 4, 45, 43, 42, 29, 4, 96, 46, 182, 0, 18, 87, 44, 42, 29, 4, 96]
theorem zwL_law_7 : (cL_law.data.toList.drop 224).take 36 = zchL_law_7 := by decide +kernel
def zchL_law_8 : List UInt8 := [42, 29, 4, 96, 46, 182, 0, 22, 87, 167, 4, 22, 43, 42, 29, 4, 96, 46, 42, 29, 5, 96, 46, 182, 0, 23, 87, 44, 42, 29, 4, 96, 46, 42, 29, 5]
theorem zwL_law_8 : (cL_law.data.toList.drop 256).take 36 = zchL_law_8 := by decide +kernel
def zchL_law_9 : List UInt8 := [46, 42, 29, 5, 96, 46, 182, 0, 27, 87, 167, 3, 245, 43, 42, 29, 4, 96, 46, 182, 0, 28, 87, 44, 42, 29, 4, 96, 46, 182, 0, 31, 87, 167, 3, 222]
theorem zwL_law_9 : (cL_law.data.toList.drop 288).take 36 = zchL_law_9 := by decide +kernel
def zchL_law_10 : List UInt8 := [87, 167, 3, 222, 43, 182, 0, 32, 87, 44, 182, 0, 36, 87, 167, 3, 209, 43, 42, 29, 4, 96, 46, 182, 0, 37, 87, 44, 42, 29, 4, 96, 46, 182, 0, 40]
theorem zwL_law_10 : (cL_law.data.toList.drop 320).take 36 = zchL_law_10 := by decide +kernel
def zchL_law_11 : List UInt8 := [46, 182, 0, 40, 87, 167, 3, 186, 43, 182, 0, 41, 87, 44, 182, 0, 44, 87, 167, 3, 173, 43, 42, 29, 4, 96, 46, 182, 0, 45, 87, 44, 42, 29, 4, 96]
theorem zwL_law_11 : (cL_law.data.toList.drop 352).take 36 = zchL_law_11 := by decide +kernel
def zchL_law_12 : List UInt8 := [42, 29, 4, 96, 46, 182, 0, 48, 87, 167, 3, 150, 43, 42, 29, 4, 96, 46, 42, 29, 5, 96, 46, 182, 0, 49, 87, 44, 42, 29, 4, 96, 46, 42, 29, 5]
theorem zwL_law_12 : (cL_law.data.toList.drop 384).take 36 = zchL_law_12 := by decide +kernel
def zchL_law_13 : List UInt8 := [46, 42, 29, 5, 96, 46, 182, 0, 52, 87, 167, 3, 117, 43, 42, 29, 4, 96, 46, 42, 29, 5, 96, 46, 182, 0, 53, 87, 44, 42, 29, 4, 96, 46, 42, 29]
theorem zwL_law_13 : (cL_law.data.toList.drop 416).take 36 = zchL_law_13 := by decide +kernel
def zchL_law_14 : List UInt8 := [96, 46, 42, 29, 5, 96, 46, 182, 0, 56, 87, 167, 3, 84, 43, 182, 0, 57, 87, 44, 182, 0, 60, 87, 167, 3, 71, 43, 42, 29, 4, 96, 46, 182, 0, 61]
theorem zwL_law_14 : (cL_law.data.toList.drop 448).take 36 = zchL_law_14 := by decide +kernel
def zchL_law_15 : List UInt8 := [46, 182, 0, 61, 87, 44, 42, 29, 4, 96, 46, 182, 0, 64, 87, 167, 3, 48, 43, 42, 29, 4, 96, 46, 42, 29, 5, 96, 46, 42, 29, 6, 96, 46, 182, 0]
theorem zwL_law_15 : (cL_law.data.toList.drop 480).take 36 = zchL_law_15 := by decide +kernel
def zchL_law_16 : List UInt8 := [96, 46, 182, 0, 65, 87, 44, 42, 29, 4, 96, 46, 42, 29, 5, 96, 46, 42, 29, 6, 96, 46, 182, 0, 69, 87, 167, 3, 5, 43, 42, 29, 4, 96, 46, 42]
theorem zwL_law_16 : (cL_law.data.toList.drop 512).take 36 = zchL_law_16 := by decide +kernel
def zchL_law_17 : List UInt8 := [4, 96, 46, 42, 29, 5, 96, 46, 42, 29, 6, 96, 46, 182, 0, 70, 87, 44, 42, 29, 4, 96, 46, 42, 29, 5, 96, 46, 42, 29, 6, 96, 46, 182, 0, 73]
theorem zwL_law_17 : (cL_law.data.toList.drop 544).take 36 = zchL_law_17 := by decide +kernel
def zchL_law_18 : List UInt8 := [46, 182, 0, 73, 87, 167, 2, 218, 43, 42, 29, 4, 96, 46, 42, 29, 5, 96, 46, 182, 0, 74, 87, 44, 42, 29, 4, 96, 46, 42, 29, 5, 96, 46, 182, 0]
theorem zwL_law_18 : (cL_law.data.toList.drop 576).take 36 = zchL_law_18 := by decide +kernel
def zchL_law_19 : List UInt8 := [96, 46, 182, 0, 77, 87, 167, 2, 185, 43, 42, 29, 4, 96, 46, 42, 29, 5, 96, 46, 42, 29, 6, 96, 46, 182, 0, 78, 87, 44, 42, 29, 4, 96, 46, 42]
theorem zwL_law_19 : (cL_law.data.toList.drop 608).take 36 = zchL_law_19 := by decide +kernel
def zchL_law_20 : List UInt8 := [4, 96, 46, 42, 29, 5, 96, 46, 42, 29, 6, 96, 46, 182, 0, 81, 87, 167, 2, 142, 43, 42, 29, 4, 96, 46, 42, 29, 5, 96, 46, 42, 29, 6, 96, 46]
theorem zwL_law_20 : (cL_law.data.toList.drop 640).take 36 = zchL_law_20 := by decide +kernel
def zchL_law_21 : List UInt8 := [29, 6, 96, 46, 182, 0, 82, 87, 44, 42, 29, 4, 96, 46, 42, 29, 5, 96, 46, 42, 29, 6, 96, 46, 182, 0, 85, 87, 167, 2, 99, 43, 42, 29, 4, 96]
theorem zwL_law_21 : (cL_law.data.toList.drop 672).take 36 = zchL_law_21 := by decide +kernel
def zchL_law_22 : List UInt8 := [42, 29, 4, 96, 46, 42, 29, 5, 96, 46, 42, 29, 6, 96, 46, 182, 0, 86, 87, 44, 42, 29, 4, 96, 46, 42, 29, 5, 96, 46, 42, 29, 6, 96, 46, 182]
theorem zwL_law_22 : (cL_law.data.toList.drop 704).take 36 = zchL_law_22 := by decide +kernel
def zchL_law_23 : List UInt8 := [6, 96, 46, 182, 0, 89, 87, 167, 2, 56, 43, 42, 29, 4, 96, 46, 42, 29, 5, 96, 46, 182, 0, 90, 87, 44, 42, 29, 4, 96, 46, 42, 29, 5, 96, 46]
theorem zwL_law_23 : (cL_law.data.toList.drop 736).take 36 = zchL_law_23 := by decide +kernel
def zchL_law_24 : List UInt8 := [29, 5, 96, 46, 182, 0, 93, 87, 167, 2, 23, 43, 42, 29, 4, 96, 46, 42, 29, 5, 96, 46, 182, 0, 94, 87, 44, 42, 29, 4, 96, 46, 42, 29, 5, 96]
theorem zwL_law_24 : (cL_law.data.toList.drop 768).take 36 = zchL_law_24 := by decide +kernel
def zchL_law_25 : List UInt8 := [42, 29, 5, 96, 46, 182, 0, 97, 87, 167, 1, 246, 43, 42, 29, 4, 96, 46, 42, 29, 5, 96, 46, 182, 0, 98, 87, 44, 42, 29, 4, 96, 46, 42, 29, 5]
theorem zwL_law_25 : (cL_law.data.toList.drop 800).take 36 = zchL_law_25 := by decide +kernel
def zchL_law_26 : List UInt8 := [46, 42, 29, 5, 96, 46, 182, 0, 101, 87, 167, 1, 213, 43, 42, 29, 4, 96, 46, 42, 29, 5, 96, 46, 42, 29, 6, 96, 46, 182, 0, 102, 87, 44, 42, 29]
theorem zwL_law_26 : (cL_law.data.toList.drop 832).take 36 = zchL_law_26 := by decide +kernel
def zchL_law_27 : List UInt8 := [87, 44, 42, 29, 4, 96, 46, 42, 29, 5, 96, 46, 42, 29, 6, 96, 46, 182, 0, 105, 87, 167, 1, 170, 43, 182, 0, 106, 87, 44, 182, 0, 109, 87, 167, 1]
theorem zwL_law_27 : (cL_law.data.toList.drop 864).take 36 = zchL_law_27 := by decide +kernel
def zchL_law_28 : List UInt8 := [109, 87, 167, 1, 157, 43, 42, 29, 4, 96, 46, 42, 29, 5, 96, 46, 42, 29, 6, 96, 46, 182, 0, 110, 87, 44, 42, 29, 4, 96, 46, 42, 29, 5, 96, 46]
theorem zwL_law_28 : (cL_law.data.toList.drop 896).take 36 = zchL_law_28 := by decide +kernel
def zchL_law_29 : List UInt8 := [29, 5, 96, 46, 42, 29, 6, 96, 46, 182, 0, 113, 87, 167, 1, 114, 43, 42, 29, 4, 96, 46, 42, 29, 5, 96, 46, 182, 0, 114, 87, 44, 42, 29, 4, 96]
theorem zwL_law_29 : (cL_law.data.toList.drop 928).take 36 = zchL_law_29 := by decide +kernel
def zchL_law_30 : List UInt8 := [42, 29, 4, 96, 46, 42, 29, 5, 96, 46, 182, 0, 117, 87, 167, 1, 81, 43, 42, 29, 4, 96, 46, 182, 0, 118, 87, 44, 42, 29, 4, 96, 46, 182, 0, 121]
theorem zwL_law_30 : (cL_law.data.toList.drop 960).take 36 = zchL_law_30 := by decide +kernel
def zchL_law_31 : List UInt8 := [46, 182, 0, 121, 87, 167, 1, 58, 43, 42, 29, 4, 96, 46, 42, 29, 5, 96, 46, 42, 29, 6, 96, 46, 182, 0, 122, 88, 44, 42, 29, 4, 96, 46, 42, 29]
theorem zwL_law_31 : (cL_law.data.toList.drop 992).take 36 = zchL_law_31 := by decide +kernel
def zchL_law_32 : List UInt8 := [96, 46, 42, 29, 5, 96, 46, 42, 29, 6, 96, 46, 182, 0, 126, 88, 167, 1, 15, 43, 42, 29, 4, 96, 46, 42, 29, 5, 96, 46, 42, 29, 6, 96, 46, 42]
theorem zwL_law_32 : (cL_law.data.toList.drop 1024).take 36 = zchL_law_32 := by decide +kernel
def zchL_law_33 : List UInt8 := [6, 96, 46, 42, 29, 7, 96, 46, 42, 29, 8, 96, 46, 182, 0, 127, 44, 42, 29, 4, 96, 46, 42, 29, 5, 96, 46, 42, 29, 6, 96, 46, 42, 29, 7, 96]
theorem zwL_law_33 : (cL_law.data.toList.drop 1056).take 36 = zchL_law_33 := by decide +kernel
def zchL_law_34 : List UInt8 := [42, 29, 7, 96, 46, 42, 29, 8, 96, 46, 182, 0, 131, 148, 153, 0, 209, 3, 172, 43, 42, 29, 4, 96, 46, 42, 29, 5, 96, 46, 182, 0, 132, 87, 44, 42]
theorem zwL_law_34 : (cL_law.data.toList.drop 1088).take 36 = zchL_law_34 := by decide +kernel
def zchL_law_35 : List UInt8 := [132, 87, 44, 42, 29, 4, 96, 46, 42, 29, 5, 96, 46, 182, 0, 135, 87, 167, 0, 174, 43, 182, 0, 136, 87, 44, 182, 0, 139, 87, 167, 0, 161, 43, 42, 29]
theorem zwL_law_35 : (cL_law.data.toList.drop 1120).take 36 = zchL_law_35 := by decide +kernel
def zchL_law_36 : List UInt8 := [161, 43, 42, 29, 4, 96, 46, 182, 0, 140, 87, 44, 42, 29, 4, 96, 46, 182, 0, 143, 87, 167, 0, 138, 43, 182, 0, 144, 88, 44, 182, 0, 148, 88, 167, 0]
theorem zwL_law_36 : (cL_law.data.toList.drop 1152).take 36 = zchL_law_36 := by decide +kernel
def zchL_law_37 : List UInt8 := [148, 88, 167, 0, 125, 43, 42, 29, 4, 96, 46, 42, 29, 5, 96, 46, 42, 29, 6, 96, 46, 42, 29, 7, 96, 46, 182, 0, 149, 87, 44, 42, 29, 4, 96, 46]
theorem zwL_law_37 : (cL_law.data.toList.drop 1184).take 36 = zchL_law_37 := by decide +kernel
def zchL_law_38 : List UInt8 := [29, 4, 96, 46, 42, 29, 5, 96, 46, 42, 29, 6, 96, 46, 42, 29, 7, 96, 46, 182, 0, 152, 87, 167, 0, 72, 43, 42, 29, 4, 96, 46, 182, 0, 153, 87]
theorem zwL_law_38 : (cL_law.data.toList.drop 1216).take 36 = zchL_law_38 := by decide +kernel
def zchL_law_39 : List UInt8 := [182, 0, 153, 87, 44, 42, 29, 4, 96, 46, 182, 0, 156, 87, 167, 0, 49, 43, 42, 29, 4, 96, 46, 182, 0, 157, 87, 44, 42, 29, 4, 96, 46, 182, 0, 160]
theorem zwL_law_39 : (cL_law.data.toList.drop 1248).take 36 = zchL_law_39 := by decide +kernel
def zchL_law_40 : List UInt8 := [46, 182, 0, 160, 87, 167, 0, 26, 43, 42, 29, 4, 96, 46, 182, 0, 161, 87, 44, 42, 29, 4, 96, 46, 182, 0, 164, 87, 167, 0, 3, 132, 3, 6, 167, 250]
theorem zwL_law_40 : (cL_law.data.toList.drop 1280).take 36 = zchL_law_40 := by decide +kernel
def zchL_law_41 : List UInt8 := [3, 6, 167, 250, 240, 4, 172]
theorem zwL_law_41 : (cL_law.data.toList.drop 1312).take 36 = zchL_law_41 := by decide +kernel
theorem d_L_law_33 : decode cL_law 33 = .ok (.tableswitch 1278 0 35 #[159, 212, 235, 268, 291, 304, 327, 340, 363, 396, 429, 442, 465, 508, 551, 584, 627, 670, 713, 746, 779, 812, 855, 868, 911, 944, 967, 1010, 1074, 1107, 1120, 1143, 1156, 1209, 1232, 1255], 159) := by decide +kernel
theorem d_L_law_1311 : decode cL_law 1311 = .ok (.iinc 3 6, 3) := by decide +kernel
