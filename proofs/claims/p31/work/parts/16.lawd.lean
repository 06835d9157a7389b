theorem mc1_X8_ship : Cond.code yX8_ship cX8_ship 6 (some .int) ∈ zGW := zGW_in 285 (by decide +kernel) (by decide +kernel)
theorem vw_L_13 : zVW RL 13 yX8_ship cX8_ship 6 (some .int) 4 := ⟨mc1_X8_ship, zGW_in 282 (by decide +kernel) (by decide +kernel), zGW_in 283 (by decide +kernel) (by decide +kernel), zGW_in 284 (by decide +kernel) (by decide +kernel), zGW_in 47 (by decide +kernel) (by decide +kernel), by decide +kernel⟩
theorem mc1_X9_ship : Cond.code yX9_ship cX9_ship 5 (some .int) ∈ zGW := zGW_in 855 (by decide +kernel) (by decide +kernel)
theorem vw_L_17 : zVW RL 17 yX9_ship cX9_ship 5 (some .int) 4 := ⟨mc1_X9_ship, zGW_in 852 (by decide +kernel) (by decide +kernel), zGW_in 853 (by decide +kernel) (by decide +kernel), zGW_in 854 (by decide +kernel) (by decide +kernel), zGW_in 56 (by decide +kernel) (by decide +kernel), by decide +kernel⟩
theorem mc1_X8_scrap : Cond.code yX8_scrap cX8_scrap 3 (some .int) ∈ zGW := zGW_in 298 (by decide +kernel) (by decide +kernel)
theorem vw_L_18 : zVW RL 18 yX8_scrap cX8_scrap 3 (some .int) 1 := ⟨mc1_X8_scrap, zGW_in 295 (by decide +kernel) (by decide +kernel), zGW_in 296 (by decide +kernel) (by decide +kernel), zGW_in 297 (by decide +kernel) (by decide +kernel), zGW_in 47 (by decide +kernel) (by decide +kernel), by decide +kernel⟩
theorem mc1_X9_scrap : Cond.code yX9_scrap cX9_scrap 2 (some .int) ∈ zGW := zGW_in 872 (by decide +kernel) (by decide +kernel)
theorem vw_L_22 : zVW RL 22 yX9_scrap cX9_scrap 2 (some .int) 1 := ⟨mc1_X9_scrap, zGW_in 869 (by decide +kernel) (by decide +kernel), zGW_in 870 (by decide +kernel) (by decide +kernel), zGW_in 871 (by decide +kernel) (by decide +kernel), zGW_in 56 (by decide +kernel) (by decide +kernel), by decide +kernel⟩
theorem mc1_X8_set : Cond.code yX8_set cX8_set 4 (some .int) ∈ zGW := zGW_in 307 (by decide +kernel) (by decide +kernel)
theorem vw_L_23 : zVW RL 23 yX8_set cX8_set 4 (some .int) 2 := ⟨mc1_X8_set, zGW_in 304 (by decide +kernel) (by decide +kernel), zGW_in 305 (by decide +kernel) (by decide +kernel), zGW_in 306 (by decide +kernel) (by decide +kernel), zGW_in 47 (by decide +kernel) (by decide +kernel), by decide +kernel⟩
theorem mc1_X9_set : Cond.code yX9_set cX9_set 4 (some .int) ∈ zGW := zGW_in 880 (by decide +kernel) (by decide +kernel)
theorem vw_L_27 : zVW RL 27 yX9_set cX9_set 4 (some .int) 2 := ⟨mc1_X9_set, zGW_in 877 (by decide +kernel) (by decide +kernel), zGW_in 878 (by decide +kernel) (by decide +kernel), zGW_in 879 (by decide +kernel) (by decide +kernel), zGW_in 56 (by decide +kernel) (by decide +kernel), by decide +kernel⟩
theorem mc1_X8_say : Cond.code yX8_say cX8_say 2 (some .int) ∈ zGW := zGW_in 315 (by decide +kernel) (by decide +kernel)
theorem vw_L_28 : zVW RL 28 yX8_say cX8_say 2 (some .int) 1 := ⟨mc1_X8_say, zGW_in 312 (by decide +kernel) (by decide +kernel), zGW_in 313 (by decide +kernel) (by decide +kernel), zGW_in 314 (by decide +kernel) (by decide +kernel), zGW_in 47 (by decide +kernel) (by decide +kernel), by decide +kernel⟩
theorem mc1_X9_say : Cond.code yX9_say cX9_say 2 (some .int) ∈ zGW := zGW_in 892 (by decide +kernel) (by decide +kernel)
theorem vw_L_31 : zVW RL 31 yX9_say cX9_say 2 (some .int) 1 := ⟨mc1_X9_say, zGW_in 889 (by decide +kernel) (by decide +kernel), zGW_in 890 (by decide +kernel) (by decide +kernel), zGW_in 891 (by decide +kernel) (by decide +kernel), zGW_in 56 (by decide +kernel) (by decide +kernel), by decide +kernel⟩
theorem mc1_X8_wipe : Cond.code yX8_wipe cX8_wipe 1 (some .int) ∈ zGW := zGW_in 319 (by decide +kernel) (by decide +kernel)
theorem vw_L_32 : zVW RL 32 yX8_wipe cX8_wipe 1 (some .int) 0 := ⟨mc1_X8_wipe, zGW_in 316 (by decide +kernel) (by decide +kernel), zGW_in 317 (by decide +kernel) (by decide +kernel), zGW_in 318 (by decide +kernel) (by decide +kernel), zGW_in 47 (by decide +kernel) (by decide +kernel), by decide +kernel⟩
theorem mc1_X9_wipe : Cond.code yX9_wipe cX9_wipe 2 (some .int) ∈ zGW := zGW_in 898 (by decide +kernel) (by decide +kernel)
theorem vw_L_36 : zVW RL 36 yX9_wipe cX9_wipe 2 (some .int) 0 := ⟨mc1_X9_wipe, zGW_in 895 (by decide +kernel) (by decide +kernel), zGW_in 896 (by decide +kernel) (by decide +kernel), zGW_in 897 (by decide +kernel) (by decide +kernel), zGW_in 56 (by decide +kernel) (by decide +kernel), by decide +kernel⟩
theorem mc1_X8_fault : Cond.code yX8_fault cX8_fault 2 (some .int) ∈ zGW := zGW_in 327 (by decide +kernel) (by decide +kernel)
theorem vw_L_37 : zVW RL 37 yX8_fault cX8_fault 2 (some .int) 1 := ⟨mc1_X8_fault, zGW_in 324 (by decide +kernel) (by decide +kernel), zGW_in 325 (by decide +kernel) (by decide +kernel), zGW_in 326 (by decide +kernel) (by decide +kernel), zGW_in 47 (by decide +kernel) (by decide +kernel), by decide +kernel⟩
theorem mc1_X9_fault : Cond.code yX9_fault cX9_fault 2 (some .int) ∈ zGW := zGW_in 902 (by decide +kernel) (by decide +kernel)
theorem vw_L_40 : zVW RL 40 yX9_fault cX9_fault 2 (some .int) 1 := ⟨mc1_X9_fault, zGW_in 899 (by decide +kernel) (by decide +kernel), zGW_in 900 (by decide +kernel) (by decide +kernel), zGW_in 901 (by decide +kernel) (by decide +kernel), zGW_in 56 (by decide +kernel) (by decide +kernel), by decide +kernel⟩
theorem mc1_X8_tide : Cond.code yX8_tide cX8_tide 3 (some .int) ∈ zGW := zGW_in 356 (by decide +kernel) (by decide +kernel)
theorem vw_L_41 : zVW RL 41 yX8_tide cX8_tide 3 (some .int) 0 := ⟨mc1_X8_tide, zGW_in 353 (by decide +kernel) (by decide +kernel), zGW_in 354 (by decide +kernel) (by decide +kernel), zGW_in 355 (by decide +kernel) (by decide +kernel), zGW_in 47 (by decide +kernel) (by decide +kernel), by decide +kernel⟩
theorem mc1_X9_tide : Cond.code yX9_tide cX9_tide 2 (some .int) ∈ zGW := zGW_in 918 (by decide +kernel) (by decide +kernel)
theorem vw_L_44 : zVW RL 44 yX9_tide cX9_tide 2 (some .int) 0 := ⟨mc1_X9_tide, zGW_in 915 (by decide +kernel) (by decide +kernel), zGW_in 916 (by decide +kernel) (by decide +kernel), zGW_in 917 (by decide +kernel) (by decide +kernel), zGW_in 56 (by decide +kernel) (by decide +kernel), by decide +kernel⟩
theorem mc1_X8_judge : Cond.code yX8_judge cX8_judge 2 (some .int) ∈ zGW := zGW_in 363 (by decide +kernel) (by decide +kernel)
theorem vw_L_45 : zVW RL 45 yX8_judge cX8_judge 2 (some .int) 1 := ⟨mc1_X8_judge, zGW_in 360 (by decide +kernel) (by decide +kernel), zGW_in 361 (by decide +kernel) (by decide +kernel), zGW_in 362 (by decide +kernel) (by decide +kernel), zGW_in 47 (by decide +kernel) (by decide +kernel), by decide +kernel⟩
theorem mc1_X9_judge : Cond.code yX9_judge cX9_judge 2 (some .int) ∈ zGW := zGW_in 922 (by decide +kernel) (by decide +kernel)
theorem vw_L_48 : zVW RL 48 yX9_judge cX9_judge 2 (some .int) 1 := ⟨mc1_X9_judge, zGW_in 919 (by decide +kernel) (by decide +kernel), zGW_in 920 (by decide +kernel) (by decide +kernel), zGW_in 921 (by decide +kernel) (by decide +kernel), zGW_in 56 (by decide +kernel) (by decide +kernel), by decide +kernel⟩
theorem mc1_X8_state : Cond.code yX8_state cX8_state 3 (some .int) ∈ zGW := zGW_in 426 (by decide +kernel) (by decide +kernel)
theorem vw_L_49 : zVW RL 49 yX8_state cX8_state 3 (some .int) 2 := ⟨mc1_X8_state, zGW_in 423 (by decide +kernel) (by decide +kernel), zGW_in 424 (by decide +kernel) (by decide +kernel), zGW_in 425 (by decide +kernel) (by decide +kernel), zGW_in 47 (by decide +kernel) (by decide +kernel), by decide +kernel⟩
theorem mc1_X9_state : Cond.code yX9_state cX9_state 3 (some .int) ∈ zGW := zGW_in 965 (by decide +kernel) (by decide +kernel)
theorem vw_L_52 : zVW RL 52 yX9_state cX9_state 3 (some .int) 2 := ⟨mc1_X9_state, zGW_in 962 (by decide +kernel) (by decide +kernel), zGW_in 963 (by decide +kernel) (by decide +kernel), zGW_in 964 (by decide +kernel) (by decide +kernel), zGW_in 56 (by decide +kernel) (by decide +kernel), by decide +kernel⟩
theorem mc1_X8_behind : Cond.code yX8_behind cX8_behind 3 (some .int) ∈ zGW := zGW_in 434 (by decide +kernel) (by decide +kernel)
theorem vw_L_53 : zVW RL 53 yX8_behind cX8_behind 3 (some .int) 2 := ⟨mc1_X8_behind, zGW_in 431 (by decide +kernel) (by decide +kernel), zGW_in 432 (by decide +kernel) (by decide +kernel), zGW_in 433 (by decide +kernel) (by decide +kernel), zGW_in 47 (by decide +kernel) (by decide +kernel), by decide +kernel⟩
theorem mc1_X9_behind : Cond.code yX9_behind cX9_behind 4 (some .int) ∈ zGW := zGW_in 974 (by decide +kernel) (by decide +kernel)
theorem vw_L_56 : zVW RL 56 yX9_behind cX9_behind 4 (some .int) 2 := ⟨mc1_X9_behind, zGW_in 971 (by decide +kernel) (by decide +kernel), zGW_in 972 (by decide +kernel) (by decide +kernel), zGW_in 973 (by decide +kernel) (by decide +kernel), zGW_in 56 (by decide +kernel) (by decide +kernel), by decide +kernel⟩
theorem mc1_X8_done : Cond.code yX8_done cX8_done 1 (some .int) ∈ zGW := zGW_in 442 (by decide +kernel) (by decide +kernel)
theorem vw_L_57 : zVW RL 57 yX8_done cX8_done 1 (some .int) 0 := ⟨mc1_X8_done, zGW_in 439 (by decide +kernel) (by decide +kernel), zGW_in 440 (by decide +kernel) (by decide +kernel), zGW_in 441 (by decide +kernel) (by decide +kernel), zGW_in 47 (by decide +kernel) (by decide +kernel), by decide +kernel⟩
theorem mc1_X9_done : Cond.code yX9_done cX9_done 1 (some .int) ∈ zGW := zGW_in 978 (by decide +kernel) (by decide +kernel)
theorem vw_L_60 : zVW RL 60 yX9_done cX9_done 1 (some .int) 0 := ⟨mc1_X9_done, zGW_in 975 (by decide +kernel) (by decide +kernel), zGW_in 976 (by decide +kernel) (by decide +kernel), zGW_in 977 (by decide +kernel) (by decide +kernel), zGW_in 56 (by decide +kernel) (by decide +kernel), by decide +kernel⟩
theorem mc1_X8_sum : Cond.code yX8_sum cX8_sum 2 (some .int) ∈ zGW := zGW_in 447 (by decide +kernel) (by decide +kernel)
theorem vw_L_61 : zVW RL 61 yX8_sum cX8_sum 2 (some .int) 1 := ⟨mc1_X8_sum, zGW_in 444 (by decide +kernel) (by decide +kernel), zGW_in 445 (by decide +kernel) (by decide +kernel), zGW_in 446 (by decide +kernel) (by decide +kernel), zGW_in 47 (by decide +kernel) (by decide +kernel), by decide +kernel⟩
theorem mc1_X9_sum : Cond.code yX9_sum cX9_sum 2 (some .int) ∈ zGW := zGW_in 982 (by decide +kernel) (by decide +kernel)
theorem vw_L_64 : zVW RL 64 yX9_sum cX9_sum 2 (some .int) 1 := ⟨mc1_X9_sum, zGW_in 979 (by decide +kernel) (by decide +kernel), zGW_in 980 (by decide +kernel) (by decide +kernel), zGW_in 981 (by decide +kernel) (by decide +kernel), zGW_in 56 (by decide +kernel) (by decide +kernel), by decide +kernel⟩
theorem mc1_X8_mean : Cond.code yX8_mean cX8_mean 4 (some .int) ∈ zGW := zGW_in 451 (by decide +kernel) (by decide +kernel)
theorem vw_L_65 : zVW RL 65 yX8_mean cX8_mean 4 (some .int) 3 := ⟨mc1_X8_mean, zGW_in 448 (by decide +kernel) (by decide +kernel), zGW_in 449 (by decide +kernel) (by decide +kernel), zGW_in 450 (by decide +kernel) (by decide +kernel), zGW_in 47 (by decide +kernel) (by decide +kernel), by decide +kernel⟩
theorem mc1_X9_mean : Cond.code yX9_mean cX9_mean 4 (some .int) ∈ zGW := zGW_in 986 (by decide +kernel) (by decide +kernel)
theorem vw_L_69 : zVW RL 69 yX9_mean cX9_mean 4 (some .int) 3 := ⟨mc1_X9_mean, zGW_in 983 (by decide +kernel) (by decide +kernel), zGW_in 984 (by decide +kernel) (by decide +kernel), zGW_in 985 (by decide +kernel) (by decide +kernel), zGW_in 56 (by decide +kernel) (by decide +kernel), by decide +kernel⟩
theorem mc1_X8_worst : Cond.code yX8_worst cX8_worst 4 (some .int) ∈ zGW := zGW_in 470 (by decide +kernel) (by decide +kernel)
theorem vw_L_70 : zVW RL 70 yX8_worst cX8_worst 4 (some .int) 3 := ⟨mc1_X8_worst, zGW_in 467 (by decide +kernel) (by decide +kernel), zGW_in 468 (by decide +kernel) (by decide +kernel), zGW_in 469 (by decide +kernel) (by decide +kernel), zGW_in 47 (by decide +kernel) (by decide +kernel), by decide +kernel⟩
theorem mc1_X9_worst : Cond.code yX9_worst cX9_worst 4 (some .int) ∈ zGW := zGW_in 1008 (by decide +kernel) (by decide +kernel)
theorem vw_L_73 : zVW RL 73 yX9_worst cX9_worst 4 (some .int) 3 := ⟨mc1_X9_worst, zGW_in 1005 (by decide +kernel) (by decide +kernel), zGW_in 1006 (by decide +kernel) (by decide +kernel), zGW_in 1007 (by decide +kernel) (by decide +kernel), zGW_in 56 (by decide +kernel) (by decide +kernel), by decide +kernel⟩
theorem mc1_X8_choice : Cond.code yX8_choice cX8_choice 4 (some .int) ∈ zGW := zGW_in 478 (by decide +kernel) (by decide +kernel)
theorem vw_L_74 : zVW RL 74 yX8_choice cX8_choice 4 (some .int) 2 := ⟨mc1_X8_choice, zGW_in 475 (by decide +kernel) (by decide +kernel), zGW_in 476 (by decide +kernel) (by decide +kernel), zGW_in 477 (by decide +kernel) (by decide +kernel), zGW_in 47 (by decide +kernel) (by decide +kernel), by decide +kernel⟩
theorem mc1_X9_choice : Cond.code yX9_choice cX9_choice 3 (some .int) ∈ zGW := zGW_in 1016 (by decide +kernel) (by decide +kernel)
theorem vw_L_77 : zVW RL 77 yX9_choice cX9_choice 3 (some .int) 2 := ⟨mc1_X9_choice, zGW_in 1013 (by decide +kernel) (by decide +kernel), zGW_in 1014 (by decide +kernel) (by decide +kernel), zGW_in 1015 (by decide +kernel) (by decide +kernel), zGW_in 56 (by decide +kernel) (by decide +kernel), by decide +kernel⟩
theorem mc1_X8_held : Cond.code yX8_held cX8_held 9 (some .int) ∈ zGW := zGW_in 491 (by decide +kernel) (by decide +kernel)
theorem vw_L_78 : zVW RL 78 yX8_held cX8_held 9 (some .int) 3 := ⟨mc1_X8_held, zGW_in 488 (by decide +kernel) (by decide +kernel), zGW_in 489 (by decide +kernel) (by decide +kernel), zGW_in 490 (by decide +kernel) (by decide +kernel), zGW_in 47 (by decide +kernel) (by decide +kernel), by decide +kernel⟩
theorem mc1_X9_held : Cond.code yX9_held cX9_held 8 (some .int) ∈ zGW := zGW_in 1024 (by decide +kernel) (by decide +kernel)
theorem vw_L_81 : zVW RL 81 yX9_held cX9_held 8 (some .int) 3 := ⟨mc1_X9_held, zGW_in 1021 (by decide +kernel) (by decide +kernel), zGW_in 1022 (by decide +kernel) (by decide +kernel), zGW_in 1023 (by decide +kernel) (by decide +kernel), zGW_in 56 (by decide +kernel) (by decide +kernel), by decide +kernel⟩
theorem mc1_X8_bound : Cond.code yX8_bound cX8_bound 5 (some .int) ∈ zGW := zGW_in 500 (by decide +kernel) (by decide +kernel)
theorem vw_L_82 : zVW RL 82 yX8_bound cX8_bound 5 (some .int) 3 := ⟨mc1_X8_bound, zGW_in 497 (by decide +kernel) (by decide +kernel), zGW_in 498 (by decide +kernel) (by decide +kernel), zGW_in 499 (by decide +kernel) (by decide +kernel), zGW_in 47 (by decide +kernel) (by decide +kernel), by decide +kernel⟩
theorem mc1_X9_bound : Cond.code yX9_bound cX9_bound 7 (some .int) ∈ zGW := zGW_in 1030 (by decide +kernel) (by decide +kernel)
theorem vw_L_85 : zVW RL 85 yX9_bound cX9_bound 7 (some .int) 3 := ⟨mc1_X9_bound, zGW_in 1027 (by decide +kernel) (by decide +kernel), zGW_in 1028 (by decide +kernel) (by decide +kernel), zGW_in 1029 (by decide +kernel) (by decide +kernel), zGW_in 56 (by decide +kernel) (by decide +kernel), by decide +kernel⟩
theorem mc1_X8_line : Cond.code yX8_line cX8_line 5 (some .int) ∈ zGW := zGW_in 536 (by decide +kernel) (by decide +kernel)
theorem vw_L_86 : zVW RL 86 yX8_line cX8_line 5 (some .int) 3 := ⟨mc1_X8_line, zGW_in 533 (by decide +kernel) (by decide +kernel), zGW_in 534 (by decide +kernel) (by decide +kernel), zGW_in 535 (by decide +kernel) (by decide +kernel), zGW_in 47 (by decide +kernel) (by decide +kernel), by decide +kernel⟩
theorem mc1_X9_line : Cond.code yX9_line cX9_line 7 (some .int) ∈ zGW := zGW_in 1047 (by decide +kernel) (by decide +kernel)
theorem vw_L_89 : zVW RL 89 yX9_line cX9_line 7 (some .int) 3 := ⟨mc1_X9_line, zGW_in 1044 (by decide +kernel) (by decide +kernel), zGW_in 1045 (by decide +kernel) (by decide +kernel), zGW_in 1046 (by decide +kernel) (by decide +kernel), zGW_in 56 (by decide +kernel) (by decide +kernel), by decide +kernel⟩
theorem mc1_X8_convoy : Cond.code yX8_convoy cX8_convoy 4 (some .int) ∈ zGW := zGW_in 557 (by decide +kernel) (by decide +kernel)
theorem vw_L_90 : zVW RL 90 yX8_convoy cX8_convoy 4 (some .int) 2 := ⟨mc1_X8_convoy, zGW_in 554 (by decide +kernel) (by decide +kernel), zGW_in 555 (by decide +kernel) (by decide +kernel), zGW_in 556 (by decide +kernel) (by decide +kernel), zGW_in 47 (by decide +kernel) (by decide +kernel), by decide +kernel⟩
theorem mc1_X9_convoy : Cond.code yX9_convoy cX9_convoy 8 (some .int) ∈ zGW := zGW_in 1059 (by decide +kernel) (by decide +kernel)
theorem vw_L_93 : zVW RL 93 yX9_convoy cX9_convoy 8 (some .int) 2 := ⟨mc1_X9_convoy, zGW_in 1056 (by decide +kernel) (by decide +kernel), zGW_in 1057 (by decide +kernel) (by decide +kernel), zGW_in 1058 (by decide +kernel) (by decide +kernel), zGW_in 56 (by decide +kernel) (by decide +kernel), by decide +kernel⟩
theorem mc1_X8_captain : Cond.code yX8_captain cX8_captain 4 (some .int) ∈ zGW := zGW_in 570 (by decide +kernel) (by decide +kernel)
theorem vw_L_94 : zVW RL 94 yX8_captain cX8_captain 4 (some .int) 2 := ⟨mc1_X8_captain, zGW_in 567 (by decide +kernel) (by decide +kernel), zGW_in 568 (by decide +kernel) (by decide +kernel), zGW_in 569 (by decide +kernel) (by decide +kernel), zGW_in 47 (by decide +kernel) (by decide +kernel), by decide +kernel⟩
theorem mc1_X9_captain : Cond.code yX9_captain cX9_captain 3 (some .int) ∈ zGW := zGW_in 1063 (by decide +kernel) (by decide +kernel)
theorem vw_L_97 : zVW RL 97 yX9_captain cX9_captain 3 (some .int) 2 := ⟨mc1_X9_captain, zGW_in 1060 (by decide +kernel) (by decide +kernel), zGW_in 1061 (by decide +kernel) (by decide +kernel), zGW_in 1062 (by decide +kernel) (by decide +kernel), zGW_in 56 (by decide +kernel) (by decide +kernel), by decide +kernel⟩
theorem mc1_X8_persuaded : Cond.code yX8_persuaded cX8_persuaded 6 (some .int) ∈ zGW := zGW_in 586 (by decide +kernel) (by decide +kernel)
theorem vw_L_98 : zVW RL 98 yX8_persuaded cX8_persuaded 6 (some .int) 2 := ⟨mc1_X8_persuaded, zGW_in 583 (by decide +kernel) (by decide +kernel), zGW_in 584 (by decide +kernel) (by decide +kernel), zGW_in 585 (by decide +kernel) (by decide +kernel), zGW_in 47 (by decide +kernel) (by decide +kernel), by decide +kernel⟩
theorem mc1_X9_persuaded : Cond.code yX9_persuaded cX9_persuaded 5 (some .int) ∈ zGW := zGW_in 1075 (by decide +kernel) (by decide +kernel)
theorem vw_L_101 : zVW RL 101 yX9_persuaded cX9_persuaded 5 (some .int) 2 := ⟨mc1_X9_persuaded, zGW_in 1072 (by decide +kernel) (by decide +kernel), zGW_in 1073 (by decide +kernel) (by decide +kernel), zGW_in 1074 (by decide +kernel) (by decide +kernel), zGW_in 56 (by decide +kernel) (by decide +kernel), by decide +kernel⟩
theorem mc1_X8_offer : Cond.code yX8_offer cX8_offer 5 (some .int) ∈ zGW := zGW_in 590 (by decide +kernel) (by decide +kernel)
theorem vw_L_102 : zVW RL 102 yX8_offer cX8_offer 5 (some .int) 3 := ⟨mc1_X8_offer, zGW_in 587 (by decide +kernel) (by decide +kernel), zGW_in 588 (by decide +kernel) (by decide +kernel), zGW_in 589 (by decide +kernel) (by decide +kernel), zGW_in 47 (by decide +kernel) (by decide +kernel), by decide +kernel⟩
theorem mc1_X9_offer : Cond.code yX9_offer cX9_offer 4 (some .int) ∈ zGW := zGW_in 1079 (by decide +kernel) (by decide +kernel)
theorem vw_L_105 : zVW RL 105 yX9_offer cX9_offer 4 (some .int) 3 := ⟨mc1_X9_offer, zGW_in 1076 (by decide +kernel) (by decide +kernel), zGW_in 1077 (by decide +kernel) (by decide +kernel), zGW_in 1078 (by decide +kernel) (by decide +kernel), zGW_in 56 (by decide +kernel) (by decide +kernel), by decide +kernel⟩
theorem mc1_X8_noOffers : Cond.code yX8_noOffers cX8_noOffers 2 (some .int) ∈ zGW := zGW_in 594 (by decide +kernel) (by decide +kernel)
theorem vw_L_106 : zVW RL 106 yX8_noOffers cX8_noOffers 2 (some .int) 0 := ⟨mc1_X8_noOffers, zGW_in 591 (by decide +kernel) (by decide +kernel), zGW_in 592 (by decide +kernel) (by decide +kernel), zGW_in 593 (by decide +kernel) (by decide +kernel), zGW_in 47 (by decide +kernel) (by decide +kernel), by decide +kernel⟩
theorem mc1_X9_noOffers : Cond.code yX9_noOffers cX9_noOffers 2 (some .int) ∈ zGW := zGW_in 1085 (by decide +kernel) (by decide +kernel)
theorem vw_L_109 : zVW RL 109 yX9_noOffers cX9_noOffers 2 (some .int) 0 := ⟨mc1_X9_noOffers, zGW_in 1082 (by decide +kernel) (by decide +kernel), zGW_in 1083 (by decide +kernel) (by decide +kernel), zGW_in 1084 (by decide +kernel) (by decide +kernel), zGW_in 56 (by decide +kernel) (by decide +kernel), by decide +kernel⟩
theorem mc1_X8_insured : Cond.code yX8_insured cX8_insured 11 (some .int) ∈ zGW := zGW_in 598 (by decide +kernel) (by decide +kernel)
theorem vw_L_110 : zVW RL 110 yX8_insured cX8_insured 11 (some .int) 3 := ⟨mc1_X8_insured, zGW_in 595 (by decide +kernel) (by decide +kernel), zGW_in 596 (by decide +kernel) (by decide +kernel), zGW_in 597 (by decide +kernel) (by decide +kernel), zGW_in 47 (by decide +kernel) (by decide +kernel), by decide +kernel⟩
theorem mc1_X9_insured : Cond.code yX9_insured cX9_insured 10 (some .int) ∈ zGW := zGW_in 1089 (by decide +kernel) (by decide +kernel)
theorem vw_L_113 : zVW RL 113 yX9_insured cX9_insured 10 (some .int) 3 := ⟨mc1_X9_insured, zGW_in 1086 (by decide +kernel) (by decide +kernel), zGW_in 1087 (by decide +kernel) (by decide +kernel), zGW_in 1088 (by decide +kernel) (by decide +kernel), zGW_in 56 (by decide +kernel) (by decide +kernel), by decide +kernel⟩
theorem mc1_X8_aboard : Cond.code yX8_aboard cX8_aboard 3 (some .int) ∈ zGW := zGW_in 621 (by decide +kernel) (by decide +kernel)
theorem vw_L_114 : zVW RL 114 yX8_aboard cX8_aboard 3 (some .int) 2 := ⟨mc1_X8_aboard, zGW_in 618 (by decide +kernel) (by decide +kernel), zGW_in 619 (by decide +kernel) (by decide +kernel), zGW_in 620 (by decide +kernel) (by decide +kernel), zGW_in 47 (by decide +kernel) (by decide +kernel), by decide +kernel⟩
theorem mc1_X9_aboard : Cond.code yX9_aboard cX9_aboard 3 (some .int) ∈ zGW := zGW_in 1102 (by decide +kernel) (by decide +kernel)
theorem vw_L_117 : zVW RL 117 yX9_aboard cX9_aboard 3 (some .int) 2 := ⟨mc1_X9_aboard, zGW_in 1099 (by decide +kernel) (by decide +kernel), zGW_in 1100 (by decide +kernel) (by decide +kernel), zGW_in 1101 (by decide +kernel) (by decide +kernel), zGW_in 56 (by decide +kernel) (by decide +kernel), by decide +kernel⟩
theorem mc1_X8_ashore : Cond.code yX8_ashore cX8_ashore 2 (some .int) ∈ zGW := zGW_in 625 (by decide +kernel) (by decide +kernel)
theorem vw_L_118 : zVW RL 118 yX8_ashore cX8_ashore 2 (some .int) 1 := ⟨mc1_X8_ashore, zGW_in 622 (by decide +kernel) (by decide +kernel), zGW_in 623 (by decide +kernel) (by decide +kernel), zGW_in 624 (by decide +kernel) (by decide +kernel), zGW_in 47 (by decide +kernel) (by decide +kernel), by decide +kernel⟩
theorem mc1_X9_ashore : Cond.code yX9_ashore cX9_ashore 2 (some .int) ∈ zGW := zGW_in 1106 (by decide +kernel) (by decide +kernel)
theorem vw_L_121 : zVW RL 121 yX9_ashore cX9_ashore 2 (some .int) 1 := ⟨mc1_X9_ashore, zGW_in 1103 (by decide +kernel) (by decide +kernel), zGW_in 1104 (by decide +kernel) (by decide +kernel), zGW_in 1105 (by decide +kernel) (by decide +kernel), zGW_in 56 (by decide +kernel) (by decide +kernel), by decide +kernel⟩
theorem mc1_X8_lot : Cond.code yX8_lot cX8_lot 8 (some .long) ∈ zGW := zGW_in 634 (by decide +kernel) (by decide +kernel)
theorem vw_L_122 : zVW RL 122 yX8_lot cX8_lot 8 (some .long) 3 := ⟨mc1_X8_lot, zGW_in 631 (by decide +kernel) (by decide +kernel), zGW_in 632 (by decide +kernel) (by decide +kernel), zGW_in 633 (by decide +kernel) (by decide +kernel), zGW_in 47 (by decide +kernel) (by decide +kernel), by decide +kernel⟩
theorem mc1_X9_lot : Cond.code yX9_lot cX9_lot 7 (some .long) ∈ zGW := zGW_in 1114 (by decide +kernel) (by decide +kernel)
theorem vw_L_126 : zVW RL 126 yX9_lot cX9_lot 7 (some .long) 3 := ⟨mc1_X9_lot, zGW_in 1111 (by decide +kernel) (by decide +kernel), zGW_in 1112 (by decide +kernel) (by decide +kernel), zGW_in 1113 (by decide +kernel) (by decide +kernel), zGW_in 56 (by decide +kernel) (by decide +kernel), by decide +kernel⟩
theorem mc1_X8_often : Cond.code yX8_often cX8_often 9 (some .long) ∈ zGW := zGW_in 651 (by decide +kernel) (by decide +kernel)
theorem vw_L_127 : zVW RL 127 yX8_often cX8_often 9 (some .long) 5 := ⟨mc1_X8_often, zGW_in 648 (by decide +kernel) (by decide +kernel), zGW_in 649 (by decide +kernel) (by decide +kernel), zGW_in 650 (by decide +kernel) (by decide +kernel), zGW_in 47 (by decide +kernel) (by decide +kernel), by decide +kernel⟩
theorem mc1_X9_often : Cond.code yX9_often cX9_often 9 (some .long) ∈ zGW := zGW_in 1123 (by decide +kernel) (by decide +kernel)
theorem vw_L_131 : zVW RL 131 yX9_often cX9_often 9 (some .long) 5 := ⟨mc1_X9_often, zGW_in 1120 (by decide +kernel) (by decide +kernel), zGW_in 1121 (by decide +kernel) (by decide +kernel), zGW_in 1122 (by decide +kernel) (by decide +kernel), zGW_in 56 (by decide +kernel) (by decide +kernel), by decide +kernel⟩
theorem mc1_X8_roll : Cond.code yX8_roll cX8_roll 4 (some .int) ∈ zGW := zGW_in 661 (by decide +kernel) (by decide +kernel)
theorem vw_L_132 : zVW RL 132 yX8_roll cX8_roll 4 (some .int) 2 := ⟨mc1_X8_roll, zGW_in 658 (by decide +kernel) (by decide +kernel), zGW_in 659 (by decide +kernel) (by decide +kernel), zGW_in 660 (by decide +kernel) (by decide +kernel), zGW_in 47 (by decide +kernel) (by decide +kernel), by decide +kernel⟩
theorem mc1_X9_roll : Cond.code yX9_roll cX9_roll 3 (some .int) ∈ zGW := zGW_in 1134 (by decide +kernel) (by decide +kernel)
theorem vw_L_135 : zVW RL 135 yX9_roll cX9_roll 3 (some .int) 2 := ⟨mc1_X9_roll, zGW_in 1131 (by decide +kernel) (by decide +kernel), zGW_in 1132 (by decide +kernel) (by decide +kernel), zGW_in 1133 (by decide +kernel) (by decide +kernel), zGW_in 56 (by decide +kernel) (by decide +kernel), by decide +kernel⟩
theorem mc1_X8_forget : Cond.code yX8_forget cX8_forget 2 (some .int) ∈ zGW := zGW_in 665 (by decide +kernel) (by decide +kernel)
theorem vw_L_136 : zVW RL 136 yX8_forget cX8_forget 2 (some .int) 0 := ⟨mc1_X8_forget, zGW_in 662 (by decide +kernel) (by decide +kernel), zGW_in 663 (by decide +kernel) (by decide +kernel), zGW_in 664 (by decide +kernel) (by decide +kernel), zGW_in 47 (by decide +kernel) (by decide +kernel), by decide +kernel⟩
theorem mc1_X9_forget : Cond.code yX9_forget cX9_forget 2 (some .int) ∈ zGW := zGW_in 1139 (by decide +kernel) (by decide +kernel)
theorem vw_L_139 : zVW RL 139 yX9_forget cX9_forget 2 (some .int) 0 := ⟨mc1_X9_forget, zGW_in 1136 (by decide +kernel) (by decide +kernel), zGW_in 1137 (by decide +kernel) (by decide +kernel), zGW_in 1138 (by decide +kernel) (by decide +kernel), zGW_in 56 (by decide +kernel) (by decide +kernel), by decide +kernel⟩
theorem mc1_X8_twice : Cond.code yX8_twice cX8_twice 2 (some .int) ∈ zGW := zGW_in 669 (by decide +kernel) (by decide +kernel)
theorem vw_L_140 : zVW RL 140 yX8_twice cX8_twice 2 (some .int) 1 := ⟨mc1_X8_twice, zGW_in 666 (by decide +kernel) (by decide +kernel), zGW_in 667 (by decide +kernel) (by decide +kernel), zGW_in 668 (by decide +kernel) (by decide +kernel), zGW_in 47 (by decide +kernel) (by decide +kernel), by decide +kernel⟩
theorem mc1_X9_twice : Cond.code yX9_twice cX9_twice 8 (some .int) ∈ zGW := zGW_in 1143 (by decide +kernel) (by decide +kernel)
theorem vw_L_143 : zVW RL 143 yX9_twice cX9_twice 8 (some .int) 1 := ⟨mc1_X9_twice, zGW_in 1140 (by decide +kernel) (by decide +kernel), zGW_in 1141 (by decide +kernel) (by decide +kernel), zGW_in 1142 (by decide +kernel) (by decide +kernel), zGW_in 56 (by decide +kernel) (by decide +kernel), by decide +kernel⟩
theorem mc1_X8_burnt : Cond.code yX8_burnt cX8_burnt 5 (some .long) ∈ zGW := zGW_in 681 (by decide +kernel) (by decide +kernel)
theorem vw_L_144 : zVW RL 144 yX8_burnt cX8_burnt 5 (some .long) 0 := ⟨mc1_X8_burnt, zGW_in 678 (by decide +kernel) (by decide +kernel), zGW_in 679 (by decide +kernel) (by decide +kernel), zGW_in 680 (by decide +kernel) (by decide +kernel), zGW_in 47 (by decide +kernel) (by decide +kernel), by decide +kernel⟩
theorem mc1_X9_burnt : Cond.code yX9_burnt cX9_burnt 5 (some .long) ∈ zGW := zGW_in 1147 (by decide +kernel) (by decide +kernel)
theorem vw_L_148 : zVW RL 148 yX9_burnt cX9_burnt 5 (some .long) 0 := ⟨mc1_X9_burnt, zGW_in 1144 (by decide +kernel) (by decide +kernel), zGW_in 1145 (by decide +kernel) (by decide +kernel), zGW_in 1146 (by decide +kernel) (by decide +kernel), zGW_in 56 (by decide +kernel) (by decide +kernel), by decide +kernel⟩
theorem mc1_X8_years : Cond.code yX8_years cX8_years 9 (some .int) ∈ zGW := zGW_in 685 (by decide +kernel) (by decide +kernel)
theorem vw_L_149 : zVW RL 149 yX8_years cX8_years 9 (some .int) 4 := ⟨mc1_X8_years, zGW_in 682 (by decide +kernel) (by decide +kernel), zGW_in 683 (by decide +kernel) (by decide +kernel), zGW_in 684 (by decide +kernel) (by decide +kernel), zGW_in 47 (by decide +kernel) (by decide +kernel), by decide +kernel⟩
theorem mc1_X9_years : Cond.code yX9_years cX9_years 8 (some .int) ∈ zGW := zGW_in 1151 (by decide +kernel) (by decide +kernel)
theorem vw_L_152 : zVW RL 152 yX9_years cX9_years 8 (some .int) 4 := ⟨mc1_X9_years, zGW_in 1148 (by decide +kernel) (by decide +kernel), zGW_in 1149 (by decide +kernel) (by decide +kernel), zGW_in 1150 (by decide +kernel) (by decide +kernel), zGW_in 56 (by decide +kernel) (by decide +kernel), by decide +kernel⟩
theorem mc1_X8_image : Cond.code yX8_image cX8_image 2 (some .int) ∈ zGW := zGW_in 691 (by decide +kernel) (by decide +kernel)
theorem vw_L_153 : zVW RL 153 yX8_image cX8_image 2 (some .int) 1 := ⟨mc1_X8_image, zGW_in 688 (by decide +kernel) (by decide +kernel), zGW_in 689 (by decide +kernel) (by decide +kernel), zGW_in 690 (by decide +kernel) (by decide +kernel), zGW_in 47 (by decide +kernel) (by decide +kernel), by decide +kernel⟩
theorem mc1_X9_image : Cond.code yX9_image cX9_image 2 (some .int) ∈ zGW := zGW_in 1156 (by decide +kernel) (by decide +kernel)
theorem vw_L_156 : zVW RL 156 yX9_image cX9_image 2 (some .int) 1 := ⟨mc1_X9_image, zGW_in 1153 (by decide +kernel) (by decide +kernel), zGW_in 1154 (by decide +kernel) (by decide +kernel), zGW_in 1155 (by decide +kernel) (by decide +kernel), zGW_in 56 (by decide +kernel) (by decide +kernel), by decide +kernel⟩
theorem mc1_X8_restore : Cond.code yX8_restore cX8_restore 2 (some .int) ∈ zGW := zGW_in 719 (by decide +kernel) (by decide +kernel)
theorem vw_L_157 : zVW RL 157 yX8_restore cX8_restore 2 (some .int) 1 := ⟨mc1_X8_restore, zGW_in 716 (by decide +kernel) (by decide +kernel), zGW_in 717 (by decide +kernel) (by decide +kernel), zGW_in 718 (by decide +kernel) (by decide +kernel), zGW_in 47 (by decide +kernel) (by decide +kernel), by decide +kernel⟩
theorem mc1_X9_restore : Cond.code yX9_restore cX9_restore 2 (some .int) ∈ zGW := zGW_in 1172 (by decide +kernel) (by decide +kernel)
theorem vw_L_160 : zVW RL 160 yX9_restore cX9_restore 2 (some .int) 1 := ⟨mc1_X9_restore, zGW_in 1169 (by decide +kernel) (by decide +kernel), zGW_in 1170 (by decide +kernel) (by decide +kernel), zGW_in 1171 (by decide +kernel) (by decide +kernel), zGW_in 56 (by decide +kernel) (by decide +kernel), by decide +kernel⟩
theorem mc1_X8_told : Cond.code yX8_told cX8_told 2 (some .int) ∈ zGW := zGW_in 723 (by decide +kernel) (by decide +kernel)
theorem vw_L_161 : zVW RL 161 yX8_told cX8_told 2 (some .int) 1 := ⟨mc1_X8_told, zGW_in 720 (by decide +kernel) (by decide +kernel), zGW_in 721 (by decide +kernel) (by decide +kernel), zGW_in 722 (by decide +kernel) (by decide +kernel), zGW_in 47 (by decide +kernel) (by decide +kernel), by decide +kernel⟩
theorem mc1_X9_told : Cond.code yX9_told cX9_told 2 (some .int) ∈ zGW := zGW_in 1176 (by decide +kernel) (by decide +kernel)
theorem vw_L_164 : zVW RL 164 yX9_told cX9_told 2 (some .int) 1 := ⟨mc1_X9_told, zGW_in 1173 (by decide +kernel) (by decide +kernel), zGW_in 1174 (by decide +kernel) (by decide +kernel), zGW_in 1175 (by decide +kernel) (by decide +kernel), zGW_in 56 (by decide +kernel) (by decide +kernel), by decide +kernel⟩
theorem d_L_law_0 : decode cL_law 0 = .ok (.new 7, 3) := by decide +kernel
theorem d_L_law_3 : decode cL_law 3 = .ok (.dup, 1) := by decide +kernel
theorem d_L_law_4 : decode cL_law 4 = .ok (.invokespecial 9, 3) := by decide +kernel
theorem d_L_law_7 : decode cL_law 7 = .ok (.astore_n 1, 1) := by decide +kernel
theorem d_L_law_8 : decode cL_law 8 = .ok (.new 10, 3) := by decide +kernel
theorem d_L_law_11 : decode cL_law 11 = .ok (.dup, 1) := by decide +kernel
theorem d_L_law_12 : decode cL_law 12 = .ok (.invokespecial 12, 3) := by decide +kernel
theorem d_L_law_15 : decode cL_law 15 = .ok (.astore_n 2, 1) := by decide +kernel
theorem d_L_law_16 : decode cL_law 16 = .ok (.iconst 0, 1) := by decide +kernel
theorem d_L_law_17 : decode cL_law 17 = .ok (.istore_n 3, 1) := by decide +kernel
theorem d_L_law_18 : decode cL_law 18 = .ok (.iload_n 3, 1) := by decide +kernel
theorem d_L_law_19 : decode cL_law 19 = .ok (.aload_n 0, 1) := by decide +kernel
theorem d_L_law_20 : decode cL_law 20 = .ok (.arraylength, 1) := by decide +kernel
theorem d_L_law_21 : decode cL_law 21 = .ok (.bipush 6, 2) := by decide +kernel
theorem d_L_law_23 : decode cL_law 23 = .ok (.isub, 1) := by decide +kernel
theorem d_L_law_24 : decode cL_law 24 = .ok (.if_icmp .gt 1292, 3) := by decide +kernel
theorem d_L_law_27 : decode cL_law 27 = .ok (.aload_n 0, 1) := by decide +kernel
theorem d_L_law_28 : decode cL_law 28 = .ok (.iload_n 3, 1) := by decide +kernel
theorem d_L_law_29 : decode cL_law 29 = .ok (.iaload, 1) := by decide +kernel
theorem d_L_law_30 : decode cL_law 30 = .ok (.bipush 63, 2) := by decide +kernel
theorem d_L_law_32 : decode cL_law 32 = .ok (.iand, 1) := by decide +kernel
theorem d_L_law_33 : decode cL_law 33 = .ok (.tableswitch 1277 0 35 #[159, 212, 235, 268, 291, 304, 327, 340, 363, 396, 429, 442, 465, 508, 551, 584, 627, 670, 713, 746, 779, 812, 855, 868, 911, 944, 967, 1010, 1073, 1106, 1119, 1142, 1155, 1208, 1231, 1254], 159) := by decide +kernel
theorem d_L_law_192 : decode cL_law 192 = .ok (.aload_n 1, 1) := by decide +kernel
theorem d_L_law_193 : decode cL_law 193 = .ok (.aload_n 0, 1) := by decide +kernel
theorem d_L_law_194 : decode cL_law 194 = .ok (.iload_n 3, 1) := by decide +kernel
theorem d_L_law_195 : decode cL_law 195 = .ok (.iconst 1, 1) := by decide +kernel
theorem d_L_law_196 : decode cL_law 196 = .ok (.iadd, 1) := by decide +kernel
theorem d_L_law_197 : decode cL_law 197 = .ok (.iaload, 1) := by decide +kernel
theorem d_L_law_198 : decode cL_law 198 = .ok (.aload_n 0, 1) := by decide +kernel
theorem d_L_law_199 : decode cL_law 199 = .ok (.iload_n 3, 1) := by decide +kernel
theorem d_L_law_200 : decode cL_law 200 = .ok (.iconst 2, 1) := by decide +kernel
theorem d_L_law_201 : decode cL_law 201 = .ok (.iadd, 1) := by decide +kernel
theorem d_L_law_202 : decode cL_law 202 = .ok (.iaload, 1) := by decide +kernel
theorem d_L_law_203 : decode cL_law 203 = .ok (.aload_n 0, 1) := by decide +kernel
theorem d_L_law_204 : decode cL_law 204 = .ok (.iload_n 3, 1) := by decide +kernel
theorem d_L_law_205 : decode cL_law 205 = .ok (.iconst 3, 1) := by decide +kernel
theorem d_L_law_206 : decode cL_law 206 = .ok (.iadd, 1) := by decide +kernel
theorem d_L_law_207 : decode cL_law 207 = .ok (.iaload, 1) := by decide +kernel
theorem d_L_law_208 : decode cL_law 208 = .ok (.aload_n 0, 1) := by decide +kernel
theorem d_L_law_209 : decode cL_law 209 = .ok (.iload_n 3, 1) := by decide +kernel
theorem d_L_law_210 : decode cL_law 210 = .ok (.iconst 4, 1) := by decide +kernel
theorem d_L_law_211 : decode cL_law 211 = .ok (.iadd, 1) := by decide +kernel
theorem d_L_law_212 : decode cL_law 212 = .ok (.iaload, 1) := by decide +kernel
theorem d_L_law_213 : decode cL_law 213 = .ok (.invokevirtual 13, 3) := by decide +kernel
theorem d_L_law_216 : decode cL_law 216 = .ok (.pop, 1) := by decide +kernel
theorem d_L_law_217 : decode cL_law 217 = .ok (.aload_n 2, 1) := by decide +kernel
theorem d_L_law_218 : decode cL_law 218 = .ok (.aload_n 0, 1) := by decide +kernel
theorem d_L_law_219 : decode cL_law 219 = .ok (.iload_n 3, 1) := by decide +kernel
theorem d_L_law_220 : decode cL_law 220 = .ok (.iconst 1, 1) := by decide +kernel
theorem d_L_law_221 : decode cL_law 221 = .ok (.iadd, 1) := by decide +kernel
theorem d_L_law_222 : decode cL_law 222 = .ok (.iaload, 1) := by decide +kernel
theorem d_L_law_223 : decode cL_law 223 = .ok (.aload_n 0, 1) := by decide +kernel
theorem d_L_law_224 : decode cL_law 224 = .ok (.iload_n 3, 1) := by decide +kernel
theorem d_L_law_225 : decode cL_law 225 = .ok (.iconst 2, 1) := by decide +kernel
theorem d_L_law_226 : decode cL_law 226 = .ok (.iadd, 1) := by decide +kernel
theorem d_L_law_227 : decode cL_law 227 = .ok (.iaload, 1) := by decide +kernel
theorem d_L_law_228 : decode cL_law 228 = .ok (.aload_n 0, 1) := by decide +kernel
theorem d_L_law_229 : decode cL_law 229 = .ok (.iload_n 3, 1) := by decide +kernel
theorem d_L_law_230 : decode cL_law 230 = .ok (.iconst 3, 1) := by decide +kernel
theorem d_L_law_231 : decode cL_law 231 = .ok (.iadd, 1) := by decide +kernel
theorem d_L_law_232 : decode cL_law 232 = .ok (.iaload, 1) := by decide +kernel
theorem d_L_law_233 : decode cL_law 233 = .ok (.aload_n 0, 1) := by decide +kernel
theorem d_L_law_234 : decode cL_law 234 = .ok (.iload_n 3, 1) := by decide +kernel
theorem d_L_law_235 : decode cL_law 235 = .ok (.iconst 4, 1) := by decide +kernel
theorem d_L_law_236 : decode cL_law 236 = .ok (.iadd, 1) := by decide +kernel
theorem d_L_law_237 : decode cL_law 237 = .ok (.iaload, 1) := by decide +kernel
theorem d_L_law_238 : decode cL_law 238 = .ok (.invokevirtual 17, 3) := by decide +kernel
theorem d_L_law_241 : decode cL_law 241 = .ok (.pop, 1) := by decide +kernel
theorem d_L_law_242 : decode cL_law 242 = .ok (.goto 1068, 3) := by decide +kernel
theorem d_L_law_245 : decode cL_law 245 = .ok (.aload_n 1, 1) := by decide +kernel
theorem d_L_law_246 : decode cL_law 246 = .ok (.aload_n 0, 1) := by decide +kernel
theorem d_L_law_247 : decode cL_law 247 = .ok (.iload_n 3, 1) := by decide +kernel
theorem d_L_law_248 : decode cL_law 248 = .ok (.iconst 1, 1) := by decide +kernel
theorem d_L_law_249 : decode cL_law 249 = .ok (.iadd, 1) := by decide +kernel
theorem d_L_law_250 : decode cL_law 250 = .ok (.iaload, 1) := by decide +kernel
theorem d_L_law_251 : decode cL_law 251 = .ok (.invokevirtual 18, 3) := by decide +kernel
theorem d_L_law_254 : decode cL_law 254 = .ok (.pop, 1) := by decide +kernel
theorem d_L_law_255 : decode cL_law 255 = .ok (.aload_n 2, 1) := by decide +kernel
theorem d_L_law_256 : decode cL_law 256 = .ok (.aload_n 0, 1) := by decide +kernel
theorem d_L_law_257 : decode cL_law 257 = .ok (.iload_n 3, 1) := by decide +kernel
theorem d_L_law_258 : decode cL_law 258 = .ok (.iconst 1, 1) := by decide +kernel
theorem d_L_law_259 : decode cL_law 259 = .ok (.iadd, 1) := by decide +kernel
theorem d_L_law_260 : decode cL_law 260 = .ok (.iaload, 1) := by decide +kernel
theorem d_L_law_261 : decode cL_law 261 = .ok (.invokevirtual 22, 3) := by decide +kernel
theorem d_L_law_264 : decode cL_law 264 = .ok (.pop, 1) := by decide +kernel
theorem d_L_law_265 : decode cL_law 265 = .ok (.goto 1045, 3) := by decide +kernel
theorem d_L_law_268 : decode cL_law 268 = .ok (.aload_n 1, 1) := by decide +kernel
theorem d_L_law_269 : decode cL_law 269 = .ok (.aload_n 0, 1) := by decide +kernel
theorem d_L_law_270 : decode cL_law 270 = .ok (.iload_n 3, 1) := by decide +kernel
theorem d_L_law_271 : decode cL_law 271 = .ok (.iconst 1, 1) := by decide +kernel
theorem d_L_law_272 : decode cL_law 272 = .ok (.iadd, 1) := by decide +kernel
theorem d_L_law_273 : decode cL_law 273 = .ok (.iaload, 1) := by decide +kernel
theorem d_L_law_274 : decode cL_law 274 = .ok (.aload_n 0, 1) := by decide +kernel
theorem d_L_law_275 : decode cL_law 275 = .ok (.iload_n 3, 1) := by decide +kernel
theorem d_L_law_276 : decode cL_law 276 = .ok (.iconst 2, 1) := by decide +kernel
theorem d_L_law_277 : decode cL_law 277 = .ok (.iadd, 1) := by decide +kernel
theorem d_L_law_278 : decode cL_law 278 = .ok (.iaload, 1) := by decide +kernel
theorem d_L_law_279 : decode cL_law 279 = .ok (.invokevirtual 23, 3) := by decide +kernel
theorem d_L_law_282 : decode cL_law 282 = .ok (.pop, 1) := by decide +kernel
theorem d_L_law_283 : decode cL_law 283 = .ok (.aload_n 2, 1) := by decide +kernel
theorem d_L_law_284 : decode cL_law 284 = .ok (.aload_n 0, 1) := by decide +kernel
theorem d_L_law_285 : decode cL_law 285 = .ok (.iload_n 3, 1) := by decide +kernel
theorem d_L_law_286 : decode cL_law 286 = .ok (.iconst 1, 1) := by decide +kernel
theorem d_L_law_287 : decode cL_law 287 = .ok (.iadd, 1) := by decide +kernel
theorem d_L_law_288 : decode cL_law 288 = .ok (.iaload, 1) := by decide +kernel
theorem d_L_law_289 : decode cL_law 289 = .ok (.aload_n 0, 1) := by decide +kernel
theorem d_L_law_290 : decode cL_law 290 = .ok (.iload_n 3, 1) := by decide +kernel
theorem d_L_law_291 : decode cL_law 291 = .ok (.iconst 2, 1) := by decide +kernel
theorem d_L_law_292 : decode cL_law 292 = .ok (.iadd, 1) := by decide +kernel
theorem d_L_law_293 : decode cL_law 293 = .ok (.iaload, 1) := by decide +kernel
theorem d_L_law_294 : decode cL_law 294 = .ok (.invokevirtual 27, 3) := by decide +kernel
theorem d_L_law_297 : decode cL_law 297 = .ok (.pop, 1) := by decide +kernel
theorem d_L_law_298 : decode cL_law 298 = .ok (.goto 1012, 3) := by decide +kernel
theorem d_L_law_301 : decode cL_law 301 = .ok (.aload_n 1, 1) := by decide +kernel
theorem d_L_law_302 : decode cL_law 302 = .ok (.aload_n 0, 1) := by decide +kernel
theorem d_L_law_303 : decode cL_law 303 = .ok (.iload_n 3, 1) := by decide +kernel
theorem d_L_law_304 : decode cL_law 304 = .ok (.iconst 1, 1) := by decide +kernel
theorem d_L_law_305 : decode cL_law 305 = .ok (.iadd, 1) := by decide +kernel
theorem d_L_law_306 : decode cL_law 306 = .ok (.iaload, 1) := by decide +kernel
theorem d_L_law_307 : decode cL_law 307 = .ok (.invokevirtual 28, 3) := by decide +kernel
theorem d_L_law_310 : decode cL_law 310 = .ok (.pop, 1) := by decide +kernel
theorem d_L_law_311 : decode cL_law 311 = .ok (.aload_n 2, 1) := by decide +kernel
theorem d_L_law_312 : decode cL_law 312 = .ok (.aload_n 0, 1) := by decide +kernel
theorem d_L_law_313 : decode cL_law 313 = .ok (.iload_n 3, 1) := by decide +kernel
theorem d_L_law_314 : decode cL_law 314 = .ok (.iconst 1, 1) := by decide +kernel
theorem d_L_law_315 : decode cL_law 315 = .ok (.iadd, 1) := by decide +kernel
theorem d_L_law_316 : decode cL_law 316 = .ok (.iaload, 1) := by decide +kernel
theorem d_L_law_317 : decode cL_law 317 = .ok (.invokevirtual 31, 3) := by decide +kernel
theorem d_L_law_320 : decode cL_law 320 = .ok (.pop, 1) := by decide +kernel
theorem d_L_law_321 : decode cL_law 321 = .ok (.goto 989, 3) := by decide +kernel
theorem d_L_law_324 : decode cL_law 324 = .ok (.aload_n 1, 1) := by decide +kernel
theorem d_L_law_325 : decode cL_law 325 = .ok (.invokevirtual 32, 3) := by decide +kernel
theorem d_L_law_328 : decode cL_law 328 = .ok (.pop, 1) := by decide +kernel
theorem d_L_law_329 : decode cL_law 329 = .ok (.aload_n 2, 1) := by decide +kernel
theorem d_L_law_330 : decode cL_law 330 = .ok (.invokevirtual 36, 3) := by decide +kernel
theorem d_L_law_333 : decode cL_law 333 = .ok (.pop, 1) := by decide +kernel
theorem d_L_law_334 : decode cL_law 334 = .ok (.goto 976, 3) := by decide +kernel
theorem d_L_law_337 : decode cL_law 337 = .ok (.aload_n 1, 1) := by decide +kernel
theorem d_L_law_338 : decode cL_law 338 = .ok (.aload_n 0, 1) := by decide +kernel
theorem d_L_law_339 : decode cL_law 339 = .ok (.iload_n 3, 1) := by decide +kernel
theorem d_L_law_340 : decode cL_law 340 = .ok (.iconst 1, 1) := by decide +kernel
theorem d_L_law_341 : decode cL_law 341 = .ok (.iadd, 1) := by decide +kernel
theorem d_L_law_342 : decode cL_law 342 = .ok (.iaload, 1) := by decide +kernel
theorem d_L_law_343 : decode cL_law 343 = .ok (.invokevirtual 37, 3) := by decide +kernel
theorem d_L_law_346 : decode cL_law 346 = .ok (.pop, 1) := by decide +kernel
theorem d_L_law_347 : decode cL_law 347 = .ok (.aload_n 2, 1) := by decide +kernel
theorem d_L_law_348 : decode cL_law 348 = .ok (.aload_n 0, 1) := by decide +kernel
theorem d_L_law_349 : decode cL_law 349 = .ok (.iload_n 3, 1) := by decide +kernel
theorem d_L_law_350 : decode cL_law 350 = .ok (.iconst 1, 1) := by decide +kernel
theorem d_L_law_351 : decode cL_law 351 = .ok (.iadd, 1) := by decide +kernel
theorem d_L_law_352 : decode cL_law 352 = .ok (.iaload, 1) := by decide +kernel
theorem d_L_law_353 : decode cL_law 353 = .ok (.invokevirtual 40, 3) := by decide +kernel
theorem d_L_law_356 : decode cL_law 356 = .ok (.pop, 1) := by decide +kernel
theorem d_L_law_357 : decode cL_law 357 = .ok (.goto 953, 3) := by decide +kernel
theorem d_L_law_360 : decode cL_law 360 = .ok (.aload_n 1, 1) := by decide +kernel
theorem d_L_law_361 : decode cL_law 361 = .ok (.invokevirtual 41, 3) := by decide +kernel
theorem d_L_law_364 : decode cL_law 364 = .ok (.pop, 1) := by decide +kernel
theorem d_L_law_365 : decode cL_law 365 = .ok (.aload_n 2, 1) := by decide +kernel
theorem d_L_law_366 : decode cL_law 366 = .ok (.invokevirtual 44, 3) := by decide +kernel
theorem d_L_law_369 : decode cL_law 369 = .ok (.pop, 1) := by decide +kernel
theorem d_L_law_370 : decode cL_law 370 = .ok (.goto 940, 3) := by decide +kernel
theorem d_L_law_373 : decode cL_law 373 = .ok (.aload_n 1, 1) := by decide +kernel
theorem d_L_law_374 : decode cL_law 374 = .ok (.aload_n 0, 1) := by decide +kernel
theorem d_L_law_375 : decode cL_law 375 = .ok (.iload_n 3, 1) := by decide +kernel
theorem d_L_law_376 : decode cL_law 376 = .ok (.iconst 1, 1) := by decide +kernel
theorem d_L_law_377 : decode cL_law 377 = .ok (.iadd, 1) := by decide +kernel
theorem d_L_law_378 : decode cL_law 378 = .ok (.iaload, 1) := by decide +kernel
theorem d_L_law_379 : decode cL_law 379 = .ok (.invokevirtual 45, 3) := by decide +kernel
theorem d_L_law_382 : decode cL_law 382 = .ok (.pop, 1) := by decide +kernel
theorem d_L_law_383 : decode cL_law 383 = .ok (.aload_n 2, 1) := by decide +kernel
theorem d_L_law_384 : decode cL_law 384 = .ok (.aload_n 0, 1) := by decide +kernel
theorem d_L_law_385 : decode cL_law 385 = .ok (.iload_n 3, 1) := by decide +kernel
theorem d_L_law_386 : decode cL_law 386 = .ok (.iconst 1, 1) := by decide +kernel
theorem d_L_law_387 : decode cL_law 387 = .ok (.iadd, 1) := by decide +kernel
theorem d_L_law_388 : decode cL_law 388 = .ok (.iaload, 1) := by decide +kernel
theorem d_L_law_389 : decode cL_law 389 = .ok (.invokevirtual 48, 3) := by decide +kernel
theorem d_L_law_392 : decode cL_law 392 = .ok (.pop, 1) := by decide +kernel
theorem d_L_law_393 : decode cL_law 393 = .ok (.goto 917, 3) := by decide +kernel
theorem d_L_law_396 : decode cL_law 396 = .ok (.aload_n 1, 1) := by decide +kernel
theorem d_L_law_397 : decode cL_law 397 = .ok (.aload_n 0, 1) := by decide +kernel
theorem d_L_law_398 : decode cL_law 398 = .ok (.iload_n 3, 1) := by decide +kernel
theorem d_L_law_399 : decode cL_law 399 = .ok (.iconst 1, 1) := by decide +kernel
theorem d_L_law_400 : decode cL_law 400 = .ok (.iadd, 1) := by decide +kernel
theorem d_L_law_401 : decode cL_law 401 = .ok (.iaload, 1) := by decide +kernel
theorem d_L_law_402 : decode cL_law 402 = .ok (.aload_n 0, 1) := by decide +kernel
theorem d_L_law_403 : decode cL_law 403 = .ok (.iload_n 3, 1) := by decide +kernel
theorem d_L_law_404 : decode cL_law 404 = .ok (.iconst 2, 1) := by decide +kernel
theorem d_L_law_405 : decode cL_law 405 = .ok (.iadd, 1) := by decide +kernel
theorem d_L_law_406 : decode cL_law 406 = .ok (.iaload, 1) := by decide +kernel
theorem d_L_law_407 : decode cL_law 407 = .ok (.invokevirtual 49, 3) := by decide +kernel
theorem d_L_law_410 : decode cL_law 410 = .ok (.pop, 1) := by decide +kernel
theorem d_L_law_411 : decode cL_law 411 = .ok (.aload_n 2, 1) := by decide +kernel
theorem d_L_law_412 : decode cL_law 412 = .ok (.aload_n 0, 1) := by decide +kernel
theorem d_L_law_413 : decode cL_law 413 = .ok (.iload_n 3, 1) := by decide +kernel
theorem d_L_law_414 : decode cL_law 414 = .ok (.iconst 1, 1) := by decide +kernel
theorem d_L_law_415 : decode cL_law 415 = .ok (.iadd, 1) := by decide +kernel
theorem d_L_law_416 : decode cL_law 416 = .ok (.iaload, 1) := by decide +kernel
theorem d_L_law_417 : decode cL_law 417 = .ok (.aload_n 0, 1) := by decide +kernel
theorem d_L_law_418 : decode cL_law 418 = .ok (.iload_n 3, 1) := by decide +kernel
theorem d_L_law_419 : decode cL_law 419 = .ok (.iconst 2, 1) := by decide +kernel
theorem d_L_law_420 : decode cL_law 420 = .ok (.iadd, 1) := by decide +kernel
theorem d_L_law_421 : decode cL_law 421 = .ok (.iaload, 1) := by decide +kernel
theorem d_L_law_422 : decode cL_law 422 = .ok (.invokevirtual 52, 3) := by decide +kernel
theorem d_L_law_425 : decode cL_law 425 = .ok (.pop, 1) := by decide +kernel
theorem d_L_law_426 : decode cL_law 426 = .ok (.goto 884, 3) := by decide +kernel
theorem d_L_law_429 : decode cL_law 429 = .ok (.aload_n 1, 1) := by decide +kernel
theorem d_L_law_430 : decode cL_law 430 = .ok (.aload_n 0, 1) := by decide +kernel
theorem d_L_law_431 : decode cL_law 431 = .ok (.iload_n 3, 1) := by decide +kernel
theorem d_L_law_432 : decode cL_law 432 = .ok (.iconst 1, 1) := by decide +kernel
theorem d_L_law_433 : decode cL_law 433 = .ok (.iadd, 1) := by decide +kernel
theorem d_L_law_434 : decode cL_law 434 = .ok (.iaload, 1) := by decide +kernel
theorem d_L_law_435 : decode cL_law 435 = .ok (.aload_n 0, 1) := by decide +kernel
theorem d_L_law_436 : decode cL_law 436 = .ok (.iload_n 3, 1) := by decide +kernel
theorem d_L_law_437 : decode cL_law 437 = .ok (.iconst 2, 1) := by decide +kernel
theorem d_L_law_438 : decode cL_law 438 = .ok (.iadd, 1) := by decide +kernel
theorem d_L_law_439 : decode cL_law 439 = .ok (.iaload, 1) := by decide +kernel
theorem d_L_law_440 : decode cL_law 440 = .ok (.invokevirtual 53, 3) := by decide +kernel
theorem d_L_law_443 : decode cL_law 443 = .ok (.pop, 1) := by decide +kernel
theorem d_L_law_444 : decode cL_law 444 = .ok (.aload_n 2, 1) := by decide +kernel
theorem d_L_law_445 : decode cL_law 445 = .ok (.aload_n 0, 1) := by decide +kernel
theorem d_L_law_446 : decode cL_law 446 = .ok (.iload_n 3, 1) := by decide +kernel
theorem d_L_law_447 : decode cL_law 447 = .ok (.iconst 1, 1) := by decide +kernel
theorem d_L_law_448 : decode cL_law 448 = .ok (.iadd, 1) := by decide +kernel
theorem d_L_law_449 : decode cL_law 449 = .ok (.iaload, 1) := by decide +kernel
theorem d_L_law_450 : decode cL_law 450 = .ok (.aload_n 0, 1) := by decide +kernel
theorem d_L_law_451 : decode cL_law 451 = .ok (.iload_n 3, 1) := by decide +kernel
theorem d_L_law_452 : decode cL_law 452 = .ok (.iconst 2, 1) := by decide +kernel
theorem d_L_law_453 : decode cL_law 453 = .ok (.iadd, 1) := by decide +kernel
theorem d_L_law_454 : decode cL_law 454 = .ok (.iaload, 1) := by decide +kernel
theorem d_L_law_455 : decode cL_law 455 = .ok (.invokevirtual 56, 3) := by decide +kernel
theorem d_L_law_458 : decode cL_law 458 = .ok (.pop, 1) := by decide +kernel
theorem d_L_law_459 : decode cL_law 459 = .ok (.goto 851, 3) := by decide +kernel
theorem d_L_law_462 : decode cL_law 462 = .ok (.aload_n 1, 1) := by decide +kernel
theorem d_L_law_463 : decode cL_law 463 = .ok (.invokevirtual 57, 3) := by decide +kernel
theorem d_L_law_466 : decode cL_law 466 = .ok (.pop, 1) := by decide +kernel
theorem d_L_law_467 : decode cL_law 467 = .ok (.aload_n 2, 1) := by decide +kernel
theorem d_L_law_468 : decode cL_law 468 = .ok (.invokevirtual 60, 3) := by decide +kernel
theorem d_L_law_471 : decode cL_law 471 = .ok (.pop, 1) := by decide +kernel
theorem d_L_law_472 : decode cL_law 472 = .ok (.goto 838, 3) := by decide +kernel
theorem d_L_law_475 : decode cL_law 475 = .ok (.aload_n 1, 1) := by decide +kernel
theorem d_L_law_476 : decode cL_law 476 = .ok (.aload_n 0, 1) := by decide +kernel
theorem d_L_law_477 : decode cL_law 477 = .ok (.iload_n 3, 1) := by decide +kernel
theorem d_L_law_478 : decode cL_law 478 = .ok (.iconst 1, 1) := by decide +kernel
theorem d_L_law_479 : decode cL_law 479 = .ok (.iadd, 1) := by decide +kernel
theorem d_L_law_480 : decode cL_law 480 = .ok (.iaload, 1) := by decide +kernel
theorem d_L_law_481 : decode cL_law 481 = .ok (.invokevirtual 61, 3) := by decide +kernel
theorem d_L_law_484 : decode cL_law 484 = .ok (.pop, 1) := by decide +kernel
theorem d_L_law_485 : decode cL_law 485 = .ok (.aload_n 2, 1) := by decide +kernel
theorem d_L_law_486 : decode cL_law 486 = .ok (.aload_n 0, 1) := by decide +kernel
theorem d_L_law_487 : decode cL_law 487 = .ok (.iload_n 3, 1) := by decide +kernel
theorem d_L_law_488 : decode cL_law 488 = .ok (.iconst 1, 1) := by decide +kernel
theorem d_L_law_489 : decode cL_law 489 = .ok (.iadd, 1) := by decide +kernel
theorem d_L_law_490 : decode cL_law 490 = .ok (.iaload, 1) := by decide +kernel
theorem d_L_law_491 : decode cL_law 491 = .ok (.invokevirtual 64, 3) := by decide +kernel
theorem d_L_law_494 : decode cL_law 494 = .ok (.pop, 1) := by decide +kernel
theorem d_L_law_495 : decode cL_law 495 = .ok (.goto 815, 3) := by decide +kernel
theorem d_L_law_498 : decode cL_law 498 = .ok (.aload_n 1, 1) := by decide +kernel
theorem d_L_law_499 : decode cL_law 499 = .ok (.aload_n 0, 1) := by decide +kernel
theorem d_L_law_500 : decode cL_law 500 = .ok (.iload_n 3, 1) := by decide +kernel
theorem d_L_law_501 : decode cL_law 501 = .ok (.iconst 1, 1) := by decide +kernel
theorem d_L_law_502 : decode cL_law 502 = .ok (.iadd, 1) := by decide +kernel
theorem d_L_law_503 : decode cL_law 503 = .ok (.iaload, 1) := by decide +kernel
theorem d_L_law_504 : decode cL_law 504 = .ok (.aload_n 0, 1) := by decide +kernel
theorem d_L_law_505 : decode cL_law 505 = .ok (.iload_n 3, 1) := by decide +kernel
theorem d_L_law_506 : decode cL_law 506 = .ok (.iconst 2, 1) := by decide +kernel
theorem d_L_law_507 : decode cL_law 507 = .ok (.iadd, 1) := by decide +kernel
theorem d_L_law_508 : decode cL_law 508 = .ok (.iaload, 1) := by decide +kernel
theorem d_L_law_509 : decode cL_law 509 = .ok (.aload_n 0, 1) := by decide +kernel
theorem d_L_law_510 : decode cL_law 510 = .ok (.iload_n 3, 1) := by decide +kernel
theorem d_L_law_511 : decode cL_law 511 = .ok (.iconst 3, 1) := by decide +kernel
theorem d_L_law_512 : decode cL_law 512 = .ok (.iadd, 1) := by decide +kernel
theorem d_L_law_513 : decode cL_law 513 = .ok (.iaload, 1) := by decide +kernel
theorem d_L_law_514 : decode cL_law 514 = .ok (.invokevirtual 65, 3) := by decide +kernel
theorem d_L_law_517 : decode cL_law 517 = .ok (.pop, 1) := by decide +kernel
theorem d_L_law_518 : decode cL_law 518 = .ok (.aload_n 2, 1) := by decide +kernel
theorem d_L_law_519 : decode cL_law 519 = .ok (.aload_n 0, 1) := by decide +kernel
theorem d_L_law_520 : decode cL_law 520 = .ok (.iload_n 3, 1) := by decide +kernel
theorem d_L_law_521 : decode cL_law 521 = .ok (.iconst 1, 1) := by decide +kernel
theorem d_L_law_522 : decode cL_law 522 = .ok (.iadd, 1) := by decide +kernel
theorem d_L_law_523 : decode cL_law 523 = .ok (.iaload, 1) := by decide +kernel
theorem d_L_law_524 : decode cL_law 524 = .ok (.aload_n 0, 1) := by decide +kernel
theorem d_L_law_525 : decode cL_law 525 = .ok (.iload_n 3, 1) := by decide +kernel
theorem d_L_law_526 : decode cL_law 526 = .ok (.iconst 2, 1) := by decide +kernel
theorem d_L_law_527 : decode cL_law 527 = .ok (.iadd, 1) := by decide +kernel
theorem d_L_law_528 : decode cL_law 528 = .ok (.iaload, 1) := by decide +kernel
theorem d_L_law_529 : decode cL_law 529 = .ok (.aload_n 0, 1) := by decide +kernel
theorem d_L_law_530 : decode cL_law 530 = .ok (.iload_n 3, 1) := by decide +kernel
theorem d_L_law_531 : decode cL_law 531 = .ok (.iconst 3, 1) := by decide +kernel
theorem d_L_law_532 : decode cL_law 532 = .ok (.iadd, 1) := by decide +kernel
theorem d_L_law_533 : decode cL_law 533 = .ok (.iaload, 1) := by decide +kernel
theorem d_L_law_534 : decode cL_law 534 = .ok (.invokevirtual 69, 3) := by decide +kernel
theorem d_L_law_537 : decode cL_law 537 = .ok (.pop, 1) := by decide +kernel
theorem d_L_law_538 : decode cL_law 538 = .ok (.goto 772, 3) := by decide +kernel
theorem d_L_law_541 : decode cL_law 541 = .ok (.aload_n 1, 1) := by decide +kernel
theorem d_L_law_542 : decode cL_law 542 = .ok (.aload_n 0, 1) := by decide +kernel
theorem d_L_law_543 : decode cL_law 543 = .ok (.iload_n 3, 1) := by decide +kernel
theorem d_L_law_544 : decode cL_law 544 = .ok (.iconst 1, 1) := by decide +kernel
theorem d_L_law_545 : decode cL_law 545 = .ok (.iadd, 1) := by decide +kernel
theorem d_L_law_546 : decode cL_law 546 = .ok (.iaload, 1) := by decide +kernel
theorem d_L_law_547 : decode cL_law 547 = .ok (.aload_n 0, 1) := by decide +kernel
theorem d_L_law_548 : decode cL_law 548 = .ok (.iload_n 3, 1) := by decide +kernel
theorem d_L_law_549 : decode cL_law 549 = .ok (.iconst 2, 1) := by decide +kernel
theorem d_L_law_550 : decode cL_law 550 = .ok (.iadd, 1) := by decide +kernel
theorem d_L_law_551 : decode cL_law 551 = .ok (.iaload, 1) := by decide +kernel
theorem d_L_law_552 : decode cL_law 552 = .ok (.aload_n 0, 1) := by decide +kernel
theorem d_L_law_553 : decode cL_law 553 = .ok (.iload_n 3, 1) := by decide +kernel
theorem d_L_law_554 : decode cL_law 554 = .ok (.iconst 3, 1) := by decide +kernel
theorem d_L_law_555 : decode cL_law 555 = .ok (.iadd, 1) := by decide +kernel
theorem d_L_law_556 : decode cL_law 556 = .ok (.iaload, 1) := by decide +kernel
theorem d_L_law_557 : decode cL_law 557 = .ok (.invokevirtual 70, 3) := by decide +kernel
theorem d_L_law_560 : decode cL_law 560 = .ok (.pop, 1) := by decide +kernel
theorem d_L_law_561 : decode cL_law 561 = .ok (.aload_n 2, 1) := by decide +kernel
theorem d_L_law_562 : decode cL_law 562 = .ok (.aload_n 0, 1) := by decide +kernel
theorem d_L_law_563 : decode cL_law 563 = .ok (.iload_n 3, 1) := by decide +kernel
theorem d_L_law_564 : decode cL_law 564 = .ok (.iconst 1, 1) := by decide +kernel
theorem d_L_law_565 : decode cL_law 565 = .ok (.iadd, 1) := by decide +kernel
theorem d_L_law_566 : decode cL_law 566 = .ok (.iaload, 1) := by decide +kernel
theorem d_L_law_567 : decode cL_law 567 = .ok (.aload_n 0, 1) := by decide +kernel
theorem d_L_law_568 : decode cL_law 568 = .ok (.iload_n 3, 1) := by decide +kernel
theorem d_L_law_569 : decode cL_law 569 = .ok (.iconst 2, 1) := by decide +kernel
theorem d_L_law_570 : decode cL_law 570 = .ok (.iadd, 1) := by decide +kernel
theorem d_L_law_571 : decode cL_law 571 = .ok (.iaload, 1) := by decide +kernel
theorem d_L_law_572 : decode cL_law 572 = .ok (.aload_n 0, 1) := by decide +kernel
theorem d_L_law_573 : decode cL_law 573 = .ok (.iload_n 3, 1) := by decide +kernel
theorem d_L_law_574 : decode cL_law 574 = .ok (.iconst 3, 1) := by decide +kernel
theorem d_L_law_575 : decode cL_law 575 = .ok (.iadd, 1) := by decide +kernel
theorem d_L_law_576 : decode cL_law 576 = .ok (.iaload, 1) := by decide +kernel
theorem d_L_law_577 : decode cL_law 577 = .ok (.invokevirtual 73, 3) := by decide +kernel
theorem d_L_law_580 : decode cL_law 580 = .ok (.pop, 1) := by decide +kernel
theorem d_L_law_581 : decode cL_law 581 = .ok (.goto 729, 3) := by decide +kernel
theorem d_L_law_584 : decode cL_law 584 = .ok (.aload_n 1, 1) := by decide +kernel
theorem d_L_law_585 : decode cL_law 585 = .ok (.aload_n 0, 1) := by decide +kernel
theorem d_L_law_586 : decode cL_law 586 = .ok (.iload_n 3, 1) := by decide +kernel
theorem d_L_law_587 : decode cL_law 587 = .ok (.iconst 1, 1) := by decide +kernel
theorem d_L_law_588 : decode cL_law 588 = .ok (.iadd, 1) := by decide +kernel
theorem d_L_law_589 : decode cL_law 589 = .ok (.iaload, 1) := by decide +kernel
theorem d_L_law_590 : decode cL_law 590 = .ok (.aload_n 0, 1) := by decide +kernel
theorem d_L_law_591 : decode cL_law 591 = .ok (.iload_n 3, 1) := by decide +kernel
theorem d_L_law_592 : decode cL_law 592 = .ok (.iconst 2, 1) := by decide +kernel
theorem d_L_law_593 : decode cL_law 593 = .ok (.iadd, 1) := by decide +kernel
theorem d_L_law_594 : decode cL_law 594 = .ok (.iaload, 1) := by decide +kernel
theorem d_L_law_595 : decode cL_law 595 = .ok (.invokevirtual 74, 3) := by decide +kernel
theorem d_L_law_598 : decode cL_law 598 = .ok (.pop, 1) := by decide +kernel
theorem d_L_law_599 : decode cL_law 599 = .ok (.aload_n 2, 1) := by decide +kernel
theorem d_L_law_600 : decode cL_law 600 = .ok (.aload_n 0, 1) := by decide +kernel
theorem d_L_law_601 : decode cL_law 601 = .ok (.iload_n 3, 1) := by decide +kernel
theorem d_L_law_602 : decode cL_law 602 = .ok (.iconst 1, 1) := by decide +kernel
theorem d_L_law_603 : decode cL_law 603 = .ok (.iadd, 1) := by decide +kernel
theorem d_L_law_604 : decode cL_law 604 = .ok (.iaload, 1) := by decide +kernel
theorem d_L_law_605 : decode cL_law 605 = .ok (.aload_n 0, 1) := by decide +kernel
theorem d_L_law_606 : decode cL_law 606 = .ok (.iload_n 3, 1) := by decide +kernel
theorem d_L_law_607 : decode cL_law 607 = .ok (.iconst 2, 1) := by decide +kernel
theorem d_L_law_608 : decode cL_law 608 = .ok (.iadd, 1) := by decide +kernel
theorem d_L_law_609 : decode cL_law 609 = .ok (.iaload, 1) := by decide +kernel
theorem d_L_law_610 : decode cL_law 610 = .ok (.invokevirtual 77, 3) := by decide +kernel
theorem d_L_law_613 : decode cL_law 613 = .ok (.pop, 1) := by decide +kernel
theorem d_L_law_614 : decode cL_law 614 = .ok (.goto 696, 3) := by decide +kernel
theorem d_L_law_617 : decode cL_law 617 = .ok (.aload_n 1, 1) := by decide +kernel
theorem d_L_law_618 : decode cL_law 618 = .ok (.aload_n 0, 1) := by decide +kernel
theorem d_L_law_619 : decode cL_law 619 = .ok (.iload_n 3, 1) := by decide +kernel
theorem d_L_law_620 : decode cL_law 620 = .ok (.iconst 1, 1) := by decide +kernel
theorem d_L_law_621 : decode cL_law 621 = .ok (.iadd, 1) := by decide +kernel
theorem d_L_law_622 : decode cL_law 622 = .ok (.iaload, 1) := by decide +kernel
theorem d_L_law_623 : decode cL_law 623 = .ok (.aload_n 0, 1) := by decide +kernel
theorem d_L_law_624 : decode cL_law 624 = .ok (.iload_n 3, 1) := by decide +kernel
theorem d_L_law_625 : decode cL_law 625 = .ok (.iconst 2, 1) := by decide +kernel
theorem d_L_law_626 : decode cL_law 626 = .ok (.iadd, 1) := by decide +kernel
theorem d_L_law_627 : decode cL_law 627 = .ok (.iaload, 1) := by decide +kernel
theorem d_L_law_628 : decode cL_law 628 = .ok (.aload_n 0, 1) := by decide +kernel
theorem d_L_law_629 : decode cL_law 629 = .ok (.iload_n 3, 1) := by decide +kernel
theorem d_L_law_630 : decode cL_law 630 = .ok (.iconst 3, 1) := by decide +kernel
theorem d_L_law_631 : decode cL_law 631 = .ok (.iadd, 1) := by decide +kernel
theorem d_L_law_632 : decode cL_law 632 = .ok (.iaload, 1) := by decide +kernel
theorem d_L_law_633 : decode cL_law 633 = .ok (.invokevirtual 78, 3) := by decide +kernel
theorem d_L_law_636 : decode cL_law 636 = .ok (.pop, 1) := by decide +kernel
theorem d_L_law_637 : decode cL_law 637 = .ok (.aload_n 2, 1) := by decide +kernel
theorem d_L_law_638 : decode cL_law 638 = .ok (.aload_n 0, 1) := by decide +kernel
theorem d_L_law_639 : decode cL_law 639 = .ok (.iload_n 3, 1) := by decide +kernel
theorem d_L_law_640 : decode cL_law 640 = .ok (.iconst 1, 1) := by decide +kernel
theorem d_L_law_641 : decode cL_law 641 = .ok (.iadd, 1) := by decide +kernel
theorem d_L_law_642 : decode cL_law 642 = .ok (.iaload, 1) := by decide +kernel
theorem d_L_law_643 : decode cL_law 643 = .ok (.aload_n 0, 1) := by decide +kernel
theorem d_L_law_644 : decode cL_law 644 = .ok (.iload_n 3, 1) := by decide +kernel
theorem d_L_law_645 : decode cL_law 645 = .ok (.iconst 2, 1) := by decide +kernel
theorem d_L_law_646 : decode cL_law 646 = .ok (.iadd, 1) := by decide +kernel
theorem d_L_law_647 : decode cL_law 647 = .ok (.iaload, 1) := by decide +kernel
theorem d_L_law_648 : decode cL_law 648 = .ok (.aload_n 0, 1) := by decide +kernel
theorem d_L_law_649 : decode cL_law 649 = .ok (.iload_n 3, 1) := by decide +kernel
theorem d_L_law_650 : decode cL_law 650 = .ok (.iconst 3, 1) := by decide +kernel
theorem d_L_law_651 : decode cL_law 651 = .ok (.iadd, 1) := by decide +kernel
theorem d_L_law_652 : decode cL_law 652 = .ok (.iaload, 1) := by decide +kernel
theorem d_L_law_653 : decode cL_law 653 = .ok (.invokevirtual 81, 3) := by decide +kernel
theorem d_L_law_656 : decode cL_law 656 = .ok (.pop, 1) := by decide +kernel
theorem d_L_law_657 : decode cL_law 657 = .ok (.goto 653, 3) := by decide +kernel
theorem d_L_law_660 : decode cL_law 660 = .ok (.aload_n 1, 1) := by decide +kernel
theorem d_L_law_661 : decode cL_law 661 = .ok (.aload_n 0, 1) := by decide +kernel
theorem d_L_law_662 : decode cL_law 662 = .ok (.iload_n 3, 1) := by decide +kernel
theorem d_L_law_663 : decode cL_law 663 = .ok (.iconst 1, 1) := by decide +kernel
theorem d_L_law_664 : decode cL_law 664 = .ok (.iadd, 1) := by decide +kernel
theorem d_L_law_665 : decode cL_law 665 = .ok (.iaload, 1) := by decide +kernel
theorem d_L_law_666 : decode cL_law 666 = .ok (.aload_n 0, 1) := by decide +kernel
theorem d_L_law_667 : decode cL_law 667 = .ok (.iload_n 3, 1) := by decide +kernel
theorem d_L_law_668 : decode cL_law 668 = .ok (.iconst 2, 1) := by decide +kernel
theorem d_L_law_669 : decode cL_law 669 = .ok (.iadd, 1) := by decide +kernel
theorem d_L_law_670 : decode cL_law 670 = .ok (.iaload, 1) := by decide +kernel
theorem d_L_law_671 : decode cL_law 671 = .ok (.aload_n 0, 1) := by decide +kernel
theorem d_L_law_672 : decode cL_law 672 = .ok (.iload_n 3, 1) := by decide +kernel
theorem d_L_law_673 : decode cL_law 673 = .ok (.iconst 3, 1) := by decide +kernel
theorem d_L_law_674 : decode cL_law 674 = .ok (.iadd, 1) := by decide +kernel
theorem d_L_law_675 : decode cL_law 675 = .ok (.iaload, 1) := by decide +kernel
theorem d_L_law_676 : decode cL_law 676 = .ok (.invokevirtual 82, 3) := by decide +kernel
theorem d_L_law_679 : decode cL_law 679 = .ok (.pop, 1) := by decide +kernel
theorem d_L_law_680 : decode cL_law 680 = .ok (.aload_n 2, 1) := by decide +kernel
theorem d_L_law_681 : decode cL_law 681 = .ok (.aload_n 0, 1) := by decide +kernel
theorem d_L_law_682 : decode cL_law 682 = .ok (.iload_n 3, 1) := by decide +kernel
theorem d_L_law_683 : decode cL_law 683 = .ok (.iconst 1, 1) := by decide +kernel
theorem d_L_law_684 : decode cL_law 684 = .ok (.iadd, 1) := by decide +kernel
theorem d_L_law_685 : decode cL_law 685 = .ok (.iaload, 1) := by decide +kernel
theorem d_L_law_686 : decode cL_law 686 = .ok (.aload_n 0, 1) := by decide +kernel
theorem d_L_law_687 : decode cL_law 687 = .ok (.iload_n 3, 1) := by decide +kernel
theorem d_L_law_688 : decode cL_law 688 = .ok (.iconst 2, 1) := by decide +kernel
theorem d_L_law_689 : decode cL_law 689 = .ok (.iadd, 1) := by decide +kernel
theorem d_L_law_690 : decode cL_law 690 = .ok (.iaload, 1) := by decide +kernel
theorem d_L_law_691 : decode cL_law 691 = .ok (.aload_n 0, 1) := by decide +kernel
theorem d_L_law_692 : decode cL_law 692 = .ok (.iload_n 3, 1) := by decide +kernel
theorem d_L_law_693 : decode cL_law 693 = .ok (.iconst 3, 1) := by decide +kernel
theorem d_L_law_694 : decode cL_law 694 = .ok (.iadd, 1) := by decide +kernel
theorem d_L_law_695 : decode cL_law 695 = .ok (.iaload, 1) := by decide +kernel
theorem d_L_law_696 : decode cL_law 696 = .ok (.invokevirtual 85, 3) := by decide +kernel
theorem d_L_law_699 : decode cL_law 699 = .ok (.pop, 1) := by decide +kernel
theorem d_L_law_700 : decode cL_law 700 = .ok (.goto 610, 3) := by decide +kernel
theorem d_L_law_703 : decode cL_law 703 = .ok (.aload_n 1, 1) := by decide +kernel
theorem d_L_law_704 : decode cL_law 704 = .ok (.aload_n 0, 1) := by decide +kernel
theorem d_L_law_705 : decode cL_law 705 = .ok (.iload_n 3, 1) := by decide +kernel
theorem d_L_law_706 : decode cL_law 706 = .ok (.iconst 1, 1) := by decide +kernel
theorem d_L_law_707 : decode cL_law 707 = .ok (.iadd, 1) := by decide +kernel
theorem d_L_law_708 : decode cL_law 708 = .ok (.iaload, 1) := by decide +kernel
theorem d_L_law_709 : decode cL_law 709 = .ok (.aload_n 0, 1) := by decide +kernel
theorem d_L_law_710 : decode cL_law 710 = .ok (.iload_n 3, 1) := by decide +kernel
theorem d_L_law_711 : decode cL_law 711 = .ok (.iconst 2, 1) := by decide +kernel
theorem d_L_law_712 : decode cL_law 712 = .ok (.iadd, 1) := by decide +kernel
theorem d_L_law_713 : decode cL_law 713 = .ok (.iaload, 1) := by decide +kernel
theorem d_L_law_714 : decode cL_law 714 = .ok (.aload_n 0, 1) := by decide +kernel
theorem d_L_law_715 : decode cL_law 715 = .ok (.iload_n 3, 1) := by decide +kernel
theorem d_L_law_716 : decode cL_law 716 = .ok (.iconst 3, 1) := by decide +kernel
theorem d_L_law_717 : decode cL_law 717 = .ok (.iadd, 1) := by decide +kernel
theorem d_L_law_718 : decode cL_law 718 = .ok (.iaload, 1) := by decide +kernel
theorem d_L_law_719 : decode cL_law 719 = .ok (.invokevirtual 86, 3) := by decide +kernel
theorem d_L_law_722 : decode cL_law 722 = .ok (.pop, 1) := by decide +kernel
theorem d_L_law_723 : decode cL_law 723 = .ok (.aload_n 2, 1) := by decide +kernel
theorem d_L_law_724 : decode cL_law 724 = .ok (.aload_n 0, 1) := by decide +kernel
theorem d_L_law_725 : decode cL_law 725 = .ok (.iload_n 3, 1) := by decide +kernel
theorem d_L_law_726 : decode cL_law 726 = .ok (.iconst 1, 1) := by decide +kernel
theorem d_L_law_727 : decode cL_law 727 = .ok (.iadd, 1) := by decide +kernel
theorem d_L_law_728 : decode cL_law 728 = .ok (.iaload, 1) := by decide +kernel
theorem d_L_law_729 : decode cL_law 729 = .ok (.aload_n 0, 1) := by decide +kernel
theorem d_L_law_730 : decode cL_law 730 = .ok (.iload_n 3, 1) := by decide +kernel
theorem d_L_law_731 : decode cL_law 731 = .ok (.iconst 2, 1) := by decide +kernel
theorem d_L_law_732 : decode cL_law 732 = .ok (.iadd, 1) := by decide +kernel
theorem d_L_law_733 : decode cL_law 733 = .ok (.iaload, 1) := by decide +kernel
theorem d_L_law_734 : decode cL_law 734 = .ok (.aload_n 0, 1) := by decide +kernel
theorem d_L_law_735 : decode cL_law 735 = .ok (.iload_n 3, 1) := by decide +kernel
theorem d_L_law_736 : decode cL_law 736 = .ok (.iconst 3, 1) := by decide +kernel
theorem d_L_law_737 : decode cL_law 737 = .ok (.iadd, 1) := by decide +kernel
theorem d_L_law_738 : decode cL_law 738 = .ok (.iaload, 1) := by decide +kernel
theorem d_L_law_739 : decode cL_law 739 = .ok (.invokevirtual 89, 3) := by decide +kernel
theorem d_L_law_742 : decode cL_law 742 = .ok (.pop, 1) := by decide +kernel
theorem d_L_law_743 : decode cL_law 743 = .ok (.goto 567, 3) := by decide +kernel
theorem d_L_law_746 : decode cL_law 746 = .ok (.aload_n 1, 1) := by decide +kernel
theorem d_L_law_747 : decode cL_law 747 = .ok (.aload_n 0, 1) := by decide +kernel
theorem d_L_law_748 : decode cL_law 748 = .ok (.iload_n 3, 1) := by decide +kernel
theorem d_L_law_749 : decode cL_law 749 = .ok (.iconst 1, 1) := by decide +kernel
theorem d_L_law_750 : decode cL_law 750 = .ok (.iadd, 1) := by decide +kernel
theorem d_L_law_751 : decode cL_law 751 = .ok (.iaload, 1) := by decide +kernel
theorem d_L_law_752 : decode cL_law 752 = .ok (.aload_n 0, 1) := by decide +kernel
theorem d_L_law_753 : decode cL_law 753 = .ok (.iload_n 3, 1) := by decide +kernel
theorem d_L_law_754 : decode cL_law 754 = .ok (.iconst 2, 1) := by decide +kernel
theorem d_L_law_755 : decode cL_law 755 = .ok (.iadd, 1) := by decide +kernel
theorem d_L_law_756 : decode cL_law 756 = .ok (.iaload, 1) := by decide +kernel
theorem d_L_law_757 : decode cL_law 757 = .ok (.invokevirtual 90, 3) := by decide +kernel
theorem d_L_law_760 : decode cL_law 760 = .ok (.pop, 1) := by decide +kernel
theorem d_L_law_761 : decode cL_law 761 = .ok (.aload_n 2, 1) := by decide +kernel
theorem d_L_law_762 : decode cL_law 762 = .ok (.aload_n 0, 1) := by decide +kernel
theorem d_L_law_763 : decode cL_law 763 = .ok (.iload_n 3, 1) := by decide +kernel
theorem d_L_law_764 : decode cL_law 764 = .ok (.iconst 1, 1) := by decide +kernel
theorem d_L_law_765 : decode cL_law 765 = .ok (.iadd, 1) := by decide +kernel
theorem d_L_law_766 : decode cL_law 766 = .ok (.iaload, 1) := by decide +kernel
theorem d_L_law_767 : decode cL_law 767 = .ok (.aload_n 0, 1) := by decide +kernel
theorem d_L_law_768 : decode cL_law 768 = .ok (.iload_n 3, 1) := by decide +kernel
theorem d_L_law_769 : decode cL_law 769 = .ok (.iconst 2, 1) := by decide +kernel
theorem d_L_law_770 : decode cL_law 770 = .ok (.iadd, 1) := by decide +kernel
theorem d_L_law_771 : decode cL_law 771 = .ok (.iaload, 1) := by decide +kernel
theorem d_L_law_772 : decode cL_law 772 = .ok (.invokevirtual 93, 3) := by decide +kernel
theorem d_L_law_775 : decode cL_law 775 = .ok (.pop, 1) := by decide +kernel
theorem d_L_law_776 : decode cL_law 776 = .ok (.goto 534, 3) := by decide +kernel
theorem d_L_law_779 : decode cL_law 779 = .ok (.aload_n 1, 1) := by decide +kernel
theorem d_L_law_780 : decode cL_law 780 = .ok (.aload_n 0, 1) := by decide +kernel
theorem d_L_law_781 : decode cL_law 781 = .ok (.iload_n 3, 1) := by decide +kernel
theorem d_L_law_782 : decode cL_law 782 = .ok (.iconst 1, 1) := by decide +kernel
theorem d_L_law_783 : decode cL_law 783 = .ok (.iadd, 1) := by decide +kernel
theorem d_L_law_784 : decode cL_law 784 = .ok (.iaload, 1) := by decide +kernel
theorem d_L_law_785 : decode cL_law 785 = .ok (.aload_n 0, 1) := by decide +kernel
theorem d_L_law_786 : decode cL_law 786 = .ok (.iload_n 3, 1) := by decide +kernel
theorem d_L_law_787 : decode cL_law 787 = .ok (.iconst 2, 1) := by decide +kernel
theorem d_L_law_788 : decode cL_law 788 = .ok (.iadd, 1) := by decide +kernel
theorem d_L_law_789 : decode cL_law 789 = .ok (.iaload, 1) := by decide +kernel
theorem d_L_law_790 : decode cL_law 790 = .ok (.invokevirtual 94, 3) := by decide +kernel
theorem d_L_law_793 : decode cL_law 793 = .ok (.pop, 1) := by decide +kernel
theorem d_L_law_794 : decode cL_law 794 = .ok (.aload_n 2, 1) := by decide +kernel
theorem d_L_law_795 : decode cL_law 795 = .ok (.aload_n 0, 1) := by decide +kernel
theorem d_L_law_796 : decode cL_law 796 = .ok (.iload_n 3, 1) := by decide +kernel
theorem d_L_law_797 : decode cL_law 797 = .ok (.iconst 1, 1) := by decide +kernel
theorem d_L_law_798 : decode cL_law 798 = .ok (.iadd, 1) := by decide +kernel
theorem d_L_law_799 : decode cL_law 799 = .ok (.iaload, 1) := by decide +kernel
theorem d_L_law_800 : decode cL_law 800 = .ok (.aload_n 0, 1) := by decide +kernel
theorem d_L_law_801 : decode cL_law 801 = .ok (.iload_n 3, 1) := by decide +kernel
theorem d_L_law_802 : decode cL_law 802 = .ok (.iconst 2, 1) := by decide +kernel
theorem d_L_law_803 : decode cL_law 803 = .ok (.iadd, 1) := by decide +kernel
theorem d_L_law_804 : decode cL_law 804 = .ok (.iaload, 1) := by decide +kernel
theorem d_L_law_805 : decode cL_law 805 = .ok (.invokevirtual 97, 3) := by decide +kernel
theorem d_L_law_808 : decode cL_law 808 = .ok (.pop, 1) := by decide +kernel
theorem d_L_law_809 : decode cL_law 809 = .ok (.goto 501, 3) := by decide +kernel
theorem d_L_law_812 : decode cL_law 812 = .ok (.aload_n 1, 1) := by decide +kernel
theorem d_L_law_813 : decode cL_law 813 = .ok (.aload_n 0, 1) := by decide +kernel
theorem d_L_law_814 : decode cL_law 814 = .ok (.iload_n 3, 1) := by decide +kernel
theorem d_L_law_815 : decode cL_law 815 = .ok (.iconst 1, 1) := by decide +kernel
theorem d_L_law_816 : decode cL_law 816 = .ok (.iadd, 1) := by decide +kernel
theorem d_L_law_817 : decode cL_law 817 = .ok (.iaload, 1) := by decide +kernel
theorem d_L_law_818 : decode cL_law 818 = .ok (.aload_n 0, 1) := by decide +kernel
theorem d_L_law_819 : decode cL_law 819 = .ok (.iload_n 3, 1) := by decide +kernel
theorem d_L_law_820 : decode cL_law 820 = .ok (.iconst 2, 1) := by decide +kernel
theorem d_L_law_821 : decode cL_law 821 = .ok (.iadd, 1) := by decide +kernel
theorem d_L_law_822 : decode cL_law 822 = .ok (.iaload, 1) := by decide +kernel
theorem d_L_law_823 : decode cL_law 823 = .ok (.invokevirtual 98, 3) := by decide +kernel
theorem d_L_law_826 : decode cL_law 826 = .ok (.pop, 1) := by decide +kernel
theorem d_L_law_827 : decode cL_law 827 = .ok (.aload_n 2, 1) := by decide +kernel
theorem d_L_law_828 : decode cL_law 828 = .ok (.aload_n 0, 1) := by decide +kernel
theorem d_L_law_829 : decode cL_law 829 = .ok (.iload_n 3, 1) := by decide +kernel
theorem d_L_law_830 : decode cL_law 830 = .ok (.iconst 1, 1) := by decide +kernel
theorem d_L_law_831 : decode cL_law 831 = .ok (.iadd, 1) := by decide +kernel
theorem d_L_law_832 : decode cL_law 832 = .ok (.iaload, 1) := by decide +kernel
theorem d_L_law_833 : decode cL_law 833 = .ok (.aload_n 0, 1) := by decide +kernel
theorem d_L_law_834 : decode cL_law 834 = .ok (.iload_n 3, 1) := by decide +kernel
theorem d_L_law_835 : decode cL_law 835 = .ok (.iconst 2, 1) := by decide +kernel
theorem d_L_law_836 : decode cL_law 836 = .ok (.iadd, 1) := by decide +kernel
theorem d_L_law_837 : decode cL_law 837 = .ok (.iaload, 1) := by decide +kernel
theorem d_L_law_838 : decode cL_law 838 = .ok (.invokevirtual 101, 3) := by decide +kernel
theorem d_L_law_841 : decode cL_law 841 = .ok (.pop, 1) := by decide +kernel
theorem d_L_law_842 : decode cL_law 842 = .ok (.goto 468, 3) := by decide +kernel
theorem d_L_law_845 : decode cL_law 845 = .ok (.aload_n 1, 1) := by decide +kernel
theorem d_L_law_846 : decode cL_law 846 = .ok (.aload_n 0, 1) := by decide +kernel
theorem d_L_law_847 : decode cL_law 847 = .ok (.iload_n 3, 1) := by decide +kernel
theorem d_L_law_848 : decode cL_law 848 = .ok (.iconst 1, 1) := by decide +kernel
theorem d_L_law_849 : decode cL_law 849 = .ok (.iadd, 1) := by decide +kernel
theorem d_L_law_850 : decode cL_law 850 = .ok (.iaload, 1) := by decide +kernel
theorem d_L_law_851 : decode cL_law 851 = .ok (.aload_n 0, 1) := by decide +kernel
theorem d_L_law_852 : decode cL_law 852 = .ok (.iload_n 3, 1) := by decide +kernel
theorem d_L_law_853 : decode cL_law 853 = .ok (.iconst 2, 1) := by decide +kernel
theorem d_L_law_854 : decode cL_law 854 = .ok (.iadd, 1) := by decide +kernel
theorem d_L_law_855 : decode cL_law 855 = .ok (.iaload, 1) := by decide +kernel
theorem d_L_law_856 : decode cL_law 856 = .ok (.aload_n 0, 1) := by decide +kernel
theorem d_L_law_857 : decode cL_law 857 = .ok (.iload_n 3, 1) := by decide +kernel
theorem d_L_law_858 : decode cL_law 858 = .ok (.iconst 3, 1) := by decide +kernel
theorem d_L_law_859 : decode cL_law 859 = .ok (.iadd, 1) := by decide +kernel
theorem d_L_law_860 : decode cL_law 860 = .ok (.iaload, 1) := by decide +kernel
theorem d_L_law_861 : decode cL_law 861 = .ok (.invokevirtual 102, 3) := by decide +kernel
theorem d_L_law_864 : decode cL_law 864 = .ok (.pop, 1) := by decide +kernel
theorem d_L_law_865 : decode cL_law 865 = .ok (.aload_n 2, 1) := by decide +kernel
theorem d_L_law_866 : decode cL_law 866 = .ok (.aload_n 0, 1) := by decide +kernel
theorem d_L_law_867 : decode cL_law 867 = .ok (.iload_n 3, 1) := by decide +kernel
theorem d_L_law_868 : decode cL_law 868 = .ok (.iconst 1, 1) := by decide +kernel
theorem d_L_law_869 : decode cL_law 869 = .ok (.iadd, 1) := by decide +kernel
theorem d_L_law_870 : decode cL_law 870 = .ok (.iaload, 1) := by decide +kernel
theorem d_L_law_871 : decode cL_law 871 = .ok (.aload_n 0, 1) := by decide +kernel
theorem d_L_law_872 : decode cL_law 872 = .ok (.iload_n 3, 1) := by decide +kernel
theorem d_L_law_873 : decode cL_law 873 = .ok (.iconst 2, 1) := by decide +kernel
theorem d_L_law_874 : decode cL_law 874 = .ok (.iadd, 1) := by decide +kernel
theorem d_L_law_875 : decode cL_law 875 = .ok (.iaload, 1) := by decide +kernel
theorem d_L_law_876 : decode cL_law 876 = .ok (.aload_n 0, 1) := by decide +kernel
theorem d_L_law_877 : decode cL_law 877 = .ok (.iload_n 3, 1) := by decide +kernel
theorem d_L_law_878 : decode cL_law 878 = .ok (.iconst 3, 1) := by decide +kernel
theorem d_L_law_879 : decode cL_law 879 = .ok (.iadd, 1) := by decide +kernel
theorem d_L_law_880 : decode cL_law 880 = .ok (.iaload, 1) := by decide +kernel
theorem d_L_law_881 : decode cL_law 881 = .ok (.invokevirtual 105, 3) := by decide +kernel
theorem d_L_law_884 : decode cL_law 884 = .ok (.pop, 1) := by decide +kernel
theorem d_L_law_885 : decode cL_law 885 = .ok (.goto 425, 3) := by decide +kernel
theorem d_L_law_888 : decode cL_law 888 = .ok (.aload_n 1, 1) := by decide +kernel
theorem d_L_law_889 : decode cL_law 889 = .ok (.invokevirtual 106, 3) := by decide +kernel
theorem d_L_law_892 : decode cL_law 892 = .ok (.pop, 1) := by decide +kernel
theorem d_L_law_893 : decode cL_law 893 = .ok (.aload_n 2, 1) := by decide +kernel
theorem d_L_law_894 : decode cL_law 894 = .ok (.invokevirtual 109, 3) := by decide +kernel
theorem d_L_law_897 : decode cL_law 897 = .ok (.pop, 1) := by decide +kernel
theorem d_L_law_898 : decode cL_law 898 = .ok (.goto 412, 3) := by decide +kernel
theorem d_L_law_901 : decode cL_law 901 = .ok (.aload_n 1, 1) := by decide +kernel
theorem d_L_law_902 : decode cL_law 902 = .ok (.aload_n 0, 1) := by decide +kernel
theorem d_L_law_903 : decode cL_law 903 = .ok (.iload_n 3, 1) := by decide +kernel
theorem d_L_law_904 : decode cL_law 904 = .ok (.iconst 1, 1) := by decide +kernel
theorem d_L_law_905 : decode cL_law 905 = .ok (.iadd, 1) := by decide +kernel
theorem d_L_law_906 : decode cL_law 906 = .ok (.iaload, 1) := by decide +kernel
theorem d_L_law_907 : decode cL_law 907 = .ok (.aload_n 0, 1) := by decide +kernel
theorem d_L_law_908 : decode cL_law 908 = .ok (.iload_n 3, 1) := by decide +kernel
theorem d_L_law_909 : decode cL_law 909 = .ok (.iconst 2, 1) := by decide +kernel
theorem d_L_law_910 : decode cL_law 910 = .ok (.iadd, 1) := by decide +kernel
theorem d_L_law_911 : decode cL_law 911 = .ok (.iaload, 1) := by decide +kernel
theorem d_L_law_912 : decode cL_law 912 = .ok (.aload_n 0, 1) := by decide +kernel
theorem d_L_law_913 : decode cL_law 913 = .ok (.iload_n 3, 1) := by decide +kernel
theorem d_L_law_914 : decode cL_law 914 = .ok (.iconst 3, 1) := by decide +kernel
theorem d_L_law_915 : decode cL_law 915 = .ok (.iadd, 1) := by decide +kernel
theorem d_L_law_916 : decode cL_law 916 = .ok (.iaload, 1) := by decide +kernel
theorem d_L_law_917 : decode cL_law 917 = .ok (.invokevirtual 110, 3) := by decide +kernel
theorem d_L_law_920 : decode cL_law 920 = .ok (.pop, 1) := by decide +kernel
theorem d_L_law_921 : decode cL_law 921 = .ok (.aload_n 2, 1) := by decide +kernel
theorem d_L_law_922 : decode cL_law 922 = .ok (.aload_n 0, 1) := by decide +kernel
theorem d_L_law_923 : decode cL_law 923 = .ok (.iload_n 3, 1) := by decide +kernel
theorem d_L_law_924 : decode cL_law 924 = .ok (.iconst 1, 1) := by decide +kernel
theorem d_L_law_925 : decode cL_law 925 = .ok (.iadd, 1) := by decide +kernel
theorem d_L_law_926 : decode cL_law 926 = .ok (.iaload, 1) := by decide +kernel
theorem d_L_law_927 : decode cL_law 927 = .ok (.aload_n 0, 1) := by decide +kernel
theorem d_L_law_928 : decode cL_law 928 = .ok (.iload_n 3, 1) := by decide +kernel
theorem d_L_law_929 : decode cL_law 929 = .ok (.iconst 2, 1) := by decide +kernel
theorem d_L_law_930 : decode cL_law 930 = .ok (.iadd, 1) := by decide +kernel
theorem d_L_law_931 : decode cL_law 931 = .ok (.iaload, 1) := by decide +kernel
theorem d_L_law_932 : decode cL_law 932 = .ok (.aload_n 0, 1) := by decide +kernel
theorem d_L_law_933 : decode cL_law 933 = .ok (.iload_n 3, 1) := by decide +kernel
theorem d_L_law_934 : decode cL_law 934 = .ok (.iconst 3, 1) := by decide +kernel
theorem d_L_law_935 : decode cL_law 935 = .ok (.iadd, 1) := by decide +kernel
theorem d_L_law_936 : decode cL_law 936 = .ok (.iaload, 1) := by decide +kernel
theorem d_L_law_937 : decode cL_law 937 = .ok (.invokevirtual 113, 3) := by decide +kernel
theorem d_L_law_940 : decode cL_law 940 = .ok (.pop, 1) := by decide +kernel
theorem d_L_law_941 : decode cL_law 941 = .ok (.goto 369, 3) := by decide +kernel
theorem d_L_law_944 : decode cL_law 944 = .ok (.aload_n 1, 1) := by decide +kernel
theorem d_L_law_945 : decode cL_law 945 = .ok (.aload_n 0, 1) := by decide +kernel
theorem d_L_law_946 : decode cL_law 946 = .ok (.iload_n 3, 1) := by decide +kernel
theorem d_L_law_947 : decode cL_law 947 = .ok (.iconst 1, 1) := by decide +kernel
theorem d_L_law_948 : decode cL_law 948 = .ok (.iadd, 1) := by decide +kernel
theorem d_L_law_949 : decode cL_law 949 = .ok (.iaload, 1) := by decide +kernel
theorem d_L_law_950 : decode cL_law 950 = .ok (.aload_n 0, 1) := by decide +kernel
theorem d_L_law_951 : decode cL_law 951 = .ok (.iload_n 3, 1) := by decide +kernel
theorem d_L_law_952 : decode cL_law 952 = .ok (.iconst 2, 1) := by decide +kernel
theorem d_L_law_953 : decode cL_law 953 = .ok (.iadd, 1) := by decide +kernel
theorem d_L_law_954 : decode cL_law 954 = .ok (.iaload, 1) := by decide +kernel
theorem d_L_law_955 : decode cL_law 955 = .ok (.invokevirtual 114, 3) := by decide +kernel
theorem d_L_law_958 : decode cL_law 958 = .ok (.pop, 1) := by decide +kernel
theorem d_L_law_959 : decode cL_law 959 = .ok (.aload_n 2, 1) := by decide +kernel
theorem d_L_law_960 : decode cL_law 960 = .ok (.aload_n 0, 1) := by decide +kernel
theorem d_L_law_961 : decode cL_law 961 = .ok (.iload_n 3, 1) := by decide +kernel
theorem d_L_law_962 : decode cL_law 962 = .ok (.iconst 1, 1) := by decide +kernel
theorem d_L_law_963 : decode cL_law 963 = .ok (.iadd, 1) := by decide +kernel
theorem d_L_law_964 : decode cL_law 964 = .ok (.iaload, 1) := by decide +kernel
theorem d_L_law_965 : decode cL_law 965 = .ok (.aload_n 0, 1) := by decide +kernel
theorem d_L_law_966 : decode cL_law 966 = .ok (.iload_n 3, 1) := by decide +kernel
theorem d_L_law_967 : decode cL_law 967 = .ok (.iconst 2, 1) := by decide +kernel
theorem d_L_law_968 : decode cL_law 968 = .ok (.iadd, 1) := by decide +kernel
theorem d_L_law_969 : decode cL_law 969 = .ok (.iaload, 1) := by decide +kernel
theorem d_L_law_970 : decode cL_law 970 = .ok (.invokevirtual 117, 3) := by decide +kernel
theorem d_L_law_973 : decode cL_law 973 = .ok (.pop, 1) := by decide +kernel
theorem d_L_law_974 : decode cL_law 974 = .ok (.goto 336, 3) := by decide +kernel
theorem d_L_law_977 : decode cL_law 977 = .ok (.aload_n 1, 1) := by decide +kernel
theorem d_L_law_978 : decode cL_law 978 = .ok (.aload_n 0, 1) := by decide +kernel
theorem d_L_law_979 : decode cL_law 979 = .ok (.iload_n 3, 1) := by decide +kernel
theorem d_L_law_980 : decode cL_law 980 = .ok (.iconst 1, 1) := by decide +kernel
theorem d_L_law_981 : decode cL_law 981 = .ok (.iadd, 1) := by decide +kernel
theorem d_L_law_982 : decode cL_law 982 = .ok (.iaload, 1) := by decide +kernel
theorem d_L_law_983 : decode cL_law 983 = .ok (.invokevirtual 118, 3) := by decide +kernel
theorem d_L_law_986 : decode cL_law 986 = .ok (.pop, 1) := by decide +kernel
theorem d_L_law_987 : decode cL_law 987 = .ok (.aload_n 2, 1) := by decide +kernel
theorem d_L_law_988 : decode cL_law 988 = .ok (.aload_n 0, 1) := by decide +kernel
theorem d_L_law_989 : decode cL_law 989 = .ok (.iload_n 3, 1) := by decide +kernel
theorem d_L_law_990 : decode cL_law 990 = .ok (.iconst 1, 1) := by decide +kernel
theorem d_L_law_991 : decode cL_law 991 = .ok (.iadd, 1) := by decide +kernel
theorem d_L_law_992 : decode cL_law 992 = .ok (.iaload, 1) := by decide +kernel
theorem d_L_law_993 : decode cL_law 993 = .ok (.invokevirtual 121, 3) := by decide +kernel
theorem d_L_law_996 : decode cL_law 996 = .ok (.pop, 1) := by decide +kernel
theorem d_L_law_997 : decode cL_law 997 = .ok (.goto 313, 3) := by decide +kernel
theorem d_L_law_1000 : decode cL_law 1000 = .ok (.aload_n 1, 1) := by decide +kernel
theorem d_L_law_1001 : decode cL_law 1001 = .ok (.aload_n 0, 1) := by decide +kernel
theorem d_L_law_1002 : decode cL_law 1002 = .ok (.iload_n 3, 1) := by decide +kernel
theorem d_L_law_1003 : decode cL_law 1003 = .ok (.iconst 1, 1) := by decide +kernel
theorem d_L_law_1004 : decode cL_law 1004 = .ok (.iadd, 1) := by decide +kernel
theorem d_L_law_1005 : decode cL_law 1005 = .ok (.iaload, 1) := by decide +kernel
theorem d_L_law_1006 : decode cL_law 1006 = .ok (.aload_n 0, 1) := by decide +kernel
theorem d_L_law_1007 : decode cL_law 1007 = .ok (.iload_n 3, 1) := by decide +kernel
theorem d_L_law_1008 : decode cL_law 1008 = .ok (.iconst 2, 1) := by decide +kernel
theorem d_L_law_1009 : decode cL_law 1009 = .ok (.iadd, 1) := by decide +kernel
theorem d_L_law_1010 : decode cL_law 1010 = .ok (.iaload, 1) := by decide +kernel
theorem d_L_law_1011 : decode cL_law 1011 = .ok (.aload_n 0, 1) := by decide +kernel
theorem d_L_law_1012 : decode cL_law 1012 = .ok (.iload_n 3, 1) := by decide +kernel
theorem d_L_law_1013 : decode cL_law 1013 = .ok (.iconst 3, 1) := by decide +kernel
theorem d_L_law_1014 : decode cL_law 1014 = .ok (.iadd, 1) := by decide +kernel
theorem d_L_law_1015 : decode cL_law 1015 = .ok (.iaload, 1) := by decide +kernel
theorem d_L_law_1016 : decode cL_law 1016 = .ok (.invokevirtual 122, 3) := by decide +kernel
theorem d_L_law_1019 : decode cL_law 1019 = .ok (.pop2, 1) := by decide +kernel
theorem d_L_law_1020 : decode cL_law 1020 = .ok (.aload_n 2, 1) := by decide +kernel
theorem d_L_law_1021 : decode cL_law 1021 = .ok (.aload_n 0, 1) := by decide +kernel
theorem d_L_law_1022 : decode cL_law 1022 = .ok (.iload_n 3, 1) := by decide +kernel
theorem d_L_law_1023 : decode cL_law 1023 = .ok (.iconst 1, 1) := by decide +kernel
theorem d_L_law_1024 : decode cL_law 1024 = .ok (.iadd, 1) := by decide +kernel
theorem d_L_law_1025 : decode cL_law 1025 = .ok (.iaload, 1) := by decide +kernel
theorem d_L_law_1026 : decode cL_law 1026 = .ok (.aload_n 0, 1) := by decide +kernel
theorem d_L_law_1027 : decode cL_law 1027 = .ok (.iload_n 3, 1) := by decide +kernel
theorem d_L_law_1028 : decode cL_law 1028 = .ok (.iconst 2, 1) := by decide +kernel
theorem d_L_law_1029 : decode cL_law 1029 = .ok (.iadd, 1) := by decide +kernel
theorem d_L_law_1030 : decode cL_law 1030 = .ok (.iaload, 1) := by decide +kernel
theorem d_L_law_1031 : decode cL_law 1031 = .ok (.aload_n 0, 1) := by decide +kernel
theorem d_L_law_1032 : decode cL_law 1032 = .ok (.iload_n 3, 1) := by decide +kernel
theorem d_L_law_1033 : decode cL_law 1033 = .ok (.iconst 3, 1) := by decide +kernel
theorem d_L_law_1034 : decode cL_law 1034 = .ok (.iadd, 1) := by decide +kernel
theorem d_L_law_1035 : decode cL_law 1035 = .ok (.iaload, 1) := by decide +kernel
theorem d_L_law_1036 : decode cL_law 1036 = .ok (.invokevirtual 126, 3) := by decide +kernel
theorem d_L_law_1039 : decode cL_law 1039 = .ok (.pop2, 1) := by decide +kernel
theorem d_L_law_1040 : decode cL_law 1040 = .ok (.goto 270, 3) := by decide +kernel
theorem d_L_law_1043 : decode cL_law 1043 = .ok (.aload_n 1, 1) := by decide +kernel
theorem d_L_law_1044 : decode cL_law 1044 = .ok (.aload_n 0, 1) := by decide +kernel
theorem d_L_law_1045 : decode cL_law 1045 = .ok (.iload_n 3, 1) := by decide +kernel
theorem d_L_law_1046 : decode cL_law 1046 = .ok (.iconst 1, 1) := by decide +kernel
theorem d_L_law_1047 : decode cL_law 1047 = .ok (.iadd, 1) := by decide +kernel
theorem d_L_law_1048 : decode cL_law 1048 = .ok (.iaload, 1) := by decide +kernel
theorem d_L_law_1049 : decode cL_law 1049 = .ok (.aload_n 0, 1) := by decide +kernel
theorem d_L_law_1050 : decode cL_law 1050 = .ok (.iload_n 3, 1) := by decide +kernel
theorem d_L_law_1051 : decode cL_law 1051 = .ok (.iconst 2, 1) := by decide +kernel
theorem d_L_law_1052 : decode cL_law 1052 = .ok (.iadd, 1) := by decide +kernel
theorem d_L_law_1053 : decode cL_law 1053 = .ok (.iaload, 1) := by decide +kernel
theorem d_L_law_1054 : decode cL_law 1054 = .ok (.aload_n 0, 1) := by decide +kernel
theorem d_L_law_1055 : decode cL_law 1055 = .ok (.iload_n 3, 1) := by decide +kernel
theorem d_L_law_1056 : decode cL_law 1056 = .ok (.iconst 3, 1) := by decide +kernel
theorem d_L_law_1057 : decode cL_law 1057 = .ok (.iadd, 1) := by decide +kernel
theorem d_L_law_1058 : decode cL_law 1058 = .ok (.iaload, 1) := by decide +kernel
theorem d_L_law_1059 : decode cL_law 1059 = .ok (.aload_n 0, 1) := by decide +kernel
theorem d_L_law_1060 : decode cL_law 1060 = .ok (.iload_n 3, 1) := by decide +kernel
theorem d_L_law_1061 : decode cL_law 1061 = .ok (.iconst 4, 1) := by decide +kernel
theorem d_L_law_1062 : decode cL_law 1062 = .ok (.iadd, 1) := by decide +kernel
theorem d_L_law_1063 : decode cL_law 1063 = .ok (.iaload, 1) := by decide +kernel
theorem d_L_law_1064 : decode cL_law 1064 = .ok (.aload_n 0, 1) := by decide +kernel
theorem d_L_law_1065 : decode cL_law 1065 = .ok (.iload_n 3, 1) := by decide +kernel
theorem d_L_law_1066 : decode cL_law 1066 = .ok (.iconst 5, 1) := by decide +kernel
theorem d_L_law_1067 : decode cL_law 1067 = .ok (.iadd, 1) := by decide +kernel
theorem d_L_law_1068 : decode cL_law 1068 = .ok (.iaload, 1) := by decide +kernel
theorem d_L_law_1069 : decode cL_law 1069 = .ok (.invokevirtual 127, 3) := by decide +kernel
theorem d_L_law_1072 : decode cL_law 1072 = .ok (.pop2, 1) := by decide +kernel
theorem d_L_law_1073 : decode cL_law 1073 = .ok (.aload_n 2, 1) := by decide +kernel
theorem d_L_law_1074 : decode cL_law 1074 = .ok (.aload_n 0, 1) := by decide +kernel
theorem d_L_law_1075 : decode cL_law 1075 = .ok (.iload_n 3, 1) := by decide +kernel
theorem d_L_law_1076 : decode cL_law 1076 = .ok (.iconst 1, 1) := by decide +kernel
theorem d_L_law_1077 : decode cL_law 1077 = .ok (.iadd, 1) := by decide +kernel
theorem d_L_law_1078 : decode cL_law 1078 = .ok (.iaload, 1) := by decide +kernel
theorem d_L_law_1079 : decode cL_law 1079 = .ok (.aload_n 0, 1) := by decide +kernel
theorem d_L_law_1080 : decode cL_law 1080 = .ok (.iload_n 3, 1) := by decide +kernel
theorem d_L_law_1081 : decode cL_law 1081 = .ok (.iconst 2, 1) := by decide +kernel
theorem d_L_law_1082 : decode cL_law 1082 = .ok (.iadd, 1) := by decide +kernel
theorem d_L_law_1083 : decode cL_law 1083 = .ok (.iaload, 1) := by decide +kernel
theorem d_L_law_1084 : decode cL_law 1084 = .ok (.aload_n 0, 1) := by decide +kernel
theorem d_L_law_1085 : decode cL_law 1085 = .ok (.iload_n 3, 1) := by decide +kernel
theorem d_L_law_1086 : decode cL_law 1086 = .ok (.iconst 3, 1) := by decide +kernel
theorem d_L_law_1087 : decode cL_law 1087 = .ok (.iadd, 1) := by decide +kernel
theorem d_L_law_1088 : decode cL_law 1088 = .ok (.iaload, 1) := by decide +kernel
theorem d_L_law_1089 : decode cL_law 1089 = .ok (.aload_n 0, 1) := by decide +kernel
theorem d_L_law_1090 : decode cL_law 1090 = .ok (.iload_n 3, 1) := by decide +kernel
theorem d_L_law_1091 : decode cL_law 1091 = .ok (.iconst 4, 1) := by decide +kernel
theorem d_L_law_1092 : decode cL_law 1092 = .ok (.iadd, 1) := by decide +kernel
theorem d_L_law_1093 : decode cL_law 1093 = .ok (.iaload, 1) := by decide +kernel
theorem d_L_law_1094 : decode cL_law 1094 = .ok (.aload_n 0, 1) := by decide +kernel
theorem d_L_law_1095 : decode cL_law 1095 = .ok (.iload_n 3, 1) := by decide +kernel
theorem d_L_law_1096 : decode cL_law 1096 = .ok (.iconst 5, 1) := by decide +kernel
theorem d_L_law_1097 : decode cL_law 1097 = .ok (.iadd, 1) := by decide +kernel
theorem d_L_law_1098 : decode cL_law 1098 = .ok (.iaload, 1) := by decide +kernel
theorem d_L_law_1099 : decode cL_law 1099 = .ok (.invokevirtual 131, 3) := by decide +kernel
theorem d_L_law_1102 : decode cL_law 1102 = .ok (.pop2, 1) := by decide +kernel
theorem d_L_law_1103 : decode cL_law 1103 = .ok (.goto 207, 3) := by decide +kernel
theorem d_L_law_1106 : decode cL_law 1106 = .ok (.aload_n 1, 1) := by decide +kernel
theorem d_L_law_1107 : decode cL_law 1107 = .ok (.aload_n 0, 1) := by decide +kernel
theorem d_L_law_1108 : decode cL_law 1108 = .ok (.iload_n 3, 1) := by decide +kernel
theorem d_L_law_1109 : decode cL_law 1109 = .ok (.iconst 1, 1) := by decide +kernel
theorem d_L_law_1110 : decode cL_law 1110 = .ok (.iadd, 1) := by decide +kernel
theorem d_L_law_1111 : decode cL_law 1111 = .ok (.iaload, 1) := by decide +kernel
theorem d_L_law_1112 : decode cL_law 1112 = .ok (.aload_n 0, 1) := by decide +kernel
theorem d_L_law_1113 : decode cL_law 1113 = .ok (.iload_n 3, 1) := by decide +kernel
theorem d_L_law_1114 : decode cL_law 1114 = .ok (.iconst 2, 1) := by decide +kernel
theorem d_L_law_1115 : decode cL_law 1115 = .ok (.iadd, 1) := by decide +kernel
theorem d_L_law_1116 : decode cL_law 1116 = .ok (.iaload, 1) := by decide +kernel
theorem d_L_law_1117 : decode cL_law 1117 = .ok (.invokevirtual 132, 3) := by decide +kernel
theorem d_L_law_1120 : decode cL_law 1120 = .ok (.pop, 1) := by decide +kernel
theorem d_L_law_1121 : decode cL_law 1121 = .ok (.aload_n 2, 1) := by decide +kernel
theorem d_L_law_1122 : decode cL_law 1122 = .ok (.aload_n 0, 1) := by decide +kernel
theorem d_L_law_1123 : decode cL_law 1123 = .ok (.iload_n 3, 1) := by decide +kernel
theorem d_L_law_1124 : decode cL_law 1124 = .ok (.iconst 1, 1) := by decide +kernel
theorem d_L_law_1125 : decode cL_law 1125 = .ok (.iadd, 1) := by decide +kernel
theorem d_L_law_1126 : decode cL_law 1126 = .ok (.iaload, 1) := by decide +kernel
theorem d_L_law_1127 : decode cL_law 1127 = .ok (.aload_n 0, 1) := by decide +kernel
theorem d_L_law_1128 : decode cL_law 1128 = .ok (.iload_n 3, 1) := by decide +kernel
theorem d_L_law_1129 : decode cL_law 1129 = .ok (.iconst 2, 1) := by decide +kernel
theorem d_L_law_1130 : decode cL_law 1130 = .ok (.iadd, 1) := by decide +kernel
theorem d_L_law_1131 : decode cL_law 1131 = .ok (.iaload, 1) := by decide +kernel
theorem d_L_law_1132 : decode cL_law 1132 = .ok (.invokevirtual 135, 3) := by decide +kernel
theorem d_L_law_1135 : decode cL_law 1135 = .ok (.pop, 1) := by decide +kernel
theorem d_L_law_1136 : decode cL_law 1136 = .ok (.goto 174, 3) := by decide +kernel
theorem d_L_law_1139 : decode cL_law 1139 = .ok (.aload_n 1, 1) := by decide +kernel
theorem d_L_law_1140 : decode cL_law 1140 = .ok (.invokevirtual 136, 3) := by decide +kernel
theorem d_L_law_1143 : decode cL_law 1143 = .ok (.aload_n 2, 1) := by decide +kernel
theorem d_L_law_1144 : decode cL_law 1144 = .ok (.invokevirtual 139, 3) := by decide +kernel
theorem d_L_law_1147 : decode cL_law 1147 = .ok (.if_icmp .eq 163, 3) := by decide +kernel
theorem d_L_law_1150 : decode cL_law 1150 = .ok (.iconst 0, 1) := by decide +kernel
theorem d_L_law_1151 : decode cL_law 1151 = .ok (.ireturn, 1) := by decide +kernel
theorem d_L_law_1152 : decode cL_law 1152 = .ok (.aload_n 1, 1) := by decide +kernel
theorem d_L_law_1153 : decode cL_law 1153 = .ok (.aload_n 0, 1) := by decide +kernel
theorem d_L_law_1154 : decode cL_law 1154 = .ok (.iload_n 3, 1) := by decide +kernel
theorem d_L_law_1155 : decode cL_law 1155 = .ok (.iconst 1, 1) := by decide +kernel
theorem d_L_law_1156 : decode cL_law 1156 = .ok (.iadd, 1) := by decide +kernel
theorem d_L_law_1157 : decode cL_law 1157 = .ok (.iaload, 1) := by decide +kernel
theorem d_L_law_1158 : decode cL_law 1158 = .ok (.invokevirtual 140, 3) := by decide +kernel
theorem d_L_law_1161 : decode cL_law 1161 = .ok (.pop, 1) := by decide +kernel
theorem d_L_law_1162 : decode cL_law 1162 = .ok (.aload_n 2, 1) := by decide +kernel
theorem d_L_law_1163 : decode cL_law 1163 = .ok (.aload_n 0, 1) := by decide +kernel
theorem d_L_law_1164 : decode cL_law 1164 = .ok (.iload_n 3, 1) := by decide +kernel
theorem d_L_law_1165 : decode cL_law 1165 = .ok (.iconst 1, 1) := by decide +kernel
theorem d_L_law_1166 : decode cL_law 1166 = .ok (.iadd, 1) := by decide +kernel
theorem d_L_law_1167 : decode cL_law 1167 = .ok (.iaload, 1) := by decide +kernel
theorem d_L_law_1168 : decode cL_law 1168 = .ok (.invokevirtual 143, 3) := by decide +kernel
theorem d_L_law_1171 : decode cL_law 1171 = .ok (.pop, 1) := by decide +kernel
theorem d_L_law_1172 : decode cL_law 1172 = .ok (.goto 138, 3) := by decide +kernel
theorem d_L_law_1175 : decode cL_law 1175 = .ok (.aload_n 1, 1) := by decide +kernel
theorem d_L_law_1176 : decode cL_law 1176 = .ok (.invokevirtual 144, 3) := by decide +kernel
theorem d_L_law_1179 : decode cL_law 1179 = .ok (.pop2, 1) := by decide +kernel
theorem d_L_law_1180 : decode cL_law 1180 = .ok (.aload_n 2, 1) := by decide +kernel
theorem d_L_law_1181 : decode cL_law 1181 = .ok (.invokevirtual 148, 3) := by decide +kernel
theorem d_L_law_1184 : decode cL_law 1184 = .ok (.pop2, 1) := by decide +kernel
theorem d_L_law_1185 : decode cL_law 1185 = .ok (.goto 125, 3) := by decide +kernel
theorem d_L_law_1188 : decode cL_law 1188 = .ok (.aload_n 1, 1) := by decide +kernel
theorem d_L_law_1189 : decode cL_law 1189 = .ok (.aload_n 0, 1) := by decide +kernel
theorem d_L_law_1190 : decode cL_law 1190 = .ok (.iload_n 3, 1) := by decide +kernel
theorem d_L_law_1191 : decode cL_law 1191 = .ok (.iconst 1, 1) := by decide +kernel
theorem d_L_law_1192 : decode cL_law 1192 = .ok (.iadd, 1) := by decide +kernel
theorem d_L_law_1193 : decode cL_law 1193 = .ok (.iaload, 1) := by decide +kernel
theorem d_L_law_1194 : decode cL_law 1194 = .ok (.aload_n 0, 1) := by decide +kernel
theorem d_L_law_1195 : decode cL_law 1195 = .ok (.iload_n 3, 1) := by decide +kernel
theorem d_L_law_1196 : decode cL_law 1196 = .ok (.iconst 2, 1) := by decide +kernel
theorem d_L_law_1197 : decode cL_law 1197 = .ok (.iadd, 1) := by decide +kernel
theorem d_L_law_1198 : decode cL_law 1198 = .ok (.iaload, 1) := by decide +kernel
theorem d_L_law_1199 : decode cL_law 1199 = .ok (.aload_n 0, 1) := by decide +kernel
theorem d_L_law_1200 : decode cL_law 1200 = .ok (.iload_n 3, 1) := by decide +kernel
theorem d_L_law_1201 : decode cL_law 1201 = .ok (.iconst 3, 1) := by decide +kernel
theorem d_L_law_1202 : decode cL_law 1202 = .ok (.iadd, 1) := by decide +kernel
theorem d_L_law_1203 : decode cL_law 1203 = .ok (.iaload, 1) := by decide +kernel
theorem d_L_law_1204 : decode cL_law 1204 = .ok (.aload_n 0, 1) := by decide +kernel
theorem d_L_law_1205 : decode cL_law 1205 = .ok (.iload_n 3, 1) := by decide +kernel
theorem d_L_law_1206 : decode cL_law 1206 = .ok (.iconst 4, 1) := by decide +kernel
theorem d_L_law_1207 : decode cL_law 1207 = .ok (.iadd, 1) := by decide +kernel
theorem d_L_law_1208 : decode cL_law 1208 = .ok (.iaload, 1) := by decide +kernel
theorem d_L_law_1209 : decode cL_law 1209 = .ok (.invokevirtual 149, 3) := by decide +kernel
theorem d_L_law_1212 : decode cL_law 1212 = .ok (.pop, 1) := by decide +kernel
theorem d_L_law_1213 : decode cL_law 1213 = .ok (.aload_n 2, 1) := by decide +kernel
theorem d_L_law_1214 : decode cL_law 1214 = .ok (.aload_n 0, 1) := by decide +kernel
theorem d_L_law_1215 : decode cL_law 1215 = .ok (.iload_n 3, 1) := by decide +kernel
theorem d_L_law_1216 : decode cL_law 1216 = .ok (.iconst 1, 1) := by decide +kernel
theorem d_L_law_1217 : decode cL_law 1217 = .ok (.iadd, 1) := by decide +kernel
theorem d_L_law_1218 : decode cL_law 1218 = .ok (.iaload, 1) := by decide +kernel
theorem d_L_law_1219 : decode cL_law 1219 = .ok (.aload_n 0, 1) := by decide +kernel
theorem d_L_law_1220 : decode cL_law 1220 = .ok (.iload_n 3, 1) := by decide +kernel
theorem d_L_law_1221 : decode cL_law 1221 = .ok (.iconst 2, 1) := by decide +kernel
theorem d_L_law_1222 : decode cL_law 1222 = .ok (.iadd, 1) := by decide +kernel
theorem d_L_law_1223 : decode cL_law 1223 = .ok (.iaload, 1) := by decide +kernel
theorem d_L_law_1224 : decode cL_law 1224 = .ok (.aload_n 0, 1) := by decide +kernel
theorem d_L_law_1225 : decode cL_law 1225 = .ok (.iload_n 3, 1) := by decide +kernel
theorem d_L_law_1226 : decode cL_law 1226 = .ok (.iconst 3, 1) := by decide +kernel
theorem d_L_law_1227 : decode cL_law 1227 = .ok (.iadd, 1) := by decide +kernel
theorem d_L_law_1228 : decode cL_law 1228 = .ok (.iaload, 1) := by decide +kernel
theorem d_L_law_1229 : decode cL_law 1229 = .ok (.aload_n 0, 1) := by decide +kernel
theorem d_L_law_1230 : decode cL_law 1230 = .ok (.iload_n 3, 1) := by decide +kernel
theorem d_L_law_1231 : decode cL_law 1231 = .ok (.iconst 4, 1) := by decide +kernel
theorem d_L_law_1232 : decode cL_law 1232 = .ok (.iadd, 1) := by decide +kernel
theorem d_L_law_1233 : decode cL_law 1233 = .ok (.iaload, 1) := by decide +kernel
theorem d_L_law_1234 : decode cL_law 1234 = .ok (.invokevirtual 152, 3) := by decide +kernel
theorem d_L_law_1237 : decode cL_law 1237 = .ok (.pop, 1) := by decide +kernel
theorem d_L_law_1238 : decode cL_law 1238 = .ok (.goto 72, 3) := by decide +kernel
theorem d_L_law_1241 : decode cL_law 1241 = .ok (.aload_n 1, 1) := by decide +kernel
theorem d_L_law_1242 : decode cL_law 1242 = .ok (.aload_n 0, 1) := by decide +kernel
theorem d_L_law_1243 : decode cL_law 1243 = .ok (.iload_n 3, 1) := by decide +kernel
theorem d_L_law_1244 : decode cL_law 1244 = .ok (.iconst 1, 1) := by decide +kernel
theorem d_L_law_1245 : decode cL_law 1245 = .ok (.iadd, 1) := by decide +kernel
theorem d_L_law_1246 : decode cL_law 1246 = .ok (.iaload, 1) := by decide +kernel
theorem d_L_law_1247 : decode cL_law 1247 = .ok (.invokevirtual 153, 3) := by decide +kernel
theorem d_L_law_1250 : decode cL_law 1250 = .ok (.pop, 1) := by decide +kernel
theorem d_L_law_1251 : decode cL_law 1251 = .ok (.aload_n 2, 1) := by decide +kernel
theorem d_L_law_1252 : decode cL_law 1252 = .ok (.aload_n 0, 1) := by decide +kernel
theorem d_L_law_1253 : decode cL_law 1253 = .ok (.iload_n 3, 1) := by decide +kernel
theorem d_L_law_1254 : decode cL_law 1254 = .ok (.iconst 1, 1) := by decide +kernel
theorem d_L_law_1255 : decode cL_law 1255 = .ok (.iadd, 1) := by decide +kernel
theorem d_L_law_1256 : decode cL_law 1256 = .ok (.iaload, 1) := by decide +kernel
theorem d_L_law_1257 : decode cL_law 1257 = .ok (.invokevirtual 156, 3) := by decide +kernel
theorem d_L_law_1260 : decode cL_law 1260 = .ok (.pop, 1) := by decide +kernel
theorem d_L_law_1261 : decode cL_law 1261 = .ok (.goto 49, 3) := by decide +kernel
theorem d_L_law_1264 : decode cL_law 1264 = .ok (.aload_n 1, 1) := by decide +kernel
theorem d_L_law_1265 : decode cL_law 1265 = .ok (.aload_n 0, 1) := by decide +kernel
theorem d_L_law_1266 : decode cL_law 1266 = .ok (.iload_n 3, 1) := by decide +kernel
theorem d_L_law_1267 : decode cL_law 1267 = .ok (.iconst 1, 1) := by decide +kernel
theorem d_L_law_1268 : decode cL_law 1268 = .ok (.iadd, 1) := by decide +kernel
theorem d_L_law_1269 : decode cL_law 1269 = .ok (.iaload, 1) := by decide +kernel
theorem d_L_law_1270 : decode cL_law 1270 = .ok (.invokevirtual 157, 3) := by decide +kernel
theorem d_L_law_1273 : decode cL_law 1273 = .ok (.pop, 1) := by decide +kernel
theorem d_L_law_1274 : decode cL_law 1274 = .ok (.aload_n 2, 1) := by decide +kernel
theorem d_L_law_1275 : decode cL_law 1275 = .ok (.aload_n 0, 1) := by decide +kernel
theorem d_L_law_1276 : decode cL_law 1276 = .ok (.iload_n 3, 1) := by decide +kernel
theorem d_L_law_1277 : decode cL_law 1277 = .ok (.iconst 1, 1) := by decide +kernel
theorem d_L_law_1278 : decode cL_law 1278 = .ok (.iadd, 1) := by decide +kernel
theorem d_L_law_1279 : decode cL_law 1279 = .ok (.iaload, 1) := by decide +kernel
theorem d_L_law_1280 : decode cL_law 1280 = .ok (.invokevirtual 160, 3) := by decide +kernel
theorem d_L_law_1283 : decode cL_law 1283 = .ok (.pop, 1) := by decide +kernel
theorem d_L_law_1284 : decode cL_law 1284 = .ok (.goto 26, 3) := by decide +kernel
theorem d_L_law_1287 : decode cL_law 1287 = .ok (.aload_n 1, 1) := by decide +kernel
theorem d_L_law_1288 : decode cL_law 1288 = .ok (.aload_n 0, 1) := by decide +kernel
theorem d_L_law_1289 : decode cL_law 1289 = .ok (.iload_n 3, 1) := by decide +kernel
theorem d_L_law_1290 : decode cL_law 1290 = .ok (.iconst 1, 1) := by decide +kernel
theorem d_L_law_1291 : decode cL_law 1291 = .ok (.iadd, 1) := by decide +kernel
theorem d_L_law_1292 : decode cL_law 1292 = .ok (.iaload, 1) := by decide +kernel
theorem d_L_law_1293 : decode cL_law 1293 = .ok (.invokevirtual 161, 3) := by decide +kernel
theorem d_L_law_1296 : decode cL_law 1296 = .ok (.pop, 1) := by decide +kernel
theorem d_L_law_1297 : decode cL_law 1297 = .ok (.aload_n 2, 1) := by decide +kernel
theorem d_L_law_1298 : decode cL_law 1298 = .ok (.aload_n 0, 1) := by decide +kernel
theorem d_L_law_1299 : decode cL_law 1299 = .ok (.iload_n 3, 1) := by decide +kernel
theorem d_L_law_1300 : decode cL_law 1300 = .ok (.iconst 1, 1) := by decide +kernel
theorem d_L_law_1301 : decode cL_law 1301 = .ok (.iadd, 1) := by decide +kernel
theorem d_L_law_1302 : decode cL_law 1302 = .ok (.iaload, 1) := by decide +kernel
theorem d_L_law_1303 : decode cL_law 1303 = .ok (.invokevirtual 164, 3) := by decide +kernel
theorem d_L_law_1306 : decode cL_law 1306 = .ok (.pop, 1) := by decide +kernel
theorem d_L_law_1307 : decode cL_law 1307 = .ok (.goto 3, 3) := by decide +kernel
theorem d_L_law_1310 : decode cL_law 1310 = .ok (.iinc 3 6, 3) := by decide +kernel
theorem d_L_law_1313 : decode cL_law 1313 = .ok (.goto (-1295), 3) := by decide +kernel
theorem d_L_law_1316 : decode cL_law 1316 = .ok (.iconst 1, 1) := by decide +kernel
theorem d_L_law_1317 : decode cL_law 1317 = .ok (.ireturn, 1) := by decide +kernel
