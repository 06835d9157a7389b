def mk_X6 (g : zG) (u : Nat → Nat) : va_W := [(u 0, .inr (6, [.int 0, .ref (u 1), .ref (u 2), .ref (u 3), .ref (u 4), .ref (u 5), .ref (u 6), .int 1, .ref (u 7)])), (u 1, .inl (g.2.2.1, 6, .inl (fun _ => 0))), (u 2, .inl (g.2.2.1, 6, .inl (fun _ => 0))), (u 3, .inl (g.2.2.1, 6, .inl (fun _ => 0))), (u 4, .inl (g.2.2.1, 6, .inl (fun _ => 0))), (u 5, .inl (g.2.2.1, 8, .inl zT0)), (u 6, .inl (g.2.2.1, 24, .inl (fun _ => 0))), (u 7, .inl (g.2.2.1, 3, .inl (fun _ => 0)))]
def mk_X3 (g : zG) (u : Nat → Nat) : va_W := [(u 0, .inr (3, [.int 0, .ref (u 1), .ref (u 2)])), (u 1, .inl (g.2.2.1, 4, .inl (fun _ => 0))), (u 2, .inl (g.2.2.1, 4, .inl (fun _ => 0)))]
def mk_X1 (g : zG) (u : Nat → Nat) : va_W := [(u 0, .inr (1, [.int 0, .ref (u 1)])), (u 1, .inl (g.2.2.1, 8, .inl (fun _ => 0)))]
def mk_X5 (g : zG) (u : Nat → Nat) : va_W := [(u 0, .inr (5, [.int 0, .ref (u 1), .ref (u 2)])), (u 1, .inl (g.2.2.1, 6, .inl (fun _ => 0))), (u 2, .inl (g.2.2.1, 6, .inl (fun _ => 0)))]
def mk_X0 (g : zG) (u : Nat → Nat) : va_W := [(u 0, .inr (0, [.ref (u 1), .ref (u 9), .ref (u 12), .ref (u 14)])), (u 1, .inr (6, [.int 0, .ref (u 2), .ref (u 3), .ref (u 4), .ref (u 5), .ref (u 6), .ref (u 7), .int 1, .ref (u 8)])), (u 2, .inl (g.2.2.1, 6, .inl (fun _ => 0))), (u 3, .inl (g.2.2.1, 6, .inl (fun _ => 0))), (u 4, .inl (g.2.2.1, 6, .inl (fun _ => 0))), (u 5, .inl (g.2.2.1, 6, .inl (fun _ => 0))), (u 6, .inl (g.2.2.1, 8, .inl zT0)), (u 7, .inl (g.2.2.1, 24, .inl (fun _ => 0))), (u 8, .inl (g.2.2.1, 3, .inl (fun _ => 0))), (u 9, .inr (3, [.int 0, .ref (u 10), .ref (u 11)])), (u 10, .inl (g.2.2.1, 4, .inl (fun _ => 0))), (u 11, .inl (g.2.2.1, 4, .inl (fun _ => 0))), (u 12, .inr (1, [.int 0, .ref (u 13)])), (u 13, .inl (g.2.2.1, 8, .inl (fun _ => 0))), (u 14, .inr (5, [.int 0, .ref (u 15), .ref (u 16)])), (u 15, .inl (g.2.2.1, 6, .inl (fun _ => 0))), (u 16, .inl (g.2.2.1, 6, .inl (fun _ => 0)))]
def mk_X4 (g : zG) (u : Nat → Nat) : va_W := [(u 0, .inr (4, [.ref (u 1), .int 0])), (u 1, .inl (g.2.2.1, 60, .inl (fun _ => 0)))]
def mk_X7 (g : zG) (u : Nat → Nat) : va_W := [(u 0, .inr (7, [.ref (u 1), .int 0, .int (-6)])), (u 1, .inr (6, [.int 0, .ref (u 2), .ref (u 3), .ref (u 4), .ref (u 5), .ref (u 6), .ref (u 7), .int 1, .ref (u 8)])), (u 2, .inl (g.2.2.1, 6, .inl (fun _ => 0))), (u 3, .inl (g.2.2.1, 6, .inl (fun _ => 0))), (u 4, .inl (g.2.2.1, 6, .inl (fun _ => 0))), (u 5, .inl (g.2.2.1, 6, .inl (fun _ => 0))), (u 6, .inl (g.2.2.1, 8, .inl zT0)), (u 7, .inl (g.2.2.1, 24, .inl (fun _ => 0))), (u 8, .inl (g.2.2.1, 3, .inl (fun _ => 0)))]
def mk_X2 (g : zG) (u : Nat → Nat) : va_W := [(u 0, .inr (2, [.ref (u 1), .int 0, .ref (u 2), .ref (u 3), .ref (u 4), .ref (u 5)])), (u 1, .inl (g.2.2.1, 6, .inl (fun _ => 0))), (u 2, .inl (g.2.2.2.1, 18, .inr (.inl (fun _ => 0)))), (u 3, .inl (g.2.2.2.1, 729, .inr (.inl (fun _ => 0)))), (u 4, .inl (g.2.2.2.1, 729, .inr (.inl (fun _ => 0)))), (u 5, .inl (g.2.2.2.1, 729, .inr (.inl (fun _ => 0))))]
def mk_X8 (g : zG) (u : Nat → Nat) : va_W := [(u 0, .inr (8, [.ref (u 1), .ref (u 18), .ref (u 35), .int 0, .ref (u 52), .ref (u 54), .ref (u 63)])), (u 1, .inr (0, [.ref (u 2), .ref (u 10), .ref (u 13), .ref (u 15)])), (u 2, .inr (6, [.int 0, .ref (u 3), .ref (u 4), .ref (u 5), .ref (u 6), .ref (u 7), .ref (u 8), .int 1, .ref (u 9)])), (u 3, .inl (g.2.2.1, 6, .inl (fun _ => 0))), (u 4, .inl (g.2.2.1, 6, .inl (fun _ => 0))), (u 5, .inl (g.2.2.1, 6, .inl (fun _ => 0))), (u 6, .inl (g.2.2.1, 6, .inl (fun _ => 0))), (u 7, .inl (g.2.2.1, 8, .inl zT0)), (u 8, .inl (g.2.2.1, 24, .inl (fun _ => 0))), (u 9, .inl (g.2.2.1, 3, .inl (fun _ => 0))), (u 10, .inr (3, [.int 0, .ref (u 11), .ref (u 12)])), (u 11, .inl (g.2.2.1, 4, .inl (fun _ => 0))), (u 12, .inl (g.2.2.1, 4, .inl (fun _ => 0))), (u 13, .inr (1, [.int 0, .ref (u 14)])), (u 14, .inl (g.2.2.1, 8, .inl (fun _ => 0))), (u 15, .inr (5, [.int 0, .ref (u 16), .ref (u 17)])), (u 16, .inl (g.2.2.1, 6, .inl (fun _ => 0))), (u 17, .inl (g.2.2.1, 6, .inl (fun _ => 0))), (u 18, .inr (0, [.ref (u 19), .ref (u 27), .ref (u 30), .ref (u 32)])), (u 19, .inr (6, [.int 0, .ref (u 20), .ref (u 21), .ref (u 22), .ref (u 23), .ref (u 24), .ref (u 25), .int 1, .ref (u 26)])), (u 20, .inl (g.2.2.1, 6, .inl (fun _ => 0))), (u 21, .inl (g.2.2.1, 6, .inl (fun _ => 0))), (u 22, .inl (g.2.2.1, 6, .inl (fun _ => 0))), (u 23, .inl (g.2.2.1, 6, .inl (fun _ => 0))), (u 24, .inl (g.2.2.1, 8, .inl zT0)), (u 25, .inl (g.2.2.1, 24, .inl (fun _ => 0))), (u 26, .inl (g.2.2.1, 3, .inl (fun _ => 0))), (u 27, .inr (3, [.int 0, .ref (u 28), .ref (u 29)])), (u 28, .inl (g.2.2.1, 4, .inl (fun _ => 0))), (u 29, .inl (g.2.2.1, 4, .inl (fun _ => 0))), (u 30, .inr (1, [.int 0, .ref (u 31)])), (u 31, .inl (g.2.2.1, 8, .inl (fun _ => 0))), (u 32, .inr (5, [.int 0, .ref (u 33), .ref (u 34)])), (u 33, .inl (g.2.2.1, 6, .inl (fun _ => 0))), (u 34, .inl (g.2.2.1, 6, .inl (fun _ => 0))), (u 35, .inr (0, [.ref (u 36), .ref (u 44), .ref (u 47), .ref (u 49)])), (u 36, .inr (6, [.int 0, .ref (u 37), .ref (u 38), .ref (u 39), .ref (u 40), .ref (u 41), .ref (u 42), .int 1, .ref (u 43)])), (u 37, .inl (g.2.2.1, 6, .inl (fun _ => 0))), (u 38, .inl (g.2.2.1, 6, .inl (fun _ => 0))), (u 39, .inl (g.2.2.1, 6, .inl (fun _ => 0))), (u 40, .inl (g.2.2.1, 6, .inl (fun _ => 0))), (u 41, .inl (g.2.2.1, 8, .inl zT0)), (u 42, .inl (g.2.2.1, 24, .inl (fun _ => 0))), (u 43, .inl (g.2.2.1, 3, .inl (fun _ => 0))), (u 44, .inr (3, [.int 0, .ref (u 45), .ref (u 46)])), (u 45, .inl (g.2.2.1, 4, .inl (fun _ => 0))), (u 46, .inl (g.2.2.1, 4, .inl (fun _ => 0))), (u 47, .inr (1, [.int 0, .ref (u 48)])), (u 48, .inl (g.2.2.1, 8, .inl (fun _ => 0))), (u 49, .inr (5, [.int 0, .ref (u 50), .ref (u 51)])), (u 50, .inl (g.2.2.1, 6, .inl (fun _ => 0))), (u 51, .inl (g.2.2.1, 6, .inl (fun _ => 0))), (u 52, .inr (4, [.ref (u 53), .int 0])), (u 53, .inl (g.2.2.1, 60, .inl (fun _ => 0))), (u 54, .inr (7, [.ref (u 55), .int 0, .int (-6)])), (u 55, .inr (6, [.int 0, .ref (u 56), .ref (u 57), .ref (u 58), .ref (u 59), .ref (u 60), .ref (u 61), .int 1, .ref (u 62)])), (u 56, .inl (g.2.2.1, 6, .inl (fun _ => 0))), (u 57, .inl (g.2.2.1, 6, .inl (fun _ => 0))), (u 58, .inl (g.2.2.1, 6, .inl (fun _ => 0))), (u 59, .inl (g.2.2.1, 6, .inl (fun _ => 0))), (u 60, .inl (g.2.2.1, 8, .inl zT0)), (u 61, .inl (g.2.2.1, 24, .inl (fun _ => 0))), (u 62, .inl (g.2.2.1, 3, .inl (fun _ => 0))), (u 63, .inr (2, [.ref (u 64), .int 0, .ref (u 65), .ref (u 66), .ref (u 67), .ref (u 68)])), (u 64, .inl (g.2.2.1, 6, .inl (fun _ => 0))), (u 65, .inl (g.2.2.2.1, 18, .inr (.inl (fun _ => 0)))), (u 66, .inl (g.2.2.2.1, 729, .inr (.inl (fun _ => 0)))), (u 67, .inl (g.2.2.2.1, 729, .inr (.inl (fun _ => 0)))), (u 68, .inl (g.2.2.2.1, 729, .inr (.inl (fun _ => 0))))]
def mk_X9 (g : zG) (u : Nat → Nat) : va_W := [(u 0, .inr (9, [.int 0, .ref (u 1), .ref (u 2), .ref (u 3), .ref (u 4), .int 6, .int 10, .int 1, .int 20, .int 1, .int 50, .int 0, .int 1, .ref (u 5), .int 1, .int 0, .int 0, .int 0, .int 0, .ref (u 6), .ref (u 7), .int 0, .ref (u 8), .ref (u 9), .ref (u 10), .int 0, .ref (u 11), .int 0, .ref (u 12), .int 0, .int 0, .int 0, .ref (u 13), .ref (u 14), .int 0, .ref (u 15), .ref (u 16), .ref (u 17), .int 0, .int 0])), (u 1, .inl (g.2.2.1, 6, .inl (fun _ => 0))), (u 2, .inl (g.2.2.1, 6, .inl (fun _ => 0))), (u 3, .inl (g.2.2.1, 6, .inl (fun _ => 0))), (u 4, .inl (g.2.2.1, 6, .inl (fun _ => 0))), (u 5, .inl (g.2.2.1, 24, .inl (fun _ => 0))), (u 6, .inl (g.2.2.1, 4, .inl (fun _ => 0))), (u 7, .inl (g.2.2.1, 4, .inl (fun _ => 0))), (u 8, .inl (g.2.2.1, 8, .inl (fun _ => 0))), (u 9, .inl (g.2.2.1, 6, .inl (fun _ => 0))), (u 10, .inl (g.2.2.1, 6, .inl (fun _ => 0))), (u 11, .inl (g.2.2.1, 60, .inl (fun _ => 0))), (u 12, .inl (g.2.2.1, 28, .inl (fun _ => 0))), (u 13, .inl (g.2.2.1, 729, .inl (fun _ => 0))), (u 14, .inl (g.2.2.1, 729, .inl (fun _ => 0))), (u 15, .inl (g.2.2.1, 729, .inl (fun _ => 0))), (u 16, .inl (g.2.2.1, 240, .inl (fun _ => 0))), (u 17, .inl (g.2.2.2.2, 2, .inl (fun _ => 0)))]
set_option maxRecDepth 100000 in
theorem wo_inst : Cond.instanceMethod objectInit ∈ zGW := zGt_1 20 rfl rfl
set_option maxRecDepth 100000 in
theorem wo_code : Cond.code objectInit ⟨#[0xb1]⟩ 1 none ∈ zGW := zGt_1 21 rfl rfl
set_option maxRecDepth 100000 in
theorem wa_int : Cond.arrayClass .int ∈ zGW := zGt_1 80 rfl rfl
set_option maxRecDepth 100000 in
theorem wa_long : Cond.arrayClass .long ∈ zGW := zGt_1 213 rfl rfl
set_option maxRecDepth 100000 in
theorem wa_boolean : Cond.arrayClass .boolean ∈ zGW := zGt_4 85 rfl rfl
set_option maxRecDepth 100000 in
theorem wb_X6 : Cond.methodLink RX6 3 objectInit ∈ zGW := zGt_1 33 rfl rfl
set_option maxRecDepth 100000 in
theorem fi_X6_9 : zFW RX6 9 6 0 RX6 TX6 9 := ⟨rfl, by decide, wi_X6, zGt_1 43 rfl rfl⟩
theorem pi_X6_0 : zPW 0 TX6 9 tyX6 .int := ⟨tyX6_ok, nmX6, rfl, by decide +kernel⟩
set_option maxRecDepth 100000 in
theorem fi_X6_15 : zFW RX6 15 6 1 RX6 TX6 9 := ⟨rfl, by decide, wi_X6, zGt_1 45 rfl rfl⟩
set_option maxRecDepth 100000 in
theorem fi_X6_19 : zFW RX6 19 6 2 RX6 TX6 9 := ⟨rfl, by decide, wi_X6, zGt_1 47 rfl rfl⟩
set_option maxRecDepth 100000 in
theorem fi_X6_22 : zFW RX6 22 6 3 RX6 TX6 9 := ⟨rfl, by decide, wi_X6, zGt_1 49 rfl rfl⟩
set_option maxRecDepth 100000 in
theorem fi_X6_25 : zFW RX6 25 6 4 RX6 TX6 9 := ⟨rfl, by decide, wi_X6, zGt_1 51 rfl rfl⟩
set_option maxRecDepth 100000 in
theorem wc_1 : Cond.methodLink RX6 31 zAC ∈ zGW := zGt_1 36 rfl rfl
set_option maxRecDepth 100000 in
theorem wc_2 : Cond.sameMethod "[I" "java/lang/Object" "clone" "()Ljava/lang/Object;" ∈ zGW := zGt_1 37 rfl rfl
set_option maxRecDepth 100000 in
theorem wc_3 : Cond.native zOC ∈ zGW := zGt_1 38 rfl rfl
set_option maxRecDepth 100000 in
theorem wc_4 : Cond.instanceMethod zOC ∈ zGW := zGt_1 39 rfl rfl
set_option maxRecDepth 100000 in
theorem wc_5 : Cond.selects "[I" zAC zOC ∈ zGW := zGt_1 40 rfl rfl
set_option maxRecDepth 100000 in
theorem wc_6 : Cond.classLink RX6 32 "[I" ∈ zGW := zGt_1 42 rfl rfl
set_option maxRecDepth 100000 in
theorem fi_X6_36 : zFW RX6 36 6 5 RX6 TX6 9 := ⟨rfl, by decide, wi_X6, zGt_1 53 rfl rfl⟩
set_option maxRecDepth 100000 in
theorem fi_X6_39 : zFW RX6 39 6 6 RX6 TX6 9 := ⟨rfl, by decide, wi_X6, zGt_1 55 rfl rfl⟩
set_option maxRecDepth 100000 in
theorem fi_X6_42 : zFW RX6 42 6 7 RX6 TX6 9 := ⟨rfl, by decide, wi_X6, zGt_1 57 rfl rfl⟩
theorem pi_X6_7 : zPW 7 TX6 9 tyX6 .int := ⟨tyX6_ok, nmX6, rfl, by decide +kernel⟩
set_option maxRecDepth 100000 in
theorem fi_X6_45 : zFW RX6 45 6 8 RX6 TX6 9 := ⟨rfl, by decide, wi_X6, zGt_1 59 rfl rfl⟩
set_option maxRecDepth 100000 in
theorem wb_X3 : Cond.methodLink RX3 3 objectInit ∈ zGW := zGt_1 86 rfl rfl
set_option maxRecDepth 100000 in
theorem fi_X3_9 : zFW RX3 9 3 0 RX3 TX3 3 := ⟨rfl, by decide, wi_X3, zGt_1 87 rfl rfl⟩
theorem pi_X3_0 : zPW 0 TX3 3 tyX3 .int := ⟨tyX3_ok, nmX3, rfl, by decide +kernel⟩
set_option maxRecDepth 100000 in
theorem fi_X3_15 : zFW RX3 15 3 1 RX3 TX3 3 := ⟨rfl, by decide, wi_X3, zGt_1 89 rfl rfl⟩
set_option maxRecDepth 100000 in
theorem fi_X3_19 : zFW RX3 19 3 2 RX3 TX3 3 := ⟨rfl, by decide, wi_X3, zGt_1 91 rfl rfl⟩
set_option maxRecDepth 100000 in
theorem wb_X1 : Cond.methodLink RX1 3 objectInit ∈ zGW := zGt_1 105 rfl rfl
set_option maxRecDepth 100000 in
theorem fi_X1_9 : zFW RX1 9 1 0 RX1 TX1 2 := ⟨rfl, by decide, wi_X1, zGt_1 106 rfl rfl⟩
theorem pi_X1_0 : zPW 0 TX1 2 tyX1 .int := ⟨tyX1_ok, nmX1, rfl, by decide +kernel⟩
set_option maxRecDepth 100000 in
theorem fi_X1_15 : zFW RX1 15 1 1 RX1 TX1 2 := ⟨rfl, by decide, wi_X1, zGt_1 108 rfl rfl⟩
set_option maxRecDepth 100000 in
theorem wb_X5 : Cond.methodLink RX5 3 objectInit ∈ zGW := zGt_1 120 rfl rfl
set_option maxRecDepth 100000 in
theorem fi_X5_9 : zFW RX5 9 5 0 RX5 TX5 3 := ⟨rfl, by decide, wi_X5, zGt_1 121 rfl rfl⟩
theorem pi_X5_0 : zPW 0 TX5 3 tyX5 .int := ⟨tyX5_ok, nmX5, rfl, by decide +kernel⟩
set_option maxRecDepth 100000 in
theorem fi_X5_15 : zFW RX5 15 5 1 RX5 TX5 3 := ⟨rfl, by decide, wi_X5, zGt_1 123 rfl rfl⟩
set_option maxRecDepth 100000 in
theorem fi_X5_19 : zFW RX5 19 5 2 RX5 TX5 3 := ⟨rfl, by decide, wi_X5, zGt_1 125 rfl rfl⟩
set_option maxRecDepth 100000 in
theorem wb_X0 : Cond.methodLink RX0 1 objectInit ∈ zGW := zGt_1 27 rfl rfl
set_option maxRecDepth 100000 in
theorem wl_X0_7 : Cond.classLink RX0 7 RX6 ∈ zGW := zGt_1 28 rfl rfl
set_option maxRecDepth 100000 in
theorem wn_X6 : Cond.instantiable RX6 9 ∈ zGW := zGt_1 29 rfl rfl
set_option maxRecDepth 100000 in
theorem wt_X6 : Cond.initialized RX6 ∈ zGW := zGt_1 3 rfl rfl
set_option maxRecDepth 100000 in
theorem wq_X0_9 : zNI RX0 9 yX6_init cX6_init := ⟨zGt_1 32 rfl rfl, zNW_in 76 (by decide +kernel) (by decide +kernel), zGt_1 31 rfl rfl, zGt_1 3 rfl rfl, by decide +kernel, rfl⟩
set_option maxRecDepth 100000 in
theorem fi_X0_10 : zFW RX0 10 0 0 RX0 TX0 4 := ⟨rfl, by decide, wi_X0, zGt_1 134 rfl rfl⟩
set_option maxRecDepth 100000 in
theorem wl_X0_16 : Cond.classLink RX0 16 RX3 ∈ zGW := zGt_1 81 rfl rfl
set_option maxRecDepth 100000 in
theorem wn_X3 : Cond.instantiable RX3 3 ∈ zGW := zGt_1 82 rfl rfl
set_option maxRecDepth 100000 in
theorem wt_X3 : Cond.initialized RX3 ∈ zGW := zGt_1 4 rfl rfl
set_option maxRecDepth 100000 in
theorem wq_X0_18 : zNI RX0 18 yX3_init cX3_init := ⟨zGt_1 85 rfl rfl, zNW_in 129 (by decide +kernel) (by decide +kernel), zGt_1 84 rfl rfl, zGt_1 4 rfl rfl, by decide +kernel, rfl⟩
set_option maxRecDepth 100000 in
theorem fi_X0_19 : zFW RX0 19 0 1 RX0 TX0 4 := ⟨rfl, by decide, wi_X0, zGt_1 136 rfl rfl⟩
set_option maxRecDepth 100000 in
theorem wl_X0_23 : Cond.classLink RX0 23 RX1 ∈ zGW := zGt_1 100 rfl rfl
set_option maxRecDepth 100000 in
theorem wn_X1 : Cond.instantiable RX1 2 ∈ zGW := zGt_1 101 rfl rfl
set_option maxRecDepth 100000 in
theorem wt_X1 : Cond.initialized RX1 ∈ zGW := zGt_1 5 rfl rfl
set_option maxRecDepth 100000 in
theorem wq_X0_25 : zNI RX0 25 yX1_init cX1_init := ⟨zGt_1 104 rfl rfl, zNW_in 148 (by decide +kernel) (by decide +kernel), zGt_1 103 rfl rfl, zGt_1 5 rfl rfl, by decide +kernel, rfl⟩
set_option maxRecDepth 100000 in
theorem fi_X0_26 : zFW RX0 26 0 2 RX0 TX0 4 := ⟨rfl, by decide, wi_X0, zGt_1 138 rfl rfl⟩
set_option maxRecDepth 100000 in
theorem wl_X0_30 : Cond.classLink RX0 30 RX5 ∈ zGW := zGt_1 115 rfl rfl
set_option maxRecDepth 100000 in
theorem wn_X5 : Cond.instantiable RX5 3 ∈ zGW := zGt_1 116 rfl rfl
set_option maxRecDepth 100000 in
theorem wt_X5 : Cond.initialized RX5 ∈ zGW := zGt_1 6 rfl rfl
set_option maxRecDepth 100000 in
theorem wq_X0_32 : zNI RX0 32 yX5_init cX5_init := ⟨zGt_1 119 rfl rfl, zNW_in 163 (by decide +kernel) (by decide +kernel), zGt_1 118 rfl rfl, zGt_1 6 rfl rfl, by decide +kernel, rfl⟩
set_option maxRecDepth 100000 in
theorem fi_X0_33 : zFW RX0 33 0 3 RX0 TX0 4 := ⟨rfl, by decide, wi_X0, zGt_1 140 rfl rfl⟩
set_option maxRecDepth 100000 in
theorem wb_X4 : Cond.methodLink RX4 3 objectInit ∈ zGW := zGt_1 156 rfl rfl
set_option maxRecDepth 100000 in
theorem fi_X4_9 : zFW RX4 9 4 0 RX4 TX4 2 := ⟨rfl, by decide, wi_X4, zGt_1 157 rfl rfl⟩
set_option maxRecDepth 100000 in
theorem fi_X4_15 : zFW RX4 15 4 1 RX4 TX4 2 := ⟨rfl, by decide, wi_X4, zGt_1 159 rfl rfl⟩
theorem pi_X4_1 : zPW 1 TX4 2 tyX4 .int := ⟨tyX4_ok, nmX4, rfl, by decide +kernel⟩
set_option maxRecDepth 100000 in
theorem wb_X7 : Cond.methodLink RX7 3 objectInit ∈ zGW := zGt_1 172 rfl rfl
set_option maxRecDepth 100000 in
theorem wl_X7_9 : Cond.classLink RX7 9 RX6 ∈ zGW := zGt_1 173 rfl rfl
set_option maxRecDepth 100000 in
theorem wq_X7_11 : zNI RX7 11 yX6_init cX6_init := ⟨zGt_1 32 rfl rfl, zNW_in 220 (by decide +kernel) (by decide +kernel), zGt_1 31 rfl rfl, zGt_1 3 rfl rfl, by decide +kernel, rfl⟩
set_option maxRecDepth 100000 in
theorem fi_X7_12 : zFW RX7 12 7 0 RX7 TX7 3 := ⟨rfl, by decide, wi_X7, zGt_1 175 rfl rfl⟩
set_option maxRecDepth 100000 in
theorem fi_X7_18 : zFW RX7 18 7 1 RX7 TX7 3 := ⟨rfl, by decide, wi_X7, zGt_1 177 rfl rfl⟩
theorem pi_X7_1 : zPW 1 TX7 3 tyX7 .int := ⟨tyX7_ok, nmX7, rfl, by decide +kernel⟩
set_option maxRecDepth 100000 in
theorem fi_X7_22 : zFW RX7 22 7 2 RX7 TX7 3 := ⟨rfl, by decide, wi_X7, zGt_1 179 rfl rfl⟩
theorem pi_X7_2 : zPW 2 TX7 3 tyX7 .int := ⟨tyX7_ok, nmX7, rfl, by decide +kernel⟩
set_option maxRecDepth 100000 in
theorem wb_X2 : Cond.methodLink RX2 3 objectInit ∈ zGW := zGt_1 193 rfl rfl
set_option maxRecDepth 100000 in
theorem fi_X2_9 : zFW RX2 9 2 0 RX2 TX2 6 := ⟨rfl, by decide, wi_X2, zGt_1 194 rfl rfl⟩
set_option maxRecDepth 100000 in
theorem fi_X2_15 : zFW RX2 15 2 1 RX2 TX2 6 := ⟨rfl, by decide, wi_X2, zGt_1 195 rfl rfl⟩
theorem pi_X2_1 : zPW 1 TX2 6 tyX2 .int := ⟨tyX2_ok, nmX2, rfl, by decide +kernel⟩
set_option maxRecDepth 100000 in
theorem fi_X2_19 : zFW RX2 19 2 2 RX2 TX2 6 := ⟨rfl, by decide, wi_X2, zGt_1 196 rfl rfl⟩
set_option maxRecDepth 100000 in
theorem fi_X2_23 : zFW RX2 23 2 3 RX2 TX2 6 := ⟨rfl, by decide, wi_X2, zGt_1 197 rfl rfl⟩
set_option maxRecDepth 100000 in
theorem fi_X2_26 : zFW RX2 26 2 4 RX2 TX2 6 := ⟨rfl, by decide, wi_X2, zGt_1 198 rfl rfl⟩
set_option maxRecDepth 100000 in
theorem fi_X2_29 : zFW RX2 29 2 5 RX2 TX2 6 := ⟨rfl, by decide, wi_X2, zGt_1 199 rfl rfl⟩
set_option maxRecDepth 100000 in
theorem wb_X8 : Cond.methodLink RX8 1 objectInit ∈ zGW := zGt_1 19 rfl rfl
set_option maxRecDepth 100000 in
theorem wl_X8_7 : Cond.classLink RX8 7 RX0 ∈ zGW := zGt_1 22 rfl rfl
set_option maxRecDepth 100000 in
theorem wn_X0 : Cond.instantiable RX0 4 ∈ zGW := zGt_1 23 rfl rfl
set_option maxRecDepth 100000 in
theorem wt_X0 : Cond.initialized RX0 ∈ zGW := zGt_1 2 rfl rfl
set_option maxRecDepth 100000 in
theorem wq_X8_9 : zNI RX8 9 yX0_init cX0_init := ⟨zGt_1 26 rfl rfl, zNW_in 70 (by decide +kernel) (by decide +kernel), zGt_1 25 rfl rfl, zGt_1 2 rfl rfl, by decide +kernel, rfl⟩
set_option maxRecDepth 100000 in
theorem fi_X8_10 : zFW RX8 10 8 0 RX8 TX8 7 := ⟨rfl, by decide, wi_X8, zGt_1 214 rfl rfl⟩
set_option maxRecDepth 100000 in
theorem fi_X8_16 : zFW RX8 16 8 1 RX8 TX8 7 := ⟨rfl, by decide, wi_X8, zGt_1 215 rfl rfl⟩
set_option maxRecDepth 100000 in
theorem fi_X8_19 : zFW RX8 19 8 2 RX8 TX8 7 := ⟨rfl, by decide, wi_X8, zGt_1 216 rfl rfl⟩
set_option maxRecDepth 100000 in
theorem fi_X8_22 : zFW RX8 22 8 3 RX8 TX8 7 := ⟨rfl, by decide, wi_X8, zGt_1 217 rfl rfl⟩
theorem pi_X8_3 : zPW 3 TX8 7 tyX8 .int := ⟨tyX8_ok, nmX8, rfl, by decide +kernel⟩
set_option maxRecDepth 100000 in
theorem wl_X8_26 : Cond.classLink RX8 26 RX4 ∈ zGW := zGt_1 151 rfl rfl
set_option maxRecDepth 100000 in
theorem wn_X4 : Cond.instantiable RX4 2 ∈ zGW := zGt_1 152 rfl rfl
set_option maxRecDepth 100000 in
theorem wt_X4 : Cond.initialized RX4 ∈ zGW := zGt_1 7 rfl rfl
set_option maxRecDepth 100000 in
theorem wq_X8_28 : zNI RX8 28 yX4_init cX4_init := ⟨zGt_1 155 rfl rfl, zNW_in 199 (by decide +kernel) (by decide +kernel), zGt_1 154 rfl rfl, zGt_1 7 rfl rfl, by decide +kernel, rfl⟩
set_option maxRecDepth 100000 in
theorem fi_X8_29 : zFW RX8 29 8 4 RX8 TX8 7 := ⟨rfl, by decide, wi_X8, zGt_1 218 rfl rfl⟩
set_option maxRecDepth 100000 in
theorem wl_X8_33 : Cond.classLink RX8 33 RX7 ∈ zGW := zGt_1 167 rfl rfl
set_option maxRecDepth 100000 in
theorem wn_X7 : Cond.instantiable RX7 3 ∈ zGW := zGt_1 168 rfl rfl
set_option maxRecDepth 100000 in
theorem wt_X7 : Cond.initialized RX7 ∈ zGW := zGt_1 8 rfl rfl
set_option maxRecDepth 100000 in
theorem wq_X8_35 : zNI RX8 35 yX7_init cX7_init := ⟨zGt_1 171 rfl rfl, zNW_in 215 (by decide +kernel) (by decide +kernel), zGt_1 170 rfl rfl, zGt_1 8 rfl rfl, by decide +kernel, rfl⟩
set_option maxRecDepth 100000 in
theorem fi_X8_36 : zFW RX8 36 8 5 RX8 TX8 7 := ⟨rfl, by decide, wi_X8, zGt_1 219 rfl rfl⟩
set_option maxRecDepth 100000 in
theorem wl_X8_40 : Cond.classLink RX8 40 RX2 ∈ zGW := zGt_1 188 rfl rfl
set_option maxRecDepth 100000 in
theorem wn_X2 : Cond.instantiable RX2 6 ∈ zGW := zGt_1 189 rfl rfl
set_option maxRecDepth 100000 in
theorem wt_X2 : Cond.initialized RX2 ∈ zGW := zGt_1 9 rfl rfl
set_option maxRecDepth 100000 in
theorem wq_X8_42 : zNI RX8 42 yX2_init cX2_init := ⟨zGt_1 192 rfl rfl, zNW_in 236 (by decide +kernel) (by decide +kernel), zGt_1 191 rfl rfl, zGt_1 9 rfl rfl, by decide +kernel, rfl⟩
set_option maxRecDepth 100000 in
theorem fi_X8_43 : zFW RX8 43 8 6 RX8 TX8 7 := ⟨rfl, by decide, wi_X8, zGt_1 220 rfl rfl⟩
set_option maxRecDepth 100000 in
theorem wb_X9 : Cond.methodLink RX9 1 objectInit ∈ zGW := zGt_3 203 rfl rfl
set_option maxRecDepth 100000 in
theorem fi_X9_7 : zFW RX9 7 9 1 RX9 TX9 40 := ⟨rfl, by decide, wi_X9, zGt_3 205 rfl rfl⟩
set_option maxRecDepth 100000 in
theorem fi_X9_13 : zFW RX9 13 9 2 RX9 TX9 40 := ⟨rfl, by decide, wi_X9, zGt_3 206 rfl rfl⟩
set_option maxRecDepth 100000 in
theorem fi_X9_16 : zFW RX9 16 9 3 RX9 TX9 40 := ⟨rfl, by decide, wi_X9, zGt_3 207 rfl rfl⟩
set_option maxRecDepth 100000 in
theorem fi_X9_19 : zFW RX9 19 9 4 RX9 TX9 40 := ⟨rfl, by decide, wi_X9, zGt_3 208 rfl rfl⟩
set_option maxRecDepth 100000 in
theorem fi_X9_22 : zFW RX9 22 9 13 RX9 TX9 40 := ⟨rfl, by decide, wi_X9, zGt_3 217 rfl rfl⟩
set_option maxRecDepth 100000 in
theorem fi_X9_25 : zFW RX9 25 9 19 RX9 TX9 40 := ⟨rfl, by decide, wi_X9, zGt_3 223 rfl rfl⟩
set_option maxRecDepth 100000 in
theorem fi_X9_28 : zFW RX9 28 9 20 RX9 TX9 40 := ⟨rfl, by decide, wi_X9, zGt_3 224 rfl rfl⟩
set_option maxRecDepth 100000 in
theorem fi_X9_31 : zFW RX9 31 9 22 RX9 TX9 40 := ⟨rfl, by decide, wi_X9, zGt_3 226 rfl rfl⟩
set_option maxRecDepth 100000 in
theorem fi_X9_34 : zFW RX9 34 9 23 RX9 TX9 40 := ⟨rfl, by decide, wi_X9, zGt_3 227 rfl rfl⟩
set_option maxRecDepth 100000 in
theorem fi_X9_37 : zFW RX9 37 9 24 RX9 TX9 40 := ⟨rfl, by decide, wi_X9, zGt_3 228 rfl rfl⟩
set_option maxRecDepth 100000 in
theorem fi_X9_40 : zFW RX9 40 9 26 RX9 TX9 40 := ⟨rfl, by decide, wi_X9, zGt_3 230 rfl rfl⟩
set_option maxRecDepth 100000 in
theorem fi_X9_43 : zFW RX9 43 9 28 RX9 TX9 40 := ⟨rfl, by decide, wi_X9, zGt_3 232 rfl rfl⟩
set_option maxRecDepth 100000 in
theorem fi_X9_46 : zFW RX9 46 9 32 RX9 TX9 40 := ⟨rfl, by decide, wi_X9, zGt_3 236 rfl rfl⟩
set_option maxRecDepth 100000 in
theorem fi_X9_49 : zFW RX9 49 9 33 RX9 TX9 40 := ⟨rfl, by decide, wi_X9, zGt_3 237 rfl rfl⟩
set_option maxRecDepth 100000 in
theorem fi_X9_52 : zFW RX9 52 9 35 RX9 TX9 40 := ⟨rfl, by decide, wi_X9, zGt_3 239 rfl rfl⟩
set_option maxRecDepth 100000 in
theorem fi_X9_55 : zFW RX9 55 9 36 RX9 TX9 40 := ⟨rfl, by decide, wi_X9, zGt_4 0 rfl rfl⟩
set_option maxRecDepth 100000 in
theorem fi_X9_58 : zFW RX9 58 9 37 RX9 TX9 40 := ⟨rfl, by decide, wi_X9, zGt_4 1 rfl rfl⟩
set_option maxRecDepth 100000 in
theorem fi_X9_62 : zFW RX9 62 9 5 RX9 TX9 40 := ⟨rfl, by decide, wi_X9, zGt_3 209 rfl rfl⟩
theorem pi_X9_5 : zPW 5 TX9 40 tyX9 .int := ⟨tyX9_ok, nmX9, rfl, by decide +kernel⟩
set_option maxRecDepth 100000 in
theorem fi_X9_66 : zFW RX9 66 9 6 RX9 TX9 40 := ⟨rfl, by decide, wi_X9, zGt_3 210 rfl rfl⟩
theorem pi_X9_6 : zPW 6 TX9 40 tyX9 .int := ⟨tyX9_ok, nmX9, rfl, by decide +kernel⟩
set_option maxRecDepth 100000 in
theorem fi_X9_69 : zFW RX9 69 9 7 RX9 TX9 40 := ⟨rfl, by decide, wi_X9, zGt_3 211 rfl rfl⟩
theorem pi_X9_7 : zPW 7 TX9 40 tyX9 .int := ⟨tyX9_ok, nmX9, rfl, by decide +kernel⟩
set_option maxRecDepth 100000 in
theorem fi_X9_72 : zFW RX9 72 9 8 RX9 TX9 40 := ⟨rfl, by decide, wi_X9, zGt_3 212 rfl rfl⟩
theorem pi_X9_8 : zPW 8 TX9 40 tyX9 .int := ⟨tyX9_ok, nmX9, rfl, by decide +kernel⟩
set_option maxRecDepth 100000 in
theorem fi_X9_75 : zFW RX9 75 9 9 RX9 TX9 40 := ⟨rfl, by decide, wi_X9, zGt_3 213 rfl rfl⟩
theorem pi_X9_9 : zPW 9 TX9 40 tyX9 .int := ⟨tyX9_ok, nmX9, rfl, by decide +kernel⟩
set_option maxRecDepth 100000 in
theorem fi_X9_78 : zFW RX9 78 9 10 RX9 TX9 40 := ⟨rfl, by decide, wi_X9, zGt_3 214 rfl rfl⟩
theorem pi_X9_10 : zPW 10 TX9 40 tyX9 .int := ⟨tyX9_ok, nmX9, rfl, by decide +kernel⟩
set_option maxRecDepth 100000 in
theorem fi_X9_81 : zFW RX9 81 9 12 RX9 TX9 40 := ⟨rfl, by decide, wi_X9, zGt_3 216 rfl rfl⟩
theorem pi_X9_12 : zPW 12 TX9 40 tyX9 .int := ⟨tyX9_ok, nmX9, rfl, by decide +kernel⟩
set_option maxRecDepth 100000 in
theorem fi_X9_84 : zFW RX9 84 9 14 RX9 TX9 40 := ⟨rfl, by decide, wi_X9, zGt_3 218 rfl rfl⟩
theorem pi_X9_14 : zPW 14 TX9 40 tyX9 .int := ⟨tyX9_ok, nmX9, rfl, by decide +kernel⟩
theorem d_X6_init_0 : decode cX6_init 0 = .ok (.aload_n 0, 1) := by decide +kernel
theorem d_X6_init_1 : decode cX6_init 1 = .ok (.invokespecial 3, 3) := by decide +kernel
theorem d_X6_init_4 : decode cX6_init 4 = .ok (.aload_n 0, 1) := by decide +kernel
theorem d_X6_init_5 : decode cX6_init 5 = .ok (.iconst 0, 1) := by decide +kernel
theorem d_X6_init_6 : decode cX6_init 6 = .ok (.putfield 9, 3) := by decide +kernel
theorem d_X6_init_9 : decode cX6_init 9 = .ok (.aload_n 0, 1) := by decide +kernel
theorem d_X6_init_10 : decode cX6_init 10 = .ok (.bipush 6, 2) := by decide +kernel
theorem d_X6_init_12 : decode cX6_init 12 = .ok (.newarray .int, 2) := by decide +kernel
theorem d_X6_init_14 : decode cX6_init 14 = .ok (.putfield 15, 3) := by decide +kernel
theorem d_X6_init_17 : decode cX6_init 17 = .ok (.aload_n 0, 1) := by decide +kernel
theorem d_X6_init_18 : decode cX6_init 18 = .ok (.bipush 6, 2) := by decide +kernel
theorem d_X6_init_20 : decode cX6_init 20 = .ok (.newarray .int, 2) := by decide +kernel
theorem d_X6_init_22 : decode cX6_init 22 = .ok (.putfield 19, 3) := by decide +kernel
theorem d_X6_init_25 : decode cX6_init 25 = .ok (.aload_n 0, 1) := by decide +kernel
theorem d_X6_init_26 : decode cX6_init 26 = .ok (.bipush 6, 2) := by decide +kernel
theorem d_X6_init_28 : decode cX6_init 28 = .ok (.newarray .int, 2) := by decide +kernel
theorem d_X6_init_30 : decode cX6_init 30 = .ok (.putfield 22, 3) := by decide +kernel
theorem d_X6_init_33 : decode cX6_init 33 = .ok (.aload_n 0, 1) := by decide +kernel
theorem d_X6_init_34 : decode cX6_init 34 = .ok (.bipush 6, 2) := by decide +kernel
theorem d_X6_init_36 : decode cX6_init 36 = .ok (.newarray .int, 2) := by decide +kernel
theorem d_X6_init_38 : decode cX6_init 38 = .ok (.putfield 25, 3) := by decide +kernel
theorem d_X6_init_41 : decode cX6_init 41 = .ok (.aload_n 0, 1) := by decide +kernel
theorem d_X6_init_42 : decode cX6_init 42 = .ok (.getstatic 28, 3) := by decide +kernel
theorem d_X6_init_45 : decode cX6_init 45 = .ok (.invokevirtual 31, 3) := by decide +kernel
theorem d_X6_init_48 : decode cX6_init 48 = .ok (.checkcast 32, 3) := by decide +kernel
theorem d_X6_init_51 : decode cX6_init 51 = .ok (.putfield 36, 3) := by decide +kernel
theorem d_X6_init_54 : decode cX6_init 54 = .ok (.aload_n 0, 1) := by decide +kernel
theorem d_X6_init_55 : decode cX6_init 55 = .ok (.bipush 24, 2) := by decide +kernel
theorem d_X6_init_57 : decode cX6_init 57 = .ok (.newarray .int, 2) := by decide +kernel
theorem d_X6_init_59 : decode cX6_init 59 = .ok (.putfield 39, 3) := by decide +kernel
theorem d_X6_init_62 : decode cX6_init 62 = .ok (.aload_n 0, 1) := by decide +kernel
theorem d_X6_init_63 : decode cX6_init 63 = .ok (.iconst 1, 1) := by decide +kernel
theorem d_X6_init_64 : decode cX6_init 64 = .ok (.putfield 42, 3) := by decide +kernel
theorem d_X6_init_67 : decode cX6_init 67 = .ok (.aload_n 0, 1) := by decide +kernel
theorem d_X6_init_68 : decode cX6_init 68 = .ok (.iconst 3, 1) := by decide +kernel
theorem d_X6_init_69 : decode cX6_init 69 = .ok (.newarray .int, 2) := by decide +kernel
theorem d_X6_init_71 : decode cX6_init 71 = .ok (.putfield 45, 3) := by decide +kernel
theorem d_X6_init_74 : decode cX6_init 74 = .ok (.return_, 1) := by decide +kernel
theorem d_X3_init_0 : decode cX3_init 0 = .ok (.aload_n 0, 1) := by decide +kernel
theorem d_X3_init_1 : decode cX3_init 1 = .ok (.invokespecial 3, 3) := by decide +kernel
theorem d_X3_init_4 : decode cX3_init 4 = .ok (.aload_n 0, 1) := by decide +kernel
theorem d_X3_init_5 : decode cX3_init 5 = .ok (.iconst 0, 1) := by decide +kernel
theorem d_X3_init_6 : decode cX3_init 6 = .ok (.putfield 9, 3) := by decide +kernel
theorem d_X3_init_9 : decode cX3_init 9 = .ok (.aload_n 0, 1) := by decide +kernel
theorem d_X3_init_10 : decode cX3_init 10 = .ok (.iconst 4, 1) := by decide +kernel
theorem d_X3_init_11 : decode cX3_init 11 = .ok (.newarray .int, 2) := by decide +kernel
theorem d_X3_init_13 : decode cX3_init 13 = .ok (.putfield 15, 3) := by decide +kernel
theorem d_X3_init_16 : decode cX3_init 16 = .ok (.aload_n 0, 1) := by decide +kernel
theorem d_X3_init_17 : decode cX3_init 17 = .ok (.iconst 4, 1) := by decide +kernel
theorem d_X3_init_18 : decode cX3_init 18 = .ok (.newarray .int, 2) := by decide +kernel
theorem d_X3_init_20 : decode cX3_init 20 = .ok (.putfield 19, 3) := by decide +kernel
theorem d_X3_init_23 : decode cX3_init 23 = .ok (.return_, 1) := by decide +kernel
theorem d_X1_init_0 : decode cX1_init 0 = .ok (.aload_n 0, 1) := by decide +kernel
theorem d_X1_init_1 : decode cX1_init 1 = .ok (.invokespecial 3, 3) := by decide +kernel
theorem d_X1_init_4 : decode cX1_init 4 = .ok (.aload_n 0, 1) := by decide +kernel
theorem d_X1_init_5 : decode cX1_init 5 = .ok (.iconst 0, 1) := by decide +kernel
theorem d_X1_init_6 : decode cX1_init 6 = .ok (.putfield 9, 3) := by decide +kernel
theorem d_X1_init_9 : decode cX1_init 9 = .ok (.aload_n 0, 1) := by decide +kernel
theorem d_X1_init_10 : decode cX1_init 10 = .ok (.bipush 8, 2) := by decide +kernel
theorem d_X1_init_12 : decode cX1_init 12 = .ok (.newarray .int, 2) := by decide +kernel
theorem d_X1_init_14 : decode cX1_init 14 = .ok (.putfield 15, 3) := by decide +kernel
theorem d_X1_init_17 : decode cX1_init 17 = .ok (.return_, 1) := by decide +kernel
theorem d_X5_init_0 : decode cX5_init 0 = .ok (.aload_n 0, 1) := by decide +kernel
theorem d_X5_init_1 : decode cX5_init 1 = .ok (.invokespecial 3, 3) := by decide +kernel
theorem d_X5_init_4 : decode cX5_init 4 = .ok (.aload_n 0, 1) := by decide +kernel
theorem d_X5_init_5 : decode cX5_init 5 = .ok (.iconst 0, 1) := by decide +kernel
theorem d_X5_init_6 : decode cX5_init 6 = .ok (.putfield 9, 3) := by decide +kernel
theorem d_X5_init_9 : decode cX5_init 9 = .ok (.aload_n 0, 1) := by decide +kernel
theorem d_X5_init_10 : decode cX5_init 10 = .ok (.bipush 6, 2) := by decide +kernel
theorem d_X5_init_12 : decode cX5_init 12 = .ok (.newarray .int, 2) := by decide +kernel
theorem d_X5_init_14 : decode cX5_init 14 = .ok (.putfield 15, 3) := by decide +kernel
theorem d_X5_init_17 : decode cX5_init 17 = .ok (.aload_n 0, 1) := by decide +kernel
theorem d_X5_init_18 : decode cX5_init 18 = .ok (.bipush 6, 2) := by decide +kernel
theorem d_X5_init_20 : decode cX5_init 20 = .ok (.newarray .int, 2) := by decide +kernel
theorem d_X5_init_22 : decode cX5_init 22 = .ok (.putfield 19, 3) := by decide +kernel
theorem d_X5_init_25 : decode cX5_init 25 = .ok (.return_, 1) := by decide +kernel
theorem d_X0_init_0 : decode cX0_init 0 = .ok (.aload_n 0, 1) := by decide +kernel
theorem d_X0_init_1 : decode cX0_init 1 = .ok (.invokespecial 1, 3) := by decide +kernel
theorem d_X0_init_4 : decode cX0_init 4 = .ok (.aload_n 0, 1) := by decide +kernel
theorem d_X0_init_5 : decode cX0_init 5 = .ok (.new 7, 3) := by decide +kernel
theorem d_X0_init_8 : decode cX0_init 8 = .ok (.dup, 1) := by decide +kernel
theorem d_X0_init_9 : decode cX0_init 9 = .ok (.invokespecial 9, 3) := by decide +kernel
theorem d_X0_init_12 : decode cX0_init 12 = .ok (.putfield 10, 3) := by decide +kernel
theorem d_X0_init_15 : decode cX0_init 15 = .ok (.aload_n 0, 1) := by decide +kernel
theorem d_X0_init_16 : decode cX0_init 16 = .ok (.new 16, 3) := by decide +kernel
theorem d_X0_init_19 : decode cX0_init 19 = .ok (.dup, 1) := by decide +kernel
theorem d_X0_init_20 : decode cX0_init 20 = .ok (.invokespecial 18, 3) := by decide +kernel
theorem d_X0_init_23 : decode cX0_init 23 = .ok (.putfield 19, 3) := by decide +kernel
theorem d_X0_init_26 : decode cX0_init 26 = .ok (.aload_n 0, 1) := by decide +kernel
theorem d_X0_init_27 : decode cX0_init 27 = .ok (.new 23, 3) := by decide +kernel
theorem d_X0_init_30 : decode cX0_init 30 = .ok (.dup, 1) := by decide +kernel
theorem d_X0_init_31 : decode cX0_init 31 = .ok (.invokespecial 25, 3) := by decide +kernel
theorem d_X0_init_34 : decode cX0_init 34 = .ok (.putfield 26, 3) := by decide +kernel
theorem d_X0_init_37 : decode cX0_init 37 = .ok (.aload_n 0, 1) := by decide +kernel
theorem d_X0_init_38 : decode cX0_init 38 = .ok (.new 30, 3) := by decide +kernel
theorem d_X0_init_41 : decode cX0_init 41 = .ok (.dup, 1) := by decide +kernel
theorem d_X0_init_42 : decode cX0_init 42 = .ok (.invokespecial 32, 3) := by decide +kernel
theorem d_X0_init_45 : decode cX0_init 45 = .ok (.putfield 33, 3) := by decide +kernel
theorem d_X0_init_48 : decode cX0_init 48 = .ok (.return_, 1) := by decide +kernel
theorem d_X4_init_0 : decode cX4_init 0 = .ok (.aload_n 0, 1) := by decide +kernel
theorem d_X4_init_1 : decode cX4_init 1 = .ok (.invokespecial 3, 3) := by decide +kernel
theorem d_X4_init_4 : decode cX4_init 4 = .ok (.aload_n 0, 1) := by decide +kernel
theorem d_X4_init_5 : decode cX4_init 5 = .ok (.bipush 60, 2) := by decide +kernel
theorem d_X4_init_7 : decode cX4_init 7 = .ok (.newarray .int, 2) := by decide +kernel
theorem d_X4_init_9 : decode cX4_init 9 = .ok (.putfield 9, 3) := by decide +kernel
theorem d_X4_init_12 : decode cX4_init 12 = .ok (.aload_n 0, 1) := by decide +kernel
theorem d_X4_init_13 : decode cX4_init 13 = .ok (.iconst 0, 1) := by decide +kernel
theorem d_X4_init_14 : decode cX4_init 14 = .ok (.putfield 15, 3) := by decide +kernel
theorem d_X4_init_17 : decode cX4_init 17 = .ok (.return_, 1) := by decide +kernel
theorem d_X7_init_0 : decode cX7_init 0 = .ok (.aload_n 0, 1) := by decide +kernel
theorem d_X7_init_1 : decode cX7_init 1 = .ok (.invokespecial 3, 3) := by decide +kernel
theorem d_X7_init_4 : decode cX7_init 4 = .ok (.aload_n 0, 1) := by decide +kernel
theorem d_X7_init_5 : decode cX7_init 5 = .ok (.new 9, 3) := by decide +kernel
theorem d_X7_init_8 : decode cX7_init 8 = .ok (.dup, 1) := by decide +kernel
theorem d_X7_init_9 : decode cX7_init 9 = .ok (.invokespecial 11, 3) := by decide +kernel
theorem d_X7_init_12 : decode cX7_init 12 = .ok (.putfield 12, 3) := by decide +kernel
theorem d_X7_init_15 : decode cX7_init 15 = .ok (.aload_n 0, 1) := by decide +kernel
theorem d_X7_init_16 : decode cX7_init 16 = .ok (.iconst 0, 1) := by decide +kernel
theorem d_X7_init_17 : decode cX7_init 17 = .ok (.putfield 18, 3) := by decide +kernel
theorem d_X7_init_20 : decode cX7_init 20 = .ok (.aload_n 0, 1) := by decide +kernel
theorem d_X7_init_21 : decode cX7_init 21 = .ok (.bipush (-6), 2) := by decide +kernel
theorem d_X7_init_23 : decode cX7_init 23 = .ok (.putfield 22, 3) := by decide +kernel
theorem d_X7_init_26 : decode cX7_init 26 = .ok (.return_, 1) := by decide +kernel
theorem d_X2_init_0 : decode cX2_init 0 = .ok (.aload_n 0, 1) := by decide +kernel
theorem d_X2_init_1 : decode cX2_init 1 = .ok (.invokespecial 3, 3) := by decide +kernel
theorem d_X2_init_4 : decode cX2_init 4 = .ok (.aload_n 0, 1) := by decide +kernel
theorem d_X2_init_5 : decode cX2_init 5 = .ok (.bipush 6, 2) := by decide +kernel
theorem d_X2_init_7 : decode cX2_init 7 = .ok (.newarray .int, 2) := by decide +kernel
theorem d_X2_init_9 : decode cX2_init 9 = .ok (.putfield 9, 3) := by decide +kernel
theorem d_X2_init_12 : decode cX2_init 12 = .ok (.aload_n 0, 1) := by decide +kernel
theorem d_X2_init_13 : decode cX2_init 13 = .ok (.iconst 0, 1) := by decide +kernel
theorem d_X2_init_14 : decode cX2_init 14 = .ok (.putfield 15, 3) := by decide +kernel
theorem d_X2_init_17 : decode cX2_init 17 = .ok (.aload_n 0, 1) := by decide +kernel
theorem d_X2_init_18 : decode cX2_init 18 = .ok (.bipush 18, 2) := by decide +kernel
theorem d_X2_init_20 : decode cX2_init 20 = .ok (.newarray .long, 2) := by decide +kernel
theorem d_X2_init_22 : decode cX2_init 22 = .ok (.putfield 19, 3) := by decide +kernel
theorem d_X2_init_25 : decode cX2_init 25 = .ok (.aload_n 0, 1) := by decide +kernel
theorem d_X2_init_26 : decode cX2_init 26 = .ok (.sipush 729, 3) := by decide +kernel
theorem d_X2_init_29 : decode cX2_init 29 = .ok (.newarray .long, 2) := by decide +kernel
theorem d_X2_init_31 : decode cX2_init 31 = .ok (.putfield 23, 3) := by decide +kernel
theorem d_X2_init_34 : decode cX2_init 34 = .ok (.aload_n 0, 1) := by decide +kernel
theorem d_X2_init_35 : decode cX2_init 35 = .ok (.sipush 729, 3) := by decide +kernel
theorem d_X2_init_38 : decode cX2_init 38 = .ok (.newarray .long, 2) := by decide +kernel
theorem d_X2_init_40 : decode cX2_init 40 = .ok (.putfield 26, 3) := by decide +kernel
theorem d_X2_init_43 : decode cX2_init 43 = .ok (.aload_n 0, 1) := by decide +kernel
theorem d_X2_init_44 : decode cX2_init 44 = .ok (.sipush 729, 3) := by decide +kernel
theorem d_X2_init_47 : decode cX2_init 47 = .ok (.newarray .long, 2) := by decide +kernel
theorem d_X2_init_49 : decode cX2_init 49 = .ok (.putfield 29, 3) := by decide +kernel
theorem d_X2_init_52 : decode cX2_init 52 = .ok (.return_, 1) := by decide +kernel
theorem d_X8_init_0 : decode cX8_init 0 = .ok (.aload_n 0, 1) := by decide +kernel
theorem d_X8_init_1 : decode cX8_init 1 = .ok (.invokespecial 1, 3) := by decide +kernel
theorem d_X8_init_4 : decode cX8_init 4 = .ok (.aload_n 0, 1) := by decide +kernel
theorem d_X8_init_5 : decode cX8_init 5 = .ok (.new 7, 3) := by decide +kernel
theorem d_X8_init_8 : decode cX8_init 8 = .ok (.dup, 1) := by decide +kernel
theorem d_X8_init_9 : decode cX8_init 9 = .ok (.invokespecial 9, 3) := by decide +kernel
theorem d_X8_init_12 : decode cX8_init 12 = .ok (.putfield 10, 3) := by decide +kernel
theorem d_X8_init_15 : decode cX8_init 15 = .ok (.aload_n 0, 1) := by decide +kernel
theorem d_X8_init_16 : decode cX8_init 16 = .ok (.new 7, 3) := by decide +kernel
theorem d_X8_init_19 : decode cX8_init 19 = .ok (.dup, 1) := by decide +kernel
theorem d_X8_init_20 : decode cX8_init 20 = .ok (.invokespecial 9, 3) := by decide +kernel
theorem d_X8_init_23 : decode cX8_init 23 = .ok (.putfield 16, 3) := by decide +kernel
theorem d_X8_init_26 : decode cX8_init 26 = .ok (.aload_n 0, 1) := by decide +kernel
theorem d_X8_init_27 : decode cX8_init 27 = .ok (.new 7, 3) := by decide +kernel
theorem d_X8_init_30 : decode cX8_init 30 = .ok (.dup, 1) := by decide +kernel
theorem d_X8_init_31 : decode cX8_init 31 = .ok (.invokespecial 9, 3) := by decide +kernel
theorem d_X8_init_34 : decode cX8_init 34 = .ok (.putfield 19, 3) := by decide +kernel
theorem d_X8_init_37 : decode cX8_init 37 = .ok (.aload_n 0, 1) := by decide +kernel
theorem d_X8_init_38 : decode cX8_init 38 = .ok (.iconst 0, 1) := by decide +kernel
theorem d_X8_init_39 : decode cX8_init 39 = .ok (.putfield 22, 3) := by decide +kernel
theorem d_X8_init_42 : decode cX8_init 42 = .ok (.aload_n 0, 1) := by decide +kernel
theorem d_X8_init_43 : decode cX8_init 43 = .ok (.new 26, 3) := by decide +kernel
theorem d_X8_init_46 : decode cX8_init 46 = .ok (.dup, 1) := by decide +kernel
theorem d_X8_init_47 : decode cX8_init 47 = .ok (.invokespecial 28, 3) := by decide +kernel
theorem d_X8_init_50 : decode cX8_init 50 = .ok (.putfield 29, 3) := by decide +kernel
theorem d_X8_init_53 : decode cX8_init 53 = .ok (.aload_n 0, 1) := by decide +kernel
theorem d_X8_init_54 : decode cX8_init 54 = .ok (.new 33, 3) := by decide +kernel
theorem d_X8_init_57 : decode cX8_init 57 = .ok (.dup, 1) := by decide +kernel
theorem d_X8_init_58 : decode cX8_init 58 = .ok (.invokespecial 35, 3) := by decide +kernel
theorem d_X8_init_61 : decode cX8_init 61 = .ok (.putfield 36, 3) := by decide +kernel
theorem d_X8_init_64 : decode cX8_init 64 = .ok (.aload_n 0, 1) := by decide +kernel
theorem d_X8_init_65 : decode cX8_init 65 = .ok (.new 40, 3) := by decide +kernel
theorem d_X8_init_68 : decode cX8_init 68 = .ok (.dup, 1) := by decide +kernel
theorem d_X8_init_69 : decode cX8_init 69 = .ok (.invokespecial 42, 3) := by decide +kernel
theorem d_X8_init_72 : decode cX8_init 72 = .ok (.putfield 43, 3) := by decide +kernel
theorem d_X8_init_75 : decode cX8_init 75 = .ok (.return_, 1) := by decide +kernel
theorem d_X9_init_0 : decode cX9_init 0 = .ok (.aload_n 0, 1) := by decide +kernel
theorem d_X9_init_1 : decode cX9_init 1 = .ok (.invokespecial 1, 3) := by decide +kernel
theorem d_X9_init_4 : decode cX9_init 4 = .ok (.aload_n 0, 1) := by decide +kernel
theorem d_X9_init_5 : decode cX9_init 5 = .ok (.bipush 6, 2) := by decide +kernel
theorem d_X9_init_7 : decode cX9_init 7 = .ok (.newarray .int, 2) := by decide +kernel
theorem d_X9_init_9 : decode cX9_init 9 = .ok (.putfield 7, 3) := by decide +kernel
theorem d_X9_init_12 : decode cX9_init 12 = .ok (.aload_n 0, 1) := by decide +kernel
theorem d_X9_init_13 : decode cX9_init 13 = .ok (.bipush 6, 2) := by decide +kernel
theorem d_X9_init_15 : decode cX9_init 15 = .ok (.newarray .int, 2) := by decide +kernel
theorem d_X9_init_17 : decode cX9_init 17 = .ok (.putfield 13, 3) := by decide +kernel
theorem d_X9_init_20 : decode cX9_init 20 = .ok (.aload_n 0, 1) := by decide +kernel
theorem d_X9_init_21 : decode cX9_init 21 = .ok (.bipush 6, 2) := by decide +kernel
theorem d_X9_init_23 : decode cX9_init 23 = .ok (.newarray .int, 2) := by decide +kernel
theorem d_X9_init_25 : decode cX9_init 25 = .ok (.putfield 16, 3) := by decide +kernel
theorem d_X9_init_28 : decode cX9_init 28 = .ok (.aload_n 0, 1) := by decide +kernel
theorem d_X9_init_29 : decode cX9_init 29 = .ok (.bipush 6, 2) := by decide +kernel
theorem d_X9_init_31 : decode cX9_init 31 = .ok (.newarray .int, 2) := by decide +kernel
theorem d_X9_init_33 : decode cX9_init 33 = .ok (.putfield 19, 3) := by decide +kernel
theorem d_X9_init_36 : decode cX9_init 36 = .ok (.aload_n 0, 1) := by decide +kernel
theorem d_X9_init_37 : decode cX9_init 37 = .ok (.bipush 24, 2) := by decide +kernel
theorem d_X9_init_39 : decode cX9_init 39 = .ok (.newarray .int, 2) := by decide +kernel
theorem d_X9_init_41 : decode cX9_init 41 = .ok (.putfield 22, 3) := by decide +kernel
theorem d_X9_init_44 : decode cX9_init 44 = .ok (.aload_n 0, 1) := by decide +kernel
theorem d_X9_init_45 : decode cX9_init 45 = .ok (.iconst 4, 1) := by decide +kernel
theorem d_X9_init_46 : decode cX9_init 46 = .ok (.newarray .int, 2) := by decide +kernel
theorem d_X9_init_48 : decode cX9_init 48 = .ok (.putfield 25, 3) := by decide +kernel
theorem d_X9_init_51 : decode cX9_init 51 = .ok (.aload_n 0, 1) := by decide +kernel
theorem d_X9_init_52 : decode cX9_init 52 = .ok (.iconst 4, 1) := by decide +kernel
theorem d_X9_init_53 : decode cX9_init 53 = .ok (.newarray .int, 2) := by decide +kernel
theorem d_X9_init_55 : decode cX9_init 55 = .ok (.putfield 28, 3) := by decide +kernel
theorem d_X9_init_58 : decode cX9_init 58 = .ok (.aload_n 0, 1) := by decide +kernel
theorem d_X9_init_59 : decode cX9_init 59 = .ok (.bipush 8, 2) := by decide +kernel
theorem d_X9_init_61 : decode cX9_init 61 = .ok (.newarray .int, 2) := by decide +kernel
theorem d_X9_init_63 : decode cX9_init 63 = .ok (.putfield 31, 3) := by decide +kernel
theorem d_X9_init_66 : decode cX9_init 66 = .ok (.aload_n 0, 1) := by decide +kernel
theorem d_X9_init_67 : decode cX9_init 67 = .ok (.bipush 6, 2) := by decide +kernel
theorem d_X9_init_69 : decode cX9_init 69 = .ok (.newarray .int, 2) := by decide +kernel
theorem d_X9_init_71 : decode cX9_init 71 = .ok (.putfield 34, 3) := by decide +kernel
theorem d_X9_init_74 : decode cX9_init 74 = .ok (.aload_n 0, 1) := by decide +kernel
theorem d_X9_init_75 : decode cX9_init 75 = .ok (.bipush 6, 2) := by decide +kernel
theorem d_X9_init_77 : decode cX9_init 77 = .ok (.newarray .int, 2) := by decide +kernel
theorem d_X9_init_79 : decode cX9_init 79 = .ok (.putfield 37, 3) := by decide +kernel
theorem d_X9_init_82 : decode cX9_init 82 = .ok (.aload_n 0, 1) := by decide +kernel
theorem d_X9_init_83 : decode cX9_init 83 = .ok (.bipush 60, 2) := by decide +kernel
theorem d_X9_init_85 : decode cX9_init 85 = .ok (.newarray .int, 2) := by decide +kernel
theorem d_X9_init_87 : decode cX9_init 87 = .ok (.putfield 40, 3) := by decide +kernel
theorem d_X9_init_90 : decode cX9_init 90 = .ok (.aload_n 0, 1) := by decide +kernel
theorem d_X9_init_91 : decode cX9_init 91 = .ok (.bipush 28, 2) := by decide +kernel
theorem d_X9_init_93 : decode cX9_init 93 = .ok (.newarray .int, 2) := by decide +kernel
theorem d_X9_init_95 : decode cX9_init 95 = .ok (.putfield 43, 3) := by decide +kernel
theorem d_X9_init_98 : decode cX9_init 98 = .ok (.aload_n 0, 1) := by decide +kernel
theorem d_X9_init_99 : decode cX9_init 99 = .ok (.sipush 729, 3) := by decide +kernel
theorem d_X9_init_102 : decode cX9_init 102 = .ok (.newarray .int, 2) := by decide +kernel
theorem d_X9_init_104 : decode cX9_init 104 = .ok (.putfield 46, 3) := by decide +kernel
theorem d_X9_init_107 : decode cX9_init 107 = .ok (.aload_n 0, 1) := by decide +kernel
theorem d_X9_init_108 : decode cX9_init 108 = .ok (.sipush 729, 3) := by decide +kernel
theorem d_X9_init_111 : decode cX9_init 111 = .ok (.newarray .int, 2) := by decide +kernel
theorem d_X9_init_113 : decode cX9_init 113 = .ok (.putfield 49, 3) := by decide +kernel
theorem d_X9_init_116 : decode cX9_init 116 = .ok (.aload_n 0, 1) := by decide +kernel
theorem d_X9_init_117 : decode cX9_init 117 = .ok (.sipush 729, 3) := by decide +kernel
theorem d_X9_init_120 : decode cX9_init 120 = .ok (.newarray .int, 2) := by decide +kernel
theorem d_X9_init_122 : decode cX9_init 122 = .ok (.putfield 52, 3) := by decide +kernel
theorem d_X9_init_125 : decode cX9_init 125 = .ok (.aload_n 0, 1) := by decide +kernel
theorem d_X9_init_126 : decode cX9_init 126 = .ok (.sipush 240, 3) := by decide +kernel
theorem d_X9_init_129 : decode cX9_init 129 = .ok (.newarray .int, 2) := by decide +kernel
theorem d_X9_init_131 : decode cX9_init 131 = .ok (.putfield 55, 3) := by decide +kernel
theorem d_X9_init_134 : decode cX9_init 134 = .ok (.aload_n 0, 1) := by decide +kernel
theorem d_X9_init_135 : decode cX9_init 135 = .ok (.iconst 2, 1) := by decide +kernel
theorem d_X9_init_136 : decode cX9_init 136 = .ok (.newarray .boolean, 2) := by decide +kernel
theorem d_X9_init_138 : decode cX9_init 138 = .ok (.putfield 58, 3) := by decide +kernel
theorem d_X9_init_141 : decode cX9_init 141 = .ok (.aload_n 0, 1) := by decide +kernel
theorem d_X9_init_142 : decode cX9_init 142 = .ok (.bipush 6, 2) := by decide +kernel
theorem d_X9_init_144 : decode cX9_init 144 = .ok (.putfield 62, 3) := by decide +kernel
theorem d_X9_init_147 : decode cX9_init 147 = .ok (.aload_n 0, 1) := by decide +kernel
theorem d_X9_init_148 : decode cX9_init 148 = .ok (.bipush 10, 2) := by decide +kernel
theorem d_X9_init_150 : decode cX9_init 150 = .ok (.putfield 66, 3) := by decide +kernel
theorem d_X9_init_153 : decode cX9_init 153 = .ok (.aload_n 0, 1) := by decide +kernel
theorem d_X9_init_154 : decode cX9_init 154 = .ok (.iconst 1, 1) := by decide +kernel
theorem d_X9_init_155 : decode cX9_init 155 = .ok (.putfield 69, 3) := by decide +kernel
theorem d_X9_init_158 : decode cX9_init 158 = .ok (.aload_n 0, 1) := by decide +kernel
theorem d_X9_init_159 : decode cX9_init 159 = .ok (.bipush 20, 2) := by decide +kernel
theorem d_X9_init_161 : decode cX9_init 161 = .ok (.putfield 72, 3) := by decide +kernel
theorem d_X9_init_164 : decode cX9_init 164 = .ok (.aload_n 0, 1) := by decide +kernel
theorem d_X9_init_165 : decode cX9_init 165 = .ok (.iconst 1, 1) := by decide +kernel
theorem d_X9_init_166 : decode cX9_init 166 = .ok (.putfield 75, 3) := by decide +kernel
theorem d_X9_init_169 : decode cX9_init 169 = .ok (.aload_n 0, 1) := by decide +kernel
theorem d_X9_init_170 : decode cX9_init 170 = .ok (.bipush 50, 2) := by decide +kernel
theorem d_X9_init_172 : decode cX9_init 172 = .ok (.putfield 78, 3) := by decide +kernel
theorem d_X9_init_175 : decode cX9_init 175 = .ok (.aload_n 0, 1) := by decide +kernel
theorem d_X9_init_176 : decode cX9_init 176 = .ok (.iconst 1, 1) := by decide +kernel
theorem d_X9_init_177 : decode cX9_init 177 = .ok (.putfield 81, 3) := by decide +kernel
theorem d_X9_init_180 : decode cX9_init 180 = .ok (.aload_n 0, 1) := by decide +kernel
theorem d_X9_init_181 : decode cX9_init 181 = .ok (.iconst 1, 1) := by decide +kernel
theorem d_X9_init_182 : decode cX9_init 182 = .ok (.putfield 84, 3) := by decide +kernel
theorem d_X9_init_185 : decode cX9_init 185 = .ok (.return_, 1) := by decide +kernel
set_option maxRecDepth 100000 in
set_option maxHeartbeats 4000000 in
theorem c_X6_init (l : Launch) (g : zG) : zMn l g yX6_init cX6_init 1 16 7 59 6 [.int 0, .null, .null, .null, .null, .null, .null, .int 0, .null] (mk_X6 g) := by
  refine zMnOf (by decide) rfl (fun h0 ws0 A p e s m below meth c Q hr C hret => ?_)
  refine zn_aload C d_X6_init_0 ?_
  refine zn_obj C wb_X6 wo_inst wo_code d_X6_init_1 (by decide) (Nat.le_of_ble_eq_true rfl) ?_
  refine zn_aload C d_X6_init_4 ?_
  refine zn_iconst C (0) d_X6_init_5 (by decide) ?_
  refine zn_puti C [.int 0, .null, .null, .null, .null, .null, .null, .int 0, .null] fi_X6_9 pi_X6_0 (Nat.le_of_ble_eq_true rfl) rfl d_X6_init_6 ?_
  refine zn_aload C d_X6_init_9 ?_
  refine zn_bipush C (6) d_X6_init_10 (by decide) ?_
  refine zn_newI (N := 6) C wa_int (by decide) (by decide) (by decide) (by decide) (by decide) d_X6_init_12 (fun q12 => ?_)
  refine zn_putF C (ty := .array .int) [.int 0, .ref (q12), .null, .null, .null, .null, .null, .int 0, .null] fi_X6_15 tyX6_ok nmX6 rfl rfl (by decide +kernel) rfl rfl (Nat.le_of_ble_eq_true rfl) rfl d_X6_init_14 ?_
  refine zn_aload C d_X6_init_17 ?_
  refine zn_bipush C (6) d_X6_init_18 (by decide) ?_
  refine zn_newI (N := 6) C wa_int (by decide) (by decide) (by decide) (by decide) (by decide) d_X6_init_20 (fun q20 => ?_)
  refine zn_putF C (ty := .array .int) [.int 0, .ref (q12), .ref (q20), .null, .null, .null, .null, .int 0, .null] fi_X6_19 tyX6_ok nmX6 rfl rfl (by decide +kernel) rfl rfl (Nat.le_of_ble_eq_true rfl) rfl d_X6_init_22 ?_
  refine zn_aload C d_X6_init_25 ?_
  refine zn_bipush C (6) d_X6_init_26 (by decide) ?_
  refine zn_newI (N := 6) C wa_int (by decide) (by decide) (by decide) (by decide) (by decide) d_X6_init_28 (fun q28 => ?_)
  refine zn_putF C (ty := .array .int) [.int 0, .ref (q12), .ref (q20), .ref (q28), .null, .null, .null, .int 0, .null] fi_X6_22 tyX6_ok nmX6 rfl rfl (by decide +kernel) rfl rfl (Nat.le_of_ble_eq_true rfl) rfl d_X6_init_30 ?_
  refine zn_aload C d_X6_init_33 ?_
  refine zn_bipush C (6) d_X6_init_34 (by decide) ?_
  refine zn_newI (N := 6) C wa_int (by decide) (by decide) (by decide) (by decide) (by decide) d_X6_init_36 (fun q36 => ?_)
  refine zn_putF C (ty := .array .int) [.int 0, .ref (q12), .ref (q20), .ref (q28), .ref (q36), .null, .null, .int 0, .null] fi_X6_25 tyX6_ok nmX6 rfl rfl (by decide +kernel) rfl rfl (Nat.le_of_ble_eq_true rfl) rfl d_X6_init_38 ?_
  refine zn_aload C d_X6_init_41 ?_
  refine zn_gets C d_X6_init_42 (fun t42 ht42 => ?_)
  refine zn_clone C ht42 wc_1 wc_2 wc_3 wc_4 wc_5 (by decide) (Nat.le_of_ble_eq_true rfl) (by decide) (by decide) d_X6_init_45 (fun q45 => ?_)
  refine zn_cast C wc_6 d_X6_init_48 ?_
  refine zn_putF C (ty := .array .int) [.int 0, .ref (q12), .ref (q20), .ref (q28), .ref (q36), .ref (q45), .null, .int 0, .null] fi_X6_36 tyX6_ok nmX6 rfl rfl (by decide +kernel) rfl rfl (Nat.le_of_ble_eq_true rfl) rfl d_X6_init_51 ?_
  refine zn_aload C d_X6_init_54 ?_
  refine zn_bipush C (24) d_X6_init_55 (by decide) ?_
  refine zn_newI (N := 24) C wa_int (by decide) (by decide) (by decide) (by decide) (by decide) d_X6_init_57 (fun q57 => ?_)
  refine zn_putF C (ty := .array .int) [.int 0, .ref (q12), .ref (q20), .ref (q28), .ref (q36), .ref (q45), .ref (q57), .int 0, .null] fi_X6_39 tyX6_ok nmX6 rfl rfl (by decide +kernel) rfl rfl (Nat.le_of_ble_eq_true rfl) rfl d_X6_init_59 ?_
  refine zn_aload C d_X6_init_62 ?_
  refine zn_iconst C (1) d_X6_init_63 (by decide) ?_
  refine zn_puti C [.int 0, .ref (q12), .ref (q20), .ref (q28), .ref (q36), .ref (q45), .ref (q57), .int 1, .null] fi_X6_42 pi_X6_7 (Nat.le_of_ble_eq_true rfl) rfl d_X6_init_64 ?_
  refine zn_aload C d_X6_init_67 ?_
  refine zn_iconst C (3) d_X6_init_68 (by decide) ?_
  refine zn_newI (N := 3) C wa_int (by decide) (by decide) (by decide) (by decide) (by decide) d_X6_init_69 (fun q69 => ?_)
  refine zn_putF C (ty := .array .int) [.int 0, .ref (q12), .ref (q20), .ref (q28), .ref (q36), .ref (q45), .ref (q57), .int 1, .ref (q69)] fi_X6_45 tyX6_ok nmX6 rfl rfl (by decide +kernel) rfl rfl (Nat.le_of_ble_eq_true rfl) rfl d_X6_init_71 ?_
  exact hret _ _ _ (fun i => ([h0, q12, q20, q28, q36, q45, q57, q69] : List Nat).getD i 0) rfl rfl d_X6_init_74
set_option maxRecDepth 100000 in
set_option maxHeartbeats 4000000 in
theorem c_X3_init (l : Launch) (g : zG) : zMn l g yX3_init cX3_init 1 16 2 8 3 [.int 0, .null, .null] (mk_X3 g) := by
  refine zMnOf (by decide) rfl (fun h0 ws0 A p e s m below meth c Q hr C hret => ?_)
  refine zn_aload C d_X3_init_0 ?_
  refine zn_obj C wb_X3 wo_inst wo_code d_X3_init_1 (by decide) (Nat.le_of_ble_eq_true rfl) ?_
  refine zn_aload C d_X3_init_4 ?_
  refine zn_iconst C (0) d_X3_init_5 (by decide) ?_
  refine zn_puti C [.int 0, .null, .null] fi_X3_9 pi_X3_0 (Nat.le_of_ble_eq_true rfl) rfl d_X3_init_6 ?_
  refine zn_aload C d_X3_init_9 ?_
  refine zn_iconst C (4) d_X3_init_10 (by decide) ?_
  refine zn_newI (N := 4) C wa_int (by decide) (by decide) (by decide) (by decide) (by decide) d_X3_init_11 (fun q11 => ?_)
  refine zn_putF C (ty := .array .int) [.int 0, .ref (q11), .null] fi_X3_15 tyX3_ok nmX3 rfl rfl (by decide +kernel) rfl rfl (Nat.le_of_ble_eq_true rfl) rfl d_X3_init_13 ?_
  refine zn_aload C d_X3_init_16 ?_
  refine zn_iconst C (4) d_X3_init_17 (by decide) ?_
  refine zn_newI (N := 4) C wa_int (by decide) (by decide) (by decide) (by decide) (by decide) d_X3_init_18 (fun q18 => ?_)
  refine zn_putF C (ty := .array .int) [.int 0, .ref (q11), .ref (q18)] fi_X3_19 tyX3_ok nmX3 rfl rfl (by decide +kernel) rfl rfl (Nat.le_of_ble_eq_true rfl) rfl d_X3_init_20 ?_
  exact hret _ _ _ (fun i => ([h0, q11, q18] : List Nat).getD i 0) rfl rfl d_X3_init_23
set_option maxRecDepth 100000 in
set_option maxHeartbeats 4000000 in
theorem c_X1_init (l : Launch) (g : zG) : zMn l g yX1_init cX1_init 1 16 1 8 1 [.int 0, .null] (mk_X1 g) := by
  refine zMnOf (by decide) rfl (fun h0 ws0 A p e s m below meth c Q hr C hret => ?_)
  refine zn_aload C d_X1_init_0 ?_
  refine zn_obj C wb_X1 wo_inst wo_code d_X1_init_1 (by decide) (Nat.le_of_ble_eq_true rfl) ?_
  refine zn_aload C d_X1_init_4 ?_
  refine zn_iconst C (0) d_X1_init_5 (by decide) ?_
  refine zn_puti C [.int 0, .null] fi_X1_9 pi_X1_0 (Nat.le_of_ble_eq_true rfl) rfl d_X1_init_6 ?_
  refine zn_aload C d_X1_init_9 ?_
  refine zn_bipush C (8) d_X1_init_10 (by decide) ?_
  refine zn_newI (N := 8) C wa_int (by decide) (by decide) (by decide) (by decide) (by decide) d_X1_init_12 (fun q12 => ?_)
  refine zn_putF C (ty := .array .int) [.int 0, .ref (q12)] fi_X1_15 tyX1_ok nmX1 rfl rfl (by decide +kernel) rfl rfl (Nat.le_of_ble_eq_true rfl) rfl d_X1_init_14 ?_
  exact hret _ _ _ (fun i => ([h0, q12] : List Nat).getD i 0) rfl rfl d_X1_init_17
set_option maxRecDepth 100000 in
set_option maxHeartbeats 4000000 in
theorem c_X5_init (l : Launch) (g : zG) : zMn l g yX5_init cX5_init 1 16 2 12 5 [.int 0, .null, .null] (mk_X5 g) := by
  refine zMnOf (by decide) rfl (fun h0 ws0 A p e s m below meth c Q hr C hret => ?_)
  refine zn_aload C d_X5_init_0 ?_
  refine zn_obj C wb_X5 wo_inst wo_code d_X5_init_1 (by decide) (Nat.le_of_ble_eq_true rfl) ?_
  refine zn_aload C d_X5_init_4 ?_
  refine zn_iconst C (0) d_X5_init_5 (by decide) ?_
  refine zn_puti C [.int 0, .null, .null] fi_X5_9 pi_X5_0 (Nat.le_of_ble_eq_true rfl) rfl d_X5_init_6 ?_
  refine zn_aload C d_X5_init_9 ?_
  refine zn_bipush C (6) d_X5_init_10 (by decide) ?_
  refine zn_newI (N := 6) C wa_int (by decide) (by decide) (by decide) (by decide) (by decide) d_X5_init_12 (fun q12 => ?_)
  refine zn_putF C (ty := .array .int) [.int 0, .ref (q12), .null] fi_X5_15 tyX5_ok nmX5 rfl rfl (by decide +kernel) rfl rfl (Nat.le_of_ble_eq_true rfl) rfl d_X5_init_14 ?_
  refine zn_aload C d_X5_init_17 ?_
  refine zn_bipush C (6) d_X5_init_18 (by decide) ?_
  refine zn_newI (N := 6) C wa_int (by decide) (by decide) (by decide) (by decide) (by decide) d_X5_init_20 (fun q20 => ?_)
  refine zn_putF C (ty := .array .int) [.int 0, .ref (q12), .ref (q20)] fi_X5_19 tyX5_ok nmX5 rfl rfl (by decide +kernel) rfl rfl (Nat.le_of_ble_eq_true rfl) rfl d_X5_init_22 ?_
  exact hret _ _ _ (fun i => ([h0, q12, q20] : List Nat).getD i 0) rfl rfl d_X5_init_25
set_option maxRecDepth 100000 in
set_option maxHeartbeats 4000000 in
theorem c_X0_init (l : Launch) (g : zG) : zMn l g yX0_init cX0_init 2 36 16 104 0 [.null, .null, .null, .null] (mk_X0 g) := by
  refine zMnOf (by decide) rfl (fun h0 ws0 A p e s m below meth c Q hr C hret => ?_)
  refine zn_aload C d_X0_init_0 ?_
  refine zn_obj C wb_X0 wo_inst wo_code d_X0_init_1 (by decide) (Nat.le_of_ble_eq_true rfl) ?_
  refine zn_aload C d_X0_init_4 ?_
  refine zn_new (cj := 6) (ty0 := tyX6) C [.int 0, .null, .null, .null, .null, .null, .null, .int 0, .null] rfl wi_X6 tyX6_ok wl_X0_7 wn_X6 wt_X6 (by decide +kernel) (by decide) (by decide) d_X0_init_5 (fun q5 => ?_)
  refine zn_dup C d_X0_init_8 ?_
  refine zn_call C wq_X0_9 (c_X6_init l g) (by decide) (by decide) (by decide) (by decide) (Nat.le_of_ble_eq_true rfl) d_X0_init_9 (fun u9 hu9 => ?_)
  subst hu9
  refine zn_putF C (ty := .object "StraitFleet$Sea") [.ref (u9 0), .null, .null, .null] fi_X0_10 tyX0_ok nmX0 rfl rfl (by decide +kernel) rfl rfl (Nat.le_of_ble_eq_true rfl) rfl d_X0_init_12 ?_
  refine zn_aload C d_X0_init_15 ?_
  refine zn_new (cj := 3) (ty0 := tyX3) C [.int 0, .null, .null] rfl wi_X3 tyX3_ok wl_X0_16 wn_X3 wt_X3 (by decide +kernel) (by decide) (by decide) d_X0_init_16 (fun q16 => ?_)
  refine zn_dup C d_X0_init_19 ?_
  refine zn_call C wq_X0_18 (c_X3_init l g) (by decide) (by decide) (by decide) (by decide) (Nat.le_of_ble_eq_true rfl) d_X0_init_20 (fun u20 hu20 => ?_)
  subst hu20
  refine zn_putF C (ty := .object "StraitFleet$Insurers") [.ref (u9 0), .ref (u20 0), .null, .null] fi_X0_19 tyX0_ok nmX0 rfl rfl (by decide +kernel) rfl rfl (Nat.le_of_ble_eq_true rfl) rfl d_X0_init_23 ?_
  refine zn_aload C d_X0_init_26 ?_
  refine zn_new (cj := 1) (ty0 := tyX1) C [.int 0, .null] rfl wi_X1 tyX1_ok wl_X0_23 wn_X1 wt_X1 (by decide +kernel) (by decide) (by decide) d_X0_init_27 (fun q27 => ?_)
  refine zn_dup C d_X0_init_30 ?_
  refine zn_call C wq_X0_25 (c_X1_init l g) (by decide) (by decide) (by decide) (by decide) (Nat.le_of_ble_eq_true rfl) d_X0_init_31 (fun u31 hu31 => ?_)
  subst hu31
  refine zn_putF C (ty := .object "StraitFleet$Crew") [.ref (u9 0), .ref (u20 0), .ref (u31 0), .null] fi_X0_26 tyX0_ok nmX0 rfl rfl (by decide +kernel) rfl rfl (Nat.le_of_ble_eq_true rfl) rfl d_X0_init_34 ?_
  refine zn_aload C d_X0_init_37 ?_
  refine zn_new (cj := 5) (ty0 := tyX5) C [.int 0, .null, .null] rfl wi_X5 tyX5_ok wl_X0_30 wn_X5 wt_X5 (by decide +kernel) (by decide) (by decide) d_X0_init_38 (fun q38 => ?_)
  refine zn_dup C d_X0_init_41 ?_
  refine zn_call C wq_X0_32 (c_X5_init l g) (by decide) (by decide) (by decide) (by decide) (Nat.le_of_ble_eq_true rfl) d_X0_init_42 (fun u42 hu42 => ?_)
  subst hu42
  refine zn_putF C (ty := .object "StraitFleet$Rolls") [.ref (u9 0), .ref (u20 0), .ref (u31 0), .ref (u42 0)] fi_X0_33 tyX0_ok nmX0 rfl rfl (by decide +kernel) rfl rfl (Nat.le_of_ble_eq_true rfl) rfl d_X0_init_45 ?_
  exact hret _ _ _ (fun i => ([h0, u9 0, u9 1, u9 2, u9 3, u9 4, u9 5, u9 6, u9 7, u20 0, u20 1, u20 2, u31 0, u31 1, u42 0, u42 1, u42 2] : List Nat).getD i 0) rfl rfl d_X0_init_48
set_option maxRecDepth 100000 in
set_option maxHeartbeats 4000000 in
theorem c_X4_init (l : Launch) (g : zG) : zMn l g yX4_init cX4_init 1 16 1 60 4 [.null, .int 0] (mk_X4 g) := by
  refine zMnOf (by decide) rfl (fun h0 ws0 A p e s m below meth c Q hr C hret => ?_)
  refine zn_aload C d_X4_init_0 ?_
  refine zn_obj C wb_X4 wo_inst wo_code d_X4_init_1 (by decide) (Nat.le_of_ble_eq_true rfl) ?_
  refine zn_aload C d_X4_init_4 ?_
  refine zn_bipush C (60) d_X4_init_5 (by decide) ?_
  refine zn_newI (N := 60) C wa_int (by decide) (by decide) (by decide) (by decide) (by decide) d_X4_init_7 (fun q7 => ?_)
  refine zn_putF C (ty := .array .int) [.ref (q7), .int 0] fi_X4_9 tyX4_ok nmX4 rfl rfl (by decide +kernel) rfl rfl (Nat.le_of_ble_eq_true rfl) rfl d_X4_init_9 ?_
  refine zn_aload C d_X4_init_12 ?_
  refine zn_iconst C (0) d_X4_init_13 (by decide) ?_
  refine zn_puti C [.ref (q7), .int 0] fi_X4_15 pi_X4_1 (Nat.le_of_ble_eq_true rfl) rfl d_X4_init_14 ?_
  exact hret _ _ _ (fun i => ([h0, q7] : List Nat).getD i 0) rfl rfl d_X4_init_17
set_option maxRecDepth 100000 in
set_option maxHeartbeats 4000000 in
theorem c_X7_init (l : Launch) (g : zG) : zMn l g yX7_init cX7_init 2 36 8 68 7 [.null, .int 0, .int 0] (mk_X7 g) := by
  refine zMnOf (by decide) rfl (fun h0 ws0 A p e s m below meth c Q hr C hret => ?_)
  refine zn_aload C d_X7_init_0 ?_
  refine zn_obj C wb_X7 wo_inst wo_code d_X7_init_1 (by decide) (Nat.le_of_ble_eq_true rfl) ?_
  refine zn_aload C d_X7_init_4 ?_
  refine zn_new (cj := 6) (ty0 := tyX6) C [.int 0, .null, .null, .null, .null, .null, .null, .int 0, .null] rfl wi_X6 tyX6_ok wl_X7_9 wn_X6 wt_X6 (by decide +kernel) (by decide) (by decide) d_X7_init_5 (fun q5 => ?_)
  refine zn_dup C d_X7_init_8 ?_
  refine zn_call C wq_X7_11 (c_X6_init l g) (by decide) (by decide) (by decide) (by decide) (Nat.le_of_ble_eq_true rfl) d_X7_init_9 (fun u9 hu9 => ?_)
  subst hu9
  refine zn_putF C (ty := .object "StraitFleet$Sea") [.ref (u9 0), .int 0, .int 0] fi_X7_12 tyX7_ok nmX7 rfl rfl (by decide +kernel) rfl rfl (Nat.le_of_ble_eq_true rfl) rfl d_X7_init_12 ?_
  refine zn_aload C d_X7_init_15 ?_
  refine zn_iconst C (0) d_X7_init_16 (by decide) ?_
  refine zn_puti C [.ref (u9 0), .int 0, .int 0] fi_X7_18 pi_X7_1 (Nat.le_of_ble_eq_true rfl) rfl d_X7_init_17 ?_
  refine zn_aload C d_X7_init_20 ?_
  refine zn_bipush C (-6) d_X7_init_21 (by decide) ?_
  refine zn_puti C [.ref (u9 0), .int 0, .int (-6)] fi_X7_22 pi_X7_2 (Nat.le_of_ble_eq_true rfl) rfl d_X7_init_23 ?_
  exact hret _ _ _ (fun i => ([h0, u9 0, u9 1, u9 2, u9 3, u9 4, u9 5, u9 6, u9 7] : List Nat).getD i 0) rfl rfl d_X7_init_26
set_option maxRecDepth 100000 in
set_option maxHeartbeats 4000000 in
theorem c_X2_init (l : Launch) (g : zG) : zMn l g yX2_init cX2_init 1 16 5 2211 2 [.null, .int 0, .null, .null, .null, .null] (mk_X2 g) := by
  refine zMnOf (by decide) rfl (fun h0 ws0 A p e s m below meth c Q hr C hret => ?_)
  refine zn_aload C d_X2_init_0 ?_
  refine zn_obj C wb_X2 wo_inst wo_code d_X2_init_1 (by decide) (Nat.le_of_ble_eq_true rfl) ?_
  refine zn_aload C d_X2_init_4 ?_
  refine zn_bipush C (6) d_X2_init_5 (by decide) ?_
  refine zn_newI (N := 6) C wa_int (by decide) (by decide) (by decide) (by decide) (by decide) d_X2_init_7 (fun q7 => ?_)
  refine zn_putF C (ty := .array .int) [.ref (q7), .int 0, .null, .null, .null, .null] fi_X2_9 tyX2_ok nmX2 rfl rfl (by decide +kernel) rfl rfl (Nat.le_of_ble_eq_true rfl) rfl d_X2_init_9 ?_
  refine zn_aload C d_X2_init_12 ?_
  refine zn_iconst C (0) d_X2_init_13 (by decide) ?_
  refine zn_puti C [.ref (q7), .int 0, .null, .null, .null, .null] fi_X2_15 pi_X2_1 (Nat.le_of_ble_eq_true rfl) rfl d_X2_init_14 ?_
  refine zn_aload C d_X2_init_17 ?_
  refine zn_bipush C (18) d_X2_init_18 (by decide) ?_
  refine zn_newL (N := 18) C wa_long (by decide) (by decide) (by decide) (by decide) (by decide) d_X2_init_20 (fun q20 => ?_)
  refine zn_putF C (ty := .array .long) [.ref (q7), .int 0, .ref (q20), .null, .null, .null] fi_X2_19 tyX2_ok nmX2 rfl rfl (by decide +kernel) rfl rfl (Nat.le_of_ble_eq_true rfl) rfl d_X2_init_22 ?_
  refine zn_aload C d_X2_init_25 ?_
  refine zn_sipush C (729) d_X2_init_26 (by decide) ?_
  refine zn_newL (N := 729) C wa_long (by decide) (by decide) (by decide) (by decide) (by decide) d_X2_init_29 (fun q29 => ?_)
  refine zn_putF C (ty := .array .long) [.ref (q7), .int 0, .ref (q20), .ref (q29), .null, .null] fi_X2_23 tyX2_ok nmX2 rfl rfl (by decide +kernel) rfl rfl (Nat.le_of_ble_eq_true rfl) rfl d_X2_init_31 ?_
  refine zn_aload C d_X2_init_34 ?_
  refine zn_sipush C (729) d_X2_init_35 (by decide) ?_
  refine zn_newL (N := 729) C wa_long (by decide) (by decide) (by decide) (by decide) (by decide) d_X2_init_38 (fun q38 => ?_)
  refine zn_putF C (ty := .array .long) [.ref (q7), .int 0, .ref (q20), .ref (q29), .ref (q38), .null] fi_X2_26 tyX2_ok nmX2 rfl rfl (by decide +kernel) rfl rfl (Nat.le_of_ble_eq_true rfl) rfl d_X2_init_40 ?_
  refine zn_aload C d_X2_init_43 ?_
  refine zn_sipush C (729) d_X2_init_44 (by decide) ?_
  refine zn_newL (N := 729) C wa_long (by decide) (by decide) (by decide) (by decide) (by decide) d_X2_init_47 (fun q47 => ?_)
  refine zn_putF C (ty := .array .long) [.ref (q7), .int 0, .ref (q20), .ref (q29), .ref (q38), .ref (q47)] fi_X2_29 tyX2_ok nmX2 rfl rfl (by decide +kernel) rfl rfl (Nat.le_of_ble_eq_true rfl) rfl d_X2_init_49 ?_
  exact hret _ _ _ (fun i => ([h0, q7, q20, q29, q38, q47] : List Nat).getD i 0) rfl rfl d_X2_init_52
set_option maxRecDepth 100000 in
set_option maxHeartbeats 4000000 in
theorem c_X8_init (l : Launch) (g : zG) : zMn l g yX8_init cX8_init 3 56 68 2674 8 [.null, .null, .null, .int 0, .null, .null, .null] (mk_X8 g) := by
  refine zMnOf (by decide) rfl (fun h0 ws0 A p e s m below meth c Q hr C hret => ?_)
  refine zn_aload C d_X8_init_0 ?_
  refine zn_obj C wb_X8 wo_inst wo_code d_X8_init_1 (by decide) (Nat.le_of_ble_eq_true rfl) ?_
  refine zn_aload C d_X8_init_4 ?_
  refine zn_new (cj := 0) (ty0 := tyX0) C [.null, .null, .null, .null] rfl wi_X0 tyX0_ok wl_X8_7 wn_X0 wt_X0 (by decide +kernel) (by decide) (by decide) d_X8_init_5 (fun q5 => ?_)
  refine zn_dup C d_X8_init_8 ?_
  refine zn_call C wq_X8_9 (c_X0_init l g) (by decide) (by decide) (by decide) (by decide) (Nat.le_of_ble_eq_true rfl) d_X8_init_9 (fun u9 hu9 => ?_)
  subst hu9
  refine zn_putF C (ty := .object "StraitFleet$Books") [.ref (u9 0), .null, .null, .int 0, .null, .null, .null] fi_X8_10 tyX8_ok nmX8 rfl rfl (by decide +kernel) rfl rfl (Nat.le_of_ble_eq_true rfl) rfl d_X8_init_12 ?_
  refine zn_aload C d_X8_init_15 ?_
  refine zn_new (cj := 0) (ty0 := tyX0) C [.null, .null, .null, .null] rfl wi_X0 tyX0_ok wl_X8_7 wn_X0 wt_X0 (by decide +kernel) (by decide) (by decide) d_X8_init_16 (fun q16 => ?_)
  refine zn_dup C d_X8_init_19 ?_
  refine zn_call C wq_X8_9 (c_X0_init l g) (by decide) (by decide) (by decide) (by decide) (Nat.le_of_ble_eq_true rfl) d_X8_init_20 (fun u20 hu20 => ?_)
  subst hu20
  refine zn_putF C (ty := .object "StraitFleet$Books") [.ref (u9 0), .ref (u20 0), .null, .int 0, .null, .null, .null] fi_X8_16 tyX8_ok nmX8 rfl rfl (by decide +kernel) rfl rfl (Nat.le_of_ble_eq_true rfl) rfl d_X8_init_23 ?_
  refine zn_aload C d_X8_init_26 ?_
  refine zn_new (cj := 0) (ty0 := tyX0) C [.null, .null, .null, .null] rfl wi_X0 tyX0_ok wl_X8_7 wn_X0 wt_X0 (by decide +kernel) (by decide) (by decide) d_X8_init_27 (fun q27 => ?_)
  refine zn_dup C d_X8_init_30 ?_
  refine zn_call C wq_X8_9 (c_X0_init l g) (by decide) (by decide) (by decide) (by decide) (Nat.le_of_ble_eq_true rfl) d_X8_init_31 (fun u31 hu31 => ?_)
  subst hu31
  refine zn_putF C (ty := .object "StraitFleet$Books") [.ref (u9 0), .ref (u20 0), .ref (u31 0), .int 0, .null, .null, .null] fi_X8_19 tyX8_ok nmX8 rfl rfl (by decide +kernel) rfl rfl (Nat.le_of_ble_eq_true rfl) rfl d_X8_init_34 ?_
  refine zn_aload C d_X8_init_37 ?_
  refine zn_iconst C (0) d_X8_init_38 (by decide) ?_
  refine zn_puti C [.ref (u9 0), .ref (u20 0), .ref (u31 0), .int 0, .null, .null, .null] fi_X8_22 pi_X8_3 (Nat.le_of_ble_eq_true rfl) rfl d_X8_init_39 ?_
  refine zn_aload C d_X8_init_42 ?_
  refine zn_new (cj := 4) (ty0 := tyX4) C [.null, .int 0] rfl wi_X4 tyX4_ok wl_X8_26 wn_X4 wt_X4 (by decide +kernel) (by decide) (by decide) d_X8_init_43 (fun q43 => ?_)
  refine zn_dup C d_X8_init_46 ?_
  refine zn_call C wq_X8_28 (c_X4_init l g) (by decide) (by decide) (by decide) (by decide) (Nat.le_of_ble_eq_true rfl) d_X8_init_47 (fun u47 hu47 => ?_)
  subst hu47
  refine zn_putF C (ty := .object "StraitFleet$Pad") [.ref (u9 0), .ref (u20 0), .ref (u31 0), .int 0, .ref (u47 0), .null, .null] fi_X8_29 tyX8_ok nmX8 rfl rfl (by decide +kernel) rfl rfl (Nat.le_of_ble_eq_true rfl) rfl d_X8_init_50 ?_
  refine zn_aload C d_X8_init_53 ?_
  refine zn_new (cj := 7) (ty0 := tyX7) C [.null, .int 0, .int 0] rfl wi_X7 tyX7_ok wl_X8_33 wn_X7 wt_X7 (by decide +kernel) (by decide) (by decide) d_X8_init_54 (fun q54 => ?_)
  refine zn_dup C d_X8_init_57 ?_
  refine zn_call C wq_X8_35 (c_X7_init l g) (by decide) (by decide) (by decide) (by decide) (Nat.le_of_ble_eq_true rfl) d_X8_init_58 (fun u58 hu58 => ?_)
  subst hu58
  refine zn_putF C (ty := .object "StraitFleet$Season") [.ref (u9 0), .ref (u20 0), .ref (u31 0), .int 0, .ref (u47 0), .ref (u58 0), .null] fi_X8_36 tyX8_ok nmX8 rfl rfl (by decide +kernel) rfl rfl (Nat.le_of_ble_eq_true rfl) rfl d_X8_init_61 ?_
  refine zn_aload C d_X8_init_64 ?_
  refine zn_new (cj := 2) (ty0 := tyX2) C [.null, .int 0, .null, .null, .null, .null] rfl wi_X2 tyX2_ok wl_X8_40 wn_X2 wt_X2 (by decide +kernel) (by decide) (by decide) d_X8_init_65 (fun q65 => ?_)
  refine zn_dup C d_X8_init_68 ?_
  refine zn_call C wq_X8_42 (c_X2_init l g) (by decide) (by decide) (by decide) (by decide) (Nat.le_of_ble_eq_true rfl) d_X8_init_69 (fun u69 hu69 => ?_)
  subst hu69
  refine zn_putF C (ty := .object "StraitFleet$Fleet") [.ref (u9 0), .ref (u20 0), .ref (u31 0), .int 0, .ref (u47 0), .ref (u58 0), .ref (u69 0)] fi_X8_43 tyX8_ok nmX8 rfl rfl (by decide +kernel) rfl rfl (Nat.le_of_ble_eq_true rfl) rfl d_X8_init_72 ?_
  exact hret _ _ _ (fun i => ([h0, u9 0, u9 1, u9 2, u9 3, u9 4, u9 5, u9 6, u9 7, u9 8, u9 9, u9 10, u9 11, u9 12, u9 13, u9 14, u9 15, u9 16, u20 0, u20 1, u20 2, u20 3, u20 4, u20 5, u20 6, u20 7, u20 8, u20 9, u20 10, u20 11, u20 12, u20 13, u20 14, u20 15, u20 16, u31 0, u31 1, u31 2, u31 3, u31 4, u31 5, u31 6, u31 7, u31 8, u31 9, u31 10, u31 11, u31 12, u31 13, u31 14, u31 15, u31 16, u47 0, u47 1, u58 0, u58 1, u58 2, u58 3, u58 4, u58 5, u58 6, u58 7, u58 8, u69 0, u69 1, u69 2, u69 3, u69 4, u69 5] : List Nat).getD i 0) rfl rfl d_X8_init_75
set_option maxRecDepth 100000 in
set_option maxHeartbeats 4000000 in
theorem c_X9_init (l : Launch) (g : zG) : zMn l g yX9_init cX9_init 1 16 17 2593 9 [.int 0, .null, .null, .null, .null, .int 0, .int 0, .int 0, .int 0, .int 0, .int 0, .int 0, .int 0, .null, .int 0, .int 0, .int 0, .int 0, .int 0, .null, .null, .int 0, .null, .null, .null, .int 0, .null, .int 0, .null, .int 0, .int 0, .int 0, .null, .null, .int 0, .null, .null, .null, .int 0, .int 0] (mk_X9 g) := by
  refine zMnOf (by decide) rfl (fun h0 ws0 A p e s m below meth c Q hr C hret => ?_)
  refine zn_aload C d_X9_init_0 ?_
  refine zn_obj C wb_X9 wo_inst wo_code d_X9_init_1 (by decide) (Nat.le_of_ble_eq_true rfl) ?_
  refine zn_aload C d_X9_init_4 ?_
  refine zn_bipush C (6) d_X9_init_5 (by decide) ?_
  refine zn_newI (N := 6) C wa_int (by decide) (by decide) (by decide) (by decide) (by decide) d_X9_init_7 (fun q7 => ?_)
  refine zn_putF C (ty := .array .int) [.int 0, .ref (q7), .null, .null, .null, .int 0, .int 0, .int 0, .int 0, .int 0, .int 0, .int 0, .int 0, .null, .int 0, .int 0, .int 0, .int 0, .int 0, .null, .null, .int 0, .null, .null, .null, .int 0, .null, .int 0, .null, .int 0, .int 0, .int 0, .null, .null, .int 0, .null, .null, .null, .int 0, .int 0] fi_X9_7 tyX9_ok nmX9 rfl rfl (by decide +kernel) rfl rfl (Nat.le_of_ble_eq_true rfl) rfl d_X9_init_9 ?_
  refine zn_aload C d_X9_init_12 ?_
  refine zn_bipush C (6) d_X9_init_13 (by decide) ?_
  refine zn_newI (N := 6) C wa_int (by decide) (by decide) (by decide) (by decide) (by decide) d_X9_init_15 (fun q15 => ?_)
  refine zn_putF C (ty := .array .int) [.int 0, .ref (q7), .ref (q15), .null, .null, .int 0, .int 0, .int 0, .int 0, .int 0, .int 0, .int 0, .int 0, .null, .int 0, .int 0, .int 0, .int 0, .int 0, .null, .null, .int 0, .null, .null, .null, .int 0, .null, .int 0, .null, .int 0, .int 0, .int 0, .null, .null, .int 0, .null, .null, .null, .int 0, .int 0] fi_X9_13 tyX9_ok nmX9 rfl rfl (by decide +kernel) rfl rfl (Nat.le_of_ble_eq_true rfl) rfl d_X9_init_17 ?_
  refine zn_aload C d_X9_init_20 ?_
  refine zn_bipush C (6) d_X9_init_21 (by decide) ?_
  refine zn_newI (N := 6) C wa_int (by decide) (by decide) (by decide) (by decide) (by decide) d_X9_init_23 (fun q23 => ?_)
  refine zn_putF C (ty := .array .int) [.int 0, .ref (q7), .ref (q15), .ref (q23), .null, .int 0, .int 0, .int 0, .int 0, .int 0, .int 0, .int 0, .int 0, .null, .int 0, .int 0, .int 0, .int 0, .int 0, .null, .null, .int 0, .null, .null, .null, .int 0, .null, .int 0, .null, .int 0, .int 0, .int 0, .null, .null, .int 0, .null, .null, .null, .int 0, .int 0] fi_X9_16 tyX9_ok nmX9 rfl rfl (by decide +kernel) rfl rfl (Nat.le_of_ble_eq_true rfl) rfl d_X9_init_25 ?_
  refine zn_aload C d_X9_init_28 ?_
  refine zn_bipush C (6) d_X9_init_29 (by decide) ?_
  refine zn_newI (N := 6) C wa_int (by decide) (by decide) (by decide) (by decide) (by decide) d_X9_init_31 (fun q31 => ?_)
  refine zn_putF C (ty := .array .int) [.int 0, .ref (q7), .ref (q15), .ref (q23), .ref (q31), .int 0, .int 0, .int 0, .int 0, .int 0, .int 0, .int 0, .int 0, .null, .int 0, .int 0, .int 0, .int 0, .int 0, .null, .null, .int 0, .null, .null, .null, .int 0, .null, .int 0, .null, .int 0, .int 0, .int 0, .null, .null, .int 0, .null, .null, .null, .int 0, .int 0] fi_X9_19 tyX9_ok nmX9 rfl rfl (by decide +kernel) rfl rfl (Nat.le_of_ble_eq_true rfl) rfl d_X9_init_33 ?_
  refine zn_aload C d_X9_init_36 ?_
  refine zn_bipush C (24) d_X9_init_37 (by decide) ?_
  refine zn_newI (N := 24) C wa_int (by decide) (by decide) (by decide) (by decide) (by decide) d_X9_init_39 (fun q39 => ?_)
  refine zn_putF C (ty := .array .int) [.int 0, .ref (q7), .ref (q15), .ref (q23), .ref (q31), .int 0, .int 0, .int 0, .int 0, .int 0, .int 0, .int 0, .int 0, .ref (q39), .int 0, .int 0, .int 0, .int 0, .int 0, .null, .null, .int 0, .null, .null, .null, .int 0, .null, .int 0, .null, .int 0, .int 0, .int 0, .null, .null, .int 0, .null, .null, .null, .int 0, .int 0] fi_X9_22 tyX9_ok nmX9 rfl rfl (by decide +kernel) rfl rfl (Nat.le_of_ble_eq_true rfl) rfl d_X9_init_41 ?_
  refine zn_aload C d_X9_init_44 ?_
  refine zn_iconst C (4) d_X9_init_45 (by decide) ?_
  refine zn_newI (N := 4) C wa_int (by decide) (by decide) (by decide) (by decide) (by decide) d_X9_init_46 (fun q46 => ?_)
  refine zn_putF C (ty := .array .int) [.int 0, .ref (q7), .ref (q15), .ref (q23), .ref (q31), .int 0, .int 0, .int 0, .int 0, .int 0, .int 0, .int 0, .int 0, .ref (q39), .int 0, .int 0, .int 0, .int 0, .int 0, .ref (q46), .null, .int 0, .null, .null, .null, .int 0, .null, .int 0, .null, .int 0, .int 0, .int 0, .null, .null, .int 0, .null, .null, .null, .int 0, .int 0] fi_X9_25 tyX9_ok nmX9 rfl rfl (by decide +kernel) rfl rfl (Nat.le_of_ble_eq_true rfl) rfl d_X9_init_48 ?_
  refine zn_aload C d_X9_init_51 ?_
  refine zn_iconst C (4) d_X9_init_52 (by decide) ?_
  refine zn_newI (N := 4) C wa_int (by decide) (by decide) (by decide) (by decide) (by decide) d_X9_init_53 (fun q53 => ?_)
  refine zn_putF C (ty := .array .int) [.int 0, .ref (q7), .ref (q15), .ref (q23), .ref (q31), .int 0, .int 0, .int 0, .int 0, .int 0, .int 0, .int 0, .int 0, .ref (q39), .int 0, .int 0, .int 0, .int 0, .int 0, .ref (q46), .ref (q53), .int 0, .null, .null, .null, .int 0, .null, .int 0, .null, .int 0, .int 0, .int 0, .null, .null, .int 0, .null, .null, .null, .int 0, .int 0] fi_X9_28 tyX9_ok nmX9 rfl rfl (by decide +kernel) rfl rfl (Nat.le_of_ble_eq_true rfl) rfl d_X9_init_55 ?_
  refine zn_aload C d_X9_init_58 ?_
  refine zn_bipush C (8) d_X9_init_59 (by decide) ?_
  refine zn_newI (N := 8) C wa_int (by decide) (by decide) (by decide) (by decide) (by decide) d_X9_init_61 (fun q61 => ?_)
  refine zn_putF C (ty := .array .int) [.int 0, .ref (q7), .ref (q15), .ref (q23), .ref (q31), .int 0, .int 0, .int 0, .int 0, .int 0, .int 0, .int 0, .int 0, .ref (q39), .int 0, .int 0, .int 0, .int 0, .int 0, .ref (q46), .ref (q53), .int 0, .ref (q61), .null, .null, .int 0, .null, .int 0, .null, .int 0, .int 0, .int 0, .null, .null, .int 0, .null, .null, .null, .int 0, .int 0] fi_X9_31 tyX9_ok nmX9 rfl rfl (by decide +kernel) rfl rfl (Nat.le_of_ble_eq_true rfl) rfl d_X9_init_63 ?_
  refine zn_aload C d_X9_init_66 ?_
  refine zn_bipush C (6) d_X9_init_67 (by decide) ?_
  refine zn_newI (N := 6) C wa_int (by decide) (by decide) (by decide) (by decide) (by decide) d_X9_init_69 (fun q69 => ?_)
  refine zn_putF C (ty := .array .int) [.int 0, .ref (q7), .ref (q15), .ref (q23), .ref (q31), .int 0, .int 0, .int 0, .int 0, .int 0, .int 0, .int 0, .int 0, .ref (q39), .int 0, .int 0, .int 0, .int 0, .int 0, .ref (q46), .ref (q53), .int 0, .ref (q61), .ref (q69), .null, .int 0, .null, .int 0, .null, .int 0, .int 0, .int 0, .null, .null, .int 0, .null, .null, .null, .int 0, .int 0] fi_X9_34 tyX9_ok nmX9 rfl rfl (by decide +kernel) rfl rfl (Nat.le_of_ble_eq_true rfl) rfl d_X9_init_71 ?_
  refine zn_aload C d_X9_init_74 ?_
  refine zn_bipush C (6) d_X9_init_75 (by decide) ?_
  refine zn_newI (N := 6) C wa_int (by decide) (by decide) (by decide) (by decide) (by decide) d_X9_init_77 (fun q77 => ?_)
  refine zn_putF C (ty := .array .int) [.int 0, .ref (q7), .ref (q15), .ref (q23), .ref (q31), .int 0, .int 0, .int 0, .int 0, .int 0, .int 0, .int 0, .int 0, .ref (q39), .int 0, .int 0, .int 0, .int 0, .int 0, .ref (q46), .ref (q53), .int 0, .ref (q61), .ref (q69), .ref (q77), .int 0, .null, .int 0, .null, .int 0, .int 0, .int 0, .null, .null, .int 0, .null, .null, .null, .int 0, .int 0] fi_X9_37 tyX9_ok nmX9 rfl rfl (by decide +kernel) rfl rfl (Nat.le_of_ble_eq_true rfl) rfl d_X9_init_79 ?_
  refine zn_aload C d_X9_init_82 ?_
  refine zn_bipush C (60) d_X9_init_83 (by decide) ?_
  refine zn_newI (N := 60) C wa_int (by decide) (by decide) (by decide) (by decide) (by decide) d_X9_init_85 (fun q85 => ?_)
  refine zn_putF C (ty := .array .int) [.int 0, .ref (q7), .ref (q15), .ref (q23), .ref (q31), .int 0, .int 0, .int 0, .int 0, .int 0, .int 0, .int 0, .int 0, .ref (q39), .int 0, .int 0, .int 0, .int 0, .int 0, .ref (q46), .ref (q53), .int 0, .ref (q61), .ref (q69), .ref (q77), .int 0, .ref (q85), .int 0, .null, .int 0, .int 0, .int 0, .null, .null, .int 0, .null, .null, .null, .int 0, .int 0] fi_X9_40 tyX9_ok nmX9 rfl rfl (by decide +kernel) rfl rfl (Nat.le_of_ble_eq_true rfl) rfl d_X9_init_87 ?_
  refine zn_aload C d_X9_init_90 ?_
  refine zn_bipush C (28) d_X9_init_91 (by decide) ?_
  refine zn_newI (N := 28) C wa_int (by decide) (by decide) (by decide) (by decide) (by decide) d_X9_init_93 (fun q93 => ?_)
  refine zn_putF C (ty := .array .int) [.int 0, .ref (q7), .ref (q15), .ref (q23), .ref (q31), .int 0, .int 0, .int 0, .int 0, .int 0, .int 0, .int 0, .int 0, .ref (q39), .int 0, .int 0, .int 0, .int 0, .int 0, .ref (q46), .ref (q53), .int 0, .ref (q61), .ref (q69), .ref (q77), .int 0, .ref (q85), .int 0, .ref (q93), .int 0, .int 0, .int 0, .null, .null, .int 0, .null, .null, .null, .int 0, .int 0] fi_X9_43 tyX9_ok nmX9 rfl rfl (by decide +kernel) rfl rfl (Nat.le_of_ble_eq_true rfl) rfl d_X9_init_95 ?_
  refine zn_aload C d_X9_init_98 ?_
  refine zn_sipush C (729) d_X9_init_99 (by decide) ?_
  refine zn_newI (N := 729) C wa_int (by decide) (by decide) (by decide) (by decide) (by decide) d_X9_init_102 (fun q102 => ?_)
  refine zn_putF C (ty := .array .int) [.int 0, .ref (q7), .ref (q15), .ref (q23), .ref (q31), .int 0, .int 0, .int 0, .int 0, .int 0, .int 0, .int 0, .int 0, .ref (q39), .int 0, .int 0, .int 0, .int 0, .int 0, .ref (q46), .ref (q53), .int 0, .ref (q61), .ref (q69), .ref (q77), .int 0, .ref (q85), .int 0, .ref (q93), .int 0, .int 0, .int 0, .ref (q102), .null, .int 0, .null, .null, .null, .int 0, .int 0] fi_X9_46 tyX9_ok nmX9 rfl rfl (by decide +kernel) rfl rfl (Nat.le_of_ble_eq_true rfl) rfl d_X9_init_104 ?_
  refine zn_aload C d_X9_init_107 ?_
  refine zn_sipush C (729) d_X9_init_108 (by decide) ?_
  refine zn_newI (N := 729) C wa_int (by decide) (by decide) (by decide) (by decide) (by decide) d_X9_init_111 (fun q111 => ?_)
  refine zn_putF C (ty := .array .int) [.int 0, .ref (q7), .ref (q15), .ref (q23), .ref (q31), .int 0, .int 0, .int 0, .int 0, .int 0, .int 0, .int 0, .int 0, .ref (q39), .int 0, .int 0, .int 0, .int 0, .int 0, .ref (q46), .ref (q53), .int 0, .ref (q61), .ref (q69), .ref (q77), .int 0, .ref (q85), .int 0, .ref (q93), .int 0, .int 0, .int 0, .ref (q102), .ref (q111), .int 0, .null, .null, .null, .int 0, .int 0] fi_X9_49 tyX9_ok nmX9 rfl rfl (by decide +kernel) rfl rfl (Nat.le_of_ble_eq_true rfl) rfl d_X9_init_113 ?_
  refine zn_aload C d_X9_init_116 ?_
  refine zn_sipush C (729) d_X9_init_117 (by decide) ?_
  refine zn_newI (N := 729) C wa_int (by decide) (by decide) (by decide) (by decide) (by decide) d_X9_init_120 (fun q120 => ?_)
  refine zn_putF C (ty := .array .int) [.int 0, .ref (q7), .ref (q15), .ref (q23), .ref (q31), .int 0, .int 0, .int 0, .int 0, .int 0, .int 0, .int 0, .int 0, .ref (q39), .int 0, .int 0, .int 0, .int 0, .int 0, .ref (q46), .ref (q53), .int 0, .ref (q61), .ref (q69), .ref (q77), .int 0, .ref (q85), .int 0, .ref (q93), .int 0, .int 0, .int 0, .ref (q102), .ref (q111), .int 0, .ref (q120), .null, .null, .int 0, .int 0] fi_X9_52 tyX9_ok nmX9 rfl rfl (by decide +kernel) rfl rfl (Nat.le_of_ble_eq_true rfl) rfl d_X9_init_122 ?_
  refine zn_aload C d_X9_init_125 ?_
  refine zn_sipush C (240) d_X9_init_126 (by decide) ?_
  refine zn_newI (N := 240) C wa_int (by decide) (by decide) (by decide) (by decide) (by decide) d_X9_init_129 (fun q129 => ?_)
  refine zn_putF C (ty := .array .int) [.int 0, .ref (q7), .ref (q15), .ref (q23), .ref (q31), .int 0, .int 0, .int 0, .int 0, .int 0, .int 0, .int 0, .int 0, .ref (q39), .int 0, .int 0, .int 0, .int 0, .int 0, .ref (q46), .ref (q53), .int 0, .ref (q61), .ref (q69), .ref (q77), .int 0, .ref (q85), .int 0, .ref (q93), .int 0, .int 0, .int 0, .ref (q102), .ref (q111), .int 0, .ref (q120), .ref (q129), .null, .int 0, .int 0] fi_X9_55 tyX9_ok nmX9 rfl rfl (by decide +kernel) rfl rfl (Nat.le_of_ble_eq_true rfl) rfl d_X9_init_131 ?_
  refine zn_aload C d_X9_init_134 ?_
  refine zn_iconst C (2) d_X9_init_135 (by decide) ?_
  refine zn_newZ (N := 2) C wa_boolean (by decide) (by decide) (by decide) (by decide) (by decide) d_X9_init_136 (fun q136 => ?_)
  refine zn_putF C (ty := .array .boolean) [.int 0, .ref (q7), .ref (q15), .ref (q23), .ref (q31), .int 0, .int 0, .int 0, .int 0, .int 0, .int 0, .int 0, .int 0, .ref (q39), .int 0, .int 0, .int 0, .int 0, .int 0, .ref (q46), .ref (q53), .int 0, .ref (q61), .ref (q69), .ref (q77), .int 0, .ref (q85), .int 0, .ref (q93), .int 0, .int 0, .int 0, .ref (q102), .ref (q111), .int 0, .ref (q120), .ref (q129), .ref (q136), .int 0, .int 0] fi_X9_58 tyX9_ok nmX9 rfl rfl (by decide +kernel) rfl rfl (Nat.le_of_ble_eq_true rfl) rfl d_X9_init_138 ?_
  refine zn_aload C d_X9_init_141 ?_
  refine zn_bipush C (6) d_X9_init_142 (by decide) ?_
  refine zn_puti C [.int 0, .ref (q7), .ref (q15), .ref (q23), .ref (q31), .int 6, .int 0, .int 0, .int 0, .int 0, .int 0, .int 0, .int 0, .ref (q39), .int 0, .int 0, .int 0, .int 0, .int 0, .ref (q46), .ref (q53), .int 0, .ref (q61), .ref (q69), .ref (q77), .int 0, .ref (q85), .int 0, .ref (q93), .int 0, .int 0, .int 0, .ref (q102), .ref (q111), .int 0, .ref (q120), .ref (q129), .ref (q136), .int 0, .int 0] fi_X9_62 pi_X9_5 (Nat.le_of_ble_eq_true rfl) rfl d_X9_init_144 ?_
  refine zn_aload C d_X9_init_147 ?_
  refine zn_bipush C (10) d_X9_init_148 (by decide) ?_
  refine zn_puti C [.int 0, .ref (q7), .ref (q15), .ref (q23), .ref (q31), .int 6, .int 10, .int 0, .int 0, .int 0, .int 0, .int 0, .int 0, .ref (q39), .int 0, .int 0, .int 0, .int 0, .int 0, .ref (q46), .ref (q53), .int 0, .ref (q61), .ref (q69), .ref (q77), .int 0, .ref (q85), .int 0, .ref (q93), .int 0, .int 0, .int 0, .ref (q102), .ref (q111), .int 0, .ref (q120), .ref (q129), .ref (q136), .int 0, .int 0] fi_X9_66 pi_X9_6 (Nat.le_of_ble_eq_true rfl) rfl d_X9_init_150 ?_
  refine zn_aload C d_X9_init_153 ?_
  refine zn_iconst C (1) d_X9_init_154 (by decide) ?_
  refine zn_puti C [.int 0, .ref (q7), .ref (q15), .ref (q23), .ref (q31), .int 6, .int 10, .int 1, .int 0, .int 0, .int 0, .int 0, .int 0, .ref (q39), .int 0, .int 0, .int 0, .int 0, .int 0, .ref (q46), .ref (q53), .int 0, .ref (q61), .ref (q69), .ref (q77), .int 0, .ref (q85), .int 0, .ref (q93), .int 0, .int 0, .int 0, .ref (q102), .ref (q111), .int 0, .ref (q120), .ref (q129), .ref (q136), .int 0, .int 0] fi_X9_69 pi_X9_7 (Nat.le_of_ble_eq_true rfl) rfl d_X9_init_155 ?_
  refine zn_aload C d_X9_init_158 ?_
  refine zn_bipush C (20) d_X9_init_159 (by decide) ?_
  refine zn_puti C [.int 0, .ref (q7), .ref (q15), .ref (q23), .ref (q31), .int 6, .int 10, .int 1, .int 20, .int 0, .int 0, .int 0, .int 0, .ref (q39), .int 0, .int 0, .int 0, .int 0, .int 0, .ref (q46), .ref (q53), .int 0, .ref (q61), .ref (q69), .ref (q77), .int 0, .ref (q85), .int 0, .ref (q93), .int 0, .int 0, .int 0, .ref (q102), .ref (q111), .int 0, .ref (q120), .ref (q129), .ref (q136), .int 0, .int 0] fi_X9_72 pi_X9_8 (Nat.le_of_ble_eq_true rfl) rfl d_X9_init_161 ?_
  refine zn_aload C d_X9_init_164 ?_
  refine zn_iconst C (1) d_X9_init_165 (by decide) ?_
  refine zn_puti C [.int 0, .ref (q7), .ref (q15), .ref (q23), .ref (q31), .int 6, .int 10, .int 1, .int 20, .int 1, .int 0, .int 0, .int 0, .ref (q39), .int 0, .int 0, .int 0, .int 0, .int 0, .ref (q46), .ref (q53), .int 0, .ref (q61), .ref (q69), .ref (q77), .int 0, .ref (q85), .int 0, .ref (q93), .int 0, .int 0, .int 0, .ref (q102), .ref (q111), .int 0, .ref (q120), .ref (q129), .ref (q136), .int 0, .int 0] fi_X9_75 pi_X9_9 (Nat.le_of_ble_eq_true rfl) rfl d_X9_init_166 ?_
  refine zn_aload C d_X9_init_169 ?_
  refine zn_bipush C (50) d_X9_init_170 (by decide) ?_
  refine zn_puti C [.int 0, .ref (q7), .ref (q15), .ref (q23), .ref (q31), .int 6, .int 10, .int 1, .int 20, .int 1, .int 50, .int 0, .int 0, .ref (q39), .int 0, .int 0, .int 0, .int 0, .int 0, .ref (q46), .ref (q53), .int 0, .ref (q61), .ref (q69), .ref (q77), .int 0, .ref (q85), .int 0, .ref (q93), .int 0, .int 0, .int 0, .ref (q102), .ref (q111), .int 0, .ref (q120), .ref (q129), .ref (q136), .int 0, .int 0] fi_X9_78 pi_X9_10 (Nat.le_of_ble_eq_true rfl) rfl d_X9_init_172 ?_
  refine zn_aload C d_X9_init_175 ?_
  refine zn_iconst C (1) d_X9_init_176 (by decide) ?_
  refine zn_puti C [.int 0, .ref (q7), .ref (q15), .ref (q23), .ref (q31), .int 6, .int 10, .int 1, .int 20, .int 1, .int 50, .int 0, .int 1, .ref (q39), .int 0, .int 0, .int 0, .int 0, .int 0, .ref (q46), .ref (q53), .int 0, .ref (q61), .ref (q69), .ref (q77), .int 0, .ref (q85), .int 0, .ref (q93), .int 0, .int 0, .int 0, .ref (q102), .ref (q111), .int 0, .ref (q120), .ref (q129), .ref (q136), .int 0, .int 0] fi_X9_81 pi_X9_12 (Nat.le_of_ble_eq_true rfl) rfl d_X9_init_177 ?_
  refine zn_aload C d_X9_init_180 ?_
  refine zn_iconst C (1) d_X9_init_181 (by decide) ?_
  refine zn_puti C [.int 0, .ref (q7), .ref (q15), .ref (q23), .ref (q31), .int 6, .int 10, .int 1, .int 20, .int 1, .int 50, .int 0, .int 1, .ref (q39), .int 1, .int 0, .int 0, .int 0, .int 0, .ref (q46), .ref (q53), .int 0, .ref (q61), .ref (q69), .ref (q77), .int 0, .ref (q85), .int 0, .ref (q93), .int 0, .int 0, .int 0, .ref (q102), .ref (q111), .int 0, .ref (q120), .ref (q129), .ref (q136), .int 0, .int 0] fi_X9_84 pi_X9_14 (Nat.le_of_ble_eq_true rfl) rfl d_X9_init_182 ?_
  exact hret _ _ _ (fun i => ([h0, q7, q15, q23, q31, q39, q46, q53, q61, q69, q77, q85, q93, q102, q111, q120, q129, q136] : List Nat).getD i 0) rfl rfl d_X9_init_185
