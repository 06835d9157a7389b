def wp_X9_years_L59 (v1 : Int32) (v3 : Int32) (v4 : Int32) (σ : zST) (K119 : Int32 → Prop) : Nat → Int32 → Int32 → Int32 → Prop
  | 0, _, _, _ => False
  | N + 1, v5, v6, v7 => (if v3 ≤ v7 then K119 v6 else ∀ x14 : Int32, x14 = ((((75 : Int64) * (v5.toInt64)) + (74 : Int64)) - (((75 : Int64) * (v5.toInt64)) + (74 : Int64)) / (65537 : Int64) * (65537 : Int64)).toInt32 → wp_X9_tenths (x14 - x14 / (24 : Int32) * (24 : Int32)) σ (fun r15 => ∀ z18 : Int32, z18 = (if r15 ≤ ((x14 / (24 : Int32)) - (x14 / (24 : Int32)) / (10 : Int32) * (10 : Int32)) then (0 : Int32) else (1 : Int32)) → ∀ x21 : Int32, x21 = (v6 + z18) → wp_X9_years_L59 v1 v3 v4 σ K119 N x14 x21 (v7 + 1)))

set_option maxRecDepth 100000 in
set_option maxHeartbeats 4000000 in
theorem g_X9_years_L59 {p : Program} {l : Launch} {e : Env} {R : Room} {s : State} {m : MethodId} {args : Array Value} {below : List Frame} {meth : Method} {c : Code} {Q : State → Prop} {g : zG} {n1 n2 : Nat} (C : zCX p R s m args meth c g n1 n2 cX9_years 8 RX9 3 66) {v1 : Int32} {v3 : Int32} {v4 : Int32} {σ : zST} {K119 : Int32 → Prop} (hK119 : ∀ (w6 : Int32), K119 w6 → zGG p l e R s m args below meth c Q g n1 n2 8 119 [(0, .ref (g.2.1 69)), (1, .int v1), (3, .int v3), (4, .int v4), (6, .int w6)] [] σ) : ∀ (N : Nat) (v5 : Int32) (v6 : Int32) (v7 : Int32) , wp_X9_years_L59 v1 v3 v4 σ K119 N v5 v6 v7 → zGG p l e R s m args below meth c Q g n1 n2 8 59 [(0, .ref (g.2.1 69)), (1, .int v1), (3, .int v3), (4, .int v4), (5, .int v5), (6, .int v6), (7, .int v7)] [] σ := by
  intro N
  induction N with
  | zero =>
    intro v5 v6 v7 h
    exact h.elim
  | succ N ih =>
    intro v5 v6 v7 h
    rw [wp_X9_years_L59] at h
    refine zr_iload C (zo_21 (p := 59) (k := 7) (a := 7) (zby_w zwX9_years_1 27 rfl) (zby_w zwX9_years_1 28 rfl) (by decide)) rfl ?_
    refine zr_iload_n C (zo_29 (p := 61) (zby_w zwX9_years_1 29 rfl)) rfl ?_
    refine zr_icmp_ge C 119 (zo_162 (p := 62) (k := 57) (a := 0) (b := 57) (zby_w zwX9_years_1 30 rfl) (zby_w zwX9_years_1 31 rfl) (zby_w zwX9_years_1 32 rfl) (by decide)) (by decide) (fun hc13 => ?_) (fun hc13 => ?_)
    · rw [if_pos hc13] at h
      exact zr_pick [0, 1, 2, 3, 5] rfl (hK119 v6 h)
    · rw [if_neg hc13] at h
      refine zr_ldc2 C (v := (75 : Int64)) cl_X9_157 (zo_20 (p := 65) (k := 157) (a := 0) (b := 157) (zby_w zwX9_years_2 1 rfl) (zby_w zwX9_years_2 2 rfl) (zby_w zwX9_years_2 3 rfl) (by decide)) ?_
      refine zr_iload C (zo_21 (p := 68) (k := 5) (a := 5) (zby_w zwX9_years_2 4 rfl) (zby_w zwX9_years_2 5 rfl) (by decide)) rfl ?_
      refine zr_i2l C (zo_133 (p := 70) (zby_w zwX9_years_2 6 rfl)) ?_
      refine zr_lmul C (zo_105 (p := 71) (zby_w zwX9_years_2 7 rfl)) ?_
      refine zr_ldc2 C (v := (74 : Int64)) cl_X9_159 (zo_20 (p := 72) (k := 159) (a := 0) (b := 159) (zby_w zwX9_years_2 8 rfl) (zby_w zwX9_years_2 9 rfl) (zby_w zwX9_years_2 10 rfl) (by decide)) ?_
      refine zr_ladd C (zo_97 (p := 75) (zby_w zwX9_years_2 11 rfl)) ?_
      refine zr_ldc2 C (v := (65537 : Int64)) cl_X9_161 (zo_20 (p := 76) (k := 161) (a := 0) (b := 161) (zby_w zwX9_years_2 12 rfl) (zby_w zwX9_years_2 13 rfl) (zby_w zwX9_years_2 14 rfl) (by decide)) ?_
      refine zr_lrem C (zo_113 (p := 79) (zby_w zwX9_years_2 15 rfl)) (by decide) ?_
      refine zr_l2i C (zo_136 (p := 80) (zby_w zwX9_years_2 16 rfl)) ?_
      refine zr_topi (fun x14 hx14 => ?_)
      replace h := h x14 hx14
      refine zr_istore C [(5, .int x14), (0, .ref (g.2.1 69)), (1, .int v1), (3, .int v3), (4, .int v4), (6, .int v6), (7, .int v7)] (zo_54 (p := 81) (k := 5) (a := 5) (zby_w zwX9_years_2 17 rfl) (zby_w zwX9_years_2 18 rfl) (by decide)) (by decide) rfl ?_
      refine zr_iload C (zo_21 (p := 83) (k := 6) (a := 6) (zby_w zwX9_years_2 19 rfl) (zby_w zwX9_years_2 20 rfl) (by decide)) rfl ?_
      refine zr_iload C (zo_21 (p := 85) (k := 5) (a := 5) (zby_w zwX9_years_2 21 rfl) (zby_w zwX9_years_2 22 rfl) (by decide)) rfl ?_
      refine zr_bipush C (24 : Int32) (zo_16 (p := 87) (k := 24) (a := 24) (zby_w zwX9_years_2 23 rfl) (zby_w zwX9_years_2 24 rfl) (by decide)) (by decide) ?_
      refine zr_idiv C (zo_108 (p := 89) (zby_w zwX9_years_2 25 rfl)) (by decide) ?_
      refine zr_bipush C (10 : Int32) (zo_16 (p := 90) (k := 10) (a := 10) (zby_w zwX9_years_2 26 rfl) (zby_w zwX9_years_2 27 rfl) (by decide)) (by decide) ?_
      refine zr_irem C (zo_112 (p := 92) (zby_w zwX9_years_2 28 rfl)) (by decide) ?_
      refine zr_aload_n C (zo_42 (p := 93) (zby_w zwX9_years_2 29 rfl)) rfl ?_
      refine zr_iload C (zo_21 (p := 94) (k := 5) (a := 5) (zby_w zwX9_years_2 30 rfl) (zby_w zwX9_years_2 31 rfl) (by decide)) rfl ?_
      refine zr_bipush C (24 : Int32) (zo_16 (p := 96) (k := 24) (a := 24) (zby_w zwX9_years_3 0 rfl) (zby_w zwX9_years_3 1 rfl) (by decide)) (by decide) ?_
      refine zr_irem C (zo_112 (p := 98) (zby_w zwX9_years_3 2 rfl)) (by decide) ?_
      refine zr_cip (zr_runV (As := [.int (x14 - x14 / (24 : Int32) * (24 : Int32))]) (rest := [.int ((x14 / (24 : Int32)) - (x14 / (24 : Int32)) / (10 : Int32) * (10 : Int32)), .int v6]) C vw_X9_163 (c_X9_tenths l g (x14 - x14 / (24 : Int32) * (24 : Int32)) σ _ h) (sh_69) rfl (by decide) (by decide) rfl rfl (Nat.le_of_ble_eq_true rfl) (zo_182 (p := 99) (k := 163) (a := 0) (b := 163) (zby_w zwX9_years_3 3 rfl) (zby_w zwX9_years_3 4 rfl) (zby_w zwX9_years_3 5 rfl) (by decide))) (fun r15 h => ?_)
      have hJ19 : ∀ z18 : Int32, z18 = (if r15 ≤ ((x14 / (24 : Int32)) - (x14 / (24 : Int32)) / (10 : Int32) * (10 : Int32)) then (0 : Int32) else (1 : Int32)) → zGG p l e R s m args below meth c Q g n1 n2 8 110 [(5, .int x14), (0, .ref (g.2.1 69)), (1, .int v1), (3, .int v3), (4, .int v4), (6, .int v6), (7, .int v7)] [.int z18, .int v6] σ := by
        intro z18 hz18
        replace h := h z18 hz18
        refine zr_iadd C (zo_96 (p := 110) (zby_w zwX9_years_3 14 rfl)) ?_
        refine zr_topi (fun x21 hx21 => ?_)
        replace h := h x21 hx21
        refine zr_istore C [(6, .int x21), (5, .int x14), (0, .ref (g.2.1 69)), (1, .int v1), (3, .int v3), (4, .int v4), (7, .int v7)] (zo_54 (p := 111) (k := 6) (a := 6) (zby_w zwX9_years_3 15 rfl) (zby_w zwX9_years_3 16 rfl) (by decide)) (by decide) rfl ?_
        refine zr_iinc C (v7 + 1) [(7, .int (v7 + 1)), (6, .int x21), (5, .int x14), (0, .ref (g.2.1 69)), (1, .int v1), (3, .int v3), (4, .int v4)] d_X9_years_113 rfl rfl (by decide) rfl ?_
        refine zr_goto C 59 (zo_167 (p := 116) (k := (-57)) (a := 255) (b := 199) (zby_w zwX9_years_3 20 rfl) (zby_w zwX9_years_3 21 rfl) (zby_w zwX9_years_3 22 rfl) (by decide)) (by decide) ?_
        exact zr_pick [3, 4, 5, 6, 2, 1, 0] rfl (ih x14 x21 (v7 + 1) h)
      refine zr_icmp_ge C 109 (zo_162 (p := 102) (k := 7) (a := 0) (b := 7) (zby_w zwX9_years_3 6 rfl) (zby_w zwX9_years_3 7 rfl) (zby_w zwX9_years_3 8 rfl) (by decide)) (by decide) (fun hc17 => ?_) (fun hc17 => ?_)
      · skip
        refine zr_iconst C (0 : Int32) (zo_3 (p := 109) (zby_w zwX9_years_3 13 rfl)) (by decide) ?_
        exact hJ19 _ (by rw [if_pos hc17])
      · skip
        refine zr_iconst C (1 : Int32) (zo_4 (p := 105) (zby_w zwX9_years_3 9 rfl)) (by decide) ?_
        refine zr_goto C 110 (zo_167 (p := 106) (k := 4) (a := 0) (b := 4) (zby_w zwX9_years_3 10 rfl) (zby_w zwX9_years_3 11 rfl) (zby_w zwX9_years_3 12 rfl) (by decide)) (by decide) ?_
        exact hJ19 _ (by rw [if_neg hc17])

def wp_X9_years (p1 : Int32) (p2 : Int32) (p3 : Int32) (p4 : Int32) (σ : zST) (Post : Int32 → Prop) : Prop := wp_X9_isShip p1 σ (fun r1 => (if r1 = (0) then Post (-1 : Int32) else wp_X9_in (p2.toInt64) (0 : Int64) (9999 : Int64) σ (fun r4 => (if r4 = (0) then Post (-2 : Int32) else wp_X9_in (p3.toInt64) (1 : Int64) (99 : Int64) σ (fun r7 => (if r7 = (0) then Post (-2 : Int32) else wp_X9_in (p4.toInt64) (0 : Int64) (2 : Int64) σ (fun r10 => (if r10 = (0) then Post (-2 : Int32) else ∃ M28 : Nat, wp_X9_years_L59 p1 p3 p4 σ (fun w6 => (if p4 = (0) then wp_X9_allOf p1 σ (fun r26 => Post (w6 * r26)) else (if p4 = (1 : Int32) then wp_X9_teethTake p1 σ (fun r24 => Post (p3 * r24)) else Post w6))) M28 p2 (0 : Int32) (0 : Int32)))))))))
set_option maxRecDepth 100000 in
set_option maxHeartbeats 4000000 in
theorem g_X9_years {p : Program} {l : Launch} {e : Env} {R : Room} {s : State} {m : MethodId} {args : Array Value} {below : List Frame} {meth : Method} {c : Code} {Q : State → Prop} {g : zG} {n1 n2 : Nat} (C : zCX p R s m args meth c g n1 n2 cX9_years 8 RX9 3 66) {p1 : Int32} {p2 : Int32} {p3 : Int32} {p4 : Int32} {σ : zST} {Post : Int32 → Prop} (hret : ∀ (v : Int32) (pc : Nat) (lv : List (Nat × Value)), Post v → decode cX9_years pc = .ok (.ireturn, 1) → zGG p l e R s m args below meth c Q g n1 n2 8 pc lv [.int v] σ) (h : wp_X9_years p1 p2 p3 p4 σ Post) : zGG p l e R s m args below meth c Q g n1 n2 8 0 [(0, .ref (g.2.1 69)), (1, .int p1), (2, .int p2), (3, .int p3), (4, .int p4)] [] σ := by
  unfold wp_X9_years at h
  refine zr_aload_n C (zo_42 (p := 0) (zby_w zwX9_years_0 0 rfl)) rfl ?_
  refine zr_iload_n C (zo_27 (p := 1) (zby_w zwX9_years_0 1 rfl)) rfl ?_
  refine zr_cip (zr_runV (As := [.int p1]) (rest := []) C vw_X9_112 (c_X9_isShip l g p1 σ _ h) (sh_69) rfl (by decide) (by decide) rfl rfl (Nat.le_of_ble_eq_true rfl) (zo_182 (p := 2) (k := 112) (a := 0) (b := 112) (zby_w zwX9_years_0 2 rfl) (zby_w zwX9_years_0 3 rfl) (zby_w zwX9_years_0 4 rfl) (by decide))) (fun r1 h => ?_)
  refine zr_if_ne C 10 (zo_154 (p := 5) (k := 5) (a := 0) (b := 5) (zby_w zwX9_years_0 5 rfl) (zby_w zwX9_years_0 6 rfl) (zby_w zwX9_years_0 7 rfl) (by decide)) (by decide) (fun hc3 => ?_) (fun hc3 => ?_)
  · rw [if_neg hc3] at h
    refine zr_iload_n C (zo_28 (p := 10) (zby_w zwX9_years_0 10 rfl)) rfl ?_
    refine zr_i2l C (zo_133 (p := 11) (zby_w zwX9_years_0 11 rfl)) ?_
    refine zr_lconst C (0 : Int64) (zo_9 (p := 12) (zby_w zwX9_years_0 12 rfl)) (by decide) ?_
    refine zr_ldc2 C (v := (9999 : Int64)) cl_X9_260 (zo_20 (p := 13) (k := 260) (a := 1) (b := 4) (zby_w zwX9_years_0 13 rfl) (zby_w zwX9_years_0 14 rfl) (zby_w zwX9_years_0 15 rfl) (by decide)) ?_
    refine zr_cip (zr_runS (As := [.long (p2.toInt64), .long (0 : Int64), .long (9999 : Int64)]) (rest := []) C sw_X9_89 (c_X9_in l g (p2.toInt64) (0 : Int64) (9999 : Int64) σ _ h) (by decide) (by decide) rfl rfl (Nat.le_of_ble_eq_true rfl) (zo_184 (p := 16) (k := 89) (a := 0) (b := 89) (zby_w zwX9_years_0 16 rfl) (zby_w zwX9_years_0 17 rfl) (zby_w zwX9_years_0 18 rfl) (by decide))) (fun r4 h => ?_)
    refine zr_if_eq C 47 (zo_153 (p := 19) (k := 28) (a := 0) (b := 28) (zby_w zwX9_years_0 19 rfl) (zby_w zwX9_years_0 20 rfl) (zby_w zwX9_years_0 21 rfl) (by decide)) (by decide) (fun hc6 => ?_) (fun hc6 => ?_)
    · rw [if_pos hc6] at h
      refine zr_bipush C (-2 : Int32) d_X9_years_47 (by decide) ?_
      exact hret _ _ _ h d_X9_years_49
    · rw [if_neg hc6] at h
      refine zr_iload_n C (zo_29 (p := 22) (zby_w zwX9_years_0 22 rfl)) rfl ?_
      refine zr_i2l C (zo_133 (p := 23) (zby_w zwX9_years_0 23 rfl)) ?_
      refine zr_lconst C (1 : Int64) (zo_10 (p := 24) (zby_w zwX9_years_0 24 rfl)) (by decide) ?_
      refine zr_ldc2 C (v := (99 : Int64)) cl_X9_300 (zo_20 (p := 25) (k := 300) (a := 1) (b := 44) (zby_w zwX9_years_0 25 rfl) (zby_w zwX9_years_0 26 rfl) (zby_w zwX9_years_0 27 rfl) (by decide)) ?_
      refine zr_cip (zr_runS (As := [.long (p3.toInt64), .long (1 : Int64), .long (99 : Int64)]) (rest := []) C sw_X9_89 (c_X9_in l g (p3.toInt64) (1 : Int64) (99 : Int64) σ _ h) (by decide) (by decide) rfl rfl (Nat.le_of_ble_eq_true rfl) (zo_184 (p := 28) (k := 89) (a := 0) (b := 89) (zby_w zwX9_years_0 28 rfl) (zby_w zwX9_years_0 29 rfl) (zby_w zwX9_years_0 30 rfl) (by decide))) (fun r7 h => ?_)
      refine zr_if_eq C 47 (zo_153 (p := 31) (k := 16) (a := 0) (b := 16) (zby_w zwX9_years_0 31 rfl) (zby_w zwX9_years_0 32 rfl) (zby_w zwX9_years_0 33 rfl) (by decide)) (by decide) (fun hc9 => ?_) (fun hc9 => ?_)
      · rw [if_pos hc9] at h
        refine zr_bipush C (-2 : Int32) d_X9_years_47 (by decide) ?_
        exact hret _ _ _ h d_X9_years_49
      · rw [if_neg hc9] at h
        refine zr_iload C (zo_21 (p := 34) (k := 4) (a := 4) (zby_w zwX9_years_1 2 rfl) (zby_w zwX9_years_1 3 rfl) (by decide)) rfl ?_
        refine zr_i2l C (zo_133 (p := 36) (zby_w zwX9_years_1 4 rfl)) ?_
        refine zr_lconst C (0 : Int64) (zo_9 (p := 37) (zby_w zwX9_years_1 5 rfl)) (by decide) ?_
        refine zr_ldc2 C (v := (2 : Int64)) cl_X9_102 (zo_20 (p := 38) (k := 102) (a := 0) (b := 102) (zby_w zwX9_years_1 6 rfl) (zby_w zwX9_years_1 7 rfl) (zby_w zwX9_years_1 8 rfl) (by decide)) ?_
        refine zr_cip (zr_runS (As := [.long (p4.toInt64), .long (0 : Int64), .long (2 : Int64)]) (rest := []) C sw_X9_89 (c_X9_in l g (p4.toInt64) (0 : Int64) (2 : Int64) σ _ h) (by decide) (by decide) rfl rfl (Nat.le_of_ble_eq_true rfl) (zo_184 (p := 41) (k := 89) (a := 0) (b := 89) (zby_w zwX9_years_1 9 rfl) (zby_w zwX9_years_1 10 rfl) (zby_w zwX9_years_1 11 rfl) (by decide))) (fun r10 h => ?_)
        refine zr_if_ne C 50 (zo_154 (p := 44) (k := 6) (a := 0) (b := 6) (zby_w zwX9_years_1 12 rfl) (zby_w zwX9_years_1 13 rfl) (zby_w zwX9_years_1 14 rfl) (by decide)) (by decide) (fun hc12 => ?_) (fun hc12 => ?_)
        · rw [if_neg hc12] at h
          refine zr_iload_n C (zo_28 (p := 50) (zby_w zwX9_years_1 18 rfl)) rfl ?_
          refine zr_istore C [(5, .int p2), (0, .ref (g.2.1 69)), (1, .int p1), (2, .int p2), (3, .int p3), (4, .int p4)] (zo_54 (p := 51) (k := 5) (a := 5) (zby_w zwX9_years_1 19 rfl) (zby_w zwX9_years_1 20 rfl) (by decide)) (by decide) rfl ?_
          refine zr_iconst C (0 : Int32) (zo_3 (p := 53) (zby_w zwX9_years_1 21 rfl)) (by decide) ?_
          refine zr_istore C [(6, .int (0 : Int32)), (5, .int p2), (0, .ref (g.2.1 69)), (1, .int p1), (2, .int p2), (3, .int p3), (4, .int p4)] (zo_54 (p := 54) (k := 6) (a := 6) (zby_w zwX9_years_1 22 rfl) (zby_w zwX9_years_1 23 rfl) (by decide)) (by decide) rfl ?_
          refine zr_iconst C (0 : Int32) (zo_3 (p := 56) (zby_w zwX9_years_1 24 rfl)) (by decide) ?_
          refine zr_istore C [(7, .int (0 : Int32)), (6, .int (0 : Int32)), (5, .int p2), (0, .ref (g.2.1 69)), (1, .int p1), (2, .int p2), (3, .int p3), (4, .int p4)] (zo_54 (p := 57) (k := 7) (a := 7) (zby_w zwX9_years_1 25 rfl) (zby_w zwX9_years_1 26 rfl) (by decide)) (by decide) rfl ?_
          obtain ⟨M28, h⟩ := h
          exact zr_pick [3, 4, 6, 7, 2, 1, 0] rfl (g_X9_years_L59 C (fun w6 h => by
              refine zr_iload C (zo_21 (p := 119) (k := 4) (a := 4) (zby_w zwX9_years_3 23 rfl) (zby_w zwX9_years_3 24 rfl) (by decide)) rfl ?_
              refine zr_if_ne C 135 (zo_154 (p := 121) (k := 14) (a := 0) (b := 14) (zby_w zwX9_years_3 25 rfl) (zby_w zwX9_years_3 26 rfl) (zby_w zwX9_years_3 27 rfl) (by decide)) (by decide) (fun hc22 => ?_) (fun hc22 => ?_)
              · rw [if_neg hc22] at h
                refine zr_iload C (zo_21 (p := 135) (k := 4) (a := 4) (zby_w zwX9_years_4 7 rfl) (zby_w zwX9_years_4 8 rfl) (by decide)) rfl ?_
                refine zr_iconst C (1 : Int32) (zo_4 (p := 137) (zby_w zwX9_years_4 9 rfl)) (by decide) ?_
                refine zr_icmp_ne C 151 (zo_160 (p := 138) (k := 13) (a := 0) (b := 13) (zby_w zwX9_years_4 10 rfl) (zby_w zwX9_years_4 11 rfl) (zby_w zwX9_years_4 12 rfl) (by decide)) (by decide) (fun hc23 => ?_) (fun hc23 => ?_)
                · rw [if_neg hc23] at h
                  refine zr_iload C (zo_21 (p := 151) (k := 6) (a := 6) (zby_w zwX9_years_4 23 rfl) (zby_w zwX9_years_4 24 rfl) (by decide)) rfl ?_
                  exact hret _ _ _ h d_X9_years_153
                · rw [if_pos hc23] at h
                  refine zr_iload_n C (zo_29 (p := 141) (zby_w zwX9_years_4 13 rfl)) rfl ?_
                  refine zr_aload_n C (zo_42 (p := 142) (zby_w zwX9_years_4 14 rfl)) rfl ?_
                  refine zr_iload_n C (zo_27 (p := 143) (zby_w zwX9_years_4 15 rfl)) rfl ?_
                  refine zr_cip (zr_runV (As := [.int p1]) (rest := [.int p3]) C vw_X9_206 (c_X9_teethTake l g p1 σ _ h) (sh_69) rfl (by decide) (by decide) rfl rfl (Nat.le_of_ble_eq_true rfl) (zo_182 (p := 144) (k := 206) (a := 0) (b := 206) (zby_w zwX9_years_4 16 rfl) (zby_w zwX9_years_4 17 rfl) (zby_w zwX9_years_4 18 rfl) (by decide))) (fun r24 h => ?_)
                  refine zr_imul C (zo_104 (p := 147) (zby_w zwX9_years_4 19 rfl)) ?_
                  refine zr_goto C 153 (zo_167 (p := 148) (k := 5) (a := 0) (b := 5) (zby_w zwX9_years_4 20 rfl) (zby_w zwX9_years_4 21 rfl) (zby_w zwX9_years_4 22 rfl) (by decide)) (by decide) ?_
                  exact hret _ _ _ h d_X9_years_153
              · rw [if_pos hc22] at h
                refine zr_iload C (zo_21 (p := 124) (k := 6) (a := 6) (zby_w zwX9_years_3 28 rfl) (zby_w zwX9_years_3 29 rfl) (by decide)) rfl ?_
                refine zr_aload_n C (zo_42 (p := 126) (zby_w zwX9_years_3 30 rfl)) rfl ?_
                refine zr_iload_n C (zo_27 (p := 127) (zby_w zwX9_years_3 31 rfl)) rfl ?_
                refine zr_cip (zr_runV (As := [.int p1]) (rest := [.int w6]) C vw_X9_209 (c_X9_allOf l g p1 σ _ h) (sh_69) rfl (by decide) (by decide) rfl rfl (Nat.le_of_ble_eq_true rfl) (zo_182 (p := 128) (k := 209) (a := 0) (b := 209) (zby_w zwX9_years_4 0 rfl) (zby_w zwX9_years_4 1 rfl) (zby_w zwX9_years_4 2 rfl) (by decide))) (fun r26 h => ?_)
                refine zr_imul C (zo_104 (p := 131) (zby_w zwX9_years_4 3 rfl)) ?_
                refine zr_goto C 153 (zo_167 (p := 132) (k := 21) (a := 0) (b := 21) (zby_w zwX9_years_4 4 rfl) (zby_w zwX9_years_4 5 rfl) (zby_w zwX9_years_4 6 rfl) (by decide)) (by decide) ?_
                exact hret _ _ _ h d_X9_years_153) M28 p2 (0 : Int32) (0 : Int32) h)
        · rw [if_pos hc12] at h
          refine zr_bipush C (-2 : Int32) d_X9_years_47 (by decide) ?_
          exact hret _ _ _ h d_X9_years_49
  · rw [if_pos hc3] at h
    refine zr_iconst C (-1 : Int32) (zo_2 (p := 8) (zby_w zwX9_years_0 8 rfl)) (by decide) ?_
    exact hret _ _ _ h (zo_172 (p := 9) (zby_w zwX9_years_0 9 rfl))
set_option maxRecDepth 20000 in
theorem c_X9_years (l : Launch) (g : zG) (p1 : Int32) (p2 : Int32) (p3 : Int32) (p4 : Int32) (σ : zST) (Post : Int32 → Prop) (h : wp_X9_years p1 p2 p3 p4 σ Post) : Met l yX9_years (Cond.code yX9_years cX9_years 8 (some .int) :: zGW) (zRm 3 66) (va_Pc [.ref (g.2.1 69), .int p1, .int p2, .int p3, .int p4] (zPP g σ)) (va_Qi (fun r u => Post r ∧ u = σ) (zBB g) (zA g)) 0 0 (zA g) :=
  zMet (by decide) (Nat.le_of_ble_eq_true rfl) (fun p e s m below meth c hr C => g_X9_years C (fun v pc lv hp hd => zr_iret C hr ⟨hp, rfl⟩ hd) h)
def wp_X9_pass (p1 : Int32) (σ : zST) (Post : Int32 → zST → Prop) : Prop := (if (σ.1 69 39) = (0) then vp_in (σ.1 69 38) 240 ∧ True else True) ∧ ∀ z2 : Int32, z2 = (if (σ.1 69 39) = (0) then (σ.1 85 (σ.1 69 38).toNatClampNeg) else p1) → vp_in (σ.1 69 38) 240 ∧ ∀ σ7 : zST, σ7 = (wI σ 85 (σ.1 69 38).toNatClampNeg z2) → Post z2 (wI σ7 69 38 ((σ7.1 69 38) + (1 : Int32)))
set_option maxRecDepth 100000 in
set_option maxHeartbeats 4000000 in
theorem g_X9_pass {p : Program} {l : Launch} {e : Env} {R : Room} {s : State} {m : MethodId} {args : Array Value} {below : List Frame} {meth : Method} {c : Code} {Q : State → Prop} {g : zG} {n1 n2 : Nat} (C : zCX p R s m args meth c g n1 n2 cX9_pass 3 RX9 0 0) {p1 : Int32} {σ : zST} {Post : Int32 → zST → Prop} (hret : ∀ (v : Int32) (σ : zST) (pc : Nat) (lv : List (Nat × Value)), Post v σ → decode cX9_pass pc = .ok (.ireturn, 1) → zGG p l e R s m args below meth c Q g n1 n2 3 pc lv [.int v] σ) (h : wp_X9_pass p1 σ Post) : zGG p l e R s m args below meth c Q g n1 n2 3 0 [(0, .ref (g.2.1 69)), (1, .int p1)] [] σ := by
  unfold wp_X9_pass at h
  refine zr_aload_n C (zo_42 (p := 0) (zby_w zwX9_pass_0 0 rfl)) rfl ?_
  refine zr_geti C fw_X9_302 (sh_69) rfl (zo_180 (p := 1) (k := 302) (a := 1) (b := 46) (zby_w zwX9_pass_0 1 rfl) (zby_w zwX9_pass_0 2 rfl) (zby_w zwX9_pass_0 3 rfl) (by decide)) ?_
  obtain ⟨ho4, h⟩ := h
  have hJ3 : ∀ z2 : Int32, z2 = (if (σ.1 69 39) = (0) then (σ.1 85 (σ.1 69 38).toNatClampNeg) else p1) → zGG p l e R s m args below meth c Q g n1 n2 3 20 [(0, .ref (g.2.1 69)), (1, .int p1)] [.int z2] σ := by
    intro z2 hz2
    replace h := h z2 hz2
    refine zr_istore_n C [(2, .int z2), (0, .ref (g.2.1 69)), (1, .int p1)] (zo_61 (p := 20) (zby_w zwX9_pass_0 20 rfl)) (by decide) rfl ?_
    refine zr_aload_n C (zo_42 (p := 21) (zby_w zwX9_pass_0 21 rfl)) rfl ?_
    refine zr_getr (u := 85) C fw_X9_55 (sh_69) rfl (zo_180 (p := 22) (k := 55) (a := 0) (b := 55) (zby_w zwX9_pass_0 22 rfl) (zby_w zwX9_pass_0 23 rfl) (zby_w zwX9_pass_0 24 rfl) (by decide)) ?_
    refine zr_aload_n C (zo_42 (p := 25) (zby_w zwX9_pass_0 25 rfl)) rfl ?_
    refine zr_geti C fw_X9_306 (sh_69) rfl (zo_180 (p := 26) (k := 306) (a := 1) (b := 50) (zby_w zwX9_pass_0 26 rfl) (zby_w zwX9_pass_0 27 rfl) (zby_w zwX9_pass_0 28 rfl) (by decide)) ?_
    refine zr_iload_n C (zo_28 (p := 29) (zby_w zwX9_pass_0 29 rfl)) rfl ?_
    obtain ⟨ho6, h⟩ := h
    refine zr_iast C (sh_85) ho6 (zo_79 (p := 30) (zby_w zwX9_pass_0 30 rfl)) ?_
    refine zr_aload_n C (zo_42 (p := 31) (zby_w zwX9_pass_0 31 rfl)) rfl ?_
    refine zr_dup C (zo_89 (p := 32) (zby_w zwX9_pass_1 0 rfl)) rfl ?_
    refine zr_tops (fun σ7 hσ7 => ?_)
    replace h := h σ7 hσ7
    refine zr_geti C fw_X9_306 (sh_69) rfl (zo_180 (p := 33) (k := 306) (a := 1) (b := 50) (zby_w zwX9_pass_1 1 rfl) (zby_w zwX9_pass_1 2 rfl) (zby_w zwX9_pass_1 3 rfl) (by decide)) ?_
    refine zr_iconst C (1 : Int32) (zo_4 (p := 36) (zby_w zwX9_pass_1 4 rfl)) (by decide) ?_
    refine zr_iadd C (zo_96 (p := 37) (zby_w zwX9_pass_1 5 rfl)) ?_
    refine zr_puti C fw_X9_306 pw_X9_38 (sh_69) rfl rfl rfl (zo_181 (p := 38) (k := 306) (a := 1) (b := 50) (zby_w zwX9_pass_1 6 rfl) (zby_w zwX9_pass_1 7 rfl) (zby_w zwX9_pass_1 8 rfl) (by decide)) ?_
    refine zr_iload_n C (zo_28 (p := 41) (zby_w zwX9_pass_1 9 rfl)) rfl ?_
    exact hret _ _ _ _ h (zo_172 (p := 42) (zby_w zwX9_pass_1 10 rfl))
  refine zr_if_eq C 11 (zo_153 (p := 4) (k := 7) (a := 0) (b := 7) (zby_w zwX9_pass_0 4 rfl) (zby_w zwX9_pass_0 5 rfl) (zby_w zwX9_pass_0 6 rfl) (by decide)) (by decide) (fun hc1 => ?_) (fun hc1 => ?_)
  · skip
    rw [if_pos hc1] at ho4
    refine zr_aload_n C (zo_42 (p := 11) (zby_w zwX9_pass_0 11 rfl)) rfl ?_
    refine zr_getr (u := 85) C fw_X9_55 (sh_69) rfl (zo_180 (p := 12) (k := 55) (a := 0) (b := 55) (zby_w zwX9_pass_0 12 rfl) (zby_w zwX9_pass_0 13 rfl) (zby_w zwX9_pass_0 14 rfl) (by decide)) ?_
    refine zr_aload_n C (zo_42 (p := 15) (zby_w zwX9_pass_0 15 rfl)) rfl ?_
    refine zr_geti C fw_X9_306 (sh_69) rfl (zo_180 (p := 16) (k := 306) (a := 1) (b := 50) (zby_w zwX9_pass_0 16 rfl) (zby_w zwX9_pass_0 17 rfl) (zby_w zwX9_pass_0 18 rfl) (by decide)) ?_
    obtain ⟨ho5, ho4⟩ := ho4
    refine zr_iald C (sh_85) ho5 (zo_46 (p := 19) (zby_w zwX9_pass_0 19 rfl)) ?_
    exact hJ3 _ (by rw [if_pos hc1])
  · skip
    rw [if_neg hc1] at ho4
    refine zr_iload_n C (zo_27 (p := 7) (zby_w zwX9_pass_0 7 rfl)) rfl ?_
    refine zr_goto C 20 (zo_167 (p := 8) (k := 12) (a := 0) (b := 12) (zby_w zwX9_pass_0 8 rfl) (zby_w zwX9_pass_0 9 rfl) (zby_w zwX9_pass_0 10 rfl) (by decide)) (by decide) ?_
    exact hJ3 _ (by rw [if_neg hc1])
set_option maxRecDepth 20000 in
theorem c_X9_pass (l : Launch) (g : zG) (p1 : Int32) (σ : zST) (Post : Int32 → zST → Prop) (h : wp_X9_pass p1 σ Post) : Met l yX9_pass (Cond.code yX9_pass cX9_pass 3 (some .int) :: zGW) (zRm 0 0) (va_Pc [.ref (g.2.1 69), .int p1] (zPP g σ)) (va_Qi Post (zBB g) (zA g)) 0 0 (zA g) :=
  zMet (by decide) (Nat.le_of_ble_eq_true rfl) (fun p e s m below meth c hr C => g_X9_pass C (fun v σ pc lv hp hd => zr_iret C hr hp hd) h)
def wp_X9_passNumbers (σ : zST) (Post : zST → Prop) : Prop := wp_X9_pass (σ.1 69 0) σ (fun r1 σ2 => ∀ σ3 : zST, σ3 = (wI σ2 69 0 r1) → wp_X9_pass (σ3.1 69 5) σ3 (fun r4 σ5 => ∀ σ6 : zST, σ6 = (wI σ5 69 5 r4) → wp_X9_pass (σ6.1 69 6) σ6 (fun r7 σ8 => ∀ σ9 : zST, σ9 = (wI σ8 69 6 r7) → wp_X9_pass (σ9.1 69 7) σ9 (fun r10 σ11 => ∀ σ12 : zST, σ12 = (wI σ11 69 7 r10) → wp_X9_pass (σ12.1 69 8) σ12 (fun r13 σ14 => ∀ σ15 : zST, σ15 = (wI σ14 69 8 r13) → wp_X9_pass (σ15.1 69 9) σ15 (fun r16 σ17 => ∀ σ18 : zST, σ18 = (wI σ17 69 9 r16) → wp_X9_pass (σ18.1 69 10) σ18 (fun r19 σ20 => ∀ σ21 : zST, σ21 = (wI σ20 69 10 r19) → wp_X9_pass (σ21.1 69 11) σ21 (fun r22 σ23 => ∀ σ24 : zST, σ24 = (wI σ23 69 11 r22) → wp_X9_pass (σ24.1 69 12) σ24 (fun r25 σ26 => ∀ σ27 : zST, σ27 = (wI σ26 69 12 r25) → wp_X9_pass (σ27.1 69 14) σ27 (fun r28 σ29 => ∀ σ30 : zST, σ30 = (wI σ29 69 14 r28) → wp_X9_pass (σ30.1 69 15) σ30 (fun r31 σ32 => ∀ σ33 : zST, σ33 = (wI σ32 69 15 r31) → wp_X9_pass (σ33.1 69 16) σ33 (fun r34 σ35 => ∀ σ36 : zST, σ36 = (wI σ35 69 16 r34) → wp_X9_pass (σ36.1 69 17) σ36 (fun r37 σ38 => ∀ σ39 : zST, σ39 = (wI σ38 69 17 r37) → wp_X9_pass (σ39.1 69 18) σ39 (fun r40 σ41 => ∀ σ42 : zST, σ42 = (wI σ41 69 18 r40) → wp_X9_pass (σ42.1 69 21) σ42 (fun r43 σ44 => ∀ σ45 : zST, σ45 = (wI σ44 69 21 r43) → wp_X9_pass (σ45.1 69 25) σ45 (fun r46 σ47 => Post (wI σ47 69 25 r46)))))))))))))))))
set_option maxRecDepth 100000 in
set_option maxHeartbeats 4000000 in
theorem g_X9_passNumbers {p : Program} {l : Launch} {e : Env} {R : Room} {s : State} {m : MethodId} {args : Array Value} {below : List Frame} {meth : Method} {c : Code} {Q : State → Prop} {g : zG} {n1 n2 : Nat} (C : zCX p R s m args meth c g n1 n2 cX9_passNumbers 1 RX9 1 22) {σ : zST} {Post : zST → Prop} (hret : ∀ (σ : zST) (pc : Nat) (lv : List (Nat × Value)), Post σ → decode cX9_passNumbers pc = .ok (.return_, 1) → zGG p l e R s m args below meth c Q g n1 n2 1 pc lv [] σ) (h : wp_X9_passNumbers σ Post) : zGG p l e R s m args below meth c Q g n1 n2 1 0 [(0, .ref (g.2.1 69))] [] σ := by
  unfold wp_X9_passNumbers at h
  refine zr_aload_n C (zo_42 (p := 0) (zby_w zwX9_passNumbers_0 0 rfl)) rfl ?_
  refine zr_aload_n C (zo_42 (p := 1) (zby_w zwX9_passNumbers_0 1 rfl)) rfl ?_
  refine zr_aload_n C (zo_42 (p := 2) (zby_w zwX9_passNumbers_0 2 rfl)) rfl ?_
  refine zr_geti C fw_X9_97 (sh_69) rfl (zo_180 (p := 3) (k := 97) (a := 0) (b := 97) (zby_w zwX9_passNumbers_0 3 rfl) (zby_w zwX9_passNumbers_0 4 rfl) (zby_w zwX9_passNumbers_0 5 rfl) (by decide)) ?_
  refine zr_ci (zr_runV (As := [.int (σ.1 69 0)]) (rest := [.ref (g.2.1 69)]) C vw_X9_309 (c_X9_pass l g (σ.1 69 0) σ _ h) (sh_69) rfl (by decide) (by decide) rfl rfl (Nat.le_of_ble_eq_true rfl) (zo_182 (p := 6) (k := 309) (a := 1) (b := 53) (zby_w zwX9_passNumbers_0 6 rfl) (zby_w zwX9_passNumbers_0 7 rfl) (zby_w zwX9_passNumbers_0 8 rfl) (by decide))) (fun r1 σ2 h => ?_)
  refine zr_puti C fw_X9_97 pw_X9_0 (sh_69) rfl rfl rfl (zo_181 (p := 9) (k := 97) (a := 0) (b := 97) (zby_w zwX9_passNumbers_0 9 rfl) (zby_w zwX9_passNumbers_0 10 rfl) (zby_w zwX9_passNumbers_0 11 rfl) (by decide)) ?_
  refine zr_aload_n C (zo_42 (p := 12) (zby_w zwX9_passNumbers_0 12 rfl)) rfl ?_
  refine zr_aload_n C (zo_42 (p := 13) (zby_w zwX9_passNumbers_0 13 rfl)) rfl ?_
  refine zr_aload_n C (zo_42 (p := 14) (zby_w zwX9_passNumbers_0 14 rfl)) rfl ?_
  refine zr_tops (fun σ3 hσ3 => ?_)
  replace h := h σ3 hσ3
  refine zr_geti C fw_X9_62 (sh_69) rfl (zo_180 (p := 15) (k := 62) (a := 0) (b := 62) (zby_w zwX9_passNumbers_0 15 rfl) (zby_w zwX9_passNumbers_0 16 rfl) (zby_w zwX9_passNumbers_0 17 rfl) (by decide)) ?_
  refine zr_ci (zr_runV (As := [.int (σ3.1 69 5)]) (rest := [.ref (g.2.1 69)]) C vw_X9_309 (c_X9_pass l g (σ3.1 69 5) σ3 _ h) (sh_69) rfl (by decide) (by decide) rfl rfl (Nat.le_of_ble_eq_true rfl) (zo_182 (p := 18) (k := 309) (a := 1) (b := 53) (zby_w zwX9_passNumbers_0 18 rfl) (zby_w zwX9_passNumbers_0 19 rfl) (zby_w zwX9_passNumbers_0 20 rfl) (by decide))) (fun r4 σ5 h => ?_)
  refine zr_puti C fw_X9_62 pw_X9_5 (sh_69) rfl rfl rfl (zo_181 (p := 21) (k := 62) (a := 0) (b := 62) (zby_w zwX9_passNumbers_0 21 rfl) (zby_w zwX9_passNumbers_0 22 rfl) (zby_w zwX9_passNumbers_0 23 rfl) (by decide)) ?_
  refine zr_aload_n C (zo_42 (p := 24) (zby_w zwX9_passNumbers_0 24 rfl)) rfl ?_
  refine zr_aload_n C (zo_42 (p := 25) (zby_w zwX9_passNumbers_0 25 rfl)) rfl ?_
  refine zr_aload_n C (zo_42 (p := 26) (zby_w zwX9_passNumbers_0 26 rfl)) rfl ?_
  refine zr_tops (fun σ6 hσ6 => ?_)
  replace h := h σ6 hσ6
  refine zr_geti C fw_X9_66 (sh_69) rfl (zo_180 (p := 27) (k := 66) (a := 0) (b := 66) (zby_w zwX9_passNumbers_0 27 rfl) (zby_w zwX9_passNumbers_0 28 rfl) (zby_w zwX9_passNumbers_0 29 rfl) (by decide)) ?_
  refine zr_ci (zr_runV (As := [.int (σ6.1 69 6)]) (rest := [.ref (g.2.1 69)]) C vw_X9_309 (c_X9_pass l g (σ6.1 69 6) σ6 _ h) (sh_69) rfl (by decide) (by decide) rfl rfl (Nat.le_of_ble_eq_true rfl) (zo_182 (p := 30) (k := 309) (a := 1) (b := 53) (zby_w zwX9_passNumbers_0 30 rfl) (zby_w zwX9_passNumbers_0 31 rfl) (zby_w zwX9_passNumbers_0 32 rfl) (by decide))) (fun r7 σ8 h => ?_)
  refine zr_puti C fw_X9_66 pw_X9_6 (sh_69) rfl rfl rfl (zo_181 (p := 33) (k := 66) (a := 0) (b := 66) (zby_w zwX9_passNumbers_1 1 rfl) (zby_w zwX9_passNumbers_1 2 rfl) (zby_w zwX9_passNumbers_1 3 rfl) (by decide)) ?_
  refine zr_aload_n C (zo_42 (p := 36) (zby_w zwX9_passNumbers_1 4 rfl)) rfl ?_
  refine zr_aload_n C (zo_42 (p := 37) (zby_w zwX9_passNumbers_1 5 rfl)) rfl ?_
  refine zr_aload_n C (zo_42 (p := 38) (zby_w zwX9_passNumbers_1 6 rfl)) rfl ?_
  refine zr_tops (fun σ9 hσ9 => ?_)
  replace h := h σ9 hσ9
  refine zr_geti C fw_X9_69 (sh_69) rfl (zo_180 (p := 39) (k := 69) (a := 0) (b := 69) (zby_w zwX9_passNumbers_1 7 rfl) (zby_w zwX9_passNumbers_1 8 rfl) (zby_w zwX9_passNumbers_1 9 rfl) (by decide)) ?_
  refine zr_ci (zr_runV (As := [.int (σ9.1 69 7)]) (rest := [.ref (g.2.1 69)]) C vw_X9_309 (c_X9_pass l g (σ9.1 69 7) σ9 _ h) (sh_69) rfl (by decide) (by decide) rfl rfl (Nat.le_of_ble_eq_true rfl) (zo_182 (p := 42) (k := 309) (a := 1) (b := 53) (zby_w zwX9_passNumbers_1 10 rfl) (zby_w zwX9_passNumbers_1 11 rfl) (zby_w zwX9_passNumbers_1 12 rfl) (by decide))) (fun r10 σ11 h => ?_)
  refine zr_puti C fw_X9_69 pw_X9_7 (sh_69) rfl rfl rfl (zo_181 (p := 45) (k := 69) (a := 0) (b := 69) (zby_w zwX9_passNumbers_1 13 rfl) (zby_w zwX9_passNumbers_1 14 rfl) (zby_w zwX9_passNumbers_1 15 rfl) (by decide)) ?_
  refine zr_aload_n C (zo_42 (p := 48) (zby_w zwX9_passNumbers_1 16 rfl)) rfl ?_
  refine zr_aload_n C (zo_42 (p := 49) (zby_w zwX9_passNumbers_1 17 rfl)) rfl ?_
  refine zr_aload_n C (zo_42 (p := 50) (zby_w zwX9_passNumbers_1 18 rfl)) rfl ?_
  refine zr_tops (fun σ12 hσ12 => ?_)
  replace h := h σ12 hσ12
  refine zr_geti C fw_X9_72 (sh_69) rfl (zo_180 (p := 51) (k := 72) (a := 0) (b := 72) (zby_w zwX9_passNumbers_1 19 rfl) (zby_w zwX9_passNumbers_1 20 rfl) (zby_w zwX9_passNumbers_1 21 rfl) (by decide)) ?_
  refine zr_ci (zr_runV (As := [.int (σ12.1 69 8)]) (rest := [.ref (g.2.1 69)]) C vw_X9_309 (c_X9_pass l g (σ12.1 69 8) σ12 _ h) (sh_69) rfl (by decide) (by decide) rfl rfl (Nat.le_of_ble_eq_true rfl) (zo_182 (p := 54) (k := 309) (a := 1) (b := 53) (zby_w zwX9_passNumbers_1 22 rfl) (zby_w zwX9_passNumbers_1 23 rfl) (zby_w zwX9_passNumbers_1 24 rfl) (by decide))) (fun r13 σ14 h => ?_)
  refine zr_puti C fw_X9_72 pw_X9_8 (sh_69) rfl rfl rfl (zo_181 (p := 57) (k := 72) (a := 0) (b := 72) (zby_w zwX9_passNumbers_1 25 rfl) (zby_w zwX9_passNumbers_1 26 rfl) (zby_w zwX9_passNumbers_1 27 rfl) (by decide)) ?_
  refine zr_aload_n C (zo_42 (p := 60) (zby_w zwX9_passNumbers_1 28 rfl)) rfl ?_
  refine zr_aload_n C (zo_42 (p := 61) (zby_w zwX9_passNumbers_1 29 rfl)) rfl ?_
  refine zr_aload_n C (zo_42 (p := 62) (zby_w zwX9_passNumbers_1 30 rfl)) rfl ?_
  refine zr_tops (fun σ15 hσ15 => ?_)
  replace h := h σ15 hσ15
  refine zr_geti C fw_X9_75 (sh_69) rfl (zo_180 (p := 63) (k := 75) (a := 0) (b := 75) (zby_w zwX9_passNumbers_1 31 rfl) (zby_w zwX9_passNumbers_1 32 rfl) (zby_w zwX9_passNumbers_1 33 rfl) (by decide)) ?_
  refine zr_ci (zr_runV (As := [.int (σ15.1 69 9)]) (rest := [.ref (g.2.1 69)]) C vw_X9_309 (c_X9_pass l g (σ15.1 69 9) σ15 _ h) (sh_69) rfl (by decide) (by decide) rfl rfl (Nat.le_of_ble_eq_true rfl) (zo_182 (p := 66) (k := 309) (a := 1) (b := 53) (zby_w zwX9_passNumbers_2 2 rfl) (zby_w zwX9_passNumbers_2 3 rfl) (zby_w zwX9_passNumbers_2 4 rfl) (by decide))) (fun r16 σ17 h => ?_)
  refine zr_puti C fw_X9_75 pw_X9_9 (sh_69) rfl rfl rfl (zo_181 (p := 69) (k := 75) (a := 0) (b := 75) (zby_w zwX9_passNumbers_2 5 rfl) (zby_w zwX9_passNumbers_2 6 rfl) (zby_w zwX9_passNumbers_2 7 rfl) (by decide)) ?_
  refine zr_aload_n C (zo_42 (p := 72) (zby_w zwX9_passNumbers_2 8 rfl)) rfl ?_
  refine zr_aload_n C (zo_42 (p := 73) (zby_w zwX9_passNumbers_2 9 rfl)) rfl ?_
  refine zr_aload_n C (zo_42 (p := 74) (zby_w zwX9_passNumbers_2 10 rfl)) rfl ?_
  refine zr_tops (fun σ18 hσ18 => ?_)
  replace h := h σ18 hσ18
  refine zr_geti C fw_X9_78 (sh_69) rfl (zo_180 (p := 75) (k := 78) (a := 0) (b := 78) (zby_w zwX9_passNumbers_2 11 rfl) (zby_w zwX9_passNumbers_2 12 rfl) (zby_w zwX9_passNumbers_2 13 rfl) (by decide)) ?_
  refine zr_ci (zr_runV (As := [.int (σ18.1 69 10)]) (rest := [.ref (g.2.1 69)]) C vw_X9_309 (c_X9_pass l g (σ18.1 69 10) σ18 _ h) (sh_69) rfl (by decide) (by decide) rfl rfl (Nat.le_of_ble_eq_true rfl) (zo_182 (p := 78) (k := 309) (a := 1) (b := 53) (zby_w zwX9_passNumbers_2 14 rfl) (zby_w zwX9_passNumbers_2 15 rfl) (zby_w zwX9_passNumbers_2 16 rfl) (by decide))) (fun r19 σ20 h => ?_)
  refine zr_puti C fw_X9_78 pw_X9_10 (sh_69) rfl rfl rfl (zo_181 (p := 81) (k := 78) (a := 0) (b := 78) (zby_w zwX9_passNumbers_2 17 rfl) (zby_w zwX9_passNumbers_2 18 rfl) (zby_w zwX9_passNumbers_2 19 rfl) (by decide)) ?_
  refine zr_aload_n C (zo_42 (p := 84) (zby_w zwX9_passNumbers_2 20 rfl)) rfl ?_
  refine zr_aload_n C (zo_42 (p := 85) (zby_w zwX9_passNumbers_2 21 rfl)) rfl ?_
  refine zr_aload_n C (zo_42 (p := 86) (zby_w zwX9_passNumbers_2 22 rfl)) rfl ?_
  refine zr_tops (fun σ21 hσ21 => ?_)
  replace h := h σ21 hσ21
  refine zr_geti C fw_X9_115 (sh_69) rfl (zo_180 (p := 87) (k := 115) (a := 0) (b := 115) (zby_w zwX9_passNumbers_2 23 rfl) (zby_w zwX9_passNumbers_2 24 rfl) (zby_w zwX9_passNumbers_2 25 rfl) (by decide)) ?_
  refine zr_ci (zr_runV (As := [.int (σ21.1 69 11)]) (rest := [.ref (g.2.1 69)]) C vw_X9_309 (c_X9_pass l g (σ21.1 69 11) σ21 _ h) (sh_69) rfl (by decide) (by decide) rfl rfl (Nat.le_of_ble_eq_true rfl) (zo_182 (p := 90) (k := 309) (a := 1) (b := 53) (zby_w zwX9_passNumbers_2 26 rfl) (zby_w zwX9_passNumbers_2 27 rfl) (zby_w zwX9_passNumbers_2 28 rfl) (by decide))) (fun r22 σ23 h => ?_)
  refine zr_puti C fw_X9_115 pw_X9_11 (sh_69) rfl rfl rfl (zo_181 (p := 93) (k := 115) (a := 0) (b := 115) (zby_w zwX9_passNumbers_2 29 rfl) (zby_w zwX9_passNumbers_2 30 rfl) (zby_w zwX9_passNumbers_2 31 rfl) (by decide)) ?_
  refine zr_aload_n C (zo_42 (p := 96) (zby_w zwX9_passNumbers_3 0 rfl)) rfl ?_
  refine zr_aload_n C (zo_42 (p := 97) (zby_w zwX9_passNumbers_3 1 rfl)) rfl ?_
  refine zr_aload_n C (zo_42 (p := 98) (zby_w zwX9_passNumbers_3 2 rfl)) rfl ?_
  refine zr_tops (fun σ24 hσ24 => ?_)
  replace h := h σ24 hσ24
  refine zr_geti C fw_X9_81 (sh_69) rfl (zo_180 (p := 99) (k := 81) (a := 0) (b := 81) (zby_w zwX9_passNumbers_3 3 rfl) (zby_w zwX9_passNumbers_3 4 rfl) (zby_w zwX9_passNumbers_3 5 rfl) (by decide)) ?_
  refine zr_ci (zr_runV (As := [.int (σ24.1 69 12)]) (rest := [.ref (g.2.1 69)]) C vw_X9_309 (c_X9_pass l g (σ24.1 69 12) σ24 _ h) (sh_69) rfl (by decide) (by decide) rfl rfl (Nat.le_of_ble_eq_true rfl) (zo_182 (p := 102) (k := 309) (a := 1) (b := 53) (zby_w zwX9_passNumbers_3 6 rfl) (zby_w zwX9_passNumbers_3 7 rfl) (zby_w zwX9_passNumbers_3 8 rfl) (by decide))) (fun r25 σ26 h => ?_)
  refine zr_puti C fw_X9_81 pw_X9_12 (sh_69) rfl rfl rfl (zo_181 (p := 105) (k := 81) (a := 0) (b := 81) (zby_w zwX9_passNumbers_3 9 rfl) (zby_w zwX9_passNumbers_3 10 rfl) (zby_w zwX9_passNumbers_3 11 rfl) (by decide)) ?_
  refine zr_aload_n C (zo_42 (p := 108) (zby_w zwX9_passNumbers_3 12 rfl)) rfl ?_
  refine zr_aload_n C (zo_42 (p := 109) (zby_w zwX9_passNumbers_3 13 rfl)) rfl ?_
  refine zr_aload_n C (zo_42 (p := 110) (zby_w zwX9_passNumbers_3 14 rfl)) rfl ?_
  refine zr_tops (fun σ27 hσ27 => ?_)
  replace h := h σ27 hσ27
  refine zr_geti C fw_X9_84 (sh_69) rfl (zo_180 (p := 111) (k := 84) (a := 0) (b := 84) (zby_w zwX9_passNumbers_3 15 rfl) (zby_w zwX9_passNumbers_3 16 rfl) (zby_w zwX9_passNumbers_3 17 rfl) (by decide)) ?_
  refine zr_ci (zr_runV (As := [.int (σ27.1 69 14)]) (rest := [.ref (g.2.1 69)]) C vw_X9_309 (c_X9_pass l g (σ27.1 69 14) σ27 _ h) (sh_69) rfl (by decide) (by decide) rfl rfl (Nat.le_of_ble_eq_true rfl) (zo_182 (p := 114) (k := 309) (a := 1) (b := 53) (zby_w zwX9_passNumbers_3 18 rfl) (zby_w zwX9_passNumbers_3 19 rfl) (zby_w zwX9_passNumbers_3 20 rfl) (by decide))) (fun r28 σ29 h => ?_)
  refine zr_puti C fw_X9_84 pw_X9_14 (sh_69) rfl rfl rfl (zo_181 (p := 117) (k := 84) (a := 0) (b := 84) (zby_w zwX9_passNumbers_3 21 rfl) (zby_w zwX9_passNumbers_3 22 rfl) (zby_w zwX9_passNumbers_3 23 rfl) (by decide)) ?_
  refine zr_aload_n C (zo_42 (p := 120) (zby_w zwX9_passNumbers_3 24 rfl)) rfl ?_
  refine zr_aload_n C (zo_42 (p := 121) (zby_w zwX9_passNumbers_3 25 rfl)) rfl ?_
  refine zr_aload_n C (zo_42 (p := 122) (zby_w zwX9_passNumbers_3 26 rfl)) rfl ?_
  refine zr_tops (fun σ30 hσ30 => ?_)
  replace h := h σ30 hσ30
  refine zr_geti C fw_X9_151 (sh_69) rfl (zo_180 (p := 123) (k := 151) (a := 0) (b := 151) (zby_w zwX9_passNumbers_3 27 rfl) (zby_w zwX9_passNumbers_3 28 rfl) (zby_w zwX9_passNumbers_3 29 rfl) (by decide)) ?_
  refine zr_ci (zr_runV (As := [.int (σ30.1 69 15)]) (rest := [.ref (g.2.1 69)]) C vw_X9_309 (c_X9_pass l g (σ30.1 69 15) σ30 _ h) (sh_69) rfl (by decide) (by decide) rfl rfl (Nat.le_of_ble_eq_true rfl) (zo_182 (p := 126) (k := 309) (a := 1) (b := 53) (zby_w zwX9_passNumbers_3 30 rfl) (zby_w zwX9_passNumbers_3 31 rfl) (zby_w zwX9_passNumbers_3 32 rfl) (by decide))) (fun r31 σ32 h => ?_)
  refine zr_puti C fw_X9_151 pw_X9_15 (sh_69) rfl rfl rfl (zo_181 (p := 129) (k := 151) (a := 0) (b := 151) (zby_w zwX9_passNumbers_4 1 rfl) (zby_w zwX9_passNumbers_4 2 rfl) (zby_w zwX9_passNumbers_4 3 rfl) (by decide)) ?_
  refine zr_aload_n C (zo_42 (p := 132) (zby_w zwX9_passNumbers_4 4 rfl)) rfl ?_
  refine zr_aload_n C (zo_42 (p := 133) (zby_w zwX9_passNumbers_4 5 rfl)) rfl ?_
  refine zr_aload_n C (zo_42 (p := 134) (zby_w zwX9_passNumbers_4 6 rfl)) rfl ?_
  refine zr_tops (fun σ33 hσ33 => ?_)
  replace h := h σ33 hσ33
  refine zr_geti C fw_X9_154 (sh_69) rfl (zo_180 (p := 135) (k := 154) (a := 0) (b := 154) (zby_w zwX9_passNumbers_4 7 rfl) (zby_w zwX9_passNumbers_4 8 rfl) (zby_w zwX9_passNumbers_4 9 rfl) (by decide)) ?_
  refine zr_ci (zr_runV (As := [.int (σ33.1 69 16)]) (rest := [.ref (g.2.1 69)]) C vw_X9_309 (c_X9_pass l g (σ33.1 69 16) σ33 _ h) (sh_69) rfl (by decide) (by decide) rfl rfl (Nat.le_of_ble_eq_true rfl) (zo_182 (p := 138) (k := 309) (a := 1) (b := 53) (zby_w zwX9_passNumbers_4 10 rfl) (zby_w zwX9_passNumbers_4 11 rfl) (zby_w zwX9_passNumbers_4 12 rfl) (by decide))) (fun r34 σ35 h => ?_)
  refine zr_puti C fw_X9_154 pw_X9_16 (sh_69) rfl rfl rfl (zo_181 (p := 141) (k := 154) (a := 0) (b := 154) (zby_w zwX9_passNumbers_4 13 rfl) (zby_w zwX9_passNumbers_4 14 rfl) (zby_w zwX9_passNumbers_4 15 rfl) (by decide)) ?_
  refine zr_aload_n C (zo_42 (p := 144) (zby_w zwX9_passNumbers_4 16 rfl)) rfl ?_
  refine zr_aload_n C (zo_42 (p := 145) (zby_w zwX9_passNumbers_4 17 rfl)) rfl ?_
  refine zr_aload_n C (zo_42 (p := 146) (zby_w zwX9_passNumbers_4 18 rfl)) rfl ?_
  refine zr_tops (fun σ36 hσ36 => ?_)
  replace h := h σ36 hσ36
  refine zr_geti C fw_X9_166 (sh_69) rfl (zo_180 (p := 147) (k := 166) (a := 0) (b := 166) (zby_w zwX9_passNumbers_4 19 rfl) (zby_w zwX9_passNumbers_4 20 rfl) (zby_w zwX9_passNumbers_4 21 rfl) (by decide)) ?_
  refine zr_ci (zr_runV (As := [.int (σ36.1 69 17)]) (rest := [.ref (g.2.1 69)]) C vw_X9_309 (c_X9_pass l g (σ36.1 69 17) σ36 _ h) (sh_69) rfl (by decide) (by decide) rfl rfl (Nat.le_of_ble_eq_true rfl) (zo_182 (p := 150) (k := 309) (a := 1) (b := 53) (zby_w zwX9_passNumbers_4 22 rfl) (zby_w zwX9_passNumbers_4 23 rfl) (zby_w zwX9_passNumbers_4 24 rfl) (by decide))) (fun r37 σ38 h => ?_)
  refine zr_puti C fw_X9_166 pw_X9_17 (sh_69) rfl rfl rfl (zo_181 (p := 153) (k := 166) (a := 0) (b := 166) (zby_w zwX9_passNumbers_4 25 rfl) (zby_w zwX9_passNumbers_4 26 rfl) (zby_w zwX9_passNumbers_4 27 rfl) (by decide)) ?_
  refine zr_aload_n C (zo_42 (p := 156) (zby_w zwX9_passNumbers_4 28 rfl)) rfl ?_
  refine zr_aload_n C (zo_42 (p := 157) (zby_w zwX9_passNumbers_4 29 rfl)) rfl ?_
  refine zr_aload_n C (zo_42 (p := 158) (zby_w zwX9_passNumbers_4 30 rfl)) rfl ?_
  refine zr_tops (fun σ39 hσ39 => ?_)
  replace h := h σ39 hσ39
  refine zr_geti C fw_X9_262 (sh_69) rfl (zo_180 (p := 159) (k := 262) (a := 1) (b := 6) (zby_w zwX9_passNumbers_4 31 rfl) (zby_w zwX9_passNumbers_4 32 rfl) (zby_w zwX9_passNumbers_4 33 rfl) (by decide)) ?_
  refine zr_ci (zr_runV (As := [.int (σ39.1 69 18)]) (rest := [.ref (g.2.1 69)]) C vw_X9_309 (c_X9_pass l g (σ39.1 69 18) σ39 _ h) (sh_69) rfl (by decide) (by decide) rfl rfl (Nat.le_of_ble_eq_true rfl) (zo_182 (p := 162) (k := 309) (a := 1) (b := 53) (zby_w zwX9_passNumbers_5 2 rfl) (zby_w zwX9_passNumbers_5 3 rfl) (zby_w zwX9_passNumbers_5 4 rfl) (by decide))) (fun r40 σ41 h => ?_)
  refine zr_puti C fw_X9_262 pw_X9_18 (sh_69) rfl rfl rfl (zo_181 (p := 165) (k := 262) (a := 1) (b := 6) (zby_w zwX9_passNumbers_5 5 rfl) (zby_w zwX9_passNumbers_5 6 rfl) (zby_w zwX9_passNumbers_5 7 rfl) (by decide)) ?_
  refine zr_aload_n C (zo_42 (p := 168) (zby_w zwX9_passNumbers_5 8 rfl)) rfl ?_
  refine zr_aload_n C (zo_42 (p := 169) (zby_w zwX9_passNumbers_5 9 rfl)) rfl ?_
  refine zr_aload_n C (zo_42 (p := 170) (zby_w zwX9_passNumbers_5 10 rfl)) rfl ?_
  refine zr_tops (fun σ42 hσ42 => ?_)
  replace h := h σ42 hσ42
  refine zr_geti C fw_X9_272 (sh_69) rfl (zo_180 (p := 171) (k := 272) (a := 1) (b := 16) (zby_w zwX9_passNumbers_5 11 rfl) (zby_w zwX9_passNumbers_5 12 rfl) (zby_w zwX9_passNumbers_5 13 rfl) (by decide)) ?_
  refine zr_ci (zr_runV (As := [.int (σ42.1 69 21)]) (rest := [.ref (g.2.1 69)]) C vw_X9_309 (c_X9_pass l g (σ42.1 69 21) σ42 _ h) (sh_69) rfl (by decide) (by decide) rfl rfl (Nat.le_of_ble_eq_true rfl) (zo_182 (p := 174) (k := 309) (a := 1) (b := 53) (zby_w zwX9_passNumbers_5 14 rfl) (zby_w zwX9_passNumbers_5 15 rfl) (zby_w zwX9_passNumbers_5 16 rfl) (by decide))) (fun r43 σ44 h => ?_)
  refine zr_puti C fw_X9_272 pw_X9_21 (sh_69) rfl rfl rfl (zo_181 (p := 177) (k := 272) (a := 1) (b := 16) (zby_w zwX9_passNumbers_5 17 rfl) (zby_w zwX9_passNumbers_5 18 rfl) (zby_w zwX9_passNumbers_5 19 rfl) (by decide)) ?_
  refine zr_aload_n C (zo_42 (p := 180) (zby_w zwX9_passNumbers_5 20 rfl)) rfl ?_
  refine zr_aload_n C (zo_42 (p := 181) (zby_w zwX9_passNumbers_5 21 rfl)) rfl ?_
  refine zr_aload_n C (zo_42 (p := 182) (zby_w zwX9_passNumbers_5 22 rfl)) rfl ?_
  refine zr_tops (fun σ45 hσ45 => ?_)
  replace h := h σ45 hσ45
  refine zr_geti C fw_X9_297 (sh_69) rfl (zo_180 (p := 183) (k := 297) (a := 1) (b := 41) (zby_w zwX9_passNumbers_5 23 rfl) (zby_w zwX9_passNumbers_5 24 rfl) (zby_w zwX9_passNumbers_5 25 rfl) (by decide)) ?_
  refine zr_ci (zr_runV (As := [.int (σ45.1 69 25)]) (rest := [.ref (g.2.1 69)]) C vw_X9_309 (c_X9_pass l g (σ45.1 69 25) σ45 _ h) (sh_69) rfl (by decide) (by decide) rfl rfl (Nat.le_of_ble_eq_true rfl) (zo_182 (p := 186) (k := 309) (a := 1) (b := 53) (zby_w zwX9_passNumbers_5 26 rfl) (zby_w zwX9_passNumbers_5 27 rfl) (zby_w zwX9_passNumbers_5 28 rfl) (by decide))) (fun r46 σ47 h => ?_)
  refine zr_puti C fw_X9_297 pw_X9_25 (sh_69) rfl rfl rfl (zo_181 (p := 189) (k := 297) (a := 1) (b := 41) (zby_w zwX9_passNumbers_5 29 rfl) (zby_w zwX9_passNumbers_5 30 rfl) (zby_w zwX9_passNumbers_5 31 rfl) (by decide)) ?_
  exact hret _ _ _ h (zo_177 (p := 192) (zby_w zwX9_passNumbers_6 0 rfl))
set_option maxRecDepth 20000 in
theorem c_X9_passNumbers (l : Launch) (g : zG) (σ : zST) (Post : zST → Prop) (h : wp_X9_passNumbers σ Post) : Met l yX9_passNumbers (Cond.code yX9_passNumbers cX9_passNumbers 1 none :: zGW) (zRm 1 22) (va_Pc [.ref (g.2.1 69)] (zPP g σ)) (va_Qv Post (zBB g) (zA g)) 0 0 (zA g) :=
  zMet (by decide) (Nat.le_of_ble_eq_true rfl) (fun p e s m below meth c hr C => g_X9_passNumbers C (fun σ pc lv hp hd => zr_vret C hr hp hd) h)
def wp_X9_passAll_L6 (K114 : zST → Prop) : Nat → Int32 → zST → Prop
  | 0, _, _ => False
  | N + 1, v1, σ => (if (6 : Int32) ≤ v1 then K114 σ else vp_in v1 6 ∧ wp_X9_pass (σ.1 70 v1.toNatClampNeg) σ (fun r5 σ6 => vp_in v1 6 ∧ vp_in v1 6 ∧ ∀ σ9 : zST, σ9 = (wI σ6 70 v1.toNatClampNeg r5) → wp_X9_pass (σ9.1 71 v1.toNatClampNeg) σ9 (fun r10 σ11 => vp_in v1 6 ∧ vp_in v1 6 ∧ ∀ σ14 : zST, σ14 = (wI σ11 71 v1.toNatClampNeg r10) → wp_X9_pass (σ14.1 72 v1.toNatClampNeg) σ14 (fun r15 σ16 => vp_in v1 6 ∧ vp_in v1 6 ∧ ∀ σ19 : zST, σ19 = (wI σ16 72 v1.toNatClampNeg r15) → wp_X9_pass (σ19.1 73 v1.toNatClampNeg) σ19 (fun r20 σ21 => vp_in v1 6 ∧ vp_in v1 6 ∧ ∀ σ24 : zST, σ24 = (wI σ21 73 v1.toNatClampNeg r20) → wp_X9_pass (σ24.1 78 v1.toNatClampNeg) σ24 (fun r25 σ26 => vp_in v1 6 ∧ vp_in v1 6 ∧ ∀ σ29 : zST, σ29 = (wI σ26 78 v1.toNatClampNeg r25) → wp_X9_pass (σ29.1 79 v1.toNatClampNeg) σ29 (fun r30 σ31 => vp_in v1 6 ∧ wp_X9_passAll_L6 K114 N (v1 + 1) (wI σ31 79 v1.toNatClampNeg r30))))))))

set_option maxRecDepth 100000 in
set_option maxHeartbeats 4000000 in
theorem g_X9_passAll_L6 {p : Program} {l : Launch} {e : Env} {R : Room} {s : State} {m : MethodId} {args : Array Value} {below : List Frame} {meth : Method} {c : Code} {Q : State → Prop} {g : zG} {n1 n2 : Nat} (C : zCX p R s m args meth c g n1 n2 cX9_passAll 2 RX9 2 42) {K114 : zST → Prop} (hK114 : ∀ (σ : zST), K114 σ → zGG p l e R s m args below meth c Q g n1 n2 2 114 [(0, .ref (g.2.1 69))] [] σ) : ∀ (N : Nat) (v1 : Int32) (σ : zST) , wp_X9_passAll_L6 K114 N v1 σ → zGG p l e R s m args below meth c Q g n1 n2 2 6 [(0, .ref (g.2.1 69)), (1, .int v1)] [] σ := by
  intro N
  induction N with
  | zero =>
    intro v1 σ h
    exact h.elim
  | succ N ih =>
    intro v1 σ h
    rw [wp_X9_passAll_L6] at h
    refine zr_iload_n C (zo_27 (p := 6) (zby_w zwX9_passAll_0 6 rfl)) rfl ?_
    refine zr_bipush C (6 : Int32) (zo_16 (p := 7) (k := 6) (a := 6) (zby_w zwX9_passAll_0 7 rfl) (zby_w zwX9_passAll_0 8 rfl) (by decide)) (by decide) ?_
    refine zr_icmp_ge C 114 (zo_162 (p := 9) (k := 105) (a := 0) (b := 105) (zby_w zwX9_passAll_0 9 rfl) (zby_w zwX9_passAll_0 10 rfl) (zby_w zwX9_passAll_0 11 rfl) (by decide)) (by decide) (fun hc3 => ?_) (fun hc3 => ?_)
    · rw [if_pos hc3] at h
      exact zr_pick [0] rfl (hK114 σ h)
    · rw [if_neg hc3] at h
      refine zr_aload_n C (zo_42 (p := 12) (zby_w zwX9_passAll_0 12 rfl)) rfl ?_
      refine zr_getr (u := 70) C fw_X9_7 (sh_69) rfl (zo_180 (p := 13) (k := 7) (a := 0) (b := 7) (zby_w zwX9_passAll_0 13 rfl) (zby_w zwX9_passAll_0 14 rfl) (zby_w zwX9_passAll_0 15 rfl) (by decide)) ?_
      refine zr_iload_n C (zo_27 (p := 16) (zby_w zwX9_passAll_0 16 rfl)) rfl ?_
      refine zr_aload_n C (zo_42 (p := 17) (zby_w zwX9_passAll_0 17 rfl)) rfl ?_
      refine zr_aload_n C (zo_42 (p := 18) (zby_w zwX9_passAll_0 18 rfl)) rfl ?_
      refine zr_getr (u := 70) C fw_X9_7 (sh_69) rfl (zo_180 (p := 19) (k := 7) (a := 0) (b := 7) (zby_w zwX9_passAll_0 19 rfl) (zby_w zwX9_passAll_0 20 rfl) (zby_w zwX9_passAll_0 21 rfl) (by decide)) ?_
      refine zr_iload_n C (zo_27 (p := 22) (zby_w zwX9_passAll_0 22 rfl)) rfl ?_
      obtain ⟨ho4, h⟩ := h
      refine zr_iald C (sh_70) ho4 (zo_46 (p := 23) (zby_w zwX9_passAll_0 23 rfl)) ?_
      refine zr_ci (zr_runV (As := [.int (σ.1 70 v1.toNatClampNeg)]) (rest := [.int v1, .ref (g.2.1 70)]) C vw_X9_309 (c_X9_pass l g (σ.1 70 v1.toNatClampNeg) σ _ h) (sh_69) rfl (by decide) (by decide) rfl rfl (Nat.le_of_ble_eq_true rfl) (zo_182 (p := 24) (k := 309) (a := 1) (b := 53) (zby_w zwX9_passAll_0 24 rfl) (zby_w zwX9_passAll_0 25 rfl) (zby_w zwX9_passAll_0 26 rfl) (by decide))) (fun r5 σ6 h => ?_)
      obtain ⟨ho7, h⟩ := h
      refine zr_iast C (sh_70) ho7 (zo_79 (p := 27) (zby_w zwX9_passAll_0 27 rfl)) ?_
      refine zr_aload_n C (zo_42 (p := 28) (zby_w zwX9_passAll_0 28 rfl)) rfl ?_
      refine zr_getr (u := 71) C fw_X9_13 (sh_69) rfl (zo_180 (p := 29) (k := 13) (a := 0) (b := 13) (zby_w zwX9_passAll_0 29 rfl) (zby_w zwX9_passAll_0 30 rfl) (zby_w zwX9_passAll_0 31 rfl) (by decide)) ?_
      refine zr_iload_n C (zo_27 (p := 32) (zby_w zwX9_passAll_1 0 rfl)) rfl ?_
      refine zr_aload_n C (zo_42 (p := 33) (zby_w zwX9_passAll_1 1 rfl)) rfl ?_
      refine zr_aload_n C (zo_42 (p := 34) (zby_w zwX9_passAll_1 2 rfl)) rfl ?_
      refine zr_getr (u := 71) C fw_X9_13 (sh_69) rfl (zo_180 (p := 35) (k := 13) (a := 0) (b := 13) (zby_w zwX9_passAll_1 3 rfl) (zby_w zwX9_passAll_1 4 rfl) (zby_w zwX9_passAll_1 5 rfl) (by decide)) ?_
      refine zr_iload_n C (zo_27 (p := 38) (zby_w zwX9_passAll_1 6 rfl)) rfl ?_
      obtain ⟨ho8, h⟩ := h
      refine zr_tops (fun σ9 hσ9 => ?_)
      replace h := h σ9 hσ9
      refine zr_iald C (sh_71) ho8 (zo_46 (p := 39) (zby_w zwX9_passAll_1 7 rfl)) ?_
      refine zr_ci (zr_runV (As := [.int (σ9.1 71 v1.toNatClampNeg)]) (rest := [.int v1, .ref (g.2.1 71)]) C vw_X9_309 (c_X9_pass l g (σ9.1 71 v1.toNatClampNeg) σ9 _ h) (sh_69) rfl (by decide) (by decide) rfl rfl (Nat.le_of_ble_eq_true rfl) (zo_182 (p := 40) (k := 309) (a := 1) (b := 53) (zby_w zwX9_passAll_1 8 rfl) (zby_w zwX9_passAll_1 9 rfl) (zby_w zwX9_passAll_1 10 rfl) (by decide))) (fun r10 σ11 h => ?_)
      obtain ⟨ho12, h⟩ := h
      refine zr_iast C (sh_71) ho12 (zo_79 (p := 43) (zby_w zwX9_passAll_1 11 rfl)) ?_
      refine zr_aload_n C (zo_42 (p := 44) (zby_w zwX9_passAll_1 12 rfl)) rfl ?_
      refine zr_getr (u := 72) C fw_X9_16 (sh_69) rfl (zo_180 (p := 45) (k := 16) (a := 0) (b := 16) (zby_w zwX9_passAll_1 13 rfl) (zby_w zwX9_passAll_1 14 rfl) (zby_w zwX9_passAll_1 15 rfl) (by decide)) ?_
      refine zr_iload_n C (zo_27 (p := 48) (zby_w zwX9_passAll_1 16 rfl)) rfl ?_
      refine zr_aload_n C (zo_42 (p := 49) (zby_w zwX9_passAll_1 17 rfl)) rfl ?_
      refine zr_aload_n C (zo_42 (p := 50) (zby_w zwX9_passAll_1 18 rfl)) rfl ?_
      refine zr_getr (u := 72) C fw_X9_16 (sh_69) rfl (zo_180 (p := 51) (k := 16) (a := 0) (b := 16) (zby_w zwX9_passAll_1 19 rfl) (zby_w zwX9_passAll_1 20 rfl) (zby_w zwX9_passAll_1 21 rfl) (by decide)) ?_
      refine zr_iload_n C (zo_27 (p := 54) (zby_w zwX9_passAll_1 22 rfl)) rfl ?_
      obtain ⟨ho13, h⟩ := h
      refine zr_tops (fun σ14 hσ14 => ?_)
      replace h := h σ14 hσ14
      refine zr_iald C (sh_72) ho13 (zo_46 (p := 55) (zby_w zwX9_passAll_1 23 rfl)) ?_
      refine zr_ci (zr_runV (As := [.int (σ14.1 72 v1.toNatClampNeg)]) (rest := [.int v1, .ref (g.2.1 72)]) C vw_X9_309 (c_X9_pass l g (σ14.1 72 v1.toNatClampNeg) σ14 _ h) (sh_69) rfl (by decide) (by decide) rfl rfl (Nat.le_of_ble_eq_true rfl) (zo_182 (p := 56) (k := 309) (a := 1) (b := 53) (zby_w zwX9_passAll_1 24 rfl) (zby_w zwX9_passAll_1 25 rfl) (zby_w zwX9_passAll_1 26 rfl) (by decide))) (fun r15 σ16 h => ?_)
      obtain ⟨ho17, h⟩ := h
      refine zr_iast C (sh_72) ho17 (zo_79 (p := 59) (zby_w zwX9_passAll_1 27 rfl)) ?_
      refine zr_aload_n C (zo_42 (p := 60) (zby_w zwX9_passAll_1 28 rfl)) rfl ?_
      refine zr_getr (u := 73) C fw_X9_19 (sh_69) rfl (zo_180 (p := 61) (k := 19) (a := 0) (b := 19) (zby_w zwX9_passAll_1 29 rfl) (zby_w zwX9_passAll_1 30 rfl) (zby_w zwX9_passAll_1 31 rfl) (by decide)) ?_
      refine zr_iload_n C (zo_27 (p := 64) (zby_w zwX9_passAll_2 0 rfl)) rfl ?_
      refine zr_aload_n C (zo_42 (p := 65) (zby_w zwX9_passAll_2 1 rfl)) rfl ?_
      refine zr_aload_n C (zo_42 (p := 66) (zby_w zwX9_passAll_2 2 rfl)) rfl ?_
      refine zr_getr (u := 73) C fw_X9_19 (sh_69) rfl (zo_180 (p := 67) (k := 19) (a := 0) (b := 19) (zby_w zwX9_passAll_2 3 rfl) (zby_w zwX9_passAll_2 4 rfl) (zby_w zwX9_passAll_2 5 rfl) (by decide)) ?_
      refine zr_iload_n C (zo_27 (p := 70) (zby_w zwX9_passAll_2 6 rfl)) rfl ?_
      obtain ⟨ho18, h⟩ := h
      refine zr_tops (fun σ19 hσ19 => ?_)
      replace h := h σ19 hσ19
      refine zr_iald C (sh_73) ho18 (zo_46 (p := 71) (zby_w zwX9_passAll_2 7 rfl)) ?_
      refine zr_ci (zr_runV (As := [.int (σ19.1 73 v1.toNatClampNeg)]) (rest := [.int v1, .ref (g.2.1 73)]) C vw_X9_309 (c_X9_pass l g (σ19.1 73 v1.toNatClampNeg) σ19 _ h) (sh_69) rfl (by decide) (by decide) rfl rfl (Nat.le_of_ble_eq_true rfl) (zo_182 (p := 72) (k := 309) (a := 1) (b := 53) (zby_w zwX9_passAll_2 8 rfl) (zby_w zwX9_passAll_2 9 rfl) (zby_w zwX9_passAll_2 10 rfl) (by decide))) (fun r20 σ21 h => ?_)
      obtain ⟨ho22, h⟩ := h
      refine zr_iast C (sh_73) ho22 (zo_79 (p := 75) (zby_w zwX9_passAll_2 11 rfl)) ?_
      refine zr_aload_n C (zo_42 (p := 76) (zby_w zwX9_passAll_2 12 rfl)) rfl ?_
      refine zr_getr (u := 78) C fw_X9_34 (sh_69) rfl (zo_180 (p := 77) (k := 34) (a := 0) (b := 34) (zby_w zwX9_passAll_2 13 rfl) (zby_w zwX9_passAll_2 14 rfl) (zby_w zwX9_passAll_2 15 rfl) (by decide)) ?_
      refine zr_iload_n C (zo_27 (p := 80) (zby_w zwX9_passAll_2 16 rfl)) rfl ?_
      refine zr_aload_n C (zo_42 (p := 81) (zby_w zwX9_passAll_2 17 rfl)) rfl ?_
      refine zr_aload_n C (zo_42 (p := 82) (zby_w zwX9_passAll_2 18 rfl)) rfl ?_
      refine zr_getr (u := 78) C fw_X9_34 (sh_69) rfl (zo_180 (p := 83) (k := 34) (a := 0) (b := 34) (zby_w zwX9_passAll_2 19 rfl) (zby_w zwX9_passAll_2 20 rfl) (zby_w zwX9_passAll_2 21 rfl) (by decide)) ?_
      refine zr_iload_n C (zo_27 (p := 86) (zby_w zwX9_passAll_2 22 rfl)) rfl ?_
      obtain ⟨ho23, h⟩ := h
      refine zr_tops (fun σ24 hσ24 => ?_)
      replace h := h σ24 hσ24
      refine zr_iald C (sh_78) ho23 (zo_46 (p := 87) (zby_w zwX9_passAll_2 23 rfl)) ?_
      refine zr_ci (zr_runV (As := [.int (σ24.1 78 v1.toNatClampNeg)]) (rest := [.int v1, .ref (g.2.1 78)]) C vw_X9_309 (c_X9_pass l g (σ24.1 78 v1.toNatClampNeg) σ24 _ h) (sh_69) rfl (by decide) (by decide) rfl rfl (Nat.le_of_ble_eq_true rfl) (zo_182 (p := 88) (k := 309) (a := 1) (b := 53) (zby_w zwX9_passAll_2 24 rfl) (zby_w zwX9_passAll_2 25 rfl) (zby_w zwX9_passAll_2 26 rfl) (by decide))) (fun r25 σ26 h => ?_)
      obtain ⟨ho27, h⟩ := h
      refine zr_iast C (sh_78) ho27 (zo_79 (p := 91) (zby_w zwX9_passAll_2 27 rfl)) ?_
      refine zr_aload_n C (zo_42 (p := 92) (zby_w zwX9_passAll_2 28 rfl)) rfl ?_
      refine zr_getr (u := 79) C fw_X9_37 (sh_69) rfl (zo_180 (p := 93) (k := 37) (a := 0) (b := 37) (zby_w zwX9_passAll_2 29 rfl) (zby_w zwX9_passAll_2 30 rfl) (zby_w zwX9_passAll_2 31 rfl) (by decide)) ?_
      refine zr_iload_n C (zo_27 (p := 96) (zby_w zwX9_passAll_3 0 rfl)) rfl ?_
      refine zr_aload_n C (zo_42 (p := 97) (zby_w zwX9_passAll_3 1 rfl)) rfl ?_
      refine zr_aload_n C (zo_42 (p := 98) (zby_w zwX9_passAll_3 2 rfl)) rfl ?_
      refine zr_getr (u := 79) C fw_X9_37 (sh_69) rfl (zo_180 (p := 99) (k := 37) (a := 0) (b := 37) (zby_w zwX9_passAll_3 3 rfl) (zby_w zwX9_passAll_3 4 rfl) (zby_w zwX9_passAll_3 5 rfl) (by decide)) ?_
      refine zr_iload_n C (zo_27 (p := 102) (zby_w zwX9_passAll_3 6 rfl)) rfl ?_
      obtain ⟨ho28, h⟩ := h
      refine zr_tops (fun σ29 hσ29 => ?_)
      replace h := h σ29 hσ29
      refine zr_iald C (sh_79) ho28 (zo_46 (p := 103) (zby_w zwX9_passAll_3 7 rfl)) ?_
      refine zr_ci (zr_runV (As := [.int (σ29.1 79 v1.toNatClampNeg)]) (rest := [.int v1, .ref (g.2.1 79)]) C vw_X9_309 (c_X9_pass l g (σ29.1 79 v1.toNatClampNeg) σ29 _ h) (sh_69) rfl (by decide) (by decide) rfl rfl (Nat.le_of_ble_eq_true rfl) (zo_182 (p := 104) (k := 309) (a := 1) (b := 53) (zby_w zwX9_passAll_3 8 rfl) (zby_w zwX9_passAll_3 9 rfl) (zby_w zwX9_passAll_3 10 rfl) (by decide))) (fun r30 σ31 h => ?_)
      obtain ⟨ho32, h⟩ := h
      refine zr_iast C (sh_79) ho32 (zo_79 (p := 107) (zby_w zwX9_passAll_3 11 rfl)) ?_
      refine zr_iinc C (v1 + 1) [(1, .int (v1 + 1)), (0, .ref (g.2.1 69))] d_X9_passAll_108 rfl rfl (by decide) rfl ?_
      refine zr_goto C 6 (zo_167 (p := 111) (k := (-105)) (a := 255) (b := 151) (zby_w zwX9_passAll_3 15 rfl) (zby_w zwX9_passAll_3 16 rfl) (zby_w zwX9_passAll_3 17 rfl) (by decide)) (by decide) ?_
      exact zr_pick [1, 0] rfl (ih (v1 + 1) (wI σ31 79 v1.toNatClampNeg r30) h)

def wp_X9_passAll_L116 (K159 : zST → Prop) : Nat → Int32 → zST → Prop
  | 0, _, _ => False
  | N + 1, v1, σ => (if (4 : Int32) ≤ v1 then K159 σ else vp_in v1 4 ∧ wp_X9_pass (σ.1 75 v1.toNatClampNeg) σ (fun r35 σ36 => vp_in v1 4 ∧ vp_in v1 4 ∧ ∀ σ39 : zST, σ39 = (wI σ36 75 v1.toNatClampNeg r35) → wp_X9_pass (σ39.1 76 v1.toNatClampNeg) σ39 (fun r40 σ41 => vp_in v1 4 ∧ wp_X9_passAll_L116 K159 N (v1 + 1) (wI σ41 76 v1.toNatClampNeg r40))))

set_option maxRecDepth 100000 in
set_option maxHeartbeats 4000000 in
theorem g_X9_passAll_L116 {p : Program} {l : Launch} {e : Env} {R : Room} {s : State} {m : MethodId} {args : Array Value} {below : List Frame} {meth : Method} {c : Code} {Q : State → Prop} {g : zG} {n1 n2 : Nat} (C : zCX p R s m args meth c g n1 n2 cX9_passAll 2 RX9 2 42) {K159 : zST → Prop} (hK159 : ∀ (σ : zST), K159 σ → zGG p l e R s m args below meth c Q g n1 n2 2 159 [(0, .ref (g.2.1 69))] [] σ) : ∀ (N : Nat) (v1 : Int32) (σ : zST) , wp_X9_passAll_L116 K159 N v1 σ → zGG p l e R s m args below meth c Q g n1 n2 2 116 [(0, .ref (g.2.1 69)), (1, .int v1)] [] σ := by
  intro N
  induction N with
  | zero =>
    intro v1 σ h
    exact h.elim
  | succ N ih =>
    intro v1 σ h
    rw [wp_X9_passAll_L116] at h
    refine zr_iload_n C (zo_27 (p := 116) (zby_w zwX9_passAll_3 20 rfl)) rfl ?_
    refine zr_iconst C (4 : Int32) (zo_7 (p := 117) (zby_w zwX9_passAll_3 21 rfl)) (by decide) ?_
    refine zr_icmp_ge C 159 (zo_162 (p := 118) (k := 41) (a := 0) (b := 41) (zby_w zwX9_passAll_3 22 rfl) (zby_w zwX9_passAll_3 23 rfl) (zby_w zwX9_passAll_3 24 rfl) (by decide)) (by decide) (fun hc33 => ?_) (fun hc33 => ?_)
    · rw [if_pos hc33] at h
      exact zr_pick [0] rfl (hK159 σ h)
    · rw [if_neg hc33] at h
      refine zr_aload_n C (zo_42 (p := 121) (zby_w zwX9_passAll_3 25 rfl)) rfl ?_
      refine zr_getr (u := 75) C fw_X9_25 (sh_69) rfl (zo_180 (p := 122) (k := 25) (a := 0) (b := 25) (zby_w zwX9_passAll_3 26 rfl) (zby_w zwX9_passAll_3 27 rfl) (zby_w zwX9_passAll_3 28 rfl) (by decide)) ?_
      refine zr_iload_n C (zo_27 (p := 125) (zby_w zwX9_passAll_3 29 rfl)) rfl ?_
      refine zr_aload_n C (zo_42 (p := 126) (zby_w zwX9_passAll_3 30 rfl)) rfl ?_
      refine zr_aload_n C (zo_42 (p := 127) (zby_w zwX9_passAll_3 31 rfl)) rfl ?_
      refine zr_getr (u := 75) C fw_X9_25 (sh_69) rfl (zo_180 (p := 128) (k := 25) (a := 0) (b := 25) (zby_w zwX9_passAll_4 0 rfl) (zby_w zwX9_passAll_4 1 rfl) (zby_w zwX9_passAll_4 2 rfl) (by decide)) ?_
      refine zr_iload_n C (zo_27 (p := 131) (zby_w zwX9_passAll_4 3 rfl)) rfl ?_
      obtain ⟨ho34, h⟩ := h
      refine zr_iald C (sh_75) ho34 (zo_46 (p := 132) (zby_w zwX9_passAll_4 4 rfl)) ?_
      refine zr_ci (zr_runV (As := [.int (σ.1 75 v1.toNatClampNeg)]) (rest := [.int v1, .ref (g.2.1 75)]) C vw_X9_309 (c_X9_pass l g (σ.1 75 v1.toNatClampNeg) σ _ h) (sh_69) rfl (by decide) (by decide) rfl rfl (Nat.le_of_ble_eq_true rfl) (zo_182 (p := 133) (k := 309) (a := 1) (b := 53) (zby_w zwX9_passAll_4 5 rfl) (zby_w zwX9_passAll_4 6 rfl) (zby_w zwX9_passAll_4 7 rfl) (by decide))) (fun r35 σ36 h => ?_)
      obtain ⟨ho37, h⟩ := h
      refine zr_iast C (sh_75) ho37 (zo_79 (p := 136) (zby_w zwX9_passAll_4 8 rfl)) ?_
      refine zr_aload_n C (zo_42 (p := 137) (zby_w zwX9_passAll_4 9 rfl)) rfl ?_
      refine zr_getr (u := 76) C fw_X9_28 (sh_69) rfl (zo_180 (p := 138) (k := 28) (a := 0) (b := 28) (zby_w zwX9_passAll_4 10 rfl) (zby_w zwX9_passAll_4 11 rfl) (zby_w zwX9_passAll_4 12 rfl) (by decide)) ?_
      refine zr_iload_n C (zo_27 (p := 141) (zby_w zwX9_passAll_4 13 rfl)) rfl ?_
      refine zr_aload_n C (zo_42 (p := 142) (zby_w zwX9_passAll_4 14 rfl)) rfl ?_
      refine zr_aload_n C (zo_42 (p := 143) (zby_w zwX9_passAll_4 15 rfl)) rfl ?_
      refine zr_getr (u := 76) C fw_X9_28 (sh_69) rfl (zo_180 (p := 144) (k := 28) (a := 0) (b := 28) (zby_w zwX9_passAll_4 16 rfl) (zby_w zwX9_passAll_4 17 rfl) (zby_w zwX9_passAll_4 18 rfl) (by decide)) ?_
      refine zr_iload_n C (zo_27 (p := 147) (zby_w zwX9_passAll_4 19 rfl)) rfl ?_
      obtain ⟨ho38, h⟩ := h
      refine zr_tops (fun σ39 hσ39 => ?_)
      replace h := h σ39 hσ39
      refine zr_iald C (sh_76) ho38 (zo_46 (p := 148) (zby_w zwX9_passAll_4 20 rfl)) ?_
      refine zr_ci (zr_runV (As := [.int (σ39.1 76 v1.toNatClampNeg)]) (rest := [.int v1, .ref (g.2.1 76)]) C vw_X9_309 (c_X9_pass l g (σ39.1 76 v1.toNatClampNeg) σ39 _ h) (sh_69) rfl (by decide) (by decide) rfl rfl (Nat.le_of_ble_eq_true rfl) (zo_182 (p := 149) (k := 309) (a := 1) (b := 53) (zby_w zwX9_passAll_4 21 rfl) (zby_w zwX9_passAll_4 22 rfl) (zby_w zwX9_passAll_4 23 rfl) (by decide))) (fun r40 σ41 h => ?_)
      obtain ⟨ho42, h⟩ := h
      refine zr_iast C (sh_76) ho42 (zo_79 (p := 152) (zby_w zwX9_passAll_4 24 rfl)) ?_
      refine zr_iinc C (v1 + 1) [(1, .int (v1 + 1)), (0, .ref (g.2.1 69))] d_X9_passAll_153 rfl rfl (by decide) rfl ?_
      refine zr_goto C 116 (zo_167 (p := 156) (k := (-40)) (a := 255) (b := 216) (zby_w zwX9_passAll_4 28 rfl) (zby_w zwX9_passAll_4 29 rfl) (zby_w zwX9_passAll_4 30 rfl) (by decide)) (by decide) ?_
      exact zr_pick [1, 0] rfl (ih (v1 + 1) (wI σ41 76 v1.toNatClampNeg r40) h)

def wp_X9_passAll_L161 (K189 : zST → Prop) : Nat → Int32 → zST → Prop
  | 0, _, _ => False
  | N + 1, v1, σ => (if (8 : Int32) ≤ v1 then K189 σ else vp_in v1 8 ∧ wp_X9_pass (σ.1 77 v1.toNatClampNeg) σ (fun r45 σ46 => vp_in v1 8 ∧ wp_X9_passAll_L161 K189 N (v1 + 1) (wI σ46 77 v1.toNatClampNeg r45)))

set_option maxRecDepth 100000 in
set_option maxHeartbeats 4000000 in
theorem g_X9_passAll_L161 {p : Program} {l : Launch} {e : Env} {R : Room} {s : State} {m : MethodId} {args : Array Value} {below : List Frame} {meth : Method} {c : Code} {Q : State → Prop} {g : zG} {n1 n2 : Nat} (C : zCX p R s m args meth c g n1 n2 cX9_passAll 2 RX9 2 42) {K189 : zST → Prop} (hK189 : ∀ (σ : zST), K189 σ → zGG p l e R s m args below meth c Q g n1 n2 2 189 [(0, .ref (g.2.1 69))] [] σ) : ∀ (N : Nat) (v1 : Int32) (σ : zST) , wp_X9_passAll_L161 K189 N v1 σ → zGG p l e R s m args below meth c Q g n1 n2 2 161 [(0, .ref (g.2.1 69)), (1, .int v1)] [] σ := by
  intro N
  induction N with
  | zero =>
    intro v1 σ h
    exact h.elim
  | succ N ih =>
    intro v1 σ h
    rw [wp_X9_passAll_L161] at h
    refine zr_iload_n C (zo_27 (p := 161) (zby_w zwX9_passAll_5 1 rfl)) rfl ?_
    refine zr_bipush C (8 : Int32) (zo_16 (p := 162) (k := 8) (a := 8) (zby_w zwX9_passAll_5 2 rfl) (zby_w zwX9_passAll_5 3 rfl) (by decide)) (by decide) ?_
    refine zr_icmp_ge C 189 (zo_162 (p := 164) (k := 25) (a := 0) (b := 25) (zby_w zwX9_passAll_5 4 rfl) (zby_w zwX9_passAll_5 5 rfl) (zby_w zwX9_passAll_5 6 rfl) (by decide)) (by decide) (fun hc43 => ?_) (fun hc43 => ?_)
    · rw [if_pos hc43] at h
      exact zr_pick [0] rfl (hK189 σ h)
    · rw [if_neg hc43] at h
      refine zr_aload_n C (zo_42 (p := 167) (zby_w zwX9_passAll_5 7 rfl)) rfl ?_
      refine zr_getr (u := 77) C fw_X9_31 (sh_69) rfl (zo_180 (p := 168) (k := 31) (a := 0) (b := 31) (zby_w zwX9_passAll_5 8 rfl) (zby_w zwX9_passAll_5 9 rfl) (zby_w zwX9_passAll_5 10 rfl) (by decide)) ?_
      refine zr_iload_n C (zo_27 (p := 171) (zby_w zwX9_passAll_5 11 rfl)) rfl ?_
      refine zr_aload_n C (zo_42 (p := 172) (zby_w zwX9_passAll_5 12 rfl)) rfl ?_
      refine zr_aload_n C (zo_42 (p := 173) (zby_w zwX9_passAll_5 13 rfl)) rfl ?_
      refine zr_getr (u := 77) C fw_X9_31 (sh_69) rfl (zo_180 (p := 174) (k := 31) (a := 0) (b := 31) (zby_w zwX9_passAll_5 14 rfl) (zby_w zwX9_passAll_5 15 rfl) (zby_w zwX9_passAll_5 16 rfl) (by decide)) ?_
      refine zr_iload_n C (zo_27 (p := 177) (zby_w zwX9_passAll_5 17 rfl)) rfl ?_
      obtain ⟨ho44, h⟩ := h
      refine zr_iald C (sh_77) ho44 (zo_46 (p := 178) (zby_w zwX9_passAll_5 18 rfl)) ?_
      refine zr_ci (zr_runV (As := [.int (σ.1 77 v1.toNatClampNeg)]) (rest := [.int v1, .ref (g.2.1 77)]) C vw_X9_309 (c_X9_pass l g (σ.1 77 v1.toNatClampNeg) σ _ h) (sh_69) rfl (by decide) (by decide) rfl rfl (Nat.le_of_ble_eq_true rfl) (zo_182 (p := 179) (k := 309) (a := 1) (b := 53) (zby_w zwX9_passAll_5 19 rfl) (zby_w zwX9_passAll_5 20 rfl) (zby_w zwX9_passAll_5 21 rfl) (by decide))) (fun r45 σ46 h => ?_)
      obtain ⟨ho47, h⟩ := h
      refine zr_iast C (sh_77) ho47 (zo_79 (p := 182) (zby_w zwX9_passAll_5 22 rfl)) ?_
      refine zr_iinc C (v1 + 1) [(1, .int (v1 + 1)), (0, .ref (g.2.1 69))] d_X9_passAll_183 rfl rfl (by decide) rfl ?_
      refine zr_goto C 161 (zo_167 (p := 186) (k := (-25)) (a := 255) (b := 231) (zby_w zwX9_passAll_5 26 rfl) (zby_w zwX9_passAll_5 27 rfl) (zby_w zwX9_passAll_5 28 rfl) (by decide)) (by decide) ?_
      exact zr_pick [1, 0] rfl (ih (v1 + 1) (wI σ46 77 v1.toNatClampNeg r45) h)

def wp_X9_passAll_L191 (Post : zST → Prop) : Nat → Int32 → zST → Prop
  | 0, _, _ => False
  | N + 1, v1, σ => (if (24 : Int32) ≤ v1 then Post σ else vp_in v1 24 ∧ wp_X9_pass (σ.1 74 v1.toNatClampNeg) σ (fun r50 σ51 => vp_in v1 24 ∧ wp_X9_passAll_L191 Post N (v1 + 1) (wI σ51 74 v1.toNatClampNeg r50)))

set_option maxRecDepth 100000 in
set_option maxHeartbeats 4000000 in
theorem g_X9_passAll_L191 {p : Program} {l : Launch} {e : Env} {R : Room} {s : State} {m : MethodId} {args : Array Value} {below : List Frame} {meth : Method} {c : Code} {Q : State → Prop} {g : zG} {n1 n2 : Nat} (C : zCX p R s m args meth c g n1 n2 cX9_passAll 2 RX9 2 42)  {Post : zST → Prop} (hret : ∀ (σ : zST) (pc : Nat) (lv : List (Nat × Value)), Post σ → decode cX9_passAll pc = .ok (.return_, 1) → zGG p l e R s m args below meth c Q g n1 n2 2 pc lv [] σ) : ∀ (N : Nat) (v1 : Int32) (σ : zST) , wp_X9_passAll_L191 Post N v1 σ → zGG p l e R s m args below meth c Q g n1 n2 2 191 [(0, .ref (g.2.1 69)), (1, .int v1)] [] σ := by
  intro N
  induction N with
  | zero =>
    intro v1 σ h
    exact h.elim
  | succ N ih =>
    intro v1 σ h
    rw [wp_X9_passAll_L191] at h
    refine zr_iload_n C (zo_27 (p := 191) (zby_w zwX9_passAll_5 31 rfl)) rfl ?_
    refine zr_bipush C (24 : Int32) (zo_16 (p := 192) (k := 24) (a := 24) (zby_w zwX9_passAll_6 0 rfl) (zby_w zwX9_passAll_6 1 rfl) (by decide)) (by decide) ?_
    refine zr_icmp_ge C 219 (zo_162 (p := 194) (k := 25) (a := 0) (b := 25) (zby_w zwX9_passAll_6 2 rfl) (zby_w zwX9_passAll_6 3 rfl) (zby_w zwX9_passAll_6 4 rfl) (by decide)) (by decide) (fun hc48 => ?_) (fun hc48 => ?_)
    · rw [if_pos hc48] at h
      exact hret _ _ _ h (zo_177 (p := 219) (zby_w zwX9_passAll_6 27 rfl))
    · rw [if_neg hc48] at h
      refine zr_aload_n C (zo_42 (p := 197) (zby_w zwX9_passAll_6 5 rfl)) rfl ?_
      refine zr_getr (u := 74) C fw_X9_22 (sh_69) rfl (zo_180 (p := 198) (k := 22) (a := 0) (b := 22) (zby_w zwX9_passAll_6 6 rfl) (zby_w zwX9_passAll_6 7 rfl) (zby_w zwX9_passAll_6 8 rfl) (by decide)) ?_
      refine zr_iload_n C (zo_27 (p := 201) (zby_w zwX9_passAll_6 9 rfl)) rfl ?_
      refine zr_aload_n C (zo_42 (p := 202) (zby_w zwX9_passAll_6 10 rfl)) rfl ?_
      refine zr_aload_n C (zo_42 (p := 203) (zby_w zwX9_passAll_6 11 rfl)) rfl ?_
      refine zr_getr (u := 74) C fw_X9_22 (sh_69) rfl (zo_180 (p := 204) (k := 22) (a := 0) (b := 22) (zby_w zwX9_passAll_6 12 rfl) (zby_w zwX9_passAll_6 13 rfl) (zby_w zwX9_passAll_6 14 rfl) (by decide)) ?_
      refine zr_iload_n C (zo_27 (p := 207) (zby_w zwX9_passAll_6 15 rfl)) rfl ?_
      obtain ⟨ho49, h⟩ := h
      refine zr_iald C (sh_74) ho49 (zo_46 (p := 208) (zby_w zwX9_passAll_6 16 rfl)) ?_
      refine zr_ci (zr_runV (As := [.int (σ.1 74 v1.toNatClampNeg)]) (rest := [.int v1, .ref (g.2.1 74)]) C vw_X9_309 (c_X9_pass l g (σ.1 74 v1.toNatClampNeg) σ _ h) (sh_69) rfl (by decide) (by decide) rfl rfl (Nat.le_of_ble_eq_true rfl) (zo_182 (p := 209) (k := 309) (a := 1) (b := 53) (zby_w zwX9_passAll_6 17 rfl) (zby_w zwX9_passAll_6 18 rfl) (zby_w zwX9_passAll_6 19 rfl) (by decide))) (fun r50 σ51 h => ?_)
      obtain ⟨ho52, h⟩ := h
      refine zr_iast C (sh_74) ho52 (zo_79 (p := 212) (zby_w zwX9_passAll_6 20 rfl)) ?_
      refine zr_iinc C (v1 + 1) [(1, .int (v1 + 1)), (0, .ref (g.2.1 69))] d_X9_passAll_213 rfl rfl (by decide) rfl ?_
      refine zr_goto C 191 (zo_167 (p := 216) (k := (-25)) (a := 255) (b := 231) (zby_w zwX9_passAll_6 24 rfl) (zby_w zwX9_passAll_6 25 rfl) (zby_w zwX9_passAll_6 26 rfl) (by decide)) (by decide) ?_
      exact zr_pick [1, 0] rfl (ih (v1 + 1) (wI σ51 74 v1.toNatClampNeg r50) h)

def wp_X9_passAll (σ : zST) (Post : zST → Prop) : Prop := wp_X9_passNumbers σ (fun σ2 => ∃ M56 : Nat, wp_X9_passAll_L6 (fun σ => ∃ M55 : Nat, wp_X9_passAll_L116 (fun σ => ∃ M54 : Nat, wp_X9_passAll_L161 (fun σ => ∃ M53 : Nat, wp_X9_passAll_L191 Post M53 (0 : Int32) σ) M54 (0 : Int32) σ) M55 (0 : Int32) σ) M56 (0 : Int32) σ2)
set_option maxRecDepth 100000 in
set_option maxHeartbeats 4000000 in
theorem g_X9_passAll {p : Program} {l : Launch} {e : Env} {R : Room} {s : State} {m : MethodId} {args : Array Value} {below : List Frame} {meth : Method} {c : Code} {Q : State → Prop} {g : zG} {n1 n2 : Nat} (C : zCX p R s m args meth c g n1 n2 cX9_passAll 2 RX9 2 42) {σ : zST} {Post : zST → Prop} (hret : ∀ (σ : zST) (pc : Nat) (lv : List (Nat × Value)), Post σ → decode cX9_passAll pc = .ok (.return_, 1) → zGG p l e R s m args below meth c Q g n1 n2 2 pc lv [] σ) (h : wp_X9_passAll σ Post) : zGG p l e R s m args below meth c Q g n1 n2 2 0 [(0, .ref (g.2.1 69))] [] σ := by
  unfold wp_X9_passAll at h
  refine zr_aload_n C (zo_42 (p := 0) (zby_w zwX9_passAll_0 0 rfl)) rfl ?_
  refine zr_cv (zr_runV (As := []) (rest := []) C vw_X9_312 (c_X9_passNumbers l g σ _ h) (sh_69) rfl (by decide) (by decide) rfl rfl (Nat.le_of_ble_eq_true rfl) (zo_182 (p := 1) (k := 312) (a := 1) (b := 56) (zby_w zwX9_passAll_0 1 rfl) (zby_w zwX9_passAll_0 2 rfl) (zby_w zwX9_passAll_0 3 rfl) (by decide))) (fun σ2 h => ?_)
  refine zr_iconst C (0 : Int32) (zo_3 (p := 4) (zby_w zwX9_passAll_0 4 rfl)) (by decide) ?_
  refine zr_istore_n C [(1, .int (0 : Int32)), (0, .ref (g.2.1 69))] (zo_60 (p := 5) (zby_w zwX9_passAll_0 5 rfl)) (by decide) rfl ?_
  obtain ⟨M56, h⟩ := h
  exact zr_pick [1, 0] rfl (g_X9_passAll_L6 C (fun σ h => by
      refine zr_iconst C (0 : Int32) (zo_3 (p := 114) (zby_w zwX9_passAll_3 18 rfl)) (by decide) ?_
      refine zr_istore_n C [(1, .int (0 : Int32)), (0, .ref (g.2.1 69))] (zo_60 (p := 115) (zby_w zwX9_passAll_3 19 rfl)) (by decide) rfl ?_
      obtain ⟨M55, h⟩ := h
      exact zr_pick [1, 0] rfl (g_X9_passAll_L116 C (fun σ h => by
        refine zr_iconst C (0 : Int32) (zo_3 (p := 159) (zby_w zwX9_passAll_4 31 rfl)) (by decide) ?_
        refine zr_istore_n C [(1, .int (0 : Int32)), (0, .ref (g.2.1 69))] (zo_60 (p := 160) (zby_w zwX9_passAll_5 0 rfl)) (by decide) rfl ?_
        obtain ⟨M54, h⟩ := h
        exact zr_pick [1, 0] rfl (g_X9_passAll_L161 C (fun σ h => by
          refine zr_iconst C (0 : Int32) (zo_3 (p := 189) (zby_w zwX9_passAll_5 29 rfl)) (by decide) ?_
          refine zr_istore_n C [(1, .int (0 : Int32)), (0, .ref (g.2.1 69))] (zo_60 (p := 190) (zby_w zwX9_passAll_5 30 rfl)) (by decide) rfl ?_
          obtain ⟨M53, h⟩ := h
          exact zr_pick [1, 0] rfl (g_X9_passAll_L191 C hret M53 (0 : Int32) σ h)) M54 (0 : Int32) σ h)) M55 (0 : Int32) σ h)) M56 (0 : Int32) σ2 h)
set_option maxRecDepth 20000 in
theorem c_X9_passAll (l : Launch) (g : zG) (σ : zST) (Post : zST → Prop) (h : wp_X9_passAll σ Post) : Met l yX9_passAll (Cond.code yX9_passAll cX9_passAll 2 none :: zGW) (zRm 2 42) (va_Pc [.ref (g.2.1 69)] (zPP g σ)) (va_Qv Post (zBB g) (zA g)) 0 0 (zA g) :=
  zMet (by decide) (Nat.le_of_ble_eq_true rfl) (fun p e s m below meth c hr C => g_X9_passAll C (fun σ pc lv hp hd => zr_vret C hr hp hd) h)
def wp_X9_image (p1 : Int32) (σ : zST) (Post : Int32 → zST → Prop) : Prop := wp_X9_in (p1.toInt64) (0 : Int64) (1 : Int64) σ (fun r1 => (if r1 = (0) then Post (-2 : Int32) σ else ∀ σ4 : zST, σ4 = (wI (wI σ 69 38 ((120 : Int32) * p1)) 69 39 (1 : Int32)) → wp_X9_passAll σ4 (fun σ6 => vp_in p1 2 ∧ Post (1 : Int32) (wI σ6 86 p1.toNatClampNeg (1 : Int32)))))
set_option maxRecDepth 100000 in
set_option maxHeartbeats 4000000 in
theorem g_X9_image {p : Program} {l : Launch} {e : Env} {R : Room} {s : State} {m : MethodId} {args : Array Value} {below : List Frame} {meth : Method} {c : Code} {Q : State → Prop} {g : zG} {n1 n2 : Nat} (C : zCX p R s m args meth c g n1 n2 cX9_image 2 RX9 3 63) {p1 : Int32} {σ : zST} {Post : Int32 → zST → Prop} (hret : ∀ (v : Int32) (σ : zST) (pc : Nat) (lv : List (Nat × Value)), Post v σ → decode cX9_image pc = .ok (.ireturn, 1) → zGG p l e R s m args below meth c Q g n1 n2 2 pc lv [.int v] σ) (h : wp_X9_image p1 σ Post) : zGG p l e R s m args below meth c Q g n1 n2 2 0 [(0, .ref (g.2.1 69)), (1, .int p1)] [] σ := by
  unfold wp_X9_image at h
  refine zr_iload_n C (zo_27 (p := 0) (zby_w zwX9_image_0 0 rfl)) rfl ?_
  refine zr_i2l C (zo_133 (p := 1) (zby_w zwX9_image_0 1 rfl)) ?_
  refine zr_lconst C (0 : Int64) (zo_9 (p := 2) (zby_w zwX9_image_0 2 rfl)) (by decide) ?_
  refine zr_lconst C (1 : Int64) (zo_10 (p := 3) (zby_w zwX9_image_0 3 rfl)) (by decide) ?_
  refine zr_cip (zr_runS (As := [.long (p1.toInt64), .long (0 : Int64), .long (1 : Int64)]) (rest := []) C sw_X9_89 (c_X9_in l g (p1.toInt64) (0 : Int64) (1 : Int64) σ _ h) (by decide) (by decide) rfl rfl (Nat.le_of_ble_eq_true rfl) (zo_184 (p := 4) (k := 89) (a := 0) (b := 89) (zby_w zwX9_image_0 4 rfl) (zby_w zwX9_image_0 5 rfl) (zby_w zwX9_image_0 6 rfl) (by decide))) (fun r1 h => ?_)
  refine zr_if_ne C 13 (zo_154 (p := 7) (k := 6) (a := 0) (b := 6) (zby_w zwX9_image_0 7 rfl) (zby_w zwX9_image_0 8 rfl) (zby_w zwX9_image_0 9 rfl) (by decide)) (by decide) (fun hc3 => ?_) (fun hc3 => ?_)
  · rw [if_neg hc3] at h
    refine zr_aload_n C (zo_42 (p := 13) (zby_w zwX9_image_0 13 rfl)) rfl ?_
    refine zr_bipush C (120 : Int32) (zo_16 (p := 14) (k := 120) (a := 120) (zby_w zwX9_image_0 14 rfl) (zby_w zwX9_image_0 15 rfl) (by decide)) (by decide) ?_
    refine zr_iload_n C (zo_27 (p := 16) (zby_w zwX9_image_0 16 rfl)) rfl ?_
    refine zr_imul C (zo_104 (p := 17) (zby_w zwX9_image_0 17 rfl)) ?_
    refine zr_puti C fw_X9_306 pw_X9_38 (sh_69) rfl rfl rfl (zo_181 (p := 18) (k := 306) (a := 1) (b := 50) (zby_w zwX9_image_0 18 rfl) (zby_w zwX9_image_0 19 rfl) (zby_w zwX9_image_0 20 rfl) (by decide)) ?_
    refine zr_aload_n C (zo_42 (p := 21) (zby_w zwX9_image_0 21 rfl)) rfl ?_
    refine zr_iconst C (1 : Int32) (zo_4 (p := 22) (zby_w zwX9_image_0 22 rfl)) (by decide) ?_
    refine zr_puti C fw_X9_302 pw_X9_39 (sh_69) rfl rfl rfl (zo_181 (p := 23) (k := 302) (a := 1) (b := 46) (zby_w zwX9_image_0 23 rfl) (zby_w zwX9_image_0 24 rfl) (zby_w zwX9_image_0 25 rfl) (by decide)) ?_
    refine zr_aload_n C (zo_42 (p := 26) (zby_w zwX9_image_0 26 rfl)) rfl ?_
    refine zr_tops (fun σ4 hσ4 => ?_)
    replace h := h σ4 hσ4
    refine zr_cv (zr_runV (As := []) (rest := []) C vw_X9_315 (c_X9_passAll l g σ4 _ h) (sh_69) rfl (by decide) (by decide) rfl rfl (Nat.le_of_ble_eq_true rfl) (zo_182 (p := 27) (k := 315) (a := 1) (b := 59) (zby_w zwX9_image_0 27 rfl) (zby_w zwX9_image_0 28 rfl) (zby_w zwX9_image_0 29 rfl) (by decide))) (fun σ6 h => ?_)
    refine zr_aload_n C (zo_42 (p := 30) (zby_w zwX9_image_0 30 rfl)) rfl ?_
    refine zr_getr (u := 86) C fw_X9_58 (sh_69) rfl (zo_180 (p := 31) (k := 58) (a := 0) (b := 58) (zby_w zwX9_image_0 31 rfl) (zby_w zwX9_image_0 32 rfl) (zby_w zwX9_image_0 33 rfl) (by decide)) ?_
    refine zr_iload_n C (zo_27 (p := 34) (zby_w zwX9_image_1 2 rfl)) rfl ?_
    refine zr_iconst C (1 : Int32) (zo_4 (p := 35) (zby_w zwX9_image_1 3 rfl)) (by decide) ?_
    obtain ⟨ho7, h⟩ := h
    refine zr_zast C (sh_86) ho7 rfl (zo_84 (p := 36) (zby_w zwX9_image_1 4 rfl)) ?_
    refine zr_iconst C (1 : Int32) (zo_4 (p := 37) (zby_w zwX9_image_1 5 rfl)) (by decide) ?_
    exact hret _ _ _ _ h (zo_172 (p := 38) (zby_w zwX9_image_1 6 rfl))
  · rw [if_pos hc3] at h
    refine zr_bipush C (-2 : Int32) (zo_16 (p := 10) (k := (-2)) (a := 254) (zby_w zwX9_image_0 10 rfl) (zby_w zwX9_image_0 11 rfl) (by decide)) (by decide) ?_
    exact hret _ _ _ _ h (zo_172 (p := 12) (zby_w zwX9_image_0 12 rfl))
set_option maxRecDepth 20000 in
theorem c_X9_image (l : Launch) (g : zG) (p1 : Int32) (σ : zST) (Post : Int32 → zST → Prop) (h : wp_X9_image p1 σ Post) : Met l yX9_image (Cond.code yX9_image cX9_image 2 (some .int) :: zGW) (zRm 3 63) (va_Pc [.ref (g.2.1 69), .int p1] (zPP g σ)) (va_Qi Post (zBB g) (zA g)) 0 0 (zA g) :=
  zMet (by decide) (Nat.le_of_ble_eq_true rfl) (fun p e s m below meth c hr C => g_X9_image C (fun v σ pc lv hp hd => zr_iret C hr hp hd) h)
def wp_X9_restore (p1 : Int32) (σ : zST) (Post : Int32 → zST → Prop) : Prop := wp_X9_in (p1.toInt64) (0 : Int64) (1 : Int64) σ (fun r1 => (if r1 = (0) then Post (-2 : Int32) σ else vp_in p1 2 ∧ (if (σ.1 86 p1.toNatClampNeg) = (0) then Post (-3 : Int32) σ else ∀ σ6 : zST, σ6 = (wI (wI σ 69 38 ((120 : Int32) * p1)) 69 39 (0 : Int32)) → wp_X9_passAll σ6 (fun σ8 => Post (1 : Int32) σ8))))
set_option maxRecDepth 100000 in
set_option maxHeartbeats 4000000 in
theorem g_X9_restore {p : Program} {l : Launch} {e : Env} {R : Room} {s : State} {m : MethodId} {args : Array Value} {below : List Frame} {meth : Method} {c : Code} {Q : State → Prop} {g : zG} {n1 n2 : Nat} (C : zCX p R s m args meth c g n1 n2 cX9_restore 2 RX9 3 63) {p1 : Int32} {σ : zST} {Post : Int32 → zST → Prop} (hret : ∀ (v : Int32) (σ : zST) (pc : Nat) (lv : List (Nat × Value)), Post v σ → decode cX9_restore pc = .ok (.ireturn, 1) → zGG p l e R s m args below meth c Q g n1 n2 2 pc lv [.int v] σ) (h : wp_X9_restore p1 σ Post) : zGG p l e R s m args below meth c Q g n1 n2 2 0 [(0, .ref (g.2.1 69)), (1, .int p1)] [] σ := by
  unfold wp_X9_restore at h
  refine zr_iload_n C (zo_27 (p := 0) (zby_w zwX9_restore_0 0 rfl)) rfl ?_
  refine zr_i2l C (zo_133 (p := 1) (zby_w zwX9_restore_0 1 rfl)) ?_
  refine zr_lconst C (0 : Int64) (zo_9 (p := 2) (zby_w zwX9_restore_0 2 rfl)) (by decide) ?_
  refine zr_lconst C (1 : Int64) (zo_10 (p := 3) (zby_w zwX9_restore_0 3 rfl)) (by decide) ?_
  refine zr_cip (zr_runS (As := [.long (p1.toInt64), .long (0 : Int64), .long (1 : Int64)]) (rest := []) C sw_X9_89 (c_X9_in l g (p1.toInt64) (0 : Int64) (1 : Int64) σ _ h) (by decide) (by decide) rfl rfl (Nat.le_of_ble_eq_true rfl) (zo_184 (p := 4) (k := 89) (a := 0) (b := 89) (zby_w zwX9_restore_0 4 rfl) (zby_w zwX9_restore_0 5 rfl) (zby_w zwX9_restore_0 6 rfl) (by decide))) (fun r1 h => ?_)
  refine zr_if_ne C 13 (zo_154 (p := 7) (k := 6) (a := 0) (b := 6) (zby_w zwX9_restore_0 7 rfl) (zby_w zwX9_restore_0 8 rfl) (zby_w zwX9_restore_0 9 rfl) (by decide)) (by decide) (fun hc3 => ?_) (fun hc3 => ?_)
  · rw [if_neg hc3] at h
    refine zr_aload_n C (zo_42 (p := 13) (zby_w zwX9_restore_0 13 rfl)) rfl ?_
    refine zr_getr (u := 86) C fw_X9_58 (sh_69) rfl (zo_180 (p := 14) (k := 58) (a := 0) (b := 58) (zby_w zwX9_restore_0 14 rfl) (zby_w zwX9_restore_0 15 rfl) (zby_w zwX9_restore_0 16 rfl) (by decide)) ?_
    refine zr_iload_n C (zo_27 (p := 17) (zby_w zwX9_restore_0 17 rfl)) rfl ?_
    obtain ⟨ho4, h⟩ := h
    refine zr_zald C (sh_86) ho4 (zo_51 (p := 18) (zby_w zwX9_restore_0 18 rfl)) ?_
    refine zr_if_ne C 25 (zo_154 (p := 19) (k := 6) (a := 0) (b := 6) (zby_w zwX9_restore_0 19 rfl) (zby_w zwX9_restore_0 20 rfl) (zby_w zwX9_restore_0 21 rfl) (by decide)) (by decide) (fun hc5 => ?_) (fun hc5 => ?_)
    · rw [if_neg hc5] at h
      refine zr_aload_n C (zo_42 (p := 25) (zby_w zwX9_restore_0 25 rfl)) rfl ?_
      refine zr_bipush C (120 : Int32) (zo_16 (p := 26) (k := 120) (a := 120) (zby_w zwX9_restore_0 26 rfl) (zby_w zwX9_restore_0 27 rfl) (by decide)) (by decide) ?_
      refine zr_iload_n C (zo_27 (p := 28) (zby_w zwX9_restore_0 28 rfl)) rfl ?_
      refine zr_imul C (zo_104 (p := 29) (zby_w zwX9_restore_0 29 rfl)) ?_
      refine zr_puti C fw_X9_306 pw_X9_38 (sh_69) rfl rfl rfl (zo_181 (p := 30) (k := 306) (a := 1) (b := 50) (zby_w zwX9_restore_0 30 rfl) (zby_w zwX9_restore_0 31 rfl) (zby_w zwX9_restore_0 32 rfl) (by decide)) ?_
      refine zr_aload_n C (zo_42 (p := 33) (zby_w zwX9_restore_1 1 rfl)) rfl ?_
      refine zr_iconst C (0 : Int32) (zo_3 (p := 34) (zby_w zwX9_restore_1 2 rfl)) (by decide) ?_
      refine zr_puti C fw_X9_302 pw_X9_39 (sh_69) rfl rfl rfl (zo_181 (p := 35) (k := 302) (a := 1) (b := 46) (zby_w zwX9_restore_1 3 rfl) (zby_w zwX9_restore_1 4 rfl) (zby_w zwX9_restore_1 5 rfl) (by decide)) ?_
      refine zr_aload_n C (zo_42 (p := 38) (zby_w zwX9_restore_1 6 rfl)) rfl ?_
      refine zr_tops (fun σ6 hσ6 => ?_)
      replace h := h σ6 hσ6
      refine zr_cv (zr_runV (As := []) (rest := []) C vw_X9_315 (c_X9_passAll l g σ6 _ h) (sh_69) rfl (by decide) (by decide) rfl rfl (Nat.le_of_ble_eq_true rfl) (zo_182 (p := 39) (k := 315) (a := 1) (b := 59) (zby_w zwX9_restore_1 7 rfl) (zby_w zwX9_restore_1 8 rfl) (zby_w zwX9_restore_1 9 rfl) (by decide))) (fun σ8 h => ?_)
      refine zr_iconst C (1 : Int32) (zo_4 (p := 42) (zby_w zwX9_restore_1 10 rfl)) (by decide) ?_
      exact hret _ _ _ _ h (zo_172 (p := 43) (zby_w zwX9_restore_1 11 rfl))
    · rw [if_pos hc5] at h
      refine zr_bipush C (-3 : Int32) (zo_16 (p := 22) (k := (-3)) (a := 253) (zby_w zwX9_restore_0 22 rfl) (zby_w zwX9_restore_0 23 rfl) (by decide)) (by decide) ?_
      exact hret _ _ _ _ h (zo_172 (p := 24) (zby_w zwX9_restore_0 24 rfl))
  · rw [if_pos hc3] at h
    refine zr_bipush C (-2 : Int32) (zo_16 (p := 10) (k := (-2)) (a := 254) (zby_w zwX9_restore_0 10 rfl) (zby_w zwX9_restore_0 11 rfl) (by decide)) (by decide) ?_
    exact hret _ _ _ _ h (zo_172 (p := 12) (zby_w zwX9_restore_0 12 rfl))
set_option maxRecDepth 20000 in
theorem c_X9_restore (l : Launch) (g : zG) (p1 : Int32) (σ : zST) (Post : Int32 → zST → Prop) (h : wp_X9_restore p1 σ Post) : Met l yX9_restore (Cond.code yX9_restore cX9_restore 2 (some .int) :: zGW) (zRm 3 63) (va_Pc [.ref (g.2.1 69), .int p1] (zPP g σ)) (va_Qi Post (zBB g) (zA g)) 0 0 (zA g) :=
  zMet (by decide) (Nat.le_of_ble_eq_true rfl) (fun p e s m below meth c hr C => g_X9_restore C (fun v σ pc lv hp hd => zr_iret C hr hp hd) h)
def wp_X9_toldMany (p1 : Int32) (σ : zST) (Post : Int32 → Prop) : Prop := ∀ z2 : Int32, z2 = (if p1 = (0) then (σ.1 69 27) else (if p1 = (1 : Int32) then (σ.1 69 0) else (if p1 = (10 : Int32) then (σ.1 69 14) else (if p1 = (11 : Int32) then (σ.1 69 18) else (if p1 = (12 : Int32) then (σ.1 69 21) else (if p1 = (13 : Int32) then (σ.1 69 25) else (-2 : Int32))))))) → Post z2
set_option maxRecDepth 100000 in
set_option maxHeartbeats 4000000 in
theorem g_X9_toldMany {p : Program} {l : Launch} {e : Env} {R : Room} {s : State} {m : MethodId} {args : Array Value} {below : List Frame} {meth : Method} {c : Code} {Q : State → Prop} {g : zG} {n1 n2 : Nat} (C : zCX p R s m args meth c g n1 n2 cX9_toldMany 2 RX9 0 0) {p1 : Int32} {σ : zST} {Post : Int32 → Prop} (hret : ∀ (v : Int32) (pc : Nat) (lv : List (Nat × Value)), Post v → decode cX9_toldMany pc = .ok (.ireturn, 1) → zGG p l e R s m args below meth c Q g n1 n2 2 pc lv [.int v] σ) (h : wp_X9_toldMany p1 σ Post) : zGG p l e R s m args below meth c Q g n1 n2 2 0 [(0, .ref (g.2.1 69)), (1, .int p1)] [] σ := by
  unfold wp_X9_toldMany at h
  refine zr_iload_n C (zo_27 (p := 0) (zby_w zwX9_toldMany_0 0 rfl)) rfl ?_
  have hJ3 : ∀ z2 : Int32, z2 = (if p1 = (0) then (σ.1 69 27) else (if p1 = (1 : Int32) then (σ.1 69 0) else (if p1 = (10 : Int32) then (σ.1 69 14) else (if p1 = (11 : Int32) then (σ.1 69 18) else (if p1 = (12 : Int32) then (σ.1 69 21) else (if p1 = (13 : Int32) then (σ.1 69 25) else (-2 : Int32))))))) → zGG p l e R s m args below meth c Q g n1 n2 2 77 [(0, .ref (g.2.1 69)), (1, .int p1)] [.int z2] σ := by
    intro z2 hz2
    replace h := h z2 hz2
    exact hret _ _ _ h (zo_172 (p := 77) (zby_w zwX9_toldMany_2 13 rfl))
  refine zr_if_ne C 11 (zo_154 (p := 1) (k := 10) (a := 0) (b := 10) (zby_w zwX9_toldMany_0 1 rfl) (zby_w zwX9_toldMany_0 2 rfl) (zby_w zwX9_toldMany_0 3 rfl) (by decide)) (by decide) (fun hc1 => ?_) (fun hc1 => ?_)
  · skip
    refine zr_iload_n C (zo_27 (p := 11) (zby_w zwX9_toldMany_0 11 rfl)) rfl ?_
    refine zr_iconst C (1 : Int32) (zo_4 (p := 12) (zby_w zwX9_toldMany_0 12 rfl)) (by decide) ?_
    refine zr_icmp_ne C 23 (zo_160 (p := 13) (k := 10) (a := 0) (b := 10) (zby_w zwX9_toldMany_0 13 rfl) (zby_w zwX9_toldMany_0 14 rfl) (zby_w zwX9_toldMany_0 15 rfl) (by decide)) (by decide) (fun hc5 => ?_) (fun hc5 => ?_)
    · skip
      refine zr_iload_n C (zo_27 (p := 23) (zby_w zwX9_toldMany_0 23 rfl)) rfl ?_
      refine zr_bipush C (10 : Int32) (zo_16 (p := 24) (k := 10) (a := 10) (zby_w zwX9_toldMany_0 24 rfl) (zby_w zwX9_toldMany_0 25 rfl) (by decide)) (by decide) ?_
      refine zr_icmp_ne C 36 (zo_160 (p := 26) (k := 10) (a := 0) (b := 10) (zby_w zwX9_toldMany_0 26 rfl) (zby_w zwX9_toldMany_0 27 rfl) (zby_w zwX9_toldMany_0 28 rfl) (by decide)) (by decide) (fun hc6 => ?_) (fun hc6 => ?_)
      · skip
        refine zr_iload_n C (zo_27 (p := 36) (zby_w zwX9_toldMany_1 4 rfl)) rfl ?_
        refine zr_bipush C (11 : Int32) (zo_16 (p := 37) (k := 11) (a := 11) (zby_w zwX9_toldMany_1 5 rfl) (zby_w zwX9_toldMany_1 6 rfl) (by decide)) (by decide) ?_
        refine zr_icmp_ne C 49 (zo_160 (p := 39) (k := 10) (a := 0) (b := 10) (zby_w zwX9_toldMany_1 7 rfl) (zby_w zwX9_toldMany_1 8 rfl) (zby_w zwX9_toldMany_1 9 rfl) (by decide)) (by decide) (fun hc7 => ?_) (fun hc7 => ?_)
        · skip
          refine zr_iload_n C (zo_27 (p := 49) (zby_w zwX9_toldMany_1 17 rfl)) rfl ?_
          refine zr_bipush C (12 : Int32) (zo_16 (p := 50) (k := 12) (a := 12) (zby_w zwX9_toldMany_1 18 rfl) (zby_w zwX9_toldMany_1 19 rfl) (by decide)) (by decide) ?_
          refine zr_icmp_ne C 62 (zo_160 (p := 52) (k := 10) (a := 0) (b := 10) (zby_w zwX9_toldMany_1 20 rfl) (zby_w zwX9_toldMany_1 21 rfl) (zby_w zwX9_toldMany_1 22 rfl) (by decide)) (by decide) (fun hc8 => ?_) (fun hc8 => ?_)
          · skip
            refine zr_iload_n C (zo_27 (p := 62) (zby_w zwX9_toldMany_1 30 rfl)) rfl ?_
            refine zr_bipush C (13 : Int32) (zo_16 (p := 63) (k := 13) (a := 13) (zby_w zwX9_toldMany_1 31 rfl) (zby_w zwX9_toldMany_1 32 rfl) (by decide)) (by decide) ?_
            refine zr_icmp_ne C 75 (zo_160 (p := 65) (k := 10) (a := 0) (b := 10) (zby_w zwX9_toldMany_2 1 rfl) (zby_w zwX9_toldMany_2 2 rfl) (zby_w zwX9_toldMany_2 3 rfl) (by decide)) (by decide) (fun hc9 => ?_) (fun hc9 => ?_)
            · skip
              refine zr_bipush C (-2 : Int32) (zo_16 (p := 75) (k := (-2)) (a := 254) (zby_w zwX9_toldMany_2 11 rfl) (zby_w zwX9_toldMany_2 12 rfl) (by decide)) (by decide) ?_
              exact hJ3 _ (by rw [if_neg hc1, if_neg hc5, if_neg hc6, if_neg hc7, if_neg hc8, if_neg hc9])
            · skip
              refine zr_aload_n C (zo_42 (p := 68) (zby_w zwX9_toldMany_2 4 rfl)) rfl ?_
              refine zr_geti C fw_X9_297 (sh_69) rfl (zo_180 (p := 69) (k := 297) (a := 1) (b := 41) (zby_w zwX9_toldMany_2 5 rfl) (zby_w zwX9_toldMany_2 6 rfl) (zby_w zwX9_toldMany_2 7 rfl) (by decide)) ?_
              refine zr_goto C 77 (zo_167 (p := 72) (k := 5) (a := 0) (b := 5) (zby_w zwX9_toldMany_2 8 rfl) (zby_w zwX9_toldMany_2 9 rfl) (zby_w zwX9_toldMany_2 10 rfl) (by decide)) (by decide) ?_
              exact hJ3 _ (by rw [if_neg hc1, if_neg hc5, if_neg hc6, if_neg hc7, if_neg hc8, if_pos hc9])
          · skip
            refine zr_aload_n C (zo_42 (p := 55) (zby_w zwX9_toldMany_1 23 rfl)) rfl ?_
            refine zr_geti C fw_X9_272 (sh_69) rfl (zo_180 (p := 56) (k := 272) (a := 1) (b := 16) (zby_w zwX9_toldMany_1 24 rfl) (zby_w zwX9_toldMany_1 25 rfl) (zby_w zwX9_toldMany_1 26 rfl) (by decide)) ?_
            refine zr_goto C 77 (zo_167 (p := 59) (k := 18) (a := 0) (b := 18) (zby_w zwX9_toldMany_1 27 rfl) (zby_w zwX9_toldMany_1 28 rfl) (zby_w zwX9_toldMany_1 29 rfl) (by decide)) (by decide) ?_
            exact hJ3 _ (by rw [if_neg hc1, if_neg hc5, if_neg hc6, if_neg hc7, if_pos hc8])
        · skip
          refine zr_aload_n C (zo_42 (p := 42) (zby_w zwX9_toldMany_1 10 rfl)) rfl ?_
          refine zr_geti C fw_X9_262 (sh_69) rfl (zo_180 (p := 43) (k := 262) (a := 1) (b := 6) (zby_w zwX9_toldMany_1 11 rfl) (zby_w zwX9_toldMany_1 12 rfl) (zby_w zwX9_toldMany_1 13 rfl) (by decide)) ?_
          refine zr_goto C 77 (zo_167 (p := 46) (k := 31) (a := 0) (b := 31) (zby_w zwX9_toldMany_1 14 rfl) (zby_w zwX9_toldMany_1 15 rfl) (zby_w zwX9_toldMany_1 16 rfl) (by decide)) (by decide) ?_
          exact hJ3 _ (by rw [if_neg hc1, if_neg hc5, if_neg hc6, if_pos hc7])
      · skip
        refine zr_aload_n C (zo_42 (p := 29) (zby_w zwX9_toldMany_0 29 rfl)) rfl ?_
        refine zr_geti C fw_X9_84 (sh_69) rfl (zo_180 (p := 30) (k := 84) (a := 0) (b := 84) (zby_w zwX9_toldMany_0 30 rfl) (zby_w zwX9_toldMany_0 31 rfl) (zby_w zwX9_toldMany_0 32 rfl) (by decide)) ?_
        refine zr_goto C 77 (zo_167 (p := 33) (k := 44) (a := 0) (b := 44) (zby_w zwX9_toldMany_1 1 rfl) (zby_w zwX9_toldMany_1 2 rfl) (zby_w zwX9_toldMany_1 3 rfl) (by decide)) (by decide) ?_
        exact hJ3 _ (by rw [if_neg hc1, if_neg hc5, if_pos hc6])
    · skip
      refine zr_aload_n C (zo_42 (p := 16) (zby_w zwX9_toldMany_0 16 rfl)) rfl ?_
      refine zr_geti C fw_X9_97 (sh_69) rfl (zo_180 (p := 17) (k := 97) (a := 0) (b := 97) (zby_w zwX9_toldMany_0 17 rfl) (zby_w zwX9_toldMany_0 18 rfl) (zby_w zwX9_toldMany_0 19 rfl) (by decide)) ?_
      refine zr_goto C 77 (zo_167 (p := 20) (k := 57) (a := 0) (b := 57) (zby_w zwX9_toldMany_0 20 rfl) (zby_w zwX9_toldMany_0 21 rfl) (zby_w zwX9_toldMany_0 22 rfl) (by decide)) (by decide) ?_
      exact hJ3 _ (by rw [if_neg hc1, if_pos hc5])
  · skip
    refine zr_aload_n C (zo_42 (p := 4) (zby_w zwX9_toldMany_0 4 rfl)) rfl ?_
    refine zr_geti C fw_X9_130 (sh_69) rfl (zo_180 (p := 5) (k := 130) (a := 0) (b := 130) (zby_w zwX9_toldMany_0 5 rfl) (zby_w zwX9_toldMany_0 6 rfl) (zby_w zwX9_toldMany_0 7 rfl) (by decide)) ?_
    refine zr_goto C 77 (zo_167 (p := 8) (k := 69) (a := 0) (b := 69) (zby_w zwX9_toldMany_0 8 rfl) (zby_w zwX9_toldMany_0 9 rfl) (zby_w zwX9_toldMany_0 10 rfl) (by decide)) (by decide) ?_
    exact hJ3 _ (by rw [if_pos hc1])
set_option maxRecDepth 20000 in
theorem c_X9_toldMany (l : Launch) (g : zG) (p1 : Int32) (σ : zST) (Post : Int32 → Prop) (h : wp_X9_toldMany p1 σ Post) : Met l yX9_toldMany (Cond.code yX9_toldMany cX9_toldMany 2 (some .int) :: zGW) (zRm 0 0) (va_Pc [.ref (g.2.1 69), .int p1] (zPP g σ)) (va_Qi (fun r u => Post r ∧ u = σ) (zBB g) (zA g)) 0 0 (zA g) :=
  zMet (by decide) (Nat.le_of_ble_eq_true rfl) (fun p e s m below meth c hr C => g_X9_toldMany C (fun v pc lv hp hd => zr_iret C hr ⟨hp, rfl⟩ hd) h)
def wp_X9_told (p1 : Int32) (σ : zST) (Post : Int32 → Prop) : Prop := wp_X9_in (p1.toInt64) (2 : Int64) (9 : Int64) σ (fun r1 => (if r1 = (0) then wp_X9_in (p1.toInt64) (20 : Int64) (27 : Int64) σ (fun r4 => (if r4 = (0) then wp_X9_in (p1.toInt64) (30 : Int64) (35 : Int64) σ (fun r7 => (if r7 = (0) then wp_X9_in (p1.toInt64) (100 : Int64) (123 : Int64) σ (fun r10 => (if r10 = (0) then wp_X9_toldMany p1 σ (fun r13 => Post r13) else wp_X9_tenths (p1 - (100 : Int32)) σ (fun r15 => Post r15))) else wp_X9_isShip (p1 - (30 : Int32)) σ (fun r17 => (if r17 = (0) then True else vp_in (p1 - (30 : Int32)) 6 ∧ True) ∧ ∀ z20 : Int32, z20 = (if r17 = (0) then (-2 : Int32) else (σ.1 72 (p1 - (30 : Int32)).toNatClampNeg)) → Post z20))) else wp_X9_isAboard (p1 - (20 : Int32)) σ (fun r24 => (if r24 = (0) then True else vp_in (p1 - (20 : Int32)) 8 ∧ True) ∧ ∀ z27 : Int32, z27 = (if r24 = (0) then (-2 : Int32) else (σ.1 77 (p1 - (20 : Int32)).toNatClampNeg)) → Post z27))) else wp_X9_toldSet (p1 - (2 : Int32)) σ (fun r31 => Post r31)))
set_option maxRecDepth 100000 in
set_option maxHeartbeats 4000000 in
theorem g_X9_told {p : Program} {l : Launch} {e : Env} {R : Room} {s : State} {m : MethodId} {args : Array Value} {below : List Frame} {meth : Method} {c : Code} {Q : State → Prop} {g : zG} {n1 n2 : Nat} (C : zCX p R s m args meth c g n1 n2 cX9_told 2 RX9 3 66) {p1 : Int32} {σ : zST} {Post : Int32 → Prop} (hret : ∀ (v : Int32) (pc : Nat) (lv : List (Nat × Value)), Post v → decode cX9_told pc = .ok (.ireturn, 1) → zGG p l e R s m args below meth c Q g n1 n2 2 pc lv [.int v] σ) (h : wp_X9_told p1 σ Post) : zGG p l e R s m args below meth c Q g n1 n2 2 0 [(0, .ref (g.2.1 69)), (1, .int p1)] [] σ := by
  unfold wp_X9_told at h
  refine zr_iload_n C (zo_27 (p := 0) (zby_w zwX9_told_0 0 rfl)) rfl ?_
  refine zr_i2l C (zo_133 (p := 1) (zby_w zwX9_told_0 1 rfl)) ?_
  refine zr_ldc2 C (v := (2 : Int64)) cl_X9_102 (zo_20 (p := 2) (k := 102) (a := 0) (b := 102) (zby_w zwX9_told_0 2 rfl) (zby_w zwX9_told_0 3 rfl) (zby_w zwX9_told_0 4 rfl) (by decide)) ?_
  refine zr_ldc2 C (v := (9 : Int64)) cl_X9_106 (zo_20 (p := 5) (k := 106) (a := 0) (b := 106) (zby_w zwX9_told_0 5 rfl) (zby_w zwX9_told_0 6 rfl) (zby_w zwX9_told_0 7 rfl) (by decide)) ?_
  refine zr_cip (zr_runS (As := [.long (p1.toInt64), .long (2 : Int64), .long (9 : Int64)]) (rest := []) C sw_X9_89 (c_X9_in l g (p1.toInt64) (2 : Int64) (9 : Int64) σ _ h) (by decide) (by decide) rfl rfl (Nat.le_of_ble_eq_true rfl) (zo_184 (p := 8) (k := 89) (a := 0) (b := 89) (zby_w zwX9_told_0 8 rfl) (zby_w zwX9_told_0 9 rfl) (zby_w zwX9_told_0 10 rfl) (by decide))) (fun r1 h => ?_)
  refine zr_if_eq C 22 (zo_153 (p := 11) (k := 11) (a := 0) (b := 11) (zby_w zwX9_told_0 11 rfl) (zby_w zwX9_told_0 12 rfl) (zby_w zwX9_told_0 13 rfl) (by decide)) (by decide) (fun hc3 => ?_) (fun hc3 => ?_)
  · rw [if_pos hc3] at h
    refine zr_iload_n C (zo_27 (p := 22) (zby_w zwX9_told_0 22 rfl)) rfl ?_
    refine zr_i2l C (zo_133 (p := 23) (zby_w zwX9_told_0 23 rfl)) ?_
    refine zr_ldc2 C (v := (20 : Int64)) cl_X9_318 (zo_20 (p := 24) (k := 318) (a := 1) (b := 62) (zby_w zwX9_told_0 24 rfl) (zby_w zwX9_told_0 25 rfl) (zby_w zwX9_told_0 26 rfl) (by decide)) ?_
    refine zr_ldc2 C (v := (27 : Int64)) cl_X9_320 (zo_20 (p := 27) (k := 320) (a := 1) (b := 64) (zby_w zwX9_told_0 27 rfl) (zby_w zwX9_told_0 28 rfl) (zby_w zwX9_told_0 29 rfl) (by decide)) ?_
    refine zr_cip (zr_runS (As := [.long (p1.toInt64), .long (20 : Int64), .long (27 : Int64)]) (rest := []) C sw_X9_89 (c_X9_in l g (p1.toInt64) (20 : Int64) (27 : Int64) σ _ h) (by decide) (by decide) rfl rfl (Nat.le_of_ble_eq_true rfl) (zo_184 (p := 30) (k := 89) (a := 0) (b := 89) (zby_w zwX9_told_0 30 rfl) (zby_w zwX9_told_0 31 rfl) (zby_w zwX9_told_0 32 rfl) (by decide))) (fun r4 h => ?_)
    refine zr_if_eq C 62 (zo_153 (p := 33) (k := 29) (a := 0) (b := 29) (zby_w zwX9_told_1 1 rfl) (zby_w zwX9_told_1 2 rfl) (zby_w zwX9_told_1 3 rfl) (by decide)) (by decide) (fun hc6 => ?_) (fun hc6 => ?_)
    · rw [if_pos hc6] at h
      refine zr_iload_n C (zo_27 (p := 62) (zby_w zwX9_told_1 30 rfl)) rfl ?_
      refine zr_i2l C (zo_133 (p := 63) (zby_w zwX9_told_1 31 rfl)) ?_
      refine zr_ldc2 C (v := (30 : Int64)) cl_X9_104 (zo_20 (p := 64) (k := 104) (a := 0) (b := 104) (zby_w zwX9_told_2 0 rfl) (zby_w zwX9_told_2 1 rfl) (zby_w zwX9_told_2 2 rfl) (by decide)) ?_
      refine zr_ldc2 C (v := (35 : Int64)) cl_X9_322 (zo_20 (p := 67) (k := 322) (a := 1) (b := 66) (zby_w zwX9_told_2 3 rfl) (zby_w zwX9_told_2 4 rfl) (zby_w zwX9_told_2 5 rfl) (by decide)) ?_
      refine zr_cip (zr_runS (As := [.long (p1.toInt64), .long (30 : Int64), .long (35 : Int64)]) (rest := []) C sw_X9_89 (c_X9_in l g (p1.toInt64) (30 : Int64) (35 : Int64) σ _ h) (by decide) (by decide) rfl rfl (Nat.le_of_ble_eq_true rfl) (zo_184 (p := 70) (k := 89) (a := 0) (b := 89) (zby_w zwX9_told_2 6 rfl) (zby_w zwX9_told_2 7 rfl) (zby_w zwX9_told_2 8 rfl) (by decide))) (fun r7 h => ?_)
      refine zr_if_eq C 102 (zo_153 (p := 73) (k := 29) (a := 0) (b := 29) (zby_w zwX9_told_2 9 rfl) (zby_w zwX9_told_2 10 rfl) (zby_w zwX9_told_2 11 rfl) (by decide)) (by decide) (fun hc9 => ?_) (fun hc9 => ?_)
      · rw [if_pos hc9] at h
        refine zr_iload_n C (zo_27 (p := 102) (zby_w zwX9_told_3 6 rfl)) rfl ?_
        refine zr_i2l C (zo_133 (p := 103) (zby_w zwX9_told_3 7 rfl)) ?_
        refine zr_ldc2 C (v := (100 : Int64)) cl_X9_324 (zo_20 (p := 104) (k := 324) (a := 1) (b := 68) (zby_w zwX9_told_3 8 rfl) (zby_w zwX9_told_3 9 rfl) (zby_w zwX9_told_3 10 rfl) (by decide)) ?_
        refine zr_ldc2 C (v := (123 : Int64)) cl_X9_326 (zo_20 (p := 107) (k := 326) (a := 1) (b := 70) (zby_w zwX9_told_3 11 rfl) (zby_w zwX9_told_3 12 rfl) (zby_w zwX9_told_3 13 rfl) (by decide)) ?_
        refine zr_cip (zr_runS (As := [.long (p1.toInt64), .long (100 : Int64), .long (123 : Int64)]) (rest := []) C sw_X9_89 (c_X9_in l g (p1.toInt64) (100 : Int64) (123 : Int64) σ _ h) (by decide) (by decide) rfl rfl (Nat.le_of_ble_eq_true rfl) (zo_184 (p := 110) (k := 89) (a := 0) (b := 89) (zby_w zwX9_told_3 14 rfl) (zby_w zwX9_told_3 15 rfl) (zby_w zwX9_told_3 16 rfl) (by decide))) (fun r10 h => ?_)
        refine zr_if_eq C 127 (zo_153 (p := 113) (k := 14) (a := 0) (b := 14) (zby_w zwX9_told_3 17 rfl) (zby_w zwX9_told_3 18 rfl) (zby_w zwX9_told_3 19 rfl) (by decide)) (by decide) (fun hc12 => ?_) (fun hc12 => ?_)
        · rw [if_pos hc12] at h
          refine zr_aload_n C (zo_42 (p := 127) (zby_w zwX9_told_3 31 rfl)) rfl ?_
          refine zr_iload_n C (zo_27 (p := 128) (zby_w zwX9_told_4 0 rfl)) rfl ?_
          refine zr_cip (zr_runV (As := [.int p1]) (rest := []) C vw_X9_328 (c_X9_toldMany l g p1 σ _ h) (sh_69) rfl (by decide) (by decide) rfl rfl (Nat.le_of_ble_eq_true rfl) (zo_182 (p := 129) (k := 328) (a := 1) (b := 72) (zby_w zwX9_told_4 1 rfl) (zby_w zwX9_told_4 2 rfl) (zby_w zwX9_told_4 3 rfl) (by decide))) (fun r13 h => ?_)
          exact hret _ _ _ h d_X9_told_132
        · rw [if_neg hc12] at h
          refine zr_aload_n C (zo_42 (p := 116) (zby_w zwX9_told_3 20 rfl)) rfl ?_
          refine zr_iload_n C (zo_27 (p := 117) (zby_w zwX9_told_3 21 rfl)) rfl ?_
          refine zr_bipush C (100 : Int32) (zo_16 (p := 118) (k := 100) (a := 100) (zby_w zwX9_told_3 22 rfl) (zby_w zwX9_told_3 23 rfl) (by decide)) (by decide) ?_
          refine zr_isub C (zo_100 (p := 120) (zby_w zwX9_told_3 24 rfl)) ?_
          refine zr_cip (zr_runV (As := [.int (p1 - (100 : Int32))]) (rest := []) C vw_X9_163 (c_X9_tenths l g (p1 - (100 : Int32)) σ _ h) (sh_69) rfl (by decide) (by decide) rfl rfl (Nat.le_of_ble_eq_true rfl) (zo_182 (p := 121) (k := 163) (a := 0) (b := 163) (zby_w zwX9_told_3 25 rfl) (zby_w zwX9_told_3 26 rfl) (zby_w zwX9_told_3 27 rfl) (by decide))) (fun r15 h => ?_)
          refine zr_goto C 132 (zo_167 (p := 124) (k := 8) (a := 0) (b := 8) (zby_w zwX9_told_3 28 rfl) (zby_w zwX9_told_3 29 rfl) (zby_w zwX9_told_3 30 rfl) (by decide)) (by decide) ?_
          exact hret _ _ _ h d_X9_told_132
      · rw [if_neg hc9] at h
        refine zr_aload_n C (zo_42 (p := 76) (zby_w zwX9_told_2 12 rfl)) rfl ?_
        refine zr_iload_n C (zo_27 (p := 77) (zby_w zwX9_told_2 13 rfl)) rfl ?_
        refine zr_bipush C (30 : Int32) (zo_16 (p := 78) (k := 30) (a := 30) (zby_w zwX9_told_2 14 rfl) (zby_w zwX9_told_2 15 rfl) (by decide)) (by decide) ?_
        refine zr_isub C (zo_100 (p := 80) (zby_w zwX9_told_2 16 rfl)) ?_
        refine zr_cip (zr_runV (As := [.int (p1 - (30 : Int32))]) (rest := []) C vw_X9_112 (c_X9_isShip l g (p1 - (30 : Int32)) σ _ h) (sh_69) rfl (by decide) (by decide) rfl rfl (Nat.le_of_ble_eq_true rfl) (zo_182 (p := 81) (k := 112) (a := 0) (b := 112) (zby_w zwX9_told_2 17 rfl) (zby_w zwX9_told_2 18 rfl) (zby_w zwX9_told_2 19 rfl) (by decide))) (fun r17 h => ?_)
        obtain ⟨ho22, h⟩ := h
        have hJ21 : ∀ z20 : Int32, z20 = (if r17 = (0) then (-2 : Int32) else (σ.1 72 (p1 - (30 : Int32)).toNatClampNeg)) → zGG p l e R s m args below meth c Q g n1 n2 2 101 [(0, .ref (g.2.1 69)), (1, .int p1)] [.int z20] σ := by
          intro z20 hz20
          replace h := h z20 hz20
          exact hret _ _ _ h (zo_172 (p := 101) (zby_w zwX9_told_3 5 rfl))
        refine zr_if_eq C 99 (zo_153 (p := 84) (k := 15) (a := 0) (b := 15) (zby_w zwX9_told_2 20 rfl) (zby_w zwX9_told_2 21 rfl) (zby_w zwX9_told_2 22 rfl) (by decide)) (by decide) (fun hc19 => ?_) (fun hc19 => ?_)
        · skip
          rw [if_pos hc19] at ho22
          refine zr_bipush C (-2 : Int32) (zo_16 (p := 99) (k := (-2)) (a := 254) (zby_w zwX9_told_3 3 rfl) (zby_w zwX9_told_3 4 rfl) (by decide)) (by decide) ?_
          exact hJ21 _ (by rw [if_pos hc19])
        · skip
          rw [if_neg hc19] at ho22
          refine zr_aload_n C (zo_42 (p := 87) (zby_w zwX9_told_2 23 rfl)) rfl ?_
          refine zr_getr (u := 72) C fw_X9_16 (sh_69) rfl (zo_180 (p := 88) (k := 16) (a := 0) (b := 16) (zby_w zwX9_told_2 24 rfl) (zby_w zwX9_told_2 25 rfl) (zby_w zwX9_told_2 26 rfl) (by decide)) ?_
          refine zr_iload_n C (zo_27 (p := 91) (zby_w zwX9_told_2 27 rfl)) rfl ?_
          refine zr_bipush C (30 : Int32) (zo_16 (p := 92) (k := 30) (a := 30) (zby_w zwX9_told_2 28 rfl) (zby_w zwX9_told_2 29 rfl) (by decide)) (by decide) ?_
          refine zr_isub C (zo_100 (p := 94) (zby_w zwX9_told_2 30 rfl)) ?_
          obtain ⟨ho23, ho22⟩ := ho22
          refine zr_iald C (sh_72) ho23 (zo_46 (p := 95) (zby_w zwX9_told_2 31 rfl)) ?_
          refine zr_goto C 101 (zo_167 (p := 96) (k := 5) (a := 0) (b := 5) (zby_w zwX9_told_3 0 rfl) (zby_w zwX9_told_3 1 rfl) (zby_w zwX9_told_3 2 rfl) (by decide)) (by decide) ?_
          exact hJ21 _ (by rw [if_neg hc19])
    · rw [if_neg hc6] at h
      refine zr_aload_n C (zo_42 (p := 36) (zby_w zwX9_told_1 4 rfl)) rfl ?_
      refine zr_iload_n C (zo_27 (p := 37) (zby_w zwX9_told_1 5 rfl)) rfl ?_
      refine zr_bipush C (20 : Int32) (zo_16 (p := 38) (k := 20) (a := 20) (zby_w zwX9_told_1 6 rfl) (zby_w zwX9_told_1 7 rfl) (by decide)) (by decide) ?_
      refine zr_isub C (zo_100 (p := 40) (zby_w zwX9_told_1 8 rfl)) ?_
      refine zr_cip (zr_runV (As := [.int (p1 - (20 : Int32))]) (rest := []) C vw_X9_275 (c_X9_isAboard l g (p1 - (20 : Int32)) σ _ h) (sh_69) rfl (by decide) (by decide) rfl rfl (Nat.le_of_ble_eq_true rfl) (zo_182 (p := 41) (k := 275) (a := 1) (b := 19) (zby_w zwX9_told_1 9 rfl) (zby_w zwX9_told_1 10 rfl) (zby_w zwX9_told_1 11 rfl) (by decide))) (fun r24 h => ?_)
      obtain ⟨ho29, h⟩ := h
      have hJ28 : ∀ z27 : Int32, z27 = (if r24 = (0) then (-2 : Int32) else (σ.1 77 (p1 - (20 : Int32)).toNatClampNeg)) → zGG p l e R s m args below meth c Q g n1 n2 2 61 [(0, .ref (g.2.1 69)), (1, .int p1)] [.int z27] σ := by
        intro z27 hz27
        replace h := h z27 hz27
        exact hret _ _ _ h (zo_172 (p := 61) (zby_w zwX9_told_1 29 rfl))
      refine zr_if_eq C 59 (zo_153 (p := 44) (k := 15) (a := 0) (b := 15) (zby_w zwX9_told_1 12 rfl) (zby_w zwX9_told_1 13 rfl) (zby_w zwX9_told_1 14 rfl) (by decide)) (by decide) (fun hc26 => ?_) (fun hc26 => ?_)
      · skip
        rw [if_pos hc26] at ho29
        refine zr_bipush C (-2 : Int32) (zo_16 (p := 59) (k := (-2)) (a := 254) (zby_w zwX9_told_1 27 rfl) (zby_w zwX9_told_1 28 rfl) (by decide)) (by decide) ?_
        exact hJ28 _ (by rw [if_pos hc26])
      · skip
        rw [if_neg hc26] at ho29
        refine zr_aload_n C (zo_42 (p := 47) (zby_w zwX9_told_1 15 rfl)) rfl ?_
        refine zr_getr (u := 77) C fw_X9_31 (sh_69) rfl (zo_180 (p := 48) (k := 31) (a := 0) (b := 31) (zby_w zwX9_told_1 16 rfl) (zby_w zwX9_told_1 17 rfl) (zby_w zwX9_told_1 18 rfl) (by decide)) ?_
        refine zr_iload_n C (zo_27 (p := 51) (zby_w zwX9_told_1 19 rfl)) rfl ?_
        refine zr_bipush C (20 : Int32) (zo_16 (p := 52) (k := 20) (a := 20) (zby_w zwX9_told_1 20 rfl) (zby_w zwX9_told_1 21 rfl) (by decide)) (by decide) ?_
        refine zr_isub C (zo_100 (p := 54) (zby_w zwX9_told_1 22 rfl)) ?_
        obtain ⟨ho30, ho29⟩ := ho29
        refine zr_iald C (sh_77) ho30 (zo_46 (p := 55) (zby_w zwX9_told_1 23 rfl)) ?_
        refine zr_goto C 61 (zo_167 (p := 56) (k := 5) (a := 0) (b := 5) (zby_w zwX9_told_1 24 rfl) (zby_w zwX9_told_1 25 rfl) (zby_w zwX9_told_1 26 rfl) (by decide)) (by decide) ?_
        exact hJ28 _ (by rw [if_neg hc26])
  · rw [if_neg hc3] at h
    refine zr_aload_n C (zo_42 (p := 14) (zby_w zwX9_told_0 14 rfl)) rfl ?_
    refine zr_iload_n C (zo_27 (p := 15) (zby_w zwX9_told_0 15 rfl)) rfl ?_
    refine zr_iconst C (2 : Int32) (zo_5 (p := 16) (zby_w zwX9_told_0 16 rfl)) (by decide) ?_
    refine zr_isub C (zo_100 (p := 17) (zby_w zwX9_told_0 17 rfl)) ?_
    refine zr_cip (zr_runV (As := [.int (p1 - (2 : Int32))]) (rest := []) C vw_X9_123 (c_X9_toldSet l g (p1 - (2 : Int32)) σ _ h) (sh_69) rfl (by decide) (by decide) rfl rfl (Nat.le_of_ble_eq_true rfl) (zo_182 (p := 18) (k := 123) (a := 0) (b := 123) (zby_w zwX9_told_0 18 rfl) (zby_w zwX9_told_0 19 rfl) (zby_w zwX9_told_0 20 rfl) (by decide))) (fun r31 h => ?_)
    exact hret _ _ _ h (zo_172 (p := 21) (zby_w zwX9_told_0 21 rfl))
set_option maxRecDepth 20000 in
theorem c_X9_told (l : Launch) (g : zG) (p1 : Int32) (σ : zST) (Post : Int32 → Prop) (h : wp_X9_told p1 σ Post) : Met l yX9_told (Cond.code yX9_told cX9_told 2 (some .int) :: zGW) (zRm 3 66) (va_Pc [.ref (g.2.1 69), .int p1] (zPP g σ)) (va_Qi (fun r u => Post r ∧ u = σ) (zBB g) (zA g)) 0 0 (zA g) :=
  zMet (by decide) (Nat.le_of_ble_eq_true rfl) (fun p e s m below meth c hr C => g_X9_told C (fun v pc lv hp hd => zr_iret C hr ⟨hp, rfl⟩ hd) h)
