def wp_X8_years_J121 (v1 : Int32) (v4 : Int32) (v7 : Int32) (σ : zST) (Post : Int32 → Prop) : Prop := (if v4 = (2 : Int32) then Post v7 else wp_X6_whole 2 v1 σ (fun r16 => Post (v7 * r16)))

set_option maxRecDepth 100000 in
set_option maxHeartbeats 4000000 in
theorem g_X8_years_J121 {p : Program} {l : Launch} {e : Env} {R : Room} {s : State} {m : MethodId} {args : Array Value} {below : List Frame} {meth : Method} {c : Code} {Q : State → Prop} {g : zG} {n1 n2 : Nat} (C : zCX p R s m args meth c g n1 n2 cX8_years 9 RX8 3 67) {v1 : Int32} {v4 : Int32} {v7 : Int32} {σ : zST}  {Post : Int32 → Prop} (hret : ∀ (v : Int32) (pc : Nat) (lv : List (Nat × Value)), Post v → decode cX8_years pc = .ok (.ireturn, 1) → zGG p l e R s m args below meth c Q g n1 n2 9 pc lv [.int v] σ) (h : wp_X8_years_J121 v1 v4 v7 σ Post) : zGG p l e R s m args below meth c Q g n1 n2 9 121 [(1, .int v1), (4, .int v4), (5, .ref (g.2.1 2)), (7, .int v7)] [] σ := by
  unfold wp_X8_years_J121 at h
  refine zr_iload C (zo_21 (p := 121) (k := 4) (a := 4) (zby_w zwX8_years_3 25 rfl) (zby_w zwX8_years_3 26 rfl) (by decide)) rfl ?_
  refine zr_iconst C (2 : Int32) (zo_5 (p := 123) (zby_w zwX8_years_3 27 rfl)) (by decide) ?_
  refine zr_icmp_ne C 132 (zo_160 (p := 124) (k := 8) (a := 0) (b := 8) (zby_w zwX8_years_3 28 rfl) (zby_w zwX8_years_3 29 rfl) (zby_w zwX8_years_3 30 rfl) (by decide)) (by decide) (fun hc15 => ?_) (fun hc15 => ?_)
  · rw [if_neg hc15] at h
    refine zr_iload C (zo_21 (p := 132) (k := 7) (a := 7) (zby_w zwX8_years_4 4 rfl) (zby_w zwX8_years_4 5 rfl) (by decide)) rfl ?_
    refine zr_aload C (zo_25 (p := 134) (k := 5) (a := 5) (zby_w zwX8_years_4 6 rfl) (zby_w zwX8_years_4 7 rfl) (by decide)) rfl ?_
    refine zr_iload_n C (zo_27 (p := 136) (zby_w zwX8_years_4 8 rfl)) rfl ?_
    refine zr_cip (zr_runV (As := [.int v1]) (rest := [.int v7]) C vw_X8_221 (c_X6_whole l g 2 isX6_2 v1 σ _ h) (sh_2) rfl (by decide) (by decide) rfl rfl (Nat.le_of_ble_eq_true rfl) (zo_182 (p := 137) (k := 221) (a := 0) (b := 221) (zby_w zwX8_years_4 9 rfl) (zby_w zwX8_years_4 10 rfl) (zby_w zwX8_years_4 11 rfl) (by decide))) (fun r16 h => ?_)
    refine zr_imul C (zo_104 (p := 140) (zby_w zwX8_years_4 12 rfl)) ?_
    exact hret _ _ _ h d_X8_years_141
  · rw [if_pos hc15] at h
    refine zr_iload C (zo_21 (p := 127) (k := 7) (a := 7) (zby_w zwX8_years_3 31 rfl) (zby_w zwX8_years_3 32 rfl) (by decide)) rfl ?_
    refine zr_goto C 141 (zo_167 (p := 129) (k := 12) (a := 0) (b := 12) (zby_w zwX8_years_4 1 rfl) (zby_w zwX8_years_4 2 rfl) (zby_w zwX8_years_4 3 rfl) (by decide)) (by decide) ?_
    exact hret _ _ _ h d_X8_years_141

def wp_X8_years_L78 (v1 : Int32) (v3 : Int32) (v4 : Int32) (σ : zST) (Post : Int32 → Prop) : Nat → Int32 → Int32 → Int32 → Prop
  | 0, _, _, _ => False
  | N + 1, v6, v7, v8 => (if v3 ≤ v8 then wp_X8_years_J121 v1 v4 v7 σ Post else wp_X8_drawAfter v6 σ (fun r18 => wp_X6_digitAt 2 (r18 - r18 / (24 : Int32) * (24 : Int32)) σ (fun r20 => (if r20 ≤ ((r18 / (24 : Int32)) - (r18 / (24 : Int32)) / (10 : Int32) * (10 : Int32)) then wp_X8_years_L78 v1 v3 v4 σ Post N r18 v7 (v8 + 1) else wp_X8_years_L78 v1 v3 v4 σ Post N r18 (v7 + 1) (v8 + 1)))))

set_option maxRecDepth 100000 in
set_option maxHeartbeats 4000000 in
theorem g_X8_years_L78 {p : Program} {l : Launch} {e : Env} {R : Room} {s : State} {m : MethodId} {args : Array Value} {below : List Frame} {meth : Method} {c : Code} {Q : State → Prop} {g : zG} {n1 n2 : Nat} (C : zCX p R s m args meth c g n1 n2 cX8_years 9 RX8 3 67) {v1 : Int32} {v3 : Int32} {v4 : Int32} {σ : zST}  {Post : Int32 → Prop} (hret : ∀ (v : Int32) (pc : Nat) (lv : List (Nat × Value)), Post v → decode cX8_years pc = .ok (.ireturn, 1) → zGG p l e R s m args below meth c Q g n1 n2 9 pc lv [.int v] σ) : ∀ (N : Nat) (v6 : Int32) (v7 : Int32) (v8 : Int32) , wp_X8_years_L78 v1 v3 v4 σ Post N v6 v7 v8 → zGG p l e R s m args below meth c Q g n1 n2 9 78 [(1, .int v1), (3, .int v3), (4, .int v4), (5, .ref (g.2.1 2)), (6, .int v6), (7, .int v7), (8, .int v8)] [] σ := by
  intro N
  induction N with
  | zero =>
    intro v6 v7 v8 h
    exact h.elim
  | succ N ih =>
    intro v6 v7 v8 h
    rw [wp_X8_years_L78] at h
    refine zr_iload C (zo_21 (p := 78) (k := 8) (a := 8) (zby_w zwX8_years_2 14 rfl) (zby_w zwX8_years_2 15 rfl) (by decide)) rfl ?_
    refine zr_iload_n C (zo_29 (p := 80) (zby_w zwX8_years_2 16 rfl)) rfl ?_
    refine zr_icmp_ge C 121 (zo_162 (p := 81) (k := 40) (a := 0) (b := 40) (zby_w zwX8_years_2 17 rfl) (zby_w zwX8_years_2 18 rfl) (zby_w zwX8_years_2 19 rfl) (by decide)) (by decide) (fun hc14 => ?_) (fun hc14 => ?_)
    · rw [if_pos hc14] at h
      exact zr_pick [0, 2, 3, 5] rfl (g_X8_years_J121 C hret h)
    · rw [if_neg hc14] at h
      refine zr_iload C (zo_21 (p := 84) (k := 6) (a := 6) (zby_w zwX8_years_2 20 rfl) (zby_w zwX8_years_2 21 rfl) (by decide)) rfl ?_
      refine zr_cip (zr_runS (As := [.int v6]) (rest := []) C sw_X8_277 (c_X8_drawAfter l g v6 σ _ h) (by decide) (by decide) rfl rfl (Nat.le_of_ble_eq_true rfl) (zo_184 (p := 86) (k := 277) (a := 1) (b := 21) (zby_w zwX8_years_2 22 rfl) (zby_w zwX8_years_2 23 rfl) (zby_w zwX8_years_2 24 rfl) (by decide))) (fun r18 h => ?_)
      refine zr_istore C [(6, .int r18), (1, .int v1), (3, .int v3), (4, .int v4), (5, .ref (g.2.1 2)), (7, .int v7), (8, .int v8)] (zo_54 (p := 89) (k := 6) (a := 6) (zby_w zwX8_years_2 25 rfl) (zby_w zwX8_years_2 26 rfl) (by decide)) (by decide) rfl ?_
      refine zr_iload C (zo_21 (p := 91) (k := 6) (a := 6) (zby_w zwX8_years_2 27 rfl) (zby_w zwX8_years_2 28 rfl) (by decide)) rfl ?_
      refine zr_bipush C (24 : Int32) (zo_16 (p := 93) (k := 24) (a := 24) (zby_w zwX8_years_2 29 rfl) (zby_w zwX8_years_2 30 rfl) (by decide)) (by decide) ?_
      refine zr_idiv C (zo_108 (p := 95) (zby_w zwX8_years_2 31 rfl)) (by decide) ?_
      refine zr_bipush C (10 : Int32) (zo_16 (p := 96) (k := 10) (a := 10) (zby_w zwX8_years_3 0 rfl) (zby_w zwX8_years_3 1 rfl) (by decide)) (by decide) ?_
      refine zr_irem C (zo_112 (p := 98) (zby_w zwX8_years_3 2 rfl)) (by decide) ?_
      refine zr_aload C (zo_25 (p := 99) (k := 5) (a := 5) (zby_w zwX8_years_3 3 rfl) (zby_w zwX8_years_3 4 rfl) (by decide)) rfl ?_
      refine zr_iload C (zo_21 (p := 101) (k := 6) (a := 6) (zby_w zwX8_years_3 5 rfl) (zby_w zwX8_years_3 6 rfl) (by decide)) rfl ?_
      refine zr_bipush C (24 : Int32) (zo_16 (p := 103) (k := 24) (a := 24) (zby_w zwX8_years_3 7 rfl) (zby_w zwX8_years_3 8 rfl) (by decide)) (by decide) ?_
      refine zr_irem C (zo_112 (p := 105) (zby_w zwX8_years_3 9 rfl)) (by decide) ?_
      refine zr_cip (zr_runV (As := [.int (r18 - r18 / (24 : Int32) * (24 : Int32))]) (rest := [.int ((r18 / (24 : Int32)) - (r18 / (24 : Int32)) / (10 : Int32) * (10 : Int32))]) C vw_X8_209 (c_X6_digitAt l g 2 isX6_2 (r18 - r18 / (24 : Int32) * (24 : Int32)) σ _ h) (sh_2) rfl (by decide) (by decide) rfl rfl (Nat.le_of_ble_eq_true rfl) (zo_182 (p := 106) (k := 209) (a := 0) (b := 209) (zby_w zwX8_years_3 10 rfl) (zby_w zwX8_years_3 11 rfl) (zby_w zwX8_years_3 12 rfl) (by decide))) (fun r20 h => ?_)
      refine zr_icmp_ge C 115 (zo_162 (p := 109) (k := 6) (a := 0) (b := 6) (zby_w zwX8_years_3 13 rfl) (zby_w zwX8_years_3 14 rfl) (zby_w zwX8_years_3 15 rfl) (by decide)) (by decide) (fun hc22 => ?_) (fun hc22 => ?_)
      · rw [if_pos hc22] at h
        refine zr_iinc C (v8 + 1) [(8, .int (v8 + 1)), (6, .int r18), (1, .int v1), (3, .int v3), (4, .int v4), (5, .ref (g.2.1 2)), (7, .int v7)] d_X8_years_115 rfl rfl (by decide) rfl ?_
        refine zr_goto C 78 d_X8_years_118 (by decide) ?_
        exact zr_pick [2, 3, 4, 5, 1, 6, 0] rfl (ih r18 v7 (v8 + 1) h)
      · rw [if_neg hc22] at h
        refine zr_iinc C (v7 + 1) [(7, .int (v7 + 1)), (6, .int r18), (1, .int v1), (3, .int v3), (4, .int v4), (5, .ref (g.2.1 2)), (8, .int v8)] d_X8_years_112 rfl rfl (by decide) rfl ?_
        refine zr_iinc C (v8 + 1) [(8, .int (v8 + 1)), (7, .int (v7 + 1)), (6, .int r18), (1, .int v1), (3, .int v3), (4, .int v4), (5, .ref (g.2.1 2))] d_X8_years_115 rfl rfl (by decide) rfl ?_
        refine zr_goto C 78 d_X8_years_118 (by decide) ?_
        exact zr_pick [3, 4, 5, 6, 2, 1, 0] rfl (ih r18 (v7 + 1) (v8 + 1) h)

def wp_X8_years (p1 : Int32) (p2 : Int32) (p3 : Int32) (p4 : Int32) (σ : zST) (Post : Int32 → Prop) : Prop := wp_X6_has 2 p1 σ (fun r1 => (if r1 = (0) then Post (-1 : Int32) else wp_X8_within p2 (0 : Int32) (9999 : Int32) σ (fun r4 => (if r4 = (0) then Post (-2 : Int32) else wp_X8_within p3 (1 : Int32) (99 : Int32) σ (fun r7 => (if r7 = (0) then Post (-2 : Int32) else wp_X8_within p4 (0 : Int32) (2 : Int32) σ (fun r10 => (if r10 = (0) then Post (-2 : Int32) else (if p4 = (1 : Int32) then wp_X6_lostToTeeth 2 p1 σ (fun r24 => Post (p3 * r24)) else ∃ M23 : Nat, wp_X8_years_L78 p1 p3 p4 σ Post M23 p2 (0 : Int32) (0 : Int32))))))))))
set_option maxRecDepth 100000 in
set_option maxHeartbeats 4000000 in
theorem g_X8_years {p : Program} {l : Launch} {e : Env} {R : Room} {s : State} {m : MethodId} {args : Array Value} {below : List Frame} {meth : Method} {c : Code} {Q : State → Prop} {g : zG} {n1 n2 : Nat} (C : zCX p R s m args meth c g n1 n2 cX8_years 9 RX8 3 67) {p1 : Int32} {p2 : Int32} {p3 : Int32} {p4 : Int32} {σ : zST} {Post : Int32 → Prop} (hret : ∀ (v : Int32) (pc : Nat) (lv : List (Nat × Value)), Post v → decode cX8_years pc = .ok (.ireturn, 1) → zGG p l e R s m args below meth c Q g n1 n2 9 pc lv [.int v] σ) (h : wp_X8_years p1 p2 p3 p4 σ Post) : zGG p l e R s m args below meth c Q g n1 n2 9 0 [(0, .ref (g.2.1 0)), (1, .int p1), (2, .int p2), (3, .int p3), (4, .int p4)] [] σ := by
  unfold wp_X8_years at h
  refine zr_aload_n C (zo_42 (p := 0) (zby_w zwX8_years_0 0 rfl)) rfl ?_
  refine zr_getr (u := 1) C fw_X8_10 (sh_0) rfl (zo_180 (p := 1) (k := 10) (a := 0) (b := 10) (zby_w zwX8_years_0 1 rfl) (zby_w zwX8_years_0 2 rfl) (zby_w zwX8_years_0 3 rfl) (by decide)) ?_
  refine zr_getr (u := 2) C fw_X8_51 (sh_1) rfl (zo_180 (p := 4) (k := 51) (a := 0) (b := 51) (zby_w zwX8_years_0 4 rfl) (zby_w zwX8_years_0 5 rfl) (zby_w zwX8_years_0 6 rfl) (by decide)) ?_
  refine zr_astore C [(5, .ref (g.2.1 2)), (0, .ref (g.2.1 0)), (1, .int p1), (2, .int p2), (3, .int p3), (4, .int p4)] (zo_58 (p := 7) (k := 5) (a := 5) (zby_w zwX8_years_0 7 rfl) (zby_w zwX8_years_0 8 rfl) (by decide)) (by decide) rfl ?_
  refine zr_aload C (zo_25 (p := 9) (k := 5) (a := 5) (zby_w zwX8_years_0 9 rfl) (zby_w zwX8_years_0 10 rfl) (by decide)) rfl ?_
  refine zr_iload_n C (zo_27 (p := 11) (zby_w zwX8_years_0 11 rfl)) rfl ?_
  refine zr_cip (zr_runV (As := [.int p1]) (rest := []) C vw_X8_79 (c_X6_has l g 2 isX6_2 p1 σ _ h) (sh_2) rfl (by decide) (by decide) rfl rfl (Nat.le_of_ble_eq_true rfl) (zo_182 (p := 12) (k := 79) (a := 0) (b := 79) (zby_w zwX8_years_0 12 rfl) (zby_w zwX8_years_0 13 rfl) (zby_w zwX8_years_0 14 rfl) (by decide))) (fun r1 h => ?_)
  refine zr_if_ne C 20 (zo_154 (p := 15) (k := 5) (a := 0) (b := 5) (zby_w zwX8_years_0 15 rfl) (zby_w zwX8_years_0 16 rfl) (zby_w zwX8_years_0 17 rfl) (by decide)) (by decide) (fun hc3 => ?_) (fun hc3 => ?_)
  · rw [if_neg hc3] at h
    refine zr_iload_n C (zo_28 (p := 20) (zby_w zwX8_years_0 20 rfl)) rfl ?_
    refine zr_iconst C (0 : Int32) (zo_3 (p := 21) (zby_w zwX8_years_0 21 rfl)) (by decide) ?_
    refine zr_sipush C (9999 : Int32) (zo_17 (p := 22) (k := 9999) (a := 39) (b := 15) (zby_w zwX8_years_0 22 rfl) (zby_w zwX8_years_0 23 rfl) (zby_w zwX8_years_0 24 rfl) (by decide)) (by decide) ?_
    refine zr_cip (zr_runS (As := [.int p2, .int (0 : Int32), .int (9999 : Int32)]) (rest := []) C sw_X8_47 (c_X8_within l g p2 (0 : Int32) (9999 : Int32) σ _ h) (by decide) (by decide) rfl rfl (Nat.le_of_ble_eq_true rfl) (zo_184 (p := 25) (k := 47) (a := 0) (b := 47) (zby_w zwX8_years_0 25 rfl) (zby_w zwX8_years_0 26 rfl) (zby_w zwX8_years_0 27 rfl) (by decide))) (fun r4 h => ?_)
    refine zr_if_eq C 51 (zo_153 (p := 28) (k := 23) (a := 0) (b := 23) (zby_w zwX8_years_0 28 rfl) (zby_w zwX8_years_0 29 rfl) (zby_w zwX8_years_0 30 rfl) (by decide)) (by decide) (fun hc6 => ?_) (fun hc6 => ?_)
    · rw [if_pos hc6] at h
      refine zr_bipush C (-2 : Int32) d_X8_years_51 (by decide) ?_
      exact hret _ _ _ h d_X8_years_53
    · rw [if_neg hc6] at h
      refine zr_iload_n C (zo_29 (p := 31) (zby_w zwX8_years_0 31 rfl)) rfl ?_
      refine zr_iconst C (1 : Int32) (zo_4 (p := 32) (zby_w zwX8_years_1 0 rfl)) (by decide) ?_
      refine zr_bipush C (99 : Int32) (zo_16 (p := 33) (k := 99) (a := 99) (zby_w zwX8_years_1 1 rfl) (zby_w zwX8_years_1 2 rfl) (by decide)) (by decide) ?_
      refine zr_cip (zr_runS (As := [.int p3, .int (1 : Int32), .int (99 : Int32)]) (rest := []) C sw_X8_47 (c_X8_within l g p3 (1 : Int32) (99 : Int32) σ _ h) (by decide) (by decide) rfl rfl (Nat.le_of_ble_eq_true rfl) (zo_184 (p := 35) (k := 47) (a := 0) (b := 47) (zby_w zwX8_years_1 3 rfl) (zby_w zwX8_years_1 4 rfl) (zby_w zwX8_years_1 5 rfl) (by decide))) (fun r7 h => ?_)
      refine zr_if_eq C 51 (zo_153 (p := 38) (k := 13) (a := 0) (b := 13) (zby_w zwX8_years_1 6 rfl) (zby_w zwX8_years_1 7 rfl) (zby_w zwX8_years_1 8 rfl) (by decide)) (by decide) (fun hc9 => ?_) (fun hc9 => ?_)
      · rw [if_pos hc9] at h
        refine zr_bipush C (-2 : Int32) d_X8_years_51 (by decide) ?_
        exact hret _ _ _ h d_X8_years_53
      · rw [if_neg hc9] at h
        refine zr_iload C (zo_21 (p := 41) (k := 4) (a := 4) (zby_w zwX8_years_1 9 rfl) (zby_w zwX8_years_1 10 rfl) (by decide)) rfl ?_
        refine zr_iconst C (0 : Int32) (zo_3 (p := 43) (zby_w zwX8_years_1 11 rfl)) (by decide) ?_
        refine zr_iconst C (2 : Int32) (zo_5 (p := 44) (zby_w zwX8_years_1 12 rfl)) (by decide) ?_
        refine zr_cip (zr_runS (As := [.int p4, .int (0 : Int32), .int (2 : Int32)]) (rest := []) C sw_X8_47 (c_X8_within l g p4 (0 : Int32) (2 : Int32) σ _ h) (by decide) (by decide) rfl rfl (Nat.le_of_ble_eq_true rfl) (zo_184 (p := 45) (k := 47) (a := 0) (b := 47) (zby_w zwX8_years_1 13 rfl) (zby_w zwX8_years_1 14 rfl) (zby_w zwX8_years_1 15 rfl) (by decide))) (fun r10 h => ?_)
        refine zr_if_ne C 54 (zo_154 (p := 48) (k := 6) (a := 0) (b := 6) (zby_w zwX8_years_1 16 rfl) (zby_w zwX8_years_1 17 rfl) (zby_w zwX8_years_1 18 rfl) (by decide)) (by decide) (fun hc12 => ?_) (fun hc12 => ?_)
        · rw [if_neg hc12] at h
          refine zr_iload C (zo_21 (p := 54) (k := 4) (a := 4) (zby_w zwX8_years_1 22 rfl) (zby_w zwX8_years_1 23 rfl) (by decide)) rfl ?_
          refine zr_iconst C (1 : Int32) (zo_4 (p := 56) (zby_w zwX8_years_1 24 rfl)) (by decide) ?_
          refine zr_icmp_ne C 69 (zo_160 (p := 57) (k := 12) (a := 0) (b := 12) (zby_w zwX8_years_1 25 rfl) (zby_w zwX8_years_1 26 rfl) (zby_w zwX8_years_1 27 rfl) (by decide)) (by decide) (fun hc13 => ?_) (fun hc13 => ?_)
          · rw [if_neg hc13] at h
            refine zr_iload_n C (zo_28 (p := 69) (zby_w zwX8_years_2 5 rfl)) rfl ?_
            refine zr_istore C [(6, .int p2), (5, .ref (g.2.1 2)), (0, .ref (g.2.1 0)), (1, .int p1), (2, .int p2), (3, .int p3), (4, .int p4)] (zo_54 (p := 70) (k := 6) (a := 6) (zby_w zwX8_years_2 6 rfl) (zby_w zwX8_years_2 7 rfl) (by decide)) (by decide) rfl ?_
            refine zr_iconst C (0 : Int32) (zo_3 (p := 72) (zby_w zwX8_years_2 8 rfl)) (by decide) ?_
            refine zr_istore C [(7, .int (0 : Int32)), (6, .int p2), (5, .ref (g.2.1 2)), (0, .ref (g.2.1 0)), (1, .int p1), (2, .int p2), (3, .int p3), (4, .int p4)] (zo_54 (p := 73) (k := 7) (a := 7) (zby_w zwX8_years_2 9 rfl) (zby_w zwX8_years_2 10 rfl) (by decide)) (by decide) rfl ?_
            refine zr_iconst C (0 : Int32) (zo_3 (p := 75) (zby_w zwX8_years_2 11 rfl)) (by decide) ?_
            refine zr_istore C [(8, .int (0 : Int32)), (7, .int (0 : Int32)), (6, .int p2), (5, .ref (g.2.1 2)), (0, .ref (g.2.1 0)), (1, .int p1), (2, .int p2), (3, .int p3), (4, .int p4)] (zo_54 (p := 76) (k := 8) (a := 8) (zby_w zwX8_years_2 12 rfl) (zby_w zwX8_years_2 13 rfl) (by decide)) (by decide) rfl ?_
            obtain ⟨M23, h⟩ := h
            exact zr_pick [5, 7, 8, 3, 2, 1, 0] rfl (g_X8_years_L78 C hret M23 p2 (0 : Int32) (0 : Int32) h)
          · rw [if_pos hc13] at h
            refine zr_iload_n C (zo_29 (p := 60) (zby_w zwX8_years_1 28 rfl)) rfl ?_
            refine zr_aload C (zo_25 (p := 61) (k := 5) (a := 5) (zby_w zwX8_years_1 29 rfl) (zby_w zwX8_years_1 30 rfl) (by decide)) rfl ?_
            refine zr_iload_n C (zo_27 (p := 63) (zby_w zwX8_years_1 31 rfl)) rfl ?_
            refine zr_cip (zr_runV (As := [.int p1]) (rest := [.int p3]) C vw_X8_274 (c_X6_lostToTeeth l g 2 isX6_2 p1 σ _ h) (sh_2) rfl (by decide) (by decide) rfl rfl (Nat.le_of_ble_eq_true rfl) (zo_182 (p := 64) (k := 274) (a := 1) (b := 18) (zby_w zwX8_years_2 0 rfl) (zby_w zwX8_years_2 1 rfl) (zby_w zwX8_years_2 2 rfl) (by decide))) (fun r24 h => ?_)
            refine zr_imul C (zo_104 (p := 67) (zby_w zwX8_years_2 3 rfl)) ?_
            exact hret _ _ _ h (zo_172 (p := 68) (zby_w zwX8_years_2 4 rfl))
        · rw [if_pos hc12] at h
          refine zr_bipush C (-2 : Int32) d_X8_years_51 (by decide) ?_
          exact hret _ _ _ h d_X8_years_53
  · rw [if_pos hc3] at h
    refine zr_iconst C (-1 : Int32) (zo_2 (p := 18) (zby_w zwX8_years_0 18 rfl)) (by decide) ?_
    exact hret _ _ _ h (zo_172 (p := 19) (zby_w zwX8_years_0 19 rfl))
set_option maxRecDepth 20000 in
theorem c_X8_years (l : Launch) (g : zG) (p1 : Int32) (p2 : Int32) (p3 : Int32) (p4 : Int32) (σ : zST) (Post : Int32 → Prop) (h : wp_X8_years p1 p2 p3 p4 σ Post) : Met l yX8_years (Cond.code yX8_years cX8_years 9 (some .int) :: zGW) (zRm 3 67) (va_Pc [.ref (g.2.1 0), .int p1, .int p2, .int p3, .int p4] (zPP g σ)) (va_Qi (fun r u => Post r ∧ u = σ) (zBB g) (zA g)) 0 0 (zA g) :=
  zMet (by decide) (Nat.le_of_ble_eq_true rfl) (fun p e s m below meth c hr C => g_X8_years C (fun v pc lv hp hd => zr_iret C hr ⟨hp, rfl⟩ hd) h)
def wp_X8_imageBooks (p1 : Int32) (σ : zST) (Post : Nat → Prop) : Prop := (if p1 = (0) then Post (18) else Post (35))
set_option maxRecDepth 100000 in
set_option maxHeartbeats 4000000 in
theorem g_X8_imageBooks {p : Program} {l : Launch} {e : Env} {R : Room} {s : State} {m : MethodId} {args : Array Value} {below : List Frame} {meth : Method} {c : Code} {Q : State → Prop} {g : zG} {n1 n2 : Nat} (C : zCX p R s m args meth c g n1 n2 cX8_imageBooks 2 RX8 0 0) {p1 : Int32} {σ : zST} {Post : Nat → Prop} (hret : ∀ (v : Nat) (pc : Nat) (lv : List (Nat × Value)), Post v → decode cX8_imageBooks pc = .ok (.areturn, 1) → zGG p l e R s m args below meth c Q g n1 n2 2 pc lv [.ref (g.2.1 v)] σ) (h : wp_X8_imageBooks p1 σ Post) : zGG p l e R s m args below meth c Q g n1 n2 2 0 [(0, .ref (g.2.1 0)), (1, .int p1)] [] σ := by
  unfold wp_X8_imageBooks at h
  refine zr_iload_n C (zo_27 (p := 0) (zby_w zwX8_imageBooks_0 0 rfl)) rfl ?_
  refine zr_if_ne C 11 (zo_154 (p := 1) (k := 10) (a := 0) (b := 10) (zby_w zwX8_imageBooks_0 1 rfl) (zby_w zwX8_imageBooks_0 2 rfl) (zby_w zwX8_imageBooks_0 3 rfl) (by decide)) (by decide) (fun hc1 => ?_) (fun hc1 => ?_)
  · rw [if_neg hc1] at h
    refine zr_aload_n C (zo_42 (p := 11) (zby_w zwX8_imageBooks_0 11 rfl)) rfl ?_
    refine zr_getr (u := 35) C fw_X8_19 (sh_0) rfl (zo_180 (p := 12) (k := 19) (a := 0) (b := 19) (zby_w zwX8_imageBooks_0 12 rfl) (zby_w zwX8_imageBooks_0 13 rfl) (zby_w zwX8_imageBooks_0 14 rfl) (by decide)) ?_
    exact hret _ _ _ h d_X8_imageBooks_15
  · rw [if_pos hc1] at h
    refine zr_aload_n C (zo_42 (p := 4) (zby_w zwX8_imageBooks_0 4 rfl)) rfl ?_
    refine zr_getr (u := 18) C fw_X8_16 (sh_0) rfl (zo_180 (p := 5) (k := 16) (a := 0) (b := 16) (zby_w zwX8_imageBooks_0 5 rfl) (zby_w zwX8_imageBooks_0 6 rfl) (zby_w zwX8_imageBooks_0 7 rfl) (by decide)) ?_
    refine zr_goto C 15 (zo_167 (p := 8) (k := 7) (a := 0) (b := 7) (zby_w zwX8_imageBooks_0 8 rfl) (zby_w zwX8_imageBooks_0 9 rfl) (zby_w zwX8_imageBooks_0 10 rfl) (by decide)) (by decide) ?_
    exact hret _ _ _ h d_X8_imageBooks_15
set_option maxRecDepth 20000 in
theorem c_X8_imageBooks (l : Launch) (g : zG) (p1 : Int32) (σ : zST) (Post : Nat → Prop) (h : wp_X8_imageBooks p1 σ Post) : Met l yX8_imageBooks (Cond.code yX8_imageBooks cX8_imageBooks 2 (some (.object "StraitFleet$Books")) :: zGW) (zRm 0 0) (va_Pc [.ref (g.2.1 0), .int p1] (zPP g σ)) (va_Qr (zPr g (fun r u => Post r ∧ u = σ)) (zBr g) (zA g)) 0 0 (zA g) :=
  zMet (by decide) (Nat.le_of_ble_eq_true rfl) (fun p e s m below meth c hr C => g_X8_imageBooks C (fun v pc lv hp hd => zr_aret C hr ⟨hp, rfl⟩ hd) h)
def wp_X8_image (p1 : Int32) (σ : zST) (Post : Int32 → zST → Prop) : Prop := wp_X8_within p1 (0 : Int32) (1 : Int32) σ (fun r1 => (if r1 = (0) then Post (-2 : Int32) σ else wp_X8_imageBooks p1 σ (fun r4 => isX0 r4 ∧ wp_X0_become r4 1 σ (fun σ7 => Post (1 : Int32) (wI σ7 0 3 ((σ7.1 0 3) ||| ((1 : Int32) <<< (p1 &&& 31))))))))
set_option maxRecDepth 100000 in
set_option maxHeartbeats 4000000 in
theorem g_X8_image {p : Program} {l : Launch} {e : Env} {R : Room} {s : State} {m : MethodId} {args : Array Value} {below : List Frame} {meth : Method} {c : Code} {Q : State → Prop} {g : zG} {n1 n2 : Nat} (C : zCX p R s m args meth c g n1 n2 cX8_image 2 RX8 3 90) {p1 : Int32} {σ : zST} {Post : Int32 → zST → Prop} (hret : ∀ (v : Int32) (σ : zST) (pc : Nat) (lv : List (Nat × Value)), Post v σ → decode cX8_image pc = .ok (.ireturn, 1) → zGG p l e R s m args below meth c Q g n1 n2 2 pc lv [.int v] σ) (h : wp_X8_image p1 σ Post) : zGG p l e R s m args below meth c Q g n1 n2 2 0 [(0, .ref (g.2.1 0)), (1, .int p1)] [] σ := by
  unfold wp_X8_image at h
  refine zr_iload_n C (zo_27 (p := 0) (zby_w zwX8_image_0 0 rfl)) rfl ?_
  refine zr_iconst C (0 : Int32) (zo_3 (p := 1) (zby_w zwX8_image_0 1 rfl)) (by decide) ?_
  refine zr_iconst C (1 : Int32) (zo_4 (p := 2) (zby_w zwX8_image_0 2 rfl)) (by decide) ?_
  refine zr_cip (zr_runS (As := [.int p1, .int (0 : Int32), .int (1 : Int32)]) (rest := []) C sw_X8_47 (c_X8_within l g p1 (0 : Int32) (1 : Int32) σ _ h) (by decide) (by decide) rfl rfl (Nat.le_of_ble_eq_true rfl) (zo_184 (p := 3) (k := 47) (a := 0) (b := 47) (zby_w zwX8_image_0 3 rfl) (zby_w zwX8_image_0 4 rfl) (zby_w zwX8_image_0 5 rfl) (by decide))) (fun r1 h => ?_)
  refine zr_if_ne C 12 (zo_154 (p := 6) (k := 6) (a := 0) (b := 6) (zby_w zwX8_image_0 6 rfl) (zby_w zwX8_image_0 7 rfl) (zby_w zwX8_image_0 8 rfl) (by decide)) (by decide) (fun hc3 => ?_) (fun hc3 => ?_)
  · rw [if_neg hc3] at h
    refine zr_aload_n C (zo_42 (p := 12) (zby_w zwX8_image_0 12 rfl)) rfl ?_
    refine zr_iload_n C (zo_27 (p := 13) (zby_w zwX8_image_0 13 rfl)) rfl ?_
    refine zr_crp (zr_runV (As := [.int p1]) (rest := []) C vw_X8_280 (c_X8_imageBooks l g p1 σ _ h) (sh_0) rfl (by decide) (by decide) rfl rfl (Nat.le_of_ble_eq_true rfl) (zo_182 (p := 14) (k := 280) (a := 1) (b := 24) (zby_w zwX8_image_0 14 rfl) (zby_w zwX8_image_0 15 rfl) (zby_w zwX8_image_0 16 rfl) (by decide))) (fun r4 h => ?_)
    obtain ⟨hr4, h⟩ := h
    refine zr_aload_n C (zo_42 (p := 17) (zby_w zwX8_image_0 17 rfl)) rfl ?_
    refine zr_getr (u := 1) C fw_X8_10 (sh_0) rfl (zo_180 (p := 18) (k := 10) (a := 0) (b := 10) (zby_w zwX8_image_0 18 rfl) (zby_w zwX8_image_0 19 rfl) (zby_w zwX8_image_0 20 rfl) (by decide)) ?_
    refine zr_cv (zr_runV (As := [.ref (g.2.1 1)]) (rest := []) C vw_X8_284 (c_X0_become l g r4 hr4 1 isX0_1 σ _ h) (shX0_0 hr4) rfl (by decide) (by decide) rfl rfl (Nat.le_of_ble_eq_true rfl) (zo_182 (p := 21) (k := 284) (a := 1) (b := 28) (zby_w zwX8_image_0 21 rfl) (zby_w zwX8_image_0 22 rfl) (zby_w zwX8_image_0 23 rfl) (by decide))) (fun σ7 h => ?_)
    refine zr_aload_n C (zo_42 (p := 24) (zby_w zwX8_image_0 24 rfl)) rfl ?_
    refine zr_dup C (zo_89 (p := 25) (zby_w zwX8_image_0 25 rfl)) rfl ?_
    refine zr_geti C fw_X8_22 (sh_0) rfl (zo_180 (p := 26) (k := 22) (a := 0) (b := 22) (zby_w zwX8_image_0 26 rfl) (zby_w zwX8_image_0 27 rfl) (zby_w zwX8_image_0 28 rfl) (by decide)) ?_
    refine zr_iconst C (1 : Int32) (zo_4 (p := 29) (zby_w zwX8_image_0 29 rfl)) (by decide) ?_
    refine zr_iload_n C (zo_27 (p := 30) (zby_w zwX8_image_0 30 rfl)) rfl ?_
    refine zr_ishl C (zo_120 (p := 31) (zby_w zwX8_image_0 31 rfl)) ?_
    refine zr_ior C (zo_128 (p := 32) (zby_w zwX8_image_1 0 rfl)) ?_
    refine zr_puti C fw_X8_22 pw_X8_3 (sh_0) rfl rfl rfl (zo_181 (p := 33) (k := 22) (a := 0) (b := 22) (zby_w zwX8_image_1 1 rfl) (zby_w zwX8_image_1 2 rfl) (zby_w zwX8_image_1 3 rfl) (by decide)) ?_
    refine zr_iconst C (1 : Int32) (zo_4 (p := 36) (zby_w zwX8_image_1 4 rfl)) (by decide) ?_
    exact hret _ _ _ _ h (zo_172 (p := 37) (zby_w zwX8_image_1 5 rfl))
  · rw [if_pos hc3] at h
    refine zr_bipush C (-2 : Int32) (zo_16 (p := 9) (k := (-2)) (a := 254) (zby_w zwX8_image_0 9 rfl) (zby_w zwX8_image_0 10 rfl) (by decide)) (by decide) ?_
    exact hret _ _ _ _ h (zo_172 (p := 11) (zby_w zwX8_image_0 11 rfl))
set_option maxRecDepth 20000 in
theorem c_X8_image (l : Launch) (g : zG) (p1 : Int32) (σ : zST) (Post : Int32 → zST → Prop) (h : wp_X8_image p1 σ Post) : Met l yX8_image (Cond.code yX8_image cX8_image 2 (some .int) :: zGW) (zRm 3 90) (va_Pc [.ref (g.2.1 0), .int p1] (zPP g σ)) (va_Qi Post (zBB g) (zA g)) 0 0 (zA g) :=
  zMet (by decide) (Nat.le_of_ble_eq_true rfl) (fun p e s m below meth c hr C => g_X8_image C (fun v σ pc lv hp hd => zr_iret C hr hp hd) h)
def wp_X8_restore (p1 : Int32) (σ : zST) (Post : Int32 → zST → Prop) : Prop := wp_X8_within p1 (0 : Int32) (1 : Int32) σ (fun r1 => (if r1 = (0) then Post (-2 : Int32) σ else (if (((σ.1 0 3) >>> (p1 &&& 31)) &&& (1 : Int32)) = (0) then Post (-3 : Int32) σ else wp_X8_imageBooks p1 σ (fun r5 => isX0 r5 ∧ wp_X0_become 1 r5 σ (fun σ8 => Post (1 : Int32) σ8)))))
set_option maxRecDepth 100000 in
set_option maxHeartbeats 4000000 in
theorem g_X8_restore {p : Program} {l : Launch} {e : Env} {R : Room} {s : State} {m : MethodId} {args : Array Value} {below : List Frame} {meth : Method} {c : Code} {Q : State → Prop} {g : zG} {n1 n2 : Nat} (C : zCX p R s m args meth c g n1 n2 cX8_restore 2 RX8 3 90) {p1 : Int32} {σ : zST} {Post : Int32 → zST → Prop} (hret : ∀ (v : Int32) (σ : zST) (pc : Nat) (lv : List (Nat × Value)), Post v σ → decode cX8_restore pc = .ok (.ireturn, 1) → zGG p l e R s m args below meth c Q g n1 n2 2 pc lv [.int v] σ) (h : wp_X8_restore p1 σ Post) : zGG p l e R s m args below meth c Q g n1 n2 2 0 [(0, .ref (g.2.1 0)), (1, .int p1)] [] σ := by
  unfold wp_X8_restore at h
  refine zr_iload_n C (zo_27 (p := 0) (zby_w zwX8_restore_0 0 rfl)) rfl ?_
  refine zr_iconst C (0 : Int32) (zo_3 (p := 1) (zby_w zwX8_restore_0 1 rfl)) (by decide) ?_
  refine zr_iconst C (1 : Int32) (zo_4 (p := 2) (zby_w zwX8_restore_0 2 rfl)) (by decide) ?_
  refine zr_cip (zr_runS (As := [.int p1, .int (0 : Int32), .int (1 : Int32)]) (rest := []) C sw_X8_47 (c_X8_within l g p1 (0 : Int32) (1 : Int32) σ _ h) (by decide) (by decide) rfl rfl (Nat.le_of_ble_eq_true rfl) (zo_184 (p := 3) (k := 47) (a := 0) (b := 47) (zby_w zwX8_restore_0 3 rfl) (zby_w zwX8_restore_0 4 rfl) (zby_w zwX8_restore_0 5 rfl) (by decide))) (fun r1 h => ?_)
  refine zr_if_ne C 12 (zo_154 (p := 6) (k := 6) (a := 0) (b := 6) (zby_w zwX8_restore_0 6 rfl) (zby_w zwX8_restore_0 7 rfl) (zby_w zwX8_restore_0 8 rfl) (by decide)) (by decide) (fun hc3 => ?_) (fun hc3 => ?_)
  · rw [if_neg hc3] at h
    refine zr_aload_n C (zo_42 (p := 12) (zby_w zwX8_restore_0 12 rfl)) rfl ?_
    refine zr_geti C fw_X8_22 (sh_0) rfl (zo_180 (p := 13) (k := 22) (a := 0) (b := 22) (zby_w zwX8_restore_0 13 rfl) (zby_w zwX8_restore_0 14 rfl) (zby_w zwX8_restore_0 15 rfl) (by decide)) ?_
    refine zr_iload_n C (zo_27 (p := 16) (zby_w zwX8_restore_0 16 rfl)) rfl ?_
    refine zr_ishr C (zo_122 (p := 17) (zby_w zwX8_restore_0 17 rfl)) ?_
    refine zr_iconst C (1 : Int32) (zo_4 (p := 18) (zby_w zwX8_restore_0 18 rfl)) (by decide) ?_
    refine zr_iand C (zo_126 (p := 19) (zby_w zwX8_restore_0 19 rfl)) ?_
    refine zr_if_ne C 26 (zo_154 (p := 20) (k := 6) (a := 0) (b := 6) (zby_w zwX8_restore_0 20 rfl) (zby_w zwX8_restore_0 21 rfl) (zby_w zwX8_restore_0 22 rfl) (by decide)) (by decide) (fun hc4 => ?_) (fun hc4 => ?_)
    · rw [if_neg hc4] at h
      refine zr_aload_n C (zo_42 (p := 26) (zby_w zwX8_restore_0 26 rfl)) rfl ?_
      refine zr_getr (u := 1) C fw_X8_10 (sh_0) rfl (zo_180 (p := 27) (k := 10) (a := 0) (b := 10) (zby_w zwX8_restore_0 27 rfl) (zby_w zwX8_restore_0 28 rfl) (zby_w zwX8_restore_0 29 rfl) (by decide)) ?_
      refine zr_aload_n C (zo_42 (p := 30) (zby_w zwX8_restore_0 30 rfl)) rfl ?_
      refine zr_iload_n C (zo_27 (p := 31) (zby_w zwX8_restore_0 31 rfl)) rfl ?_
      refine zr_crp (zr_runV (As := [.int p1]) (rest := [.ref (g.2.1 1)]) C vw_X8_280 (c_X8_imageBooks l g p1 σ _ h) (sh_0) rfl (by decide) (by decide) rfl rfl (Nat.le_of_ble_eq_true rfl) (zo_182 (p := 32) (k := 280) (a := 1) (b := 24) (zby_w zwX8_restore_1 0 rfl) (zby_w zwX8_restore_1 1 rfl) (zby_w zwX8_restore_1 2 rfl) (by decide))) (fun r5 h => ?_)
      obtain ⟨hr5, h⟩ := h
      refine zr_cv (zr_runV (As := [.ref (g.2.1 r5)]) (rest := []) C vw_X8_284 (c_X0_become l g 1 isX0_1 r5 hr5 σ _ h) (sh_1) rfl (by decide) (by decide) rfl rfl (Nat.le_of_ble_eq_true rfl) (zo_182 (p := 35) (k := 284) (a := 1) (b := 28) (zby_w zwX8_restore_1 3 rfl) (zby_w zwX8_restore_1 4 rfl) (zby_w zwX8_restore_1 5 rfl) (by decide))) (fun σ8 h => ?_)
      refine zr_iconst C (1 : Int32) (zo_4 (p := 38) (zby_w zwX8_restore_1 6 rfl)) (by decide) ?_
      exact hret _ _ _ _ h (zo_172 (p := 39) (zby_w zwX8_restore_1 7 rfl))
    · rw [if_pos hc4] at h
      refine zr_bipush C (-3 : Int32) (zo_16 (p := 23) (k := (-3)) (a := 253) (zby_w zwX8_restore_0 23 rfl) (zby_w zwX8_restore_0 24 rfl) (by decide)) (by decide) ?_
      exact hret _ _ _ _ h (zo_172 (p := 25) (zby_w zwX8_restore_0 25 rfl))
  · rw [if_pos hc3] at h
    refine zr_bipush C (-2 : Int32) (zo_16 (p := 9) (k := (-2)) (a := 254) (zby_w zwX8_restore_0 9 rfl) (zby_w zwX8_restore_0 10 rfl) (by decide)) (by decide) ?_
    exact hret _ _ _ _ h (zo_172 (p := 11) (zby_w zwX8_restore_0 11 rfl))
set_option maxRecDepth 20000 in
theorem c_X8_restore (l : Launch) (g : zG) (p1 : Int32) (σ : zST) (Post : Int32 → zST → Prop) (h : wp_X8_restore p1 σ Post) : Met l yX8_restore (Cond.code yX8_restore cX8_restore 2 (some .int) :: zGW) (zRm 3 90) (va_Pc [.ref (g.2.1 0), .int p1] (zPP g σ)) (va_Qi Post (zBB g) (zA g)) 0 0 (zA g) :=
  zMet (by decide) (Nat.le_of_ble_eq_true rfl) (fun p e s m below meth c hr C => g_X8_restore C (fun v σ pc lv hp hd => zr_iret C hr hp hd) h)
def wp_X8_told (p1 : Int32) (σ : zST) (Post : Int32 → Prop) : Prop := wp_X8_within p1 (2 : Int32) (9 : Int32) σ (fun r1 => (if r1 = (0) then wp_X8_within p1 (20 : Int32) (27 : Int32) σ (fun r4 => (if r4 = (0) then wp_X8_within p1 (30 : Int32) (35 : Int32) σ (fun r7 => (if r7 = (0) then wp_X8_within p1 (100 : Int32) (123 : Int32) σ (fun r10 => (if r10 = (0) then (if p1 = 0 then Post (σ.1 52 1) else (if p1 = 1 then Post (σ.1 2 0) else (if p1 = 2 then Post (-2 : Int32) else (if p1 = 3 then Post (-2 : Int32) else (if p1 = 4 then Post (-2 : Int32) else (if p1 = 5 then Post (-2 : Int32) else (if p1 = 6 then Post (-2 : Int32) else (if p1 = 7 then Post (-2 : Int32) else (if p1 = 8 then Post (-2 : Int32) else (if p1 = 9 then Post (-2 : Int32) else (if p1 = 10 then Post (σ.1 2 7) else (if p1 = 11 then Post (σ.1 10 0) else (if p1 = 12 then Post (σ.1 13 0) else (if p1 = 13 then Post (σ.1 15 0) else Post (-2 : Int32))))))))))))))) else wp_X6_digitAt 2 (p1 - (100 : Int32)) σ (fun r27 => Post r27))) else wp_X6_has 2 (p1 - (30 : Int32)) σ (fun r29 => (if r29 = (0) then True else vp_in (p1 - (30 : Int32)) 6 ∧ True) ∧ ∀ z32 : Int32, z32 = (if r29 = (0) then (-2 : Int32) else (σ.1 6 (p1 - (30 : Int32)).toNatClampNeg)) → Post z32))) else wp_X1_has 13 (p1 - (20 : Int32)) σ (fun r36 => (if r36 = (0) then True else vp_in (p1 - (20 : Int32)) 8 ∧ True) ∧ ∀ z39 : Int32, z39 = (if r36 = (0) then (-2 : Int32) else (σ.1 14 (p1 - (20 : Int32)).toNatClampNeg)) → Post z39))) else vp_in (p1 - (2 : Int32)) 8 ∧ Post (σ.1 7 (p1 - (2 : Int32)).toNatClampNeg)))
set_option maxRecDepth 100000 in
set_option maxHeartbeats 4000000 in
theorem g_X8_told {p : Program} {l : Launch} {e : Env} {R : Room} {s : State} {m : MethodId} {args : Array Value} {below : List Frame} {meth : Method} {c : Code} {Q : State → Prop} {g : zG} {n1 n2 : Nat} (C : zCX p R s m args meth c g n1 n2 cX8_told 2 RX8 2 43) {p1 : Int32} {σ : zST} {Post : Int32 → Prop} (hret : ∀ (v : Int32) (pc : Nat) (lv : List (Nat × Value)), Post v → decode cX8_told pc = .ok (.ireturn, 1) → zGG p l e R s m args below meth c Q g n1 n2 2 pc lv [.int v] σ) (h : wp_X8_told p1 σ Post) : zGG p l e R s m args below meth c Q g n1 n2 2 0 [(0, .ref (g.2.1 0)), (1, .int p1)] [] σ := by
  unfold wp_X8_told at h
  refine zr_iload_n C (zo_27 (p := 0) (zby_w zwX8_told_0 0 rfl)) rfl ?_
  refine zr_iconst C (2 : Int32) (zo_5 (p := 1) (zby_w zwX8_told_0 1 rfl)) (by decide) ?_
  refine zr_bipush C (9 : Int32) (zo_16 (p := 2) (k := 9) (a := 9) (zby_w zwX8_told_0 2 rfl) (zby_w zwX8_told_0 3 rfl) (by decide)) (by decide) ?_
  refine zr_cip (zr_runS (As := [.int p1, .int (2 : Int32), .int (9 : Int32)]) (rest := []) C sw_X8_47 (c_X8_within l g p1 (2 : Int32) (9 : Int32) σ _ h) (by decide) (by decide) rfl rfl (Nat.le_of_ble_eq_true rfl) (zo_184 (p := 4) (k := 47) (a := 0) (b := 47) (zby_w zwX8_told_0 4 rfl) (zby_w zwX8_told_0 5 rfl) (zby_w zwX8_told_0 6 rfl) (by decide))) (fun r1 h => ?_)
  refine zr_if_eq C 25 (zo_153 (p := 7) (k := 18) (a := 0) (b := 18) (zby_w zwX8_told_0 7 rfl) (zby_w zwX8_told_0 8 rfl) (zby_w zwX8_told_0 9 rfl) (by decide)) (by decide) (fun hc3 => ?_) (fun hc3 => ?_)
  · rw [if_pos hc3] at h
    refine zr_iload_n C (zo_27 (p := 25) (zby_w zwX8_told_0 25 rfl)) rfl ?_
    refine zr_bipush C (20 : Int32) (zo_16 (p := 26) (k := 20) (a := 20) (zby_w zwX8_told_0 26 rfl) (zby_w zwX8_told_0 27 rfl) (by decide)) (by decide) ?_
    refine zr_bipush C (27 : Int32) (zo_16 (p := 28) (k := 27) (a := 27) (zby_w zwX8_told_0 28 rfl) (zby_w zwX8_told_0 29 rfl) (by decide)) (by decide) ?_
    refine zr_cip (zr_runS (As := [.int p1, .int (20 : Int32), .int (27 : Int32)]) (rest := []) C sw_X8_47 (c_X8_within l g p1 (20 : Int32) (27 : Int32) σ _ h) (by decide) (by decide) rfl rfl (Nat.le_of_ble_eq_true rfl) (zo_184 (p := 30) (k := 47) (a := 0) (b := 47) (zby_w zwX8_told_0 30 rfl) (zby_w zwX8_told_0 31 rfl) (zby_w zwX8_told_0 32 rfl) (by decide))) (fun r4 h => ?_)
    refine zr_if_eq C 74 (zo_153 (p := 33) (k := 41) (a := 0) (b := 41) (zby_w zwX8_told_1 1 rfl) (zby_w zwX8_told_1 2 rfl) (zby_w zwX8_told_1 3 rfl) (by decide)) (by decide) (fun hc6 => ?_) (fun hc6 => ?_)
    · rw [if_pos hc6] at h
      refine zr_iload_n C (zo_27 (p := 74) (zby_w zwX8_told_2 10 rfl)) rfl ?_
      refine zr_bipush C (30 : Int32) (zo_16 (p := 75) (k := 30) (a := 30) (zby_w zwX8_told_2 11 rfl) (zby_w zwX8_told_2 12 rfl) (by decide)) (by decide) ?_
      refine zr_bipush C (35 : Int32) (zo_16 (p := 77) (k := 35) (a := 35) (zby_w zwX8_told_2 13 rfl) (zby_w zwX8_told_2 14 rfl) (by decide)) (by decide) ?_
      refine zr_cip (zr_runS (As := [.int p1, .int (30 : Int32), .int (35 : Int32)]) (rest := []) C sw_X8_47 (c_X8_within l g p1 (30 : Int32) (35 : Int32) σ _ h) (by decide) (by decide) rfl rfl (Nat.le_of_ble_eq_true rfl) (zo_184 (p := 79) (k := 47) (a := 0) (b := 47) (zby_w zwX8_told_2 15 rfl) (zby_w zwX8_told_2 16 rfl) (zby_w zwX8_told_2 17 rfl) (by decide))) (fun r7 h => ?_)
      refine zr_if_eq C 123 (zo_153 (p := 82) (k := 41) (a := 0) (b := 41) (zby_w zwX8_told_2 18 rfl) (zby_w zwX8_told_2 19 rfl) (zby_w zwX8_told_2 20 rfl) (by decide)) (by decide) (fun hc9 => ?_) (fun hc9 => ?_)
      · rw [if_pos hc9] at h
        refine zr_iload_n C (zo_27 (p := 123) (zby_w zwX8_told_3 27 rfl)) rfl ?_
        refine zr_bipush C (100 : Int32) (zo_16 (p := 124) (k := 100) (a := 100) (zby_w zwX8_told_3 28 rfl) (zby_w zwX8_told_3 29 rfl) (by decide)) (by decide) ?_
        refine zr_bipush C (123 : Int32) (zo_16 (p := 126) (k := 123) (a := 123) (zby_w zwX8_told_3 30 rfl) (zby_w zwX8_told_3 31 rfl) (by decide)) (by decide) ?_
        refine zr_cip (zr_runS (As := [.int p1, .int (100 : Int32), .int (123 : Int32)]) (rest := []) C sw_X8_47 (c_X8_within l g p1 (100 : Int32) (123 : Int32) σ _ h) (by decide) (by decide) rfl rfl (Nat.le_of_ble_eq_true rfl) (zo_184 (p := 128) (k := 47) (a := 0) (b := 47) (zby_w zwX8_told_4 0 rfl) (zby_w zwX8_told_4 1 rfl) (zby_w zwX8_told_4 2 rfl) (by decide))) (fun r10 h => ?_)
        refine zr_if_eq C 149 (zo_153 (p := 131) (k := 18) (a := 0) (b := 18) (zby_w zwX8_told_4 3 rfl) (zby_w zwX8_told_4 4 rfl) (zby_w zwX8_told_4 5 rfl) (by decide)) (by decide) (fun hc12 => ?_) (fun hc12 => ?_)
        · rw [if_pos hc12] at h
          refine zr_iload_n C (zo_27 (p := 149) (zby_w zwX8_told_4 21 rfl)) rfl ?_
          by_cases hc13 : p1 = 0
          · rw [if_pos hc13] at h
            refine zr_tabIn C (off := 70) 220 d_X8_told_150 (by rw [hc13]; decide) (by rw [hc13]; decide) (by rw [hc13]; rfl) (by decide) ?_
            refine zr_aload_n C (zo_42 (p := 220) (zby_w zwX8_told_6 28 rfl)) rfl ?_
            refine zr_getr (u := 52) C fw_X8_29 (sh_0) rfl (zo_180 (p := 221) (k := 29) (a := 0) (b := 29) (zby_w zwX8_told_6 29 rfl) (zby_w zwX8_told_6 30 rfl) (zby_w zwX8_told_6 31 rfl) (by decide)) ?_
            refine zr_geti C fw_X8_92 (sh_52) rfl (zo_180 (p := 224) (k := 92) (a := 0) (b := 92) (zby_w zwX8_told_7 0 rfl) (zby_w zwX8_told_7 1 rfl) (zby_w zwX8_told_7 2 rfl) (by decide)) ?_
            exact hret _ _ _ h (zo_172 (p := 227) (zby_w zwX8_told_7 3 rfl))
          rw [if_neg hc13] at h
          by_cases hc14 : p1 = 1
          · rw [if_pos hc14] at h
            refine zr_tabIn C (off := 78) 228 d_X8_told_150 (by rw [hc14]; decide) (by rw [hc14]; decide) (by rw [hc14]; rfl) (by decide) ?_
            refine zr_aload_n C (zo_42 (p := 228) (zby_w zwX8_told_7 4 rfl)) rfl ?_
            refine zr_getr (u := 1) C fw_X8_10 (sh_0) rfl (zo_180 (p := 229) (k := 10) (a := 0) (b := 10) (zby_w zwX8_told_7 5 rfl) (zby_w zwX8_told_7 6 rfl) (zby_w zwX8_told_7 7 rfl) (by decide)) ?_
            refine zr_getr (u := 2) C fw_X8_51 (sh_1) rfl (zo_180 (p := 232) (k := 51) (a := 0) (b := 51) (zby_w zwX8_told_7 8 rfl) (zby_w zwX8_told_7 9 rfl) (zby_w zwX8_told_7 10 rfl) (by decide)) ?_
            refine zr_geti C fw_X8_55 (sh_2) rfl (zo_180 (p := 235) (k := 55) (a := 0) (b := 55) (zby_w zwX8_told_7 11 rfl) (zby_w zwX8_told_7 12 rfl) (zby_w zwX8_told_7 13 rfl) (by decide)) ?_
            exact hret _ _ _ h (zo_172 (p := 238) (zby_w zwX8_told_7 14 rfl))
          rw [if_neg hc14] at h
          by_cases hc15 : p1 = 2
          · rw [if_pos hc15] at h
            refine zr_tabIn C (off := 133) 283 d_X8_told_150 (by rw [hc15]; decide) (by rw [hc15]; decide) (by rw [hc15]; rfl) (by decide) ?_
            refine zr_bipush C (-2 : Int32) d_X8_told_283 (by decide) ?_
            exact hret _ _ _ h d_X8_told_285
          rw [if_neg hc15] at h
          by_cases hc16 : p1 = 3
          · rw [if_pos hc16] at h
            refine zr_tabIn C (off := 133) 283 d_X8_told_150 (by rw [hc16]; decide) (by rw [hc16]; decide) (by rw [hc16]; rfl) (by decide) ?_
            refine zr_bipush C (-2 : Int32) d_X8_told_283 (by decide) ?_
            exact hret _ _ _ h d_X8_told_285
          rw [if_neg hc16] at h
          by_cases hc17 : p1 = 4
          · rw [if_pos hc17] at h
            refine zr_tabIn C (off := 133) 283 d_X8_told_150 (by rw [hc17]; decide) (by rw [hc17]; decide) (by rw [hc17]; rfl) (by decide) ?_
            refine zr_bipush C (-2 : Int32) d_X8_told_283 (by decide) ?_
            exact hret _ _ _ h d_X8_told_285
          rw [if_neg hc17] at h
          by_cases hc18 : p1 = 5
          · rw [if_pos hc18] at h
            refine zr_tabIn C (off := 133) 283 d_X8_told_150 (by rw [hc18]; decide) (by rw [hc18]; decide) (by rw [hc18]; rfl) (by decide) ?_
            refine zr_bipush C (-2 : Int32) d_X8_told_283 (by decide) ?_
            exact hret _ _ _ h d_X8_told_285
          rw [if_neg hc18] at h
          by_cases hc19 : p1 = 6
          · rw [if_pos hc19] at h
            refine zr_tabIn C (off := 133) 283 d_X8_told_150 (by rw [hc19]; decide) (by rw [hc19]; decide) (by rw [hc19]; rfl) (by decide) ?_
            refine zr_bipush C (-2 : Int32) d_X8_told_283 (by decide) ?_
            exact hret _ _ _ h d_X8_told_285
          rw [if_neg hc19] at h
          by_cases hc20 : p1 = 7
          · rw [if_pos hc20] at h
            refine zr_tabIn C (off := 133) 283 d_X8_told_150 (by rw [hc20]; decide) (by rw [hc20]; decide) (by rw [hc20]; rfl) (by decide) ?_
            refine zr_bipush C (-2 : Int32) d_X8_told_283 (by decide) ?_
            exact hret _ _ _ h d_X8_told_285
          rw [if_neg hc20] at h
          by_cases hc21 : p1 = 8
          · rw [if_pos hc21] at h
            refine zr_tabIn C (off := 133) 283 d_X8_told_150 (by rw [hc21]; decide) (by rw [hc21]; decide) (by rw [hc21]; rfl) (by decide) ?_
            refine zr_bipush C (-2 : Int32) d_X8_told_283 (by decide) ?_
            exact hret _ _ _ h d_X8_told_285
          rw [if_neg hc21] at h
          by_cases hc22 : p1 = 9
          · rw [if_pos hc22] at h
            refine zr_tabIn C (off := 133) 283 d_X8_told_150 (by rw [hc22]; decide) (by rw [hc22]; decide) (by rw [hc22]; rfl) (by decide) ?_
            refine zr_bipush C (-2 : Int32) d_X8_told_283 (by decide) ?_
            exact hret _ _ _ h d_X8_told_285
          rw [if_neg hc22] at h
          by_cases hc23 : p1 = 10
          · rw [if_pos hc23] at h
            refine zr_tabIn C (off := 89) 239 d_X8_told_150 (by rw [hc23]; decide) (by rw [hc23]; decide) (by rw [hc23]; rfl) (by decide) ?_
            refine zr_aload_n C (zo_42 (p := 239) (zby_w zwX8_told_7 15 rfl)) rfl ?_
            refine zr_getr (u := 1) C fw_X8_10 (sh_0) rfl (zo_180 (p := 240) (k := 10) (a := 0) (b := 10) (zby_w zwX8_told_7 16 rfl) (zby_w zwX8_told_7 17 rfl) (zby_w zwX8_told_7 18 rfl) (by decide)) ?_
            refine zr_getr (u := 2) C fw_X8_51 (sh_1) rfl (zo_180 (p := 243) (k := 51) (a := 0) (b := 51) (zby_w zwX8_told_7 19 rfl) (zby_w zwX8_told_7 20 rfl) (zby_w zwX8_told_7 21 rfl) (by decide)) ?_
            refine zr_geti C fw_X8_114 (sh_2) rfl (zo_180 (p := 246) (k := 114) (a := 0) (b := 114) (zby_w zwX8_told_7 22 rfl) (zby_w zwX8_told_7 23 rfl) (zby_w zwX8_told_7 24 rfl) (by decide)) ?_
            exact hret _ _ _ h (zo_172 (p := 249) (zby_w zwX8_told_7 25 rfl))
          rw [if_neg hc23] at h
          by_cases hc24 : p1 = 11
          · rw [if_pos hc24] at h
            refine zr_tabIn C (off := 100) 250 d_X8_told_150 (by rw [hc24]; decide) (by rw [hc24]; decide) (by rw [hc24]; rfl) (by decide) ?_
            refine zr_aload_n C (zo_42 (p := 250) (zby_w zwX8_told_7 26 rfl)) rfl ?_
            refine zr_getr (u := 1) C fw_X8_10 (sh_0) rfl (zo_180 (p := 251) (k := 10) (a := 0) (b := 10) (zby_w zwX8_told_7 27 rfl) (zby_w zwX8_told_7 28 rfl) (zby_w zwX8_told_7 29 rfl) (by decide)) ?_
            refine zr_getr (u := 10) C fw_X8_196 (sh_1) rfl (zo_180 (p := 254) (k := 196) (a := 0) (b := 196) (zby_w zwX8_told_7 30 rfl) (zby_w zwX8_told_7 31 rfl) (zby_w zwX8_told_7 32 rfl) (by decide)) ?_
            refine zr_geti C fw_X8_200 (sh_10) rfl (zo_180 (p := 257) (k := 200) (a := 0) (b := 200) (zby_w zwX8_told_8 1 rfl) (zby_w zwX8_told_8 2 rfl) (zby_w zwX8_told_8 3 rfl) (by decide)) ?_
            exact hret _ _ _ h (zo_172 (p := 260) (zby_w zwX8_told_8 4 rfl))
          rw [if_neg hc24] at h
          by_cases hc25 : p1 = 12
          · rw [if_pos hc25] at h
            refine zr_tabIn C (off := 111) 261 d_X8_told_150 (by rw [hc25]; decide) (by rw [hc25]; decide) (by rw [hc25]; rfl) (by decide) ?_
            refine zr_aload_n C (zo_42 (p := 261) (zby_w zwX8_told_8 5 rfl)) rfl ?_
            refine zr_getr (u := 1) C fw_X8_10 (sh_0) rfl (zo_180 (p := 262) (k := 10) (a := 0) (b := 10) (zby_w zwX8_told_8 6 rfl) (zby_w zwX8_told_8 7 rfl) (zby_w zwX8_told_8 8 rfl) (by decide)) ?_
            refine zr_getr (u := 13) C fw_X8_228 (sh_1) rfl (zo_180 (p := 265) (k := 228) (a := 0) (b := 228) (zby_w zwX8_told_8 9 rfl) (zby_w zwX8_told_8 10 rfl) (zby_w zwX8_told_8 11 rfl) (by decide)) ?_
            refine zr_geti C fw_X8_232 (sh_13) rfl (zo_180 (p := 268) (k := 232) (a := 0) (b := 232) (zby_w zwX8_told_8 12 rfl) (zby_w zwX8_told_8 13 rfl) (zby_w zwX8_told_8 14 rfl) (by decide)) ?_
            exact hret _ _ _ h (zo_172 (p := 271) (zby_w zwX8_told_8 15 rfl))
          rw [if_neg hc25] at h
          by_cases hc26 : p1 = 13
          · rw [if_pos hc26] at h
            refine zr_tabIn C (off := 122) 272 d_X8_told_150 (by rw [hc26]; decide) (by rw [hc26]; decide) (by rw [hc26]; rfl) (by decide) ?_
            refine zr_aload_n C (zo_42 (p := 272) (zby_w zwX8_told_8 16 rfl)) rfl ?_
            refine zr_getr (u := 1) C fw_X8_10 (sh_0) rfl (zo_180 (p := 273) (k := 10) (a := 0) (b := 10) (zby_w zwX8_told_8 17 rfl) (zby_w zwX8_told_8 18 rfl) (zby_w zwX8_told_8 19 rfl) (by decide)) ?_
            refine zr_getr (u := 15) C fw_X8_257 (sh_1) rfl (zo_180 (p := 276) (k := 257) (a := 1) (b := 1) (zby_w zwX8_told_8 20 rfl) (zby_w zwX8_told_8 21 rfl) (zby_w zwX8_told_8 22 rfl) (by decide)) ?_
            refine zr_geti C fw_X8_261 (sh_15) rfl (zo_180 (p := 279) (k := 261) (a := 1) (b := 5) (zby_w zwX8_told_8 23 rfl) (zby_w zwX8_told_8 24 rfl) (zby_w zwX8_told_8 25 rfl) (by decide)) ?_
            exact hret _ _ _ h (zo_172 (p := 282) (zby_w zwX8_told_8 26 rfl))
          rw [if_neg hc26] at h
          have ehc13 := lv_neT hc13 (show (0 : Int32).toInt = 0 by decide)
          have ehc14 := lv_neT hc14 (show (1 : Int32).toInt = 1 by decide)
          have ehc15 := lv_neT hc15 (show (2 : Int32).toInt = 2 by decide)
          have ehc16 := lv_neT hc16 (show (3 : Int32).toInt = 3 by decide)
          have ehc17 := lv_neT hc17 (show (4 : Int32).toInt = 4 by decide)
          have ehc18 := lv_neT hc18 (show (5 : Int32).toInt = 5 by decide)
          have ehc19 := lv_neT hc19 (show (6 : Int32).toInt = 6 by decide)
          have ehc20 := lv_neT hc20 (show (7 : Int32).toInt = 7 by decide)
          have ehc21 := lv_neT hc21 (show (8 : Int32).toInt = 8 by decide)
          have ehc22 := lv_neT hc22 (show (9 : Int32).toInt = 9 by decide)
          have ehc23 := lv_neT hc23 (show (10 : Int32).toInt = 10 by decide)
          have ehc24 := lv_neT hc24 (show (11 : Int32).toInt = 11 by decide)
          have ehc25 := lv_neT hc25 (show (12 : Int32).toInt = 12 by decide)
          have ehc26 := lv_neT hc26 (show (13 : Int32).toInt = 13 by decide)
          refine zr_tabOut C 283 d_X8_told_150 (by omega) (by decide) ?_
          refine zr_bipush C (-2 : Int32) d_X8_told_283 (by decide) ?_
          exact hret _ _ _ h d_X8_told_285
        · rw [if_neg hc12] at h
          refine zr_aload_n C (zo_42 (p := 134) (zby_w zwX8_told_4 6 rfl)) rfl ?_
          refine zr_getr (u := 1) C fw_X8_10 (sh_0) rfl (zo_180 (p := 135) (k := 10) (a := 0) (b := 10) (zby_w zwX8_told_4 7 rfl) (zby_w zwX8_told_4 8 rfl) (zby_w zwX8_told_4 9 rfl) (by decide)) ?_
          refine zr_getr (u := 2) C fw_X8_51 (sh_1) rfl (zo_180 (p := 138) (k := 51) (a := 0) (b := 51) (zby_w zwX8_told_4 10 rfl) (zby_w zwX8_told_4 11 rfl) (zby_w zwX8_told_4 12 rfl) (by decide)) ?_
          refine zr_iload_n C (zo_27 (p := 141) (zby_w zwX8_told_4 13 rfl)) rfl ?_
          refine zr_bipush C (100 : Int32) (zo_16 (p := 142) (k := 100) (a := 100) (zby_w zwX8_told_4 14 rfl) (zby_w zwX8_told_4 15 rfl) (by decide)) (by decide) ?_
          refine zr_isub C (zo_100 (p := 144) (zby_w zwX8_told_4 16 rfl)) ?_
          refine zr_cip (zr_runV (As := [.int (p1 - (100 : Int32))]) (rest := []) C vw_X8_209 (c_X6_digitAt l g 2 isX6_2 (p1 - (100 : Int32)) σ _ h) (sh_2) rfl (by decide) (by decide) rfl rfl (Nat.le_of_ble_eq_true rfl) (zo_182 (p := 145) (k := 209) (a := 0) (b := 209) (zby_w zwX8_told_4 17 rfl) (zby_w zwX8_told_4 18 rfl) (zby_w zwX8_told_4 19 rfl) (by decide))) (fun r27 h => ?_)
          exact hret _ _ _ h (zo_172 (p := 148) (zby_w zwX8_told_4 20 rfl))
      · rw [if_neg hc9] at h
        refine zr_aload_n C (zo_42 (p := 85) (zby_w zwX8_told_2 21 rfl)) rfl ?_
        refine zr_getr (u := 1) C fw_X8_10 (sh_0) rfl (zo_180 (p := 86) (k := 10) (a := 0) (b := 10) (zby_w zwX8_told_2 22 rfl) (zby_w zwX8_told_2 23 rfl) (zby_w zwX8_told_2 24 rfl) (by decide)) ?_
        refine zr_getr (u := 2) C fw_X8_51 (sh_1) rfl (zo_180 (p := 89) (k := 51) (a := 0) (b := 51) (zby_w zwX8_told_2 25 rfl) (zby_w zwX8_told_2 26 rfl) (zby_w zwX8_told_2 27 rfl) (by decide)) ?_
        refine zr_iload_n C (zo_27 (p := 92) (zby_w zwX8_told_2 28 rfl)) rfl ?_
        refine zr_bipush C (30 : Int32) (zo_16 (p := 93) (k := 30) (a := 30) (zby_w zwX8_told_2 29 rfl) (zby_w zwX8_told_2 30 rfl) (by decide)) (by decide) ?_
        refine zr_isub C (zo_100 (p := 95) (zby_w zwX8_told_2 31 rfl)) ?_
        refine zr_cip (zr_runV (As := [.int (p1 - (30 : Int32))]) (rest := []) C vw_X8_79 (c_X6_has l g 2 isX6_2 (p1 - (30 : Int32)) σ _ h) (sh_2) rfl (by decide) (by decide) rfl rfl (Nat.le_of_ble_eq_true rfl) (zo_182 (p := 96) (k := 79) (a := 0) (b := 79) (zby_w zwX8_told_3 0 rfl) (zby_w zwX8_told_3 1 rfl) (zby_w zwX8_told_3 2 rfl) (by decide))) (fun r29 h => ?_)
        obtain ⟨ho34, h⟩ := h
        have hJ33 : ∀ z32 : Int32, z32 = (if r29 = (0) then (-2 : Int32) else (σ.1 6 (p1 - (30 : Int32)).toNatClampNeg)) → zGG p l e R s m args below meth c Q g n1 n2 2 122 [(0, .ref (g.2.1 0)), (1, .int p1)] [.int z32] σ := by
          intro z32 hz32
          replace h := h z32 hz32
          exact hret _ _ _ h (zo_172 (p := 122) (zby_w zwX8_told_3 26 rfl))
        refine zr_if_eq C 120 (zo_153 (p := 99) (k := 21) (a := 0) (b := 21) (zby_w zwX8_told_3 3 rfl) (zby_w zwX8_told_3 4 rfl) (zby_w zwX8_told_3 5 rfl) (by decide)) (by decide) (fun hc31 => ?_) (fun hc31 => ?_)
        · skip
          rw [if_pos hc31] at ho34
          refine zr_bipush C (-2 : Int32) (zo_16 (p := 120) (k := (-2)) (a := 254) (zby_w zwX8_told_3 24 rfl) (zby_w zwX8_told_3 25 rfl) (by decide)) (by decide) ?_
          exact hJ33 _ (by rw [if_pos hc31])
        · skip
          rw [if_neg hc31] at ho34
          refine zr_aload_n C (zo_42 (p := 102) (zby_w zwX8_told_3 6 rfl)) rfl ?_
          refine zr_getr (u := 1) C fw_X8_10 (sh_0) rfl (zo_180 (p := 103) (k := 10) (a := 0) (b := 10) (zby_w zwX8_told_3 7 rfl) (zby_w zwX8_told_3 8 rfl) (zby_w zwX8_told_3 9 rfl) (by decide)) ?_
          refine zr_getr (u := 2) C fw_X8_51 (sh_1) rfl (zo_180 (p := 106) (k := 51) (a := 0) (b := 51) (zby_w zwX8_told_3 10 rfl) (zby_w zwX8_told_3 11 rfl) (zby_w zwX8_told_3 12 rfl) (by decide)) ?_
          refine zr_getr (u := 6) C fw_X8_70 (sh_2) rfl (zo_180 (p := 109) (k := 70) (a := 0) (b := 70) (zby_w zwX8_told_3 13 rfl) (zby_w zwX8_told_3 14 rfl) (zby_w zwX8_told_3 15 rfl) (by decide)) ?_
          refine zr_iload_n C (zo_27 (p := 112) (zby_w zwX8_told_3 16 rfl)) rfl ?_
          refine zr_bipush C (30 : Int32) (zo_16 (p := 113) (k := 30) (a := 30) (zby_w zwX8_told_3 17 rfl) (zby_w zwX8_told_3 18 rfl) (by decide)) (by decide) ?_
          refine zr_isub C (zo_100 (p := 115) (zby_w zwX8_told_3 19 rfl)) ?_
          obtain ⟨ho35, ho34⟩ := ho34
          refine zr_iald C (sh_6) ho35 (zo_46 (p := 116) (zby_w zwX8_told_3 20 rfl)) ?_
          refine zr_goto C 122 (zo_167 (p := 117) (k := 5) (a := 0) (b := 5) (zby_w zwX8_told_3 21 rfl) (zby_w zwX8_told_3 22 rfl) (zby_w zwX8_told_3 23 rfl) (by decide)) (by decide) ?_
          exact hJ33 _ (by rw [if_neg hc31])
    · rw [if_neg hc6] at h
      refine zr_aload_n C (zo_42 (p := 36) (zby_w zwX8_told_1 4 rfl)) rfl ?_
      refine zr_getr (u := 1) C fw_X8_10 (sh_0) rfl (zo_180 (p := 37) (k := 10) (a := 0) (b := 10) (zby_w zwX8_told_1 5 rfl) (zby_w zwX8_told_1 6 rfl) (zby_w zwX8_told_1 7 rfl) (by decide)) ?_
      refine zr_getr (u := 13) C fw_X8_228 (sh_1) rfl (zo_180 (p := 40) (k := 228) (a := 0) (b := 228) (zby_w zwX8_told_1 8 rfl) (zby_w zwX8_told_1 9 rfl) (zby_w zwX8_told_1 10 rfl) (by decide)) ?_
      refine zr_iload_n C (zo_27 (p := 43) (zby_w zwX8_told_1 11 rfl)) rfl ?_
      refine zr_bipush C (20 : Int32) (zo_16 (p := 44) (k := 20) (a := 20) (zby_w zwX8_told_1 12 rfl) (zby_w zwX8_told_1 13 rfl) (by decide)) (by decide) ?_
      refine zr_isub C (zo_100 (p := 46) (zby_w zwX8_told_1 14 rfl)) ?_
      refine zr_cip (zr_runV (As := [.int (p1 - (20 : Int32))]) (rest := []) C vw_X8_238 (c_X1_has l g 13 isX1_13 (p1 - (20 : Int32)) σ _ h) (sh_13) rfl (by decide) (by decide) rfl rfl (Nat.le_of_ble_eq_true rfl) (zo_182 (p := 47) (k := 238) (a := 0) (b := 238) (zby_w zwX8_told_1 15 rfl) (zby_w zwX8_told_1 16 rfl) (zby_w zwX8_told_1 17 rfl) (by decide))) (fun r36 h => ?_)
      obtain ⟨ho41, h⟩ := h
      have hJ40 : ∀ z39 : Int32, z39 = (if r36 = (0) then (-2 : Int32) else (σ.1 14 (p1 - (20 : Int32)).toNatClampNeg)) → zGG p l e R s m args below meth c Q g n1 n2 2 73 [(0, .ref (g.2.1 0)), (1, .int p1)] [.int z39] σ := by
        intro z39 hz39
        replace h := h z39 hz39
        exact hret _ _ _ h (zo_172 (p := 73) (zby_w zwX8_told_2 9 rfl))
      refine zr_if_eq C 71 (zo_153 (p := 50) (k := 21) (a := 0) (b := 21) (zby_w zwX8_told_1 18 rfl) (zby_w zwX8_told_1 19 rfl) (zby_w zwX8_told_1 20 rfl) (by decide)) (by decide) (fun hc38 => ?_) (fun hc38 => ?_)
      · skip
        rw [if_pos hc38] at ho41
        refine zr_bipush C (-2 : Int32) (zo_16 (p := 71) (k := (-2)) (a := 254) (zby_w zwX8_told_2 7 rfl) (zby_w zwX8_told_2 8 rfl) (by decide)) (by decide) ?_
        exact hJ40 _ (by rw [if_pos hc38])
      · skip
        rw [if_neg hc38] at ho41
        refine zr_aload_n C (zo_42 (p := 53) (zby_w zwX8_told_1 21 rfl)) rfl ?_
        refine zr_getr (u := 1) C fw_X8_10 (sh_0) rfl (zo_180 (p := 54) (k := 10) (a := 0) (b := 10) (zby_w zwX8_told_1 22 rfl) (zby_w zwX8_told_1 23 rfl) (zby_w zwX8_told_1 24 rfl) (by decide)) ?_
        refine zr_getr (u := 13) C fw_X8_228 (sh_1) rfl (zo_180 (p := 57) (k := 228) (a := 0) (b := 228) (zby_w zwX8_told_1 25 rfl) (zby_w zwX8_told_1 26 rfl) (zby_w zwX8_told_1 27 rfl) (by decide)) ?_
        refine zr_getr (u := 14) C fw_X8_235 (sh_13) rfl (zo_180 (p := 60) (k := 235) (a := 0) (b := 235) (zby_w zwX8_told_1 28 rfl) (zby_w zwX8_told_1 29 rfl) (zby_w zwX8_told_1 30 rfl) (by decide)) ?_
        refine zr_iload_n C (zo_27 (p := 63) (zby_w zwX8_told_1 31 rfl)) rfl ?_
        refine zr_bipush C (20 : Int32) (zo_16 (p := 64) (k := 20) (a := 20) (zby_w zwX8_told_2 0 rfl) (zby_w zwX8_told_2 1 rfl) (by decide)) (by decide) ?_
        refine zr_isub C (zo_100 (p := 66) (zby_w zwX8_told_2 2 rfl)) ?_
        obtain ⟨ho42, ho41⟩ := ho41
        refine zr_iald C (sh_14) ho42 (zo_46 (p := 67) (zby_w zwX8_told_2 3 rfl)) ?_
        refine zr_goto C 73 (zo_167 (p := 68) (k := 5) (a := 0) (b := 5) (zby_w zwX8_told_2 4 rfl) (zby_w zwX8_told_2 5 rfl) (zby_w zwX8_told_2 6 rfl) (by decide)) (by decide) ?_
        exact hJ40 _ (by rw [if_neg hc38])
  · rw [if_neg hc3] at h
    refine zr_aload_n C (zo_42 (p := 10) (zby_w zwX8_told_0 10 rfl)) rfl ?_
    refine zr_getr (u := 1) C fw_X8_10 (sh_0) rfl (zo_180 (p := 11) (k := 10) (a := 0) (b := 10) (zby_w zwX8_told_0 11 rfl) (zby_w zwX8_told_0 12 rfl) (zby_w zwX8_told_0 13 rfl) (by decide)) ?_
    refine zr_getr (u := 2) C fw_X8_51 (sh_1) rfl (zo_180 (p := 14) (k := 51) (a := 0) (b := 51) (zby_w zwX8_told_0 14 rfl) (zby_w zwX8_told_0 15 rfl) (zby_w zwX8_told_0 16 rfl) (by decide)) ?_
    refine zr_getr (u := 7) C fw_X8_89 (sh_2) rfl (zo_180 (p := 17) (k := 89) (a := 0) (b := 89) (zby_w zwX8_told_0 17 rfl) (zby_w zwX8_told_0 18 rfl) (zby_w zwX8_told_0 19 rfl) (by decide)) ?_
    refine zr_iload_n C (zo_27 (p := 20) (zby_w zwX8_told_0 20 rfl)) rfl ?_
    refine zr_iconst C (2 : Int32) (zo_5 (p := 21) (zby_w zwX8_told_0 21 rfl)) (by decide) ?_
    refine zr_isub C (zo_100 (p := 22) (zby_w zwX8_told_0 22 rfl)) ?_
    obtain ⟨ho43, h⟩ := h
    refine zr_iald C (sh_7) ho43 (zo_46 (p := 23) (zby_w zwX8_told_0 23 rfl)) ?_
    exact hret _ _ _ h (zo_172 (p := 24) (zby_w zwX8_told_0 24 rfl))
set_option maxRecDepth 20000 in
theorem c_X8_told (l : Launch) (g : zG) (p1 : Int32) (σ : zST) (Post : Int32 → Prop) (h : wp_X8_told p1 σ Post) : Met l yX8_told (Cond.code yX8_told cX8_told 2 (some .int) :: zGW) (zRm 2 43) (va_Pc [.ref (g.2.1 0), .int p1] (zPP g σ)) (va_Qi (fun r u => Post r ∧ u = σ) (zBB g) (zA g)) 0 0 (zA g) :=
  zMet (by decide) (Nat.le_of_ble_eq_true rfl) (fun p e s m below meth c hr C => g_X8_told C (fun v pc lv hp hd => zr_iret C hr ⟨hp, rfl⟩ hd) h)
def wp_X9_in (p0 : Int64) (p2 : Int64) (p4 : Int64) (σ : zST) (Post : Int32 → Prop) : Prop := ∀ z2 : Int32, z2 = (if (lg_cmp p0 p2) < (0) then (0 : Int32) else (if (0) < (lg_cmp p0 p4) then (0 : Int32) else (1 : Int32))) → zB z2 ∧ Post z2
set_option maxRecDepth 100000 in
set_option maxHeartbeats 4000000 in
theorem g_X9_in {p : Program} {l : Launch} {e : Env} {R : Room} {s : State} {m : MethodId} {args : Array Value} {below : List Frame} {meth : Method} {c : Code} {Q : State → Prop} {g : zG} {n1 n2 : Nat} (C : zCX p R s m args meth c g n1 n2 cX9_in 6 RX9 0 0) {p0 : Int64} {p2 : Int64} {p4 : Int64} {σ : zST} {Post : Int32 → Prop} (hret : ∀ (v : Int32) (pc : Nat) (lv : List (Nat × Value)), zB v → Post v → decode cX9_in pc = .ok (.ireturn, 1) → zGG p l e R s m args below meth c Q g n1 n2 6 pc lv [.int v] σ) (h : wp_X9_in p0 p2 p4 σ Post) : zGG p l e R s m args below meth c Q g n1 n2 6 0 [(0, .long p0), (2, .long p2), (4, .long p4)] [] σ := by
  unfold wp_X9_in at h
  refine zr_lload_n C (zo_30 (p := 0) (zby_w zwX9_in_0 0 rfl)) rfl ?_
  refine zr_lload_n C (zo_32 (p := 1) (zby_w zwX9_in_0 1 rfl)) rfl ?_
  refine zr_lcmp C (zo_148 (p := 2) (zby_w zwX9_in_0 2 rfl)) ?_
  have hJ3 : ∀ z2 : Int32, z2 = (if (lg_cmp p0 p2) < (0) then (0 : Int32) else (if (0) < (lg_cmp p0 p4) then (0 : Int32) else (1 : Int32))) → zGG p l e R s m args below meth c Q g n1 n2 6 18 [(0, .long p0), (2, .long p2), (4, .long p4)] [.int z2] σ := by
    intro z2 hz2
    replace h := h z2 hz2
    exact hret _ _ _ h.1 h.2 (zo_172 (p := 18) (zby_w zwX9_in_0 18 rfl))
  refine zr_if_lt C 17 (zo_155 (p := 3) (k := 14) (a := 0) (b := 14) (zby_w zwX9_in_0 3 rfl) (zby_w zwX9_in_0 4 rfl) (zby_w zwX9_in_0 5 rfl) (by decide)) (by decide) (fun hc1 => ?_) (fun hc1 => ?_)
  · skip
    refine zr_iconst C (0 : Int32) d_X9_in_17 (by decide) ?_
    exact hJ3 _ (by rw [if_pos hc1])
  · skip
    refine zr_lload_n C (zo_30 (p := 6) (zby_w zwX9_in_0 6 rfl)) rfl ?_
    refine zr_lload C (zo_22 (p := 7) (k := 4) (a := 4) (zby_w zwX9_in_0 7 rfl) (zby_w zwX9_in_0 8 rfl) (by decide)) rfl ?_
    refine zr_lcmp C (zo_148 (p := 9) (zby_w zwX9_in_0 9 rfl)) ?_
    refine zr_if_gt C 17 (zo_157 (p := 10) (k := 7) (a := 0) (b := 7) (zby_w zwX9_in_0 10 rfl) (zby_w zwX9_in_0 11 rfl) (zby_w zwX9_in_0 12 rfl) (by decide)) (by decide) (fun hc5 => ?_) (fun hc5 => ?_)
    · skip
      refine zr_iconst C (0 : Int32) d_X9_in_17 (by decide) ?_
      exact hJ3 _ (by rw [if_neg hc1, if_pos hc5])
    · skip
      refine zr_iconst C (1 : Int32) (zo_4 (p := 13) (zby_w zwX9_in_0 13 rfl)) (by decide) ?_
      refine zr_goto C 18 (zo_167 (p := 14) (k := 4) (a := 0) (b := 4) (zby_w zwX9_in_0 14 rfl) (zby_w zwX9_in_0 15 rfl) (zby_w zwX9_in_0 16 rfl) (by decide)) (by decide) ?_
      exact hJ3 _ (by rw [if_neg hc1, if_neg hc5])
set_option maxRecDepth 20000 in
theorem c_X9_in (l : Launch) (g : zG) (p0 : Int64) (p2 : Int64) (p4 : Int64) (σ : zST) (Post : Int32 → Prop) (h : wp_X9_in p0 p2 p4 σ Post) : Met l yX9_in (Cond.code yX9_in cX9_in 6 (some .boolean) :: zGW) (zRm 0 0) (va_Pc [.long p0, .long p2, .long p4] (zPP g σ)) (va_Qi (fun r u => Post r ∧ u = σ) (zBB g) (zA g)) 0 0 (zA g) :=
  zMet (by decide) (Nat.le_of_ble_eq_true rfl) (fun p e s m below meth c hr C => g_X9_in C (fun v pc lv hz hp hd => zr_zret C hr hz ⟨hp, rfl⟩ hd) h)
def wp_X9_ones_L4 (σ : zST) (Post : Int32 → Prop) : Nat → Int32 → Int32 → Prop
  | 0, _, _ => False
  | N + 1, v1, v2 => (if v2 = (0) then Post v1 else ∀ x2 : Int32, x2 = (v2 &&& (v2 - (1 : Int32))) → wp_X9_ones_L4 σ Post N (v1 + 1) x2)

set_option maxRecDepth 100000 in
set_option maxHeartbeats 4000000 in
theorem g_X9_ones_L4 {p : Program} {l : Launch} {e : Env} {R : Room} {s : State} {m : MethodId} {args : Array Value} {below : List Frame} {meth : Method} {c : Code} {Q : State → Prop} {g : zG} {n1 n2 : Nat} (C : zCX p R s m args meth c g n1 n2 cX9_ones 3 RX9 0 0) {σ : zST}  {Post : Int32 → Prop} (hret : ∀ (v : Int32) (pc : Nat) (lv : List (Nat × Value)), Post v → decode cX9_ones pc = .ok (.ireturn, 1) → zGG p l e R s m args below meth c Q g n1 n2 3 pc lv [.int v] σ) : ∀ (N : Nat) (v1 : Int32) (v2 : Int32) , wp_X9_ones_L4 σ Post N v1 v2 → zGG p l e R s m args below meth c Q g n1 n2 3 4 [(1, .int v1), (2, .int v2)] [] σ := by
  intro N
  induction N with
  | zero =>
    intro v1 v2 h
    exact h.elim
  | succ N ih =>
    intro v1 v2 h
    rw [wp_X9_ones_L4] at h
    refine zr_iload_n C (zo_28 (p := 4) (zby_w zwX9_ones_0 4 rfl)) rfl ?_
    refine zr_if_eq C 20 (zo_153 (p := 5) (k := 15) (a := 0) (b := 15) (zby_w zwX9_ones_0 5 rfl) (zby_w zwX9_ones_0 6 rfl) (zby_w zwX9_ones_0 7 rfl) (by decide)) (by decide) (fun hc1 => ?_) (fun hc1 => ?_)
    · rw [if_pos hc1] at h
      refine zr_iload_n C (zo_27 (p := 20) (zby_w zwX9_ones_0 20 rfl)) rfl ?_
      exact hret _ _ _ h (zo_172 (p := 21) (zby_w zwX9_ones_0 21 rfl))
    · rw [if_neg hc1] at h
      refine zr_iinc C (v1 + 1) [(1, .int (v1 + 1)), (2, .int v2)] d_X9_ones_8 rfl rfl (by decide) rfl ?_
      refine zr_iload_n C (zo_28 (p := 11) (zby_w zwX9_ones_0 11 rfl)) rfl ?_
      refine zr_iload_n C (zo_28 (p := 12) (zby_w zwX9_ones_0 12 rfl)) rfl ?_
      refine zr_iconst C (1 : Int32) (zo_4 (p := 13) (zby_w zwX9_ones_0 13 rfl)) (by decide) ?_
      refine zr_isub C (zo_100 (p := 14) (zby_w zwX9_ones_0 14 rfl)) ?_
      refine zr_iand C (zo_126 (p := 15) (zby_w zwX9_ones_0 15 rfl)) ?_
      refine zr_topi (fun x2 hx2 => ?_)
      replace h := h x2 hx2
      refine zr_istore_n C [(2, .int x2), (1, .int (v1 + 1))] (zo_61 (p := 16) (zby_w zwX9_ones_0 16 rfl)) (by decide) rfl ?_
      refine zr_goto C 4 (zo_167 (p := 17) (k := (-13)) (a := 255) (b := 243) (zby_w zwX9_ones_0 17 rfl) (zby_w zwX9_ones_0 18 rfl) (zby_w zwX9_ones_0 19 rfl) (by decide)) (by decide) ?_
      exact zr_pick [1, 0] rfl (ih (v1 + 1) x2 h)

def wp_X9_ones (p0 : Int32) (σ : zST) (Post : Int32 → Prop) : Prop := ∃ M3 : Nat, wp_X9_ones_L4 σ Post M3 (0 : Int32) p0
set_option maxRecDepth 100000 in
set_option maxHeartbeats 4000000 in
theorem g_X9_ones {p : Program} {l : Launch} {e : Env} {R : Room} {s : State} {m : MethodId} {args : Array Value} {below : List Frame} {meth : Method} {c : Code} {Q : State → Prop} {g : zG} {n1 n2 : Nat} (C : zCX p R s m args meth c g n1 n2 cX9_ones 3 RX9 0 0) {p0 : Int32} {σ : zST} {Post : Int32 → Prop} (hret : ∀ (v : Int32) (pc : Nat) (lv : List (Nat × Value)), Post v → decode cX9_ones pc = .ok (.ireturn, 1) → zGG p l e R s m args below meth c Q g n1 n2 3 pc lv [.int v] σ) (h : wp_X9_ones p0 σ Post) : zGG p l e R s m args below meth c Q g n1 n2 3 0 [(0, .int p0)] [] σ := by
  unfold wp_X9_ones at h
  refine zr_iconst C (0 : Int32) (zo_3 (p := 0) (zby_w zwX9_ones_0 0 rfl)) (by decide) ?_
  refine zr_istore_n C [(1, .int (0 : Int32)), (0, .int p0)] (zo_60 (p := 1) (zby_w zwX9_ones_0 1 rfl)) (by decide) rfl ?_
  refine zr_iload_n C (zo_26 (p := 2) (zby_w zwX9_ones_0 2 rfl)) rfl ?_
  refine zr_istore_n C [(2, .int p0), (1, .int (0 : Int32)), (0, .int p0)] (zo_61 (p := 3) (zby_w zwX9_ones_0 3 rfl)) (by decide) rfl ?_
  obtain ⟨M3, h⟩ := h
  exact zr_pick [1, 0] rfl (g_X9_ones_L4 C hret M3 (0 : Int32) p0 h)
set_option maxRecDepth 20000 in
theorem c_X9_ones (l : Launch) (g : zG) (p0 : Int32) (σ : zST) (Post : Int32 → Prop) (h : wp_X9_ones p0 σ Post) : Met l yX9_ones (Cond.code yX9_ones cX9_ones 3 (some .int) :: zGW) (zRm 0 0) (va_Pc [.int p0] (zPP g σ)) (va_Qi (fun r u => Post r ∧ u = σ) (zBB g) (zA g)) 0 0 (zA g) :=
  zMet (by decide) (Nat.le_of_ble_eq_true rfl) (fun p e s m below meth c hr C => g_X9_ones C (fun v pc lv hp hd => zr_iret C hr ⟨hp, rfl⟩ hd) h)
def wp_X9_isNumber (p0 : Int32) (σ : zST) (Post : Int32 → Prop) : Prop := wp_X9_in (p0.toInt64) (0 : Int64) (5 : Int64) σ (fun r1 => zB r1 ∧ Post r1)
set_option maxRecDepth 100000 in
set_option maxHeartbeats 4000000 in
theorem g_X9_isNumber {p : Program} {l : Launch} {e : Env} {R : Room} {s : State} {m : MethodId} {args : Array Value} {below : List Frame} {meth : Method} {c : Code} {Q : State → Prop} {g : zG} {n1 n2 : Nat} (C : zCX p R s m args meth c g n1 n2 cX9_isNumber 1 RX9 1 25) {p0 : Int32} {σ : zST} {Post : Int32 → Prop} (hret : ∀ (v : Int32) (pc : Nat) (lv : List (Nat × Value)), zB v → Post v → decode cX9_isNumber pc = .ok (.ireturn, 1) → zGG p l e R s m args below meth c Q g n1 n2 1 pc lv [.int v] σ) (h : wp_X9_isNumber p0 σ Post) : zGG p l e R s m args below meth c Q g n1 n2 1 0 [(0, .int p0)] [] σ := by
  unfold wp_X9_isNumber at h
  refine zr_iload_n C (zo_26 (p := 0) (zby_w zwX9_isNumber_0 0 rfl)) rfl ?_
  refine zr_i2l C (zo_133 (p := 1) (zby_w zwX9_isNumber_0 1 rfl)) ?_
  refine zr_lconst C (0 : Int64) (zo_9 (p := 2) (zby_w zwX9_isNumber_0 2 rfl)) (by decide) ?_
  refine zr_ldc2 C (v := (5 : Int64)) cl_X9_87 (zo_20 (p := 3) (k := 87) (a := 0) (b := 87) (zby_w zwX9_isNumber_0 3 rfl) (zby_w zwX9_isNumber_0 4 rfl) (zby_w zwX9_isNumber_0 5 rfl) (by decide)) ?_
  refine zr_cip (zr_runS (As := [.long (p0.toInt64), .long (0 : Int64), .long (5 : Int64)]) (rest := []) C sw_X9_89 (c_X9_in l g (p0.toInt64) (0 : Int64) (5 : Int64) σ _ h) (by decide) (by decide) rfl rfl (Nat.le_of_ble_eq_true rfl) (zo_184 (p := 6) (k := 89) (a := 0) (b := 89) (zby_w zwX9_isNumber_0 6 rfl) (zby_w zwX9_isNumber_0 7 rfl) (zby_w zwX9_isNumber_0 8 rfl) (by decide))) (fun r1 h => ?_)
  exact hret _ _ _ h.1 h.2 (zo_172 (p := 9) (zby_w zwX9_isNumber_0 9 rfl))
set_option maxRecDepth 20000 in
theorem c_X9_isNumber (l : Launch) (g : zG) (p0 : Int32) (σ : zST) (Post : Int32 → Prop) (h : wp_X9_isNumber p0 σ Post) : Met l yX9_isNumber (Cond.code yX9_isNumber cX9_isNumber 1 (some .boolean) :: zGW) (zRm 1 25) (va_Pc [.int p0] (zPP g σ)) (va_Qi (fun r u => Post r ∧ u = σ) (zBB g) (zA g)) 0 0 (zA g) :=
  zMet (by decide) (Nat.le_of_ble_eq_true rfl) (fun p e s m below meth c hr C => g_X9_isNumber C (fun v pc lv hz hp hd => zr_zret C hr hz ⟨hp, rfl⟩ hd) h)
def wp_X9_isShip (p1 : Int32) (σ : zST) (Post : Int32 → Prop) : Prop := wp_X9_isNumber p1 σ (fun r1 => ∀ z4 : Int32, z4 = (if r1 = (0) then (0 : Int32) else (if (((σ.1 69 0) >>> (p1 &&& 31)) &&& (1 : Int32)) = (1 : Int32) then (1 : Int32) else (0 : Int32))) → zB z4 ∧ Post z4)
set_option maxRecDepth 100000 in
set_option maxHeartbeats 4000000 in
theorem g_X9_isShip {p : Program} {l : Launch} {e : Env} {R : Room} {s : State} {m : MethodId} {args : Array Value} {below : List Frame} {meth : Method} {c : Code} {Q : State → Prop} {g : zG} {n1 n2 : Nat} (C : zCX p R s m args meth c g n1 n2 cX9_isShip 2 RX9 2 45) {p1 : Int32} {σ : zST} {Post : Int32 → Prop} (hret : ∀ (v : Int32) (pc : Nat) (lv : List (Nat × Value)), zB v → Post v → decode cX9_isShip pc = .ok (.ireturn, 1) → zGG p l e R s m args below meth c Q g n1 n2 2 pc lv [.int v] σ) (h : wp_X9_isShip p1 σ Post) : zGG p l e R s m args below meth c Q g n1 n2 2 0 [(0, .ref (g.2.1 69)), (1, .int p1)] [] σ := by
  unfold wp_X9_isShip at h
  refine zr_iload_n C (zo_27 (p := 0) (zby_w zwX9_isShip_0 0 rfl)) rfl ?_
  refine zr_cip (zr_runS (As := [.int p1]) (rest := []) C sw_X9_93 (c_X9_isNumber l g p1 σ _ h) (by decide) (by decide) rfl rfl (Nat.le_of_ble_eq_true rfl) (zo_184 (p := 1) (k := 93) (a := 0) (b := 93) (zby_w zwX9_isShip_0 1 rfl) (zby_w zwX9_isShip_0 2 rfl) (zby_w zwX9_isShip_0 3 rfl) (by decide))) (fun r1 h => ?_)
  have hJ5 : ∀ z4 : Int32, z4 = (if r1 = (0) then (0 : Int32) else (if (((σ.1 69 0) >>> (p1 &&& 31)) &&& (1 : Int32)) = (1 : Int32) then (1 : Int32) else (0 : Int32))) → zGG p l e R s m args below meth c Q g n1 n2 2 24 [(0, .ref (g.2.1 69)), (1, .int p1)] [.int z4] σ := by
    intro z4 hz4
    replace h := h z4 hz4
    exact hret _ _ _ h.1 h.2 (zo_172 (p := 24) (zby_w zwX9_isShip_0 24 rfl))
  refine zr_if_eq C 23 (zo_153 (p := 4) (k := 19) (a := 0) (b := 19) (zby_w zwX9_isShip_0 4 rfl) (zby_w zwX9_isShip_0 5 rfl) (zby_w zwX9_isShip_0 6 rfl) (by decide)) (by decide) (fun hc3 => ?_) (fun hc3 => ?_)
  · skip
    refine zr_iconst C (0 : Int32) d_X9_isShip_23 (by decide) ?_
    exact hJ5 _ (by rw [if_pos hc3])
  · skip
    refine zr_aload_n C (zo_42 (p := 7) (zby_w zwX9_isShip_0 7 rfl)) rfl ?_
    refine zr_geti C fw_X9_97 (sh_69) rfl (zo_180 (p := 8) (k := 97) (a := 0) (b := 97) (zby_w zwX9_isShip_0 8 rfl) (zby_w zwX9_isShip_0 9 rfl) (zby_w zwX9_isShip_0 10 rfl) (by decide)) ?_
    refine zr_iload_n C (zo_27 (p := 11) (zby_w zwX9_isShip_0 11 rfl)) rfl ?_
    refine zr_ishr C (zo_122 (p := 12) (zby_w zwX9_isShip_0 12 rfl)) ?_
    refine zr_iconst C (1 : Int32) (zo_4 (p := 13) (zby_w zwX9_isShip_0 13 rfl)) (by decide) ?_
    refine zr_iand C (zo_126 (p := 14) (zby_w zwX9_isShip_0 14 rfl)) ?_
    refine zr_iconst C (1 : Int32) (zo_4 (p := 15) (zby_w zwX9_isShip_0 15 rfl)) (by decide) ?_
    refine zr_icmp_ne C 23 (zo_160 (p := 16) (k := 7) (a := 0) (b := 7) (zby_w zwX9_isShip_0 16 rfl) (zby_w zwX9_isShip_0 17 rfl) (zby_w zwX9_isShip_0 18 rfl) (by decide)) (by decide) (fun hc7 => ?_) (fun hc7 => ?_)
    · skip
      refine zr_iconst C (0 : Int32) d_X9_isShip_23 (by decide) ?_
      exact hJ5 _ (by rw [if_neg hc3, if_neg hc7])
    · skip
      refine zr_iconst C (1 : Int32) (zo_4 (p := 19) (zby_w zwX9_isShip_0 19 rfl)) (by decide) ?_
      refine zr_goto C 24 (zo_167 (p := 20) (k := 4) (a := 0) (b := 4) (zby_w zwX9_isShip_0 20 rfl) (zby_w zwX9_isShip_0 21 rfl) (zby_w zwX9_isShip_0 22 rfl) (by decide)) (by decide) ?_
      exact hJ5 _ (by rw [if_neg hc3, if_pos hc7])
set_option maxRecDepth 20000 in
theorem c_X9_isShip (l : Launch) (g : zG) (p1 : Int32) (σ : zST) (Post : Int32 → Prop) (h : wp_X9_isShip p1 σ Post) : Met l yX9_isShip (Cond.code yX9_isShip cX9_isShip 2 (some .boolean) :: zGW) (zRm 2 45) (va_Pc [.ref (g.2.1 69), .int p1] (zPP g σ)) (va_Qi (fun r u => Post r ∧ u = σ) (zBB g) (zA g)) 0 0 (zA g) :=
  zMet (by decide) (Nat.le_of_ble_eq_true rfl) (fun p e s m below meth c hr C => g_X9_isShip C (fun v pc lv hz hp hd => zr_zret C hr hz ⟨hp, rfl⟩ hd) h)
def wp_X9_isHour (p0 : Int32) (σ : zST) (Post : Int32 → Prop) : Prop := wp_X9_in (p0.toInt64) (0 : Int64) (999 : Int64) σ (fun r1 => zB r1 ∧ Post r1)
set_option maxRecDepth 100000 in
set_option maxHeartbeats 4000000 in
theorem g_X9_isHour {p : Program} {l : Launch} {e : Env} {R : Room} {s : State} {m : MethodId} {args : Array Value} {below : List Frame} {meth : Method} {c : Code} {Q : State → Prop} {g : zG} {n1 n2 : Nat} (C : zCX p R s m args meth c g n1 n2 cX9_isHour 1 RX9 1 25) {p0 : Int32} {σ : zST} {Post : Int32 → Prop} (hret : ∀ (v : Int32) (pc : Nat) (lv : List (Nat × Value)), zB v → Post v → decode cX9_isHour pc = .ok (.ireturn, 1) → zGG p l e R s m args below meth c Q g n1 n2 1 pc lv [.int v] σ) (h : wp_X9_isHour p0 σ Post) : zGG p l e R s m args below meth c Q g n1 n2 1 0 [(0, .int p0)] [] σ := by
  unfold wp_X9_isHour at h
  refine zr_iload_n C (zo_26 (p := 0) (zby_w zwX9_isHour_0 0 rfl)) rfl ?_
  refine zr_i2l C (zo_133 (p := 1) (zby_w zwX9_isHour_0 1 rfl)) ?_
  refine zr_lconst C (0 : Int64) (zo_9 (p := 2) (zby_w zwX9_isHour_0 2 rfl)) (by decide) ?_
  refine zr_ldc2 C (v := (999 : Int64)) cl_X9_100 (zo_20 (p := 3) (k := 100) (a := 0) (b := 100) (zby_w zwX9_isHour_0 3 rfl) (zby_w zwX9_isHour_0 4 rfl) (zby_w zwX9_isHour_0 5 rfl) (by decide)) ?_
  refine zr_cip (zr_runS (As := [.long (p0.toInt64), .long (0 : Int64), .long (999 : Int64)]) (rest := []) C sw_X9_89 (c_X9_in l g (p0.toInt64) (0 : Int64) (999 : Int64) σ _ h) (by decide) (by decide) rfl rfl (Nat.le_of_ble_eq_true rfl) (zo_184 (p := 6) (k := 89) (a := 0) (b := 89) (zby_w zwX9_isHour_0 6 rfl) (zby_w zwX9_isHour_0 7 rfl) (zby_w zwX9_isHour_0 8 rfl) (by decide))) (fun r1 h => ?_)
  exact hret _ _ _ h.1 h.2 (zo_172 (p := 9) (zby_w zwX9_isHour_0 9 rfl))
set_option maxRecDepth 20000 in
theorem c_X9_isHour (l : Launch) (g : zG) (p0 : Int32) (σ : zST) (Post : Int32 → Prop) (h : wp_X9_isHour p0 σ Post) : Met l yX9_isHour (Cond.code yX9_isHour cX9_isHour 1 (some .boolean) :: zGW) (zRm 1 25) (va_Pc [.int p0] (zPP g σ)) (va_Qi (fun r u => Post r ∧ u = σ) (zBB g) (zA g)) 0 0 (zA g) :=
  zMet (by decide) (Nat.le_of_ble_eq_true rfl) (fun p e s m below meth c hr C => g_X9_isHour C (fun v pc lv hz hp hd => zr_zret C hr hz ⟨hp, rfl⟩ hd) h)
def wp_X9_isSide (p0 : Int32) (σ : zST) (Post : Int32 → Prop) : Prop := wp_X9_in (p0.toInt64) (0 : Int64) (2 : Int64) σ (fun r1 => zB r1 ∧ Post r1)
set_option maxRecDepth 100000 in
set_option maxHeartbeats 4000000 in
theorem g_X9_isSide {p : Program} {l : Launch} {e : Env} {R : Room} {s : State} {m : MethodId} {args : Array Value} {below : List Frame} {meth : Method} {c : Code} {Q : State → Prop} {g : zG} {n1 n2 : Nat} (C : zCX p R s m args meth c g n1 n2 cX9_isSide 1 RX9 1 25) {p0 : Int32} {σ : zST} {Post : Int32 → Prop} (hret : ∀ (v : Int32) (pc : Nat) (lv : List (Nat × Value)), zB v → Post v → decode cX9_isSide pc = .ok (.ireturn, 1) → zGG p l e R s m args below meth c Q g n1 n2 1 pc lv [.int v] σ) (h : wp_X9_isSide p0 σ Post) : zGG p l e R s m args below meth c Q g n1 n2 1 0 [(0, .int p0)] [] σ := by
  unfold wp_X9_isSide at h
  refine zr_iload_n C (zo_26 (p := 0) (zby_w zwX9_isSide_0 0 rfl)) rfl ?_
  refine zr_i2l C (zo_133 (p := 1) (zby_w zwX9_isSide_0 1 rfl)) ?_
  refine zr_lconst C (0 : Int64) (zo_9 (p := 2) (zby_w zwX9_isSide_0 2 rfl)) (by decide) ?_
  refine zr_ldc2 C (v := (2 : Int64)) cl_X9_102 (zo_20 (p := 3) (k := 102) (a := 0) (b := 102) (zby_w zwX9_isSide_0 3 rfl) (zby_w zwX9_isSide_0 4 rfl) (zby_w zwX9_isSide_0 5 rfl) (by decide)) ?_
  refine zr_cip (zr_runS (As := [.long (p0.toInt64), .long (0 : Int64), .long (2 : Int64)]) (rest := []) C sw_X9_89 (c_X9_in l g (p0.toInt64) (0 : Int64) (2 : Int64) σ _ h) (by decide) (by decide) rfl rfl (Nat.le_of_ble_eq_true rfl) (zo_184 (p := 6) (k := 89) (a := 0) (b := 89) (zby_w zwX9_isSide_0 6 rfl) (zby_w zwX9_isSide_0 7 rfl) (zby_w zwX9_isSide_0 8 rfl) (by decide))) (fun r1 h => ?_)
  exact hret _ _ _ h.1 h.2 (zo_172 (p := 9) (zby_w zwX9_isSide_0 9 rfl))
set_option maxRecDepth 20000 in
theorem c_X9_isSide (l : Launch) (g : zG) (p0 : Int32) (σ : zST) (Post : Int32 → Prop) (h : wp_X9_isSide p0 σ Post) : Met l yX9_isSide (Cond.code yX9_isSide cX9_isSide 1 (some .boolean) :: zGW) (zRm 1 25) (va_Pc [.int p0] (zPP g σ)) (va_Qi (fun r u => Post r ∧ u = σ) (zBB g) (zA g)) 0 0 (zA g) :=
  zMet (by decide) (Nat.le_of_ble_eq_true rfl) (fun p e s m below meth c hr C => g_X9_isSide C (fun v pc lv hz hp hd => zr_zret C hr hz ⟨hp, rfl⟩ hd) h)
def wp_X9_ship (p1 : Int32) (p2 : Int32) (p3 : Int32) (p4 : Int32) (σ : zST) (Post : Int32 → zST → Prop) : Prop := wp_X9_isNumber p1 σ (fun r1 => (if r1 = (0) then Post (-1 : Int32) σ else wp_X9_in (p2.toInt64) (1 : Int64) (30 : Int64) σ (fun r4 => (if r4 = (0) then Post (-2 : Int32) σ else wp_X9_in (p3.toInt64) (0 : Int64) (9 : Int64) σ (fun r7 => (if r7 = (0) then Post (-2 : Int32) σ else wp_X9_in (p4.toInt64) (0 : Int64) (999 : Int64) σ (fun r10 => (if r10 = (0) then Post (-2 : Int32) σ else vp_in p1 6 ∧ vp_in p1 6 ∧ vp_in p1 6 ∧ vp_in p1 6 ∧ ∀ σ17 : zST, σ17 = (wI (wI (wI (wI σ 70 p1.toNatClampNeg p2) 71 p1.toNatClampNeg p3) 72 p1.toNatClampNeg p4) 73 p1.toNatClampNeg (0 : Int32)) → ∀ σ18 : zST, σ18 = (wI σ17 69 0 ((σ17.1 69 0) ||| ((1 : Int32) <<< (p1 &&& 31)))) → wp_X9_ones (σ18.1 69 0) σ18 (fun r19 => Post r19 σ18)))))))))
set_option maxRecDepth 100000 in
set_option maxHeartbeats 4000000 in
theorem g_X9_ship {p : Program} {l : Launch} {e : Env} {R : Room} {s : State} {m : MethodId} {args : Array Value} {below : List Frame} {meth : Method} {c : Code} {Q : State → Prop} {g : zG} {n1 n2 : Nat} (C : zCX p R s m args meth c g n1 n2 cX9_ship 5 RX9 2 45) {p1 : Int32} {p2 : Int32} {p3 : Int32} {p4 : Int32} {σ : zST} {Post : Int32 → zST → Prop} (hret : ∀ (v : Int32) (σ : zST) (pc : Nat) (lv : List (Nat × Value)), Post v σ → decode cX9_ship pc = .ok (.ireturn, 1) → zGG p l e R s m args below meth c Q g n1 n2 5 pc lv [.int v] σ) (h : wp_X9_ship p1 p2 p3 p4 σ Post) : zGG p l e R s m args below meth c Q g n1 n2 5 0 [(0, .ref (g.2.1 69)), (1, .int p1), (2, .int p2), (3, .int p3), (4, .int p4)] [] σ := by
  unfold wp_X9_ship at h
  refine zr_iload_n C (zo_27 (p := 0) (zby_w zwX9_ship_0 0 rfl)) rfl ?_
  refine zr_cip (zr_runS (As := [.int p1]) (rest := []) C sw_X9_93 (c_X9_isNumber l g p1 σ _ h) (by decide) (by decide) rfl rfl (Nat.le_of_ble_eq_true rfl) (zo_184 (p := 1) (k := 93) (a := 0) (b := 93) (zby_w zwX9_ship_0 1 rfl) (zby_w zwX9_ship_0 2 rfl) (zby_w zwX9_ship_0 3 rfl) (by decide))) (fun r1 h => ?_)
  refine zr_if_ne C 9 (zo_154 (p := 4) (k := 5) (a := 0) (b := 5) (zby_w zwX9_ship_0 4 rfl) (zby_w zwX9_ship_0 5 rfl) (zby_w zwX9_ship_0 6 rfl) (by decide)) (by decide) (fun hc3 => ?_) (fun hc3 => ?_)
  · rw [if_neg hc3] at h
    refine zr_iload_n C (zo_28 (p := 9) (zby_w zwX9_ship_0 9 rfl)) rfl ?_
    refine zr_i2l C (zo_133 (p := 10) (zby_w zwX9_ship_0 10 rfl)) ?_
    refine zr_lconst C (1 : Int64) (zo_10 (p := 11) (zby_w zwX9_ship_0 11 rfl)) (by decide) ?_
    refine zr_ldc2 C (v := (30 : Int64)) cl_X9_104 (zo_20 (p := 12) (k := 104) (a := 0) (b := 104) (zby_w zwX9_ship_0 12 rfl) (zby_w zwX9_ship_0 13 rfl) (zby_w zwX9_ship_0 14 rfl) (by decide)) ?_
    refine zr_cip (zr_runS (As := [.long (p2.toInt64), .long (1 : Int64), .long (30 : Int64)]) (rest := []) C sw_X9_89 (c_X9_in l g (p2.toInt64) (1 : Int64) (30 : Int64) σ _ h) (by decide) (by decide) rfl rfl (Nat.le_of_ble_eq_true rfl) (zo_184 (p := 15) (k := 89) (a := 0) (b := 89) (zby_w zwX9_ship_0 15 rfl) (zby_w zwX9_ship_0 16 rfl) (zby_w zwX9_ship_0 17 rfl) (by decide))) (fun r4 h => ?_)
    refine zr_if_eq C 46 (zo_153 (p := 18) (k := 28) (a := 0) (b := 28) (zby_w zwX9_ship_0 18 rfl) (zby_w zwX9_ship_0 19 rfl) (zby_w zwX9_ship_0 20 rfl) (by decide)) (by decide) (fun hc6 => ?_) (fun hc6 => ?_)
    · rw [if_pos hc6] at h
      refine zr_bipush C (-2 : Int32) d_X9_ship_46 (by decide) ?_
      exact hret _ _ _ _ h d_X9_ship_48
    · rw [if_neg hc6] at h
      refine zr_iload_n C (zo_29 (p := 21) (zby_w zwX9_ship_0 21 rfl)) rfl ?_
      refine zr_i2l C (zo_133 (p := 22) (zby_w zwX9_ship_0 22 rfl)) ?_
      refine zr_lconst C (0 : Int64) (zo_9 (p := 23) (zby_w zwX9_ship_0 23 rfl)) (by decide) ?_
      refine zr_ldc2 C (v := (9 : Int64)) cl_X9_106 (zo_20 (p := 24) (k := 106) (a := 0) (b := 106) (zby_w zwX9_ship_0 24 rfl) (zby_w zwX9_ship_0 25 rfl) (zby_w zwX9_ship_0 26 rfl) (by decide)) ?_
      refine zr_cip (zr_runS (As := [.long (p3.toInt64), .long (0 : Int64), .long (9 : Int64)]) (rest := []) C sw_X9_89 (c_X9_in l g (p3.toInt64) (0 : Int64) (9 : Int64) σ _ h) (by decide) (by decide) rfl rfl (Nat.le_of_ble_eq_true rfl) (zo_184 (p := 27) (k := 89) (a := 0) (b := 89) (zby_w zwX9_ship_0 27 rfl) (zby_w zwX9_ship_0 28 rfl) (zby_w zwX9_ship_0 29 rfl) (by decide))) (fun r7 h => ?_)
      refine zr_if_eq C 46 (zo_153 (p := 30) (k := 16) (a := 0) (b := 16) (zby_w zwX9_ship_0 30 rfl) (zby_w zwX9_ship_0 31 rfl) (zby_w zwX9_ship_0 32 rfl) (by decide)) (by decide) (fun hc9 => ?_) (fun hc9 => ?_)
      · rw [if_pos hc9] at h
        refine zr_bipush C (-2 : Int32) d_X9_ship_46 (by decide) ?_
        exact hret _ _ _ _ h d_X9_ship_48
      · rw [if_neg hc9] at h
        refine zr_iload C (zo_21 (p := 33) (k := 4) (a := 4) (zby_w zwX9_ship_1 1 rfl) (zby_w zwX9_ship_1 2 rfl) (by decide)) rfl ?_
        refine zr_i2l C (zo_133 (p := 35) (zby_w zwX9_ship_1 3 rfl)) ?_
        refine zr_lconst C (0 : Int64) (zo_9 (p := 36) (zby_w zwX9_ship_1 4 rfl)) (by decide) ?_
        refine zr_ldc2 C (v := (999 : Int64)) cl_X9_100 (zo_20 (p := 37) (k := 100) (a := 0) (b := 100) (zby_w zwX9_ship_1 5 rfl) (zby_w zwX9_ship_1 6 rfl) (zby_w zwX9_ship_1 7 rfl) (by decide)) ?_
        refine zr_cip (zr_runS (As := [.long (p4.toInt64), .long (0 : Int64), .long (999 : Int64)]) (rest := []) C sw_X9_89 (c_X9_in l g (p4.toInt64) (0 : Int64) (999 : Int64) σ _ h) (by decide) (by decide) rfl rfl (Nat.le_of_ble_eq_true rfl) (zo_184 (p := 40) (k := 89) (a := 0) (b := 89) (zby_w zwX9_ship_1 8 rfl) (zby_w zwX9_ship_1 9 rfl) (zby_w zwX9_ship_1 10 rfl) (by decide))) (fun r10 h => ?_)
        refine zr_if_ne C 49 (zo_154 (p := 43) (k := 6) (a := 0) (b := 6) (zby_w zwX9_ship_1 11 rfl) (zby_w zwX9_ship_1 12 rfl) (zby_w zwX9_ship_1 13 rfl) (by decide)) (by decide) (fun hc12 => ?_) (fun hc12 => ?_)
        · rw [if_neg hc12] at h
          refine zr_aload_n C (zo_42 (p := 49) (zby_w zwX9_ship_1 17 rfl)) rfl ?_
          refine zr_getr (u := 70) C fw_X9_7 (sh_69) rfl (zo_180 (p := 50) (k := 7) (a := 0) (b := 7) (zby_w zwX9_ship_1 18 rfl) (zby_w zwX9_ship_1 19 rfl) (zby_w zwX9_ship_1 20 rfl) (by decide)) ?_
          refine zr_iload_n C (zo_27 (p := 53) (zby_w zwX9_ship_1 21 rfl)) rfl ?_
          refine zr_iload_n C (zo_28 (p := 54) (zby_w zwX9_ship_1 22 rfl)) rfl ?_
          obtain ⟨ho13, h⟩ := h
          refine zr_iast C (sh_70) ho13 (zo_79 (p := 55) (zby_w zwX9_ship_1 23 rfl)) ?_
          refine zr_aload_n C (zo_42 (p := 56) (zby_w zwX9_ship_1 24 rfl)) rfl ?_
          refine zr_getr (u := 71) C fw_X9_13 (sh_69) rfl (zo_180 (p := 57) (k := 13) (a := 0) (b := 13) (zby_w zwX9_ship_1 25 rfl) (zby_w zwX9_ship_1 26 rfl) (zby_w zwX9_ship_1 27 rfl) (by decide)) ?_
          refine zr_iload_n C (zo_27 (p := 60) (zby_w zwX9_ship_1 28 rfl)) rfl ?_
          refine zr_iload_n C (zo_29 (p := 61) (zby_w zwX9_ship_1 29 rfl)) rfl ?_
          obtain ⟨ho14, h⟩ := h
          refine zr_iast C (sh_71) ho14 (zo_79 (p := 62) (zby_w zwX9_ship_1 30 rfl)) ?_
          refine zr_aload_n C (zo_42 (p := 63) (zby_w zwX9_ship_1 31 rfl)) rfl ?_
          refine zr_getr (u := 72) C fw_X9_16 (sh_69) rfl (zo_180 (p := 64) (k := 16) (a := 0) (b := 16) (zby_w zwX9_ship_2 0 rfl) (zby_w zwX9_ship_2 1 rfl) (zby_w zwX9_ship_2 2 rfl) (by decide)) ?_
          refine zr_iload_n C (zo_27 (p := 67) (zby_w zwX9_ship_2 3 rfl)) rfl ?_
          refine zr_iload C (zo_21 (p := 68) (k := 4) (a := 4) (zby_w zwX9_ship_2 4 rfl) (zby_w zwX9_ship_2 5 rfl) (by decide)) rfl ?_
          obtain ⟨ho15, h⟩ := h
          refine zr_iast C (sh_72) ho15 (zo_79 (p := 70) (zby_w zwX9_ship_2 6 rfl)) ?_
          refine zr_aload_n C (zo_42 (p := 71) (zby_w zwX9_ship_2 7 rfl)) rfl ?_
          refine zr_getr (u := 73) C fw_X9_19 (sh_69) rfl (zo_180 (p := 72) (k := 19) (a := 0) (b := 19) (zby_w zwX9_ship_2 8 rfl) (zby_w zwX9_ship_2 9 rfl) (zby_w zwX9_ship_2 10 rfl) (by decide)) ?_
          refine zr_iload_n C (zo_27 (p := 75) (zby_w zwX9_ship_2 11 rfl)) rfl ?_
          refine zr_iconst C (0 : Int32) (zo_3 (p := 76) (zby_w zwX9_ship_2 12 rfl)) (by decide) ?_
          obtain ⟨ho16, h⟩ := h
          refine zr_iast C (sh_73) ho16 (zo_79 (p := 77) (zby_w zwX9_ship_2 13 rfl)) ?_
          refine zr_aload_n C (zo_42 (p := 78) (zby_w zwX9_ship_2 14 rfl)) rfl ?_
          refine zr_dup C (zo_89 (p := 79) (zby_w zwX9_ship_2 15 rfl)) rfl ?_
          refine zr_tops (fun σ17 hσ17 => ?_)
          replace h := h σ17 hσ17
          refine zr_geti C fw_X9_97 (sh_69) rfl (zo_180 (p := 80) (k := 97) (a := 0) (b := 97) (zby_w zwX9_ship_2 16 rfl) (zby_w zwX9_ship_2 17 rfl) (zby_w zwX9_ship_2 18 rfl) (by decide)) ?_
          refine zr_iconst C (1 : Int32) (zo_4 (p := 83) (zby_w zwX9_ship_2 19 rfl)) (by decide) ?_
          refine zr_iload_n C (zo_27 (p := 84) (zby_w zwX9_ship_2 20 rfl)) rfl ?_
          refine zr_ishl C (zo_120 (p := 85) (zby_w zwX9_ship_2 21 rfl)) ?_
          refine zr_ior C (zo_128 (p := 86) (zby_w zwX9_ship_2 22 rfl)) ?_
          refine zr_puti C fw_X9_97 pw_X9_0 (sh_69) rfl rfl rfl (zo_181 (p := 87) (k := 97) (a := 0) (b := 97) (zby_w zwX9_ship_2 23 rfl) (zby_w zwX9_ship_2 24 rfl) (zby_w zwX9_ship_2 25 rfl) (by decide)) ?_
          refine zr_aload_n C (zo_42 (p := 90) (zby_w zwX9_ship_2 26 rfl)) rfl ?_
          refine zr_tops (fun σ18 hσ18 => ?_)
          replace h := h σ18 hσ18
          refine zr_geti C fw_X9_97 (sh_69) rfl (zo_180 (p := 91) (k := 97) (a := 0) (b := 97) (zby_w zwX9_ship_2 27 rfl) (zby_w zwX9_ship_2 28 rfl) (zby_w zwX9_ship_2 29 rfl) (by decide)) ?_
          refine zr_cip (zr_runS (As := [.int (σ18.1 69 0)]) (rest := []) C sw_X9_108 (c_X9_ones l g (σ18.1 69 0) σ18 _ h) (by decide) (by decide) rfl rfl (Nat.le_of_ble_eq_true rfl) (zo_184 (p := 94) (k := 108) (a := 0) (b := 108) (zby_w zwX9_ship_2 30 rfl) (zby_w zwX9_ship_2 31 rfl) (zby_w zwX9_ship_2 32 rfl) (by decide))) (fun r19 h => ?_)
          exact hret _ _ _ _ h (zo_172 (p := 97) (zby_w zwX9_ship_3 1 rfl))
        · rw [if_pos hc12] at h
          refine zr_bipush C (-2 : Int32) d_X9_ship_46 (by decide) ?_
          exact hret _ _ _ _ h d_X9_ship_48
  · rw [if_pos hc3] at h
    refine zr_iconst C (-1 : Int32) (zo_2 (p := 7) (zby_w zwX9_ship_0 7 rfl)) (by decide) ?_
    exact hret _ _ _ _ h (zo_172 (p := 8) (zby_w zwX9_ship_0 8 rfl))
set_option maxRecDepth 20000 in
theorem c_X9_ship (l : Launch) (g : zG) (p1 : Int32) (p2 : Int32) (p3 : Int32) (p4 : Int32) (σ : zST) (Post : Int32 → zST → Prop) (h : wp_X9_ship p1 p2 p3 p4 σ Post) : Met l yX9_ship (Cond.code yX9_ship cX9_ship 5 (some .int) :: zGW) (zRm 2 45) (va_Pc [.ref (g.2.1 69), .int p1, .int p2, .int p3, .int p4] (zPP g σ)) (va_Qi Post (zBB g) (zA g)) 0 0 (zA g) :=
  zMet (by decide) (Nat.le_of_ble_eq_true rfl) (fun p e s m below meth c hr C => g_X9_ship C (fun v σ pc lv hp hd => zr_iret C hr hp hd) h)
def wp_X9_scrap (p1 : Int32) (σ : zST) (Post : Int32 → zST → Prop) : Prop := wp_X9_isShip p1 σ (fun r1 => (if r1 = (0) then Post (-1 : Int32) σ else ∀ σ4 : zST, σ4 = (wI σ 69 0 ((σ.1 69 0) &&& (((1 : Int32) <<< (p1 &&& 31)) ^^^ (-1 : Int32)))) → wp_X9_ones (σ4.1 69 0) σ4 (fun r5 => Post r5 σ4)))
set_option maxRecDepth 100000 in
set_option maxHeartbeats 4000000 in
theorem g_X9_scrap {p : Program} {l : Launch} {e : Env} {R : Room} {s : State} {m : MethodId} {args : Array Value} {below : List Frame} {meth : Method} {c : Code} {Q : State → Prop} {g : zG} {n1 n2 : Nat} (C : zCX p R s m args meth c g n1 n2 cX9_scrap 2 RX9 3 66) {p1 : Int32} {σ : zST} {Post : Int32 → zST → Prop} (hret : ∀ (v : Int32) (σ : zST) (pc : Nat) (lv : List (Nat × Value)), Post v σ → decode cX9_scrap pc = .ok (.ireturn, 1) → zGG p l e R s m args below meth c Q g n1 n2 2 pc lv [.int v] σ) (h : wp_X9_scrap p1 σ Post) : zGG p l e R s m args below meth c Q g n1 n2 2 0 [(0, .ref (g.2.1 69)), (1, .int p1)] [] σ := by
  unfold wp_X9_scrap at h
  refine zr_aload_n C (zo_42 (p := 0) (zby_w zwX9_scrap_0 0 rfl)) rfl ?_
  refine zr_iload_n C (zo_27 (p := 1) (zby_w zwX9_scrap_0 1 rfl)) rfl ?_
  refine zr_cip (zr_runV (As := [.int p1]) (rest := []) C vw_X9_112 (c_X9_isShip l g p1 σ _ h) (sh_69) rfl (by decide) (by decide) rfl rfl (Nat.le_of_ble_eq_true rfl) (zo_182 (p := 2) (k := 112) (a := 0) (b := 112) (zby_w zwX9_scrap_0 2 rfl) (zby_w zwX9_scrap_0 3 rfl) (zby_w zwX9_scrap_0 4 rfl) (by decide))) (fun r1 h => ?_)
  refine zr_if_ne C 10 (zo_154 (p := 5) (k := 5) (a := 0) (b := 5) (zby_w zwX9_scrap_0 5 rfl) (zby_w zwX9_scrap_0 6 rfl) (zby_w zwX9_scrap_0 7 rfl) (by decide)) (by decide) (fun hc3 => ?_) (fun hc3 => ?_)
  · rw [if_neg hc3] at h
    refine zr_aload_n C (zo_42 (p := 10) (zby_w zwX9_scrap_0 10 rfl)) rfl ?_
    refine zr_dup C (zo_89 (p := 11) (zby_w zwX9_scrap_0 11 rfl)) rfl ?_
    refine zr_geti C fw_X9_97 (sh_69) rfl (zo_180 (p := 12) (k := 97) (a := 0) (b := 97) (zby_w zwX9_scrap_0 12 rfl) (zby_w zwX9_scrap_0 13 rfl) (zby_w zwX9_scrap_0 14 rfl) (by decide)) ?_
    refine zr_iconst C (1 : Int32) (zo_4 (p := 15) (zby_w zwX9_scrap_0 15 rfl)) (by decide) ?_
    refine zr_iload_n C (zo_27 (p := 16) (zby_w zwX9_scrap_0 16 rfl)) rfl ?_
    refine zr_ishl C (zo_120 (p := 17) (zby_w zwX9_scrap_0 17 rfl)) ?_
    refine zr_iconst C (-1 : Int32) (zo_2 (p := 18) (zby_w zwX9_scrap_0 18 rfl)) (by decide) ?_
    refine zr_ixor C (zo_130 (p := 19) (zby_w zwX9_scrap_0 19 rfl)) ?_
    refine zr_iand C (zo_126 (p := 20) (zby_w zwX9_scrap_0 20 rfl)) ?_
    refine zr_puti C fw_X9_97 pw_X9_0 (sh_69) rfl rfl rfl (zo_181 (p := 21) (k := 97) (a := 0) (b := 97) (zby_w zwX9_scrap_0 21 rfl) (zby_w zwX9_scrap_0 22 rfl) (zby_w zwX9_scrap_0 23 rfl) (by decide)) ?_
    refine zr_aload_n C (zo_42 (p := 24) (zby_w zwX9_scrap_0 24 rfl)) rfl ?_
    refine zr_tops (fun σ4 hσ4 => ?_)
    replace h := h σ4 hσ4
    refine zr_geti C fw_X9_97 (sh_69) rfl (zo_180 (p := 25) (k := 97) (a := 0) (b := 97) (zby_w zwX9_scrap_0 25 rfl) (zby_w zwX9_scrap_0 26 rfl) (zby_w zwX9_scrap_0 27 rfl) (by decide)) ?_
    refine zr_cip (zr_runS (As := [.int (σ4.1 69 0)]) (rest := []) C sw_X9_108 (c_X9_ones l g (σ4.1 69 0) σ4 _ h) (by decide) (by decide) rfl rfl (Nat.le_of_ble_eq_true rfl) (zo_184 (p := 28) (k := 108) (a := 0) (b := 108) (zby_w zwX9_scrap_0 28 rfl) (zby_w zwX9_scrap_0 29 rfl) (zby_w zwX9_scrap_0 30 rfl) (by decide))) (fun r5 h => ?_)
    exact hret _ _ _ _ h (zo_172 (p := 31) (zby_w zwX9_scrap_0 31 rfl))
  · rw [if_pos hc3] at h
    refine zr_iconst C (-1 : Int32) (zo_2 (p := 8) (zby_w zwX9_scrap_0 8 rfl)) (by decide) ?_
    exact hret _ _ _ _ h (zo_172 (p := 9) (zby_w zwX9_scrap_0 9 rfl))
set_option maxRecDepth 20000 in
theorem c_X9_scrap (l : Launch) (g : zG) (p1 : Int32) (σ : zST) (Post : Int32 → zST → Prop) (h : wp_X9_scrap p1 σ Post) : Met l yX9_scrap (Cond.code yX9_scrap cX9_scrap 2 (some .int) :: zGW) (zRm 3 66) (va_Pc [.ref (g.2.1 69), .int p1] (zPP g σ)) (va_Qi Post (zBB g) (zA g)) 0 0 (zA g) :=
  zMet (by decide) (Nat.le_of_ble_eq_true rfl) (fun p e s m below meth c hr C => g_X9_scrap C (fun v σ pc lv hp hd => zr_iret C hr hp hd) h)
def wp_X9_greatest (p0 : Int32) (σ : zST) (Post : Int32 → Prop) : Prop := ∀ z2 : Int32, z2 = (if p0 = (0) then (9 : Int32) else (if p0 = (2 : Int32) then (20 : Int32) else (if p0 = (3 : Int32) then (60 : Int32) else (if p0 = (7 : Int32) then (9999 : Int32) else (99 : Int32))))) → Post z2
set_option maxRecDepth 100000 in
set_option maxHeartbeats 4000000 in
theorem g_X9_greatest {p : Program} {l : Launch} {e : Env} {R : Room} {s : State} {m : MethodId} {args : Array Value} {below : List Frame} {meth : Method} {c : Code} {Q : State → Prop} {g : zG} {n1 n2 : Nat} (C : zCX p R s m args meth c g n1 n2 cX9_greatest 1 RX9 0 0) {p0 : Int32} {σ : zST} {Post : Int32 → Prop} (hret : ∀ (v : Int32) (pc : Nat) (lv : List (Nat × Value)), Post v → decode cX9_greatest pc = .ok (.ireturn, 1) → zGG p l e R s m args below meth c Q g n1 n2 1 pc lv [.int v] σ) (h : wp_X9_greatest p0 σ Post) : zGG p l e R s m args below meth c Q g n1 n2 1 0 [(0, .int p0)] [] σ := by
  unfold wp_X9_greatest at h
  refine zr_iload_n C (zo_26 (p := 0) (zby_w zwX9_greatest_0 0 rfl)) rfl ?_
  have hJ3 : ∀ z2 : Int32, z2 = (if p0 = (0) then (9 : Int32) else (if p0 = (2 : Int32) then (20 : Int32) else (if p0 = (3 : Int32) then (60 : Int32) else (if p0 = (7 : Int32) then (9999 : Int32) else (99 : Int32))))) → zGG p l e R s m args below meth c Q g n1 n2 1 43 [(0, .int p0)] [.int z2] σ := by
    intro z2 hz2
    replace h := h z2 hz2
    exact hret _ _ _ h (zo_172 (p := 43) (zby_w zwX9_greatest_1 11 rfl))
  refine zr_if_ne C 9 (zo_154 (p := 1) (k := 8) (a := 0) (b := 8) (zby_w zwX9_greatest_0 1 rfl) (zby_w zwX9_greatest_0 2 rfl) (zby_w zwX9_greatest_0 3 rfl) (by decide)) (by decide) (fun hc1 => ?_) (fun hc1 => ?_)
  · skip
    refine zr_iload_n C (zo_26 (p := 9) (zby_w zwX9_greatest_0 9 rfl)) rfl ?_
    refine zr_iconst C (2 : Int32) (zo_5 (p := 10) (zby_w zwX9_greatest_0 10 rfl)) (by decide) ?_
    refine zr_icmp_ne C 19 (zo_160 (p := 11) (k := 8) (a := 0) (b := 8) (zby_w zwX9_greatest_0 11 rfl) (zby_w zwX9_greatest_0 12 rfl) (zby_w zwX9_greatest_0 13 rfl) (by decide)) (by decide) (fun hc5 => ?_) (fun hc5 => ?_)
    · skip
      refine zr_iload_n C (zo_26 (p := 19) (zby_w zwX9_greatest_0 19 rfl)) rfl ?_
      refine zr_iconst C (3 : Int32) (zo_6 (p := 20) (zby_w zwX9_greatest_0 20 rfl)) (by decide) ?_
      refine zr_icmp_ne C 29 (zo_160 (p := 21) (k := 8) (a := 0) (b := 8) (zby_w zwX9_greatest_0 21 rfl) (zby_w zwX9_greatest_0 22 rfl) (zby_w zwX9_greatest_0 23 rfl) (by decide)) (by decide) (fun hc6 => ?_) (fun hc6 => ?_)
      · skip
        refine zr_iload_n C (zo_26 (p := 29) (zby_w zwX9_greatest_0 29 rfl)) rfl ?_
        refine zr_bipush C (7 : Int32) (zo_16 (p := 30) (k := 7) (a := 7) (zby_w zwX9_greatest_0 30 rfl) (zby_w zwX9_greatest_0 31 rfl) (by decide)) (by decide) ?_
        refine zr_icmp_ne C 41 (zo_160 (p := 32) (k := 9) (a := 0) (b := 9) (zby_w zwX9_greatest_1 0 rfl) (zby_w zwX9_greatest_1 1 rfl) (zby_w zwX9_greatest_1 2 rfl) (by decide)) (by decide) (fun hc7 => ?_) (fun hc7 => ?_)
        · skip
          refine zr_bipush C (99 : Int32) (zo_16 (p := 41) (k := 99) (a := 99) (zby_w zwX9_greatest_1 9 rfl) (zby_w zwX9_greatest_1 10 rfl) (by decide)) (by decide) ?_
          exact hJ3 _ (by rw [if_neg hc1, if_neg hc5, if_neg hc6, if_neg hc7])
        · skip
          refine zr_sipush C (9999 : Int32) (zo_17 (p := 35) (k := 9999) (a := 39) (b := 15) (zby_w zwX9_greatest_1 3 rfl) (zby_w zwX9_greatest_1 4 rfl) (zby_w zwX9_greatest_1 5 rfl) (by decide)) (by decide) ?_
          refine zr_goto C 43 (zo_167 (p := 38) (k := 5) (a := 0) (b := 5) (zby_w zwX9_greatest_1 6 rfl) (zby_w zwX9_greatest_1 7 rfl) (zby_w zwX9_greatest_1 8 rfl) (by decide)) (by decide) ?_
          exact hJ3 _ (by rw [if_neg hc1, if_neg hc5, if_neg hc6, if_pos hc7])
      · skip
        refine zr_bipush C (60 : Int32) (zo_16 (p := 24) (k := 60) (a := 60) (zby_w zwX9_greatest_0 24 rfl) (zby_w zwX9_greatest_0 25 rfl) (by decide)) (by decide) ?_
        refine zr_goto C 43 (zo_167 (p := 26) (k := 17) (a := 0) (b := 17) (zby_w zwX9_greatest_0 26 rfl) (zby_w zwX9_greatest_0 27 rfl) (zby_w zwX9_greatest_0 28 rfl) (by decide)) (by decide) ?_
        exact hJ3 _ (by rw [if_neg hc1, if_neg hc5, if_pos hc6])
    · skip
      refine zr_bipush C (20 : Int32) (zo_16 (p := 14) (k := 20) (a := 20) (zby_w zwX9_greatest_0 14 rfl) (zby_w zwX9_greatest_0 15 rfl) (by decide)) (by decide) ?_
      refine zr_goto C 43 (zo_167 (p := 16) (k := 27) (a := 0) (b := 27) (zby_w zwX9_greatest_0 16 rfl) (zby_w zwX9_greatest_0 17 rfl) (zby_w zwX9_greatest_0 18 rfl) (by decide)) (by decide) ?_
      exact hJ3 _ (by rw [if_neg hc1, if_pos hc5])
  · skip
    refine zr_bipush C (9 : Int32) (zo_16 (p := 4) (k := 9) (a := 9) (zby_w zwX9_greatest_0 4 rfl) (zby_w zwX9_greatest_0 5 rfl) (by decide)) (by decide) ?_
    refine zr_goto C 43 (zo_167 (p := 6) (k := 37) (a := 0) (b := 37) (zby_w zwX9_greatest_0 6 rfl) (zby_w zwX9_greatest_0 7 rfl) (zby_w zwX9_greatest_0 8 rfl) (by decide)) (by decide) ?_
    exact hJ3 _ (by rw [if_pos hc1])
set_option maxRecDepth 20000 in
theorem c_X9_greatest (l : Launch) (g : zG) (p0 : Int32) (σ : zST) (Post : Int32 → Prop) (h : wp_X9_greatest p0 σ Post) : Met l yX9_greatest (Cond.code yX9_greatest cX9_greatest 1 (some .int) :: zGW) (zRm 0 0) (va_Pc [.int p0] (zPP g σ)) (va_Qi (fun r u => Post r ∧ u = σ) (zBB g) (zA g)) 0 0 (zA g) :=
  zMet (by decide) (Nat.le_of_ble_eq_true rfl) (fun p e s m below meth c hr C => g_X9_greatest C (fun v pc lv hp hd => zr_iret C hr ⟨hp, rfl⟩ hd) h)
def wp_X9_toldSet (p1 : Int32) (σ : zST) (Post : Int32 → Prop) : Prop := (if p1 = 0 then Post (σ.1 69 5) else (if p1 = 1 then Post (σ.1 69 6) else (if p1 = 2 then Post (σ.1 69 7) else (if p1 = 3 then Post (σ.1 69 8) else (if p1 = 4 then Post (σ.1 69 9) else (if p1 = 5 then Post (σ.1 69 10) else (if p1 = 6 then Post (σ.1 69 11) else Post (σ.1 69 12))))))))
set_option maxRecDepth 100000 in
set_option maxHeartbeats 4000000 in
theorem g_X9_toldSet {p : Program} {l : Launch} {e : Env} {R : Room} {s : State} {m : MethodId} {args : Array Value} {below : List Frame} {meth : Method} {c : Code} {Q : State → Prop} {g : zG} {n1 n2 : Nat} (C : zCX p R s m args meth c g n1 n2 cX9_toldSet 2 RX9 0 0) {p1 : Int32} {σ : zST} {Post : Int32 → Prop} (hret : ∀ (v : Int32) (pc : Nat) (lv : List (Nat × Value)), Post v → decode cX9_toldSet pc = .ok (.ireturn, 1) → zGG p l e R s m args below meth c Q g n1 n2 2 pc lv [.int v] σ) (h : wp_X9_toldSet p1 σ Post) : zGG p l e R s m args below meth c Q g n1 n2 2 0 [(0, .ref (g.2.1 69)), (1, .int p1)] [] σ := by
  unfold wp_X9_toldSet at h
  refine zr_iload_n C (zo_27 (p := 0) (zby_w zwX9_toldSet_0 0 rfl)) rfl ?_
  by_cases hc1 : p1 = 0
  · rw [if_pos hc1] at h
    refine zr_tabIn C (off := 43) 44 d_X9_toldSet_1 (by rw [hc1]; decide) (by rw [hc1]; decide) (by rw [hc1]; rfl) (by decide) ?_
    refine zr_aload_n C (zo_42 (p := 44) (zby_w zwX9_toldSet_1 12 rfl)) rfl ?_
    refine zr_geti C fw_X9_62 (sh_69) rfl (zo_180 (p := 45) (k := 62) (a := 0) (b := 62) (zby_w zwX9_toldSet_1 13 rfl) (zby_w zwX9_toldSet_1 14 rfl) (zby_w zwX9_toldSet_1 15 rfl) (by decide)) ?_
    exact hret _ _ _ h (zo_172 (p := 48) (zby_w zwX9_toldSet_1 16 rfl))
  rw [if_neg hc1] at h
  by_cases hc2 : p1 = 1
  · rw [if_pos hc2] at h
    refine zr_tabIn C (off := 48) 49 d_X9_toldSet_1 (by rw [hc2]; decide) (by rw [hc2]; decide) (by rw [hc2]; rfl) (by decide) ?_
    refine zr_aload_n C (zo_42 (p := 49) (zby_w zwX9_toldSet_1 17 rfl)) rfl ?_
    refine zr_geti C fw_X9_66 (sh_69) rfl (zo_180 (p := 50) (k := 66) (a := 0) (b := 66) (zby_w zwX9_toldSet_1 18 rfl) (zby_w zwX9_toldSet_1 19 rfl) (zby_w zwX9_toldSet_1 20 rfl) (by decide)) ?_
    exact hret _ _ _ h (zo_172 (p := 53) (zby_w zwX9_toldSet_1 21 rfl))
  rw [if_neg hc2] at h
  by_cases hc3 : p1 = 2
  · rw [if_pos hc3] at h
    refine zr_tabIn C (off := 53) 54 d_X9_toldSet_1 (by rw [hc3]; decide) (by rw [hc3]; decide) (by rw [hc3]; rfl) (by decide) ?_
    refine zr_aload_n C (zo_42 (p := 54) (zby_w zwX9_toldSet_1 22 rfl)) rfl ?_
    refine zr_geti C fw_X9_69 (sh_69) rfl (zo_180 (p := 55) (k := 69) (a := 0) (b := 69) (zby_w zwX9_toldSet_1 23 rfl) (zby_w zwX9_toldSet_1 24 rfl) (zby_w zwX9_toldSet_1 25 rfl) (by decide)) ?_
    exact hret _ _ _ h (zo_172 (p := 58) (zby_w zwX9_toldSet_1 26 rfl))
  rw [if_neg hc3] at h
  by_cases hc4 : p1 = 3
  · rw [if_pos hc4] at h
    refine zr_tabIn C (off := 58) 59 d_X9_toldSet_1 (by rw [hc4]; decide) (by rw [hc4]; decide) (by rw [hc4]; rfl) (by decide) ?_
    refine zr_aload_n C (zo_42 (p := 59) (zby_w zwX9_toldSet_1 27 rfl)) rfl ?_
    refine zr_geti C fw_X9_72 (sh_69) rfl (zo_180 (p := 60) (k := 72) (a := 0) (b := 72) (zby_w zwX9_toldSet_1 28 rfl) (zby_w zwX9_toldSet_1 29 rfl) (zby_w zwX9_toldSet_1 30 rfl) (by decide)) ?_
    exact hret _ _ _ h (zo_172 (p := 63) (zby_w zwX9_toldSet_1 31 rfl))
  rw [if_neg hc4] at h
  by_cases hc5 : p1 = 4
  · rw [if_pos hc5] at h
    refine zr_tabIn C (off := 63) 64 d_X9_toldSet_1 (by rw [hc5]; decide) (by rw [hc5]; decide) (by rw [hc5]; rfl) (by decide) ?_
    refine zr_aload_n C (zo_42 (p := 64) (zby_w zwX9_toldSet_2 0 rfl)) rfl ?_
    refine zr_geti C fw_X9_75 (sh_69) rfl (zo_180 (p := 65) (k := 75) (a := 0) (b := 75) (zby_w zwX9_toldSet_2 1 rfl) (zby_w zwX9_toldSet_2 2 rfl) (zby_w zwX9_toldSet_2 3 rfl) (by decide)) ?_
    exact hret _ _ _ h (zo_172 (p := 68) (zby_w zwX9_toldSet_2 4 rfl))
  rw [if_neg hc5] at h
  by_cases hc6 : p1 = 5
  · rw [if_pos hc6] at h
    refine zr_tabIn C (off := 68) 69 d_X9_toldSet_1 (by rw [hc6]; decide) (by rw [hc6]; decide) (by rw [hc6]; rfl) (by decide) ?_
    refine zr_aload_n C (zo_42 (p := 69) (zby_w zwX9_toldSet_2 5 rfl)) rfl ?_
    refine zr_geti C fw_X9_78 (sh_69) rfl (zo_180 (p := 70) (k := 78) (a := 0) (b := 78) (zby_w zwX9_toldSet_2 6 rfl) (zby_w zwX9_toldSet_2 7 rfl) (zby_w zwX9_toldSet_2 8 rfl) (by decide)) ?_
    exact hret _ _ _ h (zo_172 (p := 73) (zby_w zwX9_toldSet_2 9 rfl))
  rw [if_neg hc6] at h
  by_cases hc7 : p1 = 6
  · rw [if_pos hc7] at h
    refine zr_tabIn C (off := 73) 74 d_X9_toldSet_1 (by rw [hc7]; decide) (by rw [hc7]; decide) (by rw [hc7]; rfl) (by decide) ?_
    refine zr_aload_n C (zo_42 (p := 74) (zby_w zwX9_toldSet_2 10 rfl)) rfl ?_
    refine zr_geti C fw_X9_115 (sh_69) rfl (zo_180 (p := 75) (k := 115) (a := 0) (b := 115) (zby_w zwX9_toldSet_2 11 rfl) (zby_w zwX9_toldSet_2 12 rfl) (zby_w zwX9_toldSet_2 13 rfl) (by decide)) ?_
    exact hret _ _ _ h (zo_172 (p := 78) (zby_w zwX9_toldSet_2 14 rfl))
  rw [if_neg hc7] at h
  have ehc1 := lv_neT hc1 (show (0 : Int32).toInt = 0 by decide)
  have ehc2 := lv_neT hc2 (show (1 : Int32).toInt = 1 by decide)
  have ehc3 := lv_neT hc3 (show (2 : Int32).toInt = 2 by decide)
  have ehc4 := lv_neT hc4 (show (3 : Int32).toInt = 3 by decide)
  have ehc5 := lv_neT hc5 (show (4 : Int32).toInt = 4 by decide)
  have ehc6 := lv_neT hc6 (show (5 : Int32).toInt = 5 by decide)
  have ehc7 := lv_neT hc7 (show (6 : Int32).toInt = 6 by decide)
  refine zr_tabOut C 79 d_X9_toldSet_1 (by omega) (by decide) ?_
  refine zr_aload_n C (zo_42 (p := 79) (zby_w zwX9_toldSet_2 15 rfl)) rfl ?_
  refine zr_geti C fw_X9_81 (sh_69) rfl (zo_180 (p := 80) (k := 81) (a := 0) (b := 81) (zby_w zwX9_toldSet_2 16 rfl) (zby_w zwX9_toldSet_2 17 rfl) (zby_w zwX9_toldSet_2 18 rfl) (by decide)) ?_
  exact hret _ _ _ h (zo_172 (p := 83) (zby_w zwX9_toldSet_2 19 rfl))
set_option maxRecDepth 20000 in
theorem c_X9_toldSet (l : Launch) (g : zG) (p1 : Int32) (σ : zST) (Post : Int32 → Prop) (h : wp_X9_toldSet p1 σ Post) : Met l yX9_toldSet (Cond.code yX9_toldSet cX9_toldSet 2 (some .int) :: zGW) (zRm 0 0) (va_Pc [.ref (g.2.1 69), .int p1] (zPP g σ)) (va_Qi (fun r u => Post r ∧ u = σ) (zBB g) (zA g)) 0 0 (zA g) :=
  zMet (by decide) (Nat.le_of_ble_eq_true rfl) (fun p e s m below meth c hr C => g_X9_toldSet C (fun v pc lv hp hd => zr_iret C hr ⟨hp, rfl⟩ hd) h)
def wp_X9_set_J159 (v1 : Int32) (v2 : Int32) (v3 : Int32) (s0 : Int32) (σ : zST) (Post : Int32 → zST → Prop) : Prop := (if v1 = (7 : Int32) then Post v3 (wI (wI σ 69 11 s0) 69 12 v2) else ∀ σ32 : zST, σ32 = (wI σ 69 11 s0) → Post v3 (wI σ32 69 12 (σ32.1 69 12)))

set_option maxRecDepth 100000 in
set_option maxHeartbeats 4000000 in
theorem g_X9_set_J159 {p : Program} {l : Launch} {e : Env} {R : Room} {s : State} {m : MethodId} {args : Array Value} {below : List Frame} {meth : Method} {c : Code} {Q : State → Prop} {g : zG} {n1 n2 : Nat} (C : zCX p R s m args meth c g n1 n2 cX9_set 4 RX9 1 25) {v1 : Int32} {v2 : Int32} {v3 : Int32} {s0 : Int32} {σ : zST}  {Post : Int32 → zST → Prop} (hret : ∀ (v : Int32) (σ : zST) (pc : Nat) (lv : List (Nat × Value)), Post v σ → decode cX9_set pc = .ok (.ireturn, 1) → zGG p l e R s m args below meth c Q g n1 n2 4 pc lv [.int v] σ) (h : wp_X9_set_J159 v1 v2 v3 s0 σ Post) : zGG p l e R s m args below meth c Q g n1 n2 4 159 [(0, .ref (g.2.1 69)), (1, .int v1), (2, .int v2), (3, .int v3)] [.int s0, .ref (g.2.1 69)] σ := by
  unfold wp_X9_set_J159 at h
  refine zr_puti C fw_X9_115 pw_X9_11 (sh_69) rfl rfl rfl (zo_181 (p := 159) (k := 115) (a := 0) (b := 115) (zby_w zwX9_set_4 31 rfl) (zby_w zwX9_set_4 32 rfl) (zby_w zwX9_set_4 33 rfl) (by decide)) ?_
  refine zr_aload_n C (zo_42 (p := 162) (zby_w zwX9_set_5 2 rfl)) rfl ?_
  refine zr_iload_n C (zo_27 (p := 163) (zby_w zwX9_set_5 3 rfl)) rfl ?_
  refine zr_bipush C (7 : Int32) (zo_16 (p := 164) (k := 7) (a := 7) (zby_w zwX9_set_5 4 rfl) (zby_w zwX9_set_5 5 rfl) (by decide)) (by decide) ?_
  refine zr_icmp_ne C 173 (zo_160 (p := 166) (k := 7) (a := 0) (b := 7) (zby_w zwX9_set_5 6 rfl) (zby_w zwX9_set_5 7 rfl) (zby_w zwX9_set_5 8 rfl) (by decide)) (by decide) (fun hc31 => ?_) (fun hc31 => ?_)
  · rw [if_neg hc31] at h
    refine zr_aload_n C (zo_42 (p := 173) (zby_w zwX9_set_5 13 rfl)) rfl ?_
    refine zr_tops (fun σ32 hσ32 => ?_)
    replace h := h σ32 hσ32
    refine zr_geti C fw_X9_81 (sh_69) rfl (zo_180 (p := 174) (k := 81) (a := 0) (b := 81) (zby_w zwX9_set_5 14 rfl) (zby_w zwX9_set_5 15 rfl) (zby_w zwX9_set_5 16 rfl) (by decide)) ?_
    refine zr_puti C fw_X9_81 pw_X9_12 (sh_69) rfl rfl rfl d_X9_set_177 ?_
    refine zr_iload_n C d_X9_set_180 rfl ?_
    exact hret _ _ _ _ h d_X9_set_181
  · rw [if_pos hc31] at h
    refine zr_iload_n C (zo_28 (p := 169) (zby_w zwX9_set_5 9 rfl)) rfl ?_
    refine zr_goto C 177 (zo_167 (p := 170) (k := 7) (a := 0) (b := 7) (zby_w zwX9_set_5 10 rfl) (zby_w zwX9_set_5 11 rfl) (zby_w zwX9_set_5 12 rfl) (by decide)) (by decide) ?_
    refine zr_puti C fw_X9_81 pw_X9_12 (sh_69) rfl rfl rfl d_X9_set_177 ?_
    refine zr_iload_n C d_X9_set_180 rfl ?_
    exact hret _ _ _ _ h d_X9_set_181

def wp_X9_set_J141 (v1 : Int32) (v2 : Int32) (v3 : Int32) (s0 : Int32) (σ : zST) (Post : Int32 → zST → Prop) : Prop := (if v1 = (6 : Int32) then wp_X9_set_J159 v1 v2 v3 v2 (wI σ 69 10 s0) Post else ∀ σ30 : zST, σ30 = (wI σ 69 10 s0) → wp_X9_set_J159 v1 v2 v3 (σ30.1 69 11) σ30 Post)

set_option maxRecDepth 100000 in
set_option maxHeartbeats 4000000 in
theorem g_X9_set_J141 {p : Program} {l : Launch} {e : Env} {R : Room} {s : State} {m : MethodId} {args : Array Value} {below : List Frame} {meth : Method} {c : Code} {Q : State → Prop} {g : zG} {n1 n2 : Nat} (C : zCX p R s m args meth c g n1 n2 cX9_set 4 RX9 1 25) {v1 : Int32} {v2 : Int32} {v3 : Int32} {s0 : Int32} {σ : zST}  {Post : Int32 → zST → Prop} (hret : ∀ (v : Int32) (σ : zST) (pc : Nat) (lv : List (Nat × Value)), Post v σ → decode cX9_set pc = .ok (.ireturn, 1) → zGG p l e R s m args below meth c Q g n1 n2 4 pc lv [.int v] σ) (h : wp_X9_set_J141 v1 v2 v3 s0 σ Post) : zGG p l e R s m args below meth c Q g n1 n2 4 141 [(0, .ref (g.2.1 69)), (1, .int v1), (2, .int v2), (3, .int v3)] [.int s0, .ref (g.2.1 69)] σ := by
  unfold wp_X9_set_J141 at h
  refine zr_puti C fw_X9_78 pw_X9_10 (sh_69) rfl rfl rfl (zo_181 (p := 141) (k := 78) (a := 0) (b := 78) (zby_w zwX9_set_4 13 rfl) (zby_w zwX9_set_4 14 rfl) (zby_w zwX9_set_4 15 rfl) (by decide)) ?_
  refine zr_aload_n C (zo_42 (p := 144) (zby_w zwX9_set_4 16 rfl)) rfl ?_
  refine zr_iload_n C (zo_27 (p := 145) (zby_w zwX9_set_4 17 rfl)) rfl ?_
  refine zr_bipush C (6 : Int32) (zo_16 (p := 146) (k := 6) (a := 6) (zby_w zwX9_set_4 18 rfl) (zby_w zwX9_set_4 19 rfl) (by decide)) (by decide) ?_
  refine zr_icmp_ne C 155 (zo_160 (p := 148) (k := 7) (a := 0) (b := 7) (zby_w zwX9_set_4 20 rfl) (zby_w zwX9_set_4 21 rfl) (zby_w zwX9_set_4 22 rfl) (by decide)) (by decide) (fun hc29 => ?_) (fun hc29 => ?_)
  · rw [if_neg hc29] at h
    refine zr_aload_n C (zo_42 (p := 155) (zby_w zwX9_set_4 27 rfl)) rfl ?_
    refine zr_tops (fun σ30 hσ30 => ?_)
    replace h := h σ30 hσ30
    refine zr_geti C fw_X9_115 (sh_69) rfl (zo_180 (p := 156) (k := 115) (a := 0) (b := 115) (zby_w zwX9_set_4 28 rfl) (zby_w zwX9_set_4 29 rfl) (zby_w zwX9_set_4 30 rfl) (by decide)) ?_
    exact zr_pick [0, 1, 2, 3] rfl (g_X9_set_J159 C hret h)
  · rw [if_pos hc29] at h
    refine zr_iload_n C (zo_28 (p := 151) (zby_w zwX9_set_4 23 rfl)) rfl ?_
    refine zr_goto C 159 (zo_167 (p := 152) (k := 7) (a := 0) (b := 7) (zby_w zwX9_set_4 24 rfl) (zby_w zwX9_set_4 25 rfl) (zby_w zwX9_set_4 26 rfl) (by decide)) (by decide) ?_
    exact zr_pick [0, 1, 2, 3] rfl (g_X9_set_J159 C hret h)

def wp_X9_set_J124 (v1 : Int32) (v2 : Int32) (v3 : Int32) (s0 : Int32) (σ : zST) (Post : Int32 → zST → Prop) : Prop := (if v1 = (5 : Int32) then wp_X9_set_J141 v1 v2 v3 v2 (wI σ 69 9 s0) Post else ∀ σ28 : zST, σ28 = (wI σ 69 9 s0) → wp_X9_set_J141 v1 v2 v3 (σ28.1 69 10) σ28 Post)

set_option maxRecDepth 100000 in
set_option maxHeartbeats 4000000 in
theorem g_X9_set_J124 {p : Program} {l : Launch} {e : Env} {R : Room} {s : State} {m : MethodId} {args : Array Value} {below : List Frame} {meth : Method} {c : Code} {Q : State → Prop} {g : zG} {n1 n2 : Nat} (C : zCX p R s m args meth c g n1 n2 cX9_set 4 RX9 1 25) {v1 : Int32} {v2 : Int32} {v3 : Int32} {s0 : Int32} {σ : zST}  {Post : Int32 → zST → Prop} (hret : ∀ (v : Int32) (σ : zST) (pc : Nat) (lv : List (Nat × Value)), Post v σ → decode cX9_set pc = .ok (.ireturn, 1) → zGG p l e R s m args below meth c Q g n1 n2 4 pc lv [.int v] σ) (h : wp_X9_set_J124 v1 v2 v3 s0 σ Post) : zGG p l e R s m args below meth c Q g n1 n2 4 124 [(0, .ref (g.2.1 69)), (1, .int v1), (2, .int v2), (3, .int v3)] [.int s0, .ref (g.2.1 69)] σ := by
  unfold wp_X9_set_J124 at h
  refine zr_puti C fw_X9_75 pw_X9_9 (sh_69) rfl rfl rfl (zo_181 (p := 124) (k := 75) (a := 0) (b := 75) (zby_w zwX9_set_3 28 rfl) (zby_w zwX9_set_3 29 rfl) (zby_w zwX9_set_3 30 rfl) (by decide)) ?_
  refine zr_aload_n C (zo_42 (p := 127) (zby_w zwX9_set_3 31 rfl)) rfl ?_
  refine zr_iload_n C (zo_27 (p := 128) (zby_w zwX9_set_4 0 rfl)) rfl ?_
  refine zr_iconst C (5 : Int32) (zo_8 (p := 129) (zby_w zwX9_set_4 1 rfl)) (by decide) ?_
  refine zr_icmp_ne C 137 (zo_160 (p := 130) (k := 7) (a := 0) (b := 7) (zby_w zwX9_set_4 2 rfl) (zby_w zwX9_set_4 3 rfl) (zby_w zwX9_set_4 4 rfl) (by decide)) (by decide) (fun hc27 => ?_) (fun hc27 => ?_)
  · rw [if_neg hc27] at h
    refine zr_aload_n C (zo_42 (p := 137) (zby_w zwX9_set_4 9 rfl)) rfl ?_
    refine zr_tops (fun σ28 hσ28 => ?_)
    replace h := h σ28 hσ28
    refine zr_geti C fw_X9_78 (sh_69) rfl (zo_180 (p := 138) (k := 78) (a := 0) (b := 78) (zby_w zwX9_set_4 10 rfl) (zby_w zwX9_set_4 11 rfl) (zby_w zwX9_set_4 12 rfl) (by decide)) ?_
    exact zr_pick [0, 1, 2, 3] rfl (g_X9_set_J141 C hret h)
  · rw [if_pos hc27] at h
    refine zr_iload_n C (zo_28 (p := 133) (zby_w zwX9_set_4 5 rfl)) rfl ?_
    refine zr_goto C 141 (zo_167 (p := 134) (k := 7) (a := 0) (b := 7) (zby_w zwX9_set_4 6 rfl) (zby_w zwX9_set_4 7 rfl) (zby_w zwX9_set_4 8 rfl) (by decide)) (by decide) ?_
    exact zr_pick [0, 1, 2, 3] rfl (g_X9_set_J141 C hret h)

def wp_X9_set_J107 (v1 : Int32) (v2 : Int32) (v3 : Int32) (s0 : Int32) (σ : zST) (Post : Int32 → zST → Prop) : Prop := (if v1 = (4 : Int32) then wp_X9_set_J124 v1 v2 v3 v2 (wI σ 69 8 s0) Post else ∀ σ26 : zST, σ26 = (wI σ 69 8 s0) → wp_X9_set_J124 v1 v2 v3 (σ26.1 69 9) σ26 Post)

set_option maxRecDepth 100000 in
set_option maxHeartbeats 4000000 in
theorem g_X9_set_J107 {p : Program} {l : Launch} {e : Env} {R : Room} {s : State} {m : MethodId} {args : Array Value} {below : List Frame} {meth : Method} {c : Code} {Q : State → Prop} {g : zG} {n1 n2 : Nat} (C : zCX p R s m args meth c g n1 n2 cX9_set 4 RX9 1 25) {v1 : Int32} {v2 : Int32} {v3 : Int32} {s0 : Int32} {σ : zST}  {Post : Int32 → zST → Prop} (hret : ∀ (v : Int32) (σ : zST) (pc : Nat) (lv : List (Nat × Value)), Post v σ → decode cX9_set pc = .ok (.ireturn, 1) → zGG p l e R s m args below meth c Q g n1 n2 4 pc lv [.int v] σ) (h : wp_X9_set_J107 v1 v2 v3 s0 σ Post) : zGG p l e R s m args below meth c Q g n1 n2 4 107 [(0, .ref (g.2.1 69)), (1, .int v1), (2, .int v2), (3, .int v3)] [.int s0, .ref (g.2.1 69)] σ := by
  unfold wp_X9_set_J107 at h
  refine zr_puti C fw_X9_72 pw_X9_8 (sh_69) rfl rfl rfl (zo_181 (p := 107) (k := 72) (a := 0) (b := 72) (zby_w zwX9_set_3 11 rfl) (zby_w zwX9_set_3 12 rfl) (zby_w zwX9_set_3 13 rfl) (by decide)) ?_
  refine zr_aload_n C (zo_42 (p := 110) (zby_w zwX9_set_3 14 rfl)) rfl ?_
  refine zr_iload_n C (zo_27 (p := 111) (zby_w zwX9_set_3 15 rfl)) rfl ?_
  refine zr_iconst C (4 : Int32) (zo_7 (p := 112) (zby_w zwX9_set_3 16 rfl)) (by decide) ?_
  refine zr_icmp_ne C 120 (zo_160 (p := 113) (k := 7) (a := 0) (b := 7) (zby_w zwX9_set_3 17 rfl) (zby_w zwX9_set_3 18 rfl) (zby_w zwX9_set_3 19 rfl) (by decide)) (by decide) (fun hc25 => ?_) (fun hc25 => ?_)
  · rw [if_neg hc25] at h
    refine zr_aload_n C (zo_42 (p := 120) (zby_w zwX9_set_3 24 rfl)) rfl ?_
    refine zr_tops (fun σ26 hσ26 => ?_)
    replace h := h σ26 hσ26
    refine zr_geti C fw_X9_75 (sh_69) rfl (zo_180 (p := 121) (k := 75) (a := 0) (b := 75) (zby_w zwX9_set_3 25 rfl) (zby_w zwX9_set_3 26 rfl) (zby_w zwX9_set_3 27 rfl) (by decide)) ?_
    exact zr_pick [0, 1, 2, 3] rfl (g_X9_set_J124 C hret h)
  · rw [if_pos hc25] at h
    refine zr_iload_n C (zo_28 (p := 116) (zby_w zwX9_set_3 20 rfl)) rfl ?_
    refine zr_goto C 124 (zo_167 (p := 117) (k := 7) (a := 0) (b := 7) (zby_w zwX9_set_3 21 rfl) (zby_w zwX9_set_3 22 rfl) (zby_w zwX9_set_3 23 rfl) (by decide)) (by decide) ?_
    exact zr_pick [0, 1, 2, 3] rfl (g_X9_set_J124 C hret h)

def wp_X9_set_J90 (v1 : Int32) (v2 : Int32) (v3 : Int32) (s0 : Int32) (σ : zST) (Post : Int32 → zST → Prop) : Prop := (if v1 = (3 : Int32) then wp_X9_set_J107 v1 v2 v3 v2 (wI σ 69 7 s0) Post else ∀ σ24 : zST, σ24 = (wI σ 69 7 s0) → wp_X9_set_J107 v1 v2 v3 (σ24.1 69 8) σ24 Post)

set_option maxRecDepth 100000 in
set_option maxHeartbeats 4000000 in
theorem g_X9_set_J90 {p : Program} {l : Launch} {e : Env} {R : Room} {s : State} {m : MethodId} {args : Array Value} {below : List Frame} {meth : Method} {c : Code} {Q : State → Prop} {g : zG} {n1 n2 : Nat} (C : zCX p R s m args meth c g n1 n2 cX9_set 4 RX9 1 25) {v1 : Int32} {v2 : Int32} {v3 : Int32} {s0 : Int32} {σ : zST}  {Post : Int32 → zST → Prop} (hret : ∀ (v : Int32) (σ : zST) (pc : Nat) (lv : List (Nat × Value)), Post v σ → decode cX9_set pc = .ok (.ireturn, 1) → zGG p l e R s m args below meth c Q g n1 n2 4 pc lv [.int v] σ) (h : wp_X9_set_J90 v1 v2 v3 s0 σ Post) : zGG p l e R s m args below meth c Q g n1 n2 4 90 [(0, .ref (g.2.1 69)), (1, .int v1), (2, .int v2), (3, .int v3)] [.int s0, .ref (g.2.1 69)] σ := by
  unfold wp_X9_set_J90 at h
  refine zr_puti C fw_X9_69 pw_X9_7 (sh_69) rfl rfl rfl (zo_181 (p := 90) (k := 69) (a := 0) (b := 69) (zby_w zwX9_set_2 26 rfl) (zby_w zwX9_set_2 27 rfl) (zby_w zwX9_set_2 28 rfl) (by decide)) ?_
  refine zr_aload_n C (zo_42 (p := 93) (zby_w zwX9_set_2 29 rfl)) rfl ?_
  refine zr_iload_n C (zo_27 (p := 94) (zby_w zwX9_set_2 30 rfl)) rfl ?_
  refine zr_iconst C (3 : Int32) (zo_6 (p := 95) (zby_w zwX9_set_2 31 rfl)) (by decide) ?_
  refine zr_icmp_ne C 103 (zo_160 (p := 96) (k := 7) (a := 0) (b := 7) (zby_w zwX9_set_3 0 rfl) (zby_w zwX9_set_3 1 rfl) (zby_w zwX9_set_3 2 rfl) (by decide)) (by decide) (fun hc23 => ?_) (fun hc23 => ?_)
  · rw [if_neg hc23] at h
    refine zr_aload_n C (zo_42 (p := 103) (zby_w zwX9_set_3 7 rfl)) rfl ?_
    refine zr_tops (fun σ24 hσ24 => ?_)
    replace h := h σ24 hσ24
    refine zr_geti C fw_X9_72 (sh_69) rfl (zo_180 (p := 104) (k := 72) (a := 0) (b := 72) (zby_w zwX9_set_3 8 rfl) (zby_w zwX9_set_3 9 rfl) (zby_w zwX9_set_3 10 rfl) (by decide)) ?_
    exact zr_pick [0, 1, 2, 3] rfl (g_X9_set_J107 C hret h)
  · rw [if_pos hc23] at h
    refine zr_iload_n C (zo_28 (p := 99) (zby_w zwX9_set_3 3 rfl)) rfl ?_
    refine zr_goto C 107 (zo_167 (p := 100) (k := 7) (a := 0) (b := 7) (zby_w zwX9_set_3 4 rfl) (zby_w zwX9_set_3 5 rfl) (zby_w zwX9_set_3 6 rfl) (by decide)) (by decide) ?_
    exact zr_pick [0, 1, 2, 3] rfl (g_X9_set_J107 C hret h)

def wp_X9_set_J73 (v1 : Int32) (v2 : Int32) (v3 : Int32) (s0 : Int32) (σ : zST) (Post : Int32 → zST → Prop) : Prop := (if v1 = (2 : Int32) then wp_X9_set_J90 v1 v2 v3 v2 (wI σ 69 6 s0) Post else ∀ σ22 : zST, σ22 = (wI σ 69 6 s0) → wp_X9_set_J90 v1 v2 v3 (σ22.1 69 7) σ22 Post)

set_option maxRecDepth 100000 in
set_option maxHeartbeats 4000000 in
theorem g_X9_set_J73 {p : Program} {l : Launch} {e : Env} {R : Room} {s : State} {m : MethodId} {args : Array Value} {below : List Frame} {meth : Method} {c : Code} {Q : State → Prop} {g : zG} {n1 n2 : Nat} (C : zCX p R s m args meth c g n1 n2 cX9_set 4 RX9 1 25) {v1 : Int32} {v2 : Int32} {v3 : Int32} {s0 : Int32} {σ : zST}  {Post : Int32 → zST → Prop} (hret : ∀ (v : Int32) (σ : zST) (pc : Nat) (lv : List (Nat × Value)), Post v σ → decode cX9_set pc = .ok (.ireturn, 1) → zGG p l e R s m args below meth c Q g n1 n2 4 pc lv [.int v] σ) (h : wp_X9_set_J73 v1 v2 v3 s0 σ Post) : zGG p l e R s m args below meth c Q g n1 n2 4 73 [(0, .ref (g.2.1 69)), (1, .int v1), (2, .int v2), (3, .int v3)] [.int s0, .ref (g.2.1 69)] σ := by
  unfold wp_X9_set_J73 at h
  refine zr_puti C fw_X9_66 pw_X9_6 (sh_69) rfl rfl rfl (zo_181 (p := 73) (k := 66) (a := 0) (b := 66) (zby_w zwX9_set_2 9 rfl) (zby_w zwX9_set_2 10 rfl) (zby_w zwX9_set_2 11 rfl) (by decide)) ?_
  refine zr_aload_n C (zo_42 (p := 76) (zby_w zwX9_set_2 12 rfl)) rfl ?_
  refine zr_iload_n C (zo_27 (p := 77) (zby_w zwX9_set_2 13 rfl)) rfl ?_
  refine zr_iconst C (2 : Int32) (zo_5 (p := 78) (zby_w zwX9_set_2 14 rfl)) (by decide) ?_
  refine zr_icmp_ne C 86 (zo_160 (p := 79) (k := 7) (a := 0) (b := 7) (zby_w zwX9_set_2 15 rfl) (zby_w zwX9_set_2 16 rfl) (zby_w zwX9_set_2 17 rfl) (by decide)) (by decide) (fun hc21 => ?_) (fun hc21 => ?_)
  · rw [if_neg hc21] at h
    refine zr_aload_n C (zo_42 (p := 86) (zby_w zwX9_set_2 22 rfl)) rfl ?_
    refine zr_tops (fun σ22 hσ22 => ?_)
    replace h := h σ22 hσ22
    refine zr_geti C fw_X9_69 (sh_69) rfl (zo_180 (p := 87) (k := 69) (a := 0) (b := 69) (zby_w zwX9_set_2 23 rfl) (zby_w zwX9_set_2 24 rfl) (zby_w zwX9_set_2 25 rfl) (by decide)) ?_
    exact zr_pick [0, 1, 2, 3] rfl (g_X9_set_J90 C hret h)
  · rw [if_pos hc21] at h
    refine zr_iload_n C (zo_28 (p := 82) (zby_w zwX9_set_2 18 rfl)) rfl ?_
    refine zr_goto C 90 (zo_167 (p := 83) (k := 7) (a := 0) (b := 7) (zby_w zwX9_set_2 19 rfl) (zby_w zwX9_set_2 20 rfl) (zby_w zwX9_set_2 21 rfl) (by decide)) (by decide) ?_
    exact zr_pick [0, 1, 2, 3] rfl (g_X9_set_J90 C hret h)

def wp_X9_set (p1 : Int32) (p2 : Int32) (σ : zST) (Post : Int32 → zST → Prop) : Prop := wp_X9_in (p1.toInt64) (0 : Int64) (7 : Int64) σ (fun r1 => (if r1 = (0) then Post (-2 : Int32) σ else ∀ z5 : Int64, z5 = (if p1 = (0) then (1 : Int64) else (0 : Int64)) → wp_X9_greatest p1 σ (fun r8 => wp_X9_in (p2.toInt64) z5 (r8.toInt64) σ (fun r10 => (if r10 = (0) then Post (-2 : Int32) σ else wp_X9_toldSet p1 σ (fun r13 => ∀ z16 : Int32, z16 = (if p1 = (0) then p2 else (σ.1 69 5)) → (if p1 = (1 : Int32) then wp_X9_set_J73 p1 p2 r13 p2 (wI σ 69 5 z16) Post else ∀ σ20 : zST, σ20 = (wI σ 69 5 z16) → wp_X9_set_J73 p1 p2 r13 (σ20.1 69 6) σ20 Post)))))))
set_option maxRecDepth 100000 in
set_option maxHeartbeats 4000000 in
theorem g_X9_set {p : Program} {l : Launch} {e : Env} {R : Room} {s : State} {m : MethodId} {args : Array Value} {below : List Frame} {meth : Method} {c : Code} {Q : State → Prop} {g : zG} {n1 n2 : Nat} (C : zCX p R s m args meth c g n1 n2 cX9_set 4 RX9 1 25) {p1 : Int32} {p2 : Int32} {σ : zST} {Post : Int32 → zST → Prop} (hret : ∀ (v : Int32) (σ : zST) (pc : Nat) (lv : List (Nat × Value)), Post v σ → decode cX9_set pc = .ok (.ireturn, 1) → zGG p l e R s m args below meth c Q g n1 n2 4 pc lv [.int v] σ) (h : wp_X9_set p1 p2 σ Post) : zGG p l e R s m args below meth c Q g n1 n2 4 0 [(0, .ref (g.2.1 69)), (1, .int p1), (2, .int p2)] [] σ := by
  unfold wp_X9_set at h
  refine zr_iload_n C (zo_27 (p := 0) (zby_w zwX9_set_0 0 rfl)) rfl ?_
  refine zr_i2l C (zo_133 (p := 1) (zby_w zwX9_set_0 1 rfl)) ?_
  refine zr_lconst C (0 : Int64) (zo_9 (p := 2) (zby_w zwX9_set_0 2 rfl)) (by decide) ?_
  refine zr_ldc2 C (v := (7 : Int64)) cl_X9_118 (zo_20 (p := 3) (k := 118) (a := 0) (b := 118) (zby_w zwX9_set_0 3 rfl) (zby_w zwX9_set_0 4 rfl) (zby_w zwX9_set_0 5 rfl) (by decide)) ?_
  refine zr_cip (zr_runS (As := [.long (p1.toInt64), .long (0 : Int64), .long (7 : Int64)]) (rest := []) C sw_X9_89 (c_X9_in l g (p1.toInt64) (0 : Int64) (7 : Int64) σ _ h) (by decide) (by decide) rfl rfl (Nat.le_of_ble_eq_true rfl) (zo_184 (p := 6) (k := 89) (a := 0) (b := 89) (zby_w zwX9_set_0 6 rfl) (zby_w zwX9_set_0 7 rfl) (zby_w zwX9_set_0 8 rfl) (by decide))) (fun r1 h => ?_)
  refine zr_if_eq C 34 (zo_153 (p := 9) (k := 25) (a := 0) (b := 25) (zby_w zwX9_set_0 9 rfl) (zby_w zwX9_set_0 10 rfl) (zby_w zwX9_set_0 11 rfl) (by decide)) (by decide) (fun hc3 => ?_) (fun hc3 => ?_)
  · rw [if_pos hc3] at h
    refine zr_bipush C (-2 : Int32) d_X9_set_34 (by decide) ?_
    exact hret _ _ _ _ h d_X9_set_36
  · rw [if_neg hc3] at h
    refine zr_iload_n C (zo_28 (p := 12) (zby_w zwX9_set_0 12 rfl)) rfl ?_
    refine zr_i2l C (zo_133 (p := 13) (zby_w zwX9_set_0 13 rfl)) ?_
    refine zr_iload_n C (zo_27 (p := 14) (zby_w zwX9_set_0 14 rfl)) rfl ?_
    have hJ6 : ∀ z5 : Int64, z5 = (if p1 = (0) then (1 : Int64) else (0 : Int64)) → zGG p l e R s m args below meth c Q g n1 n2 4 23 [(0, .ref (g.2.1 69)), (1, .int p1), (2, .int p2)] [.long z5, .long (p2.toInt64)] σ := by
      intro z5 hz5
      replace h := h z5 hz5
      refine zr_iload_n C (zo_27 (p := 23) (zby_w zwX9_set_0 23 rfl)) rfl ?_
      refine zr_cip (zr_runS (As := [.int p1]) (rest := [.long z5, .long (p2.toInt64)]) C sw_X9_120 (c_X9_greatest l g p1 σ _ h) (by decide) (by decide) rfl rfl (Nat.le_of_ble_eq_true rfl) (zo_184 (p := 24) (k := 120) (a := 0) (b := 120) (zby_w zwX9_set_0 24 rfl) (zby_w zwX9_set_0 25 rfl) (zby_w zwX9_set_0 26 rfl) (by decide))) (fun r8 h => ?_)
      refine zr_i2l C (zo_133 (p := 27) (zby_w zwX9_set_0 27 rfl)) ?_
      refine zr_cip (zr_runS (As := [.long (p2.toInt64), .long z5, .long (r8.toInt64)]) (rest := []) C sw_X9_89 (c_X9_in l g (p2.toInt64) z5 (r8.toInt64) σ _ h) (by decide) (by decide) rfl rfl (Nat.le_of_ble_eq_true rfl) (zo_184 (p := 28) (k := 89) (a := 0) (b := 89) (zby_w zwX9_set_0 28 rfl) (zby_w zwX9_set_0 29 rfl) (zby_w zwX9_set_0 30 rfl) (by decide))) (fun r10 h => ?_)
      refine zr_if_ne C 37 (zo_154 (p := 31) (k := 6) (a := 0) (b := 6) (zby_w zwX9_set_0 31 rfl) (zby_w zwX9_set_0 32 rfl) (zby_w zwX9_set_0 33 rfl) (by decide)) (by decide) (fun hc12 => ?_) (fun hc12 => ?_)
      · rw [if_neg hc12] at h
        refine zr_aload_n C (zo_42 (p := 37) (zby_w zwX9_set_1 5 rfl)) rfl ?_
        refine zr_iload_n C (zo_27 (p := 38) (zby_w zwX9_set_1 6 rfl)) rfl ?_
        refine zr_cip (zr_runV (As := [.int p1]) (rest := []) C vw_X9_123 (c_X9_toldSet l g p1 σ _ h) (sh_69) rfl (by decide) (by decide) rfl rfl (Nat.le_of_ble_eq_true rfl) (zo_182 (p := 39) (k := 123) (a := 0) (b := 123) (zby_w zwX9_set_1 7 rfl) (zby_w zwX9_set_1 8 rfl) (zby_w zwX9_set_1 9 rfl) (by decide))) (fun r13 h => ?_)
        refine zr_istore_n C [(3, .int r13), (0, .ref (g.2.1 69)), (1, .int p1), (2, .int p2)] (zo_62 (p := 42) (zby_w zwX9_set_1 10 rfl)) (by decide) rfl ?_
        refine zr_aload_n C (zo_42 (p := 43) (zby_w zwX9_set_1 11 rfl)) rfl ?_
        refine zr_iload_n C (zo_27 (p := 44) (zby_w zwX9_set_1 12 rfl)) rfl ?_
        have hJ17 : ∀ z16 : Int32, z16 = (if p1 = (0) then p2 else (σ.1 69 5)) → zGG p l e R s m args below meth c Q g n1 n2 4 56 [(3, .int r13), (0, .ref (g.2.1 69)), (1, .int p1), (2, .int p2)] [.int z16, .ref (g.2.1 69)] σ := by
          intro z16 hz16
          replace h := h z16 hz16
          refine zr_puti C fw_X9_62 pw_X9_5 (sh_69) rfl rfl rfl (zo_181 (p := 56) (k := 62) (a := 0) (b := 62) (zby_w zwX9_set_1 24 rfl) (zby_w zwX9_set_1 25 rfl) (zby_w zwX9_set_1 26 rfl) (by decide)) ?_
          refine zr_aload_n C (zo_42 (p := 59) (zby_w zwX9_set_1 27 rfl)) rfl ?_
          refine zr_iload_n C (zo_27 (p := 60) (zby_w zwX9_set_1 28 rfl)) rfl ?_
          refine zr_iconst C (1 : Int32) (zo_4 (p := 61) (zby_w zwX9_set_1 29 rfl)) (by decide) ?_
          refine zr_icmp_ne C 69 (zo_160 (p := 62) (k := 7) (a := 0) (b := 7) (zby_w zwX9_set_1 30 rfl) (zby_w zwX9_set_1 31 rfl) (zby_w zwX9_set_1 32 rfl) (by decide)) (by decide) (fun hc19 => ?_) (fun hc19 => ?_)
          · rw [if_neg hc19] at h
            refine zr_aload_n C (zo_42 (p := 69) (zby_w zwX9_set_2 5 rfl)) rfl ?_
            refine zr_tops (fun σ20 hσ20 => ?_)
            replace h := h σ20 hσ20
            refine zr_geti C fw_X9_66 (sh_69) rfl (zo_180 (p := 70) (k := 66) (a := 0) (b := 66) (zby_w zwX9_set_2 6 rfl) (zby_w zwX9_set_2 7 rfl) (zby_w zwX9_set_2 8 rfl) (by decide)) ?_
            exact zr_pick [1, 2, 3, 0] rfl (g_X9_set_J73 C hret h)
          · rw [if_pos hc19] at h
            refine zr_iload_n C (zo_28 (p := 65) (zby_w zwX9_set_2 1 rfl)) rfl ?_
            refine zr_goto C 73 (zo_167 (p := 66) (k := 7) (a := 0) (b := 7) (zby_w zwX9_set_2 2 rfl) (zby_w zwX9_set_2 3 rfl) (zby_w zwX9_set_2 4 rfl) (by decide)) (by decide) ?_
            exact zr_pick [1, 2, 3, 0] rfl (g_X9_set_J73 C hret h)
        refine zr_if_ne C 52 (zo_154 (p := 45) (k := 7) (a := 0) (b := 7) (zby_w zwX9_set_1 13 rfl) (zby_w zwX9_set_1 14 rfl) (zby_w zwX9_set_1 15 rfl) (by decide)) (by decide) (fun hc15 => ?_) (fun hc15 => ?_)
        · skip
          refine zr_aload_n C (zo_42 (p := 52) (zby_w zwX9_set_1 20 rfl)) rfl ?_
          refine zr_geti C fw_X9_62 (sh_69) rfl (zo_180 (p := 53) (k := 62) (a := 0) (b := 62) (zby_w zwX9_set_1 21 rfl) (zby_w zwX9_set_1 22 rfl) (zby_w zwX9_set_1 23 rfl) (by decide)) ?_
          exact hJ17 _ (by rw [if_neg hc15])
        · skip
          refine zr_iload_n C (zo_28 (p := 48) (zby_w zwX9_set_1 16 rfl)) rfl ?_
          refine zr_goto C 56 (zo_167 (p := 49) (k := 7) (a := 0) (b := 7) (zby_w zwX9_set_1 17 rfl) (zby_w zwX9_set_1 18 rfl) (zby_w zwX9_set_1 19 rfl) (by decide)) (by decide) ?_
          exact hJ17 _ (by rw [if_pos hc15])
      · rw [if_pos hc12] at h
        refine zr_bipush C (-2 : Int32) d_X9_set_34 (by decide) ?_
        exact hret _ _ _ _ h d_X9_set_36
    refine zr_if_ne C 22 (zo_154 (p := 15) (k := 7) (a := 0) (b := 7) (zby_w zwX9_set_0 15 rfl) (zby_w zwX9_set_0 16 rfl) (zby_w zwX9_set_0 17 rfl) (by decide)) (by decide) (fun hc4 => ?_) (fun hc4 => ?_)
    · skip
      refine zr_lconst C (0 : Int64) (zo_9 (p := 22) (zby_w zwX9_set_0 22 rfl)) (by decide) ?_
      exact hJ6 _ (by rw [if_neg hc4])
    · skip
      refine zr_lconst C (1 : Int64) (zo_10 (p := 18) (zby_w zwX9_set_0 18 rfl)) (by decide) ?_
      refine zr_goto C 23 (zo_167 (p := 19) (k := 4) (a := 0) (b := 4) (zby_w zwX9_set_0 19 rfl) (zby_w zwX9_set_0 20 rfl) (zby_w zwX9_set_0 21 rfl) (by decide)) (by decide) ?_
      exact hJ6 _ (by rw [if_pos hc4])
set_option maxRecDepth 20000 in
theorem c_X9_set (l : Launch) (g : zG) (p1 : Int32) (p2 : Int32) (σ : zST) (Post : Int32 → zST → Prop) (h : wp_X9_set p1 p2 σ Post) : Met l yX9_set (Cond.code yX9_set cX9_set 4 (some .int) :: zGW) (zRm 1 25) (va_Pc [.ref (g.2.1 69), .int p1, .int p2] (zPP g σ)) (va_Qi Post (zBB g) (zA g)) 0 0 (zA g) :=
  zMet (by decide) (Nat.le_of_ble_eq_true rfl) (fun p e s m below meth c hr C => g_X9_set C (fun v σ pc lv hp hd => zr_iret C hr hp hd) h)
def wp_X9_say (p1 : Int32) (σ : zST) (Post : Int32 → zST → Prop) : Prop := wp_X9_in (p1.toInt64) (33 : Int64) (126 : Int64) σ (fun r1 => (if r1 = (0) then Post (-2 : Int32) σ else (if (σ.1 69 27) = (60 : Int32) then Post (-4 : Int32) σ else vp_in (σ.1 69 27) 60 ∧ ∀ σ6 : zST, σ6 = (wI σ 80 (σ.1 69 27).toNatClampNeg p1) → ∀ σ7 : zST, σ7 = (wI σ6 69 27 ((σ6.1 69 27) + (1 : Int32))) → Post (σ7.1 69 27) σ7)))
set_option maxRecDepth 100000 in
set_option maxHeartbeats 4000000 in
theorem g_X9_say {p : Program} {l : Launch} {e : Env} {R : Room} {s : State} {m : MethodId} {args : Array Value} {below : List Frame} {meth : Method} {c : Code} {Q : State → Prop} {g : zG} {n1 n2 : Nat} (C : zCX p R s m args meth c g n1 n2 cX9_say 2 RX9 1 25) {p1 : Int32} {σ : zST} {Post : Int32 → zST → Prop} (hret : ∀ (v : Int32) (σ : zST) (pc : Nat) (lv : List (Nat × Value)), Post v σ → decode cX9_say pc = .ok (.ireturn, 1) → zGG p l e R s m args below meth c Q g n1 n2 2 pc lv [.int v] σ) (h : wp_X9_say p1 σ Post) : zGG p l e R s m args below meth c Q g n1 n2 2 0 [(0, .ref (g.2.1 69)), (1, .int p1)] [] σ := by
  unfold wp_X9_say at h
  refine zr_iload_n C (zo_27 (p := 0) (zby_w zwX9_say_0 0 rfl)) rfl ?_
  refine zr_i2l C (zo_133 (p := 1) (zby_w zwX9_say_0 1 rfl)) ?_
  refine zr_ldc2 C (v := (33 : Int64)) cl_X9_126 (zo_20 (p := 2) (k := 126) (a := 0) (b := 126) (zby_w zwX9_say_0 2 rfl) (zby_w zwX9_say_0 3 rfl) (zby_w zwX9_say_0 4 rfl) (by decide)) ?_
  refine zr_ldc2 C (v := (126 : Int64)) cl_X9_128 (zo_20 (p := 5) (k := 128) (a := 0) (b := 128) (zby_w zwX9_say_0 5 rfl) (zby_w zwX9_say_0 6 rfl) (zby_w zwX9_say_0 7 rfl) (by decide)) ?_
  refine zr_cip (zr_runS (As := [.long (p1.toInt64), .long (33 : Int64), .long (126 : Int64)]) (rest := []) C sw_X9_89 (c_X9_in l g (p1.toInt64) (33 : Int64) (126 : Int64) σ _ h) (by decide) (by decide) rfl rfl (Nat.le_of_ble_eq_true rfl) (zo_184 (p := 8) (k := 89) (a := 0) (b := 89) (zby_w zwX9_say_0 8 rfl) (zby_w zwX9_say_0 9 rfl) (zby_w zwX9_say_0 10 rfl) (by decide))) (fun r1 h => ?_)
  refine zr_if_ne C 17 (zo_154 (p := 11) (k := 6) (a := 0) (b := 6) (zby_w zwX9_say_0 11 rfl) (zby_w zwX9_say_0 12 rfl) (zby_w zwX9_say_0 13 rfl) (by decide)) (by decide) (fun hc3 => ?_) (fun hc3 => ?_)
  · rw [if_neg hc3] at h
    refine zr_aload_n C (zo_42 (p := 17) (zby_w zwX9_say_0 17 rfl)) rfl ?_
    refine zr_geti C fw_X9_130 (sh_69) rfl (zo_180 (p := 18) (k := 130) (a := 0) (b := 130) (zby_w zwX9_say_0 18 rfl) (zby_w zwX9_say_0 19 rfl) (zby_w zwX9_say_0 20 rfl) (by decide)) ?_
    refine zr_bipush C (60 : Int32) (zo_16 (p := 21) (k := 60) (a := 60) (zby_w zwX9_say_0 21 rfl) (zby_w zwX9_say_0 22 rfl) (by decide)) (by decide) ?_
    refine zr_icmp_ne C 29 (zo_160 (p := 23) (k := 6) (a := 0) (b := 6) (zby_w zwX9_say_0 23 rfl) (zby_w zwX9_say_0 24 rfl) (zby_w zwX9_say_0 25 rfl) (by decide)) (by decide) (fun hc4 => ?_) (fun hc4 => ?_)
    · rw [if_neg hc4] at h
      refine zr_aload_n C (zo_42 (p := 29) (zby_w zwX9_say_0 29 rfl)) rfl ?_
      refine zr_getr (u := 80) C fw_X9_40 (sh_69) rfl (zo_180 (p := 30) (k := 40) (a := 0) (b := 40) (zby_w zwX9_say_0 30 rfl) (zby_w zwX9_say_0 31 rfl) (zby_w zwX9_say_0 32 rfl) (by decide)) ?_
      refine zr_aload_n C (zo_42 (p := 33) (zby_w zwX9_say_1 1 rfl)) rfl ?_
      refine zr_geti C fw_X9_130 (sh_69) rfl (zo_180 (p := 34) (k := 130) (a := 0) (b := 130) (zby_w zwX9_say_1 2 rfl) (zby_w zwX9_say_1 3 rfl) (zby_w zwX9_say_1 4 rfl) (by decide)) ?_
      refine zr_iload_n C (zo_27 (p := 37) (zby_w zwX9_say_1 5 rfl)) rfl ?_
      obtain ⟨ho5, h⟩ := h
      refine zr_iast C (sh_80) ho5 (zo_79 (p := 38) (zby_w zwX9_say_1 6 rfl)) ?_
      refine zr_aload_n C (zo_42 (p := 39) (zby_w zwX9_say_1 7 rfl)) rfl ?_
      refine zr_dup C (zo_89 (p := 40) (zby_w zwX9_say_1 8 rfl)) rfl ?_
      refine zr_tops (fun σ6 hσ6 => ?_)
      replace h := h σ6 hσ6
      refine zr_geti C fw_X9_130 (sh_69) rfl (zo_180 (p := 41) (k := 130) (a := 0) (b := 130) (zby_w zwX9_say_1 9 rfl) (zby_w zwX9_say_1 10 rfl) (zby_w zwX9_say_1 11 rfl) (by decide)) ?_
      refine zr_iconst C (1 : Int32) (zo_4 (p := 44) (zby_w zwX9_say_1 12 rfl)) (by decide) ?_
      refine zr_iadd C (zo_96 (p := 45) (zby_w zwX9_say_1 13 rfl)) ?_
      refine zr_puti C fw_X9_130 pw_X9_27 (sh_69) rfl rfl rfl (zo_181 (p := 46) (k := 130) (a := 0) (b := 130) (zby_w zwX9_say_1 14 rfl) (zby_w zwX9_say_1 15 rfl) (zby_w zwX9_say_1 16 rfl) (by decide)) ?_
      refine zr_aload_n C (zo_42 (p := 49) (zby_w zwX9_say_1 17 rfl)) rfl ?_
      refine zr_tops (fun σ7 hσ7 => ?_)
      replace h := h σ7 hσ7
      refine zr_geti C fw_X9_130 (sh_69) rfl (zo_180 (p := 50) (k := 130) (a := 0) (b := 130) (zby_w zwX9_say_1 18 rfl) (zby_w zwX9_say_1 19 rfl) (zby_w zwX9_say_1 20 rfl) (by decide)) ?_
      exact hret _ _ _ _ h (zo_172 (p := 53) (zby_w zwX9_say_1 21 rfl))
    · rw [if_pos hc4] at h
      refine zr_bipush C (-4 : Int32) (zo_16 (p := 26) (k := (-4)) (a := 252) (zby_w zwX9_say_0 26 rfl) (zby_w zwX9_say_0 27 rfl) (by decide)) (by decide) ?_
      exact hret _ _ _ _ h (zo_172 (p := 28) (zby_w zwX9_say_0 28 rfl))
  · rw [if_pos hc3] at h
    refine zr_bipush C (-2 : Int32) (zo_16 (p := 14) (k := (-2)) (a := 254) (zby_w zwX9_say_0 14 rfl) (zby_w zwX9_say_0 15 rfl) (by decide)) (by decide) ?_
    exact hret _ _ _ _ h (zo_172 (p := 16) (zby_w zwX9_say_0 16 rfl))
set_option maxRecDepth 20000 in
theorem c_X9_say (l : Launch) (g : zG) (p1 : Int32) (σ : zST) (Post : Int32 → zST → Prop) (h : wp_X9_say p1 σ Post) : Met l yX9_say (Cond.code yX9_say cX9_say 2 (some .int) :: zGW) (zRm 1 25) (va_Pc [.ref (g.2.1 69), .int p1] (zPP g σ)) (va_Qi Post (zBB g) (zA g)) 0 0 (zA g) :=
  zMet (by decide) (Nat.le_of_ble_eq_true rfl) (fun p e s m below meth c hr C => g_X9_say C (fun v σ pc lv hp hd => zr_iret C hr hp hd) h)
def wp_X9_wipe (σ : zST) (Post : Int32 → zST → Prop) : Prop := ∀ x1 : Int32, x1 = σ.1 69 27 → Post x1 (wI σ 69 27 (0 : Int32))
set_option maxRecDepth 100000 in
set_option maxHeartbeats 4000000 in
theorem g_X9_wipe {p : Program} {l : Launch} {e : Env} {R : Room} {s : State} {m : MethodId} {args : Array Value} {below : List Frame} {meth : Method} {c : Code} {Q : State → Prop} {g : zG} {n1 n2 : Nat} (C : zCX p R s m args meth c g n1 n2 cX9_wipe 2 RX9 0 0) {σ : zST} {Post : Int32 → zST → Prop} (hret : ∀ (v : Int32) (σ : zST) (pc : Nat) (lv : List (Nat × Value)), Post v σ → decode cX9_wipe pc = .ok (.ireturn, 1) → zGG p l e R s m args below meth c Q g n1 n2 2 pc lv [.int v] σ) (h : wp_X9_wipe σ Post) : zGG p l e R s m args below meth c Q g n1 n2 2 0 [(0, .ref (g.2.1 69))] [] σ := by
  unfold wp_X9_wipe at h
  refine zr_aload_n C (zo_42 (p := 0) (zby_w zwX9_wipe_0 0 rfl)) rfl ?_
  refine zr_geti C fw_X9_130 (sh_69) rfl (zo_180 (p := 1) (k := 130) (a := 0) (b := 130) (zby_w zwX9_wipe_0 1 rfl) (zby_w zwX9_wipe_0 2 rfl) (zby_w zwX9_wipe_0 3 rfl) (by decide)) ?_
  refine zr_topi (fun x1 hx1 => ?_)
  replace h := h x1 hx1
  refine zr_istore_n C [(1, .int x1), (0, .ref (g.2.1 69))] (zo_60 (p := 4) (zby_w zwX9_wipe_0 4 rfl)) (by decide) rfl ?_
  refine zr_aload_n C (zo_42 (p := 5) (zby_w zwX9_wipe_0 5 rfl)) rfl ?_
  refine zr_iconst C (0 : Int32) (zo_3 (p := 6) (zby_w zwX9_wipe_0 6 rfl)) (by decide) ?_
  refine zr_puti C fw_X9_130 pw_X9_27 (sh_69) rfl rfl rfl (zo_181 (p := 7) (k := 130) (a := 0) (b := 130) (zby_w zwX9_wipe_0 7 rfl) (zby_w zwX9_wipe_0 8 rfl) (zby_w zwX9_wipe_0 9 rfl) (by decide)) ?_
  refine zr_iload_n C (zo_27 (p := 10) (zby_w zwX9_wipe_0 10 rfl)) rfl ?_
  exact hret _ _ _ _ h (zo_172 (p := 11) (zby_w zwX9_wipe_0 11 rfl))
set_option maxRecDepth 20000 in
theorem c_X9_wipe (l : Launch) (g : zG) (σ : zST) (Post : Int32 → zST → Prop) (h : wp_X9_wipe σ Post) : Met l yX9_wipe (Cond.code yX9_wipe cX9_wipe 2 (some .int) :: zGW) (zRm 0 0) (va_Pc [.ref (g.2.1 69)] (zPP g σ)) (va_Qi Post (zBB g) (zA g)) 0 0 (zA g) :=
  zMet (by decide) (Nat.le_of_ble_eq_true rfl) (fun p e s m below meth c hr C => g_X9_wipe C (fun v σ pc lv hp hd => zr_iret C hr hp hd) h)
def wp_X9_faultOfTide_L2 (σ : zST) (Post : Int32 → Prop) : Nat → Int32 → Prop
  | 0, _ => False
  | N + 1, v1 => (if (σ.1 69 27) ≤ v1 then ∀ z3 : Int32, z3 = (if (σ.1 69 27) = (0) then (0 : Int32) else (-6 : Int32)) → Post z3 else (if v1 = (24 : Int32) then Post v1 else vp_in v1 60 ∧ wp_X9_in ((σ.1 80 v1.toNatClampNeg).toInt64) (48 : Int64) (57 : Int64) σ (fun r8 => (if r8 = (0) then Post v1 else wp_X9_faultOfTide_L2 σ Post N (v1 + 1)))))

set_option maxRecDepth 100000 in
set_option maxHeartbeats 4000000 in
theorem g_X9_faultOfTide_L2 {p : Program} {l : Launch} {e : Env} {R : Room} {s : State} {m : MethodId} {args : Array Value} {below : List Frame} {meth : Method} {c : Code} {Q : State → Prop} {g : zG} {n1 n2 : Nat} (C : zCX p R s m args meth c g n1 n2 cX9_faultOfTide 2 RX9 1 25) {σ : zST}  {Post : Int32 → Prop} (hret : ∀ (v : Int32) (pc : Nat) (lv : List (Nat × Value)), Post v → decode cX9_faultOfTide pc = .ok (.ireturn, 1) → zGG p l e R s m args below meth c Q g n1 n2 2 pc lv [.int v] σ) : ∀ (N : Nat) (v1 : Int32) , wp_X9_faultOfTide_L2 σ Post N v1 → zGG p l e R s m args below meth c Q g n1 n2 2 2 [(0, .ref (g.2.1 69)), (1, .int v1)] [] σ := by
  intro N
  induction N with
  | zero =>
    intro v1 h
    exact h.elim
  | succ N ih =>
    intro v1 h
    rw [wp_X9_faultOfTide_L2] at h
    refine zr_iload_n C (zo_27 (p := 2) (zby_w zwX9_faultOfTide_0 2 rfl)) rfl ?_
    refine zr_aload_n C (zo_42 (p := 3) (zby_w zwX9_faultOfTide_0 3 rfl)) rfl ?_
    refine zr_geti C fw_X9_130 (sh_69) rfl (zo_180 (p := 4) (k := 130) (a := 0) (b := 130) (zby_w zwX9_faultOfTide_0 4 rfl) (zby_w zwX9_faultOfTide_0 5 rfl) (zby_w zwX9_faultOfTide_0 6 rfl) (by decide)) ?_
    refine zr_icmp_ge C 43 (zo_162 (p := 7) (k := 36) (a := 0) (b := 36) (zby_w zwX9_faultOfTide_0 7 rfl) (zby_w zwX9_faultOfTide_0 8 rfl) (zby_w zwX9_faultOfTide_0 9 rfl) (by decide)) (by decide) (fun hc1 => ?_) (fun hc1 => ?_)
    · rw [if_pos hc1] at h
      refine zr_aload_n C (zo_42 (p := 43) (zby_w zwX9_faultOfTide_1 11 rfl)) rfl ?_
      refine zr_geti C fw_X9_130 (sh_69) rfl (zo_180 (p := 44) (k := 130) (a := 0) (b := 130) (zby_w zwX9_faultOfTide_1 12 rfl) (zby_w zwX9_faultOfTide_1 13 rfl) (zby_w zwX9_faultOfTide_1 14 rfl) (by decide)) ?_
      have hJ4 : ∀ z3 : Int32, z3 = (if (σ.1 69 27) = (0) then (0 : Int32) else (-6 : Int32)) → zGG p l e R s m args below meth c Q g n1 n2 2 56 [(0, .ref (g.2.1 69)), (1, .int v1)] [.int z3] σ := by
        intro z3 hz3
        replace h := h z3 hz3
        exact hret _ _ _ h (zo_172 (p := 56) (zby_w zwX9_faultOfTide_1 24 rfl))
      refine zr_if_ne C 54 (zo_154 (p := 47) (k := 7) (a := 0) (b := 7) (zby_w zwX9_faultOfTide_1 15 rfl) (zby_w zwX9_faultOfTide_1 16 rfl) (zby_w zwX9_faultOfTide_1 17 rfl) (by decide)) (by decide) (fun hc2 => ?_) (fun hc2 => ?_)
      · skip
        refine zr_bipush C (-6 : Int32) (zo_16 (p := 54) (k := (-6)) (a := 250) (zby_w zwX9_faultOfTide_1 22 rfl) (zby_w zwX9_faultOfTide_1 23 rfl) (by decide)) (by decide) ?_
        exact hJ4 _ (by rw [if_neg hc2])
      · skip
        refine zr_iconst C (0 : Int32) (zo_3 (p := 50) (zby_w zwX9_faultOfTide_1 18 rfl)) (by decide) ?_
        refine zr_goto C 56 (zo_167 (p := 51) (k := 5) (a := 0) (b := 5) (zby_w zwX9_faultOfTide_1 19 rfl) (zby_w zwX9_faultOfTide_1 20 rfl) (zby_w zwX9_faultOfTide_1 21 rfl) (by decide)) (by decide) ?_
        exact hJ4 _ (by rw [if_pos hc2])
    · rw [if_neg hc1] at h
      refine zr_iload_n C (zo_27 (p := 10) (zby_w zwX9_faultOfTide_0 10 rfl)) rfl ?_
      refine zr_bipush C (24 : Int32) (zo_16 (p := 11) (k := 24) (a := 24) (zby_w zwX9_faultOfTide_0 11 rfl) (zby_w zwX9_faultOfTide_0 12 rfl) (by decide)) (by decide) ?_
      refine zr_icmp_eq C 35 (zo_159 (p := 13) (k := 22) (a := 0) (b := 22) (zby_w zwX9_faultOfTide_0 13 rfl) (zby_w zwX9_faultOfTide_0 14 rfl) (zby_w zwX9_faultOfTide_0 15 rfl) (by decide)) (by decide) (fun hc6 => ?_) (fun hc6 => ?_)
      · rw [if_pos hc6] at h
        refine zr_iload_n C d_X9_faultOfTide_35 rfl ?_
        exact hret _ _ _ h d_X9_faultOfTide_36
      · rw [if_neg hc6] at h
        refine zr_aload_n C (zo_42 (p := 16) (zby_w zwX9_faultOfTide_0 16 rfl)) rfl ?_
        refine zr_getr (u := 80) C fw_X9_40 (sh_69) rfl (zo_180 (p := 17) (k := 40) (a := 0) (b := 40) (zby_w zwX9_faultOfTide_0 17 rfl) (zby_w zwX9_faultOfTide_0 18 rfl) (zby_w zwX9_faultOfTide_0 19 rfl) (by decide)) ?_
        refine zr_iload_n C (zo_27 (p := 20) (zby_w zwX9_faultOfTide_0 20 rfl)) rfl ?_
        obtain ⟨ho7, h⟩ := h
        refine zr_iald C (sh_80) ho7 (zo_46 (p := 21) (zby_w zwX9_faultOfTide_0 21 rfl)) ?_
        refine zr_i2l C (zo_133 (p := 22) (zby_w zwX9_faultOfTide_0 22 rfl)) ?_
        refine zr_ldc2 C (v := (48 : Int64)) cl_X9_133 (zo_20 (p := 23) (k := 133) (a := 0) (b := 133) (zby_w zwX9_faultOfTide_0 23 rfl) (zby_w zwX9_faultOfTide_0 24 rfl) (zby_w zwX9_faultOfTide_0 25 rfl) (by decide)) ?_
        refine zr_ldc2 C (v := (57 : Int64)) cl_X9_135 (zo_20 (p := 26) (k := 135) (a := 0) (b := 135) (zby_w zwX9_faultOfTide_0 26 rfl) (zby_w zwX9_faultOfTide_0 27 rfl) (zby_w zwX9_faultOfTide_0 28 rfl) (by decide)) ?_
        refine zr_cip (zr_runS (As := [.long ((σ.1 80 v1.toNatClampNeg).toInt64), .long (48 : Int64), .long (57 : Int64)]) (rest := []) C sw_X9_89 (c_X9_in l g ((σ.1 80 v1.toNatClampNeg).toInt64) (48 : Int64) (57 : Int64) σ _ h) (by decide) (by decide) rfl rfl (Nat.le_of_ble_eq_true rfl) (zo_184 (p := 29) (k := 89) (a := 0) (b := 89) (zby_w zwX9_faultOfTide_0 29 rfl) (zby_w zwX9_faultOfTide_0 30 rfl) (zby_w zwX9_faultOfTide_0 31 rfl) (by decide))) (fun r8 h => ?_)
        refine zr_if_ne C 37 (zo_154 (p := 32) (k := 5) (a := 0) (b := 5) (zby_w zwX9_faultOfTide_1 0 rfl) (zby_w zwX9_faultOfTide_1 1 rfl) (zby_w zwX9_faultOfTide_1 2 rfl) (by decide)) (by decide) (fun hc10 => ?_) (fun hc10 => ?_)
        · rw [if_neg hc10] at h
          refine zr_iinc C (v1 + 1) [(1, .int (v1 + 1)), (0, .ref (g.2.1 69))] d_X9_faultOfTide_37 rfl rfl (by decide) rfl ?_
          refine zr_goto C 2 (zo_167 (p := 40) (k := (-38)) (a := 255) (b := 218) (zby_w zwX9_faultOfTide_1 8 rfl) (zby_w zwX9_faultOfTide_1 9 rfl) (zby_w zwX9_faultOfTide_1 10 rfl) (by decide)) (by decide) ?_
          exact zr_pick [1, 0] rfl (ih (v1 + 1) h)
        · rw [if_pos hc10] at h
          refine zr_iload_n C d_X9_faultOfTide_35 rfl ?_
          exact hret _ _ _ h d_X9_faultOfTide_36

def wp_X9_faultOfTide (σ : zST) (Post : Int32 → Prop) : Prop := ∃ M11 : Nat, wp_X9_faultOfTide_L2 σ Post M11 (0 : Int32)
set_option maxRecDepth 100000 in
set_option maxHeartbeats 4000000 in
theorem g_X9_faultOfTide {p : Program} {l : Launch} {e : Env} {R : Room} {s : State} {m : MethodId} {args : Array Value} {below : List Frame} {meth : Method} {c : Code} {Q : State → Prop} {g : zG} {n1 n2 : Nat} (C : zCX p R s m args meth c g n1 n2 cX9_faultOfTide 2 RX9 1 25) {σ : zST} {Post : Int32 → Prop} (hret : ∀ (v : Int32) (pc : Nat) (lv : List (Nat × Value)), Post v → decode cX9_faultOfTide pc = .ok (.ireturn, 1) → zGG p l e R s m args below meth c Q g n1 n2 2 pc lv [.int v] σ) (h : wp_X9_faultOfTide σ Post) : zGG p l e R s m args below meth c Q g n1 n2 2 0 [(0, .ref (g.2.1 69))] [] σ := by
  unfold wp_X9_faultOfTide at h
  refine zr_iconst C (0 : Int32) (zo_3 (p := 0) (zby_w zwX9_faultOfTide_0 0 rfl)) (by decide) ?_
  refine zr_istore_n C [(1, .int (0 : Int32)), (0, .ref (g.2.1 69))] (zo_60 (p := 1) (zby_w zwX9_faultOfTide_0 1 rfl)) (by decide) rfl ?_
  obtain ⟨M11, h⟩ := h
  exact zr_pick [1, 0] rfl (g_X9_faultOfTide_L2 C hret M11 (0 : Int32) h)
set_option maxRecDepth 20000 in
theorem c_X9_faultOfTide (l : Launch) (g : zG) (σ : zST) (Post : Int32 → Prop) (h : wp_X9_faultOfTide σ Post) : Met l yX9_faultOfTide (Cond.code yX9_faultOfTide cX9_faultOfTide 2 (some .int) :: zGW) (zRm 1 25) (va_Pc [.ref (g.2.1 69)] (zPP g σ)) (va_Qi (fun r u => Post r ∧ u = σ) (zBB g) (zA g)) 0 0 (zA g) :=
  zMet (by decide) (Nat.le_of_ble_eq_true rfl) (fun p e s m below meth c hr C => g_X9_faultOfTide C (fun v pc lv hp hd => zr_iret C hr ⟨hp, rfl⟩ hd) h)
def wp_X9_faultOfSeason_J74 (v1 : Int32) (v2 : Int32) (v3 : Int32) (s0 : Int32) (σ : zST) (K4 : Int32 → Int32 → Prop) (Post : Int32 → Prop) : Prop := (if s0 = (0) then Post v2 else ∀ z12 : Int32, z12 = (if v1 = (0) then (if v3 = (46 : Int32) then (0 : Int32) else (1 : Int32)) else (0 : Int32)) → K4 z12 (v2 + 1))

set_option maxRecDepth 100000 in
set_option maxHeartbeats 4000000 in
theorem g_X9_faultOfSeason_J74 {p : Program} {l : Launch} {e : Env} {R : Room} {s : State} {m : MethodId} {args : Array Value} {below : List Frame} {meth : Method} {c : Code} {Q : State → Prop} {g : zG} {n1 n2 : Nat} (C : zCX p R s m args meth c g n1 n2 cX9_faultOfSeason 5 RX9 1 25) {v1 : Int32} {v2 : Int32} {v3 : Int32} {s0 : Int32} {σ : zST} {K4 : Int32 → Int32 → Prop} {Post : Int32 → Prop} (hK4 : ∀ (w1 : Int32) (w2 : Int32), K4 w1 w2 → zGG p l e R s m args below meth c Q g n1 n2 5 4 [(0, .ref (g.2.1 69)), (1, .int w1), (2, .int w2)] [] σ) (hret : ∀ (v : Int32) (pc : Nat) (lv : List (Nat × Value)), Post v → decode cX9_faultOfSeason pc = .ok (.ireturn, 1) → zGG p l e R s m args below meth c Q g n1 n2 5 pc lv [.int v] σ) (h : wp_X9_faultOfSeason_J74 v1 v2 v3 s0 σ K4 Post) : zGG p l e R s m args below meth c Q g n1 n2 5 74 [(0, .ref (g.2.1 69)), (1, .int v1), (2, .int v2), (3, .int v3)] [.int s0] σ := by
  unfold wp_X9_faultOfSeason_J74 at h
  refine zr_istore C [(4, .int s0), (0, .ref (g.2.1 69)), (1, .int v1), (2, .int v2), (3, .int v3)] (zo_54 (p := 74) (k := 4) (a := 4) (zby_w zwX9_faultOfSeason_2 10 rfl) (zby_w zwX9_faultOfSeason_2 11 rfl) (by decide)) (by decide) rfl ?_
  refine zr_iload C (zo_21 (p := 76) (k := 4) (a := 4) (zby_w zwX9_faultOfSeason_2 12 rfl) (zby_w zwX9_faultOfSeason_2 13 rfl) (by decide)) rfl ?_
  refine zr_if_ne C 83 (zo_154 (p := 78) (k := 5) (a := 0) (b := 5) (zby_w zwX9_faultOfSeason_2 14 rfl) (zby_w zwX9_faultOfSeason_2 15 rfl) (zby_w zwX9_faultOfSeason_2 16 rfl) (by decide)) (by decide) (fun hc10 => ?_) (fun hc10 => ?_)
  · rw [if_neg hc10] at h
    refine zr_iload_n C (zo_27 (p := 83) (zby_w zwX9_faultOfSeason_2 19 rfl)) rfl ?_
    have hJ13 : ∀ z12 : Int32, z12 = (if v1 = (0) then (if v3 = (46 : Int32) then (0 : Int32) else (1 : Int32)) else (0 : Int32)) → zGG p l e R s m args below meth c Q g n1 n2 5 98 [(4, .int s0), (0, .ref (g.2.1 69)), (1, .int v1), (2, .int v2), (3, .int v3)] [.int z12] σ := by
      intro z12 hz12
      replace h := h z12 hz12
      refine zr_istore_n C [(1, .int z12), (4, .int s0), (0, .ref (g.2.1 69)), (2, .int v2), (3, .int v3)] (zo_60 (p := 98) (zby_w zwX9_faultOfSeason_3 2 rfl)) (by decide) rfl ?_
      refine zr_iinc C (v2 + 1) [(2, .int (v2 + 1)), (1, .int z12), (4, .int s0), (0, .ref (g.2.1 69)), (3, .int v3)] d_X9_faultOfSeason_99 rfl rfl (by decide) rfl ?_
      refine zr_goto C 4 (zo_167 (p := 102) (k := (-98)) (a := 255) (b := 158) (zby_w zwX9_faultOfSeason_3 6 rfl) (zby_w zwX9_faultOfSeason_3 7 rfl) (zby_w zwX9_faultOfSeason_3 8 rfl) (by decide)) (by decide) ?_
      exact zr_pick [3, 1, 0] rfl (hK4 z12 (v2 + 1) h)
    refine zr_if_ne C 97 (zo_154 (p := 84) (k := 13) (a := 0) (b := 13) (zby_w zwX9_faultOfSeason_2 20 rfl) (zby_w zwX9_faultOfSeason_2 21 rfl) (zby_w zwX9_faultOfSeason_2 22 rfl) (by decide)) (by decide) (fun hc11 => ?_) (fun hc11 => ?_)
    · skip
      refine zr_iconst C (0 : Int32) d_X9_faultOfSeason_97 (by decide) ?_
      exact hJ13 _ (by rw [if_neg hc11])
    · skip
      refine zr_iload_n C (zo_29 (p := 87) (zby_w zwX9_faultOfSeason_2 23 rfl)) rfl ?_
      refine zr_bipush C (46 : Int32) (zo_16 (p := 88) (k := 46) (a := 46) (zby_w zwX9_faultOfSeason_2 24 rfl) (zby_w zwX9_faultOfSeason_2 25 rfl) (by decide)) (by decide) ?_
      refine zr_icmp_eq C 97 (zo_159 (p := 90) (k := 7) (a := 0) (b := 7) (zby_w zwX9_faultOfSeason_2 26 rfl) (zby_w zwX9_faultOfSeason_2 27 rfl) (zby_w zwX9_faultOfSeason_2 28 rfl) (by decide)) (by decide) (fun hc15 => ?_) (fun hc15 => ?_)
      · skip
        refine zr_iconst C (0 : Int32) d_X9_faultOfSeason_97 (by decide) ?_
        exact hJ13 _ (by rw [if_pos hc11, if_pos hc15])
      · skip
        refine zr_iconst C (1 : Int32) (zo_4 (p := 93) (zby_w zwX9_faultOfSeason_2 29 rfl)) (by decide) ?_
        refine zr_goto C 98 (zo_167 (p := 94) (k := 4) (a := 0) (b := 4) (zby_w zwX9_faultOfSeason_2 30 rfl) (zby_w zwX9_faultOfSeason_2 31 rfl) (zby_w zwX9_faultOfSeason_2 32 rfl) (by decide)) (by decide) ?_
        exact hJ13 _ (by rw [if_pos hc11, if_neg hc15])
  · rw [if_pos hc10] at h
    refine zr_iload_n C (zo_28 (p := 81) (zby_w zwX9_faultOfSeason_2 17 rfl)) rfl ?_
    exact hret _ _ _ h (zo_172 (p := 82) (zby_w zwX9_faultOfSeason_2 18 rfl))

def wp_X9_faultOfSeason_L4 (σ : zST) (Post : Int32 → Prop) : Nat → Int32 → Int32 → Prop
  | 0, _, _ => False
  | N + 1, v1, v2 => (if (σ.1 69 27) ≤ v2 then ∀ z3 : Int32, z3 = (if v1 = (0) then (-6 : Int32) else (σ.1 69 27)) → Post z3 else vp_in v2 60 ∧ ∀ x7 : Int32, x7 = σ.1 80 v2.toNatClampNeg → (if v1 = (0) then (if x7 = (46 : Int32) then wp_X9_faultOfSeason_J74 v1 v2 x7 (1 : Int32) σ (fun v1 v2 => wp_X9_faultOfSeason_L4 σ Post N v1 v2) Post else wp_X9_in (x7.toInt64) (65 : Int64) (70 : Int64) σ (fun r16 => ∀ z19 : Int32, z19 = (if r16 = (0) then (0 : Int32) else (1 : Int32)) → wp_X9_faultOfSeason_J74 v1 v2 x7 z19 σ (fun v1 v2 => wp_X9_faultOfSeason_L4 σ Post N v1 v2) Post)) else ∀ z29 : Int32, z29 = (if x7 = (84 : Int32) then (1 : Int32) else (if x7 = (87 : Int32) then (1 : Int32) else (if x7 = (67 : Int32) then (1 : Int32) else (0 : Int32)))) → wp_X9_faultOfSeason_J74 v1 v2 x7 z29 σ (fun v1 v2 => wp_X9_faultOfSeason_L4 σ Post N v1 v2) Post))

set_option maxRecDepth 100000 in
set_option maxHeartbeats 4000000 in
theorem g_X9_faultOfSeason_L4 {p : Program} {l : Launch} {e : Env} {R : Room} {s : State} {m : MethodId} {args : Array Value} {below : List Frame} {meth : Method} {c : Code} {Q : State → Prop} {g : zG} {n1 n2 : Nat} (C : zCX p R s m args meth c g n1 n2 cX9_faultOfSeason 5 RX9 1 25) {σ : zST}  {Post : Int32 → Prop} (hret : ∀ (v : Int32) (pc : Nat) (lv : List (Nat × Value)), Post v → decode cX9_faultOfSeason pc = .ok (.ireturn, 1) → zGG p l e R s m args below meth c Q g n1 n2 5 pc lv [.int v] σ) : ∀ (N : Nat) (v1 : Int32) (v2 : Int32) , wp_X9_faultOfSeason_L4 σ Post N v1 v2 → zGG p l e R s m args below meth c Q g n1 n2 5 4 [(0, .ref (g.2.1 69)), (1, .int v1), (2, .int v2)] [] σ := by
  intro N
  induction N with
  | zero =>
    intro v1 v2 h
    exact h.elim
  | succ N ih =>
    intro v1 v2 h
    rw [wp_X9_faultOfSeason_L4] at h
    refine zr_iload_n C (zo_28 (p := 4) (zby_w zwX9_faultOfSeason_0 4 rfl)) rfl ?_
    refine zr_aload_n C (zo_42 (p := 5) (zby_w zwX9_faultOfSeason_0 5 rfl)) rfl ?_
    refine zr_geti C fw_X9_130 (sh_69) rfl (zo_180 (p := 6) (k := 130) (a := 0) (b := 130) (zby_w zwX9_faultOfSeason_0 6 rfl) (zby_w zwX9_faultOfSeason_0 7 rfl) (zby_w zwX9_faultOfSeason_0 8 rfl) (by decide)) ?_
    refine zr_icmp_ge C 105 (zo_162 (p := 9) (k := 96) (a := 0) (b := 96) (zby_w zwX9_faultOfSeason_0 9 rfl) (zby_w zwX9_faultOfSeason_0 10 rfl) (zby_w zwX9_faultOfSeason_0 11 rfl) (by decide)) (by decide) (fun hc1 => ?_) (fun hc1 => ?_)
    · rw [if_pos hc1] at h
      refine zr_iload_n C (zo_27 (p := 105) (zby_w zwX9_faultOfSeason_3 9 rfl)) rfl ?_
      have hJ4 : ∀ z3 : Int32, z3 = (if v1 = (0) then (-6 : Int32) else (σ.1 69 27)) → zGG p l e R s m args below meth c Q g n1 n2 5 118 [(0, .ref (g.2.1 69)), (1, .int v1), (2, .int v2)] [.int z3] σ := by
        intro z3 hz3
        replace h := h z3 hz3
        exact hret _ _ _ h (zo_172 (p := 118) (zby_w zwX9_faultOfSeason_3 22 rfl))
      refine zr_if_eq C 116 (zo_153 (p := 106) (k := 10) (a := 0) (b := 10) (zby_w zwX9_faultOfSeason_3 10 rfl) (zby_w zwX9_faultOfSeason_3 11 rfl) (zby_w zwX9_faultOfSeason_3 12 rfl) (by decide)) (by decide) (fun hc2 => ?_) (fun hc2 => ?_)
      · skip
        refine zr_bipush C (-6 : Int32) (zo_16 (p := 116) (k := (-6)) (a := 250) (zby_w zwX9_faultOfSeason_3 20 rfl) (zby_w zwX9_faultOfSeason_3 21 rfl) (by decide)) (by decide) ?_
        exact hJ4 _ (by rw [if_pos hc2])
      · skip
        refine zr_aload_n C (zo_42 (p := 109) (zby_w zwX9_faultOfSeason_3 13 rfl)) rfl ?_
        refine zr_geti C fw_X9_130 (sh_69) rfl (zo_180 (p := 110) (k := 130) (a := 0) (b := 130) (zby_w zwX9_faultOfSeason_3 14 rfl) (zby_w zwX9_faultOfSeason_3 15 rfl) (zby_w zwX9_faultOfSeason_3 16 rfl) (by decide)) ?_
        refine zr_goto C 118 (zo_167 (p := 113) (k := 5) (a := 0) (b := 5) (zby_w zwX9_faultOfSeason_3 17 rfl) (zby_w zwX9_faultOfSeason_3 18 rfl) (zby_w zwX9_faultOfSeason_3 19 rfl) (by decide)) (by decide) ?_
        exact hJ4 _ (by rw [if_neg hc2])
    · rw [if_neg hc1] at h
      refine zr_aload_n C (zo_42 (p := 12) (zby_w zwX9_faultOfSeason_0 12 rfl)) rfl ?_
      refine zr_getr (u := 80) C fw_X9_40 (sh_69) rfl (zo_180 (p := 13) (k := 40) (a := 0) (b := 40) (zby_w zwX9_faultOfSeason_0 13 rfl) (zby_w zwX9_faultOfSeason_0 14 rfl) (zby_w zwX9_faultOfSeason_0 15 rfl) (by decide)) ?_
      refine zr_iload_n C (zo_28 (p := 16) (zby_w zwX9_faultOfSeason_0 16 rfl)) rfl ?_
      obtain ⟨ho6, h⟩ := h
      refine zr_iald C (sh_80) ho6 (zo_46 (p := 17) (zby_w zwX9_faultOfSeason_0 17 rfl)) ?_
      refine zr_topi (fun x7 hx7 => ?_)
      replace h := h x7 hx7
      refine zr_istore_n C [(3, .int x7), (0, .ref (g.2.1 69)), (1, .int v1), (2, .int v2)] (zo_62 (p := 18) (zby_w zwX9_faultOfSeason_0 18 rfl)) (by decide) rfl ?_
      refine zr_iload_n C (zo_27 (p := 19) (zby_w zwX9_faultOfSeason_0 19 rfl)) rfl ?_
      refine zr_if_eq C 49 (zo_153 (p := 20) (k := 29) (a := 0) (b := 29) (zby_w zwX9_faultOfSeason_0 20 rfl) (zby_w zwX9_faultOfSeason_0 21 rfl) (zby_w zwX9_faultOfSeason_0 22 rfl) (by decide)) (by decide) (fun hc8 => ?_) (fun hc8 => ?_)
      · rw [if_pos hc8] at h
        refine zr_iload_n C (zo_29 (p := 49) (zby_w zwX9_faultOfSeason_1 17 rfl)) rfl ?_
        refine zr_bipush C (46 : Int32) (zo_16 (p := 50) (k := 46) (a := 46) (zby_w zwX9_faultOfSeason_1 18 rfl) (zby_w zwX9_faultOfSeason_1 19 rfl) (by decide)) (by decide) ?_
        refine zr_icmp_eq C 69 (zo_159 (p := 52) (k := 17) (a := 0) (b := 17) (zby_w zwX9_faultOfSeason_1 20 rfl) (zby_w zwX9_faultOfSeason_1 21 rfl) (zby_w zwX9_faultOfSeason_1 22 rfl) (by decide)) (by decide) (fun hc9 => ?_) (fun hc9 => ?_)
        · rw [if_pos hc9] at h
          refine zr_iconst C (1 : Int32) d_X9_faultOfSeason_69 (by decide) ?_
          refine zr_goto C 74 d_X9_faultOfSeason_70 (by decide) ?_
          exact zr_pick [1, 2, 3, 0] rfl (g_X9_faultOfSeason_J74 C ih hret h)
        · rw [if_neg hc9] at h
          refine zr_iload_n C (zo_29 (p := 55) (zby_w zwX9_faultOfSeason_1 23 rfl)) rfl ?_
          refine zr_i2l C (zo_133 (p := 56) (zby_w zwX9_faultOfSeason_1 24 rfl)) ?_
          refine zr_ldc2 C (v := (65 : Int64)) cl_X9_137 (zo_20 (p := 57) (k := 137) (a := 0) (b := 137) (zby_w zwX9_faultOfSeason_1 25 rfl) (zby_w zwX9_faultOfSeason_1 26 rfl) (zby_w zwX9_faultOfSeason_1 27 rfl) (by decide)) ?_
          refine zr_ldc2 C (v := (70 : Int64)) cl_X9_139 (zo_20 (p := 60) (k := 139) (a := 0) (b := 139) (zby_w zwX9_faultOfSeason_1 28 rfl) (zby_w zwX9_faultOfSeason_1 29 rfl) (zby_w zwX9_faultOfSeason_1 30 rfl) (by decide)) ?_
          refine zr_cip (zr_runS (As := [.long (x7.toInt64), .long (65 : Int64), .long (70 : Int64)]) (rest := []) C sw_X9_89 (c_X9_in l g (x7.toInt64) (65 : Int64) (70 : Int64) σ _ h) (by decide) (by decide) rfl rfl (Nat.le_of_ble_eq_true rfl) (zo_184 (p := 63) (k := 89) (a := 0) (b := 89) (zby_w zwX9_faultOfSeason_1 31 rfl) (zby_w zwX9_faultOfSeason_1 32 rfl) (zby_w zwX9_faultOfSeason_1 33 rfl) (by decide))) (fun r16 h => ?_)
          have hJ20 : ∀ z19 : Int32, z19 = (if r16 = (0) then (0 : Int32) else (1 : Int32)) → zGG p l e R s m args below meth c Q g n1 n2 5 74 [(3, .int x7), (0, .ref (g.2.1 69)), (1, .int v1), (2, .int v2)] [.int z19] σ := by
            intro z19 hz19
            replace h := h z19 hz19
            exact zr_pick [1, 2, 3, 0] rfl (g_X9_faultOfSeason_J74 C ih hret h)
          refine zr_if_eq C 73 (zo_153 (p := 66) (k := 7) (a := 0) (b := 7) (zby_w zwX9_faultOfSeason_2 2 rfl) (zby_w zwX9_faultOfSeason_2 3 rfl) (zby_w zwX9_faultOfSeason_2 4 rfl) (by decide)) (by decide) (fun hc18 => ?_) (fun hc18 => ?_)
          · skip
            refine zr_iconst C (0 : Int32) (zo_3 (p := 73) (zby_w zwX9_faultOfSeason_2 9 rfl)) (by decide) ?_
            exact hJ20 _ (by rw [if_pos hc18])
          · skip
            refine zr_iconst C (1 : Int32) d_X9_faultOfSeason_69 (by decide) ?_
            refine zr_goto C 74 d_X9_faultOfSeason_70 (by decide) ?_
            exact hJ20 _ (by rw [if_neg hc18])
      · rw [if_neg hc8] at h
        refine zr_iload_n C (zo_29 (p := 23) (zby_w zwX9_faultOfSeason_0 23 rfl)) rfl ?_
        refine zr_bipush C (84 : Int32) (zo_16 (p := 24) (k := 84) (a := 84) (zby_w zwX9_faultOfSeason_0 24 rfl) (zby_w zwX9_faultOfSeason_0 25 rfl) (by decide)) (by decide) ?_
        have hJ30 : ∀ z29 : Int32, z29 = (if x7 = (84 : Int32) then (1 : Int32) else (if x7 = (87 : Int32) then (1 : Int32) else (if x7 = (67 : Int32) then (1 : Int32) else (0 : Int32)))) → zGG p l e R s m args below meth c Q g n1 n2 5 74 [(3, .int x7), (0, .ref (g.2.1 69)), (1, .int v1), (2, .int v2)] [.int z29] σ := by
          intro z29 hz29
          replace h := h z29 hz29
          exact zr_pick [1, 2, 3, 0] rfl (g_X9_faultOfSeason_J74 C ih hret h)
        refine zr_icmp_eq C 41 (zo_159 (p := 26) (k := 15) (a := 0) (b := 15) (zby_w zwX9_faultOfSeason_0 26 rfl) (zby_w zwX9_faultOfSeason_0 27 rfl) (zby_w zwX9_faultOfSeason_0 28 rfl) (by decide)) (by decide) (fun hc28 => ?_) (fun hc28 => ?_)
        · skip
          refine zr_iconst C (1 : Int32) d_X9_faultOfSeason_41 (by decide) ?_
          refine zr_goto C 74 d_X9_faultOfSeason_42 (by decide) ?_
          exact hJ30 _ (by rw [if_pos hc28])
        · skip
          refine zr_iload_n C (zo_29 (p := 29) (zby_w zwX9_faultOfSeason_0 29 rfl)) rfl ?_
          refine zr_bipush C (87 : Int32) (zo_16 (p := 30) (k := 87) (a := 87) (zby_w zwX9_faultOfSeason_0 30 rfl) (zby_w zwX9_faultOfSeason_0 31 rfl) (by decide)) (by decide) ?_
          refine zr_icmp_eq C 41 (zo_159 (p := 32) (k := 9) (a := 0) (b := 9) (zby_w zwX9_faultOfSeason_1 0 rfl) (zby_w zwX9_faultOfSeason_1 1 rfl) (zby_w zwX9_faultOfSeason_1 2 rfl) (by decide)) (by decide) (fun hc32 => ?_) (fun hc32 => ?_)
          · skip
            refine zr_iconst C (1 : Int32) d_X9_faultOfSeason_41 (by decide) ?_
            refine zr_goto C 74 d_X9_faultOfSeason_42 (by decide) ?_
            exact hJ30 _ (by rw [if_neg hc28, if_pos hc32])
          · skip
            refine zr_iload_n C (zo_29 (p := 35) (zby_w zwX9_faultOfSeason_1 3 rfl)) rfl ?_
            refine zr_bipush C (67 : Int32) (zo_16 (p := 36) (k := 67) (a := 67) (zby_w zwX9_faultOfSeason_1 4 rfl) (zby_w zwX9_faultOfSeason_1 5 rfl) (by decide)) (by decide) ?_
            refine zr_icmp_ne C 45 (zo_160 (p := 38) (k := 7) (a := 0) (b := 7) (zby_w zwX9_faultOfSeason_1 6 rfl) (zby_w zwX9_faultOfSeason_1 7 rfl) (zby_w zwX9_faultOfSeason_1 8 rfl) (by decide)) (by decide) (fun hc33 => ?_) (fun hc33 => ?_)
            · skip
              refine zr_iconst C (0 : Int32) (zo_3 (p := 45) (zby_w zwX9_faultOfSeason_1 13 rfl)) (by decide) ?_
              refine zr_goto C 74 (zo_167 (p := 46) (k := 28) (a := 0) (b := 28) (zby_w zwX9_faultOfSeason_1 14 rfl) (zby_w zwX9_faultOfSeason_1 15 rfl) (zby_w zwX9_faultOfSeason_1 16 rfl) (by decide)) (by decide) ?_
              exact hJ30 _ (by rw [if_neg hc28, if_neg hc32, if_neg hc33])
            · skip
              refine zr_iconst C (1 : Int32) d_X9_faultOfSeason_41 (by decide) ?_
              refine zr_goto C 74 d_X9_faultOfSeason_42 (by decide) ?_
              exact hJ30 _ (by rw [if_neg hc28, if_neg hc32, if_pos hc33])

def wp_X9_faultOfSeason (σ : zST) (Post : Int32 → Prop) : Prop := ∃ M40 : Nat, wp_X9_faultOfSeason_L4 σ Post M40 (0 : Int32) (0 : Int32)
set_option maxRecDepth 100000 in
set_option maxHeartbeats 4000000 in
theorem g_X9_faultOfSeason {p : Program} {l : Launch} {e : Env} {R : Room} {s : State} {m : MethodId} {args : Array Value} {below : List Frame} {meth : Method} {c : Code} {Q : State → Prop} {g : zG} {n1 n2 : Nat} (C : zCX p R s m args meth c g n1 n2 cX9_faultOfSeason 5 RX9 1 25) {σ : zST} {Post : Int32 → Prop} (hret : ∀ (v : Int32) (pc : Nat) (lv : List (Nat × Value)), Post v → decode cX9_faultOfSeason pc = .ok (.ireturn, 1) → zGG p l e R s m args below meth c Q g n1 n2 5 pc lv [.int v] σ) (h : wp_X9_faultOfSeason σ Post) : zGG p l e R s m args below meth c Q g n1 n2 5 0 [(0, .ref (g.2.1 69))] [] σ := by
  unfold wp_X9_faultOfSeason at h
  refine zr_iconst C (0 : Int32) (zo_3 (p := 0) (zby_w zwX9_faultOfSeason_0 0 rfl)) (by decide) ?_
  refine zr_istore_n C [(1, .int (0 : Int32)), (0, .ref (g.2.1 69))] (zo_60 (p := 1) (zby_w zwX9_faultOfSeason_0 1 rfl)) (by decide) rfl ?_
  refine zr_iconst C (0 : Int32) (zo_3 (p := 2) (zby_w zwX9_faultOfSeason_0 2 rfl)) (by decide) ?_
  refine zr_istore_n C [(2, .int (0 : Int32)), (1, .int (0 : Int32)), (0, .ref (g.2.1 69))] (zo_61 (p := 3) (zby_w zwX9_faultOfSeason_0 3 rfl)) (by decide) rfl ?_
  obtain ⟨M40, h⟩ := h
  exact zr_pick [2, 1, 0] rfl (g_X9_faultOfSeason_L4 C hret M40 (0 : Int32) (0 : Int32) h)
set_option maxRecDepth 20000 in
theorem c_X9_faultOfSeason (l : Launch) (g : zG) (σ : zST) (Post : Int32 → Prop) (h : wp_X9_faultOfSeason σ Post) : Met l yX9_faultOfSeason (Cond.code yX9_faultOfSeason cX9_faultOfSeason 5 (some .int) :: zGW) (zRm 1 25) (va_Pc [.ref (g.2.1 69)] (zPP g σ)) (va_Qi (fun r u => Post r ∧ u = σ) (zBB g) (zA g)) 0 0 (zA g) :=
  zMet (by decide) (Nat.le_of_ble_eq_true rfl) (fun p e s m below meth c hr C => g_X9_faultOfSeason C (fun v pc lv hp hd => zr_iret C hr ⟨hp, rfl⟩ hd) h)
def wp_X9_fault (p1 : Int32) (σ : zST) (Post : Int32 → Prop) : Prop := (if p1 = (0) then wp_X9_faultOfTide σ (fun r5 => Post r5) else (if p1 = (1 : Int32) then wp_X9_faultOfSeason σ (fun r3 => Post r3) else Post (-2 : Int32)))
set_option maxRecDepth 100000 in
set_option maxHeartbeats 4000000 in
theorem g_X9_fault {p : Program} {l : Launch} {e : Env} {R : Room} {s : State} {m : MethodId} {args : Array Value} {below : List Frame} {meth : Method} {c : Code} {Q : State → Prop} {g : zG} {n1 n2 : Nat} (C : zCX p R s m args meth c g n1 n2 cX9_fault 2 RX9 2 49) {p1 : Int32} {σ : zST} {Post : Int32 → Prop} (hret : ∀ (v : Int32) (pc : Nat) (lv : List (Nat × Value)), Post v → decode cX9_fault pc = .ok (.ireturn, 1) → zGG p l e R s m args below meth c Q g n1 n2 2 pc lv [.int v] σ) (h : wp_X9_fault p1 σ Post) : zGG p l e R s m args below meth c Q g n1 n2 2 0 [(0, .ref (g.2.1 69)), (1, .int p1)] [] σ := by
  unfold wp_X9_fault at h
  refine zr_iload_n C (zo_27 (p := 0) (zby_w zwX9_fault_0 0 rfl)) rfl ?_
  refine zr_if_ne C 11 (zo_154 (p := 1) (k := 10) (a := 0) (b := 10) (zby_w zwX9_fault_0 1 rfl) (zby_w zwX9_fault_0 2 rfl) (zby_w zwX9_fault_0 3 rfl) (by decide)) (by decide) (fun hc1 => ?_) (fun hc1 => ?_)
  · rw [if_neg hc1] at h
    refine zr_iload_n C (zo_27 (p := 11) (zby_w zwX9_fault_0 11 rfl)) rfl ?_
    refine zr_iconst C (1 : Int32) (zo_4 (p := 12) (zby_w zwX9_fault_0 12 rfl)) (by decide) ?_
    refine zr_icmp_ne C 23 (zo_160 (p := 13) (k := 10) (a := 0) (b := 10) (zby_w zwX9_fault_0 13 rfl) (zby_w zwX9_fault_0 14 rfl) (zby_w zwX9_fault_0 15 rfl) (by decide)) (by decide) (fun hc2 => ?_) (fun hc2 => ?_)
    · rw [if_neg hc2] at h
      refine zr_bipush C (-2 : Int32) (zo_16 (p := 23) (k := (-2)) (a := 254) (zby_w zwX9_fault_0 23 rfl) (zby_w zwX9_fault_0 24 rfl) (by decide)) (by decide) ?_
      exact hret _ _ _ h d_X9_fault_25
    · rw [if_pos hc2] at h
      refine zr_aload_n C (zo_42 (p := 16) (zby_w zwX9_fault_0 16 rfl)) rfl ?_
      refine zr_cip (zr_runV (As := []) (rest := []) C vw_X9_145 (c_X9_faultOfSeason l g σ _ h) (sh_69) rfl (by decide) (by decide) rfl rfl (Nat.le_of_ble_eq_true rfl) (zo_182 (p := 17) (k := 145) (a := 0) (b := 145) (zby_w zwX9_fault_0 17 rfl) (zby_w zwX9_fault_0 18 rfl) (zby_w zwX9_fault_0 19 rfl) (by decide))) (fun r3 h => ?_)
      refine zr_goto C 25 (zo_167 (p := 20) (k := 5) (a := 0) (b := 5) (zby_w zwX9_fault_0 20 rfl) (zby_w zwX9_fault_0 21 rfl) (zby_w zwX9_fault_0 22 rfl) (by decide)) (by decide) ?_
      exact hret _ _ _ h d_X9_fault_25
  · rw [if_pos hc1] at h
    refine zr_aload_n C (zo_42 (p := 4) (zby_w zwX9_fault_0 4 rfl)) rfl ?_
    refine zr_cip (zr_runV (As := []) (rest := []) C vw_X9_141 (c_X9_faultOfTide l g σ _ h) (sh_69) rfl (by decide) (by decide) rfl rfl (Nat.le_of_ble_eq_true rfl) (zo_182 (p := 5) (k := 141) (a := 0) (b := 141) (zby_w zwX9_fault_0 5 rfl) (zby_w zwX9_fault_0 6 rfl) (zby_w zwX9_fault_0 7 rfl) (by decide))) (fun r5 h => ?_)
    refine zr_goto C 25 (zo_167 (p := 8) (k := 17) (a := 0) (b := 17) (zby_w zwX9_fault_0 8 rfl) (zby_w zwX9_fault_0 9 rfl) (zby_w zwX9_fault_0 10 rfl) (by decide)) (by decide) ?_
    exact hret _ _ _ h d_X9_fault_25
set_option maxRecDepth 20000 in
theorem c_X9_fault (l : Launch) (g : zG) (p1 : Int32) (σ : zST) (Post : Int32 → Prop) (h : wp_X9_fault p1 σ Post) : Met l yX9_fault (Cond.code yX9_fault cX9_fault 2 (some .int) :: zGW) (zRm 2 49) (va_Pc [.ref (g.2.1 69), .int p1] (zPP g σ)) (va_Qi (fun r u => Post r ∧ u = σ) (zBB g) (zA g)) 0 0 (zA g) :=
  zMet (by decide) (Nat.le_of_ble_eq_true rfl) (fun p e s m below meth c hr C => g_X9_fault C (fun v pc lv hp hd => zr_iret C hr ⟨hp, rfl⟩ hd) h)
def wp_X9_tide_J41 (σ : zST) (Post : Int32 → zST → Prop) : Prop := ∀ σ5 : zST, σ5 = (wI (wI σ 69 14 (σ.1 69 27)) 69 27 (0 : Int32)) → Post (σ5.1 69 14) σ5

set_option maxRecDepth 100000 in
set_option maxHeartbeats 4000000 in
theorem g_X9_tide_J41 {p : Program} {l : Launch} {e : Env} {R : Room} {s : State} {m : MethodId} {args : Array Value} {below : List Frame} {meth : Method} {c : Code} {Q : State → Prop} {g : zG} {n1 n2 : Nat} (C : zCX p R s m args meth c g n1 n2 cX9_tide 2 RX9 2 46) {σ : zST}  {Post : Int32 → zST → Prop} (hret : ∀ (v : Int32) (σ : zST) (pc : Nat) (lv : List (Nat × Value)), Post v σ → decode cX9_tide pc = .ok (.ireturn, 1) → zGG p l e R s m args below meth c Q g n1 n2 2 pc lv [.int v] σ) (h : wp_X9_tide_J41 σ Post) : zGG p l e R s m args below meth c Q g n1 n2 2 41 [(0, .ref (g.2.1 69))] [] σ := by
  unfold wp_X9_tide_J41 at h
  refine zr_aload_n C (zo_42 (p := 41) (zby_w zwX9_tide_1 9 rfl)) rfl ?_
  refine zr_aload_n C (zo_42 (p := 42) (zby_w zwX9_tide_1 10 rfl)) rfl ?_
  refine zr_geti C fw_X9_130 (sh_69) rfl (zo_180 (p := 43) (k := 130) (a := 0) (b := 130) (zby_w zwX9_tide_1 11 rfl) (zby_w zwX9_tide_1 12 rfl) (zby_w zwX9_tide_1 13 rfl) (by decide)) ?_
  refine zr_puti C fw_X9_84 pw_X9_14 (sh_69) rfl rfl rfl (zo_181 (p := 46) (k := 84) (a := 0) (b := 84) (zby_w zwX9_tide_1 14 rfl) (zby_w zwX9_tide_1 15 rfl) (zby_w zwX9_tide_1 16 rfl) (by decide)) ?_
  refine zr_aload_n C (zo_42 (p := 49) (zby_w zwX9_tide_1 17 rfl)) rfl ?_
  refine zr_iconst C (0 : Int32) (zo_3 (p := 50) (zby_w zwX9_tide_1 18 rfl)) (by decide) ?_
  refine zr_puti C fw_X9_130 pw_X9_27 (sh_69) rfl rfl rfl (zo_181 (p := 51) (k := 130) (a := 0) (b := 130) (zby_w zwX9_tide_1 19 rfl) (zby_w zwX9_tide_1 20 rfl) (zby_w zwX9_tide_1 21 rfl) (by decide)) ?_
  refine zr_aload_n C (zo_42 (p := 54) (zby_w zwX9_tide_1 22 rfl)) rfl ?_
  refine zr_tops (fun σ5 hσ5 => ?_)
  replace h := h σ5 hσ5
  refine zr_geti C fw_X9_84 (sh_69) rfl (zo_180 (p := 55) (k := 84) (a := 0) (b := 84) (zby_w zwX9_tide_1 23 rfl) (zby_w zwX9_tide_1 24 rfl) (zby_w zwX9_tide_1 25 rfl) (by decide)) ?_
  exact hret _ _ _ _ h (zo_172 (p := 58) (zby_w zwX9_tide_1 26 rfl))

def wp_X9_tide_L12 (Post : Int32 → zST → Prop) : Nat → Int32 → zST → Prop
  | 0, _, _ => False
  | N + 1, v1, σ => (if (σ.1 69 27) ≤ v1 then wp_X9_tide_J41 σ Post else vp_in v1 60 ∧ vp_in v1 24 ∧ wp_X9_tide_L12 Post N (v1 + 1) (wI σ 74 v1.toNatClampNeg ((σ.1 80 v1.toNatClampNeg) - (48 : Int32))))

set_option maxRecDepth 100000 in
set_option maxHeartbeats 4000000 in
theorem g_X9_tide_L12 {p : Program} {l : Launch} {e : Env} {R : Room} {s : State} {m : MethodId} {args : Array Value} {below : List Frame} {meth : Method} {c : Code} {Q : State → Prop} {g : zG} {n1 n2 : Nat} (C : zCX p R s m args meth c g n1 n2 cX9_tide 2 RX9 2 46)  {Post : Int32 → zST → Prop} (hret : ∀ (v : Int32) (σ : zST) (pc : Nat) (lv : List (Nat × Value)), Post v σ → decode cX9_tide pc = .ok (.ireturn, 1) → zGG p l e R s m args below meth c Q g n1 n2 2 pc lv [.int v] σ) : ∀ (N : Nat) (v1 : Int32) (σ : zST) , wp_X9_tide_L12 Post N v1 σ → zGG p l e R s m args below meth c Q g n1 n2 2 12 [(0, .ref (g.2.1 69)), (1, .int v1)] [] σ := by
  intro N
  induction N with
  | zero =>
    intro v1 σ h
    exact h.elim
  | succ N ih =>
    intro v1 σ h
    rw [wp_X9_tide_L12] at h
    refine zr_iload_n C (zo_27 (p := 12) (zby_w zwX9_tide_0 12 rfl)) rfl ?_
    refine zr_aload_n C (zo_42 (p := 13) (zby_w zwX9_tide_0 13 rfl)) rfl ?_
    refine zr_geti C fw_X9_130 (sh_69) rfl (zo_180 (p := 14) (k := 130) (a := 0) (b := 130) (zby_w zwX9_tide_0 14 rfl) (zby_w zwX9_tide_0 15 rfl) (zby_w zwX9_tide_0 16 rfl) (by decide)) ?_
    refine zr_icmp_ge C 41 (zo_162 (p := 17) (k := 24) (a := 0) (b := 24) (zby_w zwX9_tide_0 17 rfl) (zby_w zwX9_tide_0 18 rfl) (zby_w zwX9_tide_0 19 rfl) (by decide)) (by decide) (fun hc4 => ?_) (fun hc4 => ?_)
    · rw [if_pos hc4] at h
      exact zr_pick [0] rfl (g_X9_tide_J41 C hret h)
    · rw [if_neg hc4] at h
      refine zr_aload_n C (zo_42 (p := 20) (zby_w zwX9_tide_0 20 rfl)) rfl ?_
      refine zr_getr (u := 74) C fw_X9_22 (sh_69) rfl (zo_180 (p := 21) (k := 22) (a := 0) (b := 22) (zby_w zwX9_tide_0 21 rfl) (zby_w zwX9_tide_0 22 rfl) (zby_w zwX9_tide_0 23 rfl) (by decide)) ?_
      refine zr_iload_n C (zo_27 (p := 24) (zby_w zwX9_tide_0 24 rfl)) rfl ?_
      refine zr_aload_n C (zo_42 (p := 25) (zby_w zwX9_tide_0 25 rfl)) rfl ?_
      refine zr_getr (u := 80) C fw_X9_40 (sh_69) rfl (zo_180 (p := 26) (k := 40) (a := 0) (b := 40) (zby_w zwX9_tide_0 26 rfl) (zby_w zwX9_tide_0 27 rfl) (zby_w zwX9_tide_0 28 rfl) (by decide)) ?_
      refine zr_iload_n C (zo_27 (p := 29) (zby_w zwX9_tide_0 29 rfl)) rfl ?_
      obtain ⟨ho6, h⟩ := h
      refine zr_iald C (sh_80) ho6 (zo_46 (p := 30) (zby_w zwX9_tide_0 30 rfl)) ?_
      refine zr_bipush C (48 : Int32) (zo_16 (p := 31) (k := 48) (a := 48) (zby_w zwX9_tide_0 31 rfl) (zby_w zwX9_tide_0 32 rfl) (by decide)) (by decide) ?_
      refine zr_isub C (zo_100 (p := 33) (zby_w zwX9_tide_1 1 rfl)) ?_
      obtain ⟨ho7, h⟩ := h
      refine zr_iast C (sh_74) ho7 (zo_79 (p := 34) (zby_w zwX9_tide_1 2 rfl)) ?_
      refine zr_iinc C (v1 + 1) [(1, .int (v1 + 1)), (0, .ref (g.2.1 69))] d_X9_tide_35 rfl rfl (by decide) rfl ?_
      refine zr_goto C 12 (zo_167 (p := 38) (k := (-26)) (a := 255) (b := 230) (zby_w zwX9_tide_1 6 rfl) (zby_w zwX9_tide_1 7 rfl) (zby_w zwX9_tide_1 8 rfl) (by decide)) (by decide) ?_
      exact zr_pick [1, 0] rfl (ih (v1 + 1) (wI σ 74 v1.toNatClampNeg ((σ.1 80 v1.toNatClampNeg) - (48 : Int32))) h)

def wp_X9_tide (σ : zST) (Post : Int32 → zST → Prop) : Prop := wp_X9_faultOfTide σ (fun r1 => (if r1 < (0) then ∃ M8 : Nat, wp_X9_tide_L12 Post M8 (0 : Int32) σ else Post (-5 : Int32) σ))
set_option maxRecDepth 100000 in
set_option maxHeartbeats 4000000 in
theorem g_X9_tide {p : Program} {l : Launch} {e : Env} {R : Room} {s : State} {m : MethodId} {args : Array Value} {below : List Frame} {meth : Method} {c : Code} {Q : State → Prop} {g : zG} {n1 n2 : Nat} (C : zCX p R s m args meth c g n1 n2 cX9_tide 2 RX9 2 46) {σ : zST} {Post : Int32 → zST → Prop} (hret : ∀ (v : Int32) (σ : zST) (pc : Nat) (lv : List (Nat × Value)), Post v σ → decode cX9_tide pc = .ok (.ireturn, 1) → zGG p l e R s m args below meth c Q g n1 n2 2 pc lv [.int v] σ) (h : wp_X9_tide σ Post) : zGG p l e R s m args below meth c Q g n1 n2 2 0 [(0, .ref (g.2.1 69))] [] σ := by
  unfold wp_X9_tide at h
  refine zr_aload_n C (zo_42 (p := 0) (zby_w zwX9_tide_0 0 rfl)) rfl ?_
  refine zr_cip (zr_runV (As := []) (rest := []) C vw_X9_141 (c_X9_faultOfTide l g σ _ h) (sh_69) rfl (by decide) (by decide) rfl rfl (Nat.le_of_ble_eq_true rfl) (zo_182 (p := 1) (k := 141) (a := 0) (b := 141) (zby_w zwX9_tide_0 1 rfl) (zby_w zwX9_tide_0 2 rfl) (zby_w zwX9_tide_0 3 rfl) (by decide))) (fun r1 h => ?_)
  refine zr_if_lt C 10 (zo_155 (p := 4) (k := 6) (a := 0) (b := 6) (zby_w zwX9_tide_0 4 rfl) (zby_w zwX9_tide_0 5 rfl) (zby_w zwX9_tide_0 6 rfl) (by decide)) (by decide) (fun hc3 => ?_) (fun hc3 => ?_)
  · rw [if_pos hc3] at h
    refine zr_iconst C (0 : Int32) (zo_3 (p := 10) (zby_w zwX9_tide_0 10 rfl)) (by decide) ?_
    refine zr_istore_n C [(1, .int (0 : Int32)), (0, .ref (g.2.1 69))] (zo_60 (p := 11) (zby_w zwX9_tide_0 11 rfl)) (by decide) rfl ?_
    obtain ⟨M8, h⟩ := h
    exact zr_pick [1, 0] rfl (g_X9_tide_L12 C hret M8 (0 : Int32) σ h)
  · rw [if_neg hc3] at h
    refine zr_bipush C (-5 : Int32) (zo_16 (p := 7) (k := (-5)) (a := 251) (zby_w zwX9_tide_0 7 rfl) (zby_w zwX9_tide_0 8 rfl) (by decide)) (by decide) ?_
    exact hret _ _ _ _ h (zo_172 (p := 9) (zby_w zwX9_tide_0 9 rfl))
set_option maxRecDepth 20000 in
theorem c_X9_tide (l : Launch) (g : zG) (σ : zST) (Post : Int32 → zST → Prop) (h : wp_X9_tide σ Post) : Met l yX9_tide (Cond.code yX9_tide cX9_tide 2 (some .int) :: zGW) (zRm 2 46) (va_Pc [.ref (g.2.1 69)] (zPP g σ)) (va_Qi Post (zBB g) (zA g)) 0 0 (zA g) :=
  zMet (by decide) (Nat.le_of_ble_eq_true rfl) (fun p e s m below meth c hr C => g_X9_tide C (fun v σ pc lv hp hd => zr_iret C hr hp hd) h)
def wp_X9_tenths (p1 : Int32) (σ : zST) (Post : Int32 → Prop) : Prop := ¬ (σ.1 69 14) = 0 ∧ vp_in (p1 - p1 / (σ.1 69 14) * (σ.1 69 14)) 24 ∧ Post (σ.1 74 (p1 - p1 / (σ.1 69 14) * (σ.1 69 14)).toNatClampNeg)
set_option maxRecDepth 100000 in
set_option maxHeartbeats 4000000 in
theorem g_X9_tenths {p : Program} {l : Launch} {e : Env} {R : Room} {s : State} {m : MethodId} {args : Array Value} {below : List Frame} {meth : Method} {c : Code} {Q : State → Prop} {g : zG} {n1 n2 : Nat} (C : zCX p R s m args meth c g n1 n2 cX9_tenths 2 RX9 0 0) {p1 : Int32} {σ : zST} {Post : Int32 → Prop} (hret : ∀ (v : Int32) (pc : Nat) (lv : List (Nat × Value)), Post v → decode cX9_tenths pc = .ok (.ireturn, 1) → zGG p l e R s m args below meth c Q g n1 n2 2 pc lv [.int v] σ) (h : wp_X9_tenths p1 σ Post) : zGG p l e R s m args below meth c Q g n1 n2 2 0 [(0, .ref (g.2.1 69)), (1, .int p1)] [] σ := by
  unfold wp_X9_tenths at h
  refine zr_aload_n C (zo_42 (p := 0) (zby_w zwX9_tenths_0 0 rfl)) rfl ?_
  refine zr_getr (u := 74) C fw_X9_22 (sh_69) rfl (zo_180 (p := 1) (k := 22) (a := 0) (b := 22) (zby_w zwX9_tenths_0 1 rfl) (zby_w zwX9_tenths_0 2 rfl) (zby_w zwX9_tenths_0 3 rfl) (by decide)) ?_
  refine zr_iload_n C (zo_27 (p := 4) (zby_w zwX9_tenths_0 4 rfl)) rfl ?_
  refine zr_aload_n C (zo_42 (p := 5) (zby_w zwX9_tenths_0 5 rfl)) rfl ?_
  refine zr_geti C fw_X9_84 (sh_69) rfl (zo_180 (p := 6) (k := 84) (a := 0) (b := 84) (zby_w zwX9_tenths_0 6 rfl) (zby_w zwX9_tenths_0 7 rfl) (zby_w zwX9_tenths_0 8 rfl) (by decide)) ?_
  obtain ⟨ho1, h⟩ := h
  refine zr_irem C (zo_112 (p := 9) (zby_w zwX9_tenths_0 9 rfl)) ho1 ?_
  obtain ⟨ho2, h⟩ := h
  refine zr_iald C (sh_74) ho2 (zo_46 (p := 10) (zby_w zwX9_tenths_0 10 rfl)) ?_
  exact hret _ _ _ h (zo_172 (p := 11) (zby_w zwX9_tenths_0 11 rfl))
set_option maxRecDepth 20000 in
theorem c_X9_tenths (l : Launch) (g : zG) (p1 : Int32) (σ : zST) (Post : Int32 → Prop) (h : wp_X9_tenths p1 σ Post) : Met l yX9_tenths (Cond.code yX9_tenths cX9_tenths 2 (some .int) :: zGW) (zRm 0 0) (va_Pc [.ref (g.2.1 69), .int p1] (zPP g σ)) (va_Qi (fun r u => Post r ∧ u = σ) (zBB g) (zA g)) 0 0 (zA g) :=
  zMet (by decide) (Nat.le_of_ble_eq_true rfl) (fun p e s m below meth c hr C => g_X9_tenths C (fun v pc lv hp hd => zr_iret C hr ⟨hp, rfl⟩ hd) h)
def wp_X9_lostByTeeth (p1 : Int32) (σ : zST) (Post : Int32 → Prop) : Prop := vp_in p1 6 ∧ (if (σ.1 69 5) ≤ (σ.1 71 p1.toNatClampNeg) then True else vp_in p1 6 ∧ True) ∧ ∀ z3 : Int32, z3 = (if (σ.1 69 5) ≤ (σ.1 71 p1.toNatClampNeg) then (0 : Int32) else ((σ.1 69 5) - (σ.1 71 p1.toNatClampNeg))) → vp_in p1 6 ∧ (if (σ.1 70 p1.toNatClampNeg) ≤ z3 then vp_in p1 6 ∧ True else True) ∧ ∀ z9 : Int32, z9 = (if (σ.1 70 p1.toNatClampNeg) ≤ z3 then (σ.1 70 p1.toNatClampNeg) else z3) → Post z9
set_option maxRecDepth 100000 in
set_option maxHeartbeats 4000000 in
theorem g_X9_lostByTeeth {p : Program} {l : Launch} {e : Env} {R : Room} {s : State} {m : MethodId} {args : Array Value} {below : List Frame} {meth : Method} {c : Code} {Q : State → Prop} {g : zG} {n1 n2 : Nat} (C : zCX p R s m args meth c g n1 n2 cX9_lostByTeeth 3 RX9 0 0) {p1 : Int32} {σ : zST} {Post : Int32 → Prop} (hret : ∀ (v : Int32) (pc : Nat) (lv : List (Nat × Value)), Post v → decode cX9_lostByTeeth pc = .ok (.ireturn, 1) → zGG p l e R s m args below meth c Q g n1 n2 3 pc lv [.int v] σ) (h : wp_X9_lostByTeeth p1 σ Post) : zGG p l e R s m args below meth c Q g n1 n2 3 0 [(0, .ref (g.2.1 69)), (1, .int p1)] [] σ := by
  unfold wp_X9_lostByTeeth at h
  refine zr_aload_n C (zo_42 (p := 0) (zby_w zwX9_lostByTeeth_0 0 rfl)) rfl ?_
  refine zr_geti C fw_X9_62 (sh_69) rfl (zo_180 (p := 1) (k := 62) (a := 0) (b := 62) (zby_w zwX9_lostByTeeth_0 1 rfl) (zby_w zwX9_lostByTeeth_0 2 rfl) (zby_w zwX9_lostByTeeth_0 3 rfl) (by decide)) ?_
  refine zr_aload_n C (zo_42 (p := 4) (zby_w zwX9_lostByTeeth_0 4 rfl)) rfl ?_
  refine zr_getr (u := 71) C fw_X9_13 (sh_69) rfl (zo_180 (p := 5) (k := 13) (a := 0) (b := 13) (zby_w zwX9_lostByTeeth_0 5 rfl) (zby_w zwX9_lostByTeeth_0 6 rfl) (zby_w zwX9_lostByTeeth_0 7 rfl) (by decide)) ?_
  refine zr_iload_n C (zo_27 (p := 8) (zby_w zwX9_lostByTeeth_0 8 rfl)) rfl ?_
  obtain ⟨ho1, h⟩ := h
  refine zr_iald C (sh_71) ho1 (zo_46 (p := 9) (zby_w zwX9_lostByTeeth_0 9 rfl)) ?_
  obtain ⟨ho5, h⟩ := h
  have hJ4 : ∀ z3 : Int32, z3 = (if (σ.1 69 5) ≤ (σ.1 71 p1.toNatClampNeg) then (0 : Int32) else ((σ.1 69 5) - (σ.1 71 p1.toNatClampNeg))) → zGG p l e R s m args below meth c Q g n1 n2 3 28 [(0, .ref (g.2.1 69)), (1, .int p1)] [.int z3] σ := by
    intro z3 hz3
    replace h := h z3 hz3
    refine zr_istore_n C [(2, .int z3), (0, .ref (g.2.1 69)), (1, .int p1)] (zo_61 (p := 28) (zby_w zwX9_lostByTeeth_0 28 rfl)) (by decide) rfl ?_
    refine zr_iload_n C (zo_28 (p := 29) (zby_w zwX9_lostByTeeth_0 29 rfl)) rfl ?_
    refine zr_aload_n C (zo_42 (p := 30) (zby_w zwX9_lostByTeeth_0 30 rfl)) rfl ?_
    refine zr_getr (u := 70) C fw_X9_7 (sh_69) rfl (zo_180 (p := 31) (k := 7) (a := 0) (b := 7) (zby_w zwX9_lostByTeeth_0 31 rfl) (zby_w zwX9_lostByTeeth_0 32 rfl) (zby_w zwX9_lostByTeeth_0 33 rfl) (by decide)) ?_
    refine zr_iload_n C (zo_27 (p := 34) (zby_w zwX9_lostByTeeth_1 2 rfl)) rfl ?_
    obtain ⟨ho7, h⟩ := h
    refine zr_iald C (sh_70) ho7 (zo_46 (p := 35) (zby_w zwX9_lostByTeeth_1 3 rfl)) ?_
    obtain ⟨ho11, h⟩ := h
    have hJ10 : ∀ z9 : Int32, z9 = (if (σ.1 70 p1.toNatClampNeg) ≤ z3 then (σ.1 70 p1.toNatClampNeg) else z3) → zGG p l e R s m args below meth c Q g n1 n2 3 49 [(2, .int z3), (0, .ref (g.2.1 69)), (1, .int p1)] [.int z9] σ := by
      intro z9 hz9
      replace h := h z9 hz9
      exact hret _ _ _ h (zo_172 (p := 49) (zby_w zwX9_lostByTeeth_1 17 rfl))
    refine zr_icmp_ge C 43 (zo_162 (p := 36) (k := 7) (a := 0) (b := 7) (zby_w zwX9_lostByTeeth_1 4 rfl) (zby_w zwX9_lostByTeeth_1 5 rfl) (zby_w zwX9_lostByTeeth_1 6 rfl) (by decide)) (by decide) (fun hc8 => ?_) (fun hc8 => ?_)
    · skip
      rw [if_pos hc8] at ho11
      refine zr_aload_n C (zo_42 (p := 43) (zby_w zwX9_lostByTeeth_1 11 rfl)) rfl ?_
      refine zr_getr (u := 70) C fw_X9_7 (sh_69) rfl (zo_180 (p := 44) (k := 7) (a := 0) (b := 7) (zby_w zwX9_lostByTeeth_1 12 rfl) (zby_w zwX9_lostByTeeth_1 13 rfl) (zby_w zwX9_lostByTeeth_1 14 rfl) (by decide)) ?_
      refine zr_iload_n C (zo_27 (p := 47) (zby_w zwX9_lostByTeeth_1 15 rfl)) rfl ?_
      obtain ⟨ho12, ho11⟩ := ho11
      refine zr_iald C (sh_70) ho12 (zo_46 (p := 48) (zby_w zwX9_lostByTeeth_1 16 rfl)) ?_
      exact hJ10 _ (by rw [if_pos hc8])
    · skip
      rw [if_neg hc8] at ho11
      refine zr_iload_n C (zo_28 (p := 39) (zby_w zwX9_lostByTeeth_1 7 rfl)) rfl ?_
      refine zr_goto C 49 (zo_167 (p := 40) (k := 9) (a := 0) (b := 9) (zby_w zwX9_lostByTeeth_1 8 rfl) (zby_w zwX9_lostByTeeth_1 9 rfl) (zby_w zwX9_lostByTeeth_1 10 rfl) (by decide)) (by decide) ?_
      exact hJ10 _ (by rw [if_neg hc8])
  refine zr_icmp_le C 27 (zo_164 (p := 10) (k := 17) (a := 0) (b := 17) (zby_w zwX9_lostByTeeth_0 10 rfl) (zby_w zwX9_lostByTeeth_0 11 rfl) (zby_w zwX9_lostByTeeth_0 12 rfl) (by decide)) (by decide) (fun hc2 => ?_) (fun hc2 => ?_)
  · skip
    rw [if_pos hc2] at ho5
    refine zr_iconst C (0 : Int32) (zo_3 (p := 27) (zby_w zwX9_lostByTeeth_0 27 rfl)) (by decide) ?_
    exact hJ4 _ (by rw [if_pos hc2])
  · skip
    rw [if_neg hc2] at ho5
    refine zr_aload_n C (zo_42 (p := 13) (zby_w zwX9_lostByTeeth_0 13 rfl)) rfl ?_
    refine zr_geti C fw_X9_62 (sh_69) rfl (zo_180 (p := 14) (k := 62) (a := 0) (b := 62) (zby_w zwX9_lostByTeeth_0 14 rfl) (zby_w zwX9_lostByTeeth_0 15 rfl) (zby_w zwX9_lostByTeeth_0 16 rfl) (by decide)) ?_
    refine zr_aload_n C (zo_42 (p := 17) (zby_w zwX9_lostByTeeth_0 17 rfl)) rfl ?_
    refine zr_getr (u := 71) C fw_X9_13 (sh_69) rfl (zo_180 (p := 18) (k := 13) (a := 0) (b := 13) (zby_w zwX9_lostByTeeth_0 18 rfl) (zby_w zwX9_lostByTeeth_0 19 rfl) (zby_w zwX9_lostByTeeth_0 20 rfl) (by decide)) ?_
    refine zr_iload_n C (zo_27 (p := 21) (zby_w zwX9_lostByTeeth_0 21 rfl)) rfl ?_
    obtain ⟨ho6, ho5⟩ := ho5
    refine zr_iald C (sh_71) ho6 (zo_46 (p := 22) (zby_w zwX9_lostByTeeth_0 22 rfl)) ?_
    refine zr_isub C (zo_100 (p := 23) (zby_w zwX9_lostByTeeth_0 23 rfl)) ?_
    refine zr_goto C 28 (zo_167 (p := 24) (k := 4) (a := 0) (b := 4) (zby_w zwX9_lostByTeeth_0 24 rfl) (zby_w zwX9_lostByTeeth_0 25 rfl) (zby_w zwX9_lostByTeeth_0 26 rfl) (by decide)) (by decide) ?_
    exact hJ4 _ (by rw [if_neg hc2])
set_option maxRecDepth 20000 in
theorem c_X9_lostByTeeth (l : Launch) (g : zG) (p1 : Int32) (σ : zST) (Post : Int32 → Prop) (h : wp_X9_lostByTeeth p1 σ Post) : Met l yX9_lostByTeeth (Cond.code yX9_lostByTeeth cX9_lostByTeeth 3 (some .int) :: zGW) (zRm 0 0) (va_Pc [.ref (g.2.1 69), .int p1] (zPP g σ)) (va_Qi (fun r u => Post r ∧ u = σ) (zBB g) (zA g)) 0 0 (zA g) :=
  zMet (by decide) (Nat.le_of_ble_eq_true rfl) (fun p e s m below meth c hr C => g_X9_lostByTeeth C (fun v pc lv hp hd => zr_iret C hr ⟨hp, rfl⟩ hd) h)
def wp_X9_goTeeth (p1 : Int32) (σ : zST) (Post : zST → Prop) : Prop := wp_X9_lostByTeeth p1 σ (fun r1 => vp_in p1 6 ∧ (if (σ.1 71 p1.toNatClampNeg) ≤ (σ.1 69 5) then True else vp_in p1 6 ∧ True) ∧ ∀ z5 : Int32, z5 = (if (σ.1 71 p1.toNatClampNeg) ≤ (σ.1 69 5) then (0 : Int32) else ((σ.1 71 p1.toNatClampNeg) - (σ.1 69 5))) → vp_in p1 6 ∧ vp_in p1 6 ∧ ∀ σ11 : zST, σ11 = (wI σ 71 p1.toNatClampNeg z5) → vp_in p1 6 ∧ ∀ σ13 : zST, σ13 = (wI σ11 70 p1.toNatClampNeg ((σ11.1 70 p1.toNatClampNeg) - r1)) → vp_in p1 6 ∧ ∀ σ15 : zST, σ15 = (wI σ13 69 15 ((σ13.1 69 15) + r1)) → ∀ z17 : Int32, z17 = (if (σ15.1 70 p1.toNatClampNeg) = (0) then (2 : Int32) else (1 : Int32)) → vp_in p1 6 ∧ ∀ σ21 : zST, σ21 = (wI σ15 73 p1.toNatClampNeg z17) → vp_in p1 6 ∧ (if (σ21.1 70 p1.toNatClampNeg) = (0) then vp_in p1 6 ∧ True else True) ∧ ∀ z24 : Int32, z24 = (if (σ21.1 70 p1.toNatClampNeg) = (0) then (σ21.1 72 p1.toNatClampNeg) else (0 : Int32)) → vp_in p1 6 ∧ ∀ σ29 : zST, σ29 = (wI σ21 69 16 ((σ21.1 69 16) + z24)) → (if (σ29.1 70 p1.toNatClampNeg) = (0) then True else vp_in p1 6 ∧ True) ∧ ∀ z31 : Int32, z31 = (if (σ29.1 70 p1.toNatClampNeg) = (0) then (0 : Int32) else (σ29.1 72 p1.toNatClampNeg)) → vp_in p1 6 ∧ Post (wI σ29 72 p1.toNatClampNeg z31))
set_option maxRecDepth 100000 in
set_option maxHeartbeats 4000000 in
theorem g_X9_goTeeth {p : Program} {l : Launch} {e : Env} {R : Room} {s : State} {m : MethodId} {args : Array Value} {below : List Frame} {meth : Method} {c : Code} {Q : State → Prop} {g : zG} {n1 n2 : Nat} (C : zCX p R s m args meth c g n1 n2 cX9_goTeeth 3 RX9 1 22) {p1 : Int32} {σ : zST} {Post : zST → Prop} (hret : ∀ (σ : zST) (pc : Nat) (lv : List (Nat × Value)), Post σ → decode cX9_goTeeth pc = .ok (.return_, 1) → zGG p l e R s m args below meth c Q g n1 n2 3 pc lv [] σ) (h : wp_X9_goTeeth p1 σ Post) : zGG p l e R s m args below meth c Q g n1 n2 3 0 [(0, .ref (g.2.1 69)), (1, .int p1)] [] σ := by
  unfold wp_X9_goTeeth at h
  refine zr_aload_n C (zo_42 (p := 0) (zby_w zwX9_goTeeth_0 0 rfl)) rfl ?_
  refine zr_iload_n C (zo_27 (p := 1) (zby_w zwX9_goTeeth_0 1 rfl)) rfl ?_
  refine zr_cip (zr_runV (As := [.int p1]) (rest := []) C vw_X9_148 (c_X9_lostByTeeth l g p1 σ _ h) (sh_69) rfl (by decide) (by decide) rfl rfl (Nat.le_of_ble_eq_true rfl) (zo_182 (p := 2) (k := 148) (a := 0) (b := 148) (zby_w zwX9_goTeeth_0 2 rfl) (zby_w zwX9_goTeeth_0 3 rfl) (zby_w zwX9_goTeeth_0 4 rfl) (by decide))) (fun r1 h => ?_)
  refine zr_istore_n C [(2, .int r1), (0, .ref (g.2.1 69)), (1, .int p1)] (zo_61 (p := 5) (zby_w zwX9_goTeeth_0 5 rfl)) (by decide) rfl ?_
  refine zr_aload_n C (zo_42 (p := 6) (zby_w zwX9_goTeeth_0 6 rfl)) rfl ?_
  refine zr_getr (u := 71) C fw_X9_13 (sh_69) rfl (zo_180 (p := 7) (k := 13) (a := 0) (b := 13) (zby_w zwX9_goTeeth_0 7 rfl) (zby_w zwX9_goTeeth_0 8 rfl) (zby_w zwX9_goTeeth_0 9 rfl) (by decide)) ?_
  refine zr_iload_n C (zo_27 (p := 10) (zby_w zwX9_goTeeth_0 10 rfl)) rfl ?_
  refine zr_aload_n C (zo_42 (p := 11) (zby_w zwX9_goTeeth_0 11 rfl)) rfl ?_
  refine zr_getr (u := 71) C fw_X9_13 (sh_69) rfl (zo_180 (p := 12) (k := 13) (a := 0) (b := 13) (zby_w zwX9_goTeeth_0 12 rfl) (zby_w zwX9_goTeeth_0 13 rfl) (zby_w zwX9_goTeeth_0 14 rfl) (by decide)) ?_
  refine zr_iload_n C (zo_27 (p := 15) (zby_w zwX9_goTeeth_0 15 rfl)) rfl ?_
  obtain ⟨ho3, h⟩ := h
  refine zr_iald C (sh_71) ho3 (zo_46 (p := 16) (zby_w zwX9_goTeeth_0 16 rfl)) ?_
  refine zr_aload_n C (zo_42 (p := 17) (zby_w zwX9_goTeeth_0 17 rfl)) rfl ?_
  refine zr_geti C fw_X9_62 (sh_69) rfl (zo_180 (p := 18) (k := 62) (a := 0) (b := 62) (zby_w zwX9_goTeeth_0 18 rfl) (zby_w zwX9_goTeeth_0 19 rfl) (zby_w zwX9_goTeeth_0 20 rfl) (by decide)) ?_
  obtain ⟨ho7, h⟩ := h
  have hJ6 : ∀ z5 : Int32, z5 = (if (σ.1 71 p1.toNatClampNeg) ≤ (σ.1 69 5) then (0 : Int32) else ((σ.1 71 p1.toNatClampNeg) - (σ.1 69 5))) → zGG p l e R s m args below meth c Q g n1 n2 3 39 [(2, .int r1), (0, .ref (g.2.1 69)), (1, .int p1)] [.int z5, .int p1, .ref (g.2.1 71)] σ := by
    intro z5 hz5
    replace h := h z5 hz5
    obtain ⟨ho9, h⟩ := h
    refine zr_iast C (sh_71) ho9 (zo_79 (p := 39) (zby_w zwX9_goTeeth_1 7 rfl)) ?_
    refine zr_aload_n C (zo_42 (p := 40) (zby_w zwX9_goTeeth_1 8 rfl)) rfl ?_
    refine zr_getr (u := 70) C fw_X9_7 (sh_69) rfl (zo_180 (p := 41) (k := 7) (a := 0) (b := 7) (zby_w zwX9_goTeeth_1 9 rfl) (zby_w zwX9_goTeeth_1 10 rfl) (zby_w zwX9_goTeeth_1 11 rfl) (by decide)) ?_
    refine zr_iload_n C (zo_27 (p := 44) (zby_w zwX9_goTeeth_1 12 rfl)) rfl ?_
    refine zr_dup2 C (zo_92 (p := 45) (zby_w zwX9_goTeeth_1 13 rfl)) rfl rfl ?_
    obtain ⟨ho10, h⟩ := h
    refine zr_tops (fun σ11 hσ11 => ?_)
    replace h := h σ11 hσ11
    refine zr_iald C (sh_70) ho10 (zo_46 (p := 46) (zby_w zwX9_goTeeth_1 14 rfl)) ?_
    refine zr_iload_n C (zo_28 (p := 47) (zby_w zwX9_goTeeth_1 15 rfl)) rfl ?_
    refine zr_isub C (zo_100 (p := 48) (zby_w zwX9_goTeeth_1 16 rfl)) ?_
    obtain ⟨ho12, h⟩ := h
    refine zr_iast C (sh_70) ho12 (zo_79 (p := 49) (zby_w zwX9_goTeeth_1 17 rfl)) ?_
    refine zr_aload_n C (zo_42 (p := 50) (zby_w zwX9_goTeeth_1 18 rfl)) rfl ?_
    refine zr_dup C (zo_89 (p := 51) (zby_w zwX9_goTeeth_1 19 rfl)) rfl ?_
    refine zr_tops (fun σ13 hσ13 => ?_)
    replace h := h σ13 hσ13
    refine zr_geti C fw_X9_151 (sh_69) rfl (zo_180 (p := 52) (k := 151) (a := 0) (b := 151) (zby_w zwX9_goTeeth_1 20 rfl) (zby_w zwX9_goTeeth_1 21 rfl) (zby_w zwX9_goTeeth_1 22 rfl) (by decide)) ?_
    refine zr_iload_n C (zo_28 (p := 55) (zby_w zwX9_goTeeth_1 23 rfl)) rfl ?_
    refine zr_iadd C (zo_96 (p := 56) (zby_w zwX9_goTeeth_1 24 rfl)) ?_
    refine zr_puti C fw_X9_151 pw_X9_15 (sh_69) rfl rfl rfl (zo_181 (p := 57) (k := 151) (a := 0) (b := 151) (zby_w zwX9_goTeeth_1 25 rfl) (zby_w zwX9_goTeeth_1 26 rfl) (zby_w zwX9_goTeeth_1 27 rfl) (by decide)) ?_
    refine zr_aload_n C (zo_42 (p := 60) (zby_w zwX9_goTeeth_1 28 rfl)) rfl ?_
    refine zr_getr (u := 73) C fw_X9_19 (sh_69) rfl (zo_180 (p := 61) (k := 19) (a := 0) (b := 19) (zby_w zwX9_goTeeth_1 29 rfl) (zby_w zwX9_goTeeth_1 30 rfl) (zby_w zwX9_goTeeth_1 31 rfl) (by decide)) ?_
    refine zr_iload_n C (zo_27 (p := 64) (zby_w zwX9_goTeeth_2 0 rfl)) rfl ?_
    refine zr_aload_n C (zo_42 (p := 65) (zby_w zwX9_goTeeth_2 1 rfl)) rfl ?_
    refine zr_getr (u := 70) C fw_X9_7 (sh_69) rfl (zo_180 (p := 66) (k := 7) (a := 0) (b := 7) (zby_w zwX9_goTeeth_2 2 rfl) (zby_w zwX9_goTeeth_2 3 rfl) (zby_w zwX9_goTeeth_2 4 rfl) (by decide)) ?_
    refine zr_iload_n C (zo_27 (p := 69) (zby_w zwX9_goTeeth_2 5 rfl)) rfl ?_
    obtain ⟨ho14, h⟩ := h
    refine zr_tops (fun σ15 hσ15 => ?_)
    replace h := h σ15 hσ15
    refine zr_iald C (sh_70) ho14 (zo_46 (p := 70) (zby_w zwX9_goTeeth_2 6 rfl)) ?_
    have hJ18 : ∀ z17 : Int32, z17 = (if (σ15.1 70 p1.toNatClampNeg) = (0) then (2 : Int32) else (1 : Int32)) → zGG p l e R s m args below meth c Q g n1 n2 3 79 [(2, .int r1), (0, .ref (g.2.1 69)), (1, .int p1)] [.int z17, .int p1, .ref (g.2.1 73)] σ15 := by
      intro z17 hz17
      replace h := h z17 hz17
      obtain ⟨ho20, h⟩ := h
      refine zr_iast C (sh_73) ho20 (zo_79 (p := 79) (zby_w zwX9_goTeeth_2 15 rfl)) ?_
      refine zr_aload_n C (zo_42 (p := 80) (zby_w zwX9_goTeeth_2 16 rfl)) rfl ?_
      refine zr_dup C (zo_89 (p := 81) (zby_w zwX9_goTeeth_2 17 rfl)) rfl ?_
      refine zr_tops (fun σ21 hσ21 => ?_)
      replace h := h σ21 hσ21
      refine zr_geti C fw_X9_154 (sh_69) rfl (zo_180 (p := 82) (k := 154) (a := 0) (b := 154) (zby_w zwX9_goTeeth_2 18 rfl) (zby_w zwX9_goTeeth_2 19 rfl) (zby_w zwX9_goTeeth_2 20 rfl) (by decide)) ?_
      refine zr_aload_n C (zo_42 (p := 85) (zby_w zwX9_goTeeth_2 21 rfl)) rfl ?_
      refine zr_getr (u := 70) C fw_X9_7 (sh_69) rfl (zo_180 (p := 86) (k := 7) (a := 0) (b := 7) (zby_w zwX9_goTeeth_2 22 rfl) (zby_w zwX9_goTeeth_2 23 rfl) (zby_w zwX9_goTeeth_2 24 rfl) (by decide)) ?_
      refine zr_iload_n C (zo_27 (p := 89) (zby_w zwX9_goTeeth_2 25 rfl)) rfl ?_
      obtain ⟨ho22, h⟩ := h
      refine zr_iald C (sh_70) ho22 (zo_46 (p := 90) (zby_w zwX9_goTeeth_2 26 rfl)) ?_
      obtain ⟨ho26, h⟩ := h
      have hJ25 : ∀ z24 : Int32, z24 = (if (σ21.1 70 p1.toNatClampNeg) = (0) then (σ21.1 72 p1.toNatClampNeg) else (0 : Int32)) → zGG p l e R s m args below meth c Q g n1 n2 3 104 [(2, .int r1), (0, .ref (g.2.1 69)), (1, .int p1)] [.int z24, .int (σ21.1 69 16), .ref (g.2.1 69)] σ21 := by
        intro z24 hz24
        replace h := h z24 hz24
        refine zr_iadd C (zo_96 (p := 104) (zby_w zwX9_goTeeth_3 8 rfl)) ?_
        refine zr_puti C fw_X9_154 pw_X9_16 (sh_69) rfl rfl rfl (zo_181 (p := 105) (k := 154) (a := 0) (b := 154) (zby_w zwX9_goTeeth_3 9 rfl) (zby_w zwX9_goTeeth_3 10 rfl) (zby_w zwX9_goTeeth_3 11 rfl) (by decide)) ?_
        refine zr_aload_n C (zo_42 (p := 108) (zby_w zwX9_goTeeth_3 12 rfl)) rfl ?_
        refine zr_getr (u := 72) C fw_X9_16 (sh_69) rfl (zo_180 (p := 109) (k := 16) (a := 0) (b := 16) (zby_w zwX9_goTeeth_3 13 rfl) (zby_w zwX9_goTeeth_3 14 rfl) (zby_w zwX9_goTeeth_3 15 rfl) (by decide)) ?_
        refine zr_iload_n C (zo_27 (p := 112) (zby_w zwX9_goTeeth_3 16 rfl)) rfl ?_
        refine zr_aload_n C (zo_42 (p := 113) (zby_w zwX9_goTeeth_3 17 rfl)) rfl ?_
        refine zr_getr (u := 70) C fw_X9_7 (sh_69) rfl (zo_180 (p := 114) (k := 7) (a := 0) (b := 7) (zby_w zwX9_goTeeth_3 18 rfl) (zby_w zwX9_goTeeth_3 19 rfl) (zby_w zwX9_goTeeth_3 20 rfl) (by decide)) ?_
        refine zr_iload_n C (zo_27 (p := 117) (zby_w zwX9_goTeeth_3 21 rfl)) rfl ?_
        obtain ⟨ho28, h⟩ := h
        refine zr_tops (fun σ29 hσ29 => ?_)
        replace h := h σ29 hσ29
        refine zr_iald C (sh_70) ho28 (zo_46 (p := 118) (zby_w zwX9_goTeeth_3 22 rfl)) ?_
        obtain ⟨ho33, h⟩ := h
        have hJ32 : ∀ z31 : Int32, z31 = (if (σ29.1 70 p1.toNatClampNeg) = (0) then (0 : Int32) else (σ29.1 72 p1.toNatClampNeg)) → zGG p l e R s m args below meth c Q g n1 n2 3 132 [(2, .int r1), (0, .ref (g.2.1 69)), (1, .int p1)] [.int z31, .int p1, .ref (g.2.1 72)] σ29 := by
          intro z31 hz31
          replace h := h z31 hz31
          obtain ⟨ho35, h⟩ := h
          refine zr_iast C (sh_72) ho35 (zo_79 (p := 132) (zby_w zwX9_goTeeth_4 4 rfl)) ?_
          exact hret _ _ _ h (zo_177 (p := 133) (zby_w zwX9_goTeeth_4 5 rfl))
        refine zr_if_ne C 126 (zo_154 (p := 119) (k := 7) (a := 0) (b := 7) (zby_w zwX9_goTeeth_3 23 rfl) (zby_w zwX9_goTeeth_3 24 rfl) (zby_w zwX9_goTeeth_3 25 rfl) (by decide)) (by decide) (fun hc30 => ?_) (fun hc30 => ?_)
        · skip
          rw [if_neg hc30] at ho33
          refine zr_aload_n C (zo_42 (p := 126) (zby_w zwX9_goTeeth_3 30 rfl)) rfl ?_
          refine zr_getr (u := 72) C fw_X9_16 (sh_69) rfl (zo_180 (p := 127) (k := 16) (a := 0) (b := 16) (zby_w zwX9_goTeeth_3 31 rfl) (zby_w zwX9_goTeeth_3 32 rfl) (zby_w zwX9_goTeeth_3 33 rfl) (by decide)) ?_
          refine zr_iload_n C (zo_27 (p := 130) (zby_w zwX9_goTeeth_4 2 rfl)) rfl ?_
          obtain ⟨ho34, ho33⟩ := ho33
          refine zr_iald C (sh_72) ho34 (zo_46 (p := 131) (zby_w zwX9_goTeeth_4 3 rfl)) ?_
          exact hJ32 _ (by rw [if_neg hc30])
        · skip
          rw [if_pos hc30] at ho33
          refine zr_iconst C (0 : Int32) (zo_3 (p := 122) (zby_w zwX9_goTeeth_3 26 rfl)) (by decide) ?_
          refine zr_goto C 132 (zo_167 (p := 123) (k := 9) (a := 0) (b := 9) (zby_w zwX9_goTeeth_3 27 rfl) (zby_w zwX9_goTeeth_3 28 rfl) (zby_w zwX9_goTeeth_3 29 rfl) (by decide)) (by decide) ?_
          exact hJ32 _ (by rw [if_pos hc30])
      refine zr_if_ne C 103 (zo_154 (p := 91) (k := 12) (a := 0) (b := 12) (zby_w zwX9_goTeeth_2 27 rfl) (zby_w zwX9_goTeeth_2 28 rfl) (zby_w zwX9_goTeeth_2 29 rfl) (by decide)) (by decide) (fun hc23 => ?_) (fun hc23 => ?_)
      · skip
        rw [if_neg hc23] at ho26
        refine zr_iconst C (0 : Int32) (zo_3 (p := 103) (zby_w zwX9_goTeeth_3 7 rfl)) (by decide) ?_
        exact hJ25 _ (by rw [if_neg hc23])
      · skip
        rw [if_pos hc23] at ho26
        refine zr_aload_n C (zo_42 (p := 94) (zby_w zwX9_goTeeth_2 30 rfl)) rfl ?_
        refine zr_getr (u := 72) C fw_X9_16 (sh_69) rfl (zo_180 (p := 95) (k := 16) (a := 0) (b := 16) (zby_w zwX9_goTeeth_2 31 rfl) (zby_w zwX9_goTeeth_2 32 rfl) (zby_w zwX9_goTeeth_2 33 rfl) (by decide)) ?_
        refine zr_iload_n C (zo_27 (p := 98) (zby_w zwX9_goTeeth_3 2 rfl)) rfl ?_
        obtain ⟨ho27, ho26⟩ := ho26
        refine zr_iald C (sh_72) ho27 (zo_46 (p := 99) (zby_w zwX9_goTeeth_3 3 rfl)) ?_
        refine zr_goto C 104 (zo_167 (p := 100) (k := 4) (a := 0) (b := 4) (zby_w zwX9_goTeeth_3 4 rfl) (zby_w zwX9_goTeeth_3 5 rfl) (zby_w zwX9_goTeeth_3 6 rfl) (by decide)) (by decide) ?_
        exact hJ25 _ (by rw [if_pos hc23])
    refine zr_if_ne C 78 (zo_154 (p := 71) (k := 7) (a := 0) (b := 7) (zby_w zwX9_goTeeth_2 7 rfl) (zby_w zwX9_goTeeth_2 8 rfl) (zby_w zwX9_goTeeth_2 9 rfl) (by decide)) (by decide) (fun hc16 => ?_) (fun hc16 => ?_)
    · skip
      refine zr_iconst C (1 : Int32) (zo_4 (p := 78) (zby_w zwX9_goTeeth_2 14 rfl)) (by decide) ?_
      exact hJ18 _ (by rw [if_neg hc16])
    · skip
      refine zr_iconst C (2 : Int32) (zo_5 (p := 74) (zby_w zwX9_goTeeth_2 10 rfl)) (by decide) ?_
      refine zr_goto C 79 (zo_167 (p := 75) (k := 4) (a := 0) (b := 4) (zby_w zwX9_goTeeth_2 11 rfl) (zby_w zwX9_goTeeth_2 12 rfl) (zby_w zwX9_goTeeth_2 13 rfl) (by decide)) (by decide) ?_
      exact hJ18 _ (by rw [if_pos hc16])
  refine zr_icmp_le C 38 (zo_164 (p := 21) (k := 17) (a := 0) (b := 17) (zby_w zwX9_goTeeth_0 21 rfl) (zby_w zwX9_goTeeth_0 22 rfl) (zby_w zwX9_goTeeth_0 23 rfl) (by decide)) (by decide) (fun hc4 => ?_) (fun hc4 => ?_)
  · skip
    rw [if_pos hc4] at ho7
    refine zr_iconst C (0 : Int32) (zo_3 (p := 38) (zby_w zwX9_goTeeth_1 6 rfl)) (by decide) ?_
    exact hJ6 _ (by rw [if_pos hc4])
  · skip
    rw [if_neg hc4] at ho7
    refine zr_aload_n C (zo_42 (p := 24) (zby_w zwX9_goTeeth_0 24 rfl)) rfl ?_
    refine zr_getr (u := 71) C fw_X9_13 (sh_69) rfl (zo_180 (p := 25) (k := 13) (a := 0) (b := 13) (zby_w zwX9_goTeeth_0 25 rfl) (zby_w zwX9_goTeeth_0 26 rfl) (zby_w zwX9_goTeeth_0 27 rfl) (by decide)) ?_
    refine zr_iload_n C (zo_27 (p := 28) (zby_w zwX9_goTeeth_0 28 rfl)) rfl ?_
    obtain ⟨ho8, ho7⟩ := ho7
    refine zr_iald C (sh_71) ho8 (zo_46 (p := 29) (zby_w zwX9_goTeeth_0 29 rfl)) ?_
    refine zr_aload_n C (zo_42 (p := 30) (zby_w zwX9_goTeeth_0 30 rfl)) rfl ?_
    refine zr_geti C fw_X9_62 (sh_69) rfl (zo_180 (p := 31) (k := 62) (a := 0) (b := 62) (zby_w zwX9_goTeeth_0 31 rfl) (zby_w zwX9_goTeeth_0 32 rfl) (zby_w zwX9_goTeeth_0 33 rfl) (by decide)) ?_
    refine zr_isub C (zo_100 (p := 34) (zby_w zwX9_goTeeth_1 2 rfl)) ?_
    refine zr_goto C 39 (zo_167 (p := 35) (k := 4) (a := 0) (b := 4) (zby_w zwX9_goTeeth_1 3 rfl) (zby_w zwX9_goTeeth_1 4 rfl) (zby_w zwX9_goTeeth_1 5 rfl) (by decide)) (by decide) ?_
    exact hJ6 _ (by rw [if_neg hc4])
set_option maxRecDepth 20000 in
theorem c_X9_goTeeth (l : Launch) (g : zG) (p1 : Int32) (σ : zST) (Post : zST → Prop) (h : wp_X9_goTeeth p1 σ Post) : Met l yX9_goTeeth (Cond.code yX9_goTeeth cX9_goTeeth 3 none :: zGW) (zRm 1 22) (va_Pc [.ref (g.2.1 69), .int p1] (zPP g σ)) (va_Qv Post (zBB g) (zA g)) 0 0 (zA g) :=
  zMet (by decide) (Nat.le_of_ble_eq_true rfl) (fun p e s m below meth c hr C => g_X9_goTeeth C (fun σ pc lv hp hd => zr_vret C hr hp hd) h)
def wp_X9_goWhirl (p1 : Int32) (p2 : Int32) (σ : zST) (Post : zST → Prop) : Prop := ∀ σ1 : zST, σ1 = (wI σ 69 12 (((((75 : Int64) * ((σ.1 69 12).toInt64)) + (74 : Int64)) - (((75 : Int64) * ((σ.1 69 12).toInt64)) + (74 : Int64)) / (65537 : Int64) * (65537 : Int64)).toInt32)) → wp_X9_tenths p2 σ1 (fun r2 => ∀ z5 : Int32, z5 = (if r2 ≤ ((σ1.1 69 12) - (σ1.1 69 12) / (10 : Int32) * (10 : Int32)) then (0 : Int32) else (1 : Int32)) → ∀ z9 : Int32, z9 = (if z5 = (0) then (1 : Int32) else (2 : Int32)) → vp_in p1 6 ∧ (if z5 = (0) then Post (wI σ1 73 p1.toNatClampNeg z9) else ∀ σ14 : zST, σ14 = (wI σ1 73 p1.toNatClampNeg z9) → vp_in p1 6 ∧ ∀ σ16 : zST, σ16 = (wI σ14 69 15 ((σ14.1 69 15) + (σ14.1 70 p1.toNatClampNeg))) → vp_in p1 6 ∧ vp_in p1 6 ∧ vp_in p1 6 ∧ vp_in p1 6 ∧ Post (wI (wI (wI (wI σ16 69 16 ((σ16.1 69 16) + (σ16.1 72 p1.toNatClampNeg))) 70 p1.toNatClampNeg (0 : Int32)) 71 p1.toNatClampNeg (0 : Int32)) 72 p1.toNatClampNeg (0 : Int32))))
set_option maxRecDepth 100000 in
set_option maxHeartbeats 4000000 in
theorem g_X9_goWhirl {p : Program} {l : Launch} {e : Env} {R : Room} {s : State} {m : MethodId} {args : Array Value} {below : List Frame} {meth : Method} {c : Code} {Q : State → Prop} {g : zG} {n1 n2 : Nat} (C : zCX p R s m args meth c g n1 n2 cX9_goWhirl 4 RX9 1 21) {p1 : Int32} {p2 : Int32} {σ : zST} {Post : zST → Prop} (hret : ∀ (σ : zST) (pc : Nat) (lv : List (Nat × Value)), Post σ → decode cX9_goWhirl pc = .ok (.return_, 1) → zGG p l e R s m args below meth c Q g n1 n2 4 pc lv [] σ) (h : wp_X9_goWhirl p1 p2 σ Post) : zGG p l e R s m args below meth c Q g n1 n2 4 0 [(0, .ref (g.2.1 69)), (1, .int p1), (2, .int p2)] [] σ := by
  unfold wp_X9_goWhirl at h
  refine zr_aload_n C (zo_42 (p := 0) (zby_w zwX9_goWhirl_0 0 rfl)) rfl ?_
  refine zr_ldc2 C (v := (75 : Int64)) cl_X9_157 (zo_20 (p := 1) (k := 157) (a := 0) (b := 157) (zby_w zwX9_goWhirl_0 1 rfl) (zby_w zwX9_goWhirl_0 2 rfl) (zby_w zwX9_goWhirl_0 3 rfl) (by decide)) ?_
  refine zr_aload_n C (zo_42 (p := 4) (zby_w zwX9_goWhirl_0 4 rfl)) rfl ?_
  refine zr_geti C fw_X9_81 (sh_69) rfl (zo_180 (p := 5) (k := 81) (a := 0) (b := 81) (zby_w zwX9_goWhirl_0 5 rfl) (zby_w zwX9_goWhirl_0 6 rfl) (zby_w zwX9_goWhirl_0 7 rfl) (by decide)) ?_
  refine zr_i2l C (zo_133 (p := 8) (zby_w zwX9_goWhirl_0 8 rfl)) ?_
  refine zr_lmul C (zo_105 (p := 9) (zby_w zwX9_goWhirl_0 9 rfl)) ?_
  refine zr_ldc2 C (v := (74 : Int64)) cl_X9_159 (zo_20 (p := 10) (k := 159) (a := 0) (b := 159) (zby_w zwX9_goWhirl_0 10 rfl) (zby_w zwX9_goWhirl_0 11 rfl) (zby_w zwX9_goWhirl_0 12 rfl) (by decide)) ?_
  refine zr_ladd C (zo_97 (p := 13) (zby_w zwX9_goWhirl_0 13 rfl)) ?_
  refine zr_ldc2 C (v := (65537 : Int64)) cl_X9_161 (zo_20 (p := 14) (k := 161) (a := 0) (b := 161) (zby_w zwX9_goWhirl_0 14 rfl) (zby_w zwX9_goWhirl_0 15 rfl) (zby_w zwX9_goWhirl_0 16 rfl) (by decide)) ?_
  refine zr_lrem C (zo_113 (p := 17) (zby_w zwX9_goWhirl_0 17 rfl)) (by decide) ?_
  refine zr_l2i C (zo_136 (p := 18) (zby_w zwX9_goWhirl_0 18 rfl)) ?_
  refine zr_puti C fw_X9_81 pw_X9_12 (sh_69) rfl rfl rfl (zo_181 (p := 19) (k := 81) (a := 0) (b := 81) (zby_w zwX9_goWhirl_0 19 rfl) (zby_w zwX9_goWhirl_0 20 rfl) (zby_w zwX9_goWhirl_0 21 rfl) (by decide)) ?_
  refine zr_aload_n C (zo_42 (p := 22) (zby_w zwX9_goWhirl_0 22 rfl)) rfl ?_
  refine zr_tops (fun σ1 hσ1 => ?_)
  replace h := h σ1 hσ1
  refine zr_geti C fw_X9_81 (sh_69) rfl (zo_180 (p := 23) (k := 81) (a := 0) (b := 81) (zby_w zwX9_goWhirl_0 23 rfl) (zby_w zwX9_goWhirl_0 24 rfl) (zby_w zwX9_goWhirl_0 25 rfl) (by decide)) ?_
  refine zr_bipush C (10 : Int32) (zo_16 (p := 26) (k := 10) (a := 10) (zby_w zwX9_goWhirl_0 26 rfl) (zby_w zwX9_goWhirl_0 27 rfl) (by decide)) (by decide) ?_
  refine zr_irem C (zo_112 (p := 28) (zby_w zwX9_goWhirl_0 28 rfl)) (by decide) ?_
  refine zr_aload_n C (zo_42 (p := 29) (zby_w zwX9_goWhirl_0 29 rfl)) rfl ?_
  refine zr_iload_n C (zo_28 (p := 30) (zby_w zwX9_goWhirl_0 30 rfl)) rfl ?_
  refine zr_cip (zr_runV (As := [.int p2]) (rest := [.int ((σ1.1 69 12) - (σ1.1 69 12) / (10 : Int32) * (10 : Int32))]) C vw_X9_163 (c_X9_tenths l g p2 σ1 _ h) (sh_69) rfl (by decide) (by decide) rfl rfl (Nat.le_of_ble_eq_true rfl) (zo_182 (p := 31) (k := 163) (a := 0) (b := 163) (zby_w zwX9_goWhirl_0 31 rfl) (zby_w zwX9_goWhirl_0 32 rfl) (zby_w zwX9_goWhirl_0 33 rfl) (by decide))) (fun r2 h => ?_)
  have hJ6 : ∀ z5 : Int32, z5 = (if r2 ≤ ((σ1.1 69 12) - (σ1.1 69 12) / (10 : Int32) * (10 : Int32)) then (0 : Int32) else (1 : Int32)) → zGG p l e R s m args below meth c Q g n1 n2 4 42 [(0, .ref (g.2.1 69)), (1, .int p1), (2, .int p2)] [.int z5] σ1 := by
    intro z5 hz5
    replace h := h z5 hz5
    refine zr_istore_n C [(3, .int z5), (0, .ref (g.2.1 69)), (1, .int p1), (2, .int p2)] (zo_62 (p := 42) (zby_w zwX9_goWhirl_1 10 rfl)) (by decide) rfl ?_
    refine zr_aload_n C (zo_42 (p := 43) (zby_w zwX9_goWhirl_1 11 rfl)) rfl ?_
    refine zr_getr (u := 73) C fw_X9_19 (sh_69) rfl (zo_180 (p := 44) (k := 19) (a := 0) (b := 19) (zby_w zwX9_goWhirl_1 12 rfl) (zby_w zwX9_goWhirl_1 13 rfl) (zby_w zwX9_goWhirl_1 14 rfl) (by decide)) ?_
    refine zr_iload_n C (zo_27 (p := 47) (zby_w zwX9_goWhirl_1 15 rfl)) rfl ?_
    refine zr_iload_n C (zo_29 (p := 48) (zby_w zwX9_goWhirl_1 16 rfl)) rfl ?_
    have hJ10 : ∀ z9 : Int32, z9 = (if z5 = (0) then (1 : Int32) else (2 : Int32)) → zGG p l e R s m args below meth c Q g n1 n2 4 57 [(3, .int z5), (0, .ref (g.2.1 69)), (1, .int p1), (2, .int p2)] [.int z9, .int p1, .ref (g.2.1 73)] σ1 := by
      intro z9 hz9
      replace h := h z9 hz9
      obtain ⟨ho12, h⟩ := h
      refine zr_iast C (sh_73) ho12 (zo_79 (p := 57) (zby_w zwX9_goWhirl_1 25 rfl)) ?_
      refine zr_iload_n C (zo_29 (p := 58) (zby_w zwX9_goWhirl_1 26 rfl)) rfl ?_
      refine zr_if_eq C 113 (zo_153 (p := 59) (k := 54) (a := 0) (b := 54) (zby_w zwX9_goWhirl_1 27 rfl) (zby_w zwX9_goWhirl_1 28 rfl) (zby_w zwX9_goWhirl_1 29 rfl) (by decide)) (by decide) (fun hc13 => ?_) (fun hc13 => ?_)
      · rw [if_pos hc13] at h
        exact hret _ _ _ h d_X9_goWhirl_113
      · rw [if_neg hc13] at h
        refine zr_aload_n C (zo_42 (p := 62) (zby_w zwX9_goWhirl_1 30 rfl)) rfl ?_
        refine zr_dup C (zo_89 (p := 63) (zby_w zwX9_goWhirl_1 31 rfl)) rfl ?_
        refine zr_tops (fun σ14 hσ14 => ?_)
        replace h := h σ14 hσ14
        refine zr_geti C fw_X9_151 (sh_69) rfl (zo_180 (p := 64) (k := 151) (a := 0) (b := 151) (zby_w zwX9_goWhirl_2 0 rfl) (zby_w zwX9_goWhirl_2 1 rfl) (zby_w zwX9_goWhirl_2 2 rfl) (by decide)) ?_
        refine zr_aload_n C (zo_42 (p := 67) (zby_w zwX9_goWhirl_2 3 rfl)) rfl ?_
        refine zr_getr (u := 70) C fw_X9_7 (sh_69) rfl (zo_180 (p := 68) (k := 7) (a := 0) (b := 7) (zby_w zwX9_goWhirl_2 4 rfl) (zby_w zwX9_goWhirl_2 5 rfl) (zby_w zwX9_goWhirl_2 6 rfl) (by decide)) ?_
        refine zr_iload_n C (zo_27 (p := 71) (zby_w zwX9_goWhirl_2 7 rfl)) rfl ?_
        obtain ⟨ho15, h⟩ := h
        refine zr_iald C (sh_70) ho15 (zo_46 (p := 72) (zby_w zwX9_goWhirl_2 8 rfl)) ?_
        refine zr_iadd C (zo_96 (p := 73) (zby_w zwX9_goWhirl_2 9 rfl)) ?_
        refine zr_puti C fw_X9_151 pw_X9_15 (sh_69) rfl rfl rfl (zo_181 (p := 74) (k := 151) (a := 0) (b := 151) (zby_w zwX9_goWhirl_2 10 rfl) (zby_w zwX9_goWhirl_2 11 rfl) (zby_w zwX9_goWhirl_2 12 rfl) (by decide)) ?_
        refine zr_aload_n C (zo_42 (p := 77) (zby_w zwX9_goWhirl_2 13 rfl)) rfl ?_
        refine zr_dup C (zo_89 (p := 78) (zby_w zwX9_goWhirl_2 14 rfl)) rfl ?_
        refine zr_tops (fun σ16 hσ16 => ?_)
        replace h := h σ16 hσ16
        refine zr_geti C fw_X9_154 (sh_69) rfl (zo_180 (p := 79) (k := 154) (a := 0) (b := 154) (zby_w zwX9_goWhirl_2 15 rfl) (zby_w zwX9_goWhirl_2 16 rfl) (zby_w zwX9_goWhirl_2 17 rfl) (by decide)) ?_
        refine zr_aload_n C (zo_42 (p := 82) (zby_w zwX9_goWhirl_2 18 rfl)) rfl ?_
        refine zr_getr (u := 72) C fw_X9_16 (sh_69) rfl (zo_180 (p := 83) (k := 16) (a := 0) (b := 16) (zby_w zwX9_goWhirl_2 19 rfl) (zby_w zwX9_goWhirl_2 20 rfl) (zby_w zwX9_goWhirl_2 21 rfl) (by decide)) ?_
        refine zr_iload_n C (zo_27 (p := 86) (zby_w zwX9_goWhirl_2 22 rfl)) rfl ?_
        obtain ⟨ho17, h⟩ := h
        refine zr_iald C (sh_72) ho17 (zo_46 (p := 87) (zby_w zwX9_goWhirl_2 23 rfl)) ?_
        refine zr_iadd C (zo_96 (p := 88) (zby_w zwX9_goWhirl_2 24 rfl)) ?_
        refine zr_puti C fw_X9_154 pw_X9_16 (sh_69) rfl rfl rfl (zo_181 (p := 89) (k := 154) (a := 0) (b := 154) (zby_w zwX9_goWhirl_2 25 rfl) (zby_w zwX9_goWhirl_2 26 rfl) (zby_w zwX9_goWhirl_2 27 rfl) (by decide)) ?_
        refine zr_aload_n C (zo_42 (p := 92) (zby_w zwX9_goWhirl_2 28 rfl)) rfl ?_
        refine zr_getr (u := 70) C fw_X9_7 (sh_69) rfl (zo_180 (p := 93) (k := 7) (a := 0) (b := 7) (zby_w zwX9_goWhirl_2 29 rfl) (zby_w zwX9_goWhirl_2 30 rfl) (zby_w zwX9_goWhirl_2 31 rfl) (by decide)) ?_
        refine zr_iload_n C (zo_27 (p := 96) (zby_w zwX9_goWhirl_3 0 rfl)) rfl ?_
        refine zr_iconst C (0 : Int32) (zo_3 (p := 97) (zby_w zwX9_goWhirl_3 1 rfl)) (by decide) ?_
        obtain ⟨ho18, h⟩ := h
        refine zr_iast C (sh_70) ho18 (zo_79 (p := 98) (zby_w zwX9_goWhirl_3 2 rfl)) ?_
        refine zr_aload_n C (zo_42 (p := 99) (zby_w zwX9_goWhirl_3 3 rfl)) rfl ?_
        refine zr_getr (u := 71) C fw_X9_13 (sh_69) rfl (zo_180 (p := 100) (k := 13) (a := 0) (b := 13) (zby_w zwX9_goWhirl_3 4 rfl) (zby_w zwX9_goWhirl_3 5 rfl) (zby_w zwX9_goWhirl_3 6 rfl) (by decide)) ?_
        refine zr_iload_n C (zo_27 (p := 103) (zby_w zwX9_goWhirl_3 7 rfl)) rfl ?_
        refine zr_iconst C (0 : Int32) (zo_3 (p := 104) (zby_w zwX9_goWhirl_3 8 rfl)) (by decide) ?_
        obtain ⟨ho19, h⟩ := h
        refine zr_iast C (sh_71) ho19 (zo_79 (p := 105) (zby_w zwX9_goWhirl_3 9 rfl)) ?_
        refine zr_aload_n C (zo_42 (p := 106) (zby_w zwX9_goWhirl_3 10 rfl)) rfl ?_
        refine zr_getr (u := 72) C fw_X9_16 (sh_69) rfl (zo_180 (p := 107) (k := 16) (a := 0) (b := 16) (zby_w zwX9_goWhirl_3 11 rfl) (zby_w zwX9_goWhirl_3 12 rfl) (zby_w zwX9_goWhirl_3 13 rfl) (by decide)) ?_
        refine zr_iload_n C (zo_27 (p := 110) (zby_w zwX9_goWhirl_3 14 rfl)) rfl ?_
        refine zr_iconst C (0 : Int32) (zo_3 (p := 111) (zby_w zwX9_goWhirl_3 15 rfl)) (by decide) ?_
        obtain ⟨ho20, h⟩ := h
        refine zr_iast C (sh_72) ho20 (zo_79 (p := 112) (zby_w zwX9_goWhirl_3 16 rfl)) ?_
        exact hret _ _ _ h d_X9_goWhirl_113
    refine zr_if_eq C 56 (zo_153 (p := 49) (k := 7) (a := 0) (b := 7) (zby_w zwX9_goWhirl_1 17 rfl) (zby_w zwX9_goWhirl_1 18 rfl) (zby_w zwX9_goWhirl_1 19 rfl) (by decide)) (by decide) (fun hc8 => ?_) (fun hc8 => ?_)
    · skip
      refine zr_iconst C (1 : Int32) (zo_4 (p := 56) (zby_w zwX9_goWhirl_1 24 rfl)) (by decide) ?_
      exact hJ10 _ (by rw [if_pos hc8])
    · skip
      refine zr_iconst C (2 : Int32) (zo_5 (p := 52) (zby_w zwX9_goWhirl_1 20 rfl)) (by decide) ?_
      refine zr_goto C 57 (zo_167 (p := 53) (k := 4) (a := 0) (b := 4) (zby_w zwX9_goWhirl_1 21 rfl) (zby_w zwX9_goWhirl_1 22 rfl) (zby_w zwX9_goWhirl_1 23 rfl) (by decide)) (by decide) ?_
      exact hJ10 _ (by rw [if_neg hc8])
  refine zr_icmp_ge C 41 (zo_162 (p := 34) (k := 7) (a := 0) (b := 7) (zby_w zwX9_goWhirl_1 2 rfl) (zby_w zwX9_goWhirl_1 3 rfl) (zby_w zwX9_goWhirl_1 4 rfl) (by decide)) (by decide) (fun hc4 => ?_) (fun hc4 => ?_)
  · skip
    refine zr_iconst C (0 : Int32) (zo_3 (p := 41) (zby_w zwX9_goWhirl_1 9 rfl)) (by decide) ?_
    exact hJ6 _ (by rw [if_pos hc4])
  · skip
    refine zr_iconst C (1 : Int32) (zo_4 (p := 37) (zby_w zwX9_goWhirl_1 5 rfl)) (by decide) ?_
    refine zr_goto C 42 (zo_167 (p := 38) (k := 4) (a := 0) (b := 4) (zby_w zwX9_goWhirl_1 6 rfl) (zby_w zwX9_goWhirl_1 7 rfl) (zby_w zwX9_goWhirl_1 8 rfl) (by decide)) (by decide) ?_
    exact hJ6 _ (by rw [if_neg hc4])
set_option maxRecDepth 20000 in
theorem c_X9_goWhirl (l : Launch) (g : zG) (p1 : Int32) (p2 : Int32) (σ : zST) (Post : zST → Prop) (h : wp_X9_goWhirl p1 p2 σ Post) : Met l yX9_goWhirl (Cond.code yX9_goWhirl cX9_goWhirl 4 none :: zGW) (zRm 1 21) (va_Pc [.ref (g.2.1 69), .int p1, .int p2] (zPP g σ)) (va_Qv Post (zBB g) (zA g)) 0 0 (zA g) :=
  zMet (by decide) (Nat.le_of_ble_eq_true rfl) (fun p e s m below meth c hr C => g_X9_goWhirl C (fun σ pc lv hp hd => zr_vret C hr hp hd) h)
def wp_X9_goCape (p1 : Int32) (σ : zST) (Post : zST → Prop) : Prop := vp_in p1 6 ∧ vp_in p1 6 ∧ Post (wI (wI σ 69 17 ((σ.1 69 17) + (((σ.1 69 7) * (σ.1 69 8)) * (σ.1 70 p1.toNatClampNeg)))) 73 p1.toNatClampNeg (1 : Int32))
set_option maxRecDepth 100000 in
set_option maxHeartbeats 4000000 in
theorem g_X9_goCape {p : Program} {l : Launch} {e : Env} {R : Room} {s : State} {m : MethodId} {args : Array Value} {below : List Frame} {meth : Method} {c : Code} {Q : State → Prop} {g : zG} {n1 n2 : Nat} (C : zCX p R s m args meth c g n1 n2 cX9_goCape 2 RX9 0 0) {p1 : Int32} {σ : zST} {Post : zST → Prop} (hret : ∀ (σ : zST) (pc : Nat) (lv : List (Nat × Value)), Post σ → decode cX9_goCape pc = .ok (.return_, 1) → zGG p l e R s m args below meth c Q g n1 n2 2 pc lv [] σ) (h : wp_X9_goCape p1 σ Post) : zGG p l e R s m args below meth c Q g n1 n2 2 0 [(0, .ref (g.2.1 69)), (1, .int p1)] [] σ := by
  unfold wp_X9_goCape at h
  refine zr_aload_n C (zo_42 (p := 0) (zby_w zwX9_goCape_0 0 rfl)) rfl ?_
  refine zr_dup C (zo_89 (p := 1) (zby_w zwX9_goCape_0 1 rfl)) rfl ?_
  refine zr_geti C fw_X9_166 (sh_69) rfl (zo_180 (p := 2) (k := 166) (a := 0) (b := 166) (zby_w zwX9_goCape_0 2 rfl) (zby_w zwX9_goCape_0 3 rfl) (zby_w zwX9_goCape_0 4 rfl) (by decide)) ?_
  refine zr_aload_n C (zo_42 (p := 5) (zby_w zwX9_goCape_0 5 rfl)) rfl ?_
  refine zr_geti C fw_X9_69 (sh_69) rfl (zo_180 (p := 6) (k := 69) (a := 0) (b := 69) (zby_w zwX9_goCape_0 6 rfl) (zby_w zwX9_goCape_0 7 rfl) (zby_w zwX9_goCape_0 8 rfl) (by decide)) ?_
  refine zr_aload_n C (zo_42 (p := 9) (zby_w zwX9_goCape_0 9 rfl)) rfl ?_
  refine zr_geti C fw_X9_72 (sh_69) rfl (zo_180 (p := 10) (k := 72) (a := 0) (b := 72) (zby_w zwX9_goCape_0 10 rfl) (zby_w zwX9_goCape_0 11 rfl) (zby_w zwX9_goCape_0 12 rfl) (by decide)) ?_
  refine zr_imul C (zo_104 (p := 13) (zby_w zwX9_goCape_0 13 rfl)) ?_
  refine zr_aload_n C (zo_42 (p := 14) (zby_w zwX9_goCape_0 14 rfl)) rfl ?_
  refine zr_getr (u := 70) C fw_X9_7 (sh_69) rfl (zo_180 (p := 15) (k := 7) (a := 0) (b := 7) (zby_w zwX9_goCape_0 15 rfl) (zby_w zwX9_goCape_0 16 rfl) (zby_w zwX9_goCape_0 17 rfl) (by decide)) ?_
  refine zr_iload_n C (zo_27 (p := 18) (zby_w zwX9_goCape_0 18 rfl)) rfl ?_
  obtain ⟨ho1, h⟩ := h
  refine zr_iald C (sh_70) ho1 (zo_46 (p := 19) (zby_w zwX9_goCape_0 19 rfl)) ?_
  refine zr_imul C (zo_104 (p := 20) (zby_w zwX9_goCape_0 20 rfl)) ?_
  refine zr_iadd C (zo_96 (p := 21) (zby_w zwX9_goCape_0 21 rfl)) ?_
  refine zr_puti C fw_X9_166 pw_X9_17 (sh_69) rfl rfl rfl (zo_181 (p := 22) (k := 166) (a := 0) (b := 166) (zby_w zwX9_goCape_0 22 rfl) (zby_w zwX9_goCape_0 23 rfl) (zby_w zwX9_goCape_0 24 rfl) (by decide)) ?_
  refine zr_aload_n C (zo_42 (p := 25) (zby_w zwX9_goCape_0 25 rfl)) rfl ?_
  refine zr_getr (u := 73) C fw_X9_19 (sh_69) rfl (zo_180 (p := 26) (k := 19) (a := 0) (b := 19) (zby_w zwX9_goCape_0 26 rfl) (zby_w zwX9_goCape_0 27 rfl) (zby_w zwX9_goCape_0 28 rfl) (by decide)) ?_
  refine zr_iload_n C (zo_27 (p := 29) (zby_w zwX9_goCape_0 29 rfl)) rfl ?_
  refine zr_iconst C (1 : Int32) (zo_4 (p := 30) (zby_w zwX9_goCape_0 30 rfl)) (by decide) ?_
  obtain ⟨ho2, h⟩ := h
  refine zr_iast C (sh_73) ho2 (zo_79 (p := 31) (zby_w zwX9_goCape_0 31 rfl)) ?_
  exact hret _ _ _ h (zo_177 (p := 32) (zby_w zwX9_goCape_1 0 rfl))
set_option maxRecDepth 20000 in
theorem c_X9_goCape (l : Launch) (g : zG) (p1 : Int32) (σ : zST) (Post : zST → Prop) (h : wp_X9_goCape p1 σ Post) : Met l yX9_goCape (Cond.code yX9_goCape cX9_goCape 2 none :: zGW) (zRm 0 0) (va_Pc [.ref (g.2.1 69), .int p1] (zPP g σ)) (va_Qv Post (zBB g) (zA g)) 0 0 (zA g) :=
  zMet (by decide) (Nat.le_of_ble_eq_true rfl) (fun p e s m below meth c hr C => g_X9_goCape C (fun σ pc lv hp hd => zr_vret C hr hp hd) h)
def wp_X9_keepNow_L2 (K71 : zST → Prop) : Nat → Int32 → zST → Prop
  | 0, _, _ => False
  | N + 1, v1, σ => (if (6 : Int32) ≤ v1 then K71 σ else vp_in v1 6 ∧ vp_in v1 28 ∧ vp_in v1 6 ∧ ∀ σ5 : zST, σ5 = (wI σ 81 v1.toNatClampNeg (σ.1 70 v1.toNatClampNeg)) → vp_in ((6 : Int32) + v1) 28 ∧ vp_in v1 6 ∧ ∀ σ8 : zST, σ8 = (wI σ5 81 ((6 : Int32) + v1).toNatClampNeg (σ5.1 71 v1.toNatClampNeg)) → vp_in ((12 : Int32) + v1) 28 ∧ vp_in v1 6 ∧ ∀ σ11 : zST, σ11 = (wI σ8 81 ((12 : Int32) + v1).toNatClampNeg (σ8.1 72 v1.toNatClampNeg)) → vp_in ((18 : Int32) + v1) 28 ∧ wp_X9_keepNow_L2 K71 N (v1 + 1) (wI σ11 81 ((18 : Int32) + v1).toNatClampNeg (σ11.1 73 v1.toNatClampNeg)))

set_option maxRecDepth 100000 in
set_option maxHeartbeats 4000000 in
theorem g_X9_keepNow_L2 {p : Program} {l : Launch} {e : Env} {R : Room} {s : State} {m : MethodId} {args : Array Value} {below : List Frame} {meth : Method} {c : Code} {Q : State → Prop} {g : zG} {n1 n2 : Nat} (C : zCX p R s m args meth c g n1 n2 cX9_keepNow 2 RX9 0 0) {K71 : zST → Prop} (hK71 : ∀ (σ : zST), K71 σ → zGG p l e R s m args below meth c Q g n1 n2 2 71 [(0, .ref (g.2.1 69))] [] σ) : ∀ (N : Nat) (v1 : Int32) (σ : zST) , wp_X9_keepNow_L2 K71 N v1 σ → zGG p l e R s m args below meth c Q g n1 n2 2 2 [(0, .ref (g.2.1 69)), (1, .int v1)] [] σ := by
  intro N
  induction N with
  | zero =>
    intro v1 σ h
    exact h.elim
  | succ N ih =>
    intro v1 σ h
    rw [wp_X9_keepNow_L2] at h
    refine zr_iload_n C (zo_27 (p := 2) (zby_w zwX9_keepNow_0 2 rfl)) rfl ?_
    refine zr_bipush C (6 : Int32) (zo_16 (p := 3) (k := 6) (a := 6) (zby_w zwX9_keepNow_0 3 rfl) (zby_w zwX9_keepNow_0 4 rfl) (by decide)) (by decide) ?_
    refine zr_icmp_ge C 71 (zo_162 (p := 5) (k := 66) (a := 0) (b := 66) (zby_w zwX9_keepNow_0 5 rfl) (zby_w zwX9_keepNow_0 6 rfl) (zby_w zwX9_keepNow_0 7 rfl) (by decide)) (by decide) (fun hc1 => ?_) (fun hc1 => ?_)
    · rw [if_pos hc1] at h
      exact zr_pick [0] rfl (hK71 σ h)
    · rw [if_neg hc1] at h
      refine zr_aload_n C (zo_42 (p := 8) (zby_w zwX9_keepNow_0 8 rfl)) rfl ?_
      refine zr_getr (u := 81) C fw_X9_43 (sh_69) rfl (zo_180 (p := 9) (k := 43) (a := 0) (b := 43) (zby_w zwX9_keepNow_0 9 rfl) (zby_w zwX9_keepNow_0 10 rfl) (zby_w zwX9_keepNow_0 11 rfl) (by decide)) ?_
      refine zr_iload_n C (zo_27 (p := 12) (zby_w zwX9_keepNow_0 12 rfl)) rfl ?_
      refine zr_aload_n C (zo_42 (p := 13) (zby_w zwX9_keepNow_0 13 rfl)) rfl ?_
      refine zr_getr (u := 70) C fw_X9_7 (sh_69) rfl (zo_180 (p := 14) (k := 7) (a := 0) (b := 7) (zby_w zwX9_keepNow_0 14 rfl) (zby_w zwX9_keepNow_0 15 rfl) (zby_w zwX9_keepNow_0 16 rfl) (by decide)) ?_
      refine zr_iload_n C (zo_27 (p := 17) (zby_w zwX9_keepNow_0 17 rfl)) rfl ?_
      obtain ⟨ho2, h⟩ := h
      refine zr_iald C (sh_70) ho2 (zo_46 (p := 18) (zby_w zwX9_keepNow_0 18 rfl)) ?_
      obtain ⟨ho3, h⟩ := h
      refine zr_iast C (sh_81) ho3 (zo_79 (p := 19) (zby_w zwX9_keepNow_0 19 rfl)) ?_
      refine zr_aload_n C (zo_42 (p := 20) (zby_w zwX9_keepNow_0 20 rfl)) rfl ?_
      refine zr_getr (u := 81) C fw_X9_43 (sh_69) rfl (zo_180 (p := 21) (k := 43) (a := 0) (b := 43) (zby_w zwX9_keepNow_0 21 rfl) (zby_w zwX9_keepNow_0 22 rfl) (zby_w zwX9_keepNow_0 23 rfl) (by decide)) ?_
      refine zr_bipush C (6 : Int32) (zo_16 (p := 24) (k := 6) (a := 6) (zby_w zwX9_keepNow_0 24 rfl) (zby_w zwX9_keepNow_0 25 rfl) (by decide)) (by decide) ?_
      refine zr_iload_n C (zo_27 (p := 26) (zby_w zwX9_keepNow_0 26 rfl)) rfl ?_
      refine zr_iadd C (zo_96 (p := 27) (zby_w zwX9_keepNow_0 27 rfl)) ?_
      refine zr_aload_n C (zo_42 (p := 28) (zby_w zwX9_keepNow_0 28 rfl)) rfl ?_
      refine zr_getr (u := 71) C fw_X9_13 (sh_69) rfl (zo_180 (p := 29) (k := 13) (a := 0) (b := 13) (zby_w zwX9_keepNow_0 29 rfl) (zby_w zwX9_keepNow_0 30 rfl) (zby_w zwX9_keepNow_0 31 rfl) (by decide)) ?_
      refine zr_iload_n C (zo_27 (p := 32) (zby_w zwX9_keepNow_1 0 rfl)) rfl ?_
      obtain ⟨ho4, h⟩ := h
      refine zr_tops (fun σ5 hσ5 => ?_)
      replace h := h σ5 hσ5
      refine zr_iald C (sh_71) ho4 (zo_46 (p := 33) (zby_w zwX9_keepNow_1 1 rfl)) ?_
      obtain ⟨ho6, h⟩ := h
      refine zr_iast C (sh_81) ho6 (zo_79 (p := 34) (zby_w zwX9_keepNow_1 2 rfl)) ?_
      refine zr_aload_n C (zo_42 (p := 35) (zby_w zwX9_keepNow_1 3 rfl)) rfl ?_
      refine zr_getr (u := 81) C fw_X9_43 (sh_69) rfl (zo_180 (p := 36) (k := 43) (a := 0) (b := 43) (zby_w zwX9_keepNow_1 4 rfl) (zby_w zwX9_keepNow_1 5 rfl) (zby_w zwX9_keepNow_1 6 rfl) (by decide)) ?_
      refine zr_bipush C (12 : Int32) (zo_16 (p := 39) (k := 12) (a := 12) (zby_w zwX9_keepNow_1 7 rfl) (zby_w zwX9_keepNow_1 8 rfl) (by decide)) (by decide) ?_
      refine zr_iload_n C (zo_27 (p := 41) (zby_w zwX9_keepNow_1 9 rfl)) rfl ?_
      refine zr_iadd C (zo_96 (p := 42) (zby_w zwX9_keepNow_1 10 rfl)) ?_
      refine zr_aload_n C (zo_42 (p := 43) (zby_w zwX9_keepNow_1 11 rfl)) rfl ?_
      refine zr_getr (u := 72) C fw_X9_16 (sh_69) rfl (zo_180 (p := 44) (k := 16) (a := 0) (b := 16) (zby_w zwX9_keepNow_1 12 rfl) (zby_w zwX9_keepNow_1 13 rfl) (zby_w zwX9_keepNow_1 14 rfl) (by decide)) ?_
      refine zr_iload_n C (zo_27 (p := 47) (zby_w zwX9_keepNow_1 15 rfl)) rfl ?_
      obtain ⟨ho7, h⟩ := h
      refine zr_tops (fun σ8 hσ8 => ?_)
      replace h := h σ8 hσ8
      refine zr_iald C (sh_72) ho7 (zo_46 (p := 48) (zby_w zwX9_keepNow_1 16 rfl)) ?_
      obtain ⟨ho9, h⟩ := h
      refine zr_iast C (sh_81) ho9 (zo_79 (p := 49) (zby_w zwX9_keepNow_1 17 rfl)) ?_
      refine zr_aload_n C (zo_42 (p := 50) (zby_w zwX9_keepNow_1 18 rfl)) rfl ?_
      refine zr_getr (u := 81) C fw_X9_43 (sh_69) rfl (zo_180 (p := 51) (k := 43) (a := 0) (b := 43) (zby_w zwX9_keepNow_1 19 rfl) (zby_w zwX9_keepNow_1 20 rfl) (zby_w zwX9_keepNow_1 21 rfl) (by decide)) ?_
      refine zr_bipush C (18 : Int32) (zo_16 (p := 54) (k := 18) (a := 18) (zby_w zwX9_keepNow_1 22 rfl) (zby_w zwX9_keepNow_1 23 rfl) (by decide)) (by decide) ?_
      refine zr_iload_n C (zo_27 (p := 56) (zby_w zwX9_keepNow_1 24 rfl)) rfl ?_
      refine zr_iadd C (zo_96 (p := 57) (zby_w zwX9_keepNow_1 25 rfl)) ?_
      refine zr_aload_n C (zo_42 (p := 58) (zby_w zwX9_keepNow_1 26 rfl)) rfl ?_
      refine zr_getr (u := 73) C fw_X9_19 (sh_69) rfl (zo_180 (p := 59) (k := 19) (a := 0) (b := 19) (zby_w zwX9_keepNow_1 27 rfl) (zby_w zwX9_keepNow_1 28 rfl) (zby_w zwX9_keepNow_1 29 rfl) (by decide)) ?_
      refine zr_iload_n C (zo_27 (p := 62) (zby_w zwX9_keepNow_1 30 rfl)) rfl ?_
      obtain ⟨ho10, h⟩ := h
      refine zr_tops (fun σ11 hσ11 => ?_)
      replace h := h σ11 hσ11
      refine zr_iald C (sh_73) ho10 (zo_46 (p := 63) (zby_w zwX9_keepNow_1 31 rfl)) ?_
      obtain ⟨ho12, h⟩ := h
      refine zr_iast C (sh_81) ho12 (zo_79 (p := 64) (zby_w zwX9_keepNow_2 0 rfl)) ?_
      refine zr_iinc C (v1 + 1) [(1, .int (v1 + 1)), (0, .ref (g.2.1 69))] d_X9_keepNow_65 rfl rfl (by decide) rfl ?_
      refine zr_goto C 2 (zo_167 (p := 68) (k := (-66)) (a := 255) (b := 190) (zby_w zwX9_keepNow_2 4 rfl) (zby_w zwX9_keepNow_2 5 rfl) (zby_w zwX9_keepNow_2 6 rfl) (by decide)) (by decide) ?_
      exact zr_pick [1, 0] rfl (ih (v1 + 1) (wI σ11 81 ((18 : Int32) + v1).toNatClampNeg (σ11.1 73 v1.toNatClampNeg)) h)

def wp_X9_keepNow (σ : zST) (Post : zST → Prop) : Prop := ∃ M16 : Nat, wp_X9_keepNow_L2 (fun σ => ∀ σ13 : zST, σ13 = (wI σ 81 (24 : Int32).toNatClampNeg (σ.1 69 12)) → ∀ σ14 : zST, σ14 = (wI σ13 81 (25 : Int32).toNatClampNeg (σ13.1 69 15)) → ∀ σ15 : zST, σ15 = (wI σ14 81 (26 : Int32).toNatClampNeg (σ14.1 69 16)) → Post (wI σ15 81 (27 : Int32).toNatClampNeg (σ15.1 69 17))) M16 (0 : Int32) σ
set_option maxRecDepth 100000 in
set_option maxHeartbeats 4000000 in
theorem g_X9_keepNow {p : Program} {l : Launch} {e : Env} {R : Room} {s : State} {m : MethodId} {args : Array Value} {below : List Frame} {meth : Method} {c : Code} {Q : State → Prop} {g : zG} {n1 n2 : Nat} (C : zCX p R s m args meth c g n1 n2 cX9_keepNow 2 RX9 0 0) {σ : zST} {Post : zST → Prop} (hret : ∀ (σ : zST) (pc : Nat) (lv : List (Nat × Value)), Post σ → decode cX9_keepNow pc = .ok (.return_, 1) → zGG p l e R s m args below meth c Q g n1 n2 2 pc lv [] σ) (h : wp_X9_keepNow σ Post) : zGG p l e R s m args below meth c Q g n1 n2 2 0 [(0, .ref (g.2.1 69))] [] σ := by
  unfold wp_X9_keepNow at h
  refine zr_iconst C (0 : Int32) (zo_3 (p := 0) (zby_w zwX9_keepNow_0 0 rfl)) (by decide) ?_
  refine zr_istore_n C [(1, .int (0 : Int32)), (0, .ref (g.2.1 69))] (zo_60 (p := 1) (zby_w zwX9_keepNow_0 1 rfl)) (by decide) rfl ?_
  obtain ⟨M16, h⟩ := h
  exact zr_pick [1, 0] rfl (g_X9_keepNow_L2 C (fun σ h => by
      refine zr_aload_n C (zo_42 (p := 71) (zby_w zwX9_keepNow_2 7 rfl)) rfl ?_
      refine zr_getr (u := 81) C fw_X9_43 (sh_69) rfl (zo_180 (p := 72) (k := 43) (a := 0) (b := 43) (zby_w zwX9_keepNow_2 8 rfl) (zby_w zwX9_keepNow_2 9 rfl) (zby_w zwX9_keepNow_2 10 rfl) (by decide)) ?_
      refine zr_bipush C (24 : Int32) (zo_16 (p := 75) (k := 24) (a := 24) (zby_w zwX9_keepNow_2 11 rfl) (zby_w zwX9_keepNow_2 12 rfl) (by decide)) (by decide) ?_
      refine zr_aload_n C (zo_42 (p := 77) (zby_w zwX9_keepNow_2 13 rfl)) rfl ?_
      refine zr_geti C fw_X9_81 (sh_69) rfl (zo_180 (p := 78) (k := 81) (a := 0) (b := 81) (zby_w zwX9_keepNow_2 14 rfl) (zby_w zwX9_keepNow_2 15 rfl) (zby_w zwX9_keepNow_2 16 rfl) (by decide)) ?_
      refine zr_iast C (sh_81) (by unfold vp_in; decide) (zo_79 (p := 81) (zby_w zwX9_keepNow_2 17 rfl)) ?_
      refine zr_aload_n C (zo_42 (p := 82) (zby_w zwX9_keepNow_2 18 rfl)) rfl ?_
      refine zr_getr (u := 81) C fw_X9_43 (sh_69) rfl (zo_180 (p := 83) (k := 43) (a := 0) (b := 43) (zby_w zwX9_keepNow_2 19 rfl) (zby_w zwX9_keepNow_2 20 rfl) (zby_w zwX9_keepNow_2 21 rfl) (by decide)) ?_
      refine zr_bipush C (25 : Int32) (zo_16 (p := 86) (k := 25) (a := 25) (zby_w zwX9_keepNow_2 22 rfl) (zby_w zwX9_keepNow_2 23 rfl) (by decide)) (by decide) ?_
      refine zr_aload_n C (zo_42 (p := 88) (zby_w zwX9_keepNow_2 24 rfl)) rfl ?_
      refine zr_tops (fun σ13 hσ13 => ?_)
      replace h := h σ13 hσ13
      refine zr_geti C fw_X9_151 (sh_69) rfl (zo_180 (p := 89) (k := 151) (a := 0) (b := 151) (zby_w zwX9_keepNow_2 25 rfl) (zby_w zwX9_keepNow_2 26 rfl) (zby_w zwX9_keepNow_2 27 rfl) (by decide)) ?_
      refine zr_iast C (sh_81) (by unfold vp_in; decide) (zo_79 (p := 92) (zby_w zwX9_keepNow_2 28 rfl)) ?_
      refine zr_aload_n C (zo_42 (p := 93) (zby_w zwX9_keepNow_2 29 rfl)) rfl ?_
      refine zr_getr (u := 81) C fw_X9_43 (sh_69) rfl (zo_180 (p := 94) (k := 43) (a := 0) (b := 43) (zby_w zwX9_keepNow_2 30 rfl) (zby_w zwX9_keepNow_2 31 rfl) (zby_w zwX9_keepNow_2 32 rfl) (by decide)) ?_
      refine zr_bipush C (26 : Int32) (zo_16 (p := 97) (k := 26) (a := 26) (zby_w zwX9_keepNow_3 1 rfl) (zby_w zwX9_keepNow_3 2 rfl) (by decide)) (by decide) ?_
      refine zr_aload_n C (zo_42 (p := 99) (zby_w zwX9_keepNow_3 3 rfl)) rfl ?_
      refine zr_tops (fun σ14 hσ14 => ?_)
      replace h := h σ14 hσ14
      refine zr_geti C fw_X9_154 (sh_69) rfl (zo_180 (p := 100) (k := 154) (a := 0) (b := 154) (zby_w zwX9_keepNow_3 4 rfl) (zby_w zwX9_keepNow_3 5 rfl) (zby_w zwX9_keepNow_3 6 rfl) (by decide)) ?_
      refine zr_iast C (sh_81) (by unfold vp_in; decide) (zo_79 (p := 103) (zby_w zwX9_keepNow_3 7 rfl)) ?_
      refine zr_aload_n C (zo_42 (p := 104) (zby_w zwX9_keepNow_3 8 rfl)) rfl ?_
      refine zr_getr (u := 81) C fw_X9_43 (sh_69) rfl (zo_180 (p := 105) (k := 43) (a := 0) (b := 43) (zby_w zwX9_keepNow_3 9 rfl) (zby_w zwX9_keepNow_3 10 rfl) (zby_w zwX9_keepNow_3 11 rfl) (by decide)) ?_
      refine zr_bipush C (27 : Int32) (zo_16 (p := 108) (k := 27) (a := 27) (zby_w zwX9_keepNow_3 12 rfl) (zby_w zwX9_keepNow_3 13 rfl) (by decide)) (by decide) ?_
      refine zr_aload_n C (zo_42 (p := 110) (zby_w zwX9_keepNow_3 14 rfl)) rfl ?_
      refine zr_tops (fun σ15 hσ15 => ?_)
      replace h := h σ15 hσ15
      refine zr_geti C fw_X9_166 (sh_69) rfl (zo_180 (p := 111) (k := 166) (a := 0) (b := 166) (zby_w zwX9_keepNow_3 15 rfl) (zby_w zwX9_keepNow_3 16 rfl) (zby_w zwX9_keepNow_3 17 rfl) (by decide)) ?_
      refine zr_iast C (sh_81) (by unfold vp_in; decide) (zo_79 (p := 114) (zby_w zwX9_keepNow_3 18 rfl)) ?_
      exact hret _ _ _ h (zo_177 (p := 115) (zby_w zwX9_keepNow_3 19 rfl))) M16 (0 : Int32) σ h)
set_option maxRecDepth 20000 in
theorem c_X9_keepNow (l : Launch) (g : zG) (σ : zST) (Post : zST → Prop) (h : wp_X9_keepNow σ Post) : Met l yX9_keepNow (Cond.code yX9_keepNow cX9_keepNow 2 none :: zGW) (zRm 0 0) (va_Pc [.ref (g.2.1 69)] (zPP g σ)) (va_Qv Post (zBB g) (zA g)) 0 0 (zA g) :=
  zMet (by decide) (Nat.le_of_ble_eq_true rfl) (fun p e s m below meth c hr C => g_X9_keepNow C (fun σ pc lv hp hd => zr_vret C hr hp hd) h)
