def wp_X8_state (p1 : Int32) (p2 : Int32) (σ : zST) (Post : Int32 → Prop) : Prop := wp_X6_has 2 p1 σ (fun r1 => (if r1 = (0) then Post (-1 : Int32) else wp_X8_within p2 (0 : Int32) (2 : Int32) σ (fun r4 => (if r4 = (0) then Post (-2 : Int32) else wp_X6_look 2 p1 p2 σ (fun r7 => Post r7)))))
set_option maxRecDepth 100000 in
set_option maxHeartbeats 4000000 in
theorem g_X8_state {p : Program} {l : Launch} {e : Env} {R : Room} {s : State} {m : MethodId} {args : Array Value} {below : List Frame} {meth : Method} {c : Code} {Q : State → Prop} {g : zG} {n1 n2 : Nat} (C : zCX p R s m args meth c g n1 n2 cX8_state 3 RX8 2 43) {p1 : Int32} {p2 : Int32} {σ : zST} {Post : Int32 → Prop} (hret : ∀ (v : Int32) (pc : Nat) (lv : List (Nat × Value)), Post v → decode cX8_state pc = .ok (.ireturn, 1) → zGG p l e R s m args below meth c Q g n1 n2 3 pc lv [.int v] σ) (h : wp_X8_state p1 p2 σ Post) : zGG p l e R s m args below meth c Q g n1 n2 3 0 [(0, .ref (g.2.1 0)), (1, .int p1), (2, .int p2)] [] σ := by
  unfold wp_X8_state at h
  refine zr_aload_n C (zo_42 (p := 0) (zby_w zwX8_state_0 0 rfl)) rfl ?_
  refine zr_getr (u := 1) C fw_X8_10 (sh_0) rfl (zo_180 (p := 1) (k := 10) (a := 0) (b := 10) (zby_w zwX8_state_0 1 rfl) (zby_w zwX8_state_0 2 rfl) (zby_w zwX8_state_0 3 rfl) (by decide)) ?_
  refine zr_getr (u := 2) C fw_X8_51 (sh_1) rfl (zo_180 (p := 4) (k := 51) (a := 0) (b := 51) (zby_w zwX8_state_0 4 rfl) (zby_w zwX8_state_0 5 rfl) (zby_w zwX8_state_0 6 rfl) (by decide)) ?_
  refine zr_iload_n C (zo_27 (p := 7) (zby_w zwX8_state_0 7 rfl)) rfl ?_
  refine zr_cip (zr_runV (As := [.int p1]) (rest := []) C vw_X8_79 (c_X6_has l g 2 isX6_2 p1 σ _ h) (sh_2) rfl (by decide) (by decide) rfl rfl (Nat.le_of_ble_eq_true rfl) (zo_182 (p := 8) (k := 79) (a := 0) (b := 79) (zby_w zwX8_state_0 8 rfl) (zby_w zwX8_state_0 9 rfl) (zby_w zwX8_state_0 10 rfl) (by decide))) (fun r1 h => ?_)
  refine zr_if_ne C 16 (zo_154 (p := 11) (k := 5) (a := 0) (b := 5) (zby_w zwX8_state_0 11 rfl) (zby_w zwX8_state_0 12 rfl) (zby_w zwX8_state_0 13 rfl) (by decide)) (by decide) (fun hc3 => ?_) (fun hc3 => ?_)
  · rw [if_neg hc3] at h
    refine zr_iload_n C (zo_28 (p := 16) (zby_w zwX8_state_0 16 rfl)) rfl ?_
    refine zr_iconst C (0 : Int32) (zo_3 (p := 17) (zby_w zwX8_state_0 17 rfl)) (by decide) ?_
    refine zr_iconst C (2 : Int32) (zo_5 (p := 18) (zby_w zwX8_state_0 18 rfl)) (by decide) ?_
    refine zr_cip (zr_runS (As := [.int p2, .int (0 : Int32), .int (2 : Int32)]) (rest := []) C sw_X8_47 (c_X8_within l g p2 (0 : Int32) (2 : Int32) σ _ h) (by decide) (by decide) rfl rfl (Nat.le_of_ble_eq_true rfl) (zo_184 (p := 19) (k := 47) (a := 0) (b := 47) (zby_w zwX8_state_0 19 rfl) (zby_w zwX8_state_0 20 rfl) (zby_w zwX8_state_0 21 rfl) (by decide))) (fun r4 h => ?_)
    refine zr_if_ne C 28 (zo_154 (p := 22) (k := 6) (a := 0) (b := 6) (zby_w zwX8_state_0 22 rfl) (zby_w zwX8_state_0 23 rfl) (zby_w zwX8_state_0 24 rfl) (by decide)) (by decide) (fun hc6 => ?_) (fun hc6 => ?_)
    · rw [if_neg hc6] at h
      refine zr_aload_n C (zo_42 (p := 28) (zby_w zwX8_state_0 28 rfl)) rfl ?_
      refine zr_getr (u := 1) C fw_X8_10 (sh_0) rfl (zo_180 (p := 29) (k := 10) (a := 0) (b := 10) (zby_w zwX8_state_0 29 rfl) (zby_w zwX8_state_0 30 rfl) (zby_w zwX8_state_0 31 rfl) (by decide)) ?_
      refine zr_getr (u := 2) C fw_X8_51 (sh_1) rfl (zo_180 (p := 32) (k := 51) (a := 0) (b := 51) (zby_w zwX8_state_1 0 rfl) (zby_w zwX8_state_1 1 rfl) (zby_w zwX8_state_1 2 rfl) (by decide)) ?_
      refine zr_iload_n C (zo_27 (p := 35) (zby_w zwX8_state_1 3 rfl)) rfl ?_
      refine zr_iload_n C (zo_28 (p := 36) (zby_w zwX8_state_1 4 rfl)) rfl ?_
      refine zr_cip (zr_runV (As := [.int p1, .int p2]) (rest := []) C vw_X8_130 (c_X6_look l g 2 isX6_2 p1 p2 σ _ h) (sh_2) rfl (by decide) (by decide) rfl rfl (Nat.le_of_ble_eq_true rfl) (zo_182 (p := 37) (k := 130) (a := 0) (b := 130) (zby_w zwX8_state_1 5 rfl) (zby_w zwX8_state_1 6 rfl) (zby_w zwX8_state_1 7 rfl) (by decide))) (fun r7 h => ?_)
      exact hret _ _ _ h (zo_172 (p := 40) (zby_w zwX8_state_1 8 rfl))
    · rw [if_pos hc6] at h
      refine zr_bipush C (-2 : Int32) (zo_16 (p := 25) (k := (-2)) (a := 254) (zby_w zwX8_state_0 25 rfl) (zby_w zwX8_state_0 26 rfl) (by decide)) (by decide) ?_
      exact hret _ _ _ h (zo_172 (p := 27) (zby_w zwX8_state_0 27 rfl))
  · rw [if_pos hc3] at h
    refine zr_iconst C (-1 : Int32) (zo_2 (p := 14) (zby_w zwX8_state_0 14 rfl)) (by decide) ?_
    exact hret _ _ _ h (zo_172 (p := 15) (zby_w zwX8_state_0 15 rfl))
set_option maxRecDepth 20000 in
theorem c_X8_state (l : Launch) (g : zG) (p1 : Int32) (p2 : Int32) (σ : zST) (Post : Int32 → Prop) (h : wp_X8_state p1 p2 σ Post) : Met l yX8_state (Cond.code yX8_state cX8_state 3 (some .int) :: zGW) (zRm 2 43) (va_Pc [.ref (g.2.1 0), .int p1, .int p2] (zPP g σ)) (va_Qi (fun r u => Post r ∧ u = σ) (zBB g) (zA g)) 0 0 (zA g) :=
  zMet (by decide) (Nat.le_of_ble_eq_true rfl) (fun p e s m below meth c hr C => g_X8_state C (fun v pc lv hp hd => zr_iret C hr ⟨hp, rfl⟩ hd) h)
def wp_X8_seasonCanBe (σ : zST) (Post : Int32 → zST → Prop) : Prop := wp_X4_faultAsSeason σ (fun r1 => (if r1 = (-6 : Int32) then wp_X7_tryOut 2 σ (fun σ5 => ∀ z7 : Int32, z7 = (if (σ5.1 54 2) = (-6 : Int32) then (1 : Int32) else (0 : Int32)) → zB z7 ∧ Post z7 σ5) else Post (0 : Int32) σ))
set_option maxRecDepth 100000 in
set_option maxHeartbeats 4000000 in
theorem g_X8_seasonCanBe {p : Program} {l : Launch} {e : Env} {R : Room} {s : State} {m : MethodId} {args : Array Value} {below : List Frame} {meth : Method} {c : Code} {Q : State → Prop} {g : zG} {n1 n2 : Nat} (C : zCX p R s m args meth c g n1 n2 cX8_seasonCanBe 1 RX8 5 115) {σ : zST} {Post : Int32 → zST → Prop} (hret : ∀ (v : Int32) (σ : zST) (pc : Nat) (lv : List (Nat × Value)), zB v → Post v σ → decode cX8_seasonCanBe pc = .ok (.ireturn, 1) → zGG p l e R s m args below meth c Q g n1 n2 1 pc lv [.int v] σ) (h : wp_X8_seasonCanBe σ Post) : zGG p l e R s m args below meth c Q g n1 n2 1 0 [(0, .ref (g.2.1 0))] [] σ := by
  unfold wp_X8_seasonCanBe at h
  refine zr_aload_n C (zo_42 (p := 0) (zby_w zwX8_seasonCanBe_0 0 rfl)) rfl ?_
  refine zr_getr (u := 52) C fw_X8_29 (sh_0) rfl (zo_180 (p := 1) (k := 29) (a := 0) (b := 29) (zby_w zwX8_seasonCanBe_0 1 rfl) (zby_w zwX8_seasonCanBe_0 2 rfl) (zby_w zwX8_seasonCanBe_0 3 rfl) (by decide)) ?_
  refine zr_cip (zr_runV (As := []) (rest := []) C vw_X8_105 (c_X4_faultAsSeason l g σ _ h) (sh_52) rfl (by decide) (by decide) rfl rfl (Nat.le_of_ble_eq_true rfl) (zo_182 (p := 4) (k := 105) (a := 0) (b := 105) (zby_w zwX8_seasonCanBe_0 4 rfl) (zby_w zwX8_seasonCanBe_0 5 rfl) (zby_w zwX8_seasonCanBe_0 6 rfl) (by decide))) (fun r1 h => ?_)
  refine zr_bipush C (-6 : Int32) (zo_16 (p := 7) (k := (-6)) (a := 250) (zby_w zwX8_seasonCanBe_0 7 rfl) (zby_w zwX8_seasonCanBe_0 8 rfl) (by decide)) (by decide) ?_
  refine zr_icmp_eq C 14 (zo_159 (p := 9) (k := 5) (a := 0) (b := 5) (zby_w zwX8_seasonCanBe_0 9 rfl) (zby_w zwX8_seasonCanBe_0 10 rfl) (zby_w zwX8_seasonCanBe_0 11 rfl) (by decide)) (by decide) (fun hc3 => ?_) (fun hc3 => ?_)
  · rw [if_pos hc3] at h
    refine zr_aload_n C (zo_42 (p := 14) (zby_w zwX8_seasonCanBe_0 14 rfl)) rfl ?_
    refine zr_getr (u := 54) C fw_X8_36 (sh_0) rfl (zo_180 (p := 15) (k := 36) (a := 0) (b := 36) (zby_w zwX8_seasonCanBe_0 15 rfl) (zby_w zwX8_seasonCanBe_0 16 rfl) (zby_w zwX8_seasonCanBe_0 17 rfl) (by decide)) ?_
    refine zr_aload_n C (zo_42 (p := 18) (zby_w zwX8_seasonCanBe_0 18 rfl)) rfl ?_
    refine zr_getr (u := 52) C fw_X8_29 (sh_0) rfl (zo_180 (p := 19) (k := 29) (a := 0) (b := 29) (zby_w zwX8_seasonCanBe_0 19 rfl) (zby_w zwX8_seasonCanBe_0 20 rfl) (zby_w zwX8_seasonCanBe_0 21 rfl) (by decide)) ?_
    refine zr_aload_n C (zo_42 (p := 22) (zby_w zwX8_seasonCanBe_0 22 rfl)) rfl ?_
    refine zr_getr (u := 1) C fw_X8_10 (sh_0) rfl (zo_180 (p := 23) (k := 10) (a := 0) (b := 10) (zby_w zwX8_seasonCanBe_0 23 rfl) (zby_w zwX8_seasonCanBe_0 24 rfl) (zby_w zwX8_seasonCanBe_0 25 rfl) (by decide)) ?_
    refine zr_getr (u := 2) C fw_X8_51 (sh_1) rfl (zo_180 (p := 26) (k := 51) (a := 0) (b := 51) (zby_w zwX8_seasonCanBe_0 26 rfl) (zby_w zwX8_seasonCanBe_0 27 rfl) (zby_w zwX8_seasonCanBe_0 28 rfl) (by decide)) ?_
    refine zr_cv (zr_runV (As := [.ref (g.2.1 52), .ref (g.2.1 2)]) (rest := []) C vw_X8_120 (c_X7_tryOut l g 2 isX6_2 σ _ h) (sh_54) rfl (by decide) (by decide) rfl rfl (Nat.le_of_ble_eq_true rfl) (zo_182 (p := 29) (k := 120) (a := 0) (b := 120) (zby_w zwX8_seasonCanBe_0 29 rfl) (zby_w zwX8_seasonCanBe_0 30 rfl) (zby_w zwX8_seasonCanBe_0 31 rfl) (by decide))) (fun σ5 h => ?_)
    refine zr_aload_n C (zo_42 (p := 32) (zby_w zwX8_seasonCanBe_1 0 rfl)) rfl ?_
    refine zr_getr (u := 54) C fw_X8_36 (sh_0) rfl (zo_180 (p := 33) (k := 36) (a := 0) (b := 36) (zby_w zwX8_seasonCanBe_1 1 rfl) (zby_w zwX8_seasonCanBe_1 2 rfl) (zby_w zwX8_seasonCanBe_1 3 rfl) (by decide)) ?_
    refine zr_geti C fw_X8_124 (sh_54) rfl (zo_180 (p := 36) (k := 124) (a := 0) (b := 124) (zby_w zwX8_seasonCanBe_1 4 rfl) (zby_w zwX8_seasonCanBe_1 5 rfl) (zby_w zwX8_seasonCanBe_1 6 rfl) (by decide)) ?_
    refine zr_bipush C (-6 : Int32) (zo_16 (p := 39) (k := (-6)) (a := 250) (zby_w zwX8_seasonCanBe_1 7 rfl) (zby_w zwX8_seasonCanBe_1 8 rfl) (by decide)) (by decide) ?_
    have hJ8 : ∀ z7 : Int32, z7 = (if (σ5.1 54 2) = (-6 : Int32) then (1 : Int32) else (0 : Int32)) → zGG p l e R s m args below meth c Q g n1 n2 1 49 [(0, .ref (g.2.1 0))] [.int z7] σ5 := by
      intro z7 hz7
      replace h := h z7 hz7
      exact hret _ _ _ _ h.1 h.2 (zo_172 (p := 49) (zby_w zwX8_seasonCanBe_1 17 rfl))
    refine zr_icmp_ne C 48 (zo_160 (p := 41) (k := 7) (a := 0) (b := 7) (zby_w zwX8_seasonCanBe_1 9 rfl) (zby_w zwX8_seasonCanBe_1 10 rfl) (zby_w zwX8_seasonCanBe_1 11 rfl) (by decide)) (by decide) (fun hc6 => ?_) (fun hc6 => ?_)
    · skip
      refine zr_iconst C (0 : Int32) (zo_3 (p := 48) (zby_w zwX8_seasonCanBe_1 16 rfl)) (by decide) ?_
      exact hJ8 _ (by rw [if_neg hc6])
    · skip
      refine zr_iconst C (1 : Int32) (zo_4 (p := 44) (zby_w zwX8_seasonCanBe_1 12 rfl)) (by decide) ?_
      refine zr_goto C 49 (zo_167 (p := 45) (k := 4) (a := 0) (b := 4) (zby_w zwX8_seasonCanBe_1 13 rfl) (zby_w zwX8_seasonCanBe_1 14 rfl) (zby_w zwX8_seasonCanBe_1 15 rfl) (by decide)) (by decide) ?_
      exact hJ8 _ (by rw [if_pos hc6])
  · rw [if_neg hc3] at h
    refine zr_iconst C (0 : Int32) (zo_3 (p := 12) (zby_w zwX8_seasonCanBe_0 12 rfl)) (by decide) ?_
    exact hret _ _ _ _ rfl h (zo_172 (p := 13) (zby_w zwX8_seasonCanBe_0 13 rfl))
set_option maxRecDepth 20000 in
theorem c_X8_seasonCanBe (l : Launch) (g : zG) (σ : zST) (Post : Int32 → zST → Prop) (h : wp_X8_seasonCanBe σ Post) : Met l yX8_seasonCanBe (Cond.code yX8_seasonCanBe cX8_seasonCanBe 1 (some .boolean) :: zGW) (zRm 5 115) (va_Pc [.ref (g.2.1 0)] (zPP g σ)) (va_Qi Post (zBB g) (zA g)) 0 0 (zA g) :=
  zMet (by decide) (Nat.le_of_ble_eq_true rfl) (fun p e s m below meth c hr C => g_X8_seasonCanBe C (fun v σ pc lv hz hp hd => zr_zret C hr hz hp hd) h)
def wp_X8_behind (p1 : Int32) (p2 : Int32) (σ : zST) (Post : Int32 → zST → Prop) : Prop := wp_X6_has 2 p1 σ (fun r1 => (if r1 = (0) then Post (-1 : Int32) σ else wp_X8_within p2 (0 : Int32) (2 : Int32) σ (fun r4 => (if r4 = (0) then Post (-2 : Int32) σ else wp_X8_seasonCanBe σ (fun r7 σ8 => (if r7 = (0) then Post (-5 : Int32) σ8 else wp_X6_look 55 p1 p2 σ8 (fun r10 => Post r10 σ8)))))))
set_option maxRecDepth 100000 in
set_option maxHeartbeats 4000000 in
theorem g_X8_behind {p : Program} {l : Launch} {e : Env} {R : Room} {s : State} {m : MethodId} {args : Array Value} {below : List Frame} {meth : Method} {c : Code} {Q : State → Prop} {g : zG} {n1 n2 : Nat} (C : zCX p R s m args meth c g n1 n2 cX8_behind 3 RX8 6 135) {p1 : Int32} {p2 : Int32} {σ : zST} {Post : Int32 → zST → Prop} (hret : ∀ (v : Int32) (σ : zST) (pc : Nat) (lv : List (Nat × Value)), Post v σ → decode cX8_behind pc = .ok (.ireturn, 1) → zGG p l e R s m args below meth c Q g n1 n2 3 pc lv [.int v] σ) (h : wp_X8_behind p1 p2 σ Post) : zGG p l e R s m args below meth c Q g n1 n2 3 0 [(0, .ref (g.2.1 0)), (1, .int p1), (2, .int p2)] [] σ := by
  unfold wp_X8_behind at h
  refine zr_aload_n C (zo_42 (p := 0) (zby_w zwX8_behind_0 0 rfl)) rfl ?_
  refine zr_getr (u := 1) C fw_X8_10 (sh_0) rfl (zo_180 (p := 1) (k := 10) (a := 0) (b := 10) (zby_w zwX8_behind_0 1 rfl) (zby_w zwX8_behind_0 2 rfl) (zby_w zwX8_behind_0 3 rfl) (by decide)) ?_
  refine zr_getr (u := 2) C fw_X8_51 (sh_1) rfl (zo_180 (p := 4) (k := 51) (a := 0) (b := 51) (zby_w zwX8_behind_0 4 rfl) (zby_w zwX8_behind_0 5 rfl) (zby_w zwX8_behind_0 6 rfl) (by decide)) ?_
  refine zr_iload_n C (zo_27 (p := 7) (zby_w zwX8_behind_0 7 rfl)) rfl ?_
  refine zr_cip (zr_runV (As := [.int p1]) (rest := []) C vw_X8_79 (c_X6_has l g 2 isX6_2 p1 σ _ h) (sh_2) rfl (by decide) (by decide) rfl rfl (Nat.le_of_ble_eq_true rfl) (zo_182 (p := 8) (k := 79) (a := 0) (b := 79) (zby_w zwX8_behind_0 8 rfl) (zby_w zwX8_behind_0 9 rfl) (zby_w zwX8_behind_0 10 rfl) (by decide))) (fun r1 h => ?_)
  refine zr_if_ne C 16 (zo_154 (p := 11) (k := 5) (a := 0) (b := 5) (zby_w zwX8_behind_0 11 rfl) (zby_w zwX8_behind_0 12 rfl) (zby_w zwX8_behind_0 13 rfl) (by decide)) (by decide) (fun hc3 => ?_) (fun hc3 => ?_)
  · rw [if_neg hc3] at h
    refine zr_iload_n C (zo_28 (p := 16) (zby_w zwX8_behind_0 16 rfl)) rfl ?_
    refine zr_iconst C (0 : Int32) (zo_3 (p := 17) (zby_w zwX8_behind_0 17 rfl)) (by decide) ?_
    refine zr_iconst C (2 : Int32) (zo_5 (p := 18) (zby_w zwX8_behind_0 18 rfl)) (by decide) ?_
    refine zr_cip (zr_runS (As := [.int p2, .int (0 : Int32), .int (2 : Int32)]) (rest := []) C sw_X8_47 (c_X8_within l g p2 (0 : Int32) (2 : Int32) σ _ h) (by decide) (by decide) rfl rfl (Nat.le_of_ble_eq_true rfl) (zo_184 (p := 19) (k := 47) (a := 0) (b := 47) (zby_w zwX8_behind_0 19 rfl) (zby_w zwX8_behind_0 20 rfl) (zby_w zwX8_behind_0 21 rfl) (by decide))) (fun r4 h => ?_)
    refine zr_if_ne C 28 (zo_154 (p := 22) (k := 6) (a := 0) (b := 6) (zby_w zwX8_behind_0 22 rfl) (zby_w zwX8_behind_0 23 rfl) (zby_w zwX8_behind_0 24 rfl) (by decide)) (by decide) (fun hc6 => ?_) (fun hc6 => ?_)
    · rw [if_neg hc6] at h
      refine zr_aload_n C (zo_42 (p := 28) (zby_w zwX8_behind_0 28 rfl)) rfl ?_
      refine zr_ci (zr_runV (As := []) (rest := []) C vw_X8_133 (c_X8_seasonCanBe l g σ _ h) (sh_0) rfl (by decide) (by decide) rfl rfl (Nat.le_of_ble_eq_true rfl) (zo_182 (p := 29) (k := 133) (a := 0) (b := 133) (zby_w zwX8_behind_0 29 rfl) (zby_w zwX8_behind_0 30 rfl) (zby_w zwX8_behind_0 31 rfl) (by decide))) (fun r7 σ8 h => ?_)
      refine zr_if_eq C 50 (zo_153 (p := 32) (k := 18) (a := 0) (b := 18) (zby_w zwX8_behind_1 0 rfl) (zby_w zwX8_behind_1 1 rfl) (zby_w zwX8_behind_1 2 rfl) (by decide)) (by decide) (fun hc9 => ?_) (fun hc9 => ?_)
      · rw [if_pos hc9] at h
        refine zr_bipush C (-5 : Int32) (zo_16 (p := 50) (k := (-5)) (a := 251) (zby_w zwX8_behind_1 18 rfl) (zby_w zwX8_behind_1 19 rfl) (by decide)) (by decide) ?_
        exact hret _ _ _ _ h d_X8_behind_52
      · rw [if_neg hc9] at h
        refine zr_aload_n C (zo_42 (p := 35) (zby_w zwX8_behind_1 3 rfl)) rfl ?_
        refine zr_getr (u := 54) C fw_X8_36 (sh_0) rfl (zo_180 (p := 36) (k := 36) (a := 0) (b := 36) (zby_w zwX8_behind_1 4 rfl) (zby_w zwX8_behind_1 5 rfl) (zby_w zwX8_behind_1 6 rfl) (by decide)) ?_
        refine zr_getr (u := 55) C fw_X8_137 (sh_54) rfl (zo_180 (p := 39) (k := 137) (a := 0) (b := 137) (zby_w zwX8_behind_1 7 rfl) (zby_w zwX8_behind_1 8 rfl) (zby_w zwX8_behind_1 9 rfl) (by decide)) ?_
        refine zr_iload_n C (zo_27 (p := 42) (zby_w zwX8_behind_1 10 rfl)) rfl ?_
        refine zr_iload_n C (zo_28 (p := 43) (zby_w zwX8_behind_1 11 rfl)) rfl ?_
        refine zr_cip (zr_runV (As := [.int p1, .int p2]) (rest := []) C vw_X8_130 (c_X6_look l g 55 isX6_55 p1 p2 σ8 _ h) (sh_55) rfl (by decide) (by decide) rfl rfl (Nat.le_of_ble_eq_true rfl) (zo_182 (p := 44) (k := 130) (a := 0) (b := 130) (zby_w zwX8_behind_1 12 rfl) (zby_w zwX8_behind_1 13 rfl) (zby_w zwX8_behind_1 14 rfl) (by decide))) (fun r10 h => ?_)
        refine zr_goto C 52 (zo_167 (p := 47) (k := 5) (a := 0) (b := 5) (zby_w zwX8_behind_1 15 rfl) (zby_w zwX8_behind_1 16 rfl) (zby_w zwX8_behind_1 17 rfl) (by decide)) (by decide) ?_
        exact hret _ _ _ _ h d_X8_behind_52
    · rw [if_pos hc6] at h
      refine zr_bipush C (-2 : Int32) (zo_16 (p := 25) (k := (-2)) (a := 254) (zby_w zwX8_behind_0 25 rfl) (zby_w zwX8_behind_0 26 rfl) (by decide)) (by decide) ?_
      exact hret _ _ _ _ h (zo_172 (p := 27) (zby_w zwX8_behind_0 27 rfl))
  · rw [if_pos hc3] at h
    refine zr_iconst C (-1 : Int32) (zo_2 (p := 14) (zby_w zwX8_behind_0 14 rfl)) (by decide) ?_
    exact hret _ _ _ _ h (zo_172 (p := 15) (zby_w zwX8_behind_0 15 rfl))
set_option maxRecDepth 20000 in
theorem c_X8_behind (l : Launch) (g : zG) (p1 : Int32) (p2 : Int32) (σ : zST) (Post : Int32 → zST → Prop) (h : wp_X8_behind p1 p2 σ Post) : Met l yX8_behind (Cond.code yX8_behind cX8_behind 3 (some .int) :: zGW) (zRm 6 135) (va_Pc [.ref (g.2.1 0), .int p1, .int p2] (zPP g σ)) (va_Qi Post (zBB g) (zA g)) 0 0 (zA g) :=
  zMet (by decide) (Nat.le_of_ble_eq_true rfl) (fun p e s m below meth c hr C => g_X8_behind C (fun v σ pc lv hp hd => zr_iret C hr hp hd) h)
def wp_X8_done (σ : zST) (Post : Int32 → zST → Prop) : Prop := wp_X8_seasonCanBe σ (fun r1 σ2 => (if r1 = (0) then Post (-5 : Int32) σ2 else wp_X6_become 2 55 σ2 (fun σ5 => wp_X4_clear σ5 (fun r6 σ7 => Post (σ7.1 54 1) σ7))))
set_option maxRecDepth 100000 in
set_option maxHeartbeats 4000000 in
theorem g_X8_done {p : Program} {l : Launch} {e : Env} {R : Room} {s : State} {m : MethodId} {args : Array Value} {below : List Frame} {meth : Method} {c : Code} {Q : State → Prop} {g : zG} {n1 n2 : Nat} (C : zCX p R s m args meth c g n1 n2 cX8_done 1 RX8 6 135) {σ : zST} {Post : Int32 → zST → Prop} (hret : ∀ (v : Int32) (σ : zST) (pc : Nat) (lv : List (Nat × Value)), Post v σ → decode cX8_done pc = .ok (.ireturn, 1) → zGG p l e R s m args below meth c Q g n1 n2 1 pc lv [.int v] σ) (h : wp_X8_done σ Post) : zGG p l e R s m args below meth c Q g n1 n2 1 0 [(0, .ref (g.2.1 0))] [] σ := by
  unfold wp_X8_done at h
  refine zr_aload_n C (zo_42 (p := 0) (zby_w zwX8_done_0 0 rfl)) rfl ?_
  refine zr_ci (zr_runV (As := []) (rest := []) C vw_X8_133 (c_X8_seasonCanBe l g σ _ h) (sh_0) rfl (by decide) (by decide) rfl rfl (Nat.le_of_ble_eq_true rfl) (zo_182 (p := 1) (k := 133) (a := 0) (b := 133) (zby_w zwX8_done_0 1 rfl) (zby_w zwX8_done_0 2 rfl) (zby_w zwX8_done_0 3 rfl) (by decide))) (fun r1 σ2 h => ?_)
  refine zr_if_ne C 10 (zo_154 (p := 4) (k := 6) (a := 0) (b := 6) (zby_w zwX8_done_0 4 rfl) (zby_w zwX8_done_0 5 rfl) (zby_w zwX8_done_0 6 rfl) (by decide)) (by decide) (fun hc3 => ?_) (fun hc3 => ?_)
  · rw [if_neg hc3] at h
    refine zr_aload_n C (zo_42 (p := 10) (zby_w zwX8_done_0 10 rfl)) rfl ?_
    refine zr_getr (u := 1) C fw_X8_10 (sh_0) rfl (zo_180 (p := 11) (k := 10) (a := 0) (b := 10) (zby_w zwX8_done_0 11 rfl) (zby_w zwX8_done_0 12 rfl) (zby_w zwX8_done_0 13 rfl) (by decide)) ?_
    refine zr_getr (u := 2) C fw_X8_51 (sh_1) rfl (zo_180 (p := 14) (k := 51) (a := 0) (b := 51) (zby_w zwX8_done_0 14 rfl) (zby_w zwX8_done_0 15 rfl) (zby_w zwX8_done_0 16 rfl) (by decide)) ?_
    refine zr_aload_n C (zo_42 (p := 17) (zby_w zwX8_done_0 17 rfl)) rfl ?_
    refine zr_getr (u := 54) C fw_X8_36 (sh_0) rfl (zo_180 (p := 18) (k := 36) (a := 0) (b := 36) (zby_w zwX8_done_0 18 rfl) (zby_w zwX8_done_0 19 rfl) (zby_w zwX8_done_0 20 rfl) (by decide)) ?_
    refine zr_getr (u := 55) C fw_X8_137 (sh_54) rfl (zo_180 (p := 21) (k := 137) (a := 0) (b := 137) (zby_w zwX8_done_0 21 rfl) (zby_w zwX8_done_0 22 rfl) (zby_w zwX8_done_0 23 rfl) (by decide)) ?_
    refine zr_cv (zr_runV (As := [.ref (g.2.1 55)]) (rest := []) C vw_X8_138 (c_X6_become l g 2 isX6_2 55 isX6_55 σ2 _ h) (sh_2) rfl (by decide) (by decide) rfl rfl (Nat.le_of_ble_eq_true rfl) (zo_182 (p := 24) (k := 138) (a := 0) (b := 138) (zby_w zwX8_done_0 24 rfl) (zby_w zwX8_done_0 25 rfl) (zby_w zwX8_done_0 26 rfl) (by decide))) (fun σ5 h => ?_)
    refine zr_aload_n C (zo_42 (p := 27) (zby_w zwX8_done_0 27 rfl)) rfl ?_
    refine zr_getr (u := 52) C fw_X8_29 (sh_0) rfl (zo_180 (p := 28) (k := 29) (a := 0) (b := 29) (zby_w zwX8_done_0 28 rfl) (zby_w zwX8_done_0 29 rfl) (zby_w zwX8_done_0 30 rfl) (by decide)) ?_
    refine zr_ci (zr_runV (As := []) (rest := []) C vw_X8_98 (c_X4_clear l g σ5 _ h) (sh_52) rfl (by decide) (by decide) rfl rfl (Nat.le_of_ble_eq_true rfl) (zo_182 (p := 31) (k := 98) (a := 0) (b := 98) (zby_w zwX8_done_0 31 rfl) (zby_w zwX8_done_0 32 rfl) (zby_w zwX8_done_0 33 rfl) (by decide))) (fun r6 σ7 h => ?_)
    refine zr_pop C (zo_87 (p := 34) (zby_w zwX8_done_1 2 rfl)) rfl ?_
    refine zr_aload_n C (zo_42 (p := 35) (zby_w zwX8_done_1 3 rfl)) rfl ?_
    refine zr_getr (u := 54) C fw_X8_36 (sh_0) rfl (zo_180 (p := 36) (k := 36) (a := 0) (b := 36) (zby_w zwX8_done_1 4 rfl) (zby_w zwX8_done_1 5 rfl) (zby_w zwX8_done_1 6 rfl) (by decide)) ?_
    refine zr_geti C fw_X8_127 (sh_54) rfl (zo_180 (p := 39) (k := 127) (a := 0) (b := 127) (zby_w zwX8_done_1 7 rfl) (zby_w zwX8_done_1 8 rfl) (zby_w zwX8_done_1 9 rfl) (by decide)) ?_
    exact hret _ _ _ _ h (zo_172 (p := 42) (zby_w zwX8_done_1 10 rfl))
  · rw [if_pos hc3] at h
    refine zr_bipush C (-5 : Int32) (zo_16 (p := 7) (k := (-5)) (a := 251) (zby_w zwX8_done_0 7 rfl) (zby_w zwX8_done_0 8 rfl) (by decide)) (by decide) ?_
    exact hret _ _ _ _ h (zo_172 (p := 9) (zby_w zwX8_done_0 9 rfl))
set_option maxRecDepth 20000 in
theorem c_X8_done (l : Launch) (g : zG) (σ : zST) (Post : Int32 → zST → Prop) (h : wp_X8_done σ Post) : Met l yX8_done (Cond.code yX8_done cX8_done 1 (some .int) :: zGW) (zRm 6 135) (va_Pc [.ref (g.2.1 0)] (zPP g σ)) (va_Qi Post (zBB g) (zA g)) 0 0 (zA g) :=
  zMet (by decide) (Nat.le_of_ble_eq_true rfl) (fun p e s m below meth c hr C => g_X8_done C (fun v σ pc lv hp hd => zr_iret C hr hp hd) h)
def wp_X8_sum (p1 : Int32) (σ : zST) (Post : Int32 → Prop) : Prop := wp_X8_within p1 (0 : Int32) (2 : Int32) σ (fun r1 => (if r1 = (0) then True else vp_in p1 3 ∧ True) ∧ ∀ z4 : Int32, z4 = (if r1 = (0) then (-2 : Int32) else (σ.1 9 p1.toNatClampNeg)) → Post z4)
set_option maxRecDepth 100000 in
set_option maxHeartbeats 4000000 in
theorem g_X8_sum {p : Program} {l : Launch} {e : Env} {R : Room} {s : State} {m : MethodId} {args : Array Value} {below : List Frame} {meth : Method} {c : Code} {Q : State → Prop} {g : zG} {n1 n2 : Nat} (C : zCX p R s m args meth c g n1 n2 cX8_sum 2 RX8 1 22) {p1 : Int32} {σ : zST} {Post : Int32 → Prop} (hret : ∀ (v : Int32) (pc : Nat) (lv : List (Nat × Value)), Post v → decode cX8_sum pc = .ok (.ireturn, 1) → zGG p l e R s m args below meth c Q g n1 n2 2 pc lv [.int v] σ) (h : wp_X8_sum p1 σ Post) : zGG p l e R s m args below meth c Q g n1 n2 2 0 [(0, .ref (g.2.1 0)), (1, .int p1)] [] σ := by
  unfold wp_X8_sum at h
  refine zr_iload_n C (zo_27 (p := 0) (zby_w zwX8_sum_0 0 rfl)) rfl ?_
  refine zr_iconst C (0 : Int32) (zo_3 (p := 1) (zby_w zwX8_sum_0 1 rfl)) (by decide) ?_
  refine zr_iconst C (2 : Int32) (zo_5 (p := 2) (zby_w zwX8_sum_0 2 rfl)) (by decide) ?_
  refine zr_cip (zr_runS (As := [.int p1, .int (0 : Int32), .int (2 : Int32)]) (rest := []) C sw_X8_47 (c_X8_within l g p1 (0 : Int32) (2 : Int32) σ _ h) (by decide) (by decide) rfl rfl (Nat.le_of_ble_eq_true rfl) (zo_184 (p := 3) (k := 47) (a := 0) (b := 47) (zby_w zwX8_sum_0 3 rfl) (zby_w zwX8_sum_0 4 rfl) (zby_w zwX8_sum_0 5 rfl) (by decide))) (fun r1 h => ?_)
  obtain ⟨ho6, h⟩ := h
  have hJ5 : ∀ z4 : Int32, z4 = (if r1 = (0) then (-2 : Int32) else (σ.1 9 p1.toNatClampNeg)) → zGG p l e R s m args below meth c Q g n1 n2 2 26 [(0, .ref (g.2.1 0)), (1, .int p1)] [.int z4] σ := by
    intro z4 hz4
    replace h := h z4 hz4
    exact hret _ _ _ h (zo_172 (p := 26) (zby_w zwX8_sum_0 26 rfl))
  refine zr_if_eq C 24 (zo_153 (p := 6) (k := 18) (a := 0) (b := 18) (zby_w zwX8_sum_0 6 rfl) (zby_w zwX8_sum_0 7 rfl) (zby_w zwX8_sum_0 8 rfl) (by decide)) (by decide) (fun hc3 => ?_) (fun hc3 => ?_)
  · skip
    rw [if_pos hc3] at ho6
    refine zr_bipush C (-2 : Int32) (zo_16 (p := 24) (k := (-2)) (a := 254) (zby_w zwX8_sum_0 24 rfl) (zby_w zwX8_sum_0 25 rfl) (by decide)) (by decide) ?_
    exact hJ5 _ (by rw [if_pos hc3])
  · skip
    rw [if_neg hc3] at ho6
    refine zr_aload_n C (zo_42 (p := 9) (zby_w zwX8_sum_0 9 rfl)) rfl ?_
    refine zr_getr (u := 1) C fw_X8_10 (sh_0) rfl (zo_180 (p := 10) (k := 10) (a := 0) (b := 10) (zby_w zwX8_sum_0 10 rfl) (zby_w zwX8_sum_0 11 rfl) (zby_w zwX8_sum_0 12 rfl) (by decide)) ?_
    refine zr_getr (u := 2) C fw_X8_51 (sh_1) rfl (zo_180 (p := 13) (k := 51) (a := 0) (b := 51) (zby_w zwX8_sum_0 13 rfl) (zby_w zwX8_sum_0 14 rfl) (zby_w zwX8_sum_0 15 rfl) (by decide)) ?_
    refine zr_getr (u := 9) C fw_X8_142 (sh_2) rfl (zo_180 (p := 16) (k := 142) (a := 0) (b := 142) (zby_w zwX8_sum_0 16 rfl) (zby_w zwX8_sum_0 17 rfl) (zby_w zwX8_sum_0 18 rfl) (by decide)) ?_
    refine zr_iload_n C (zo_27 (p := 19) (zby_w zwX8_sum_0 19 rfl)) rfl ?_
    obtain ⟨ho7, ho6⟩ := ho6
    refine zr_iald C (sh_9) ho7 (zo_46 (p := 20) (zby_w zwX8_sum_0 20 rfl)) ?_
    refine zr_goto C 26 (zo_167 (p := 21) (k := 5) (a := 0) (b := 5) (zby_w zwX8_sum_0 21 rfl) (zby_w zwX8_sum_0 22 rfl) (zby_w zwX8_sum_0 23 rfl) (by decide)) (by decide) ?_
    exact hJ5 _ (by rw [if_neg hc3])
set_option maxRecDepth 20000 in
theorem c_X8_sum (l : Launch) (g : zG) (p1 : Int32) (σ : zST) (Post : Int32 → Prop) (h : wp_X8_sum p1 σ Post) : Met l yX8_sum (Cond.code yX8_sum cX8_sum 2 (some .int) :: zGW) (zRm 1 22) (va_Pc [.ref (g.2.1 0), .int p1] (zPP g σ)) (va_Qi (fun r u => Post r ∧ u = σ) (zBB g) (zA g)) 0 0 (zA g) :=
  zMet (by decide) (Nat.le_of_ble_eq_true rfl) (fun p e s m below meth c hr C => g_X8_sum C (fun v pc lv hp hd => zr_iret C hr ⟨hp, rfl⟩ hd) h)
def wp_X8_isHour (p0 : Int32) (σ : zST) (Post : Int32 → Prop) : Prop := wp_X8_within p0 (0 : Int32) (999 : Int32) σ (fun r1 => zB r1 ∧ Post r1)
set_option maxRecDepth 100000 in
set_option maxHeartbeats 4000000 in
theorem g_X8_isHour {p : Program} {l : Launch} {e : Env} {R : Room} {s : State} {m : MethodId} {args : Array Value} {below : List Frame} {meth : Method} {c : Code} {Q : State → Prop} {g : zG} {n1 n2 : Nat} (C : zCX p R s m args meth c g n1 n2 cX8_isHour 1 RX8 1 22) {p0 : Int32} {σ : zST} {Post : Int32 → Prop} (hret : ∀ (v : Int32) (pc : Nat) (lv : List (Nat × Value)), zB v → Post v → decode cX8_isHour pc = .ok (.ireturn, 1) → zGG p l e R s m args below meth c Q g n1 n2 1 pc lv [.int v] σ) (h : wp_X8_isHour p0 σ Post) : zGG p l e R s m args below meth c Q g n1 n2 1 0 [(0, .int p0)] [] σ := by
  unfold wp_X8_isHour at h
  refine zr_iload_n C (zo_26 (p := 0) (zby_w zwX8_isHour_0 0 rfl)) rfl ?_
  refine zr_iconst C (0 : Int32) (zo_3 (p := 1) (zby_w zwX8_isHour_0 1 rfl)) (by decide) ?_
  refine zr_sipush C (999 : Int32) (zo_17 (p := 2) (k := 999) (a := 3) (b := 231) (zby_w zwX8_isHour_0 2 rfl) (zby_w zwX8_isHour_0 3 rfl) (zby_w zwX8_isHour_0 4 rfl) (by decide)) (by decide) ?_
  refine zr_cip (zr_runS (As := [.int p0, .int (0 : Int32), .int (999 : Int32)]) (rest := []) C sw_X8_47 (c_X8_within l g p0 (0 : Int32) (999 : Int32) σ _ h) (by decide) (by decide) rfl rfl (Nat.le_of_ble_eq_true rfl) (zo_184 (p := 5) (k := 47) (a := 0) (b := 47) (zby_w zwX8_isHour_0 5 rfl) (zby_w zwX8_isHour_0 6 rfl) (zby_w zwX8_isHour_0 7 rfl) (by decide))) (fun r1 h => ?_)
  exact hret _ _ _ h.1 h.2 (zo_172 (p := 8) (zby_w zwX8_isHour_0 8 rfl))
set_option maxRecDepth 20000 in
theorem c_X8_isHour (l : Launch) (g : zG) (p0 : Int32) (σ : zST) (Post : Int32 → Prop) (h : wp_X8_isHour p0 σ Post) : Met l yX8_isHour (Cond.code yX8_isHour cX8_isHour 1 (some .boolean) :: zGW) (zRm 1 22) (va_Pc [.int p0] (zPP g σ)) (va_Qi (fun r u => Post r ∧ u = σ) (zBB g) (zA g)) 0 0 (zA g) :=
  zMet (by decide) (Nat.le_of_ble_eq_true rfl) (fun p e s m below meth c hr C => g_X8_isHour C (fun v pc lv hz hp hd => zr_zret C hr hz ⟨hp, rfl⟩ hd) h)
def wp_X8_mean (p1 : Int32) (p2 : Int32) (p3 : Int32) (σ : zST) (Post : Int32 → Prop) : Prop := wp_X6_has 2 p1 σ (fun r1 => (if r1 = (0) then Post (-1 : Int32) else wp_X8_within p2 (0 : Int32) (2 : Int32) σ (fun r4 => (if r4 = (0) then Post (-2 : Int32) else wp_X8_isHour p3 σ (fun r7 => (if r7 = (0) then Post (-2 : Int32) else wp_X6_meanBy 2 p1 p2 p3 σ (fun r10 => Post r10)))))))
set_option maxRecDepth 100000 in
set_option maxHeartbeats 4000000 in
theorem g_X8_mean {p : Program} {l : Launch} {e : Env} {R : Room} {s : State} {m : MethodId} {args : Array Value} {below : List Frame} {meth : Method} {c : Code} {Q : State → Prop} {g : zG} {n1 n2 : Nat} (C : zCX p R s m args meth c g n1 n2 cX8_mean 4 RX8 4 90) {p1 : Int32} {p2 : Int32} {p3 : Int32} {σ : zST} {Post : Int32 → Prop} (hret : ∀ (v : Int32) (pc : Nat) (lv : List (Nat × Value)), Post v → decode cX8_mean pc = .ok (.ireturn, 1) → zGG p l e R s m args below meth c Q g n1 n2 4 pc lv [.int v] σ) (h : wp_X8_mean p1 p2 p3 σ Post) : zGG p l e R s m args below meth c Q g n1 n2 4 0 [(0, .ref (g.2.1 0)), (1, .int p1), (2, .int p2), (3, .int p3)] [] σ := by
  unfold wp_X8_mean at h
  refine zr_aload_n C (zo_42 (p := 0) (zby_w zwX8_mean_0 0 rfl)) rfl ?_
  refine zr_getr (u := 1) C fw_X8_10 (sh_0) rfl (zo_180 (p := 1) (k := 10) (a := 0) (b := 10) (zby_w zwX8_mean_0 1 rfl) (zby_w zwX8_mean_0 2 rfl) (zby_w zwX8_mean_0 3 rfl) (by decide)) ?_
  refine zr_getr (u := 2) C fw_X8_51 (sh_1) rfl (zo_180 (p := 4) (k := 51) (a := 0) (b := 51) (zby_w zwX8_mean_0 4 rfl) (zby_w zwX8_mean_0 5 rfl) (zby_w zwX8_mean_0 6 rfl) (by decide)) ?_
  refine zr_iload_n C (zo_27 (p := 7) (zby_w zwX8_mean_0 7 rfl)) rfl ?_
  refine zr_cip (zr_runV (As := [.int p1]) (rest := []) C vw_X8_79 (c_X6_has l g 2 isX6_2 p1 σ _ h) (sh_2) rfl (by decide) (by decide) rfl rfl (Nat.le_of_ble_eq_true rfl) (zo_182 (p := 8) (k := 79) (a := 0) (b := 79) (zby_w zwX8_mean_0 8 rfl) (zby_w zwX8_mean_0 9 rfl) (zby_w zwX8_mean_0 10 rfl) (by decide))) (fun r1 h => ?_)
  refine zr_if_ne C 16 (zo_154 (p := 11) (k := 5) (a := 0) (b := 5) (zby_w zwX8_mean_0 11 rfl) (zby_w zwX8_mean_0 12 rfl) (zby_w zwX8_mean_0 13 rfl) (by decide)) (by decide) (fun hc3 => ?_) (fun hc3 => ?_)
  · rw [if_neg hc3] at h
    refine zr_iload_n C (zo_28 (p := 16) (zby_w zwX8_mean_0 16 rfl)) rfl ?_
    refine zr_iconst C (0 : Int32) (zo_3 (p := 17) (zby_w zwX8_mean_0 17 rfl)) (by decide) ?_
    refine zr_iconst C (2 : Int32) (zo_5 (p := 18) (zby_w zwX8_mean_0 18 rfl)) (by decide) ?_
    refine zr_cip (zr_runS (As := [.int p2, .int (0 : Int32), .int (2 : Int32)]) (rest := []) C sw_X8_47 (c_X8_within l g p2 (0 : Int32) (2 : Int32) σ _ h) (by decide) (by decide) rfl rfl (Nat.le_of_ble_eq_true rfl) (zo_184 (p := 19) (k := 47) (a := 0) (b := 47) (zby_w zwX8_mean_0 19 rfl) (zby_w zwX8_mean_0 20 rfl) (zby_w zwX8_mean_0 21 rfl) (by decide))) (fun r4 h => ?_)
    refine zr_if_eq C 32 (zo_153 (p := 22) (k := 10) (a := 0) (b := 10) (zby_w zwX8_mean_0 22 rfl) (zby_w zwX8_mean_0 23 rfl) (zby_w zwX8_mean_0 24 rfl) (by decide)) (by decide) (fun hc6 => ?_) (fun hc6 => ?_)
    · rw [if_pos hc6] at h
      refine zr_bipush C (-2 : Int32) d_X8_mean_32 (by decide) ?_
      exact hret _ _ _ h d_X8_mean_34
    · rw [if_neg hc6] at h
      refine zr_iload_n C (zo_29 (p := 25) (zby_w zwX8_mean_0 25 rfl)) rfl ?_
      refine zr_cip (zr_runS (As := [.int p3]) (rest := []) C sw_X8_145 (c_X8_isHour l g p3 σ _ h) (by decide) (by decide) rfl rfl (Nat.le_of_ble_eq_true rfl) (zo_184 (p := 26) (k := 145) (a := 0) (b := 145) (zby_w zwX8_mean_0 26 rfl) (zby_w zwX8_mean_0 27 rfl) (zby_w zwX8_mean_0 28 rfl) (by decide))) (fun r7 h => ?_)
      refine zr_if_ne C 35 (zo_154 (p := 29) (k := 6) (a := 0) (b := 6) (zby_w zwX8_mean_0 29 rfl) (zby_w zwX8_mean_0 30 rfl) (zby_w zwX8_mean_0 31 rfl) (by decide)) (by decide) (fun hc9 => ?_) (fun hc9 => ?_)
      · rw [if_neg hc9] at h
        refine zr_aload_n C (zo_42 (p := 35) (zby_w zwX8_mean_1 3 rfl)) rfl ?_
        refine zr_getr (u := 1) C fw_X8_10 (sh_0) rfl (zo_180 (p := 36) (k := 10) (a := 0) (b := 10) (zby_w zwX8_mean_1 4 rfl) (zby_w zwX8_mean_1 5 rfl) (zby_w zwX8_mean_1 6 rfl) (by decide)) ?_
        refine zr_getr (u := 2) C fw_X8_51 (sh_1) rfl (zo_180 (p := 39) (k := 51) (a := 0) (b := 51) (zby_w zwX8_mean_1 7 rfl) (zby_w zwX8_mean_1 8 rfl) (zby_w zwX8_mean_1 9 rfl) (by decide)) ?_
        refine zr_iload_n C (zo_27 (p := 42) (zby_w zwX8_mean_1 10 rfl)) rfl ?_
        refine zr_iload_n C (zo_28 (p := 43) (zby_w zwX8_mean_1 11 rfl)) rfl ?_
        refine zr_iload_n C (zo_29 (p := 44) (zby_w zwX8_mean_1 12 rfl)) rfl ?_
        refine zr_cip (zr_runV (As := [.int p1, .int p2, .int p3]) (rest := []) C vw_X8_148 (c_X6_meanBy l g 2 isX6_2 p1 p2 p3 σ _ h) (sh_2) rfl (by decide) (by decide) rfl rfl (Nat.le_of_ble_eq_true rfl) (zo_182 (p := 45) (k := 148) (a := 0) (b := 148) (zby_w zwX8_mean_1 13 rfl) (zby_w zwX8_mean_1 14 rfl) (zby_w zwX8_mean_1 15 rfl) (by decide))) (fun r10 h => ?_)
        exact hret _ _ _ h (zo_172 (p := 48) (zby_w zwX8_mean_1 16 rfl))
      · rw [if_pos hc9] at h
        refine zr_bipush C (-2 : Int32) d_X8_mean_32 (by decide) ?_
        exact hret _ _ _ h d_X8_mean_34
  · rw [if_pos hc3] at h
    refine zr_iconst C (-1 : Int32) (zo_2 (p := 14) (zby_w zwX8_mean_0 14 rfl)) (by decide) ?_
    exact hret _ _ _ h (zo_172 (p := 15) (zby_w zwX8_mean_0 15 rfl))
set_option maxRecDepth 20000 in
theorem c_X8_mean (l : Launch) (g : zG) (p1 : Int32) (p2 : Int32) (p3 : Int32) (σ : zST) (Post : Int32 → Prop) (h : wp_X8_mean p1 p2 p3 σ Post) : Met l yX8_mean (Cond.code yX8_mean cX8_mean 4 (some .int) :: zGW) (zRm 4 90) (va_Pc [.ref (g.2.1 0), .int p1, .int p2, .int p3] (zPP g σ)) (va_Qi (fun r u => Post r ∧ u = σ) (zBB g) (zA g)) 0 0 (zA g) :=
  zMet (by decide) (Nat.le_of_ble_eq_true rfl) (fun p e s m below meth c hr C => g_X8_mean C (fun v pc lv hp hd => zr_iret C hr ⟨hp, rfl⟩ hd) h)
def wp_X8_worst (p1 : Int32) (p2 : Int32) (p3 : Int32) (σ : zST) (Post : Int32 → Prop) : Prop := wp_X6_has 2 p1 σ (fun r1 => (if r1 = (0) then Post (-1 : Int32) else wp_X8_within p2 (0 : Int32) (2 : Int32) σ (fun r4 => (if r4 = (0) then Post (-2 : Int32) else wp_X8_isHour p3 σ (fun r7 => (if r7 = (0) then Post (-2 : Int32) else wp_X6_worstBy 2 p1 p2 p3 σ (fun r10 => Post r10)))))))
set_option maxRecDepth 100000 in
set_option maxHeartbeats 4000000 in
theorem g_X8_worst {p : Program} {l : Launch} {e : Env} {R : Room} {s : State} {m : MethodId} {args : Array Value} {below : List Frame} {meth : Method} {c : Code} {Q : State → Prop} {g : zG} {n1 n2 : Nat} (C : zCX p R s m args meth c g n1 n2 cX8_worst 4 RX8 4 90) {p1 : Int32} {p2 : Int32} {p3 : Int32} {σ : zST} {Post : Int32 → Prop} (hret : ∀ (v : Int32) (pc : Nat) (lv : List (Nat × Value)), Post v → decode cX8_worst pc = .ok (.ireturn, 1) → zGG p l e R s m args below meth c Q g n1 n2 4 pc lv [.int v] σ) (h : wp_X8_worst p1 p2 p3 σ Post) : zGG p l e R s m args below meth c Q g n1 n2 4 0 [(0, .ref (g.2.1 0)), (1, .int p1), (2, .int p2), (3, .int p3)] [] σ := by
  unfold wp_X8_worst at h
  refine zr_aload_n C (zo_42 (p := 0) (zby_w zwX8_worst_0 0 rfl)) rfl ?_
  refine zr_getr (u := 1) C fw_X8_10 (sh_0) rfl (zo_180 (p := 1) (k := 10) (a := 0) (b := 10) (zby_w zwX8_worst_0 1 rfl) (zby_w zwX8_worst_0 2 rfl) (zby_w zwX8_worst_0 3 rfl) (by decide)) ?_
  refine zr_getr (u := 2) C fw_X8_51 (sh_1) rfl (zo_180 (p := 4) (k := 51) (a := 0) (b := 51) (zby_w zwX8_worst_0 4 rfl) (zby_w zwX8_worst_0 5 rfl) (zby_w zwX8_worst_0 6 rfl) (by decide)) ?_
  refine zr_iload_n C (zo_27 (p := 7) (zby_w zwX8_worst_0 7 rfl)) rfl ?_
  refine zr_cip (zr_runV (As := [.int p1]) (rest := []) C vw_X8_79 (c_X6_has l g 2 isX6_2 p1 σ _ h) (sh_2) rfl (by decide) (by decide) rfl rfl (Nat.le_of_ble_eq_true rfl) (zo_182 (p := 8) (k := 79) (a := 0) (b := 79) (zby_w zwX8_worst_0 8 rfl) (zby_w zwX8_worst_0 9 rfl) (zby_w zwX8_worst_0 10 rfl) (by decide))) (fun r1 h => ?_)
  refine zr_if_ne C 16 (zo_154 (p := 11) (k := 5) (a := 0) (b := 5) (zby_w zwX8_worst_0 11 rfl) (zby_w zwX8_worst_0 12 rfl) (zby_w zwX8_worst_0 13 rfl) (by decide)) (by decide) (fun hc3 => ?_) (fun hc3 => ?_)
  · rw [if_neg hc3] at h
    refine zr_iload_n C (zo_28 (p := 16) (zby_w zwX8_worst_0 16 rfl)) rfl ?_
    refine zr_iconst C (0 : Int32) (zo_3 (p := 17) (zby_w zwX8_worst_0 17 rfl)) (by decide) ?_
    refine zr_iconst C (2 : Int32) (zo_5 (p := 18) (zby_w zwX8_worst_0 18 rfl)) (by decide) ?_
    refine zr_cip (zr_runS (As := [.int p2, .int (0 : Int32), .int (2 : Int32)]) (rest := []) C sw_X8_47 (c_X8_within l g p2 (0 : Int32) (2 : Int32) σ _ h) (by decide) (by decide) rfl rfl (Nat.le_of_ble_eq_true rfl) (zo_184 (p := 19) (k := 47) (a := 0) (b := 47) (zby_w zwX8_worst_0 19 rfl) (zby_w zwX8_worst_0 20 rfl) (zby_w zwX8_worst_0 21 rfl) (by decide))) (fun r4 h => ?_)
    refine zr_if_eq C 32 (zo_153 (p := 22) (k := 10) (a := 0) (b := 10) (zby_w zwX8_worst_0 22 rfl) (zby_w zwX8_worst_0 23 rfl) (zby_w zwX8_worst_0 24 rfl) (by decide)) (by decide) (fun hc6 => ?_) (fun hc6 => ?_)
    · rw [if_pos hc6] at h
      refine zr_bipush C (-2 : Int32) d_X8_worst_32 (by decide) ?_
      exact hret _ _ _ h d_X8_worst_34
    · rw [if_neg hc6] at h
      refine zr_iload_n C (zo_29 (p := 25) (zby_w zwX8_worst_0 25 rfl)) rfl ?_
      refine zr_cip (zr_runS (As := [.int p3]) (rest := []) C sw_X8_145 (c_X8_isHour l g p3 σ _ h) (by decide) (by decide) rfl rfl (Nat.le_of_ble_eq_true rfl) (zo_184 (p := 26) (k := 145) (a := 0) (b := 145) (zby_w zwX8_worst_0 26 rfl) (zby_w zwX8_worst_0 27 rfl) (zby_w zwX8_worst_0 28 rfl) (by decide))) (fun r7 h => ?_)
      refine zr_if_ne C 35 (zo_154 (p := 29) (k := 6) (a := 0) (b := 6) (zby_w zwX8_worst_0 29 rfl) (zby_w zwX8_worst_0 30 rfl) (zby_w zwX8_worst_0 31 rfl) (by decide)) (by decide) (fun hc9 => ?_) (fun hc9 => ?_)
      · rw [if_neg hc9] at h
        refine zr_aload_n C (zo_42 (p := 35) (zby_w zwX8_worst_1 3 rfl)) rfl ?_
        refine zr_getr (u := 1) C fw_X8_10 (sh_0) rfl (zo_180 (p := 36) (k := 10) (a := 0) (b := 10) (zby_w zwX8_worst_1 4 rfl) (zby_w zwX8_worst_1 5 rfl) (zby_w zwX8_worst_1 6 rfl) (by decide)) ?_
        refine zr_getr (u := 2) C fw_X8_51 (sh_1) rfl (zo_180 (p := 39) (k := 51) (a := 0) (b := 51) (zby_w zwX8_worst_1 7 rfl) (zby_w zwX8_worst_1 8 rfl) (zby_w zwX8_worst_1 9 rfl) (by decide)) ?_
        refine zr_iload_n C (zo_27 (p := 42) (zby_w zwX8_worst_1 10 rfl)) rfl ?_
        refine zr_iload_n C (zo_28 (p := 43) (zby_w zwX8_worst_1 11 rfl)) rfl ?_
        refine zr_iload_n C (zo_29 (p := 44) (zby_w zwX8_worst_1 12 rfl)) rfl ?_
        refine zr_cip (zr_runV (As := [.int p1, .int p2, .int p3]) (rest := []) C vw_X8_152 (c_X6_worstBy l g 2 isX6_2 p1 p2 p3 σ _ h) (sh_2) rfl (by decide) (by decide) rfl rfl (Nat.le_of_ble_eq_true rfl) (zo_182 (p := 45) (k := 152) (a := 0) (b := 152) (zby_w zwX8_worst_1 13 rfl) (zby_w zwX8_worst_1 14 rfl) (zby_w zwX8_worst_1 15 rfl) (by decide))) (fun r10 h => ?_)
        exact hret _ _ _ h (zo_172 (p := 48) (zby_w zwX8_worst_1 16 rfl))
      · rw [if_pos hc9] at h
        refine zr_bipush C (-2 : Int32) d_X8_worst_32 (by decide) ?_
        exact hret _ _ _ h d_X8_worst_34
  · rw [if_pos hc3] at h
    refine zr_iconst C (-1 : Int32) (zo_2 (p := 14) (zby_w zwX8_worst_0 14 rfl)) (by decide) ?_
    exact hret _ _ _ h (zo_172 (p := 15) (zby_w zwX8_worst_0 15 rfl))
set_option maxRecDepth 20000 in
theorem c_X8_worst (l : Launch) (g : zG) (p1 : Int32) (p2 : Int32) (p3 : Int32) (σ : zST) (Post : Int32 → Prop) (h : wp_X8_worst p1 p2 p3 σ Post) : Met l yX8_worst (Cond.code yX8_worst cX8_worst 4 (some .int) :: zGW) (zRm 4 90) (va_Pc [.ref (g.2.1 0), .int p1, .int p2, .int p3] (zPP g σ)) (va_Qi (fun r u => Post r ∧ u = σ) (zBB g) (zA g)) 0 0 (zA g) :=
  zMet (by decide) (Nat.le_of_ble_eq_true rfl) (fun p e s m below meth c hr C => g_X8_worst C (fun v pc lv hp hd => zr_iret C hr ⟨hp, rfl⟩ hd) h)
def wp_X8_refusalOf (p1 : Int32) (p2 : Int32) (σ : zST) (Post : Int32 → Prop) : Prop := wp_X6_has 2 p1 σ (fun r1 => (if r1 = (0) then Post (-1 : Int32) else wp_X8_isHour p2 σ (fun r4 => ∀ z7 : Int32, z7 = (if r4 = (0) then (-2 : Int32) else (0 : Int32)) → Post z7)))
set_option maxRecDepth 100000 in
set_option maxHeartbeats 4000000 in
theorem g_X8_refusalOf {p : Program} {l : Launch} {e : Env} {R : Room} {s : State} {m : MethodId} {args : Array Value} {below : List Frame} {meth : Method} {c : Code} {Q : State → Prop} {g : zG} {n1 n2 : Nat} (C : zCX p R s m args meth c g n1 n2 cX8_refusalOf 3 RX8 2 43) {p1 : Int32} {p2 : Int32} {σ : zST} {Post : Int32 → Prop} (hret : ∀ (v : Int32) (pc : Nat) (lv : List (Nat × Value)), Post v → decode cX8_refusalOf pc = .ok (.ireturn, 1) → zGG p l e R s m args below meth c Q g n1 n2 3 pc lv [.int v] σ) (h : wp_X8_refusalOf p1 p2 σ Post) : zGG p l e R s m args below meth c Q g n1 n2 3 0 [(0, .ref (g.2.1 0)), (1, .int p1), (2, .int p2)] [] σ := by
  unfold wp_X8_refusalOf at h
  refine zr_aload_n C (zo_42 (p := 0) (zby_w zwX8_refusalOf_0 0 rfl)) rfl ?_
  refine zr_getr (u := 1) C fw_X8_10 (sh_0) rfl (zo_180 (p := 1) (k := 10) (a := 0) (b := 10) (zby_w zwX8_refusalOf_0 1 rfl) (zby_w zwX8_refusalOf_0 2 rfl) (zby_w zwX8_refusalOf_0 3 rfl) (by decide)) ?_
  refine zr_getr (u := 2) C fw_X8_51 (sh_1) rfl (zo_180 (p := 4) (k := 51) (a := 0) (b := 51) (zby_w zwX8_refusalOf_0 4 rfl) (zby_w zwX8_refusalOf_0 5 rfl) (zby_w zwX8_refusalOf_0 6 rfl) (by decide)) ?_
  refine zr_iload_n C (zo_27 (p := 7) (zby_w zwX8_refusalOf_0 7 rfl)) rfl ?_
  refine zr_cip (zr_runV (As := [.int p1]) (rest := []) C vw_X8_79 (c_X6_has l g 2 isX6_2 p1 σ _ h) (sh_2) rfl (by decide) (by decide) rfl rfl (Nat.le_of_ble_eq_true rfl) (zo_182 (p := 8) (k := 79) (a := 0) (b := 79) (zby_w zwX8_refusalOf_0 8 rfl) (zby_w zwX8_refusalOf_0 9 rfl) (zby_w zwX8_refusalOf_0 10 rfl) (by decide))) (fun r1 h => ?_)
  refine zr_if_ne C 16 (zo_154 (p := 11) (k := 5) (a := 0) (b := 5) (zby_w zwX8_refusalOf_0 11 rfl) (zby_w zwX8_refusalOf_0 12 rfl) (zby_w zwX8_refusalOf_0 13 rfl) (by decide)) (by decide) (fun hc3 => ?_) (fun hc3 => ?_)
  · rw [if_neg hc3] at h
    refine zr_iload_n C (zo_28 (p := 16) (zby_w zwX8_refusalOf_0 16 rfl)) rfl ?_
    refine zr_cip (zr_runS (As := [.int p2]) (rest := []) C sw_X8_145 (c_X8_isHour l g p2 σ _ h) (by decide) (by decide) rfl rfl (Nat.le_of_ble_eq_true rfl) (zo_184 (p := 17) (k := 145) (a := 0) (b := 145) (zby_w zwX8_refusalOf_0 17 rfl) (zby_w zwX8_refusalOf_0 18 rfl) (zby_w zwX8_refusalOf_0 19 rfl) (by decide))) (fun r4 h => ?_)
    have hJ8 : ∀ z7 : Int32, z7 = (if r4 = (0) then (-2 : Int32) else (0 : Int32)) → zGG p l e R s m args below meth c Q g n1 n2 3 29 [(0, .ref (g.2.1 0)), (1, .int p1), (2, .int p2)] [.int z7] σ := by
      intro z7 hz7
      replace h := h z7 hz7
      exact hret _ _ _ h (zo_172 (p := 29) (zby_w zwX8_refusalOf_0 29 rfl))
    refine zr_if_eq C 27 (zo_153 (p := 20) (k := 7) (a := 0) (b := 7) (zby_w zwX8_refusalOf_0 20 rfl) (zby_w zwX8_refusalOf_0 21 rfl) (zby_w zwX8_refusalOf_0 22 rfl) (by decide)) (by decide) (fun hc6 => ?_) (fun hc6 => ?_)
    · skip
      refine zr_bipush C (-2 : Int32) (zo_16 (p := 27) (k := (-2)) (a := 254) (zby_w zwX8_refusalOf_0 27 rfl) (zby_w zwX8_refusalOf_0 28 rfl) (by decide)) (by decide) ?_
      exact hJ8 _ (by rw [if_pos hc6])
    · skip
      refine zr_iconst C (0 : Int32) (zo_3 (p := 23) (zby_w zwX8_refusalOf_0 23 rfl)) (by decide) ?_
      refine zr_goto C 29 (zo_167 (p := 24) (k := 5) (a := 0) (b := 5) (zby_w zwX8_refusalOf_0 24 rfl) (zby_w zwX8_refusalOf_0 25 rfl) (zby_w zwX8_refusalOf_0 26 rfl) (by decide)) (by decide) ?_
      exact hJ8 _ (by rw [if_neg hc6])
  · rw [if_pos hc3] at h
    refine zr_iconst C (-1 : Int32) (zo_2 (p := 14) (zby_w zwX8_refusalOf_0 14 rfl)) (by decide) ?_
    exact hret _ _ _ h (zo_172 (p := 15) (zby_w zwX8_refusalOf_0 15 rfl))
set_option maxRecDepth 20000 in
theorem c_X8_refusalOf (l : Launch) (g : zG) (p1 : Int32) (p2 : Int32) (σ : zST) (Post : Int32 → Prop) (h : wp_X8_refusalOf p1 p2 σ Post) : Met l yX8_refusalOf (Cond.code yX8_refusalOf cX8_refusalOf 3 (some .int) :: zGW) (zRm 2 43) (va_Pc [.ref (g.2.1 0), .int p1, .int p2] (zPP g σ)) (va_Qi (fun r u => Post r ∧ u = σ) (zBB g) (zA g)) 0 0 (zA g) :=
  zMet (by decide) (Nat.le_of_ble_eq_true rfl) (fun p e s m below meth c hr C => g_X8_refusalOf C (fun v pc lv hp hd => zr_iret C hr ⟨hp, rfl⟩ hd) h)
def wp_X8_choice (p1 : Int32) (p2 : Int32) (σ : zST) (Post : Int32 → Prop) : Prop := wp_X8_refusalOf p1 p2 σ (fun r1 => (if r1 = (0) then wp_X6_ownersSide 2 p1 p2 σ (fun r4 => Post r4) else Post r1))
set_option maxRecDepth 100000 in
set_option maxHeartbeats 4000000 in
theorem g_X8_choice {p : Program} {l : Launch} {e : Env} {R : Room} {s : State} {m : MethodId} {args : Array Value} {below : List Frame} {meth : Method} {c : Code} {Q : State → Prop} {g : zG} {n1 n2 : Nat} (C : zCX p R s m args meth c g n1 n2 cX8_choice 4 RX8 5 114) {p1 : Int32} {p2 : Int32} {σ : zST} {Post : Int32 → Prop} (hret : ∀ (v : Int32) (pc : Nat) (lv : List (Nat × Value)), Post v → decode cX8_choice pc = .ok (.ireturn, 1) → zGG p l e R s m args below meth c Q g n1 n2 4 pc lv [.int v] σ) (h : wp_X8_choice p1 p2 σ Post) : zGG p l e R s m args below meth c Q g n1 n2 4 0 [(0, .ref (g.2.1 0)), (1, .int p1), (2, .int p2)] [] σ := by
  unfold wp_X8_choice at h
  refine zr_aload_n C (zo_42 (p := 0) (zby_w zwX8_choice_0 0 rfl)) rfl ?_
  refine zr_iload_n C (zo_27 (p := 1) (zby_w zwX8_choice_0 1 rfl)) rfl ?_
  refine zr_iload_n C (zo_28 (p := 2) (zby_w zwX8_choice_0 2 rfl)) rfl ?_
  refine zr_cip (zr_runV (As := [.int p1, .int p2]) (rest := []) C vw_X8_155 (c_X8_refusalOf l g p1 p2 σ _ h) (sh_0) rfl (by decide) (by decide) rfl rfl (Nat.le_of_ble_eq_true rfl) (zo_182 (p := 3) (k := 155) (a := 0) (b := 155) (zby_w zwX8_choice_0 3 rfl) (zby_w zwX8_choice_0 4 rfl) (zby_w zwX8_choice_0 5 rfl) (by decide))) (fun r1 h => ?_)
  refine zr_istore_n C [(3, .int r1), (0, .ref (g.2.1 0)), (1, .int p1), (2, .int p2)] (zo_62 (p := 6) (zby_w zwX8_choice_0 6 rfl)) (by decide) rfl ?_
  refine zr_iload_n C (zo_29 (p := 7) (zby_w zwX8_choice_0 7 rfl)) rfl ?_
  refine zr_if_eq C 15 (zo_153 (p := 8) (k := 7) (a := 0) (b := 7) (zby_w zwX8_choice_0 8 rfl) (zby_w zwX8_choice_0 9 rfl) (zby_w zwX8_choice_0 10 rfl) (by decide)) (by decide) (fun hc3 => ?_) (fun hc3 => ?_)
  · rw [if_pos hc3] at h
    refine zr_aload_n C (zo_42 (p := 15) (zby_w zwX8_choice_0 15 rfl)) rfl ?_
    refine zr_getr (u := 1) C fw_X8_10 (sh_0) rfl (zo_180 (p := 16) (k := 10) (a := 0) (b := 10) (zby_w zwX8_choice_0 16 rfl) (zby_w zwX8_choice_0 17 rfl) (zby_w zwX8_choice_0 18 rfl) (by decide)) ?_
    refine zr_getr (u := 2) C fw_X8_51 (sh_1) rfl (zo_180 (p := 19) (k := 51) (a := 0) (b := 51) (zby_w zwX8_choice_0 19 rfl) (zby_w zwX8_choice_0 20 rfl) (zby_w zwX8_choice_0 21 rfl) (by decide)) ?_
    refine zr_iload_n C (zo_27 (p := 22) (zby_w zwX8_choice_0 22 rfl)) rfl ?_
    refine zr_iload_n C (zo_28 (p := 23) (zby_w zwX8_choice_0 23 rfl)) rfl ?_
    refine zr_cip (zr_runV (As := [.int p1, .int p2]) (rest := []) C vw_X8_158 (c_X6_ownersSide l g 2 isX6_2 p1 p2 σ _ h) (sh_2) rfl (by decide) (by decide) rfl rfl (Nat.le_of_ble_eq_true rfl) (zo_182 (p := 24) (k := 158) (a := 0) (b := 158) (zby_w zwX8_choice_0 24 rfl) (zby_w zwX8_choice_0 25 rfl) (zby_w zwX8_choice_0 26 rfl) (by decide))) (fun r4 h => ?_)
    exact hret _ _ _ h d_X8_choice_27
  · rw [if_neg hc3] at h
    refine zr_iload_n C (zo_29 (p := 11) (zby_w zwX8_choice_0 11 rfl)) rfl ?_
    refine zr_goto C 27 (zo_167 (p := 12) (k := 15) (a := 0) (b := 15) (zby_w zwX8_choice_0 12 rfl) (zby_w zwX8_choice_0 13 rfl) (zby_w zwX8_choice_0 14 rfl) (by decide)) (by decide) ?_
    exact hret _ _ _ h d_X8_choice_27
set_option maxRecDepth 20000 in
theorem c_X8_choice (l : Launch) (g : zG) (p1 : Int32) (p2 : Int32) (σ : zST) (Post : Int32 → Prop) (h : wp_X8_choice p1 p2 σ Post) : Met l yX8_choice (Cond.code yX8_choice cX8_choice 4 (some .int) :: zGW) (zRm 5 114) (va_Pc [.ref (g.2.1 0), .int p1, .int p2] (zPP g σ)) (va_Qi (fun r u => Post r ∧ u = σ) (zBB g) (zA g)) 0 0 (zA g) :=
  zMet (by decide) (Nat.le_of_ble_eq_true rfl) (fun p e s m below meth c hr C => g_X8_choice C (fun v pc lv hp hd => zr_iret C hr ⟨hp, rfl⟩ hd) h)
def wp_X8_held_J114 (v1 : Int32) (v3 : Int32) (v5 : Int32) (v6 : Int32) (σ : zST) (Post : Int32 → Prop) : Prop := (if v3 = (0) then Post v5 else (if v3 = (1 : Int32) then Post v6 else wp_X6_ownersSide 2 v1 v5 σ (fun r15 => Post r15)))

set_option maxRecDepth 100000 in
set_option maxHeartbeats 4000000 in
theorem g_X8_held_J114 {p : Program} {l : Launch} {e : Env} {R : Room} {s : State} {m : MethodId} {args : Array Value} {below : List Frame} {meth : Method} {c : Code} {Q : State → Prop} {g : zG} {n1 n2 : Nat} (C : zCX p R s m args meth c g n1 n2 cX8_held 9 RX8 6 136) {v1 : Int32} {v3 : Int32} {v5 : Int32} {v6 : Int32} {σ : zST}  {Post : Int32 → Prop} (hret : ∀ (v : Int32) (pc : Nat) (lv : List (Nat × Value)), Post v → decode cX8_held pc = .ok (.ireturn, 1) → zGG p l e R s m args below meth c Q g n1 n2 9 pc lv [.int v] σ) (h : wp_X8_held_J114 v1 v3 v5 v6 σ Post) : zGG p l e R s m args below meth c Q g n1 n2 9 114 [(1, .int v1), (3, .int v3), (4, .ref (g.2.1 2)), (5, .int v5), (6, .int v6)] [] σ := by
  unfold wp_X8_held_J114 at h
  refine zr_iload_n C (zo_29 (p := 114) (zby_w zwX8_held_3 18 rfl)) rfl ?_
  refine zr_if_ne C 121 (zo_154 (p := 115) (k := 6) (a := 0) (b := 6) (zby_w zwX8_held_3 19 rfl) (zby_w zwX8_held_3 20 rfl) (zby_w zwX8_held_3 21 rfl) (by decide)) (by decide) (fun hc13 => ?_) (fun hc13 => ?_)
  · rw [if_neg hc13] at h
    refine zr_iload_n C (zo_29 (p := 121) (zby_w zwX8_held_3 25 rfl)) rfl ?_
    refine zr_iconst C (1 : Int32) (zo_4 (p := 122) (zby_w zwX8_held_3 26 rfl)) (by decide) ?_
    refine zr_icmp_ne C 131 (zo_160 (p := 123) (k := 8) (a := 0) (b := 8) (zby_w zwX8_held_3 27 rfl) (zby_w zwX8_held_3 28 rfl) (zby_w zwX8_held_3 29 rfl) (by decide)) (by decide) (fun hc14 => ?_) (fun hc14 => ?_)
    · rw [if_neg hc14] at h
      refine zr_aload C (zo_25 (p := 131) (k := 4) (a := 4) (zby_w zwX8_held_4 3 rfl) (zby_w zwX8_held_4 4 rfl) (by decide)) rfl ?_
      refine zr_iload_n C (zo_27 (p := 133) (zby_w zwX8_held_4 5 rfl)) rfl ?_
      refine zr_iload C (zo_21 (p := 134) (k := 5) (a := 5) (zby_w zwX8_held_4 6 rfl) (zby_w zwX8_held_4 7 rfl) (by decide)) rfl ?_
      refine zr_cip (zr_runV (As := [.int v1, .int v5]) (rest := []) C vw_X8_158 (c_X6_ownersSide l g 2 isX6_2 v1 v5 σ _ h) (sh_2) rfl (by decide) (by decide) rfl rfl (Nat.le_of_ble_eq_true rfl) (zo_182 (p := 136) (k := 158) (a := 0) (b := 158) (zby_w zwX8_held_4 8 rfl) (zby_w zwX8_held_4 9 rfl) (zby_w zwX8_held_4 10 rfl) (by decide))) (fun r15 h => ?_)
      exact hret _ _ _ h d_X8_held_139
    · rw [if_pos hc14] at h
      refine zr_iload C (zo_21 (p := 126) (k := 6) (a := 6) (zby_w zwX8_held_3 30 rfl) (zby_w zwX8_held_3 31 rfl) (by decide)) rfl ?_
      refine zr_goto C 139 (zo_167 (p := 128) (k := 11) (a := 0) (b := 11) (zby_w zwX8_held_4 0 rfl) (zby_w zwX8_held_4 1 rfl) (zby_w zwX8_held_4 2 rfl) (by decide)) (by decide) ?_
      exact hret _ _ _ h d_X8_held_139
  · rw [if_pos hc13] at h
    refine zr_iload C (zo_21 (p := 118) (k := 5) (a := 5) (zby_w zwX8_held_3 22 rfl) (zby_w zwX8_held_3 23 rfl) (by decide)) rfl ?_
    exact hret _ _ _ h (zo_172 (p := 120) (zby_w zwX8_held_3 24 rfl))

def wp_X8_held_L58 (v1 : Int32) (v2 : Int32) (v3 : Int32) (σ : zST) (Post : Int32 → Prop) : Nat → Int32 → Int32 → Int32 → Prop
  | 0, _, _, _ => False
  | N + 1, v5, v6, v7 => (if (24 : Int32) ≤ v7 then wp_X8_held_J114 v1 v3 v5 v6 σ Post else wp_X6_leastMean 2 v1 (v2 + v7) σ (fun r17 => ∀ x19 : Int32, x19 = (r17 + (((10 : Int32) * (σ.1 7 (4 : Int32).toNatClampNeg)) * v7)) → (if v6 ≤ x19 then wp_X8_held_L58 v1 v2 v3 σ Post N v5 v6 (v7 + 1) else ∀ x21 : Int32, x21 = (v2 + v7) → wp_X8_held_L58 v1 v2 v3 σ Post N x21 x19 (v7 + 1))))

set_option maxRecDepth 100000 in
set_option maxHeartbeats 4000000 in
theorem g_X8_held_L58 {p : Program} {l : Launch} {e : Env} {R : Room} {s : State} {m : MethodId} {args : Array Value} {below : List Frame} {meth : Method} {c : Code} {Q : State → Prop} {g : zG} {n1 n2 : Nat} (C : zCX p R s m args meth c g n1 n2 cX8_held 9 RX8 6 136) {v1 : Int32} {v2 : Int32} {v3 : Int32} {σ : zST}  {Post : Int32 → Prop} (hret : ∀ (v : Int32) (pc : Nat) (lv : List (Nat × Value)), Post v → decode cX8_held pc = .ok (.ireturn, 1) → zGG p l e R s m args below meth c Q g n1 n2 9 pc lv [.int v] σ) : ∀ (N : Nat) (v5 : Int32) (v6 : Int32) (v7 : Int32) , wp_X8_held_L58 v1 v2 v3 σ Post N v5 v6 v7 → zGG p l e R s m args below meth c Q g n1 n2 9 58 [(1, .int v1), (2, .int v2), (3, .int v3), (4, .ref (g.2.1 2)), (5, .int v5), (6, .int v6), (7, .int v7)] [] σ := by
  intro N
  induction N with
  | zero =>
    intro v5 v6 v7 h
    exact h.elim
  | succ N ih =>
    intro v5 v6 v7 h
    rw [wp_X8_held_L58] at h
    refine zr_iload C (zo_21 (p := 58) (k := 7) (a := 7) (zby_w zwX8_held_1 26 rfl) (zby_w zwX8_held_1 27 rfl) (by decide)) rfl ?_
    refine zr_bipush C (24 : Int32) (zo_16 (p := 60) (k := 24) (a := 24) (zby_w zwX8_held_1 28 rfl) (zby_w zwX8_held_1 29 rfl) (by decide)) (by decide) ?_
    refine zr_icmp_ge C 114 (zo_162 (p := 62) (k := 52) (a := 0) (b := 52) (zby_w zwX8_held_1 30 rfl) (zby_w zwX8_held_1 31 rfl) (zby_w zwX8_held_1 32 rfl) (by decide)) (by decide) (fun hc12 => ?_) (fun hc12 => ?_)
    · rw [if_pos hc12] at h
      exact zr_pick [0, 2, 3, 4, 5] rfl (g_X8_held_J114 C hret h)
    · rw [if_neg hc12] at h
      refine zr_aload C (zo_25 (p := 65) (k := 4) (a := 4) (zby_w zwX8_held_2 1 rfl) (zby_w zwX8_held_2 2 rfl) (by decide)) rfl ?_
      refine zr_iload_n C (zo_27 (p := 67) (zby_w zwX8_held_2 3 rfl)) rfl ?_
      refine zr_iload_n C (zo_28 (p := 68) (zby_w zwX8_held_2 4 rfl)) rfl ?_
      refine zr_iload C (zo_21 (p := 69) (k := 7) (a := 7) (zby_w zwX8_held_2 5 rfl) (zby_w zwX8_held_2 6 rfl) (by decide)) rfl ?_
      refine zr_iadd C (zo_96 (p := 71) (zby_w zwX8_held_2 7 rfl)) ?_
      refine zr_cip (zr_runV (As := [.int v1, .int (v2 + v7)]) (rest := []) C vw_X8_161 (c_X6_leastMean l g 2 isX6_2 v1 (v2 + v7) σ _ h) (sh_2) rfl (by decide) (by decide) rfl rfl (Nat.le_of_ble_eq_true rfl) (zo_182 (p := 72) (k := 161) (a := 0) (b := 161) (zby_w zwX8_held_2 8 rfl) (zby_w zwX8_held_2 9 rfl) (zby_w zwX8_held_2 10 rfl) (by decide))) (fun r17 h => ?_)
      refine zr_bipush C (10 : Int32) (zo_16 (p := 75) (k := 10) (a := 10) (zby_w zwX8_held_2 11 rfl) (zby_w zwX8_held_2 12 rfl) (by decide)) (by decide) ?_
      refine zr_aload C (zo_25 (p := 77) (k := 4) (a := 4) (zby_w zwX8_held_2 13 rfl) (zby_w zwX8_held_2 14 rfl) (by decide)) rfl ?_
      refine zr_getr (u := 7) C fw_X8_89 (sh_2) rfl (zo_180 (p := 79) (k := 89) (a := 0) (b := 89) (zby_w zwX8_held_2 15 rfl) (zby_w zwX8_held_2 16 rfl) (zby_w zwX8_held_2 17 rfl) (by decide)) ?_
      refine zr_iconst C (4 : Int32) (zo_7 (p := 82) (zby_w zwX8_held_2 18 rfl)) (by decide) ?_
      refine zr_iald C (sh_7) (by unfold vp_in; decide) (zo_46 (p := 83) (zby_w zwX8_held_2 19 rfl)) ?_
      refine zr_imul C (zo_104 (p := 84) (zby_w zwX8_held_2 20 rfl)) ?_
      refine zr_iload C (zo_21 (p := 85) (k := 7) (a := 7) (zby_w zwX8_held_2 21 rfl) (zby_w zwX8_held_2 22 rfl) (by decide)) rfl ?_
      refine zr_imul C (zo_104 (p := 87) (zby_w zwX8_held_2 23 rfl)) ?_
      refine zr_iadd C (zo_96 (p := 88) (zby_w zwX8_held_2 24 rfl)) ?_
      refine zr_topi (fun x19 hx19 => ?_)
      replace h := h x19 hx19
      refine zr_istore C [(8, .int x19), (1, .int v1), (2, .int v2), (3, .int v3), (4, .ref (g.2.1 2)), (5, .int v5), (6, .int v6), (7, .int v7)] (zo_54 (p := 89) (k := 8) (a := 8) (zby_w zwX8_held_2 25 rfl) (zby_w zwX8_held_2 26 rfl) (by decide)) (by decide) rfl ?_
      refine zr_iload C (zo_21 (p := 91) (k := 8) (a := 8) (zby_w zwX8_held_2 27 rfl) (zby_w zwX8_held_2 28 rfl) (by decide)) rfl ?_
      refine zr_iload C (zo_21 (p := 93) (k := 6) (a := 6) (zby_w zwX8_held_2 29 rfl) (zby_w zwX8_held_2 30 rfl) (by decide)) rfl ?_
      refine zr_icmp_ge C 108 (zo_162 (p := 95) (k := 13) (a := 0) (b := 13) (zby_w zwX8_held_2 31 rfl) (zby_w zwX8_held_2 32 rfl) (zby_w zwX8_held_2 33 rfl) (by decide)) (by decide) (fun hc20 => ?_) (fun hc20 => ?_)
      · rw [if_pos hc20] at h
        refine zr_iinc C (v7 + 1) [(7, .int (v7 + 1)), (8, .int x19), (1, .int v1), (2, .int v2), (3, .int v3), (4, .ref (g.2.1 2)), (5, .int v5), (6, .int v6)] d_X8_held_108 rfl rfl (by decide) rfl ?_
        refine zr_goto C 58 d_X8_held_111 (by decide) ?_
        exact zr_pick [2, 3, 4, 5, 6, 7, 0] rfl (ih v5 v6 (v7 + 1) h)
      · rw [if_neg hc20] at h
        refine zr_iload C (zo_21 (p := 98) (k := 8) (a := 8) (zby_w zwX8_held_3 2 rfl) (zby_w zwX8_held_3 3 rfl) (by decide)) rfl ?_
        refine zr_istore C [(6, .int x19), (8, .int x19), (1, .int v1), (2, .int v2), (3, .int v3), (4, .ref (g.2.1 2)), (5, .int v5), (7, .int v7)] (zo_54 (p := 100) (k := 6) (a := 6) (zby_w zwX8_held_3 4 rfl) (zby_w zwX8_held_3 5 rfl) (by decide)) (by decide) rfl ?_
        refine zr_iload_n C (zo_28 (p := 102) (zby_w zwX8_held_3 6 rfl)) rfl ?_
        refine zr_iload C (zo_21 (p := 103) (k := 7) (a := 7) (zby_w zwX8_held_3 7 rfl) (zby_w zwX8_held_3 8 rfl) (by decide)) rfl ?_
        refine zr_iadd C (zo_96 (p := 105) (zby_w zwX8_held_3 9 rfl)) ?_
        refine zr_topi (fun x21 hx21 => ?_)
        replace h := h x21 hx21
        refine zr_istore C [(5, .int x21), (6, .int x19), (8, .int x19), (1, .int v1), (2, .int v2), (3, .int v3), (4, .ref (g.2.1 2)), (7, .int v7)] (zo_54 (p := 106) (k := 5) (a := 5) (zby_w zwX8_held_3 10 rfl) (zby_w zwX8_held_3 11 rfl) (by decide)) (by decide) rfl ?_
        refine zr_iinc C (v7 + 1) [(7, .int (v7 + 1)), (5, .int x21), (6, .int x19), (8, .int x19), (1, .int v1), (2, .int v2), (3, .int v3), (4, .ref (g.2.1 2))] d_X8_held_108 rfl rfl (by decide) rfl ?_
        refine zr_goto C 58 d_X8_held_111 (by decide) ?_
        exact zr_pick [4, 5, 6, 7, 1, 2, 0] rfl (ih x21 x19 (v7 + 1) h)

def wp_X8_held (p1 : Int32) (p2 : Int32) (p3 : Int32) (σ : zST) (Post : Int32 → Prop) : Prop := wp_X6_has 2 p1 σ (fun r1 => (if r1 = (0) then Post (-1 : Int32) else wp_X8_within p2 (0 : Int32) (976 : Int32) σ (fun r4 => (if r4 = (0) then Post (-2 : Int32) else wp_X8_within p3 (0 : Int32) (2 : Int32) σ (fun r7 => (if r7 = (0) then Post (-2 : Int32) else wp_X6_leastMean 2 p1 p2 σ (fun r10 => ∃ M22 : Nat, wp_X8_held_L58 p1 p2 p3 σ Post M22 p2 r10 (1 : Int32))))))))
set_option maxRecDepth 100000 in
set_option maxHeartbeats 4000000 in
theorem g_X8_held {p : Program} {l : Launch} {e : Env} {R : Room} {s : State} {m : MethodId} {args : Array Value} {below : List Frame} {meth : Method} {c : Code} {Q : State → Prop} {g : zG} {n1 n2 : Nat} (C : zCX p R s m args meth c g n1 n2 cX8_held 9 RX8 6 136) {p1 : Int32} {p2 : Int32} {p3 : Int32} {σ : zST} {Post : Int32 → Prop} (hret : ∀ (v : Int32) (pc : Nat) (lv : List (Nat × Value)), Post v → decode cX8_held pc = .ok (.ireturn, 1) → zGG p l e R s m args below meth c Q g n1 n2 9 pc lv [.int v] σ) (h : wp_X8_held p1 p2 p3 σ Post) : zGG p l e R s m args below meth c Q g n1 n2 9 0 [(0, .ref (g.2.1 0)), (1, .int p1), (2, .int p2), (3, .int p3)] [] σ := by
  unfold wp_X8_held at h
  refine zr_aload_n C (zo_42 (p := 0) (zby_w zwX8_held_0 0 rfl)) rfl ?_
  refine zr_getr (u := 1) C fw_X8_10 (sh_0) rfl (zo_180 (p := 1) (k := 10) (a := 0) (b := 10) (zby_w zwX8_held_0 1 rfl) (zby_w zwX8_held_0 2 rfl) (zby_w zwX8_held_0 3 rfl) (by decide)) ?_
  refine zr_getr (u := 2) C fw_X8_51 (sh_1) rfl (zo_180 (p := 4) (k := 51) (a := 0) (b := 51) (zby_w zwX8_held_0 4 rfl) (zby_w zwX8_held_0 5 rfl) (zby_w zwX8_held_0 6 rfl) (by decide)) ?_
  refine zr_astore C [(4, .ref (g.2.1 2)), (0, .ref (g.2.1 0)), (1, .int p1), (2, .int p2), (3, .int p3)] (zo_58 (p := 7) (k := 4) (a := 4) (zby_w zwX8_held_0 7 rfl) (zby_w zwX8_held_0 8 rfl) (by decide)) (by decide) rfl ?_
  refine zr_aload C (zo_25 (p := 9) (k := 4) (a := 4) (zby_w zwX8_held_0 9 rfl) (zby_w zwX8_held_0 10 rfl) (by decide)) rfl ?_
  refine zr_iload_n C (zo_27 (p := 11) (zby_w zwX8_held_0 11 rfl)) rfl ?_
  refine zr_cip (zr_runV (As := [.int p1]) (rest := []) C vw_X8_79 (c_X6_has l g 2 isX6_2 p1 σ _ h) (sh_2) rfl (by decide) (by decide) rfl rfl (Nat.le_of_ble_eq_true rfl) (zo_182 (p := 12) (k := 79) (a := 0) (b := 79) (zby_w zwX8_held_0 12 rfl) (zby_w zwX8_held_0 13 rfl) (zby_w zwX8_held_0 14 rfl) (by decide))) (fun r1 h => ?_)
  refine zr_if_ne C 20 (zo_154 (p := 15) (k := 5) (a := 0) (b := 5) (zby_w zwX8_held_0 15 rfl) (zby_w zwX8_held_0 16 rfl) (zby_w zwX8_held_0 17 rfl) (by decide)) (by decide) (fun hc3 => ?_) (fun hc3 => ?_)
  · rw [if_neg hc3] at h
    refine zr_iload_n C (zo_28 (p := 20) (zby_w zwX8_held_0 20 rfl)) rfl ?_
    refine zr_iconst C (0 : Int32) (zo_3 (p := 21) (zby_w zwX8_held_0 21 rfl)) (by decide) ?_
    refine zr_sipush C (976 : Int32) (zo_17 (p := 22) (k := 976) (a := 3) (b := 208) (zby_w zwX8_held_0 22 rfl) (zby_w zwX8_held_0 23 rfl) (zby_w zwX8_held_0 24 rfl) (by decide)) (by decide) ?_
    refine zr_cip (zr_runS (As := [.int p2, .int (0 : Int32), .int (976 : Int32)]) (rest := []) C sw_X8_47 (c_X8_within l g p2 (0 : Int32) (976 : Int32) σ _ h) (by decide) (by decide) rfl rfl (Nat.le_of_ble_eq_true rfl) (zo_184 (p := 25) (k := 47) (a := 0) (b := 47) (zby_w zwX8_held_0 25 rfl) (zby_w zwX8_held_0 26 rfl) (zby_w zwX8_held_0 27 rfl) (by decide))) (fun r4 h => ?_)
    refine zr_if_eq C 40 (zo_153 (p := 28) (k := 12) (a := 0) (b := 12) (zby_w zwX8_held_0 28 rfl) (zby_w zwX8_held_0 29 rfl) (zby_w zwX8_held_0 30 rfl) (by decide)) (by decide) (fun hc6 => ?_) (fun hc6 => ?_)
    · rw [if_pos hc6] at h
      refine zr_bipush C (-2 : Int32) d_X8_held_40 (by decide) ?_
      exact hret _ _ _ h d_X8_held_42
    · rw [if_neg hc6] at h
      refine zr_iload_n C (zo_29 (p := 31) (zby_w zwX8_held_0 31 rfl)) rfl ?_
      refine zr_iconst C (0 : Int32) (zo_3 (p := 32) (zby_w zwX8_held_1 0 rfl)) (by decide) ?_
      refine zr_iconst C (2 : Int32) (zo_5 (p := 33) (zby_w zwX8_held_1 1 rfl)) (by decide) ?_
      refine zr_cip (zr_runS (As := [.int p3, .int (0 : Int32), .int (2 : Int32)]) (rest := []) C sw_X8_47 (c_X8_within l g p3 (0 : Int32) (2 : Int32) σ _ h) (by decide) (by decide) rfl rfl (Nat.le_of_ble_eq_true rfl) (zo_184 (p := 34) (k := 47) (a := 0) (b := 47) (zby_w zwX8_held_1 2 rfl) (zby_w zwX8_held_1 3 rfl) (zby_w zwX8_held_1 4 rfl) (by decide))) (fun r7 h => ?_)
      refine zr_if_ne C 43 (zo_154 (p := 37) (k := 6) (a := 0) (b := 6) (zby_w zwX8_held_1 5 rfl) (zby_w zwX8_held_1 6 rfl) (zby_w zwX8_held_1 7 rfl) (by decide)) (by decide) (fun hc9 => ?_) (fun hc9 => ?_)
      · rw [if_neg hc9] at h
        refine zr_iload_n C (zo_28 (p := 43) (zby_w zwX8_held_1 11 rfl)) rfl ?_
        refine zr_istore C [(5, .int p2), (4, .ref (g.2.1 2)), (0, .ref (g.2.1 0)), (1, .int p1), (2, .int p2), (3, .int p3)] (zo_54 (p := 44) (k := 5) (a := 5) (zby_w zwX8_held_1 12 rfl) (zby_w zwX8_held_1 13 rfl) (by decide)) (by decide) rfl ?_
        refine zr_aload C (zo_25 (p := 46) (k := 4) (a := 4) (zby_w zwX8_held_1 14 rfl) (zby_w zwX8_held_1 15 rfl) (by decide)) rfl ?_
        refine zr_iload_n C (zo_27 (p := 48) (zby_w zwX8_held_1 16 rfl)) rfl ?_
        refine zr_iload_n C (zo_28 (p := 49) (zby_w zwX8_held_1 17 rfl)) rfl ?_
        refine zr_cip (zr_runV (As := [.int p1, .int p2]) (rest := []) C vw_X8_161 (c_X6_leastMean l g 2 isX6_2 p1 p2 σ _ h) (sh_2) rfl (by decide) (by decide) rfl rfl (Nat.le_of_ble_eq_true rfl) (zo_182 (p := 50) (k := 161) (a := 0) (b := 161) (zby_w zwX8_held_1 18 rfl) (zby_w zwX8_held_1 19 rfl) (zby_w zwX8_held_1 20 rfl) (by decide))) (fun r10 h => ?_)
        refine zr_istore C [(6, .int r10), (5, .int p2), (4, .ref (g.2.1 2)), (0, .ref (g.2.1 0)), (1, .int p1), (2, .int p2), (3, .int p3)] (zo_54 (p := 53) (k := 6) (a := 6) (zby_w zwX8_held_1 21 rfl) (zby_w zwX8_held_1 22 rfl) (by decide)) (by decide) rfl ?_
        refine zr_iconst C (1 : Int32) (zo_4 (p := 55) (zby_w zwX8_held_1 23 rfl)) (by decide) ?_
        refine zr_istore C [(7, .int (1 : Int32)), (6, .int r10), (5, .int p2), (4, .ref (g.2.1 2)), (0, .ref (g.2.1 0)), (1, .int p1), (2, .int p2), (3, .int p3)] (zo_54 (p := 56) (k := 7) (a := 7) (zby_w zwX8_held_1 24 rfl) (zby_w zwX8_held_1 25 rfl) (by decide)) (by decide) rfl ?_
        obtain ⟨M22, h⟩ := h
        exact zr_pick [5, 6, 7, 3, 2, 1, 0] rfl (g_X8_held_L58 C hret M22 p2 r10 (1 : Int32) h)
      · rw [if_pos hc9] at h
        refine zr_bipush C (-2 : Int32) d_X8_held_40 (by decide) ?_
        exact hret _ _ _ h d_X8_held_42
  · rw [if_pos hc3] at h
    refine zr_iconst C (-1 : Int32) (zo_2 (p := 18) (zby_w zwX8_held_0 18 rfl)) (by decide) ?_
    exact hret _ _ _ h (zo_172 (p := 19) (zby_w zwX8_held_0 19 rfl))
set_option maxRecDepth 20000 in
theorem c_X8_held (l : Launch) (g : zG) (p1 : Int32) (p2 : Int32) (p3 : Int32) (σ : zST) (Post : Int32 → Prop) (h : wp_X8_held p1 p2 p3 σ Post) : Met l yX8_held (Cond.code yX8_held cX8_held 9 (some .int) :: zGW) (zRm 6 136) (va_Pc [.ref (g.2.1 0), .int p1, .int p2, .int p3] (zPP g σ)) (va_Qi (fun r u => Post r ∧ u = σ) (zBB g) (zA g)) 0 0 (zA g) :=
  zMet (by decide) (Nat.le_of_ble_eq_true rfl) (fun p e s m below meth c hr C => g_X8_held C (fun v pc lv hp hd => zr_iret C hr ⟨hp, rfl⟩ hd) h)
def wp_X8_bound (p1 : Int32) (p2 : Int32) (p3 : Int32) (σ : zST) (Post : Int32 → zST → Prop) : Prop := (if p3 = (-1 : Int32) then wp_X8_isHour p1 σ (fun r2 => (if r2 = (0) then Post (-2 : Int32) σ else wp_X8_within p2 (0 : Int32) (99999 : Int32) σ (fun r5 => (if r5 = (0) then Post (-2 : Int32) σ else wp_X2_gather 2 p1 σ (fun σ9 => wp_X2_leastWithin p2 σ9 (fun r10 σ11 => (if r10 = (-6 : Int32) then Post (-6 : Int32) σ11 else (if p3 = (-1 : Int32) then wp_X2_meanOfChoice r10 σ11 (fun r16 => Post r16 σ11) else wp_X2_sideInChoice r10 p3 σ11 (fun r14 => Post r14 σ11))))))))) else wp_X6_moored 2 p3 σ (fun r18 => (if r18 = (0) then Post (-1 : Int32) σ else wp_X8_isHour p1 σ (fun r21 => (if r21 = (0) then Post (-2 : Int32) σ else wp_X8_within p2 (0 : Int32) (99999 : Int32) σ (fun r24 => (if r24 = (0) then Post (-2 : Int32) σ else wp_X2_gather 2 p1 σ (fun σ28 => wp_X2_leastWithin p2 σ28 (fun r29 σ30 => (if r29 = (-6 : Int32) then Post (-6 : Int32) σ30 else (if p3 = (-1 : Int32) then wp_X2_meanOfChoice r29 σ30 (fun r35 => Post r35 σ30) else wp_X2_sideInChoice r29 p3 σ30 (fun r33 => Post r33 σ30))))))))))))
set_option maxRecDepth 100000 in
set_option maxHeartbeats 4000000 in
theorem g_X8_bound {p : Program} {l : Launch} {e : Env} {R : Room} {s : State} {m : MethodId} {args : Array Value} {below : List Frame} {meth : Method} {c : Code} {Q : State → Prop} {g : zG} {n1 n2 : Nat} (C : zCX p R s m args meth c g n1 n2 cX8_bound 5 RX8 5 116) {p1 : Int32} {p2 : Int32} {p3 : Int32} {σ : zST} {Post : Int32 → zST → Prop} (hret : ∀ (v : Int32) (σ : zST) (pc : Nat) (lv : List (Nat × Value)), Post v σ → decode cX8_bound pc = .ok (.ireturn, 1) → zGG p l e R s m args below meth c Q g n1 n2 5 pc lv [.int v] σ) (h : wp_X8_bound p1 p2 p3 σ Post) : zGG p l e R s m args below meth c Q g n1 n2 5 0 [(0, .ref (g.2.1 0)), (1, .int p1), (2, .int p2), (3, .int p3)] [] σ := by
  unfold wp_X8_bound at h
  refine zr_iload_n C (zo_29 (p := 0) (zby_w zwX8_bound_0 0 rfl)) rfl ?_
  refine zr_iconst C (-1 : Int32) (zo_2 (p := 1) (zby_w zwX8_bound_0 1 rfl)) (by decide) ?_
  refine zr_icmp_eq C 21 (zo_159 (p := 2) (k := 19) (a := 0) (b := 19) (zby_w zwX8_bound_0 2 rfl) (zby_w zwX8_bound_0 3 rfl) (zby_w zwX8_bound_0 4 rfl) (by decide)) (by decide) (fun hc1 => ?_) (fun hc1 => ?_)
  · rw [if_pos hc1] at h
    refine zr_iload_n C d_X8_bound_21 rfl ?_
    refine zr_cip (zr_runS (As := [.int p1]) (rest := []) C sw_X8_145 (c_X8_isHour l g p1 σ _ h) (by decide) (by decide) rfl rfl (Nat.le_of_ble_eq_true rfl) d_X8_bound_22) (fun r2 h => ?_)
    refine zr_if_eq C 38 d_X8_bound_25 (by decide) (fun hc4 => ?_) (fun hc4 => ?_)
    · rw [if_pos hc4] at h
      refine zr_bipush C (-2 : Int32) d_X8_bound_38 (by decide) ?_
      exact hret _ _ _ _ h d_X8_bound_40
    · rw [if_neg hc4] at h
      refine zr_iload_n C d_X8_bound_28 rfl ?_
      refine zr_iconst C (0 : Int32) d_X8_bound_29 (by decide) ?_
      refine zr_ldc C (v := (99999 : Int32)) cw_X8_167 d_X8_bound_30 ?_
      refine zr_cip (zr_runS (As := [.int p2, .int (0 : Int32), .int (99999 : Int32)]) (rest := []) C sw_X8_47 (c_X8_within l g p2 (0 : Int32) (99999 : Int32) σ _ h) (by decide) (by decide) rfl rfl (Nat.le_of_ble_eq_true rfl) d_X8_bound_32) (fun r5 h => ?_)
      refine zr_if_ne C 41 d_X8_bound_35 (by decide) (fun hc7 => ?_) (fun hc7 => ?_)
      · rw [if_neg hc7] at h
        refine zr_aload_n C d_X8_bound_41 rfl ?_
        refine zr_getr (u := 63) C fw_X8_43 (sh_0) rfl d_X8_bound_42 ?_
        refine zr_aload_n C d_X8_bound_45 rfl ?_
        refine zr_getr (u := 1) C fw_X8_10 (sh_0) rfl d_X8_bound_46 ?_
        refine zr_getr (u := 2) C fw_X8_51 (sh_1) rfl d_X8_bound_49 ?_
        refine zr_iload_n C d_X8_bound_52 rfl ?_
        refine zr_cv (zr_runV (As := [.ref (g.2.1 2), .int p1]) (rest := []) C vw_X8_168 (c_X2_gather l g 2 isX6_2 p1 σ _ h) (sh_63) rfl (by decide) (by decide) rfl rfl (Nat.le_of_ble_eq_true rfl) d_X8_bound_53) (fun σ9 h => ?_)
        refine zr_aload_n C d_X8_bound_56 rfl ?_
        refine zr_getr (u := 63) C fw_X8_43 (sh_0) rfl d_X8_bound_57 ?_
        refine zr_iload_n C d_X8_bound_60 rfl ?_
        refine zr_ci (zr_runV (As := [.int p2]) (rest := []) C vw_X8_172 (c_X2_leastWithin l g p2 σ9 _ h) (sh_63) rfl (by decide) (by decide) rfl rfl (Nat.le_of_ble_eq_true rfl) d_X8_bound_61) (fun r10 σ11 h => ?_)
        refine zr_istore C [(4, .int r10), (0, .ref (g.2.1 0)), (1, .int p1), (2, .int p2), (3, .int p3)] d_X8_bound_64 (by decide) rfl ?_
        refine zr_iload C d_X8_bound_66 rfl ?_
        refine zr_bipush C (-6 : Int32) d_X8_bound_68 (by decide) ?_
        refine zr_icmp_ne C 76 d_X8_bound_70 (by decide) (fun hc12 => ?_) (fun hc12 => ?_)
        · rw [if_neg hc12] at h
          refine zr_iload_n C d_X8_bound_76 rfl ?_
          refine zr_iconst C (-1 : Int32) d_X8_bound_77 (by decide) ?_
          refine zr_icmp_ne C 93 d_X8_bound_78 (by decide) (fun hc13 => ?_) (fun hc13 => ?_)
          · rw [if_neg hc13] at h
            refine zr_aload_n C d_X8_bound_93 rfl ?_
            refine zr_getr (u := 63) C fw_X8_43 (sh_0) rfl d_X8_bound_94 ?_
            refine zr_iload C d_X8_bound_97 rfl ?_
            refine zr_iload_n C d_X8_bound_99 rfl ?_
            refine zr_cip (zr_runV (As := [.int r10, .int p3]) (rest := []) C vw_X8_178 (c_X2_sideInChoice l g r10 p3 σ11 _ h) (sh_63) rfl (by decide) (by decide) rfl rfl (Nat.le_of_ble_eq_true rfl) d_X8_bound_100) (fun r14 h => ?_)
            exact hret _ _ _ _ h d_X8_bound_103
          · rw [if_pos hc13] at h
            refine zr_aload_n C d_X8_bound_81 rfl ?_
            refine zr_getr (u := 63) C fw_X8_43 (sh_0) rfl d_X8_bound_82 ?_
            refine zr_iload C d_X8_bound_85 rfl ?_
            refine zr_cip (zr_runV (As := [.int r10]) (rest := []) C vw_X8_175 (c_X2_meanOfChoice l g r10 σ11 _ h) (sh_63) rfl (by decide) (by decide) rfl rfl (Nat.le_of_ble_eq_true rfl) d_X8_bound_87) (fun r16 h => ?_)
            refine zr_goto C 103 d_X8_bound_90 (by decide) ?_
            exact hret _ _ _ _ h d_X8_bound_103
        · rw [if_pos hc12] at h
          refine zr_bipush C (-6 : Int32) d_X8_bound_73 (by decide) ?_
          exact hret _ _ _ _ h d_X8_bound_75
      · rw [if_pos hc7] at h
        refine zr_bipush C (-2 : Int32) d_X8_bound_38 (by decide) ?_
        exact hret _ _ _ _ h d_X8_bound_40
  · rw [if_neg hc1] at h
    refine zr_aload_n C (zo_42 (p := 5) (zby_w zwX8_bound_0 5 rfl)) rfl ?_
    refine zr_getr (u := 1) C fw_X8_10 (sh_0) rfl (zo_180 (p := 6) (k := 10) (a := 0) (b := 10) (zby_w zwX8_bound_0 6 rfl) (zby_w zwX8_bound_0 7 rfl) (zby_w zwX8_bound_0 8 rfl) (by decide)) ?_
    refine zr_getr (u := 2) C fw_X8_51 (sh_1) rfl (zo_180 (p := 9) (k := 51) (a := 0) (b := 51) (zby_w zwX8_bound_0 9 rfl) (zby_w zwX8_bound_0 10 rfl) (zby_w zwX8_bound_0 11 rfl) (by decide)) ?_
    refine zr_iload_n C (zo_29 (p := 12) (zby_w zwX8_bound_0 12 rfl)) rfl ?_
    refine zr_cip (zr_runV (As := [.int p3]) (rest := []) C vw_X8_164 (c_X6_moored l g 2 isX6_2 p3 σ _ h) (sh_2) rfl (by decide) (by decide) rfl rfl (Nat.le_of_ble_eq_true rfl) (zo_182 (p := 13) (k := 164) (a := 0) (b := 164) (zby_w zwX8_bound_0 13 rfl) (zby_w zwX8_bound_0 14 rfl) (zby_w zwX8_bound_0 15 rfl) (by decide))) (fun r18 h => ?_)
    refine zr_if_ne C 21 (zo_154 (p := 16) (k := 5) (a := 0) (b := 5) (zby_w zwX8_bound_0 16 rfl) (zby_w zwX8_bound_0 17 rfl) (zby_w zwX8_bound_0 18 rfl) (by decide)) (by decide) (fun hc20 => ?_) (fun hc20 => ?_)
    · rw [if_neg hc20] at h
      refine zr_iload_n C d_X8_bound_21 rfl ?_
      refine zr_cip (zr_runS (As := [.int p1]) (rest := []) C sw_X8_145 (c_X8_isHour l g p1 σ _ h) (by decide) (by decide) rfl rfl (Nat.le_of_ble_eq_true rfl) d_X8_bound_22) (fun r21 h => ?_)
      refine zr_if_eq C 38 d_X8_bound_25 (by decide) (fun hc23 => ?_) (fun hc23 => ?_)
      · rw [if_pos hc23] at h
        refine zr_bipush C (-2 : Int32) d_X8_bound_38 (by decide) ?_
        exact hret _ _ _ _ h d_X8_bound_40
      · rw [if_neg hc23] at h
        refine zr_iload_n C d_X8_bound_28 rfl ?_
        refine zr_iconst C (0 : Int32) d_X8_bound_29 (by decide) ?_
        refine zr_ldc C (v := (99999 : Int32)) cw_X8_167 d_X8_bound_30 ?_
        refine zr_cip (zr_runS (As := [.int p2, .int (0 : Int32), .int (99999 : Int32)]) (rest := []) C sw_X8_47 (c_X8_within l g p2 (0 : Int32) (99999 : Int32) σ _ h) (by decide) (by decide) rfl rfl (Nat.le_of_ble_eq_true rfl) d_X8_bound_32) (fun r24 h => ?_)
        refine zr_if_ne C 41 d_X8_bound_35 (by decide) (fun hc26 => ?_) (fun hc26 => ?_)
        · rw [if_neg hc26] at h
          refine zr_aload_n C d_X8_bound_41 rfl ?_
          refine zr_getr (u := 63) C fw_X8_43 (sh_0) rfl d_X8_bound_42 ?_
          refine zr_aload_n C d_X8_bound_45 rfl ?_
          refine zr_getr (u := 1) C fw_X8_10 (sh_0) rfl d_X8_bound_46 ?_
          refine zr_getr (u := 2) C fw_X8_51 (sh_1) rfl d_X8_bound_49 ?_
          refine zr_iload_n C d_X8_bound_52 rfl ?_
          refine zr_cv (zr_runV (As := [.ref (g.2.1 2), .int p1]) (rest := []) C vw_X8_168 (c_X2_gather l g 2 isX6_2 p1 σ _ h) (sh_63) rfl (by decide) (by decide) rfl rfl (Nat.le_of_ble_eq_true rfl) d_X8_bound_53) (fun σ28 h => ?_)
          refine zr_aload_n C d_X8_bound_56 rfl ?_
          refine zr_getr (u := 63) C fw_X8_43 (sh_0) rfl d_X8_bound_57 ?_
          refine zr_iload_n C d_X8_bound_60 rfl ?_
          refine zr_ci (zr_runV (As := [.int p2]) (rest := []) C vw_X8_172 (c_X2_leastWithin l g p2 σ28 _ h) (sh_63) rfl (by decide) (by decide) rfl rfl (Nat.le_of_ble_eq_true rfl) d_X8_bound_61) (fun r29 σ30 h => ?_)
          refine zr_istore C [(4, .int r29), (0, .ref (g.2.1 0)), (1, .int p1), (2, .int p2), (3, .int p3)] d_X8_bound_64 (by decide) rfl ?_
          refine zr_iload C d_X8_bound_66 rfl ?_
          refine zr_bipush C (-6 : Int32) d_X8_bound_68 (by decide) ?_
          refine zr_icmp_ne C 76 d_X8_bound_70 (by decide) (fun hc31 => ?_) (fun hc31 => ?_)
          · rw [if_neg hc31] at h
            refine zr_iload_n C d_X8_bound_76 rfl ?_
            refine zr_iconst C (-1 : Int32) d_X8_bound_77 (by decide) ?_
            refine zr_icmp_ne C 93 d_X8_bound_78 (by decide) (fun hc32 => ?_) (fun hc32 => ?_)
            · rw [if_neg hc32] at h
              refine zr_aload_n C d_X8_bound_93 rfl ?_
              refine zr_getr (u := 63) C fw_X8_43 (sh_0) rfl d_X8_bound_94 ?_
              refine zr_iload C d_X8_bound_97 rfl ?_
              refine zr_iload_n C d_X8_bound_99 rfl ?_
              refine zr_cip (zr_runV (As := [.int r29, .int p3]) (rest := []) C vw_X8_178 (c_X2_sideInChoice l g r29 p3 σ30 _ h) (sh_63) rfl (by decide) (by decide) rfl rfl (Nat.le_of_ble_eq_true rfl) d_X8_bound_100) (fun r33 h => ?_)
              exact hret _ _ _ _ h d_X8_bound_103
            · rw [if_pos hc32] at h
              refine zr_aload_n C d_X8_bound_81 rfl ?_
              refine zr_getr (u := 63) C fw_X8_43 (sh_0) rfl d_X8_bound_82 ?_
              refine zr_iload C d_X8_bound_85 rfl ?_
              refine zr_cip (zr_runV (As := [.int r29]) (rest := []) C vw_X8_175 (c_X2_meanOfChoice l g r29 σ30 _ h) (sh_63) rfl (by decide) (by decide) rfl rfl (Nat.le_of_ble_eq_true rfl) d_X8_bound_87) (fun r35 h => ?_)
              refine zr_goto C 103 d_X8_bound_90 (by decide) ?_
              exact hret _ _ _ _ h d_X8_bound_103
          · rw [if_pos hc31] at h
            refine zr_bipush C (-6 : Int32) d_X8_bound_73 (by decide) ?_
            exact hret _ _ _ _ h d_X8_bound_75
        · rw [if_pos hc26] at h
          refine zr_bipush C (-2 : Int32) d_X8_bound_38 (by decide) ?_
          exact hret _ _ _ _ h d_X8_bound_40
    · rw [if_pos hc20] at h
      refine zr_iconst C (-1 : Int32) (zo_2 (p := 19) (zby_w zwX8_bound_0 19 rfl)) (by decide) ?_
      exact hret _ _ _ _ h (zo_172 (p := 20) (zby_w zwX8_bound_0 20 rfl))
set_option maxRecDepth 20000 in
theorem c_X8_bound (l : Launch) (g : zG) (p1 : Int32) (p2 : Int32) (p3 : Int32) (σ : zST) (Post : Int32 → zST → Prop) (h : wp_X8_bound p1 p2 p3 σ Post) : Met l yX8_bound (Cond.code yX8_bound cX8_bound 5 (some .int) :: zGW) (zRm 5 116) (va_Pc [.ref (g.2.1 0), .int p1, .int p2, .int p3] (zPP g σ)) (va_Qi Post (zBB g) (zA g)) 0 0 (zA g) :=
  zMet (by decide) (Nat.le_of_ble_eq_true rfl) (fun p e s m below meth c hr C => g_X8_bound C (fun v σ pc lv hp hd => zr_iret C hr hp hd) h)
def wp_X8_line (p1 : Int32) (p2 : Int32) (p3 : Int32) (σ : zST) (Post : Int32 → zST → Prop) : Prop := wp_X8_isHour p1 σ (fun r1 => (if r1 = (0) then Post (-2 : Int32) σ else (if p2 < (-1 : Int32) then Post (-2 : Int32) σ else wp_X8_within p3 (0 : Int32) (1 : Int32) σ (fun r5 => (if r5 = (0) then Post (-2 : Int32) σ else wp_X2_gather 2 p1 σ (fun σ9 => wp_X2_drawLine σ9 (fun r10 σ11 => (if p2 = (-1 : Int32) then Post r10 σ11 else (if r10 ≤ p2 then Post (-6 : Int32) σ11 else wp_X2_onLine p2 p3 σ11 (fun r14 => Post r14 σ11))))))))))
set_option maxRecDepth 100000 in
set_option maxHeartbeats 4000000 in
theorem g_X8_line {p : Program} {l : Launch} {e : Env} {R : Room} {s : State} {m : MethodId} {args : Array Value} {below : List Frame} {meth : Method} {c : Code} {Q : State → Prop} {g : zG} {n1 n2 : Nat} (C : zCX p R s m args meth c g n1 n2 cX8_line 5 RX8 5 116) {p1 : Int32} {p2 : Int32} {p3 : Int32} {σ : zST} {Post : Int32 → zST → Prop} (hret : ∀ (v : Int32) (σ : zST) (pc : Nat) (lv : List (Nat × Value)), Post v σ → decode cX8_line pc = .ok (.ireturn, 1) → zGG p l e R s m args below meth c Q g n1 n2 5 pc lv [.int v] σ) (h : wp_X8_line p1 p2 p3 σ Post) : zGG p l e R s m args below meth c Q g n1 n2 5 0 [(0, .ref (g.2.1 0)), (1, .int p1), (2, .int p2), (3, .int p3)] [] σ := by
  unfold wp_X8_line at h
  refine zr_iload_n C (zo_27 (p := 0) (zby_w zwX8_line_0 0 rfl)) rfl ?_
  refine zr_cip (zr_runS (As := [.int p1]) (rest := []) C sw_X8_145 (c_X8_isHour l g p1 σ _ h) (by decide) (by decide) rfl rfl (Nat.le_of_ble_eq_true rfl) (zo_184 (p := 1) (k := 145) (a := 0) (b := 145) (zby_w zwX8_line_0 1 rfl) (zby_w zwX8_line_0 2 rfl) (zby_w zwX8_line_0 3 rfl) (by decide))) (fun r1 h => ?_)
  refine zr_if_eq C 21 (zo_153 (p := 4) (k := 17) (a := 0) (b := 17) (zby_w zwX8_line_0 4 rfl) (zby_w zwX8_line_0 5 rfl) (zby_w zwX8_line_0 6 rfl) (by decide)) (by decide) (fun hc3 => ?_) (fun hc3 => ?_)
  · rw [if_pos hc3] at h
    refine zr_bipush C (-2 : Int32) d_X8_line_21 (by decide) ?_
    exact hret _ _ _ _ h d_X8_line_23
  · rw [if_neg hc3] at h
    refine zr_iload_n C (zo_28 (p := 7) (zby_w zwX8_line_0 7 rfl)) rfl ?_
    refine zr_iconst C (-1 : Int32) (zo_2 (p := 8) (zby_w zwX8_line_0 8 rfl)) (by decide) ?_
    refine zr_icmp_lt C 21 (zo_161 (p := 9) (k := 12) (a := 0) (b := 12) (zby_w zwX8_line_0 9 rfl) (zby_w zwX8_line_0 10 rfl) (zby_w zwX8_line_0 11 rfl) (by decide)) (by decide) (fun hc4 => ?_) (fun hc4 => ?_)
    · rw [if_pos hc4] at h
      refine zr_bipush C (-2 : Int32) d_X8_line_21 (by decide) ?_
      exact hret _ _ _ _ h d_X8_line_23
    · rw [if_neg hc4] at h
      refine zr_iload_n C (zo_29 (p := 12) (zby_w zwX8_line_0 12 rfl)) rfl ?_
      refine zr_iconst C (0 : Int32) (zo_3 (p := 13) (zby_w zwX8_line_0 13 rfl)) (by decide) ?_
      refine zr_iconst C (1 : Int32) (zo_4 (p := 14) (zby_w zwX8_line_0 14 rfl)) (by decide) ?_
      refine zr_cip (zr_runS (As := [.int p3, .int (0 : Int32), .int (1 : Int32)]) (rest := []) C sw_X8_47 (c_X8_within l g p3 (0 : Int32) (1 : Int32) σ _ h) (by decide) (by decide) rfl rfl (Nat.le_of_ble_eq_true rfl) (zo_184 (p := 15) (k := 47) (a := 0) (b := 47) (zby_w zwX8_line_0 15 rfl) (zby_w zwX8_line_0 16 rfl) (zby_w zwX8_line_0 17 rfl) (by decide))) (fun r5 h => ?_)
      refine zr_if_ne C 24 (zo_154 (p := 18) (k := 6) (a := 0) (b := 6) (zby_w zwX8_line_0 18 rfl) (zby_w zwX8_line_0 19 rfl) (zby_w zwX8_line_0 20 rfl) (by decide)) (by decide) (fun hc7 => ?_) (fun hc7 => ?_)
      · rw [if_neg hc7] at h
        refine zr_aload_n C (zo_42 (p := 24) (zby_w zwX8_line_0 24 rfl)) rfl ?_
        refine zr_getr (u := 63) C fw_X8_43 (sh_0) rfl (zo_180 (p := 25) (k := 43) (a := 0) (b := 43) (zby_w zwX8_line_0 25 rfl) (zby_w zwX8_line_0 26 rfl) (zby_w zwX8_line_0 27 rfl) (by decide)) ?_
        refine zr_aload_n C (zo_42 (p := 28) (zby_w zwX8_line_0 28 rfl)) rfl ?_
        refine zr_getr (u := 1) C fw_X8_10 (sh_0) rfl (zo_180 (p := 29) (k := 10) (a := 0) (b := 10) (zby_w zwX8_line_0 29 rfl) (zby_w zwX8_line_0 30 rfl) (zby_w zwX8_line_0 31 rfl) (by decide)) ?_
        refine zr_getr (u := 2) C fw_X8_51 (sh_1) rfl (zo_180 (p := 32) (k := 51) (a := 0) (b := 51) (zby_w zwX8_line_1 0 rfl) (zby_w zwX8_line_1 1 rfl) (zby_w zwX8_line_1 2 rfl) (by decide)) ?_
        refine zr_iload_n C (zo_27 (p := 35) (zby_w zwX8_line_1 3 rfl)) rfl ?_
        refine zr_cv (zr_runV (As := [.ref (g.2.1 2), .int p1]) (rest := []) C vw_X8_168 (c_X2_gather l g 2 isX6_2 p1 σ _ h) (sh_63) rfl (by decide) (by decide) rfl rfl (Nat.le_of_ble_eq_true rfl) (zo_182 (p := 36) (k := 168) (a := 0) (b := 168) (zby_w zwX8_line_1 4 rfl) (zby_w zwX8_line_1 5 rfl) (zby_w zwX8_line_1 6 rfl) (by decide))) (fun σ9 h => ?_)
        refine zr_aload_n C (zo_42 (p := 39) (zby_w zwX8_line_1 7 rfl)) rfl ?_
        refine zr_getr (u := 63) C fw_X8_43 (sh_0) rfl (zo_180 (p := 40) (k := 43) (a := 0) (b := 43) (zby_w zwX8_line_1 8 rfl) (zby_w zwX8_line_1 9 rfl) (zby_w zwX8_line_1 10 rfl) (by decide)) ?_
        refine zr_ci (zr_runV (As := []) (rest := []) C vw_X8_181 (c_X2_drawLine l g σ9 _ h) (sh_63) rfl (by decide) (by decide) rfl rfl (Nat.le_of_ble_eq_true rfl) (zo_182 (p := 43) (k := 181) (a := 0) (b := 181) (zby_w zwX8_line_1 11 rfl) (zby_w zwX8_line_1 12 rfl) (zby_w zwX8_line_1 13 rfl) (by decide))) (fun r10 σ11 h => ?_)
        refine zr_istore C [(4, .int r10), (0, .ref (g.2.1 0)), (1, .int p1), (2, .int p2), (3, .int p3)] (zo_54 (p := 46) (k := 4) (a := 4) (zby_w zwX8_line_1 14 rfl) (zby_w zwX8_line_1 15 rfl) (by decide)) (by decide) rfl ?_
        refine zr_iload_n C (zo_28 (p := 48) (zby_w zwX8_line_1 16 rfl)) rfl ?_
        refine zr_iconst C (-1 : Int32) (zo_2 (p := 49) (zby_w zwX8_line_1 17 rfl)) (by decide) ?_
        refine zr_icmp_ne C 56 (zo_160 (p := 50) (k := 6) (a := 0) (b := 6) (zby_w zwX8_line_1 18 rfl) (zby_w zwX8_line_1 19 rfl) (zby_w zwX8_line_1 20 rfl) (by decide)) (by decide) (fun hc12 => ?_) (fun hc12 => ?_)
        · rw [if_neg hc12] at h
          refine zr_iload_n C (zo_28 (p := 56) (zby_w zwX8_line_1 24 rfl)) rfl ?_
          refine zr_iload C (zo_21 (p := 57) (k := 4) (a := 4) (zby_w zwX8_line_1 25 rfl) (zby_w zwX8_line_1 26 rfl) (by decide)) rfl ?_
          refine zr_icmp_ge C 74 (zo_162 (p := 59) (k := 15) (a := 0) (b := 15) (zby_w zwX8_line_1 27 rfl) (zby_w zwX8_line_1 28 rfl) (zby_w zwX8_line_1 29 rfl) (by decide)) (by decide) (fun hc13 => ?_) (fun hc13 => ?_)
          · rw [if_pos hc13] at h
            refine zr_bipush C (-6 : Int32) (zo_16 (p := 74) (k := (-6)) (a := 250) (zby_w zwX8_line_2 10 rfl) (zby_w zwX8_line_2 11 rfl) (by decide)) (by decide) ?_
            exact hret _ _ _ _ h d_X8_line_76
          · rw [if_neg hc13] at h
            refine zr_aload_n C (zo_42 (p := 62) (zby_w zwX8_line_1 30 rfl)) rfl ?_
            refine zr_getr (u := 63) C fw_X8_43 (sh_0) rfl (zo_180 (p := 63) (k := 43) (a := 0) (b := 43) (zby_w zwX8_line_1 31 rfl) (zby_w zwX8_line_1 32 rfl) (zby_w zwX8_line_1 33 rfl) (by decide)) ?_
            refine zr_iload_n C (zo_28 (p := 66) (zby_w zwX8_line_2 2 rfl)) rfl ?_
            refine zr_iload_n C (zo_29 (p := 67) (zby_w zwX8_line_2 3 rfl)) rfl ?_
            refine zr_cip (zr_runV (As := [.int p2, .int p3]) (rest := []) C vw_X8_184 (c_X2_onLine l g p2 p3 σ11 _ h) (sh_63) rfl (by decide) (by decide) rfl rfl (Nat.le_of_ble_eq_true rfl) (zo_182 (p := 68) (k := 184) (a := 0) (b := 184) (zby_w zwX8_line_2 4 rfl) (zby_w zwX8_line_2 5 rfl) (zby_w zwX8_line_2 6 rfl) (by decide))) (fun r14 h => ?_)
            refine zr_goto C 76 (zo_167 (p := 71) (k := 5) (a := 0) (b := 5) (zby_w zwX8_line_2 7 rfl) (zby_w zwX8_line_2 8 rfl) (zby_w zwX8_line_2 9 rfl) (by decide)) (by decide) ?_
            exact hret _ _ _ _ h d_X8_line_76
        · rw [if_pos hc12] at h
          refine zr_iload C (zo_21 (p := 53) (k := 4) (a := 4) (zby_w zwX8_line_1 21 rfl) (zby_w zwX8_line_1 22 rfl) (by decide)) rfl ?_
          exact hret _ _ _ _ h (zo_172 (p := 55) (zby_w zwX8_line_1 23 rfl))
      · rw [if_pos hc7] at h
        refine zr_bipush C (-2 : Int32) d_X8_line_21 (by decide) ?_
        exact hret _ _ _ _ h d_X8_line_23
set_option maxRecDepth 20000 in
theorem c_X8_line (l : Launch) (g : zG) (p1 : Int32) (p2 : Int32) (p3 : Int32) (σ : zST) (Post : Int32 → zST → Prop) (h : wp_X8_line p1 p2 p3 σ Post) : Met l yX8_line (Cond.code yX8_line cX8_line 5 (some .int) :: zGW) (zRm 5 116) (va_Pc [.ref (g.2.1 0), .int p1, .int p2, .int p3] (zPP g σ)) (va_Qi Post (zBB g) (zA g)) 0 0 (zA g) :=
  zMet (by decide) (Nat.le_of_ble_eq_true rfl) (fun p e s m below meth c hr C => g_X8_line C (fun v σ pc lv hp hd => zr_iret C hr hp hd) h)
def wp_X8_convoy (p1 : Int32) (p2 : Int32) (σ : zST) (Post : Int32 → zST → Prop) : Prop := wp_X8_isHour p1 σ (fun r1 => (if r1 = (0) then Post (-2 : Int32) σ else wp_X8_within p2 (0 : Int32) (1 : Int32) σ (fun r4 => (if r4 = (0) then Post (-2 : Int32) σ else wp_X2_gather 2 p1 σ (fun σ8 => wp_X2_commonSide σ8 (fun r9 => (if p2 = (0) then Post r9 σ8 else wp_X2_meanOfAllBy r9 σ8 (fun r12 => Post r12 σ8))))))))
set_option maxRecDepth 100000 in
set_option maxHeartbeats 4000000 in
theorem g_X8_convoy {p : Program} {l : Launch} {e : Env} {R : Room} {s : State} {m : MethodId} {args : Array Value} {below : List Frame} {meth : Method} {c : Code} {Q : State → Prop} {g : zG} {n1 n2 : Nat} (C : zCX p R s m args meth c g n1 n2 cX8_convoy 4 RX8 5 116) {p1 : Int32} {p2 : Int32} {σ : zST} {Post : Int32 → zST → Prop} (hret : ∀ (v : Int32) (σ : zST) (pc : Nat) (lv : List (Nat × Value)), Post v σ → decode cX8_convoy pc = .ok (.ireturn, 1) → zGG p l e R s m args below meth c Q g n1 n2 4 pc lv [.int v] σ) (h : wp_X8_convoy p1 p2 σ Post) : zGG p l e R s m args below meth c Q g n1 n2 4 0 [(0, .ref (g.2.1 0)), (1, .int p1), (2, .int p2)] [] σ := by
  unfold wp_X8_convoy at h
  refine zr_iload_n C (zo_27 (p := 0) (zby_w zwX8_convoy_0 0 rfl)) rfl ?_
  refine zr_cip (zr_runS (As := [.int p1]) (rest := []) C sw_X8_145 (c_X8_isHour l g p1 σ _ h) (by decide) (by decide) rfl rfl (Nat.le_of_ble_eq_true rfl) (zo_184 (p := 1) (k := 145) (a := 0) (b := 145) (zby_w zwX8_convoy_0 1 rfl) (zby_w zwX8_convoy_0 2 rfl) (zby_w zwX8_convoy_0 3 rfl) (by decide))) (fun r1 h => ?_)
  refine zr_if_eq C 16 (zo_153 (p := 4) (k := 12) (a := 0) (b := 12) (zby_w zwX8_convoy_0 4 rfl) (zby_w zwX8_convoy_0 5 rfl) (zby_w zwX8_convoy_0 6 rfl) (by decide)) (by decide) (fun hc3 => ?_) (fun hc3 => ?_)
  · rw [if_pos hc3] at h
    refine zr_bipush C (-2 : Int32) d_X8_convoy_16 (by decide) ?_
    exact hret _ _ _ _ h d_X8_convoy_18
  · rw [if_neg hc3] at h
    refine zr_iload_n C (zo_28 (p := 7) (zby_w zwX8_convoy_0 7 rfl)) rfl ?_
    refine zr_iconst C (0 : Int32) (zo_3 (p := 8) (zby_w zwX8_convoy_0 8 rfl)) (by decide) ?_
    refine zr_iconst C (1 : Int32) (zo_4 (p := 9) (zby_w zwX8_convoy_0 9 rfl)) (by decide) ?_
    refine zr_cip (zr_runS (As := [.int p2, .int (0 : Int32), .int (1 : Int32)]) (rest := []) C sw_X8_47 (c_X8_within l g p2 (0 : Int32) (1 : Int32) σ _ h) (by decide) (by decide) rfl rfl (Nat.le_of_ble_eq_true rfl) (zo_184 (p := 10) (k := 47) (a := 0) (b := 47) (zby_w zwX8_convoy_0 10 rfl) (zby_w zwX8_convoy_0 11 rfl) (zby_w zwX8_convoy_0 12 rfl) (by decide))) (fun r4 h => ?_)
    refine zr_if_ne C 19 (zo_154 (p := 13) (k := 6) (a := 0) (b := 6) (zby_w zwX8_convoy_0 13 rfl) (zby_w zwX8_convoy_0 14 rfl) (zby_w zwX8_convoy_0 15 rfl) (by decide)) (by decide) (fun hc6 => ?_) (fun hc6 => ?_)
    · rw [if_neg hc6] at h
      refine zr_aload_n C (zo_42 (p := 19) (zby_w zwX8_convoy_0 19 rfl)) rfl ?_
      refine zr_getr (u := 63) C fw_X8_43 (sh_0) rfl (zo_180 (p := 20) (k := 43) (a := 0) (b := 43) (zby_w zwX8_convoy_0 20 rfl) (zby_w zwX8_convoy_0 21 rfl) (zby_w zwX8_convoy_0 22 rfl) (by decide)) ?_
      refine zr_aload_n C (zo_42 (p := 23) (zby_w zwX8_convoy_0 23 rfl)) rfl ?_
      refine zr_getr (u := 1) C fw_X8_10 (sh_0) rfl (zo_180 (p := 24) (k := 10) (a := 0) (b := 10) (zby_w zwX8_convoy_0 24 rfl) (zby_w zwX8_convoy_0 25 rfl) (zby_w zwX8_convoy_0 26 rfl) (by decide)) ?_
      refine zr_getr (u := 2) C fw_X8_51 (sh_1) rfl (zo_180 (p := 27) (k := 51) (a := 0) (b := 51) (zby_w zwX8_convoy_0 27 rfl) (zby_w zwX8_convoy_0 28 rfl) (zby_w zwX8_convoy_0 29 rfl) (by decide)) ?_
      refine zr_iload_n C (zo_27 (p := 30) (zby_w zwX8_convoy_0 30 rfl)) rfl ?_
      refine zr_cv (zr_runV (As := [.ref (g.2.1 2), .int p1]) (rest := []) C vw_X8_168 (c_X2_gather l g 2 isX6_2 p1 σ _ h) (sh_63) rfl (by decide) (by decide) rfl rfl (Nat.le_of_ble_eq_true rfl) (zo_182 (p := 31) (k := 168) (a := 0) (b := 168) (zby_w zwX8_convoy_0 31 rfl) (zby_w zwX8_convoy_0 32 rfl) (zby_w zwX8_convoy_0 33 rfl) (by decide))) (fun σ8 h => ?_)
      refine zr_aload_n C (zo_42 (p := 34) (zby_w zwX8_convoy_1 2 rfl)) rfl ?_
      refine zr_getr (u := 63) C fw_X8_43 (sh_0) rfl (zo_180 (p := 35) (k := 43) (a := 0) (b := 43) (zby_w zwX8_convoy_1 3 rfl) (zby_w zwX8_convoy_1 4 rfl) (zby_w zwX8_convoy_1 5 rfl) (by decide)) ?_
      refine zr_cip (zr_runV (As := []) (rest := []) C vw_X8_187 (c_X2_commonSide l g σ8 _ h) (sh_63) rfl (by decide) (by decide) rfl rfl (Nat.le_of_ble_eq_true rfl) (zo_182 (p := 38) (k := 187) (a := 0) (b := 187) (zby_w zwX8_convoy_1 6 rfl) (zby_w zwX8_convoy_1 7 rfl) (zby_w zwX8_convoy_1 8 rfl) (by decide))) (fun r9 h => ?_)
      refine zr_istore_n C [(3, .int r9), (0, .ref (g.2.1 0)), (1, .int p1), (2, .int p2)] (zo_62 (p := 41) (zby_w zwX8_convoy_1 9 rfl)) (by decide) rfl ?_
      refine zr_iload_n C (zo_28 (p := 42) (zby_w zwX8_convoy_1 10 rfl)) rfl ?_
      refine zr_if_ne C 50 (zo_154 (p := 43) (k := 7) (a := 0) (b := 7) (zby_w zwX8_convoy_1 11 rfl) (zby_w zwX8_convoy_1 12 rfl) (zby_w zwX8_convoy_1 13 rfl) (by decide)) (by decide) (fun hc11 => ?_) (fun hc11 => ?_)
      · rw [if_neg hc11] at h
        refine zr_aload_n C (zo_42 (p := 50) (zby_w zwX8_convoy_1 18 rfl)) rfl ?_
        refine zr_getr (u := 63) C fw_X8_43 (sh_0) rfl (zo_180 (p := 51) (k := 43) (a := 0) (b := 43) (zby_w zwX8_convoy_1 19 rfl) (zby_w zwX8_convoy_1 20 rfl) (zby_w zwX8_convoy_1 21 rfl) (by decide)) ?_
        refine zr_iload_n C (zo_29 (p := 54) (zby_w zwX8_convoy_1 22 rfl)) rfl ?_
        refine zr_cip (zr_runV (As := [.int r9]) (rest := []) C vw_X8_190 (c_X2_meanOfAllBy l g r9 σ8 _ h) (sh_63) rfl (by decide) (by decide) rfl rfl (Nat.le_of_ble_eq_true rfl) (zo_182 (p := 55) (k := 190) (a := 0) (b := 190) (zby_w zwX8_convoy_1 23 rfl) (zby_w zwX8_convoy_1 24 rfl) (zby_w zwX8_convoy_1 25 rfl) (by decide))) (fun r12 h => ?_)
        exact hret _ _ _ _ h d_X8_convoy_58
      · rw [if_pos hc11] at h
        refine zr_iload_n C (zo_29 (p := 46) (zby_w zwX8_convoy_1 14 rfl)) rfl ?_
        refine zr_goto C 58 (zo_167 (p := 47) (k := 11) (a := 0) (b := 11) (zby_w zwX8_convoy_1 15 rfl) (zby_w zwX8_convoy_1 16 rfl) (zby_w zwX8_convoy_1 17 rfl) (by decide)) (by decide) ?_
        exact hret _ _ _ _ h d_X8_convoy_58
    · rw [if_pos hc6] at h
      refine zr_bipush C (-2 : Int32) d_X8_convoy_16 (by decide) ?_
      exact hret _ _ _ _ h d_X8_convoy_18
set_option maxRecDepth 20000 in
theorem c_X8_convoy (l : Launch) (g : zG) (p1 : Int32) (p2 : Int32) (σ : zST) (Post : Int32 → zST → Prop) (h : wp_X8_convoy p1 p2 σ Post) : Met l yX8_convoy (Cond.code yX8_convoy cX8_convoy 4 (some .int) :: zGW) (zRm 5 116) (va_Pc [.ref (g.2.1 0), .int p1, .int p2] (zPP g σ)) (va_Qi Post (zBB g) (zA g)) 0 0 (zA g) :=
  zMet (by decide) (Nat.le_of_ble_eq_true rfl) (fun p e s m below meth c hr C => g_X8_convoy C (fun v σ pc lv hp hd => zr_iret C hr hp hd) h)
def wp_X8_captain (p1 : Int32) (p2 : Int32) (σ : zST) (Post : Int32 → Prop) : Prop := wp_X8_refusalOf p1 p2 σ (fun r1 => (if r1 = (0) then wp_X6_captainsSide 2 p1 p2 (σ.1 7 (6 : Int32).toNatClampNeg) σ (fun r4 => Post r4) else Post r1))
set_option maxRecDepth 100000 in
set_option maxHeartbeats 4000000 in
theorem g_X8_captain {p : Program} {l : Launch} {e : Env} {R : Room} {s : State} {m : MethodId} {args : Array Value} {below : List Frame} {meth : Method} {c : Code} {Q : State → Prop} {g : zG} {n1 n2 : Nat} (C : zCX p R s m args meth c g n1 n2 cX8_captain 4 RX8 4 95) {p1 : Int32} {p2 : Int32} {σ : zST} {Post : Int32 → Prop} (hret : ∀ (v : Int32) (pc : Nat) (lv : List (Nat × Value)), Post v → decode cX8_captain pc = .ok (.ireturn, 1) → zGG p l e R s m args below meth c Q g n1 n2 4 pc lv [.int v] σ) (h : wp_X8_captain p1 p2 σ Post) : zGG p l e R s m args below meth c Q g n1 n2 4 0 [(0, .ref (g.2.1 0)), (1, .int p1), (2, .int p2)] [] σ := by
  unfold wp_X8_captain at h
  refine zr_aload_n C (zo_42 (p := 0) (zby_w zwX8_captain_0 0 rfl)) rfl ?_
  refine zr_iload_n C (zo_27 (p := 1) (zby_w zwX8_captain_0 1 rfl)) rfl ?_
  refine zr_iload_n C (zo_28 (p := 2) (zby_w zwX8_captain_0 2 rfl)) rfl ?_
  refine zr_cip (zr_runV (As := [.int p1, .int p2]) (rest := []) C vw_X8_155 (c_X8_refusalOf l g p1 p2 σ _ h) (sh_0) rfl (by decide) (by decide) rfl rfl (Nat.le_of_ble_eq_true rfl) (zo_182 (p := 3) (k := 155) (a := 0) (b := 155) (zby_w zwX8_captain_0 3 rfl) (zby_w zwX8_captain_0 4 rfl) (zby_w zwX8_captain_0 5 rfl) (by decide))) (fun r1 h => ?_)
  refine zr_istore_n C [(3, .int r1), (0, .ref (g.2.1 0)), (1, .int p1), (2, .int p2)] (zo_62 (p := 6) (zby_w zwX8_captain_0 6 rfl)) (by decide) rfl ?_
  refine zr_iload_n C (zo_29 (p := 7) (zby_w zwX8_captain_0 7 rfl)) rfl ?_
  refine zr_if_eq C 15 (zo_153 (p := 8) (k := 7) (a := 0) (b := 7) (zby_w zwX8_captain_0 8 rfl) (zby_w zwX8_captain_0 9 rfl) (zby_w zwX8_captain_0 10 rfl) (by decide)) (by decide) (fun hc3 => ?_) (fun hc3 => ?_)
  · rw [if_pos hc3] at h
    refine zr_aload_n C (zo_42 (p := 15) (zby_w zwX8_captain_0 15 rfl)) rfl ?_
    refine zr_getr (u := 1) C fw_X8_10 (sh_0) rfl (zo_180 (p := 16) (k := 10) (a := 0) (b := 10) (zby_w zwX8_captain_0 16 rfl) (zby_w zwX8_captain_0 17 rfl) (zby_w zwX8_captain_0 18 rfl) (by decide)) ?_
    refine zr_getr (u := 2) C fw_X8_51 (sh_1) rfl (zo_180 (p := 19) (k := 51) (a := 0) (b := 51) (zby_w zwX8_captain_0 19 rfl) (zby_w zwX8_captain_0 20 rfl) (zby_w zwX8_captain_0 21 rfl) (by decide)) ?_
    refine zr_iload_n C (zo_27 (p := 22) (zby_w zwX8_captain_0 22 rfl)) rfl ?_
    refine zr_iload_n C (zo_28 (p := 23) (zby_w zwX8_captain_0 23 rfl)) rfl ?_
    refine zr_aload_n C (zo_42 (p := 24) (zby_w zwX8_captain_0 24 rfl)) rfl ?_
    refine zr_getr (u := 1) C fw_X8_10 (sh_0) rfl (zo_180 (p := 25) (k := 10) (a := 0) (b := 10) (zby_w zwX8_captain_0 25 rfl) (zby_w zwX8_captain_0 26 rfl) (zby_w zwX8_captain_0 27 rfl) (by decide)) ?_
    refine zr_getr (u := 2) C fw_X8_51 (sh_1) rfl (zo_180 (p := 28) (k := 51) (a := 0) (b := 51) (zby_w zwX8_captain_0 28 rfl) (zby_w zwX8_captain_0 29 rfl) (zby_w zwX8_captain_0 30 rfl) (by decide)) ?_
    refine zr_getr (u := 7) C fw_X8_89 (sh_2) rfl (zo_180 (p := 31) (k := 89) (a := 0) (b := 89) (zby_w zwX8_captain_0 31 rfl) (zby_w zwX8_captain_0 32 rfl) (zby_w zwX8_captain_0 33 rfl) (by decide)) ?_
    refine zr_bipush C (6 : Int32) (zo_16 (p := 34) (k := 6) (a := 6) (zby_w zwX8_captain_1 2 rfl) (zby_w zwX8_captain_1 3 rfl) (by decide)) (by decide) ?_
    refine zr_iald C (sh_7) (by unfold vp_in; decide) (zo_46 (p := 36) (zby_w zwX8_captain_1 4 rfl)) ?_
    refine zr_cip (zr_runV (As := [.int p1, .int p2, .int (σ.1 7 (6 : Int32).toNatClampNeg)]) (rest := []) C vw_X8_193 (c_X6_captainsSide l g 2 isX6_2 p1 p2 (σ.1 7 (6 : Int32).toNatClampNeg) σ _ h) (sh_2) rfl (by decide) (by decide) rfl rfl (Nat.le_of_ble_eq_true rfl) (zo_182 (p := 37) (k := 193) (a := 0) (b := 193) (zby_w zwX8_captain_1 5 rfl) (zby_w zwX8_captain_1 6 rfl) (zby_w zwX8_captain_1 7 rfl) (by decide))) (fun r4 h => ?_)
    exact hret _ _ _ h d_X8_captain_40
  · rw [if_neg hc3] at h
    refine zr_iload_n C (zo_29 (p := 11) (zby_w zwX8_captain_0 11 rfl)) rfl ?_
    refine zr_goto C 40 (zo_167 (p := 12) (k := 28) (a := 0) (b := 28) (zby_w zwX8_captain_0 12 rfl) (zby_w zwX8_captain_0 13 rfl) (zby_w zwX8_captain_0 14 rfl) (by decide)) (by decide) ?_
    exact hret _ _ _ h d_X8_captain_40
set_option maxRecDepth 20000 in
theorem c_X8_captain (l : Launch) (g : zG) (p1 : Int32) (p2 : Int32) (σ : zST) (Post : Int32 → Prop) (h : wp_X8_captain p1 p2 σ Post) : Met l yX8_captain (Cond.code yX8_captain cX8_captain 4 (some .int) :: zGW) (zRm 4 95) (va_Pc [.ref (g.2.1 0), .int p1, .int p2] (zPP g σ)) (va_Qi (fun r u => Post r ∧ u = σ) (zBB g) (zA g)) 0 0 (zA g) :=
  zMet (by decide) (Nat.le_of_ble_eq_true rfl) (fun p e s m below meth c hr C => g_X8_captain C (fun v pc lv hp hd => zr_iret C hr ⟨hp, rfl⟩ hd) h)
def wp_X8_persuaded_L35 (v1 : Int32) (v2 : Int32) (v4 : Int32) (σ : zST) (Post : Int32 → Prop) : Nat → Int32 → Prop
  | 0, _ => False
  | N + 1, v5 => (if (zTM (6 : Int32).toNatClampNeg) < v5 then Post (-6 : Int32) else wp_X6_captainsSide 2 v1 v2 v5 σ (fun r10 => (if r10 = v4 then Post v5 else wp_X8_persuaded_L35 v1 v2 v4 σ Post N (v5 + 1))))

set_option maxRecDepth 100000 in
set_option maxHeartbeats 4000000 in
theorem g_X8_persuaded_L35 {p : Program} {l : Launch} {e : Env} {R : Room} {s : State} {m : MethodId} {args : Array Value} {below : List Frame} {meth : Method} {c : Code} {Q : State → Prop} {g : zG} {n1 n2 : Nat} (C : zCX p R s m args meth c g n1 n2 cX8_persuaded 6 RX8 5 114) {v1 : Int32} {v2 : Int32} {v4 : Int32} {σ : zST}  {Post : Int32 → Prop} (hret : ∀ (v : Int32) (pc : Nat) (lv : List (Nat × Value)), Post v → decode cX8_persuaded pc = .ok (.ireturn, 1) → zGG p l e R s m args below meth c Q g n1 n2 6 pc lv [.int v] σ) : ∀ (N : Nat) (v5 : Int32) , wp_X8_persuaded_L35 v1 v2 v4 σ Post N v5 → zGG p l e R s m args below meth c Q g n1 n2 6 35 [(0, .ref (g.2.1 0)), (1, .int v1), (2, .int v2), (4, .int v4), (5, .int v5)] [] σ := by
  intro N
  induction N with
  | zero =>
    intro v5 h
    exact h.elim
  | succ N ih =>
    intro v5 h
    rw [wp_X8_persuaded_L35] at h
    refine zr_iload C (zo_21 (p := 35) (k := 5) (a := 5) (zby_w zwX8_persuaded_1 3 rfl) (zby_w zwX8_persuaded_1 4 rfl) (by decide)) rfl ?_
    refine zr_getsM C gs_X8_86 (zo_178 (p := 37) (k := 86) (a := 0) (b := 86) (zby_w zwX8_persuaded_1 5 rfl) (zby_w zwX8_persuaded_1 6 rfl) (zby_w zwX8_persuaded_1 7 rfl) (by decide)) (fun t8 ht8 => ?_)
    refine zr_bipush C (6 : Int32) (zo_16 (p := 40) (k := 6) (a := 6) (zby_w zwX8_persuaded_1 8 rfl) (zby_w zwX8_persuaded_1 9 rfl) (by decide)) (by decide) ?_
    refine zr_tald C ht8 (by unfold vp_in; decide) (zo_46 (p := 42) (zby_w zwX8_persuaded_1 10 rfl)) ?_
    refine zr_icmp_gt C 74 (zo_163 (p := 43) (k := 31) (a := 0) (b := 31) (zby_w zwX8_persuaded_1 11 rfl) (zby_w zwX8_persuaded_1 12 rfl) (zby_w zwX8_persuaded_1 13 rfl) (by decide)) (by decide) (fun hc9 => ?_) (fun hc9 => ?_)
    · rw [if_pos hc9] at h
      refine zr_bipush C (-6 : Int32) (zo_16 (p := 74) (k := (-6)) (a := 250) (zby_w zwX8_persuaded_2 10 rfl) (zby_w zwX8_persuaded_2 11 rfl) (by decide)) (by decide) ?_
      exact hret _ _ _ h (zo_172 (p := 76) (zby_w zwX8_persuaded_2 12 rfl))
    · rw [if_neg hc9] at h
      refine zr_aload_n C (zo_42 (p := 46) (zby_w zwX8_persuaded_1 14 rfl)) rfl ?_
      refine zr_getr (u := 1) C fw_X8_10 (sh_0) rfl (zo_180 (p := 47) (k := 10) (a := 0) (b := 10) (zby_w zwX8_persuaded_1 15 rfl) (zby_w zwX8_persuaded_1 16 rfl) (zby_w zwX8_persuaded_1 17 rfl) (by decide)) ?_
      refine zr_getr (u := 2) C fw_X8_51 (sh_1) rfl (zo_180 (p := 50) (k := 51) (a := 0) (b := 51) (zby_w zwX8_persuaded_1 18 rfl) (zby_w zwX8_persuaded_1 19 rfl) (zby_w zwX8_persuaded_1 20 rfl) (by decide)) ?_
      refine zr_iload_n C (zo_27 (p := 53) (zby_w zwX8_persuaded_1 21 rfl)) rfl ?_
      refine zr_iload_n C (zo_28 (p := 54) (zby_w zwX8_persuaded_1 22 rfl)) rfl ?_
      refine zr_iload C (zo_21 (p := 55) (k := 5) (a := 5) (zby_w zwX8_persuaded_1 23 rfl) (zby_w zwX8_persuaded_1 24 rfl) (by decide)) rfl ?_
      refine zr_cip (zr_runV (As := [.int v1, .int v2, .int v5]) (rest := []) C vw_X8_193 (c_X6_captainsSide l g 2 isX6_2 v1 v2 v5 σ _ h) (sh_2) rfl (by decide) (by decide) rfl rfl (Nat.le_of_ble_eq_true rfl) (zo_182 (p := 57) (k := 193) (a := 0) (b := 193) (zby_w zwX8_persuaded_1 25 rfl) (zby_w zwX8_persuaded_1 26 rfl) (zby_w zwX8_persuaded_1 27 rfl) (by decide))) (fun r10 h => ?_)
      refine zr_iload C (zo_21 (p := 60) (k := 4) (a := 4) (zby_w zwX8_persuaded_1 28 rfl) (zby_w zwX8_persuaded_1 29 rfl) (by decide)) rfl ?_
      refine zr_icmp_ne C 68 (zo_160 (p := 62) (k := 6) (a := 0) (b := 6) (zby_w zwX8_persuaded_1 30 rfl) (zby_w zwX8_persuaded_1 31 rfl) (zby_w zwX8_persuaded_1 32 rfl) (by decide)) (by decide) (fun hc12 => ?_) (fun hc12 => ?_)
      · rw [if_neg hc12] at h
        refine zr_iinc C (v5 + 1) [(5, .int (v5 + 1)), (0, .ref (g.2.1 0)), (1, .int v1), (2, .int v2), (4, .int v4)] d_X8_persuaded_68 rfl rfl (by decide) rfl ?_
        refine zr_goto C 35 (zo_167 (p := 71) (k := (-36)) (a := 255) (b := 220) (zby_w zwX8_persuaded_2 7 rfl) (zby_w zwX8_persuaded_2 8 rfl) (zby_w zwX8_persuaded_2 9 rfl) (by decide)) (by decide) ?_
        exact zr_pick [1, 2, 3, 4, 0] rfl (ih (v5 + 1) h)
      · rw [if_pos hc12] at h
        refine zr_iload C (zo_21 (p := 65) (k := 5) (a := 5) (zby_w zwX8_persuaded_2 1 rfl) (zby_w zwX8_persuaded_2 2 rfl) (by decide)) rfl ?_
        exact hret _ _ _ h (zo_172 (p := 67) (zby_w zwX8_persuaded_2 3 rfl))

def wp_X8_persuaded (p1 : Int32) (p2 : Int32) (σ : zST) (Post : Int32 → Prop) : Prop := wp_X8_refusalOf p1 p2 σ (fun r1 => (if r1 = (0) then wp_X6_ownersSide 2 p1 p2 σ (fun r4 => ∀ x7 : Int32, x7 = zTL (6 : Int32).toNatClampNeg → ∃ M13 : Nat, wp_X8_persuaded_L35 p1 p2 r4 σ Post M13 x7) else Post r1))
set_option maxRecDepth 100000 in
set_option maxHeartbeats 4000000 in
theorem g_X8_persuaded {p : Program} {l : Launch} {e : Env} {R : Room} {s : State} {m : MethodId} {args : Array Value} {below : List Frame} {meth : Method} {c : Code} {Q : State → Prop} {g : zG} {n1 n2 : Nat} (C : zCX p R s m args meth c g n1 n2 cX8_persuaded 6 RX8 5 114) {p1 : Int32} {p2 : Int32} {σ : zST} {Post : Int32 → Prop} (hret : ∀ (v : Int32) (pc : Nat) (lv : List (Nat × Value)), Post v → decode cX8_persuaded pc = .ok (.ireturn, 1) → zGG p l e R s m args below meth c Q g n1 n2 6 pc lv [.int v] σ) (h : wp_X8_persuaded p1 p2 σ Post) : zGG p l e R s m args below meth c Q g n1 n2 6 0 [(0, .ref (g.2.1 0)), (1, .int p1), (2, .int p2)] [] σ := by
  unfold wp_X8_persuaded at h
  refine zr_aload_n C (zo_42 (p := 0) (zby_w zwX8_persuaded_0 0 rfl)) rfl ?_
  refine zr_iload_n C (zo_27 (p := 1) (zby_w zwX8_persuaded_0 1 rfl)) rfl ?_
  refine zr_iload_n C (zo_28 (p := 2) (zby_w zwX8_persuaded_0 2 rfl)) rfl ?_
  refine zr_cip (zr_runV (As := [.int p1, .int p2]) (rest := []) C vw_X8_155 (c_X8_refusalOf l g p1 p2 σ _ h) (sh_0) rfl (by decide) (by decide) rfl rfl (Nat.le_of_ble_eq_true rfl) (zo_182 (p := 3) (k := 155) (a := 0) (b := 155) (zby_w zwX8_persuaded_0 3 rfl) (zby_w zwX8_persuaded_0 4 rfl) (zby_w zwX8_persuaded_0 5 rfl) (by decide))) (fun r1 h => ?_)
  refine zr_istore_n C [(3, .int r1), (0, .ref (g.2.1 0)), (1, .int p1), (2, .int p2)] (zo_62 (p := 6) (zby_w zwX8_persuaded_0 6 rfl)) (by decide) rfl ?_
  refine zr_iload_n C (zo_29 (p := 7) (zby_w zwX8_persuaded_0 7 rfl)) rfl ?_
  refine zr_if_eq C 13 (zo_153 (p := 8) (k := 5) (a := 0) (b := 5) (zby_w zwX8_persuaded_0 8 rfl) (zby_w zwX8_persuaded_0 9 rfl) (zby_w zwX8_persuaded_0 10 rfl) (by decide)) (by decide) (fun hc3 => ?_) (fun hc3 => ?_)
  · rw [if_pos hc3] at h
    refine zr_aload_n C (zo_42 (p := 13) (zby_w zwX8_persuaded_0 13 rfl)) rfl ?_
    refine zr_getr (u := 1) C fw_X8_10 (sh_0) rfl (zo_180 (p := 14) (k := 10) (a := 0) (b := 10) (zby_w zwX8_persuaded_0 14 rfl) (zby_w zwX8_persuaded_0 15 rfl) (zby_w zwX8_persuaded_0 16 rfl) (by decide)) ?_
    refine zr_getr (u := 2) C fw_X8_51 (sh_1) rfl (zo_180 (p := 17) (k := 51) (a := 0) (b := 51) (zby_w zwX8_persuaded_0 17 rfl) (zby_w zwX8_persuaded_0 18 rfl) (zby_w zwX8_persuaded_0 19 rfl) (by decide)) ?_
    refine zr_iload_n C (zo_27 (p := 20) (zby_w zwX8_persuaded_0 20 rfl)) rfl ?_
    refine zr_iload_n C (zo_28 (p := 21) (zby_w zwX8_persuaded_0 21 rfl)) rfl ?_
    refine zr_cip (zr_runV (As := [.int p1, .int p2]) (rest := []) C vw_X8_158 (c_X6_ownersSide l g 2 isX6_2 p1 p2 σ _ h) (sh_2) rfl (by decide) (by decide) rfl rfl (Nat.le_of_ble_eq_true rfl) (zo_182 (p := 22) (k := 158) (a := 0) (b := 158) (zby_w zwX8_persuaded_0 22 rfl) (zby_w zwX8_persuaded_0 23 rfl) (zby_w zwX8_persuaded_0 24 rfl) (by decide))) (fun r4 h => ?_)
    refine zr_istore C [(4, .int r4), (3, .int r1), (0, .ref (g.2.1 0)), (1, .int p1), (2, .int p2)] (zo_54 (p := 25) (k := 4) (a := 4) (zby_w zwX8_persuaded_0 25 rfl) (zby_w zwX8_persuaded_0 26 rfl) (by decide)) (by decide) rfl ?_
    refine zr_getsL C gs_X8_83 (zo_178 (p := 27) (k := 83) (a := 0) (b := 83) (zby_w zwX8_persuaded_0 27 rfl) (zby_w zwX8_persuaded_0 28 rfl) (zby_w zwX8_persuaded_0 29 rfl) (by decide)) (fun t6 ht6 => ?_)
    refine zr_bipush C (6 : Int32) (zo_16 (p := 30) (k := 6) (a := 6) (zby_w zwX8_persuaded_0 30 rfl) (zby_w zwX8_persuaded_0 31 rfl) (by decide)) (by decide) ?_
    refine zr_tald C ht6 (by unfold vp_in; decide) (zo_46 (p := 32) (zby_w zwX8_persuaded_1 0 rfl)) ?_
    refine zr_topi (fun x7 hx7 => ?_)
    replace h := h x7 hx7
    refine zr_istore C [(5, .int x7), (4, .int r4), (3, .int r1), (0, .ref (g.2.1 0)), (1, .int p1), (2, .int p2)] (zo_54 (p := 33) (k := 5) (a := 5) (zby_w zwX8_persuaded_1 1 rfl) (zby_w zwX8_persuaded_1 2 rfl) (by decide)) (by decide) rfl ?_
    obtain ⟨M13, h⟩ := h
    exact zr_pick [3, 4, 5, 1, 0] rfl (g_X8_persuaded_L35 C hret M13 x7 h)
  · rw [if_neg hc3] at h
    refine zr_iload_n C (zo_29 (p := 11) (zby_w zwX8_persuaded_0 11 rfl)) rfl ?_
    exact hret _ _ _ h (zo_172 (p := 12) (zby_w zwX8_persuaded_0 12 rfl))
set_option maxRecDepth 20000 in
theorem c_X8_persuaded (l : Launch) (g : zG) (p1 : Int32) (p2 : Int32) (σ : zST) (Post : Int32 → Prop) (h : wp_X8_persuaded p1 p2 σ Post) : Met l yX8_persuaded (Cond.code yX8_persuaded cX8_persuaded 6 (some .int) :: zGW) (zRm 5 114) (va_Pc [.ref (g.2.1 0), .int p1, .int p2] (zPP g σ)) (va_Qi (fun r u => Post r ∧ u = σ) (zBB g) (zA g)) 0 0 (zA g) :=
  zMet (by decide) (Nat.le_of_ble_eq_true rfl) (fun p e s m below meth c hr C => g_X8_persuaded C (fun v pc lv hp hd => zr_iret C hr ⟨hp, rfl⟩ hd) h)
def wp_X8_offer (p1 : Int32) (p2 : Int32) (p3 : Int32) (σ : zST) (Post : Int32 → zST → Prop) : Prop := wp_X8_within p1 (0 : Int32) (3 : Int32) σ (fun r1 => (if r1 = (0) then Post (-2 : Int32) σ else wp_X8_within p2 (0 : Int32) (999 : Int32) σ (fun r4 => (if r4 = (0) then Post (-2 : Int32) σ else wp_X8_within p3 (0 : Int32) (9999 : Int32) σ (fun r7 => (if r7 = (0) then Post (-2 : Int32) σ else vp_in p1 4 ∧ vp_in p1 4 ∧ ∀ σ12 : zST, σ12 = (wI (wI (wI σ 10 0 ((σ.1 10 0) ||| ((1 : Int32) <<< (p1 &&& 31)))) 11 p1.toNatClampNeg p2) 12 p1.toNatClampNeg p3) → wp_J6_bitCount_0f7a4 (σ12.1 10 0) σ12 (fun r13 => Post r13 σ12)))))))
set_option maxRecDepth 100000 in
set_option maxHeartbeats 4000000 in
theorem g_X8_offer {p : Program} {l : Launch} {e : Env} {R : Room} {s : State} {m : MethodId} {args : Array Value} {below : List Frame} {meth : Method} {c : Code} {Q : State → Prop} {g : zG} {n1 n2 : Nat} (C : zCX p R s m args meth c g n1 n2 cX8_offer 5 RX8 1 22) {p1 : Int32} {p2 : Int32} {p3 : Int32} {σ : zST} {Post : Int32 → zST → Prop} (hret : ∀ (v : Int32) (σ : zST) (pc : Nat) (lv : List (Nat × Value)), Post v σ → decode cX8_offer pc = .ok (.ireturn, 1) → zGG p l e R s m args below meth c Q g n1 n2 5 pc lv [.int v] σ) (h : wp_X8_offer p1 p2 p3 σ Post) : zGG p l e R s m args below meth c Q g n1 n2 5 0 [(0, .ref (g.2.1 0)), (1, .int p1), (2, .int p2), (3, .int p3)] [] σ := by
  unfold wp_X8_offer at h
  refine zr_iload_n C (zo_27 (p := 0) (zby_w zwX8_offer_0 0 rfl)) rfl ?_
  refine zr_iconst C (0 : Int32) (zo_3 (p := 1) (zby_w zwX8_offer_0 1 rfl)) (by decide) ?_
  refine zr_iconst C (3 : Int32) (zo_6 (p := 2) (zby_w zwX8_offer_0 2 rfl)) (by decide) ?_
  refine zr_cip (zr_runS (As := [.int p1, .int (0 : Int32), .int (3 : Int32)]) (rest := []) C sw_X8_47 (c_X8_within l g p1 (0 : Int32) (3 : Int32) σ _ h) (by decide) (by decide) rfl rfl (Nat.le_of_ble_eq_true rfl) (zo_184 (p := 3) (k := 47) (a := 0) (b := 47) (zby_w zwX8_offer_0 3 rfl) (zby_w zwX8_offer_0 4 rfl) (zby_w zwX8_offer_0 5 rfl) (by decide))) (fun r1 h => ?_)
  refine zr_if_eq C 31 (zo_153 (p := 6) (k := 25) (a := 0) (b := 25) (zby_w zwX8_offer_0 6 rfl) (zby_w zwX8_offer_0 7 rfl) (zby_w zwX8_offer_0 8 rfl) (by decide)) (by decide) (fun hc3 => ?_) (fun hc3 => ?_)
  · rw [if_pos hc3] at h
    refine zr_bipush C (-2 : Int32) d_X8_offer_31 (by decide) ?_
    exact hret _ _ _ _ h d_X8_offer_33
  · rw [if_neg hc3] at h
    refine zr_iload_n C (zo_28 (p := 9) (zby_w zwX8_offer_0 9 rfl)) rfl ?_
    refine zr_iconst C (0 : Int32) (zo_3 (p := 10) (zby_w zwX8_offer_0 10 rfl)) (by decide) ?_
    refine zr_sipush C (999 : Int32) (zo_17 (p := 11) (k := 999) (a := 3) (b := 231) (zby_w zwX8_offer_0 11 rfl) (zby_w zwX8_offer_0 12 rfl) (zby_w zwX8_offer_0 13 rfl) (by decide)) (by decide) ?_
    refine zr_cip (zr_runS (As := [.int p2, .int (0 : Int32), .int (999 : Int32)]) (rest := []) C sw_X8_47 (c_X8_within l g p2 (0 : Int32) (999 : Int32) σ _ h) (by decide) (by decide) rfl rfl (Nat.le_of_ble_eq_true rfl) (zo_184 (p := 14) (k := 47) (a := 0) (b := 47) (zby_w zwX8_offer_0 14 rfl) (zby_w zwX8_offer_0 15 rfl) (zby_w zwX8_offer_0 16 rfl) (by decide))) (fun r4 h => ?_)
    refine zr_if_eq C 31 (zo_153 (p := 17) (k := 14) (a := 0) (b := 14) (zby_w zwX8_offer_0 17 rfl) (zby_w zwX8_offer_0 18 rfl) (zby_w zwX8_offer_0 19 rfl) (by decide)) (by decide) (fun hc6 => ?_) (fun hc6 => ?_)
    · rw [if_pos hc6] at h
      refine zr_bipush C (-2 : Int32) d_X8_offer_31 (by decide) ?_
      exact hret _ _ _ _ h d_X8_offer_33
    · rw [if_neg hc6] at h
      refine zr_iload_n C (zo_29 (p := 20) (zby_w zwX8_offer_0 20 rfl)) rfl ?_
      refine zr_iconst C (0 : Int32) (zo_3 (p := 21) (zby_w zwX8_offer_0 21 rfl)) (by decide) ?_
      refine zr_sipush C (9999 : Int32) (zo_17 (p := 22) (k := 9999) (a := 39) (b := 15) (zby_w zwX8_offer_0 22 rfl) (zby_w zwX8_offer_0 23 rfl) (zby_w zwX8_offer_0 24 rfl) (by decide)) (by decide) ?_
      refine zr_cip (zr_runS (As := [.int p3, .int (0 : Int32), .int (9999 : Int32)]) (rest := []) C sw_X8_47 (c_X8_within l g p3 (0 : Int32) (9999 : Int32) σ _ h) (by decide) (by decide) rfl rfl (Nat.le_of_ble_eq_true rfl) (zo_184 (p := 25) (k := 47) (a := 0) (b := 47) (zby_w zwX8_offer_0 25 rfl) (zby_w zwX8_offer_0 26 rfl) (zby_w zwX8_offer_0 27 rfl) (by decide))) (fun r7 h => ?_)
      refine zr_if_ne C 34 (zo_154 (p := 28) (k := 6) (a := 0) (b := 6) (zby_w zwX8_offer_0 28 rfl) (zby_w zwX8_offer_0 29 rfl) (zby_w zwX8_offer_0 30 rfl) (by decide)) (by decide) (fun hc9 => ?_) (fun hc9 => ?_)
      · rw [if_neg hc9] at h
        refine zr_aload_n C (zo_42 (p := 34) (zby_w zwX8_offer_1 2 rfl)) rfl ?_
        refine zr_getr (u := 1) C fw_X8_10 (sh_0) rfl (zo_180 (p := 35) (k := 10) (a := 0) (b := 10) (zby_w zwX8_offer_1 3 rfl) (zby_w zwX8_offer_1 4 rfl) (zby_w zwX8_offer_1 5 rfl) (by decide)) ?_
        refine zr_getr (u := 10) C fw_X8_196 (sh_1) rfl (zo_180 (p := 38) (k := 196) (a := 0) (b := 196) (zby_w zwX8_offer_1 6 rfl) (zby_w zwX8_offer_1 7 rfl) (zby_w zwX8_offer_1 8 rfl) (by decide)) ?_
        refine zr_astore C [(4, .ref (g.2.1 10)), (0, .ref (g.2.1 0)), (1, .int p1), (2, .int p2), (3, .int p3)] (zo_58 (p := 41) (k := 4) (a := 4) (zby_w zwX8_offer_1 9 rfl) (zby_w zwX8_offer_1 10 rfl) (by decide)) (by decide) rfl ?_
        refine zr_aload C (zo_25 (p := 43) (k := 4) (a := 4) (zby_w zwX8_offer_1 11 rfl) (zby_w zwX8_offer_1 12 rfl) (by decide)) rfl ?_
        refine zr_dup C (zo_89 (p := 45) (zby_w zwX8_offer_1 13 rfl)) rfl ?_
        refine zr_geti C fw_X8_200 (sh_10) rfl (zo_180 (p := 46) (k := 200) (a := 0) (b := 200) (zby_w zwX8_offer_1 14 rfl) (zby_w zwX8_offer_1 15 rfl) (zby_w zwX8_offer_1 16 rfl) (by decide)) ?_
        refine zr_iconst C (1 : Int32) (zo_4 (p := 49) (zby_w zwX8_offer_1 17 rfl)) (by decide) ?_
        refine zr_iload_n C (zo_27 (p := 50) (zby_w zwX8_offer_1 18 rfl)) rfl ?_
        refine zr_ishl C (zo_120 (p := 51) (zby_w zwX8_offer_1 19 rfl)) ?_
        refine zr_ior C (zo_128 (p := 52) (zby_w zwX8_offer_1 20 rfl)) ?_
        refine zr_puti C fw_X8_200 pw_X3_0 (sh_10) rfl rfl rfl (zo_181 (p := 53) (k := 200) (a := 0) (b := 200) (zby_w zwX8_offer_1 21 rfl) (zby_w zwX8_offer_1 22 rfl) (zby_w zwX8_offer_1 23 rfl) (by decide)) ?_
        refine zr_aload C (zo_25 (p := 56) (k := 4) (a := 4) (zby_w zwX8_offer_1 24 rfl) (zby_w zwX8_offer_1 25 rfl) (by decide)) rfl ?_
        refine zr_getr (u := 11) C fw_X8_203 (sh_10) rfl (zo_180 (p := 58) (k := 203) (a := 0) (b := 203) (zby_w zwX8_offer_1 26 rfl) (zby_w zwX8_offer_1 27 rfl) (zby_w zwX8_offer_1 28 rfl) (by decide)) ?_
        refine zr_iload_n C (zo_27 (p := 61) (zby_w zwX8_offer_1 29 rfl)) rfl ?_
        refine zr_iload_n C (zo_28 (p := 62) (zby_w zwX8_offer_1 30 rfl)) rfl ?_
        obtain ⟨ho10, h⟩ := h
        refine zr_iast C (sh_11) ho10 (zo_79 (p := 63) (zby_w zwX8_offer_1 31 rfl)) ?_
        refine zr_aload C (zo_25 (p := 64) (k := 4) (a := 4) (zby_w zwX8_offer_2 0 rfl) (zby_w zwX8_offer_2 1 rfl) (by decide)) rfl ?_
        refine zr_getr (u := 12) C fw_X8_206 (sh_10) rfl (zo_180 (p := 66) (k := 206) (a := 0) (b := 206) (zby_w zwX8_offer_2 2 rfl) (zby_w zwX8_offer_2 3 rfl) (zby_w zwX8_offer_2 4 rfl) (by decide)) ?_
        refine zr_iload_n C (zo_27 (p := 69) (zby_w zwX8_offer_2 5 rfl)) rfl ?_
        refine zr_iload_n C (zo_29 (p := 70) (zby_w zwX8_offer_2 6 rfl)) rfl ?_
        obtain ⟨ho11, h⟩ := h
        refine zr_iast C (sh_12) ho11 (zo_79 (p := 71) (zby_w zwX8_offer_2 7 rfl)) ?_
        refine zr_aload C (zo_25 (p := 72) (k := 4) (a := 4) (zby_w zwX8_offer_2 8 rfl) (zby_w zwX8_offer_2 9 rfl) (by decide)) rfl ?_
        refine zr_tops (fun σ12 hσ12 => ?_)
        replace h := h σ12 hσ12
        refine zr_geti C fw_X8_200 (sh_10) rfl (zo_180 (p := 74) (k := 200) (a := 0) (b := 200) (zby_w zwX8_offer_2 10 rfl) (zby_w zwX8_offer_2 11 rfl) (zby_w zwX8_offer_2 12 rfl) (by decide)) ?_
        refine zr_cip (zr_runS (As := [.int (σ12.1 10 0)]) (rest := []) C sw_X8_73 (c_J6_bitCount_0f7a4 l g (σ12.1 10 0) σ12 _ h) (by decide) (by decide) rfl rfl (Nat.le_of_ble_eq_true rfl) (zo_184 (p := 77) (k := 73) (a := 0) (b := 73) (zby_w zwX8_offer_2 13 rfl) (zby_w zwX8_offer_2 14 rfl) (zby_w zwX8_offer_2 15 rfl) (by decide))) (fun r13 h => ?_)
        exact hret _ _ _ _ h (zo_172 (p := 80) (zby_w zwX8_offer_2 16 rfl))
      · rw [if_pos hc9] at h
        refine zr_bipush C (-2 : Int32) d_X8_offer_31 (by decide) ?_
        exact hret _ _ _ _ h d_X8_offer_33
set_option maxRecDepth 20000 in
theorem c_X8_offer (l : Launch) (g : zG) (p1 : Int32) (p2 : Int32) (p3 : Int32) (σ : zST) (Post : Int32 → zST → Prop) (h : wp_X8_offer p1 p2 p3 σ Post) : Met l yX8_offer (Cond.code yX8_offer cX8_offer 5 (some .int) :: zGW) (zRm 1 22) (va_Pc [.ref (g.2.1 0), .int p1, .int p2, .int p3] (zPP g σ)) (va_Qi Post (zBB g) (zA g)) 0 0 (zA g) :=
  zMet (by decide) (Nat.le_of_ble_eq_true rfl) (fun p e s m below meth c hr C => g_X8_offer C (fun v σ pc lv hp hd => zr_iret C hr hp hd) h)
def wp_X8_noOffers (σ : zST) (Post : Int32 → zST → Prop) : Prop := wp_J6_bitCount_0f7a4 (σ.1 10 0) σ (fun r1 => Post r1 (wI σ 10 0 (0 : Int32)))
set_option maxRecDepth 100000 in
set_option maxHeartbeats 4000000 in
theorem g_X8_noOffers {p : Program} {l : Launch} {e : Env} {R : Room} {s : State} {m : MethodId} {args : Array Value} {below : List Frame} {meth : Method} {c : Code} {Q : State → Prop} {g : zG} {n1 n2 : Nat} (C : zCX p R s m args meth c g n1 n2 cX8_noOffers 2 RX8 1 20) {σ : zST} {Post : Int32 → zST → Prop} (hret : ∀ (v : Int32) (σ : zST) (pc : Nat) (lv : List (Nat × Value)), Post v σ → decode cX8_noOffers pc = .ok (.ireturn, 1) → zGG p l e R s m args below meth c Q g n1 n2 2 pc lv [.int v] σ) (h : wp_X8_noOffers σ Post) : zGG p l e R s m args below meth c Q g n1 n2 2 0 [(0, .ref (g.2.1 0))] [] σ := by
  unfold wp_X8_noOffers at h
  refine zr_aload_n C (zo_42 (p := 0) (zby_w zwX8_noOffers_0 0 rfl)) rfl ?_
  refine zr_getr (u := 1) C fw_X8_10 (sh_0) rfl (zo_180 (p := 1) (k := 10) (a := 0) (b := 10) (zby_w zwX8_noOffers_0 1 rfl) (zby_w zwX8_noOffers_0 2 rfl) (zby_w zwX8_noOffers_0 3 rfl) (by decide)) ?_
  refine zr_getr (u := 10) C fw_X8_196 (sh_1) rfl (zo_180 (p := 4) (k := 196) (a := 0) (b := 196) (zby_w zwX8_noOffers_0 4 rfl) (zby_w zwX8_noOffers_0 5 rfl) (zby_w zwX8_noOffers_0 6 rfl) (by decide)) ?_
  refine zr_geti C fw_X8_200 (sh_10) rfl (zo_180 (p := 7) (k := 200) (a := 0) (b := 200) (zby_w zwX8_noOffers_0 7 rfl) (zby_w zwX8_noOffers_0 8 rfl) (zby_w zwX8_noOffers_0 9 rfl) (by decide)) ?_
  refine zr_cip (zr_runS (As := [.int (σ.1 10 0)]) (rest := []) C sw_X8_73 (c_J6_bitCount_0f7a4 l g (σ.1 10 0) σ _ h) (by decide) (by decide) rfl rfl (Nat.le_of_ble_eq_true rfl) (zo_184 (p := 10) (k := 73) (a := 0) (b := 73) (zby_w zwX8_noOffers_0 10 rfl) (zby_w zwX8_noOffers_0 11 rfl) (zby_w zwX8_noOffers_0 12 rfl) (by decide))) (fun r1 h => ?_)
  refine zr_istore_n C [(1, .int r1), (0, .ref (g.2.1 0))] (zo_60 (p := 13) (zby_w zwX8_noOffers_0 13 rfl)) (by decide) rfl ?_
  refine zr_aload_n C (zo_42 (p := 14) (zby_w zwX8_noOffers_0 14 rfl)) rfl ?_
  refine zr_getr (u := 1) C fw_X8_10 (sh_0) rfl (zo_180 (p := 15) (k := 10) (a := 0) (b := 10) (zby_w zwX8_noOffers_0 15 rfl) (zby_w zwX8_noOffers_0 16 rfl) (zby_w zwX8_noOffers_0 17 rfl) (by decide)) ?_
  refine zr_getr (u := 10) C fw_X8_196 (sh_1) rfl (zo_180 (p := 18) (k := 196) (a := 0) (b := 196) (zby_w zwX8_noOffers_0 18 rfl) (zby_w zwX8_noOffers_0 19 rfl) (zby_w zwX8_noOffers_0 20 rfl) (by decide)) ?_
  refine zr_iconst C (0 : Int32) (zo_3 (p := 21) (zby_w zwX8_noOffers_0 21 rfl)) (by decide) ?_
  refine zr_puti C fw_X8_200 pw_X3_0 (sh_10) rfl rfl rfl (zo_181 (p := 22) (k := 200) (a := 0) (b := 200) (zby_w zwX8_noOffers_0 22 rfl) (zby_w zwX8_noOffers_0 23 rfl) (zby_w zwX8_noOffers_0 24 rfl) (by decide)) ?_
  refine zr_iload_n C (zo_27 (p := 25) (zby_w zwX8_noOffers_0 25 rfl)) rfl ?_
  exact hret _ _ _ _ h (zo_172 (p := 26) (zby_w zwX8_noOffers_0 26 rfl))
set_option maxRecDepth 20000 in
theorem c_X8_noOffers (l : Launch) (g : zG) (σ : zST) (Post : Int32 → zST → Prop) (h : wp_X8_noOffers σ Post) : Met l yX8_noOffers (Cond.code yX8_noOffers cX8_noOffers 2 (some .int) :: zGW) (zRm 1 20) (va_Pc [.ref (g.2.1 0)] (zPP g σ)) (va_Qi Post (zBB g) (zA g)) 0 0 (zA g) :=
  zMet (by decide) (Nat.le_of_ble_eq_true rfl) (fun p e s m below meth c hr C => g_X8_noOffers C (fun v σ pc lv hp hd => zr_iret C hr hp hd) h)
def wp_X8_insured (p1 : Int32) (p2 : Int32) (p3 : Int32) (σ : zST) (Post : Int32 → Prop) : Prop := wp_X6_has 2 p1 σ (fun r1 => (if r1 = (0) then Post (-1 : Int32) else wp_X8_isHour p2 σ (fun r4 => (if r4 = (0) then Post (-2 : Int32) else wp_X8_within p3 (0 : Int32) (2 : Int32) σ (fun r7 => (if r7 = (0) then Post (-2 : Int32) else wp_X6_digitAt 2 p2 σ (fun r10 => wp_X3_worthTaking 10 r10 σ (fun r12 => (if p3 = (1 : Int32) then Post r12 else wp_X3_premiumsOf 10 r12 σ (fun r15 => wp_X3_paysOf 10 r12 σ (fun r17 => wp_X6_whole 2 p1 σ (fun r19 => (if p3 = (0) then Post (((r10 * (r19 - r17)) + ((10 : Int32) * r15)) + (1000000 : Int32)) else ∀ z23 : Int32, z23 = (if r10 ≤ (0) then (0 : Int32) else ((r19 + r15) - r17)) → Post (if r15 < z23 then z23 else r15))))))))))))))
set_option maxRecDepth 100000 in
set_option maxHeartbeats 4000000 in
theorem g_X8_insured {p : Program} {l : Launch} {e : Env} {R : Room} {s : State} {m : MethodId} {args : Array Value} {below : List Frame} {meth : Method} {c : Code} {Q : State → Prop} {g : zG} {n1 n2 : Nat} (C : zCX p R s m args meth c g n1 n2 cX8_insured 11 RX8 2 44) {p1 : Int32} {p2 : Int32} {p3 : Int32} {σ : zST} {Post : Int32 → Prop} (hret : ∀ (v : Int32) (pc : Nat) (lv : List (Nat × Value)), Post v → decode cX8_insured pc = .ok (.ireturn, 1) → zGG p l e R s m args below meth c Q g n1 n2 11 pc lv [.int v] σ) (h : wp_X8_insured p1 p2 p3 σ Post) : zGG p l e R s m args below meth c Q g n1 n2 11 0 [(0, .ref (g.2.1 0)), (1, .int p1), (2, .int p2), (3, .int p3)] [] σ := by
  unfold wp_X8_insured at h
  refine zr_aload_n C (zo_42 (p := 0) (zby_w zwX8_insured_0 0 rfl)) rfl ?_
  refine zr_getr (u := 1) C fw_X8_10 (sh_0) rfl (zo_180 (p := 1) (k := 10) (a := 0) (b := 10) (zby_w zwX8_insured_0 1 rfl) (zby_w zwX8_insured_0 2 rfl) (zby_w zwX8_insured_0 3 rfl) (by decide)) ?_
  refine zr_getr (u := 2) C fw_X8_51 (sh_1) rfl (zo_180 (p := 4) (k := 51) (a := 0) (b := 51) (zby_w zwX8_insured_0 4 rfl) (zby_w zwX8_insured_0 5 rfl) (zby_w zwX8_insured_0 6 rfl) (by decide)) ?_
  refine zr_iload_n C (zo_27 (p := 7) (zby_w zwX8_insured_0 7 rfl)) rfl ?_
  refine zr_cip (zr_runV (As := [.int p1]) (rest := []) C vw_X8_79 (c_X6_has l g 2 isX6_2 p1 σ _ h) (sh_2) rfl (by decide) (by decide) rfl rfl (Nat.le_of_ble_eq_true rfl) (zo_182 (p := 8) (k := 79) (a := 0) (b := 79) (zby_w zwX8_insured_0 8 rfl) (zby_w zwX8_insured_0 9 rfl) (zby_w zwX8_insured_0 10 rfl) (by decide))) (fun r1 h => ?_)
  refine zr_if_ne C 16 (zo_154 (p := 11) (k := 5) (a := 0) (b := 5) (zby_w zwX8_insured_0 11 rfl) (zby_w zwX8_insured_0 12 rfl) (zby_w zwX8_insured_0 13 rfl) (by decide)) (by decide) (fun hc3 => ?_) (fun hc3 => ?_)
  · rw [if_neg hc3] at h
    refine zr_iload_n C (zo_28 (p := 16) (zby_w zwX8_insured_0 16 rfl)) rfl ?_
    refine zr_cip (zr_runS (As := [.int p2]) (rest := []) C sw_X8_145 (c_X8_isHour l g p2 σ _ h) (by decide) (by decide) rfl rfl (Nat.le_of_ble_eq_true rfl) (zo_184 (p := 17) (k := 145) (a := 0) (b := 145) (zby_w zwX8_insured_0 17 rfl) (zby_w zwX8_insured_0 18 rfl) (zby_w zwX8_insured_0 19 rfl) (by decide))) (fun r4 h => ?_)
    refine zr_if_eq C 32 (zo_153 (p := 20) (k := 12) (a := 0) (b := 12) (zby_w zwX8_insured_0 20 rfl) (zby_w zwX8_insured_0 21 rfl) (zby_w zwX8_insured_0 22 rfl) (by decide)) (by decide) (fun hc6 => ?_) (fun hc6 => ?_)
    · rw [if_pos hc6] at h
      refine zr_bipush C (-2 : Int32) d_X8_insured_32 (by decide) ?_
      exact hret _ _ _ h d_X8_insured_34
    · rw [if_neg hc6] at h
      refine zr_iload_n C (zo_29 (p := 23) (zby_w zwX8_insured_0 23 rfl)) rfl ?_
      refine zr_iconst C (0 : Int32) (zo_3 (p := 24) (zby_w zwX8_insured_0 24 rfl)) (by decide) ?_
      refine zr_iconst C (2 : Int32) (zo_5 (p := 25) (zby_w zwX8_insured_0 25 rfl)) (by decide) ?_
      refine zr_cip (zr_runS (As := [.int p3, .int (0 : Int32), .int (2 : Int32)]) (rest := []) C sw_X8_47 (c_X8_within l g p3 (0 : Int32) (2 : Int32) σ _ h) (by decide) (by decide) rfl rfl (Nat.le_of_ble_eq_true rfl) (zo_184 (p := 26) (k := 47) (a := 0) (b := 47) (zby_w zwX8_insured_0 26 rfl) (zby_w zwX8_insured_0 27 rfl) (zby_w zwX8_insured_0 28 rfl) (by decide))) (fun r7 h => ?_)
      refine zr_if_ne C 35 (zo_154 (p := 29) (k := 6) (a := 0) (b := 6) (zby_w zwX8_insured_0 29 rfl) (zby_w zwX8_insured_0 30 rfl) (zby_w zwX8_insured_0 31 rfl) (by decide)) (by decide) (fun hc9 => ?_) (fun hc9 => ?_)
      · rw [if_neg hc9] at h
        refine zr_aload_n C (zo_42 (p := 35) (zby_w zwX8_insured_1 3 rfl)) rfl ?_
        refine zr_getr (u := 1) C fw_X8_10 (sh_0) rfl (zo_180 (p := 36) (k := 10) (a := 0) (b := 10) (zby_w zwX8_insured_1 4 rfl) (zby_w zwX8_insured_1 5 rfl) (zby_w zwX8_insured_1 6 rfl) (by decide)) ?_
        refine zr_getr (u := 10) C fw_X8_196 (sh_1) rfl (zo_180 (p := 39) (k := 196) (a := 0) (b := 196) (zby_w zwX8_insured_1 7 rfl) (zby_w zwX8_insured_1 8 rfl) (zby_w zwX8_insured_1 9 rfl) (by decide)) ?_
        refine zr_astore C [(4, .ref (g.2.1 10)), (0, .ref (g.2.1 0)), (1, .int p1), (2, .int p2), (3, .int p3)] (zo_58 (p := 42) (k := 4) (a := 4) (zby_w zwX8_insured_1 10 rfl) (zby_w zwX8_insured_1 11 rfl) (by decide)) (by decide) rfl ?_
        refine zr_aload_n C (zo_42 (p := 44) (zby_w zwX8_insured_1 12 rfl)) rfl ?_
        refine zr_getr (u := 1) C fw_X8_10 (sh_0) rfl (zo_180 (p := 45) (k := 10) (a := 0) (b := 10) (zby_w zwX8_insured_1 13 rfl) (zby_w zwX8_insured_1 14 rfl) (zby_w zwX8_insured_1 15 rfl) (by decide)) ?_
        refine zr_getr (u := 2) C fw_X8_51 (sh_1) rfl (zo_180 (p := 48) (k := 51) (a := 0) (b := 51) (zby_w zwX8_insured_1 16 rfl) (zby_w zwX8_insured_1 17 rfl) (zby_w zwX8_insured_1 18 rfl) (by decide)) ?_
        refine zr_iload_n C (zo_28 (p := 51) (zby_w zwX8_insured_1 19 rfl)) rfl ?_
        refine zr_cip (zr_runV (As := [.int p2]) (rest := []) C vw_X8_209 (c_X6_digitAt l g 2 isX6_2 p2 σ _ h) (sh_2) rfl (by decide) (by decide) rfl rfl (Nat.le_of_ble_eq_true rfl) (zo_182 (p := 52) (k := 209) (a := 0) (b := 209) (zby_w zwX8_insured_1 20 rfl) (zby_w zwX8_insured_1 21 rfl) (zby_w zwX8_insured_1 22 rfl) (by decide))) (fun r10 h => ?_)
        refine zr_istore C [(5, .int r10), (4, .ref (g.2.1 10)), (0, .ref (g.2.1 0)), (1, .int p1), (2, .int p2), (3, .int p3)] (zo_54 (p := 55) (k := 5) (a := 5) (zby_w zwX8_insured_1 23 rfl) (zby_w zwX8_insured_1 24 rfl) (by decide)) (by decide) rfl ?_
        refine zr_aload C (zo_25 (p := 57) (k := 4) (a := 4) (zby_w zwX8_insured_1 25 rfl) (zby_w zwX8_insured_1 26 rfl) (by decide)) rfl ?_
        refine zr_iload C (zo_21 (p := 59) (k := 5) (a := 5) (zby_w zwX8_insured_1 27 rfl) (zby_w zwX8_insured_1 28 rfl) (by decide)) rfl ?_
        refine zr_cip (zr_runV (As := [.int r10]) (rest := []) C vw_X8_212 (c_X3_worthTaking l g 10 isX3_10 r10 σ _ h) (sh_10) rfl (by decide) (by decide) rfl rfl (Nat.le_of_ble_eq_true rfl) (zo_182 (p := 61) (k := 212) (a := 0) (b := 212) (zby_w zwX8_insured_1 29 rfl) (zby_w zwX8_insured_1 30 rfl) (zby_w zwX8_insured_1 31 rfl) (by decide))) (fun r12 h => ?_)
        refine zr_istore C [(6, .int r12), (5, .int r10), (4, .ref (g.2.1 10)), (0, .ref (g.2.1 0)), (1, .int p1), (2, .int p2), (3, .int p3)] (zo_54 (p := 64) (k := 6) (a := 6) (zby_w zwX8_insured_2 0 rfl) (zby_w zwX8_insured_2 1 rfl) (by decide)) (by decide) rfl ?_
        refine zr_iload_n C (zo_29 (p := 66) (zby_w zwX8_insured_2 2 rfl)) rfl ?_
        refine zr_iconst C (1 : Int32) (zo_4 (p := 67) (zby_w zwX8_insured_2 3 rfl)) (by decide) ?_
        refine zr_icmp_ne C 74 (zo_160 (p := 68) (k := 6) (a := 0) (b := 6) (zby_w zwX8_insured_2 4 rfl) (zby_w zwX8_insured_2 5 rfl) (zby_w zwX8_insured_2 6 rfl) (by decide)) (by decide) (fun hc14 => ?_) (fun hc14 => ?_)
        · rw [if_neg hc14] at h
          refine zr_aload C (zo_25 (p := 74) (k := 4) (a := 4) (zby_w zwX8_insured_2 10 rfl) (zby_w zwX8_insured_2 11 rfl) (by decide)) rfl ?_
          refine zr_iload C (zo_21 (p := 76) (k := 6) (a := 6) (zby_w zwX8_insured_2 12 rfl) (zby_w zwX8_insured_2 13 rfl) (by decide)) rfl ?_
          refine zr_cip (zr_runV (As := [.int r12]) (rest := []) C vw_X8_215 (c_X3_premiumsOf l g 10 isX3_10 r12 σ _ h) (sh_10) rfl (by decide) (by decide) rfl rfl (Nat.le_of_ble_eq_true rfl) (zo_182 (p := 78) (k := 215) (a := 0) (b := 215) (zby_w zwX8_insured_2 14 rfl) (zby_w zwX8_insured_2 15 rfl) (zby_w zwX8_insured_2 16 rfl) (by decide))) (fun r15 h => ?_)
          refine zr_istore C [(7, .int r15), (6, .int r12), (5, .int r10), (4, .ref (g.2.1 10)), (0, .ref (g.2.1 0)), (1, .int p1), (2, .int p2), (3, .int p3)] (zo_54 (p := 81) (k := 7) (a := 7) (zby_w zwX8_insured_2 17 rfl) (zby_w zwX8_insured_2 18 rfl) (by decide)) (by decide) rfl ?_
          refine zr_aload C (zo_25 (p := 83) (k := 4) (a := 4) (zby_w zwX8_insured_2 19 rfl) (zby_w zwX8_insured_2 20 rfl) (by decide)) rfl ?_
          refine zr_iload C (zo_21 (p := 85) (k := 6) (a := 6) (zby_w zwX8_insured_2 21 rfl) (zby_w zwX8_insured_2 22 rfl) (by decide)) rfl ?_
          refine zr_cip (zr_runV (As := [.int r12]) (rest := []) C vw_X8_218 (c_X3_paysOf l g 10 isX3_10 r12 σ _ h) (sh_10) rfl (by decide) (by decide) rfl rfl (Nat.le_of_ble_eq_true rfl) (zo_182 (p := 87) (k := 218) (a := 0) (b := 218) (zby_w zwX8_insured_2 23 rfl) (zby_w zwX8_insured_2 24 rfl) (zby_w zwX8_insured_2 25 rfl) (by decide))) (fun r17 h => ?_)
          refine zr_istore C [(8, .int r17), (7, .int r15), (6, .int r12), (5, .int r10), (4, .ref (g.2.1 10)), (0, .ref (g.2.1 0)), (1, .int p1), (2, .int p2), (3, .int p3)] (zo_54 (p := 90) (k := 8) (a := 8) (zby_w zwX8_insured_2 26 rfl) (zby_w zwX8_insured_2 27 rfl) (by decide)) (by decide) rfl ?_
          refine zr_aload_n C (zo_42 (p := 92) (zby_w zwX8_insured_2 28 rfl)) rfl ?_
          refine zr_getr (u := 1) C fw_X8_10 (sh_0) rfl (zo_180 (p := 93) (k := 10) (a := 0) (b := 10) (zby_w zwX8_insured_2 29 rfl) (zby_w zwX8_insured_2 30 rfl) (zby_w zwX8_insured_2 31 rfl) (by decide)) ?_
          refine zr_getr (u := 2) C fw_X8_51 (sh_1) rfl (zo_180 (p := 96) (k := 51) (a := 0) (b := 51) (zby_w zwX8_insured_3 0 rfl) (zby_w zwX8_insured_3 1 rfl) (zby_w zwX8_insured_3 2 rfl) (by decide)) ?_
          refine zr_iload_n C (zo_27 (p := 99) (zby_w zwX8_insured_3 3 rfl)) rfl ?_
          refine zr_cip (zr_runV (As := [.int p1]) (rest := []) C vw_X8_221 (c_X6_whole l g 2 isX6_2 p1 σ _ h) (sh_2) rfl (by decide) (by decide) rfl rfl (Nat.le_of_ble_eq_true rfl) (zo_182 (p := 100) (k := 221) (a := 0) (b := 221) (zby_w zwX8_insured_3 4 rfl) (zby_w zwX8_insured_3 5 rfl) (zby_w zwX8_insured_3 6 rfl) (by decide))) (fun r19 h => ?_)
          refine zr_istore C [(9, .int r19), (8, .int r17), (7, .int r15), (6, .int r12), (5, .int r10), (4, .ref (g.2.1 10)), (0, .ref (g.2.1 0)), (1, .int p1), (2, .int p2), (3, .int p3)] (zo_54 (p := 103) (k := 9) (a := 9) (zby_w zwX8_insured_3 7 rfl) (zby_w zwX8_insured_3 8 rfl) (by decide)) (by decide) rfl ?_
          refine zr_iload_n C (zo_29 (p := 105) (zby_w zwX8_insured_3 9 rfl)) rfl ?_
          refine zr_if_ne C 127 (zo_154 (p := 106) (k := 21) (a := 0) (b := 21) (zby_w zwX8_insured_3 10 rfl) (zby_w zwX8_insured_3 11 rfl) (zby_w zwX8_insured_3 12 rfl) (by decide)) (by decide) (fun hc21 => ?_) (fun hc21 => ?_)
          · rw [if_neg hc21] at h
            refine zr_iload C (zo_21 (p := 127) (k := 5) (a := 5) (zby_w zwX8_insured_3 31 rfl) (zby_w zwX8_insured_3 32 rfl) (by decide)) rfl ?_
            have hJ24 : ∀ z23 : Int32, z23 = (if r10 ≤ (0) then (0 : Int32) else ((r19 + r15) - r17)) → zGG p l e R s m args below meth c Q g n1 n2 11 144 [(9, .int r19), (8, .int r17), (7, .int r15), (6, .int r12), (5, .int r10), (4, .ref (g.2.1 10)), (0, .ref (g.2.1 0)), (1, .int p1), (2, .int p2), (3, .int p3)] [.int z23] σ := by
              intro z23 hz23
              replace h := h z23 hz23
              refine zr_istore C [(10, .int z23), (9, .int r19), (8, .int r17), (7, .int r15), (6, .int r12), (5, .int r10), (4, .ref (g.2.1 10)), (0, .ref (g.2.1 0)), (1, .int p1), (2, .int p2), (3, .int p3)] (zo_54 (p := 144) (k := 10) (a := 10) (zby_w zwX8_insured_4 16 rfl) (zby_w zwX8_insured_4 17 rfl) (by decide)) (by decide) rfl ?_
              refine zr_iload C (zo_21 (p := 146) (k := 7) (a := 7) (zby_w zwX8_insured_4 18 rfl) (zby_w zwX8_insured_4 19 rfl) (by decide)) rfl ?_
              refine zr_iload C (zo_21 (p := 148) (k := 10) (a := 10) (zby_w zwX8_insured_4 20 rfl) (zby_w zwX8_insured_4 21 rfl) (by decide)) rfl ?_
              refine zr_mmax C mw_X8_225 (by decide) (Nat.le_of_ble_eq_true rfl) (zo_184 (p := 150) (k := 225) (a := 0) (b := 225) (zby_w zwX8_insured_4 22 rfl) (zby_w zwX8_insured_4 23 rfl) (zby_w zwX8_insured_4 24 rfl) (by decide)) ?_
              exact hret _ _ _ h (zo_172 (p := 153) (zby_w zwX8_insured_4 25 rfl))
            refine zr_if_le C 143 (zo_158 (p := 129) (k := 14) (a := 0) (b := 14) (zby_w zwX8_insured_4 1 rfl) (zby_w zwX8_insured_4 2 rfl) (zby_w zwX8_insured_4 3 rfl) (by decide)) (by decide) (fun hc22 => ?_) (fun hc22 => ?_)
            · skip
              refine zr_iconst C (0 : Int32) (zo_3 (p := 143) (zby_w zwX8_insured_4 15 rfl)) (by decide) ?_
              exact hJ24 _ (by rw [if_pos hc22])
            · skip
              refine zr_iload C (zo_21 (p := 132) (k := 9) (a := 9) (zby_w zwX8_insured_4 4 rfl) (zby_w zwX8_insured_4 5 rfl) (by decide)) rfl ?_
              refine zr_iload C (zo_21 (p := 134) (k := 7) (a := 7) (zby_w zwX8_insured_4 6 rfl) (zby_w zwX8_insured_4 7 rfl) (by decide)) rfl ?_
              refine zr_iadd C (zo_96 (p := 136) (zby_w zwX8_insured_4 8 rfl)) ?_
              refine zr_iload C (zo_21 (p := 137) (k := 8) (a := 8) (zby_w zwX8_insured_4 9 rfl) (zby_w zwX8_insured_4 10 rfl) (by decide)) rfl ?_
              refine zr_isub C (zo_100 (p := 139) (zby_w zwX8_insured_4 11 rfl)) ?_
              refine zr_goto C 144 (zo_167 (p := 140) (k := 4) (a := 0) (b := 4) (zby_w zwX8_insured_4 12 rfl) (zby_w zwX8_insured_4 13 rfl) (zby_w zwX8_insured_4 14 rfl) (by decide)) (by decide) ?_
              exact hJ24 _ (by rw [if_neg hc22])
          · rw [if_pos hc21] at h
            refine zr_iload C (zo_21 (p := 109) (k := 5) (a := 5) (zby_w zwX8_insured_3 13 rfl) (zby_w zwX8_insured_3 14 rfl) (by decide)) rfl ?_
            refine zr_iload C (zo_21 (p := 111) (k := 9) (a := 9) (zby_w zwX8_insured_3 15 rfl) (zby_w zwX8_insured_3 16 rfl) (by decide)) rfl ?_
            refine zr_iload C (zo_21 (p := 113) (k := 8) (a := 8) (zby_w zwX8_insured_3 17 rfl) (zby_w zwX8_insured_3 18 rfl) (by decide)) rfl ?_
            refine zr_isub C (zo_100 (p := 115) (zby_w zwX8_insured_3 19 rfl)) ?_
            refine zr_imul C (zo_104 (p := 116) (zby_w zwX8_insured_3 20 rfl)) ?_
            refine zr_bipush C (10 : Int32) (zo_16 (p := 117) (k := 10) (a := 10) (zby_w zwX8_insured_3 21 rfl) (zby_w zwX8_insured_3 22 rfl) (by decide)) (by decide) ?_
            refine zr_iload C (zo_21 (p := 119) (k := 7) (a := 7) (zby_w zwX8_insured_3 23 rfl) (zby_w zwX8_insured_3 24 rfl) (by decide)) rfl ?_
            refine zr_imul C (zo_104 (p := 121) (zby_w zwX8_insured_3 25 rfl)) ?_
            refine zr_iadd C (zo_96 (p := 122) (zby_w zwX8_insured_3 26 rfl)) ?_
            refine zr_ldc C (v := (1000000 : Int32)) cw_X8_224 (zo_18 (p := 123) (k := 224) (a := 224) (zby_w zwX8_insured_3 27 rfl) (zby_w zwX8_insured_3 28 rfl) (by decide)) ?_
            refine zr_iadd C (zo_96 (p := 125) (zby_w zwX8_insured_3 29 rfl)) ?_
            exact hret _ _ _ h (zo_172 (p := 126) (zby_w zwX8_insured_3 30 rfl))
        · rw [if_pos hc14] at h
          refine zr_iload C (zo_21 (p := 71) (k := 6) (a := 6) (zby_w zwX8_insured_2 7 rfl) (zby_w zwX8_insured_2 8 rfl) (by decide)) rfl ?_
          exact hret _ _ _ h (zo_172 (p := 73) (zby_w zwX8_insured_2 9 rfl))
      · rw [if_pos hc9] at h
        refine zr_bipush C (-2 : Int32) d_X8_insured_32 (by decide) ?_
        exact hret _ _ _ h d_X8_insured_34
  · rw [if_pos hc3] at h
    refine zr_iconst C (-1 : Int32) (zo_2 (p := 14) (zby_w zwX8_insured_0 14 rfl)) (by decide) ?_
    exact hret _ _ _ h (zo_172 (p := 15) (zby_w zwX8_insured_0 15 rfl))
set_option maxRecDepth 20000 in
theorem c_X8_insured (l : Launch) (g : zG) (p1 : Int32) (p2 : Int32) (p3 : Int32) (σ : zST) (Post : Int32 → Prop) (h : wp_X8_insured p1 p2 p3 σ Post) : Met l yX8_insured (Cond.code yX8_insured cX8_insured 11 (some .int) :: zGW) (zRm 2 44) (va_Pc [.ref (g.2.1 0), .int p1, .int p2, .int p3] (zPP g σ)) (va_Qi (fun r u => Post r ∧ u = σ) (zBB g) (zA g)) 0 0 (zA g) :=
  zMet (by decide) (Nat.le_of_ble_eq_true rfl) (fun p e s m below meth c hr C => g_X8_insured C (fun v pc lv hp hd => zr_iret C hr ⟨hp, rfl⟩ hd) h)
def wp_X8_aboard (p1 : Int32) (p2 : Int32) (σ : zST) (Post : Int32 → zST → Prop) : Prop := wp_X8_within p1 (0 : Int32) (7 : Int32) σ (fun r1 => (if r1 = (0) then Post (-1 : Int32) σ else wp_X8_within p2 (0 : Int32) (9 : Int32) σ (fun r4 => (if r4 = (0) then Post (-2 : Int32) σ else vp_in p1 8 ∧ ∀ σ8 : zST, σ8 = (wI (wI σ 13 0 ((σ.1 13 0) ||| ((1 : Int32) <<< (p1 &&& 31)))) 14 p1.toNatClampNeg p2) → wp_J6_bitCount_0f7a4 (σ8.1 13 0) σ8 (fun r9 => Post r9 σ8)))))
set_option maxRecDepth 100000 in
set_option maxHeartbeats 4000000 in
theorem g_X8_aboard {p : Program} {l : Launch} {e : Env} {R : Room} {s : State} {m : MethodId} {args : Array Value} {below : List Frame} {meth : Method} {c : Code} {Q : State → Prop} {g : zG} {n1 n2 : Nat} (C : zCX p R s m args meth c g n1 n2 cX8_aboard 3 RX8 1 22) {p1 : Int32} {p2 : Int32} {σ : zST} {Post : Int32 → zST → Prop} (hret : ∀ (v : Int32) (σ : zST) (pc : Nat) (lv : List (Nat × Value)), Post v σ → decode cX8_aboard pc = .ok (.ireturn, 1) → zGG p l e R s m args below meth c Q g n1 n2 3 pc lv [.int v] σ) (h : wp_X8_aboard p1 p2 σ Post) : zGG p l e R s m args below meth c Q g n1 n2 3 0 [(0, .ref (g.2.1 0)), (1, .int p1), (2, .int p2)] [] σ := by
  unfold wp_X8_aboard at h
  refine zr_iload_n C (zo_27 (p := 0) (zby_w zwX8_aboard_0 0 rfl)) rfl ?_
  refine zr_iconst C (0 : Int32) (zo_3 (p := 1) (zby_w zwX8_aboard_0 1 rfl)) (by decide) ?_
  refine zr_bipush C (7 : Int32) (zo_16 (p := 2) (k := 7) (a := 7) (zby_w zwX8_aboard_0 2 rfl) (zby_w zwX8_aboard_0 3 rfl) (by decide)) (by decide) ?_
  refine zr_cip (zr_runS (As := [.int p1, .int (0 : Int32), .int (7 : Int32)]) (rest := []) C sw_X8_47 (c_X8_within l g p1 (0 : Int32) (7 : Int32) σ _ h) (by decide) (by decide) rfl rfl (Nat.le_of_ble_eq_true rfl) (zo_184 (p := 4) (k := 47) (a := 0) (b := 47) (zby_w zwX8_aboard_0 4 rfl) (zby_w zwX8_aboard_0 5 rfl) (zby_w zwX8_aboard_0 6 rfl) (by decide))) (fun r1 h => ?_)
  refine zr_if_ne C 12 (zo_154 (p := 7) (k := 5) (a := 0) (b := 5) (zby_w zwX8_aboard_0 7 rfl) (zby_w zwX8_aboard_0 8 rfl) (zby_w zwX8_aboard_0 9 rfl) (by decide)) (by decide) (fun hc3 => ?_) (fun hc3 => ?_)
  · rw [if_neg hc3] at h
    refine zr_iload_n C (zo_28 (p := 12) (zby_w zwX8_aboard_0 12 rfl)) rfl ?_
    refine zr_iconst C (0 : Int32) (zo_3 (p := 13) (zby_w zwX8_aboard_0 13 rfl)) (by decide) ?_
    refine zr_bipush C (9 : Int32) (zo_16 (p := 14) (k := 9) (a := 9) (zby_w zwX8_aboard_0 14 rfl) (zby_w zwX8_aboard_0 15 rfl) (by decide)) (by decide) ?_
    refine zr_cip (zr_runS (As := [.int p2, .int (0 : Int32), .int (9 : Int32)]) (rest := []) C sw_X8_47 (c_X8_within l g p2 (0 : Int32) (9 : Int32) σ _ h) (by decide) (by decide) rfl rfl (Nat.le_of_ble_eq_true rfl) (zo_184 (p := 16) (k := 47) (a := 0) (b := 47) (zby_w zwX8_aboard_0 16 rfl) (zby_w zwX8_aboard_0 17 rfl) (zby_w zwX8_aboard_0 18 rfl) (by decide))) (fun r4 h => ?_)
    refine zr_if_ne C 25 (zo_154 (p := 19) (k := 6) (a := 0) (b := 6) (zby_w zwX8_aboard_0 19 rfl) (zby_w zwX8_aboard_0 20 rfl) (zby_w zwX8_aboard_0 21 rfl) (by decide)) (by decide) (fun hc6 => ?_) (fun hc6 => ?_)
    · rw [if_neg hc6] at h
      refine zr_aload_n C (zo_42 (p := 25) (zby_w zwX8_aboard_0 25 rfl)) rfl ?_
      refine zr_getr (u := 1) C fw_X8_10 (sh_0) rfl (zo_180 (p := 26) (k := 10) (a := 0) (b := 10) (zby_w zwX8_aboard_0 26 rfl) (zby_w zwX8_aboard_0 27 rfl) (zby_w zwX8_aboard_0 28 rfl) (by decide)) ?_
      refine zr_getr (u := 13) C fw_X8_228 (sh_1) rfl (zo_180 (p := 29) (k := 228) (a := 0) (b := 228) (zby_w zwX8_aboard_0 29 rfl) (zby_w zwX8_aboard_0 30 rfl) (zby_w zwX8_aboard_0 31 rfl) (by decide)) ?_
      refine zr_dup C (zo_89 (p := 32) (zby_w zwX8_aboard_1 0 rfl)) rfl ?_
      refine zr_geti C fw_X8_232 (sh_13) rfl (zo_180 (p := 33) (k := 232) (a := 0) (b := 232) (zby_w zwX8_aboard_1 1 rfl) (zby_w zwX8_aboard_1 2 rfl) (zby_w zwX8_aboard_1 3 rfl) (by decide)) ?_
      refine zr_iconst C (1 : Int32) (zo_4 (p := 36) (zby_w zwX8_aboard_1 4 rfl)) (by decide) ?_
      refine zr_iload_n C (zo_27 (p := 37) (zby_w zwX8_aboard_1 5 rfl)) rfl ?_
      refine zr_ishl C (zo_120 (p := 38) (zby_w zwX8_aboard_1 6 rfl)) ?_
      refine zr_ior C (zo_128 (p := 39) (zby_w zwX8_aboard_1 7 rfl)) ?_
      refine zr_puti C fw_X8_232 pw_X1_0 (sh_13) rfl rfl rfl (zo_181 (p := 40) (k := 232) (a := 0) (b := 232) (zby_w zwX8_aboard_1 8 rfl) (zby_w zwX8_aboard_1 9 rfl) (zby_w zwX8_aboard_1 10 rfl) (by decide)) ?_
      refine zr_aload_n C (zo_42 (p := 43) (zby_w zwX8_aboard_1 11 rfl)) rfl ?_
      refine zr_getr (u := 1) C fw_X8_10 (sh_0) rfl (zo_180 (p := 44) (k := 10) (a := 0) (b := 10) (zby_w zwX8_aboard_1 12 rfl) (zby_w zwX8_aboard_1 13 rfl) (zby_w zwX8_aboard_1 14 rfl) (by decide)) ?_
      refine zr_getr (u := 13) C fw_X8_228 (sh_1) rfl (zo_180 (p := 47) (k := 228) (a := 0) (b := 228) (zby_w zwX8_aboard_1 15 rfl) (zby_w zwX8_aboard_1 16 rfl) (zby_w zwX8_aboard_1 17 rfl) (by decide)) ?_
      refine zr_getr (u := 14) C fw_X8_235 (sh_13) rfl (zo_180 (p := 50) (k := 235) (a := 0) (b := 235) (zby_w zwX8_aboard_1 18 rfl) (zby_w zwX8_aboard_1 19 rfl) (zby_w zwX8_aboard_1 20 rfl) (by decide)) ?_
      refine zr_iload_n C (zo_27 (p := 53) (zby_w zwX8_aboard_1 21 rfl)) rfl ?_
      refine zr_iload_n C (zo_28 (p := 54) (zby_w zwX8_aboard_1 22 rfl)) rfl ?_
      obtain ⟨ho7, h⟩ := h
      refine zr_iast C (sh_14) ho7 (zo_79 (p := 55) (zby_w zwX8_aboard_1 23 rfl)) ?_
      refine zr_aload_n C (zo_42 (p := 56) (zby_w zwX8_aboard_1 24 rfl)) rfl ?_
      refine zr_getr (u := 1) C fw_X8_10 (sh_0) rfl (zo_180 (p := 57) (k := 10) (a := 0) (b := 10) (zby_w zwX8_aboard_1 25 rfl) (zby_w zwX8_aboard_1 26 rfl) (zby_w zwX8_aboard_1 27 rfl) (by decide)) ?_
      refine zr_getr (u := 13) C fw_X8_228 (sh_1) rfl (zo_180 (p := 60) (k := 228) (a := 0) (b := 228) (zby_w zwX8_aboard_1 28 rfl) (zby_w zwX8_aboard_1 29 rfl) (zby_w zwX8_aboard_1 30 rfl) (by decide)) ?_
      refine zr_tops (fun σ8 hσ8 => ?_)
      replace h := h σ8 hσ8
      refine zr_geti C fw_X8_232 (sh_13) rfl (zo_180 (p := 63) (k := 232) (a := 0) (b := 232) (zby_w zwX8_aboard_1 31 rfl) (zby_w zwX8_aboard_1 32 rfl) (zby_w zwX8_aboard_1 33 rfl) (by decide)) ?_
      refine zr_cip (zr_runS (As := [.int (σ8.1 13 0)]) (rest := []) C sw_X8_73 (c_J6_bitCount_0f7a4 l g (σ8.1 13 0) σ8 _ h) (by decide) (by decide) rfl rfl (Nat.le_of_ble_eq_true rfl) (zo_184 (p := 66) (k := 73) (a := 0) (b := 73) (zby_w zwX8_aboard_2 2 rfl) (zby_w zwX8_aboard_2 3 rfl) (zby_w zwX8_aboard_2 4 rfl) (by decide))) (fun r9 h => ?_)
      exact hret _ _ _ _ h (zo_172 (p := 69) (zby_w zwX8_aboard_2 5 rfl))
    · rw [if_pos hc6] at h
      refine zr_bipush C (-2 : Int32) (zo_16 (p := 22) (k := (-2)) (a := 254) (zby_w zwX8_aboard_0 22 rfl) (zby_w zwX8_aboard_0 23 rfl) (by decide)) (by decide) ?_
      exact hret _ _ _ _ h (zo_172 (p := 24) (zby_w zwX8_aboard_0 24 rfl))
  · rw [if_pos hc3] at h
    refine zr_iconst C (-1 : Int32) (zo_2 (p := 10) (zby_w zwX8_aboard_0 10 rfl)) (by decide) ?_
    exact hret _ _ _ _ h (zo_172 (p := 11) (zby_w zwX8_aboard_0 11 rfl))
set_option maxRecDepth 20000 in
theorem c_X8_aboard (l : Launch) (g : zG) (p1 : Int32) (p2 : Int32) (σ : zST) (Post : Int32 → zST → Prop) (h : wp_X8_aboard p1 p2 σ Post) : Met l yX8_aboard (Cond.code yX8_aboard cX8_aboard 3 (some .int) :: zGW) (zRm 1 22) (va_Pc [.ref (g.2.1 0), .int p1, .int p2] (zPP g σ)) (va_Qi Post (zBB g) (zA g)) 0 0 (zA g) :=
  zMet (by decide) (Nat.le_of_ble_eq_true rfl) (fun p e s m below meth c hr C => g_X8_aboard C (fun v σ pc lv hp hd => zr_iret C hr hp hd) h)
def wp_X8_ashore (p1 : Int32) (σ : zST) (Post : Int32 → zST → Prop) : Prop := wp_X1_has 13 p1 σ (fun r1 => (if r1 = (0) then Post (-1 : Int32) σ else ∀ σ4 : zST, σ4 = (wI σ 13 0 ((σ.1 13 0) &&& (((1 : Int32) <<< (p1 &&& 31)) ^^^ (-1 : Int32)))) → wp_J6_bitCount_0f7a4 (σ4.1 13 0) σ4 (fun r5 => Post r5 σ4)))
set_option maxRecDepth 100000 in
set_option maxHeartbeats 4000000 in
theorem g_X8_ashore {p : Program} {l : Launch} {e : Env} {R : Room} {s : State} {m : MethodId} {args : Array Value} {below : List Frame} {meth : Method} {c : Code} {Q : State → Prop} {g : zG} {n1 n2 : Nat} (C : zCX p R s m args meth c g n1 n2 cX8_ashore 2 RX8 2 43) {p1 : Int32} {σ : zST} {Post : Int32 → zST → Prop} (hret : ∀ (v : Int32) (σ : zST) (pc : Nat) (lv : List (Nat × Value)), Post v σ → decode cX8_ashore pc = .ok (.ireturn, 1) → zGG p l e R s m args below meth c Q g n1 n2 2 pc lv [.int v] σ) (h : wp_X8_ashore p1 σ Post) : zGG p l e R s m args below meth c Q g n1 n2 2 0 [(0, .ref (g.2.1 0)), (1, .int p1)] [] σ := by
  unfold wp_X8_ashore at h
  refine zr_aload_n C (zo_42 (p := 0) (zby_w zwX8_ashore_0 0 rfl)) rfl ?_
  refine zr_getr (u := 1) C fw_X8_10 (sh_0) rfl (zo_180 (p := 1) (k := 10) (a := 0) (b := 10) (zby_w zwX8_ashore_0 1 rfl) (zby_w zwX8_ashore_0 2 rfl) (zby_w zwX8_ashore_0 3 rfl) (by decide)) ?_
  refine zr_getr (u := 13) C fw_X8_228 (sh_1) rfl (zo_180 (p := 4) (k := 228) (a := 0) (b := 228) (zby_w zwX8_ashore_0 4 rfl) (zby_w zwX8_ashore_0 5 rfl) (zby_w zwX8_ashore_0 6 rfl) (by decide)) ?_
  refine zr_iload_n C (zo_27 (p := 7) (zby_w zwX8_ashore_0 7 rfl)) rfl ?_
  refine zr_cip (zr_runV (As := [.int p1]) (rest := []) C vw_X8_238 (c_X1_has l g 13 isX1_13 p1 σ _ h) (sh_13) rfl (by decide) (by decide) rfl rfl (Nat.le_of_ble_eq_true rfl) (zo_182 (p := 8) (k := 238) (a := 0) (b := 238) (zby_w zwX8_ashore_0 8 rfl) (zby_w zwX8_ashore_0 9 rfl) (zby_w zwX8_ashore_0 10 rfl) (by decide))) (fun r1 h => ?_)
  refine zr_if_ne C 16 (zo_154 (p := 11) (k := 5) (a := 0) (b := 5) (zby_w zwX8_ashore_0 11 rfl) (zby_w zwX8_ashore_0 12 rfl) (zby_w zwX8_ashore_0 13 rfl) (by decide)) (by decide) (fun hc3 => ?_) (fun hc3 => ?_)
  · rw [if_neg hc3] at h
    refine zr_aload_n C (zo_42 (p := 16) (zby_w zwX8_ashore_0 16 rfl)) rfl ?_
    refine zr_getr (u := 1) C fw_X8_10 (sh_0) rfl (zo_180 (p := 17) (k := 10) (a := 0) (b := 10) (zby_w zwX8_ashore_0 17 rfl) (zby_w zwX8_ashore_0 18 rfl) (zby_w zwX8_ashore_0 19 rfl) (by decide)) ?_
    refine zr_getr (u := 13) C fw_X8_228 (sh_1) rfl (zo_180 (p := 20) (k := 228) (a := 0) (b := 228) (zby_w zwX8_ashore_0 20 rfl) (zby_w zwX8_ashore_0 21 rfl) (zby_w zwX8_ashore_0 22 rfl) (by decide)) ?_
    refine zr_dup C (zo_89 (p := 23) (zby_w zwX8_ashore_0 23 rfl)) rfl ?_
    refine zr_geti C fw_X8_232 (sh_13) rfl (zo_180 (p := 24) (k := 232) (a := 0) (b := 232) (zby_w zwX8_ashore_0 24 rfl) (zby_w zwX8_ashore_0 25 rfl) (zby_w zwX8_ashore_0 26 rfl) (by decide)) ?_
    refine zr_iconst C (1 : Int32) (zo_4 (p := 27) (zby_w zwX8_ashore_0 27 rfl)) (by decide) ?_
    refine zr_iload_n C (zo_27 (p := 28) (zby_w zwX8_ashore_0 28 rfl)) rfl ?_
    refine zr_ishl C (zo_120 (p := 29) (zby_w zwX8_ashore_0 29 rfl)) ?_
    refine zr_iconst C (-1 : Int32) (zo_2 (p := 30) (zby_w zwX8_ashore_0 30 rfl)) (by decide) ?_
    refine zr_ixor C (zo_130 (p := 31) (zby_w zwX8_ashore_0 31 rfl)) ?_
    refine zr_iand C (zo_126 (p := 32) (zby_w zwX8_ashore_1 0 rfl)) ?_
    refine zr_puti C fw_X8_232 pw_X1_0 (sh_13) rfl rfl rfl (zo_181 (p := 33) (k := 232) (a := 0) (b := 232) (zby_w zwX8_ashore_1 1 rfl) (zby_w zwX8_ashore_1 2 rfl) (zby_w zwX8_ashore_1 3 rfl) (by decide)) ?_
    refine zr_aload_n C (zo_42 (p := 36) (zby_w zwX8_ashore_1 4 rfl)) rfl ?_
    refine zr_getr (u := 1) C fw_X8_10 (sh_0) rfl (zo_180 (p := 37) (k := 10) (a := 0) (b := 10) (zby_w zwX8_ashore_1 5 rfl) (zby_w zwX8_ashore_1 6 rfl) (zby_w zwX8_ashore_1 7 rfl) (by decide)) ?_
    refine zr_getr (u := 13) C fw_X8_228 (sh_1) rfl (zo_180 (p := 40) (k := 228) (a := 0) (b := 228) (zby_w zwX8_ashore_1 8 rfl) (zby_w zwX8_ashore_1 9 rfl) (zby_w zwX8_ashore_1 10 rfl) (by decide)) ?_
    refine zr_tops (fun σ4 hσ4 => ?_)
    replace h := h σ4 hσ4
    refine zr_geti C fw_X8_232 (sh_13) rfl (zo_180 (p := 43) (k := 232) (a := 0) (b := 232) (zby_w zwX8_ashore_1 11 rfl) (zby_w zwX8_ashore_1 12 rfl) (zby_w zwX8_ashore_1 13 rfl) (by decide)) ?_
    refine zr_cip (zr_runS (As := [.int (σ4.1 13 0)]) (rest := []) C sw_X8_73 (c_J6_bitCount_0f7a4 l g (σ4.1 13 0) σ4 _ h) (by decide) (by decide) rfl rfl (Nat.le_of_ble_eq_true rfl) (zo_184 (p := 46) (k := 73) (a := 0) (b := 73) (zby_w zwX8_ashore_1 14 rfl) (zby_w zwX8_ashore_1 15 rfl) (zby_w zwX8_ashore_1 16 rfl) (by decide))) (fun r5 h => ?_)
    exact hret _ _ _ _ h (zo_172 (p := 49) (zby_w zwX8_ashore_1 17 rfl))
  · rw [if_pos hc3] at h
    refine zr_iconst C (-1 : Int32) (zo_2 (p := 14) (zby_w zwX8_ashore_0 14 rfl)) (by decide) ?_
    exact hret _ _ _ _ h (zo_172 (p := 15) (zby_w zwX8_ashore_0 15 rfl))
set_option maxRecDepth 20000 in
theorem c_X8_ashore (l : Launch) (g : zG) (p1 : Int32) (σ : zST) (Post : Int32 → zST → Prop) (h : wp_X8_ashore p1 σ Post) : Met l yX8_ashore (Cond.code yX8_ashore cX8_ashore 2 (some .int) :: zGW) (zRm 2 43) (va_Pc [.ref (g.2.1 0), .int p1] (zPP g σ)) (va_Qi Post (zBB g) (zA g)) 0 0 (zA g) :=
  zMet (by decide) (Nat.le_of_ble_eq_true rfl) (fun p e s m below meth c hr C => g_X8_ashore C (fun v σ pc lv hp hd => zr_iret C hr hp hd) h)
def wp_X8_commonDivisor_L9 (σ : zST) (Post : Int64 → Prop) : Nat → Int64 → Int64 → Int32 → Prop
  | 0, _, _, _ => False
  | N + 1, v4, v6, v8 => (if (128 : Int32) ≤ v8 then Post v4 else (if (lg_cmp v6 (0 : Int64)) = (0) then Post v4 else ¬ v6 = 0 ∧ ∀ x4 : Int64, x4 = (v4 - v4 / v6 * v6) → wp_X8_commonDivisor_L9 σ Post N v6 x4 (v8 + 1)))

set_option maxRecDepth 100000 in
set_option maxHeartbeats 4000000 in
theorem g_X8_commonDivisor_L9 {p : Program} {l : Launch} {e : Env} {R : Room} {s : State} {m : MethodId} {args : Array Value} {below : List Frame} {meth : Method} {c : Code} {Q : State → Prop} {g : zG} {n1 n2 : Nat} (C : zCX p R s m args meth c g n1 n2 cX8_commonDivisor 11 RX8 0 0) {σ : zST}  {Post : Int64 → Prop} (hret : ∀ (v : Int64) (pc : Nat) (lv : List (Nat × Value)), Post v → decode cX8_commonDivisor pc = .ok (.lreturn, 1) → zGG p l e R s m args below meth c Q g n1 n2 11 pc lv [.long v] σ) : ∀ (N : Nat) (v4 : Int64) (v6 : Int64) (v8 : Int32) , wp_X8_commonDivisor_L9 σ Post N v4 v6 v8 → zGG p l e R s m args below meth c Q g n1 n2 11 9 [(4, .long v4), (6, .long v6), (8, .int v8)] [] σ := by
  intro N
  induction N with
  | zero =>
    intro v4 v6 v8 h
    exact h.elim
  | succ N ih =>
    intro v4 v6 v8 h
    rw [wp_X8_commonDivisor_L9] at h
    refine zr_iload C (zo_21 (p := 9) (k := 8) (a := 8) (zby_w zwX8_commonDivisor_0 9 rfl) (zby_w zwX8_commonDivisor_0 10 rfl) (by decide)) rfl ?_
    refine zr_sipush C (128 : Int32) (zo_17 (p := 11) (k := 128) (a := 0) (b := 128) (zby_w zwX8_commonDivisor_0 11 rfl) (zby_w zwX8_commonDivisor_0 12 rfl) (zby_w zwX8_commonDivisor_0 13 rfl) (by decide)) (by decide) ?_
    refine zr_icmp_ge C 45 (zo_162 (p := 14) (k := 31) (a := 0) (b := 31) (zby_w zwX8_commonDivisor_0 14 rfl) (zby_w zwX8_commonDivisor_0 15 rfl) (zby_w zwX8_commonDivisor_0 16 rfl) (by decide)) (by decide) (fun hc1 => ?_) (fun hc1 => ?_)
    · rw [if_pos hc1] at h
      refine zr_lload C d_X8_commonDivisor_45 rfl ?_
      exact hret _ _ _ h d_X8_commonDivisor_47
    · rw [if_neg hc1] at h
      refine zr_lload C (zo_22 (p := 17) (k := 6) (a := 6) (zby_w zwX8_commonDivisor_0 17 rfl) (zby_w zwX8_commonDivisor_0 18 rfl) (by decide)) rfl ?_
      refine zr_lconst C (0 : Int64) (zo_9 (p := 19) (zby_w zwX8_commonDivisor_0 19 rfl)) (by decide) ?_
      refine zr_lcmp C (zo_148 (p := 20) (zby_w zwX8_commonDivisor_0 20 rfl)) ?_
      refine zr_if_eq C 45 (zo_153 (p := 21) (k := 24) (a := 0) (b := 24) (zby_w zwX8_commonDivisor_0 21 rfl) (zby_w zwX8_commonDivisor_0 22 rfl) (zby_w zwX8_commonDivisor_0 23 rfl) (by decide)) (by decide) (fun hc2 => ?_) (fun hc2 => ?_)
      · rw [if_pos hc2] at h
        refine zr_lload C d_X8_commonDivisor_45 rfl ?_
        exact hret _ _ _ h d_X8_commonDivisor_47
      · rw [if_neg hc2] at h
        refine zr_lload C (zo_22 (p := 24) (k := 4) (a := 4) (zby_w zwX8_commonDivisor_0 24 rfl) (zby_w zwX8_commonDivisor_0 25 rfl) (by decide)) rfl ?_
        refine zr_lload C (zo_22 (p := 26) (k := 6) (a := 6) (zby_w zwX8_commonDivisor_0 26 rfl) (zby_w zwX8_commonDivisor_0 27 rfl) (by decide)) rfl ?_
        obtain ⟨ho3, h⟩ := h
        refine zr_lrem C (zo_113 (p := 28) (zby_w zwX8_commonDivisor_0 28 rfl)) ho3 ?_
        refine zr_topl (fun x4 hx4 => ?_)
        replace h := h x4 hx4
        refine zr_lstore C [(9, .long x4), (4, .long v4), (6, .long v6), (8, .int v8)] (zo_55 (p := 29) (k := 9) (a := 9) (zby_w zwX8_commonDivisor_0 29 rfl) (zby_w zwX8_commonDivisor_0 30 rfl) (by decide)) (by decide) rfl ?_
        refine zr_lload C (zo_22 (p := 31) (k := 6) (a := 6) (zby_w zwX8_commonDivisor_0 31 rfl) (zby_w zwX8_commonDivisor_0 32 rfl) (by decide)) rfl ?_
        refine zr_lstore C [(4, .long v6), (9, .long x4), (6, .long v6), (8, .int v8)] (zo_55 (p := 33) (k := 4) (a := 4) (zby_w zwX8_commonDivisor_1 1 rfl) (zby_w zwX8_commonDivisor_1 2 rfl) (by decide)) (by decide) rfl ?_
        refine zr_lload C (zo_22 (p := 35) (k := 9) (a := 9) (zby_w zwX8_commonDivisor_1 3 rfl) (zby_w zwX8_commonDivisor_1 4 rfl) (by decide)) rfl ?_
        refine zr_lstore C [(6, .long x4), (4, .long v6), (9, .long x4), (8, .int v8)] (zo_55 (p := 37) (k := 6) (a := 6) (zby_w zwX8_commonDivisor_1 5 rfl) (zby_w zwX8_commonDivisor_1 6 rfl) (by decide)) (by decide) rfl ?_
        refine zr_iinc C (v8 + 1) [(8, .int (v8 + 1)), (6, .long x4), (4, .long v6), (9, .long x4)] d_X8_commonDivisor_39 rfl rfl (by decide) rfl ?_
        refine zr_goto C 9 (zo_167 (p := 42) (k := (-33)) (a := 255) (b := 223) (zby_w zwX8_commonDivisor_1 10 rfl) (zby_w zwX8_commonDivisor_1 11 rfl) (zby_w zwX8_commonDivisor_1 12 rfl) (by decide)) (by decide) ?_
        exact zr_pick [2, 1, 0] rfl (ih v6 x4 (v8 + 1) h)

def wp_X8_commonDivisor (p0 : Int64) (p2 : Int64) (σ : zST) (Post : Int64 → Prop) : Prop := ∃ M5 : Nat, wp_X8_commonDivisor_L9 σ Post M5 p0 p2 (0 : Int32)
set_option maxRecDepth 100000 in
set_option maxHeartbeats 4000000 in
theorem g_X8_commonDivisor {p : Program} {l : Launch} {e : Env} {R : Room} {s : State} {m : MethodId} {args : Array Value} {below : List Frame} {meth : Method} {c : Code} {Q : State → Prop} {g : zG} {n1 n2 : Nat} (C : zCX p R s m args meth c g n1 n2 cX8_commonDivisor 11 RX8 0 0) {p0 : Int64} {p2 : Int64} {σ : zST} {Post : Int64 → Prop} (hret : ∀ (v : Int64) (pc : Nat) (lv : List (Nat × Value)), Post v → decode cX8_commonDivisor pc = .ok (.lreturn, 1) → zGG p l e R s m args below meth c Q g n1 n2 11 pc lv [.long v] σ) (h : wp_X8_commonDivisor p0 p2 σ Post) : zGG p l e R s m args below meth c Q g n1 n2 11 0 [(0, .long p0), (2, .long p2)] [] σ := by
  unfold wp_X8_commonDivisor at h
  refine zr_lload_n C (zo_30 (p := 0) (zby_w zwX8_commonDivisor_0 0 rfl)) rfl ?_
  refine zr_lstore C [(4, .long p0), (0, .long p0), (2, .long p2)] (zo_55 (p := 1) (k := 4) (a := 4) (zby_w zwX8_commonDivisor_0 1 rfl) (zby_w zwX8_commonDivisor_0 2 rfl) (by decide)) (by decide) rfl ?_
  refine zr_lload_n C (zo_32 (p := 3) (zby_w zwX8_commonDivisor_0 3 rfl)) rfl ?_
  refine zr_lstore C [(6, .long p2), (4, .long p0), (0, .long p0), (2, .long p2)] (zo_55 (p := 4) (k := 6) (a := 6) (zby_w zwX8_commonDivisor_0 4 rfl) (zby_w zwX8_commonDivisor_0 5 rfl) (by decide)) (by decide) rfl ?_
  refine zr_iconst C (0 : Int32) (zo_3 (p := 6) (zby_w zwX8_commonDivisor_0 6 rfl)) (by decide) ?_
  refine zr_istore C [(8, .int (0 : Int32)), (6, .long p2), (4, .long p0), (0, .long p0), (2, .long p2)] (zo_54 (p := 7) (k := 8) (a := 8) (zby_w zwX8_commonDivisor_0 7 rfl) (zby_w zwX8_commonDivisor_0 8 rfl) (by decide)) (by decide) rfl ?_
  obtain ⟨M5, h⟩ := h
  exact zr_pick [2, 1, 0] rfl (g_X8_commonDivisor_L9 C hret M5 p0 p2 (0 : Int32) h)
set_option maxRecDepth 20000 in
theorem c_X8_commonDivisor (l : Launch) (g : zG) (p0 : Int64) (p2 : Int64) (σ : zST) (Post : Int64 → Prop) (h : wp_X8_commonDivisor p0 p2 σ Post) : Met l yX8_commonDivisor (Cond.code yX8_commonDivisor cX8_commonDivisor 11 (some .long) :: zGW) (zRm 0 0) (va_Pc [.long p0, .long p2] (zPP g σ)) (va_Ql (fun r u => Post r ∧ u = σ) (zBB g) (zA g)) 0 0 (zA g) :=
  zMet (by decide) (Nat.le_of_ble_eq_true rfl) (fun p e s m below meth c hr C => g_X8_commonDivisor C (fun v pc lv hp hd => zr_lret C hr ⟨hp, rfl⟩ hd) h)
def wp_X8_partOf (p0 : Int64) (p2 : Int64) (p4 : Int32) (σ : zST) (Post : Int64 → Prop) : Prop := wp_X8_commonDivisor p0 p2 σ (fun r1 => (if (0) ≤ (lg_cmp r1 (1 : Int64)) then ∀ z5 : Int64, z5 = (if p4 = (0) then p0 else p2) → ¬ r1 = 0 ∧ Post (z5 / r1) else Post (0 : Int64)))
set_option maxRecDepth 100000 in
set_option maxHeartbeats 4000000 in
theorem g_X8_partOf {p : Program} {l : Launch} {e : Env} {R : Room} {s : State} {m : MethodId} {args : Array Value} {below : List Frame} {meth : Method} {c : Code} {Q : State → Prop} {g : zG} {n1 n2 : Nat} (C : zCX p R s m args meth c g n1 n2 cX8_partOf 7 RX8 1 30) {p0 : Int64} {p2 : Int64} {p4 : Int32} {σ : zST} {Post : Int64 → Prop} (hret : ∀ (v : Int64) (pc : Nat) (lv : List (Nat × Value)), Post v → decode cX8_partOf pc = .ok (.lreturn, 1) → zGG p l e R s m args below meth c Q g n1 n2 7 pc lv [.long v] σ) (h : wp_X8_partOf p0 p2 p4 σ Post) : zGG p l e R s m args below meth c Q g n1 n2 7 0 [(0, .long p0), (2, .long p2), (4, .int p4)] [] σ := by
  unfold wp_X8_partOf at h
  refine zr_lload_n C (zo_30 (p := 0) (zby_w zwX8_partOf_0 0 rfl)) rfl ?_
  refine zr_lload_n C (zo_32 (p := 1) (zby_w zwX8_partOf_0 1 rfl)) rfl ?_
  refine zr_clp (zr_runS (As := [.long p0, .long p2]) (rest := []) C sw_X8_288 (c_X8_commonDivisor l g p0 p2 σ _ h) (by decide) (by decide) rfl rfl (Nat.le_of_ble_eq_true rfl) (zo_184 (p := 2) (k := 288) (a := 1) (b := 32) (zby_w zwX8_partOf_0 2 rfl) (zby_w zwX8_partOf_0 3 rfl) (zby_w zwX8_partOf_0 4 rfl) (by decide))) (fun r1 h => ?_)
  refine zr_lstore C [(5, .long r1), (0, .long p0), (2, .long p2), (4, .int p4)] (zo_55 (p := 5) (k := 5) (a := 5) (zby_w zwX8_partOf_0 5 rfl) (zby_w zwX8_partOf_0 6 rfl) (by decide)) (by decide) rfl ?_
  refine zr_lload C (zo_22 (p := 7) (k := 5) (a := 5) (zby_w zwX8_partOf_0 7 rfl) (zby_w zwX8_partOf_0 8 rfl) (by decide)) rfl ?_
  refine zr_lconst C (1 : Int64) (zo_10 (p := 9) (zby_w zwX8_partOf_0 9 rfl)) (by decide) ?_
  refine zr_lcmp C (zo_148 (p := 10) (zby_w zwX8_partOf_0 10 rfl)) ?_
  refine zr_if_ge C 16 (zo_156 (p := 11) (k := 5) (a := 0) (b := 5) (zby_w zwX8_partOf_0 11 rfl) (zby_w zwX8_partOf_0 12 rfl) (zby_w zwX8_partOf_0 13 rfl) (by decide)) (by decide) (fun hc3 => ?_) (fun hc3 => ?_)
  · rw [if_pos hc3] at h
    refine zr_iload C (zo_21 (p := 16) (k := 4) (a := 4) (zby_w zwX8_partOf_0 16 rfl) (zby_w zwX8_partOf_0 17 rfl) (by decide)) rfl ?_
    have hJ6 : ∀ z5 : Int64, z5 = (if p4 = (0) then p0 else p2) → zGG p l e R s m args below meth c Q g n1 n2 7 26 [(5, .long r1), (0, .long p0), (2, .long p2), (4, .int p4)] [.long z5] σ := by
      intro z5 hz5
      replace h := h z5 hz5
      refine zr_lload C (zo_22 (p := 26) (k := 5) (a := 5) (zby_w zwX8_partOf_0 26 rfl) (zby_w zwX8_partOf_0 27 rfl) (by decide)) rfl ?_
      obtain ⟨ho8, h⟩ := h
      refine zr_ldiv C (zo_109 (p := 28) (zby_w zwX8_partOf_0 28 rfl)) ho8 ?_
      exact hret _ _ _ h (zo_173 (p := 29) (zby_w zwX8_partOf_0 29 rfl))
    refine zr_if_ne C 25 (zo_154 (p := 18) (k := 7) (a := 0) (b := 7) (zby_w zwX8_partOf_0 18 rfl) (zby_w zwX8_partOf_0 19 rfl) (zby_w zwX8_partOf_0 20 rfl) (by decide)) (by decide) (fun hc4 => ?_) (fun hc4 => ?_)
    · skip
      refine zr_lload_n C (zo_32 (p := 25) (zby_w zwX8_partOf_0 25 rfl)) rfl ?_
      exact hJ6 _ (by rw [if_neg hc4])
    · skip
      refine zr_lload_n C (zo_30 (p := 21) (zby_w zwX8_partOf_0 21 rfl)) rfl ?_
      refine zr_goto C 26 (zo_167 (p := 22) (k := 4) (a := 0) (b := 4) (zby_w zwX8_partOf_0 22 rfl) (zby_w zwX8_partOf_0 23 rfl) (zby_w zwX8_partOf_0 24 rfl) (by decide)) (by decide) ?_
      exact hJ6 _ (by rw [if_pos hc4])
  · rw [if_neg hc3] at h
    refine zr_lconst C (0 : Int64) (zo_9 (p := 14) (zby_w zwX8_partOf_0 14 rfl)) (by decide) ?_
    exact hret _ _ _ h (zo_173 (p := 15) (zby_w zwX8_partOf_0 15 rfl))
set_option maxRecDepth 20000 in
theorem c_X8_partOf (l : Launch) (g : zG) (p0 : Int64) (p2 : Int64) (p4 : Int32) (σ : zST) (Post : Int64 → Prop) (h : wp_X8_partOf p0 p2 p4 σ Post) : Met l yX8_partOf (Cond.code yX8_partOf cX8_partOf 7 (some .long) :: zGW) (zRm 1 30) (va_Pc [.long p0, .long p2, .int p4] (zPP g σ)) (va_Ql (fun r u => Post r ∧ u = σ) (zBB g) (zA g)) 0 0 (zA g) :=
  zMet (by decide) (Nat.le_of_ble_eq_true rfl) (fun p e s m below meth c hr C => g_X8_partOf C (fun v pc lv hp hd => zr_lret C hr ⟨hp, rfl⟩ hd) h)
def wp_X8_lot (p1 : Int32) (p2 : Int32) (p3 : Int32) (σ : zST) (Post : Int64 → Prop) : Prop := wp_X1_has 13 p2 σ (fun r1 => (if r1 = (0) then Post (-1000000000000000001 : Int64) else wp_J6_bitCount_0f7a4 (σ.1 13 0) σ (fun r4 => wp_X8_within p1 (1 : Int32) r4 σ (fun r6 => (if r6 = (0) then Post (-1000000000000000002 : Int64) else wp_X8_within p3 (0 : Int32) (1 : Int32) σ (fun r9 => (if r9 = (0) then Post (-1000000000000000002 : Int64) else vp_in p2 8 ∧ vp_in p2 8 ∧ wp_X1_countDrawn 13 (σ.1 14 p2.toNatClampNeg) (σ.1 14 p2.toNatClampNeg) σ (fun r14 => vp_in p2 8 ∧ wp_X1_countDrawn 13 (0 : Int32) ((σ.1 14 p2.toNatClampNeg) - (1 : Int32)) σ (fun r17 => ∀ x19 : Int32, x19 = (if (0 : Int32) < (if (p1 - r17) < r14 then (p1 - r17) else r14) then (if (p1 - r17) < r14 then (p1 - r17) else r14) else (0 : Int32)) → wp_X8_partOf (x19.toInt64) (r14.toInt64) p3 σ (fun r20 => Post r20))))))))))
set_option maxRecDepth 100000 in
set_option maxHeartbeats 4000000 in
theorem g_X8_lot {p : Program} {l : Launch} {e : Env} {R : Room} {s : State} {m : MethodId} {args : Array Value} {below : List Frame} {meth : Method} {c : Code} {Q : State → Prop} {g : zG} {n1 n2 : Nat} (C : zCX p R s m args meth c g n1 n2 cX8_lot 8 RX8 3 67) {p1 : Int32} {p2 : Int32} {p3 : Int32} {σ : zST} {Post : Int64 → Prop} (hret : ∀ (v : Int64) (pc : Nat) (lv : List (Nat × Value)), Post v → decode cX8_lot pc = .ok (.lreturn, 1) → zGG p l e R s m args below meth c Q g n1 n2 8 pc lv [.long v] σ) (h : wp_X8_lot p1 p2 p3 σ Post) : zGG p l e R s m args below meth c Q g n1 n2 8 0 [(0, .ref (g.2.1 0)), (1, .int p1), (2, .int p2), (3, .int p3)] [] σ := by
  unfold wp_X8_lot at h
  refine zr_aload_n C (zo_42 (p := 0) (zby_w zwX8_lot_0 0 rfl)) rfl ?_
  refine zr_getr (u := 1) C fw_X8_10 (sh_0) rfl (zo_180 (p := 1) (k := 10) (a := 0) (b := 10) (zby_w zwX8_lot_0 1 rfl) (zby_w zwX8_lot_0 2 rfl) (zby_w zwX8_lot_0 3 rfl) (by decide)) ?_
  refine zr_getr (u := 13) C fw_X8_228 (sh_1) rfl (zo_180 (p := 4) (k := 228) (a := 0) (b := 228) (zby_w zwX8_lot_0 4 rfl) (zby_w zwX8_lot_0 5 rfl) (zby_w zwX8_lot_0 6 rfl) (by decide)) ?_
  refine zr_astore C [(4, .ref (g.2.1 13)), (0, .ref (g.2.1 0)), (1, .int p1), (2, .int p2), (3, .int p3)] (zo_58 (p := 7) (k := 4) (a := 4) (zby_w zwX8_lot_0 7 rfl) (zby_w zwX8_lot_0 8 rfl) (by decide)) (by decide) rfl ?_
  refine zr_aload C (zo_25 (p := 9) (k := 4) (a := 4) (zby_w zwX8_lot_0 9 rfl) (zby_w zwX8_lot_0 10 rfl) (by decide)) rfl ?_
  refine zr_iload_n C (zo_28 (p := 11) (zby_w zwX8_lot_0 11 rfl)) rfl ?_
  refine zr_cip (zr_runV (As := [.int p2]) (rest := []) C vw_X8_238 (c_X1_has l g 13 isX1_13 p2 σ _ h) (sh_13) rfl (by decide) (by decide) rfl rfl (Nat.le_of_ble_eq_true rfl) (zo_182 (p := 12) (k := 238) (a := 0) (b := 238) (zby_w zwX8_lot_0 12 rfl) (zby_w zwX8_lot_0 13 rfl) (zby_w zwX8_lot_0 14 rfl) (by decide))) (fun r1 h => ?_)
  refine zr_if_ne C 22 (zo_154 (p := 15) (k := 7) (a := 0) (b := 7) (zby_w zwX8_lot_0 15 rfl) (zby_w zwX8_lot_0 16 rfl) (zby_w zwX8_lot_0 17 rfl) (by decide)) (by decide) (fun hc3 => ?_) (fun hc3 => ?_)
  · rw [if_neg hc3] at h
    refine zr_iload_n C (zo_27 (p := 22) (zby_w zwX8_lot_0 22 rfl)) rfl ?_
    refine zr_iconst C (1 : Int32) (zo_4 (p := 23) (zby_w zwX8_lot_0 23 rfl)) (by decide) ?_
    refine zr_aload C (zo_25 (p := 24) (k := 4) (a := 4) (zby_w zwX8_lot_0 24 rfl) (zby_w zwX8_lot_0 25 rfl) (by decide)) rfl ?_
    refine zr_geti C fw_X8_232 (sh_13) rfl (zo_180 (p := 26) (k := 232) (a := 0) (b := 232) (zby_w zwX8_lot_0 26 rfl) (zby_w zwX8_lot_0 27 rfl) (zby_w zwX8_lot_0 28 rfl) (by decide)) ?_
    refine zr_cip (zr_runS (As := [.int (σ.1 13 0)]) (rest := [.int (1 : Int32), .int p1]) C sw_X8_73 (c_J6_bitCount_0f7a4 l g (σ.1 13 0) σ _ h) (by decide) (by decide) rfl rfl (Nat.le_of_ble_eq_true rfl) (zo_184 (p := 29) (k := 73) (a := 0) (b := 73) (zby_w zwX8_lot_0 29 rfl) (zby_w zwX8_lot_0 30 rfl) (zby_w zwX8_lot_0 31 rfl) (by decide))) (fun r4 h => ?_)
    refine zr_cip (zr_runS (As := [.int p1, .int (1 : Int32), .int r4]) (rest := []) C sw_X8_47 (c_X8_within l g p1 (1 : Int32) r4 σ _ h) (by decide) (by decide) rfl rfl (Nat.le_of_ble_eq_true rfl) (zo_184 (p := 32) (k := 47) (a := 0) (b := 47) (zby_w zwX8_lot_1 0 rfl) (zby_w zwX8_lot_1 1 rfl) (zby_w zwX8_lot_1 2 rfl) (by decide))) (fun r6 h => ?_)
    refine zr_if_eq C 47 (zo_153 (p := 35) (k := 12) (a := 0) (b := 12) (zby_w zwX8_lot_1 3 rfl) (zby_w zwX8_lot_1 4 rfl) (zby_w zwX8_lot_1 5 rfl) (by decide)) (by decide) (fun hc8 => ?_) (fun hc8 => ?_)
    · rw [if_pos hc8] at h
      refine zr_ldc2 C (v := (-1000000000000000002 : Int64)) cl_X8_241 d_X8_lot_47 ?_
      exact hret _ _ _ h d_X8_lot_50
    · rw [if_neg hc8] at h
      refine zr_iload_n C (zo_29 (p := 38) (zby_w zwX8_lot_1 6 rfl)) rfl ?_
      refine zr_iconst C (0 : Int32) (zo_3 (p := 39) (zby_w zwX8_lot_1 7 rfl)) (by decide) ?_
      refine zr_iconst C (1 : Int32) (zo_4 (p := 40) (zby_w zwX8_lot_1 8 rfl)) (by decide) ?_
      refine zr_cip (zr_runS (As := [.int p3, .int (0 : Int32), .int (1 : Int32)]) (rest := []) C sw_X8_47 (c_X8_within l g p3 (0 : Int32) (1 : Int32) σ _ h) (by decide) (by decide) rfl rfl (Nat.le_of_ble_eq_true rfl) (zo_184 (p := 41) (k := 47) (a := 0) (b := 47) (zby_w zwX8_lot_1 9 rfl) (zby_w zwX8_lot_1 10 rfl) (zby_w zwX8_lot_1 11 rfl) (by decide))) (fun r9 h => ?_)
      refine zr_if_ne C 51 (zo_154 (p := 44) (k := 7) (a := 0) (b := 7) (zby_w zwX8_lot_1 12 rfl) (zby_w zwX8_lot_1 13 rfl) (zby_w zwX8_lot_1 14 rfl) (by decide)) (by decide) (fun hc11 => ?_) (fun hc11 => ?_)
      · rw [if_neg hc11] at h
        refine zr_aload C (zo_25 (p := 51) (k := 4) (a := 4) (zby_w zwX8_lot_1 19 rfl) (zby_w zwX8_lot_1 20 rfl) (by decide)) rfl ?_
        refine zr_aload C (zo_25 (p := 53) (k := 4) (a := 4) (zby_w zwX8_lot_1 21 rfl) (zby_w zwX8_lot_1 22 rfl) (by decide)) rfl ?_
        refine zr_getr (u := 14) C fw_X8_235 (sh_13) rfl (zo_180 (p := 55) (k := 235) (a := 0) (b := 235) (zby_w zwX8_lot_1 23 rfl) (zby_w zwX8_lot_1 24 rfl) (zby_w zwX8_lot_1 25 rfl) (by decide)) ?_
        refine zr_iload_n C (zo_28 (p := 58) (zby_w zwX8_lot_1 26 rfl)) rfl ?_
        obtain ⟨ho12, h⟩ := h
        refine zr_iald C (sh_14) ho12 (zo_46 (p := 59) (zby_w zwX8_lot_1 27 rfl)) ?_
        refine zr_aload C (zo_25 (p := 60) (k := 4) (a := 4) (zby_w zwX8_lot_1 28 rfl) (zby_w zwX8_lot_1 29 rfl) (by decide)) rfl ?_
        refine zr_getr (u := 14) C fw_X8_235 (sh_13) rfl (zo_180 (p := 62) (k := 235) (a := 0) (b := 235) (zby_w zwX8_lot_1 30 rfl) (zby_w zwX8_lot_1 31 rfl) (zby_w zwX8_lot_1 32 rfl) (by decide)) ?_
        refine zr_iload_n C (zo_28 (p := 65) (zby_w zwX8_lot_2 1 rfl)) rfl ?_
        obtain ⟨ho13, h⟩ := h
        refine zr_iald C (sh_14) ho13 (zo_46 (p := 66) (zby_w zwX8_lot_2 2 rfl)) ?_
        refine zr_cip (zr_runV (As := [.int (σ.1 14 p2.toNatClampNeg), .int (σ.1 14 p2.toNatClampNeg)]) (rest := []) C vw_X8_243 (c_X1_countDrawn l g 13 isX1_13 (σ.1 14 p2.toNatClampNeg) (σ.1 14 p2.toNatClampNeg) σ _ h) (sh_13) rfl (by decide) (by decide) rfl rfl (Nat.le_of_ble_eq_true rfl) (zo_182 (p := 67) (k := 243) (a := 0) (b := 243) (zby_w zwX8_lot_2 3 rfl) (zby_w zwX8_lot_2 4 rfl) (zby_w zwX8_lot_2 5 rfl) (by decide))) (fun r14 h => ?_)
        refine zr_istore C [(5, .int r14), (4, .ref (g.2.1 13)), (0, .ref (g.2.1 0)), (1, .int p1), (2, .int p2), (3, .int p3)] (zo_54 (p := 70) (k := 5) (a := 5) (zby_w zwX8_lot_2 6 rfl) (zby_w zwX8_lot_2 7 rfl) (by decide)) (by decide) rfl ?_
        refine zr_aload C (zo_25 (p := 72) (k := 4) (a := 4) (zby_w zwX8_lot_2 8 rfl) (zby_w zwX8_lot_2 9 rfl) (by decide)) rfl ?_
        refine zr_iconst C (0 : Int32) (zo_3 (p := 74) (zby_w zwX8_lot_2 10 rfl)) (by decide) ?_
        refine zr_aload C (zo_25 (p := 75) (k := 4) (a := 4) (zby_w zwX8_lot_2 11 rfl) (zby_w zwX8_lot_2 12 rfl) (by decide)) rfl ?_
        refine zr_getr (u := 14) C fw_X8_235 (sh_13) rfl (zo_180 (p := 77) (k := 235) (a := 0) (b := 235) (zby_w zwX8_lot_2 13 rfl) (zby_w zwX8_lot_2 14 rfl) (zby_w zwX8_lot_2 15 rfl) (by decide)) ?_
        refine zr_iload_n C (zo_28 (p := 80) (zby_w zwX8_lot_2 16 rfl)) rfl ?_
        obtain ⟨ho16, h⟩ := h
        refine zr_iald C (sh_14) ho16 (zo_46 (p := 81) (zby_w zwX8_lot_2 17 rfl)) ?_
        refine zr_iconst C (1 : Int32) (zo_4 (p := 82) (zby_w zwX8_lot_2 18 rfl)) (by decide) ?_
        refine zr_isub C (zo_100 (p := 83) (zby_w zwX8_lot_2 19 rfl)) ?_
        refine zr_cip (zr_runV (As := [.int (0 : Int32), .int ((σ.1 14 p2.toNatClampNeg) - (1 : Int32))]) (rest := []) C vw_X8_243 (c_X1_countDrawn l g 13 isX1_13 (0 : Int32) ((σ.1 14 p2.toNatClampNeg) - (1 : Int32)) σ _ h) (sh_13) rfl (by decide) (by decide) rfl rfl (Nat.le_of_ble_eq_true rfl) (zo_182 (p := 84) (k := 243) (a := 0) (b := 243) (zby_w zwX8_lot_2 20 rfl) (zby_w zwX8_lot_2 21 rfl) (zby_w zwX8_lot_2 22 rfl) (by decide))) (fun r17 h => ?_)
        refine zr_istore C [(6, .int r17), (5, .int r14), (4, .ref (g.2.1 13)), (0, .ref (g.2.1 0)), (1, .int p1), (2, .int p2), (3, .int p3)] (zo_54 (p := 87) (k := 6) (a := 6) (zby_w zwX8_lot_2 23 rfl) (zby_w zwX8_lot_2 24 rfl) (by decide)) (by decide) rfl ?_
        refine zr_iconst C (0 : Int32) (zo_3 (p := 89) (zby_w zwX8_lot_2 25 rfl)) (by decide) ?_
        refine zr_iload C (zo_21 (p := 90) (k := 5) (a := 5) (zby_w zwX8_lot_2 26 rfl) (zby_w zwX8_lot_2 27 rfl) (by decide)) rfl ?_
        refine zr_iload_n C (zo_27 (p := 92) (zby_w zwX8_lot_2 28 rfl)) rfl ?_
        refine zr_iload C (zo_21 (p := 93) (k := 6) (a := 6) (zby_w zwX8_lot_2 29 rfl) (zby_w zwX8_lot_2 30 rfl) (by decide)) rfl ?_
        refine zr_isub C (zo_100 (p := 95) (zby_w zwX8_lot_2 31 rfl)) ?_
        refine zr_mmin C mw_X8_108 (by decide) (Nat.le_of_ble_eq_true rfl) (zo_184 (p := 96) (k := 108) (a := 0) (b := 108) (zby_w zwX8_lot_3 0 rfl) (zby_w zwX8_lot_3 1 rfl) (zby_w zwX8_lot_3 2 rfl) (by decide)) ?_
        refine zr_mmax C mw_X8_225 (by decide) (Nat.le_of_ble_eq_true rfl) (zo_184 (p := 99) (k := 225) (a := 0) (b := 225) (zby_w zwX8_lot_3 3 rfl) (zby_w zwX8_lot_3 4 rfl) (zby_w zwX8_lot_3 5 rfl) (by decide)) ?_
        refine zr_topi (fun x19 hx19 => ?_)
        replace h := h x19 hx19
        refine zr_istore C [(7, .int x19), (6, .int r17), (5, .int r14), (4, .ref (g.2.1 13)), (0, .ref (g.2.1 0)), (1, .int p1), (2, .int p2), (3, .int p3)] (zo_54 (p := 102) (k := 7) (a := 7) (zby_w zwX8_lot_3 6 rfl) (zby_w zwX8_lot_3 7 rfl) (by decide)) (by decide) rfl ?_
        refine zr_iload C (zo_21 (p := 104) (k := 7) (a := 7) (zby_w zwX8_lot_3 8 rfl) (zby_w zwX8_lot_3 9 rfl) (by decide)) rfl ?_
        refine zr_i2l C (zo_133 (p := 106) (zby_w zwX8_lot_3 10 rfl)) ?_
        refine zr_iload C (zo_21 (p := 107) (k := 5) (a := 5) (zby_w zwX8_lot_3 11 rfl) (zby_w zwX8_lot_3 12 rfl) (by decide)) rfl ?_
        refine zr_i2l C (zo_133 (p := 109) (zby_w zwX8_lot_3 13 rfl)) ?_
        refine zr_iload_n C (zo_29 (p := 110) (zby_w zwX8_lot_3 14 rfl)) rfl ?_
        refine zr_clp (zr_runS (As := [.long (x19.toInt64), .long (r14.toInt64), .int p3]) (rest := []) C sw_X8_246 (c_X8_partOf l g (x19.toInt64) (r14.toInt64) p3 σ _ h) (by decide) (by decide) rfl rfl (Nat.le_of_ble_eq_true rfl) (zo_184 (p := 111) (k := 246) (a := 0) (b := 246) (zby_w zwX8_lot_3 15 rfl) (zby_w zwX8_lot_3 16 rfl) (zby_w zwX8_lot_3 17 rfl) (by decide))) (fun r20 h => ?_)
        exact hret _ _ _ h (zo_173 (p := 114) (zby_w zwX8_lot_3 18 rfl))
      · rw [if_pos hc11] at h
        refine zr_ldc2 C (v := (-1000000000000000002 : Int64)) cl_X8_241 d_X8_lot_47 ?_
        exact hret _ _ _ h d_X8_lot_50
  · rw [if_pos hc3] at h
    refine zr_ldc2 C (v := (-1000000000000000001 : Int64)) cl_X8_239 (zo_20 (p := 18) (k := 239) (a := 0) (b := 239) (zby_w zwX8_lot_0 18 rfl) (zby_w zwX8_lot_0 19 rfl) (zby_w zwX8_lot_0 20 rfl) (by decide)) ?_
    exact hret _ _ _ h (zo_173 (p := 21) (zby_w zwX8_lot_0 21 rfl))
set_option maxRecDepth 20000 in
theorem c_X8_lot (l : Launch) (g : zG) (p1 : Int32) (p2 : Int32) (p3 : Int32) (σ : zST) (Post : Int64 → Prop) (h : wp_X8_lot p1 p2 p3 σ Post) : Met l yX8_lot (Cond.code yX8_lot cX8_lot 8 (some .long) :: zGW) (zRm 3 67) (va_Pc [.ref (g.2.1 0), .int p1, .int p2, .int p3] (zPP g σ)) (va_Ql (fun r u => Post r ∧ u = σ) (zBB g) (zA g)) 0 0 (zA g) :=
  zMet (by decide) (Nat.le_of_ble_eq_true rfl) (fun p e s m below meth c hr C => g_X8_lot C (fun v pc lv hp hd => zr_lret C hr ⟨hp, rfl⟩ hd) h)
def wp_X8_ways_L16 (v0 : Int32) (v1 : Int32) (σ : zST) (Post : Int64 → Prop) : Nat → Int64 → Int32 → Prop
  | 0, _, _ => False
  | N + 1, v2, v4 => (if v1 < v4 then Post v2 else ¬ (v4.toInt64) = 0 ∧ ∀ x5 : Int64, x5 = ((v2 * (((v0 - v1) + v4).toInt64)) / (v4.toInt64)) → wp_X8_ways_L16 v0 v1 σ Post N x5 (v4 + 1))

set_option maxRecDepth 100000 in
set_option maxHeartbeats 4000000 in
theorem g_X8_ways_L16 {p : Program} {l : Launch} {e : Env} {R : Room} {s : State} {m : MethodId} {args : Array Value} {below : List Frame} {meth : Method} {c : Code} {Q : State → Prop} {g : zG} {n1 n2 : Nat} (C : zCX p R s m args meth c g n1 n2 cX8_ways 5 RX8 0 0) {v0 : Int32} {v1 : Int32} {σ : zST}  {Post : Int64 → Prop} (hret : ∀ (v : Int64) (pc : Nat) (lv : List (Nat × Value)), Post v → decode cX8_ways pc = .ok (.lreturn, 1) → zGG p l e R s m args below meth c Q g n1 n2 5 pc lv [.long v] σ) : ∀ (N : Nat) (v2 : Int64) (v4 : Int32) , wp_X8_ways_L16 v0 v1 σ Post N v2 v4 → zGG p l e R s m args below meth c Q g n1 n2 5 16 [(0, .int v0), (1, .int v1), (2, .long v2), (4, .int v4)] [] σ := by
  intro N
  induction N with
  | zero =>
    intro v2 v4 h
    exact h.elim
  | succ N ih =>
    intro v2 v4 h
    rw [wp_X8_ways_L16] at h
    refine zr_iload C (zo_21 (p := 16) (k := 4) (a := 4) (zby_w zwX8_ways_0 16 rfl) (zby_w zwX8_ways_0 17 rfl) (by decide)) rfl ?_
    refine zr_iload_n C (zo_27 (p := 18) (zby_w zwX8_ways_0 18 rfl)) rfl ?_
    refine zr_icmp_gt C 42 (zo_163 (p := 19) (k := 23) (a := 0) (b := 23) (zby_w zwX8_ways_0 19 rfl) (zby_w zwX8_ways_0 20 rfl) (zby_w zwX8_ways_0 21 rfl) (by decide)) (by decide) (fun hc3 => ?_) (fun hc3 => ?_)
    · rw [if_pos hc3] at h
      refine zr_lload_n C (zo_32 (p := 42) (zby_w zwX8_ways_1 10 rfl)) rfl ?_
      exact hret _ _ _ h (zo_173 (p := 43) (zby_w zwX8_ways_1 11 rfl))
    · rw [if_neg hc3] at h
      refine zr_lload_n C (zo_32 (p := 22) (zby_w zwX8_ways_0 22 rfl)) rfl ?_
      refine zr_iload_n C (zo_26 (p := 23) (zby_w zwX8_ways_0 23 rfl)) rfl ?_
      refine zr_iload_n C (zo_27 (p := 24) (zby_w zwX8_ways_0 24 rfl)) rfl ?_
      refine zr_isub C (zo_100 (p := 25) (zby_w zwX8_ways_0 25 rfl)) ?_
      refine zr_iload C (zo_21 (p := 26) (k := 4) (a := 4) (zby_w zwX8_ways_0 26 rfl) (zby_w zwX8_ways_0 27 rfl) (by decide)) rfl ?_
      refine zr_iadd C (zo_96 (p := 28) (zby_w zwX8_ways_0 28 rfl)) ?_
      refine zr_i2l C (zo_133 (p := 29) (zby_w zwX8_ways_0 29 rfl)) ?_
      refine zr_lmul C (zo_105 (p := 30) (zby_w zwX8_ways_0 30 rfl)) ?_
      refine zr_iload C (zo_21 (p := 31) (k := 4) (a := 4) (zby_w zwX8_ways_0 31 rfl) (zby_w zwX8_ways_0 32 rfl) (by decide)) rfl ?_
      refine zr_i2l C (zo_133 (p := 33) (zby_w zwX8_ways_1 1 rfl)) ?_
      obtain ⟨ho4, h⟩ := h
      refine zr_ldiv C (zo_109 (p := 34) (zby_w zwX8_ways_1 2 rfl)) ho4 ?_
      refine zr_topl (fun x5 hx5 => ?_)
      replace h := h x5 hx5
      refine zr_lstore_n C [(2, .long x5), (0, .int v0), (1, .int v1), (4, .int v4)] (zo_65 (p := 35) (zby_w zwX8_ways_1 3 rfl)) (by decide) rfl ?_
      refine zr_iinc C (v4 + 1) [(4, .int (v4 + 1)), (2, .long x5), (0, .int v0), (1, .int v1)] d_X8_ways_36 rfl rfl (by decide) rfl ?_
      refine zr_goto C 16 (zo_167 (p := 39) (k := (-23)) (a := 255) (b := 233) (zby_w zwX8_ways_1 7 rfl) (zby_w zwX8_ways_1 8 rfl) (zby_w zwX8_ways_1 9 rfl) (by decide)) (by decide) ?_
      exact zr_pick [2, 3, 1, 0] rfl (ih x5 (v4 + 1) h)

def wp_X8_ways (p0 : Int32) (p1 : Int32) (σ : zST) (Post : Int64 → Prop) : Prop := (if p1 < (0) then Post (0 : Int64) else (if p1 ≤ p0 then ∃ M6 : Nat, wp_X8_ways_L16 p0 p1 σ Post M6 (1 : Int64) (1 : Int32) else Post (0 : Int64)))
set_option maxRecDepth 100000 in
set_option maxHeartbeats 4000000 in
theorem g_X8_ways {p : Program} {l : Launch} {e : Env} {R : Room} {s : State} {m : MethodId} {args : Array Value} {below : List Frame} {meth : Method} {c : Code} {Q : State → Prop} {g : zG} {n1 n2 : Nat} (C : zCX p R s m args meth c g n1 n2 cX8_ways 5 RX8 0 0) {p0 : Int32} {p1 : Int32} {σ : zST} {Post : Int64 → Prop} (hret : ∀ (v : Int64) (pc : Nat) (lv : List (Nat × Value)), Post v → decode cX8_ways pc = .ok (.lreturn, 1) → zGG p l e R s m args below meth c Q g n1 n2 5 pc lv [.long v] σ) (h : wp_X8_ways p0 p1 σ Post) : zGG p l e R s m args below meth c Q g n1 n2 5 0 [(0, .int p0), (1, .int p1)] [] σ := by
  unfold wp_X8_ways at h
  refine zr_iload_n C (zo_27 (p := 0) (zby_w zwX8_ways_0 0 rfl)) rfl ?_
  refine zr_if_lt C 9 (zo_155 (p := 1) (k := 8) (a := 0) (b := 8) (zby_w zwX8_ways_0 1 rfl) (zby_w zwX8_ways_0 2 rfl) (zby_w zwX8_ways_0 3 rfl) (by decide)) (by decide) (fun hc1 => ?_) (fun hc1 => ?_)
  · rw [if_pos hc1] at h
    refine zr_lconst C (0 : Int64) d_X8_ways_9 (by decide) ?_
    exact hret _ _ _ h d_X8_ways_10
  · rw [if_neg hc1] at h
    refine zr_iload_n C (zo_27 (p := 4) (zby_w zwX8_ways_0 4 rfl)) rfl ?_
    refine zr_iload_n C (zo_26 (p := 5) (zby_w zwX8_ways_0 5 rfl)) rfl ?_
    refine zr_icmp_le C 11 (zo_164 (p := 6) (k := 5) (a := 0) (b := 5) (zby_w zwX8_ways_0 6 rfl) (zby_w zwX8_ways_0 7 rfl) (zby_w zwX8_ways_0 8 rfl) (by decide)) (by decide) (fun hc2 => ?_) (fun hc2 => ?_)
    · rw [if_pos hc2] at h
      refine zr_lconst C (1 : Int64) (zo_10 (p := 11) (zby_w zwX8_ways_0 11 rfl)) (by decide) ?_
      refine zr_lstore_n C [(2, .long (1 : Int64)), (0, .int p0), (1, .int p1)] (zo_65 (p := 12) (zby_w zwX8_ways_0 12 rfl)) (by decide) rfl ?_
      refine zr_iconst C (1 : Int32) (zo_4 (p := 13) (zby_w zwX8_ways_0 13 rfl)) (by decide) ?_
      refine zr_istore C [(4, .int (1 : Int32)), (2, .long (1 : Int64)), (0, .int p0), (1, .int p1)] (zo_54 (p := 14) (k := 4) (a := 4) (zby_w zwX8_ways_0 14 rfl) (zby_w zwX8_ways_0 15 rfl) (by decide)) (by decide) rfl ?_
      obtain ⟨M6, h⟩ := h
      exact zr_pick [2, 3, 1, 0] rfl (g_X8_ways_L16 C hret M6 (1 : Int64) (1 : Int32) h)
    · rw [if_neg hc2] at h
      refine zr_lconst C (0 : Int64) d_X8_ways_9 (by decide) ?_
      exact hret _ _ _ h d_X8_ways_10
set_option maxRecDepth 20000 in
theorem c_X8_ways (l : Launch) (g : zG) (p0 : Int32) (p1 : Int32) (σ : zST) (Post : Int64 → Prop) (h : wp_X8_ways p0 p1 σ Post) : Met l yX8_ways (Cond.code yX8_ways cX8_ways 5 (some .long) :: zGW) (zRm 0 0) (va_Pc [.int p0, .int p1] (zPP g σ)) (va_Ql (fun r u => Post r ∧ u = σ) (zBB g) (zA g)) 0 0 (zA g) :=
  zMet (by decide) (Nat.le_of_ble_eq_true rfl) (fun p e s m below meth c hr C => g_X8_ways C (fun v pc lv hp hd => zr_lret C hr ⟨hp, rfl⟩ hd) h)
def wp_X8_power_L5 (v0 : Int32) (v1 : Int32) (σ : zST) (Post : Int64 → Prop) : Nat → Int64 → Int32 → Prop
  | 0, _, _ => False
  | N + 1, v2, v4 => (if v1 ≤ v4 then Post v2 else ∀ x2 : Int64, x2 = (v2 * (v0.toInt64)) → wp_X8_power_L5 v0 v1 σ Post N x2 (v4 + 1))

set_option maxRecDepth 100000 in
set_option maxHeartbeats 4000000 in
theorem g_X8_power_L5 {p : Program} {l : Launch} {e : Env} {R : Room} {s : State} {m : MethodId} {args : Array Value} {below : List Frame} {meth : Method} {c : Code} {Q : State → Prop} {g : zG} {n1 n2 : Nat} (C : zCX p R s m args meth c g n1 n2 cX8_power 5 RX8 0 0) {v0 : Int32} {v1 : Int32} {σ : zST}  {Post : Int64 → Prop} (hret : ∀ (v : Int64) (pc : Nat) (lv : List (Nat × Value)), Post v → decode cX8_power pc = .ok (.lreturn, 1) → zGG p l e R s m args below meth c Q g n1 n2 5 pc lv [.long v] σ) : ∀ (N : Nat) (v2 : Int64) (v4 : Int32) , wp_X8_power_L5 v0 v1 σ Post N v2 v4 → zGG p l e R s m args below meth c Q g n1 n2 5 5 [(0, .int v0), (1, .int v1), (2, .long v2), (4, .int v4)] [] σ := by
  intro N
  induction N with
  | zero =>
    intro v2 v4 h
    exact h.elim
  | succ N ih =>
    intro v2 v4 h
    rw [wp_X8_power_L5] at h
    refine zr_iload C (zo_21 (p := 5) (k := 4) (a := 4) (zby_w zwX8_power_0 5 rfl) (zby_w zwX8_power_0 6 rfl) (by decide)) rfl ?_
    refine zr_iload_n C (zo_27 (p := 7) (zby_w zwX8_power_0 7 rfl)) rfl ?_
    refine zr_icmp_ge C 22 (zo_162 (p := 8) (k := 14) (a := 0) (b := 14) (zby_w zwX8_power_0 8 rfl) (zby_w zwX8_power_0 9 rfl) (zby_w zwX8_power_0 10 rfl) (by decide)) (by decide) (fun hc1 => ?_) (fun hc1 => ?_)
    · rw [if_pos hc1] at h
      refine zr_lload_n C (zo_32 (p := 22) (zby_w zwX8_power_0 22 rfl)) rfl ?_
      exact hret _ _ _ h (zo_173 (p := 23) (zby_w zwX8_power_0 23 rfl))
    · rw [if_neg hc1] at h
      refine zr_lload_n C (zo_32 (p := 11) (zby_w zwX8_power_0 11 rfl)) rfl ?_
      refine zr_iload_n C (zo_26 (p := 12) (zby_w zwX8_power_0 12 rfl)) rfl ?_
      refine zr_i2l C (zo_133 (p := 13) (zby_w zwX8_power_0 13 rfl)) ?_
      refine zr_lmul C (zo_105 (p := 14) (zby_w zwX8_power_0 14 rfl)) ?_
      refine zr_topl (fun x2 hx2 => ?_)
      replace h := h x2 hx2
      refine zr_lstore_n C [(2, .long x2), (0, .int v0), (1, .int v1), (4, .int v4)] (zo_65 (p := 15) (zby_w zwX8_power_0 15 rfl)) (by decide) rfl ?_
      refine zr_iinc C (v4 + 1) [(4, .int (v4 + 1)), (2, .long x2), (0, .int v0), (1, .int v1)] d_X8_power_16 rfl rfl (by decide) rfl ?_
      refine zr_goto C 5 (zo_167 (p := 19) (k := (-14)) (a := 255) (b := 242) (zby_w zwX8_power_0 19 rfl) (zby_w zwX8_power_0 20 rfl) (zby_w zwX8_power_0 21 rfl) (by decide)) (by decide) ?_
      exact zr_pick [2, 3, 1, 0] rfl (ih x2 (v4 + 1) h)

def wp_X8_power (p0 : Int32) (p1 : Int32) (σ : zST) (Post : Int64 → Prop) : Prop := ∃ M3 : Nat, wp_X8_power_L5 p0 p1 σ Post M3 (1 : Int64) (0 : Int32)
set_option maxRecDepth 100000 in
set_option maxHeartbeats 4000000 in
theorem g_X8_power {p : Program} {l : Launch} {e : Env} {R : Room} {s : State} {m : MethodId} {args : Array Value} {below : List Frame} {meth : Method} {c : Code} {Q : State → Prop} {g : zG} {n1 n2 : Nat} (C : zCX p R s m args meth c g n1 n2 cX8_power 5 RX8 0 0) {p0 : Int32} {p1 : Int32} {σ : zST} {Post : Int64 → Prop} (hret : ∀ (v : Int64) (pc : Nat) (lv : List (Nat × Value)), Post v → decode cX8_power pc = .ok (.lreturn, 1) → zGG p l e R s m args below meth c Q g n1 n2 5 pc lv [.long v] σ) (h : wp_X8_power p0 p1 σ Post) : zGG p l e R s m args below meth c Q g n1 n2 5 0 [(0, .int p0), (1, .int p1)] [] σ := by
  unfold wp_X8_power at h
  refine zr_lconst C (1 : Int64) (zo_10 (p := 0) (zby_w zwX8_power_0 0 rfl)) (by decide) ?_
  refine zr_lstore_n C [(2, .long (1 : Int64)), (0, .int p0), (1, .int p1)] (zo_65 (p := 1) (zby_w zwX8_power_0 1 rfl)) (by decide) rfl ?_
  refine zr_iconst C (0 : Int32) (zo_3 (p := 2) (zby_w zwX8_power_0 2 rfl)) (by decide) ?_
  refine zr_istore C [(4, .int (0 : Int32)), (2, .long (1 : Int64)), (0, .int p0), (1, .int p1)] (zo_54 (p := 3) (k := 4) (a := 4) (zby_w zwX8_power_0 3 rfl) (zby_w zwX8_power_0 4 rfl) (by decide)) (by decide) rfl ?_
  obtain ⟨M3, h⟩ := h
  exact zr_pick [2, 3, 1, 0] rfl (g_X8_power_L5 C hret M3 (1 : Int64) (0 : Int32) h)
set_option maxRecDepth 20000 in
theorem c_X8_power (l : Launch) (g : zG) (p0 : Int32) (p1 : Int32) (σ : zST) (Post : Int64 → Prop) (h : wp_X8_power p0 p1 σ Post) : Met l yX8_power (Cond.code yX8_power cX8_power 5 (some .long) :: zGW) (zRm 0 0) (va_Pc [.int p0, .int p1] (zPP g σ)) (va_Ql (fun r u => Post r ∧ u = σ) (zBB g) (zA g)) 0 0 (zA g) :=
  zMet (by decide) (Nat.le_of_ble_eq_true rfl) (fun p e s m below meth c hr C => g_X8_power C (fun v pc lv hp hd => zr_lret C hr ⟨hp, rfl⟩ hd) h)
def wp_X8_often_J102 (v1 : Int32) (v3 : Int32) (v5 : Int32) (v6 : Int64) (σ : zST) (Post : Int64 → Prop) : Prop := wp_X8_power v1 v3 σ (fun r17 => wp_X8_partOf v6 r17 v5 σ (fun r19 => Post r19))

set_option maxRecDepth 100000 in
set_option maxHeartbeats 4000000 in
theorem g_X8_often_J102 {p : Program} {l : Launch} {e : Env} {R : Room} {s : State} {m : MethodId} {args : Array Value} {below : List Frame} {meth : Method} {c : Code} {Q : State → Prop} {g : zG} {n1 n2 : Nat} (C : zCX p R s m args meth c g n1 n2 cX8_often 9 RX8 2 56) {v1 : Int32} {v3 : Int32} {v5 : Int32} {v6 : Int64} {σ : zST}  {Post : Int64 → Prop} (hret : ∀ (v : Int64) (pc : Nat) (lv : List (Nat × Value)), Post v → decode cX8_often pc = .ok (.lreturn, 1) → zGG p l e R s m args below meth c Q g n1 n2 9 pc lv [.long v] σ) (h : wp_X8_often_J102 v1 v3 v5 v6 σ Post) : zGG p l e R s m args below meth c Q g n1 n2 9 102 [(1, .int v1), (3, .int v3), (5, .int v5), (6, .long v6)] [] σ := by
  unfold wp_X8_often_J102 at h
  refine zr_lload C (zo_22 (p := 102) (k := 6) (a := 6) (zby_w zwX8_often_3 6 rfl) (zby_w zwX8_often_3 7 rfl) (by decide)) rfl ?_
  refine zr_iload_n C (zo_27 (p := 104) (zby_w zwX8_often_3 8 rfl)) rfl ?_
  refine zr_iload_n C (zo_29 (p := 105) (zby_w zwX8_often_3 9 rfl)) rfl ?_
  refine zr_clp (zr_runS (As := [.int v1, .int v3]) (rest := [.long v6]) C sw_X8_254 (c_X8_power l g v1 v3 σ _ h) (by decide) (by decide) rfl rfl (Nat.le_of_ble_eq_true rfl) (zo_184 (p := 106) (k := 254) (a := 0) (b := 254) (zby_w zwX8_often_3 10 rfl) (zby_w zwX8_often_3 11 rfl) (zby_w zwX8_often_3 12 rfl) (by decide))) (fun r17 h => ?_)
  refine zr_iload C (zo_21 (p := 109) (k := 5) (a := 5) (zby_w zwX8_often_3 13 rfl) (zby_w zwX8_often_3 14 rfl) (by decide)) rfl ?_
  refine zr_clp (zr_runS (As := [.long v6, .long r17, .int v5]) (rest := []) C sw_X8_246 (c_X8_partOf l g v6 r17 v5 σ _ h) (by decide) (by decide) rfl rfl (Nat.le_of_ble_eq_true rfl) (zo_184 (p := 111) (k := 246) (a := 0) (b := 246) (zby_w zwX8_often_3 15 rfl) (zby_w zwX8_often_3 16 rfl) (zby_w zwX8_often_3 17 rfl) (by decide))) (fun r19 h => ?_)
  exact hret _ _ _ h (zo_173 (p := 114) (zby_w zwX8_often_3 18 rfl))

def wp_X8_often_L61 (v1 : Int32) (v2 : Int32) (v3 : Int32) (v5 : Int32) (σ : zST) (Post : Int64 → Prop) : Nat → Int64 → Int32 → Prop
  | 0, _, _ => False
  | N + 1, v6, v8 => (if v3 < v8 then wp_X8_often_J102 v1 v3 v5 v6 σ Post else wp_X8_ways v3 v8 σ (fun r21 => wp_X8_power v2 v8 σ (fun r23 => wp_X8_power (v1 - v2) (v3 - v8) σ (fun r25 => ∀ x27 : Int64, x27 = (v6 + ((r21 * r23) * r25)) → wp_X8_often_L61 v1 v2 v3 v5 σ Post N x27 (v8 + 1)))))

set_option maxRecDepth 100000 in
set_option maxHeartbeats 4000000 in
theorem g_X8_often_L61 {p : Program} {l : Launch} {e : Env} {R : Room} {s : State} {m : MethodId} {args : Array Value} {below : List Frame} {meth : Method} {c : Code} {Q : State → Prop} {g : zG} {n1 n2 : Nat} (C : zCX p R s m args meth c g n1 n2 cX8_often 9 RX8 2 56) {v1 : Int32} {v2 : Int32} {v3 : Int32} {v5 : Int32} {σ : zST}  {Post : Int64 → Prop} (hret : ∀ (v : Int64) (pc : Nat) (lv : List (Nat × Value)), Post v → decode cX8_often pc = .ok (.lreturn, 1) → zGG p l e R s m args below meth c Q g n1 n2 9 pc lv [.long v] σ) : ∀ (N : Nat) (v6 : Int64) (v8 : Int32) , wp_X8_often_L61 v1 v2 v3 v5 σ Post N v6 v8 → zGG p l e R s m args below meth c Q g n1 n2 9 61 [(1, .int v1), (2, .int v2), (3, .int v3), (5, .int v5), (6, .long v6), (8, .int v8)] [] σ := by
  intro N
  induction N with
  | zero =>
    intro v6 v8 h
    exact h.elim
  | succ N ih =>
    intro v6 v8 h
    rw [wp_X8_often_L61] at h
    refine zr_iload C (zo_21 (p := 61) (k := 8) (a := 8) (zby_w zwX8_often_1 29 rfl) (zby_w zwX8_often_1 30 rfl) (by decide)) rfl ?_
    refine zr_iload_n C (zo_29 (p := 63) (zby_w zwX8_often_1 31 rfl)) rfl ?_
    refine zr_icmp_gt C 102 (zo_163 (p := 64) (k := 38) (a := 0) (b := 38) (zby_w zwX8_often_2 0 rfl) (zby_w zwX8_often_2 1 rfl) (zby_w zwX8_often_2 2 rfl) (by decide)) (by decide) (fun hc16 => ?_) (fun hc16 => ?_)
    · rw [if_pos hc16] at h
      exact zr_pick [0, 2, 3, 4] rfl (g_X8_often_J102 C hret h)
    · rw [if_neg hc16] at h
      refine zr_lload C (zo_22 (p := 67) (k := 6) (a := 6) (zby_w zwX8_often_2 3 rfl) (zby_w zwX8_often_2 4 rfl) (by decide)) rfl ?_
      refine zr_iload_n C (zo_29 (p := 69) (zby_w zwX8_often_2 5 rfl)) rfl ?_
      refine zr_iload C (zo_21 (p := 70) (k := 8) (a := 8) (zby_w zwX8_often_2 6 rfl) (zby_w zwX8_often_2 7 rfl) (by decide)) rfl ?_
      refine zr_clp (zr_runS (As := [.int v3, .int v8]) (rest := [.long v6]) C sw_X8_250 (c_X8_ways l g v3 v8 σ _ h) (by decide) (by decide) rfl rfl (Nat.le_of_ble_eq_true rfl) (zo_184 (p := 72) (k := 250) (a := 0) (b := 250) (zby_w zwX8_often_2 8 rfl) (zby_w zwX8_often_2 9 rfl) (zby_w zwX8_often_2 10 rfl) (by decide))) (fun r21 h => ?_)
      refine zr_iload_n C (zo_28 (p := 75) (zby_w zwX8_often_2 11 rfl)) rfl ?_
      refine zr_iload C (zo_21 (p := 76) (k := 8) (a := 8) (zby_w zwX8_often_2 12 rfl) (zby_w zwX8_often_2 13 rfl) (by decide)) rfl ?_
      refine zr_clp (zr_runS (As := [.int v2, .int v8]) (rest := [.long r21, .long v6]) C sw_X8_254 (c_X8_power l g v2 v8 σ _ h) (by decide) (by decide) rfl rfl (Nat.le_of_ble_eq_true rfl) (zo_184 (p := 78) (k := 254) (a := 0) (b := 254) (zby_w zwX8_often_2 14 rfl) (zby_w zwX8_often_2 15 rfl) (zby_w zwX8_often_2 16 rfl) (by decide))) (fun r23 h => ?_)
      refine zr_lmul C (zo_105 (p := 81) (zby_w zwX8_often_2 17 rfl)) ?_
      refine zr_iload_n C (zo_27 (p := 82) (zby_w zwX8_often_2 18 rfl)) rfl ?_
      refine zr_iload_n C (zo_28 (p := 83) (zby_w zwX8_often_2 19 rfl)) rfl ?_
      refine zr_isub C (zo_100 (p := 84) (zby_w zwX8_often_2 20 rfl)) ?_
      refine zr_iload_n C (zo_29 (p := 85) (zby_w zwX8_often_2 21 rfl)) rfl ?_
      refine zr_iload C (zo_21 (p := 86) (k := 8) (a := 8) (zby_w zwX8_often_2 22 rfl) (zby_w zwX8_often_2 23 rfl) (by decide)) rfl ?_
      refine zr_isub C (zo_100 (p := 88) (zby_w zwX8_often_2 24 rfl)) ?_
      refine zr_clp (zr_runS (As := [.int (v1 - v2), .int (v3 - v8)]) (rest := [.long (r21 * r23), .long v6]) C sw_X8_254 (c_X8_power l g (v1 - v2) (v3 - v8) σ _ h) (by decide) (by decide) rfl rfl (Nat.le_of_ble_eq_true rfl) (zo_184 (p := 89) (k := 254) (a := 0) (b := 254) (zby_w zwX8_often_2 25 rfl) (zby_w zwX8_often_2 26 rfl) (zby_w zwX8_often_2 27 rfl) (by decide))) (fun r25 h => ?_)
      refine zr_lmul C (zo_105 (p := 92) (zby_w zwX8_often_2 28 rfl)) ?_
      refine zr_ladd C (zo_97 (p := 93) (zby_w zwX8_often_2 29 rfl)) ?_
      refine zr_topl (fun x27 hx27 => ?_)
      replace h := h x27 hx27
      refine zr_lstore C [(6, .long x27), (1, .int v1), (2, .int v2), (3, .int v3), (5, .int v5), (8, .int v8)] (zo_55 (p := 94) (k := 6) (a := 6) (zby_w zwX8_often_2 30 rfl) (zby_w zwX8_often_2 31 rfl) (by decide)) (by decide) rfl ?_
      refine zr_iinc C (v8 + 1) [(8, .int (v8 + 1)), (6, .long x27), (1, .int v1), (2, .int v2), (3, .int v3), (5, .int v5)] d_X8_often_96 rfl rfl (by decide) rfl ?_
      refine zr_goto C 61 (zo_167 (p := 99) (k := (-38)) (a := 255) (b := 218) (zby_w zwX8_often_3 3 rfl) (zby_w zwX8_often_3 4 rfl) (zby_w zwX8_often_3 5 rfl) (by decide)) (by decide) ?_
      exact zr_pick [2, 3, 4, 5, 1, 0] rfl (ih x27 (v8 + 1) h)

def wp_X8_often (p1 : Int32) (p2 : Int32) (p3 : Int32) (p4 : Int32) (p5 : Int32) (σ : zST) (Post : Int64 → Prop) : Prop := wp_X8_within p1 (1 : Int32) (8 : Int32) σ (fun r1 => (if r1 = (0) then Post (-1000000000000000002 : Int64) else wp_X8_within p2 (0 : Int32) p1 σ (fun r4 => (if r4 = (0) then Post (-1000000000000000002 : Int64) else wp_X8_within p3 (1 : Int32) (8 : Int32) σ (fun r7 => (if r7 = (0) then Post (-1000000000000000002 : Int64) else wp_X8_within p4 (0 : Int32) (8 : Int32) σ (fun r10 => (if r10 = (0) then Post (-1000000000000000002 : Int64) else wp_X8_within p5 (0 : Int32) (1 : Int32) σ (fun r13 => (if r13 = (0) then Post (-1000000000000000002 : Int64) else ∃ M28 : Nat, wp_X8_often_L61 p1 p2 p3 p5 σ Post M28 (0 : Int64) p4))))))))))
set_option maxRecDepth 100000 in
set_option maxHeartbeats 4000000 in
theorem g_X8_often {p : Program} {l : Launch} {e : Env} {R : Room} {s : State} {m : MethodId} {args : Array Value} {below : List Frame} {meth : Method} {c : Code} {Q : State → Prop} {g : zG} {n1 n2 : Nat} (C : zCX p R s m args meth c g n1 n2 cX8_often 9 RX8 2 56) {p1 : Int32} {p2 : Int32} {p3 : Int32} {p4 : Int32} {p5 : Int32} {σ : zST} {Post : Int64 → Prop} (hret : ∀ (v : Int64) (pc : Nat) (lv : List (Nat × Value)), Post v → decode cX8_often pc = .ok (.lreturn, 1) → zGG p l e R s m args below meth c Q g n1 n2 9 pc lv [.long v] σ) (h : wp_X8_often p1 p2 p3 p4 p5 σ Post) : zGG p l e R s m args below meth c Q g n1 n2 9 0 [(0, .ref (g.2.1 0)), (1, .int p1), (2, .int p2), (3, .int p3), (4, .int p4), (5, .int p5)] [] σ := by
  unfold wp_X8_often at h
  refine zr_iload_n C (zo_27 (p := 0) (zby_w zwX8_often_0 0 rfl)) rfl ?_
  refine zr_iconst C (1 : Int32) (zo_4 (p := 1) (zby_w zwX8_often_0 1 rfl)) (by decide) ?_
  refine zr_bipush C (8 : Int32) (zo_16 (p := 2) (k := 8) (a := 8) (zby_w zwX8_often_0 2 rfl) (zby_w zwX8_often_0 3 rfl) (by decide)) (by decide) ?_
  refine zr_cip (zr_runS (As := [.int p1, .int (1 : Int32), .int (8 : Int32)]) (rest := []) C sw_X8_47 (c_X8_within l g p1 (1 : Int32) (8 : Int32) σ _ h) (by decide) (by decide) rfl rfl (Nat.le_of_ble_eq_true rfl) (zo_184 (p := 4) (k := 47) (a := 0) (b := 47) (zby_w zwX8_often_0 4 rfl) (zby_w zwX8_often_0 5 rfl) (zby_w zwX8_often_0 6 rfl) (by decide))) (fun r1 h => ?_)
  refine zr_if_eq C 50 (zo_153 (p := 7) (k := 43) (a := 0) (b := 43) (zby_w zwX8_often_0 7 rfl) (zby_w zwX8_often_0 8 rfl) (zby_w zwX8_often_0 9 rfl) (by decide)) (by decide) (fun hc3 => ?_) (fun hc3 => ?_)
  · rw [if_pos hc3] at h
    refine zr_ldc2 C (v := (-1000000000000000002 : Int64)) cl_X8_241 d_X8_often_50 ?_
    exact hret _ _ _ h d_X8_often_53
  · rw [if_neg hc3] at h
    refine zr_iload_n C (zo_28 (p := 10) (zby_w zwX8_often_0 10 rfl)) rfl ?_
    refine zr_iconst C (0 : Int32) (zo_3 (p := 11) (zby_w zwX8_often_0 11 rfl)) (by decide) ?_
    refine zr_iload_n C (zo_27 (p := 12) (zby_w zwX8_often_0 12 rfl)) rfl ?_
    refine zr_cip (zr_runS (As := [.int p2, .int (0 : Int32), .int p1]) (rest := []) C sw_X8_47 (c_X8_within l g p2 (0 : Int32) p1 σ _ h) (by decide) (by decide) rfl rfl (Nat.le_of_ble_eq_true rfl) (zo_184 (p := 13) (k := 47) (a := 0) (b := 47) (zby_w zwX8_often_0 13 rfl) (zby_w zwX8_often_0 14 rfl) (zby_w zwX8_often_0 15 rfl) (by decide))) (fun r4 h => ?_)
    refine zr_if_eq C 50 (zo_153 (p := 16) (k := 34) (a := 0) (b := 34) (zby_w zwX8_often_0 16 rfl) (zby_w zwX8_often_0 17 rfl) (zby_w zwX8_often_0 18 rfl) (by decide)) (by decide) (fun hc6 => ?_) (fun hc6 => ?_)
    · rw [if_pos hc6] at h
      refine zr_ldc2 C (v := (-1000000000000000002 : Int64)) cl_X8_241 d_X8_often_50 ?_
      exact hret _ _ _ h d_X8_often_53
    · rw [if_neg hc6] at h
      refine zr_iload_n C (zo_29 (p := 19) (zby_w zwX8_often_0 19 rfl)) rfl ?_
      refine zr_iconst C (1 : Int32) (zo_4 (p := 20) (zby_w zwX8_often_0 20 rfl)) (by decide) ?_
      refine zr_bipush C (8 : Int32) (zo_16 (p := 21) (k := 8) (a := 8) (zby_w zwX8_often_0 21 rfl) (zby_w zwX8_often_0 22 rfl) (by decide)) (by decide) ?_
      refine zr_cip (zr_runS (As := [.int p3, .int (1 : Int32), .int (8 : Int32)]) (rest := []) C sw_X8_47 (c_X8_within l g p3 (1 : Int32) (8 : Int32) σ _ h) (by decide) (by decide) rfl rfl (Nat.le_of_ble_eq_true rfl) (zo_184 (p := 23) (k := 47) (a := 0) (b := 47) (zby_w zwX8_often_0 23 rfl) (zby_w zwX8_often_0 24 rfl) (zby_w zwX8_often_0 25 rfl) (by decide))) (fun r7 h => ?_)
      refine zr_if_eq C 50 (zo_153 (p := 26) (k := 24) (a := 0) (b := 24) (zby_w zwX8_often_0 26 rfl) (zby_w zwX8_often_0 27 rfl) (zby_w zwX8_often_0 28 rfl) (by decide)) (by decide) (fun hc9 => ?_) (fun hc9 => ?_)
      · rw [if_pos hc9] at h
        refine zr_ldc2 C (v := (-1000000000000000002 : Int64)) cl_X8_241 d_X8_often_50 ?_
        exact hret _ _ _ h d_X8_often_53
      · rw [if_neg hc9] at h
        refine zr_iload C (zo_21 (p := 29) (k := 4) (a := 4) (zby_w zwX8_often_0 29 rfl) (zby_w zwX8_often_0 30 rfl) (by decide)) rfl ?_
        refine zr_iconst C (0 : Int32) (zo_3 (p := 31) (zby_w zwX8_often_0 31 rfl)) (by decide) ?_
        refine zr_bipush C (8 : Int32) (zo_16 (p := 32) (k := 8) (a := 8) (zby_w zwX8_often_1 0 rfl) (zby_w zwX8_often_1 1 rfl) (by decide)) (by decide) ?_
        refine zr_cip (zr_runS (As := [.int p4, .int (0 : Int32), .int (8 : Int32)]) (rest := []) C sw_X8_47 (c_X8_within l g p4 (0 : Int32) (8 : Int32) σ _ h) (by decide) (by decide) rfl rfl (Nat.le_of_ble_eq_true rfl) (zo_184 (p := 34) (k := 47) (a := 0) (b := 47) (zby_w zwX8_often_1 2 rfl) (zby_w zwX8_often_1 3 rfl) (zby_w zwX8_often_1 4 rfl) (by decide))) (fun r10 h => ?_)
        refine zr_if_eq C 50 (zo_153 (p := 37) (k := 13) (a := 0) (b := 13) (zby_w zwX8_often_1 5 rfl) (zby_w zwX8_often_1 6 rfl) (zby_w zwX8_often_1 7 rfl) (by decide)) (by decide) (fun hc12 => ?_) (fun hc12 => ?_)
        · rw [if_pos hc12] at h
          refine zr_ldc2 C (v := (-1000000000000000002 : Int64)) cl_X8_241 d_X8_often_50 ?_
          exact hret _ _ _ h d_X8_often_53
        · rw [if_neg hc12] at h
          refine zr_iload C (zo_21 (p := 40) (k := 5) (a := 5) (zby_w zwX8_often_1 8 rfl) (zby_w zwX8_often_1 9 rfl) (by decide)) rfl ?_
          refine zr_iconst C (0 : Int32) (zo_3 (p := 42) (zby_w zwX8_often_1 10 rfl)) (by decide) ?_
          refine zr_iconst C (1 : Int32) (zo_4 (p := 43) (zby_w zwX8_often_1 11 rfl)) (by decide) ?_
          refine zr_cip (zr_runS (As := [.int p5, .int (0 : Int32), .int (1 : Int32)]) (rest := []) C sw_X8_47 (c_X8_within l g p5 (0 : Int32) (1 : Int32) σ _ h) (by decide) (by decide) rfl rfl (Nat.le_of_ble_eq_true rfl) (zo_184 (p := 44) (k := 47) (a := 0) (b := 47) (zby_w zwX8_often_1 12 rfl) (zby_w zwX8_often_1 13 rfl) (zby_w zwX8_often_1 14 rfl) (by decide))) (fun r13 h => ?_)
          refine zr_if_ne C 54 (zo_154 (p := 47) (k := 7) (a := 0) (b := 7) (zby_w zwX8_often_1 15 rfl) (zby_w zwX8_often_1 16 rfl) (zby_w zwX8_often_1 17 rfl) (by decide)) (by decide) (fun hc15 => ?_) (fun hc15 => ?_)
          · rw [if_neg hc15] at h
            refine zr_lconst C (0 : Int64) (zo_9 (p := 54) (zby_w zwX8_often_1 22 rfl)) (by decide) ?_
            refine zr_lstore C [(6, .long (0 : Int64)), (0, .ref (g.2.1 0)), (1, .int p1), (2, .int p2), (3, .int p3), (4, .int p4), (5, .int p5)] (zo_55 (p := 55) (k := 6) (a := 6) (zby_w zwX8_often_1 23 rfl) (zby_w zwX8_often_1 24 rfl) (by decide)) (by decide) rfl ?_
            refine zr_iload C (zo_21 (p := 57) (k := 4) (a := 4) (zby_w zwX8_often_1 25 rfl) (zby_w zwX8_often_1 26 rfl) (by decide)) rfl ?_
            refine zr_istore C [(8, .int p4), (6, .long (0 : Int64)), (0, .ref (g.2.1 0)), (1, .int p1), (2, .int p2), (3, .int p3), (4, .int p4), (5, .int p5)] (zo_54 (p := 59) (k := 8) (a := 8) (zby_w zwX8_often_1 27 rfl) (zby_w zwX8_often_1 28 rfl) (by decide)) (by decide) rfl ?_
            obtain ⟨M28, h⟩ := h
            exact zr_pick [3, 4, 5, 7, 1, 0] rfl (g_X8_often_L61 C hret M28 (0 : Int64) p4 h)
          · rw [if_pos hc15] at h
            refine zr_ldc2 C (v := (-1000000000000000002 : Int64)) cl_X8_241 d_X8_often_50 ?_
            exact hret _ _ _ h d_X8_often_53
set_option maxRecDepth 20000 in
theorem c_X8_often (l : Launch) (g : zG) (p1 : Int32) (p2 : Int32) (p3 : Int32) (p4 : Int32) (p5 : Int32) (σ : zST) (Post : Int64 → Prop) (h : wp_X8_often p1 p2 p3 p4 p5 σ Post) : Met l yX8_often (Cond.code yX8_often cX8_often 9 (some .long) :: zGW) (zRm 2 56) (va_Pc [.ref (g.2.1 0), .int p1, .int p2, .int p3, .int p4, .int p5] (zPP g σ)) (va_Ql (fun r u => Post r ∧ u = σ) (zBB g) (zA g)) 0 0 (zA g) :=
  zMet (by decide) (Nat.le_of_ble_eq_true rfl) (fun p e s m below meth c hr C => g_X8_often C (fun v pc lv hp hd => zr_lret C hr ⟨hp, rfl⟩ hd) h)
def wp_X8_roll (p1 : Int32) (p2 : Int32) (σ : zST) (Post : Int32 → zST → Prop) : Prop := wp_X8_within p1 (0 : Int32) (255 : Int32) σ (fun r1 => (if r1 = (0) then Post (-2 : Int32) σ else wp_J6_bitCount_0f7a4 p1 σ (fun r4 => wp_X8_within p2 r4 (8 : Int32) σ (fun r6 => (if r6 = (0) then Post (-2 : Int32) σ else (if (σ.1 15 0) < (6 : Int32) then vp_in (σ.1 15 0) 6 ∧ ∀ σ11 : zST, σ11 = (wI σ 16 (σ.1 15 0).toNatClampNeg p1) → wp_J6_bitCount_0f7a4 p1 σ11 (fun r12 => vp_in (σ11.1 15 0) 6 ∧ ∀ σ15 : zST, σ15 = (wI σ11 17 (σ11.1 15 0).toNatClampNeg (p2 - r12)) → ∀ σ16 : zST, σ16 = (wI σ15 15 0 ((σ15.1 15 0) + (1 : Int32))) → Post (σ16.1 15 0) σ16) else Post (-4 : Int32) σ))))))
set_option maxRecDepth 100000 in
set_option maxHeartbeats 4000000 in
theorem g_X8_roll {p : Program} {l : Launch} {e : Env} {R : Room} {s : State} {m : MethodId} {args : Array Value} {below : List Frame} {meth : Method} {c : Code} {Q : State → Prop} {g : zG} {n1 n2 : Nat} (C : zCX p R s m args meth c g n1 n2 cX8_roll 4 RX8 1 22) {p1 : Int32} {p2 : Int32} {σ : zST} {Post : Int32 → zST → Prop} (hret : ∀ (v : Int32) (σ : zST) (pc : Nat) (lv : List (Nat × Value)), Post v σ → decode cX8_roll pc = .ok (.ireturn, 1) → zGG p l e R s m args below meth c Q g n1 n2 4 pc lv [.int v] σ) (h : wp_X8_roll p1 p2 σ Post) : zGG p l e R s m args below meth c Q g n1 n2 4 0 [(0, .ref (g.2.1 0)), (1, .int p1), (2, .int p2)] [] σ := by
  unfold wp_X8_roll at h
  refine zr_iload_n C (zo_27 (p := 0) (zby_w zwX8_roll_0 0 rfl)) rfl ?_
  refine zr_iconst C (0 : Int32) (zo_3 (p := 1) (zby_w zwX8_roll_0 1 rfl)) (by decide) ?_
  refine zr_sipush C (255 : Int32) (zo_17 (p := 2) (k := 255) (a := 0) (b := 255) (zby_w zwX8_roll_0 2 rfl) (zby_w zwX8_roll_0 3 rfl) (zby_w zwX8_roll_0 4 rfl) (by decide)) (by decide) ?_
  refine zr_cip (zr_runS (As := [.int p1, .int (0 : Int32), .int (255 : Int32)]) (rest := []) C sw_X8_47 (c_X8_within l g p1 (0 : Int32) (255 : Int32) σ _ h) (by decide) (by decide) rfl rfl (Nat.le_of_ble_eq_true rfl) (zo_184 (p := 5) (k := 47) (a := 0) (b := 47) (zby_w zwX8_roll_0 5 rfl) (zby_w zwX8_roll_0 6 rfl) (zby_w zwX8_roll_0 7 rfl) (by decide))) (fun r1 h => ?_)
  refine zr_if_eq C 24 (zo_153 (p := 8) (k := 16) (a := 0) (b := 16) (zby_w zwX8_roll_0 8 rfl) (zby_w zwX8_roll_0 9 rfl) (zby_w zwX8_roll_0 10 rfl) (by decide)) (by decide) (fun hc3 => ?_) (fun hc3 => ?_)
  · rw [if_pos hc3] at h
    refine zr_bipush C (-2 : Int32) d_X8_roll_24 (by decide) ?_
    exact hret _ _ _ _ h d_X8_roll_26
  · rw [if_neg hc3] at h
    refine zr_iload_n C (zo_28 (p := 11) (zby_w zwX8_roll_0 11 rfl)) rfl ?_
    refine zr_iload_n C (zo_27 (p := 12) (zby_w zwX8_roll_0 12 rfl)) rfl ?_
    refine zr_cip (zr_runS (As := [.int p1]) (rest := [.int p2]) C sw_X8_73 (c_J6_bitCount_0f7a4 l g p1 σ _ h) (by decide) (by decide) rfl rfl (Nat.le_of_ble_eq_true rfl) (zo_184 (p := 13) (k := 73) (a := 0) (b := 73) (zby_w zwX8_roll_0 13 rfl) (zby_w zwX8_roll_0 14 rfl) (zby_w zwX8_roll_0 15 rfl) (by decide))) (fun r4 h => ?_)
    refine zr_bipush C (8 : Int32) (zo_16 (p := 16) (k := 8) (a := 8) (zby_w zwX8_roll_0 16 rfl) (zby_w zwX8_roll_0 17 rfl) (by decide)) (by decide) ?_
    refine zr_cip (zr_runS (As := [.int p2, .int r4, .int (8 : Int32)]) (rest := []) C sw_X8_47 (c_X8_within l g p2 r4 (8 : Int32) σ _ h) (by decide) (by decide) rfl rfl (Nat.le_of_ble_eq_true rfl) (zo_184 (p := 18) (k := 47) (a := 0) (b := 47) (zby_w zwX8_roll_0 18 rfl) (zby_w zwX8_roll_0 19 rfl) (zby_w zwX8_roll_0 20 rfl) (by decide))) (fun r6 h => ?_)
    refine zr_if_ne C 27 (zo_154 (p := 21) (k := 6) (a := 0) (b := 6) (zby_w zwX8_roll_0 21 rfl) (zby_w zwX8_roll_0 22 rfl) (zby_w zwX8_roll_0 23 rfl) (by decide)) (by decide) (fun hc8 => ?_) (fun hc8 => ?_)
    · rw [if_neg hc8] at h
      refine zr_aload_n C (zo_42 (p := 27) (zby_w zwX8_roll_0 27 rfl)) rfl ?_
      refine zr_getr (u := 1) C fw_X8_10 (sh_0) rfl (zo_180 (p := 28) (k := 10) (a := 0) (b := 10) (zby_w zwX8_roll_0 28 rfl) (zby_w zwX8_roll_0 29 rfl) (zby_w zwX8_roll_0 30 rfl) (by decide)) ?_
      refine zr_getr (u := 15) C fw_X8_257 (sh_1) rfl (zo_180 (p := 31) (k := 257) (a := 1) (b := 1) (zby_w zwX8_roll_0 31 rfl) (zby_w zwX8_roll_0 32 rfl) (zby_w zwX8_roll_0 33 rfl) (by decide)) ?_
      refine zr_astore_n C [(3, .ref (g.2.1 15)), (0, .ref (g.2.1 0)), (1, .int p1), (2, .int p2)] (zo_78 (p := 34) (zby_w zwX8_roll_1 2 rfl)) (by decide) rfl ?_
      refine zr_aload_n C (zo_45 (p := 35) (zby_w zwX8_roll_1 3 rfl)) rfl ?_
      refine zr_geti C fw_X8_261 (sh_15) rfl (zo_180 (p := 36) (k := 261) (a := 1) (b := 5) (zby_w zwX8_roll_1 4 rfl) (zby_w zwX8_roll_1 5 rfl) (zby_w zwX8_roll_1 6 rfl) (by decide)) ?_
      refine zr_bipush C (6 : Int32) (zo_16 (p := 39) (k := 6) (a := 6) (zby_w zwX8_roll_1 7 rfl) (zby_w zwX8_roll_1 8 rfl) (by decide)) (by decide) ?_
      refine zr_icmp_lt C 47 (zo_161 (p := 41) (k := 6) (a := 0) (b := 6) (zby_w zwX8_roll_1 9 rfl) (zby_w zwX8_roll_1 10 rfl) (zby_w zwX8_roll_1 11 rfl) (by decide)) (by decide) (fun hc9 => ?_) (fun hc9 => ?_)
      · rw [if_pos hc9] at h
        refine zr_aload_n C (zo_45 (p := 47) (zby_w zwX8_roll_1 15 rfl)) rfl ?_
        refine zr_getr (u := 16) C fw_X8_264 (sh_15) rfl (zo_180 (p := 48) (k := 264) (a := 1) (b := 8) (zby_w zwX8_roll_1 16 rfl) (zby_w zwX8_roll_1 17 rfl) (zby_w zwX8_roll_1 18 rfl) (by decide)) ?_
        refine zr_aload_n C (zo_45 (p := 51) (zby_w zwX8_roll_1 19 rfl)) rfl ?_
        refine zr_geti C fw_X8_261 (sh_15) rfl (zo_180 (p := 52) (k := 261) (a := 1) (b := 5) (zby_w zwX8_roll_1 20 rfl) (zby_w zwX8_roll_1 21 rfl) (zby_w zwX8_roll_1 22 rfl) (by decide)) ?_
        refine zr_iload_n C (zo_27 (p := 55) (zby_w zwX8_roll_1 23 rfl)) rfl ?_
        obtain ⟨ho10, h⟩ := h
        refine zr_iast C (sh_16) ho10 (zo_79 (p := 56) (zby_w zwX8_roll_1 24 rfl)) ?_
        refine zr_aload_n C (zo_45 (p := 57) (zby_w zwX8_roll_1 25 rfl)) rfl ?_
        refine zr_getr (u := 17) C fw_X8_267 (sh_15) rfl (zo_180 (p := 58) (k := 267) (a := 1) (b := 11) (zby_w zwX8_roll_1 26 rfl) (zby_w zwX8_roll_1 27 rfl) (zby_w zwX8_roll_1 28 rfl) (by decide)) ?_
        refine zr_aload_n C (zo_45 (p := 61) (zby_w zwX8_roll_1 29 rfl)) rfl ?_
        refine zr_tops (fun σ11 hσ11 => ?_)
        replace h := h σ11 hσ11
        refine zr_geti C fw_X8_261 (sh_15) rfl (zo_180 (p := 62) (k := 261) (a := 1) (b := 5) (zby_w zwX8_roll_1 30 rfl) (zby_w zwX8_roll_1 31 rfl) (zby_w zwX8_roll_1 32 rfl) (by decide)) ?_
        refine zr_iload_n C (zo_28 (p := 65) (zby_w zwX8_roll_2 1 rfl)) rfl ?_
        refine zr_iload_n C (zo_27 (p := 66) (zby_w zwX8_roll_2 2 rfl)) rfl ?_
        refine zr_cip (zr_runS (As := [.int p1]) (rest := [.int p2, .int (σ11.1 15 0), .ref (g.2.1 17)]) C sw_X8_73 (c_J6_bitCount_0f7a4 l g p1 σ11 _ h) (by decide) (by decide) rfl rfl (Nat.le_of_ble_eq_true rfl) (zo_184 (p := 67) (k := 73) (a := 0) (b := 73) (zby_w zwX8_roll_2 3 rfl) (zby_w zwX8_roll_2 4 rfl) (zby_w zwX8_roll_2 5 rfl) (by decide))) (fun r12 h => ?_)
        refine zr_isub C (zo_100 (p := 70) (zby_w zwX8_roll_2 6 rfl)) ?_
        obtain ⟨ho14, h⟩ := h
        refine zr_iast C (sh_17) ho14 (zo_79 (p := 71) (zby_w zwX8_roll_2 7 rfl)) ?_
        refine zr_aload_n C (zo_45 (p := 72) (zby_w zwX8_roll_2 8 rfl)) rfl ?_
        refine zr_dup C (zo_89 (p := 73) (zby_w zwX8_roll_2 9 rfl)) rfl ?_
        refine zr_tops (fun σ15 hσ15 => ?_)
        replace h := h σ15 hσ15
        refine zr_geti C fw_X8_261 (sh_15) rfl (zo_180 (p := 74) (k := 261) (a := 1) (b := 5) (zby_w zwX8_roll_2 10 rfl) (zby_w zwX8_roll_2 11 rfl) (zby_w zwX8_roll_2 12 rfl) (by decide)) ?_
        refine zr_iconst C (1 : Int32) (zo_4 (p := 77) (zby_w zwX8_roll_2 13 rfl)) (by decide) ?_
        refine zr_iadd C (zo_96 (p := 78) (zby_w zwX8_roll_2 14 rfl)) ?_
        refine zr_puti C fw_X8_261 pw_X5_0 (sh_15) rfl rfl rfl (zo_181 (p := 79) (k := 261) (a := 1) (b := 5) (zby_w zwX8_roll_2 15 rfl) (zby_w zwX8_roll_2 16 rfl) (zby_w zwX8_roll_2 17 rfl) (by decide)) ?_
        refine zr_aload_n C (zo_45 (p := 82) (zby_w zwX8_roll_2 18 rfl)) rfl ?_
        refine zr_tops (fun σ16 hσ16 => ?_)
        replace h := h σ16 hσ16
        refine zr_geti C fw_X8_261 (sh_15) rfl (zo_180 (p := 83) (k := 261) (a := 1) (b := 5) (zby_w zwX8_roll_2 19 rfl) (zby_w zwX8_roll_2 20 rfl) (zby_w zwX8_roll_2 21 rfl) (by decide)) ?_
        exact hret _ _ _ _ h (zo_172 (p := 86) (zby_w zwX8_roll_2 22 rfl))
      · rw [if_neg hc9] at h
        refine zr_bipush C (-4 : Int32) (zo_16 (p := 44) (k := (-4)) (a := 252) (zby_w zwX8_roll_1 12 rfl) (zby_w zwX8_roll_1 13 rfl) (by decide)) (by decide) ?_
        exact hret _ _ _ _ h (zo_172 (p := 46) (zby_w zwX8_roll_1 14 rfl))
    · rw [if_pos hc8] at h
      refine zr_bipush C (-2 : Int32) d_X8_roll_24 (by decide) ?_
      exact hret _ _ _ _ h d_X8_roll_26
set_option maxRecDepth 20000 in
theorem c_X8_roll (l : Launch) (g : zG) (p1 : Int32) (p2 : Int32) (σ : zST) (Post : Int32 → zST → Prop) (h : wp_X8_roll p1 p2 σ Post) : Met l yX8_roll (Cond.code yX8_roll cX8_roll 4 (some .int) :: zGW) (zRm 1 22) (va_Pc [.ref (g.2.1 0), .int p1, .int p2] (zPP g σ)) (va_Qi Post (zBB g) (zA g)) 0 0 (zA g) :=
  zMet (by decide) (Nat.le_of_ble_eq_true rfl) (fun p e s m below meth c hr C => g_X8_roll C (fun v σ pc lv hp hd => zr_iret C hr hp hd) h)
def wp_X8_forget (σ : zST) (Post : Int32 → zST → Prop) : Prop := ∀ x1 : Int32, x1 = σ.1 15 0 → Post x1 (wI σ 15 0 (0 : Int32))
set_option maxRecDepth 100000 in
set_option maxHeartbeats 4000000 in
theorem g_X8_forget {p : Program} {l : Launch} {e : Env} {R : Room} {s : State} {m : MethodId} {args : Array Value} {below : List Frame} {meth : Method} {c : Code} {Q : State → Prop} {g : zG} {n1 n2 : Nat} (C : zCX p R s m args meth c g n1 n2 cX8_forget 2 RX8 0 0) {σ : zST} {Post : Int32 → zST → Prop} (hret : ∀ (v : Int32) (σ : zST) (pc : Nat) (lv : List (Nat × Value)), Post v σ → decode cX8_forget pc = .ok (.ireturn, 1) → zGG p l e R s m args below meth c Q g n1 n2 2 pc lv [.int v] σ) (h : wp_X8_forget σ Post) : zGG p l e R s m args below meth c Q g n1 n2 2 0 [(0, .ref (g.2.1 0))] [] σ := by
  unfold wp_X8_forget at h
  refine zr_aload_n C (zo_42 (p := 0) (zby_w zwX8_forget_0 0 rfl)) rfl ?_
  refine zr_getr (u := 1) C fw_X8_10 (sh_0) rfl (zo_180 (p := 1) (k := 10) (a := 0) (b := 10) (zby_w zwX8_forget_0 1 rfl) (zby_w zwX8_forget_0 2 rfl) (zby_w zwX8_forget_0 3 rfl) (by decide)) ?_
  refine zr_getr (u := 15) C fw_X8_257 (sh_1) rfl (zo_180 (p := 4) (k := 257) (a := 1) (b := 1) (zby_w zwX8_forget_0 4 rfl) (zby_w zwX8_forget_0 5 rfl) (zby_w zwX8_forget_0 6 rfl) (by decide)) ?_
  refine zr_geti C fw_X8_261 (sh_15) rfl (zo_180 (p := 7) (k := 261) (a := 1) (b := 5) (zby_w zwX8_forget_0 7 rfl) (zby_w zwX8_forget_0 8 rfl) (zby_w zwX8_forget_0 9 rfl) (by decide)) ?_
  refine zr_topi (fun x1 hx1 => ?_)
  replace h := h x1 hx1
  refine zr_istore_n C [(1, .int x1), (0, .ref (g.2.1 0))] (zo_60 (p := 10) (zby_w zwX8_forget_0 10 rfl)) (by decide) rfl ?_
  refine zr_aload_n C (zo_42 (p := 11) (zby_w zwX8_forget_0 11 rfl)) rfl ?_
  refine zr_getr (u := 1) C fw_X8_10 (sh_0) rfl (zo_180 (p := 12) (k := 10) (a := 0) (b := 10) (zby_w zwX8_forget_0 12 rfl) (zby_w zwX8_forget_0 13 rfl) (zby_w zwX8_forget_0 14 rfl) (by decide)) ?_
  refine zr_getr (u := 15) C fw_X8_257 (sh_1) rfl (zo_180 (p := 15) (k := 257) (a := 1) (b := 1) (zby_w zwX8_forget_0 15 rfl) (zby_w zwX8_forget_0 16 rfl) (zby_w zwX8_forget_0 17 rfl) (by decide)) ?_
  refine zr_iconst C (0 : Int32) (zo_3 (p := 18) (zby_w zwX8_forget_0 18 rfl)) (by decide) ?_
  refine zr_puti C fw_X8_261 pw_X5_0 (sh_15) rfl rfl rfl (zo_181 (p := 19) (k := 261) (a := 1) (b := 5) (zby_w zwX8_forget_0 19 rfl) (zby_w zwX8_forget_0 20 rfl) (zby_w zwX8_forget_0 21 rfl) (by decide)) ?_
  refine zr_iload_n C (zo_27 (p := 22) (zby_w zwX8_forget_0 22 rfl)) rfl ?_
  exact hret _ _ _ _ h (zo_172 (p := 23) (zby_w zwX8_forget_0 23 rfl))
set_option maxRecDepth 20000 in
theorem c_X8_forget (l : Launch) (g : zG) (σ : zST) (Post : Int32 → zST → Prop) (h : wp_X8_forget σ Post) : Met l yX8_forget (Cond.code yX8_forget cX8_forget 2 (some .int) :: zGW) (zRm 0 0) (va_Pc [.ref (g.2.1 0)] (zPP g σ)) (va_Qi Post (zBB g) (zA g)) 0 0 (zA g) :=
  zMet (by decide) (Nat.le_of_ble_eq_true rfl) (fun p e s m below meth c hr C => g_X8_forget C (fun v σ pc lv hp hd => zr_iret C hr hp hd) h)
def wp_X8_twice (p1 : Int32) (σ : zST) (Post : Int32 → Prop) : Prop := wp_X8_within p1 (0 : Int32) (1 : Int32) σ (fun r1 => (if r1 = (0) then Post (-2 : Int32) else ∀ z5 : Int32, z5 = (if p1 = (1 : Int32) then (1 : Int32) else (0 : Int32)) → wp_X5_namesOnTwo 15 z5 σ (fun r8 => Post r8)))
set_option maxRecDepth 100000 in
set_option maxHeartbeats 4000000 in
theorem g_X8_twice {p : Program} {l : Launch} {e : Env} {R : Room} {s : State} {m : MethodId} {args : Array Value} {below : List Frame} {meth : Method} {c : Code} {Q : State → Prop} {g : zG} {n1 n2 : Nat} (C : zCX p R s m args meth c g n1 n2 cX8_twice 2 RX8 2 47) {p1 : Int32} {σ : zST} {Post : Int32 → Prop} (hret : ∀ (v : Int32) (pc : Nat) (lv : List (Nat × Value)), Post v → decode cX8_twice pc = .ok (.ireturn, 1) → zGG p l e R s m args below meth c Q g n1 n2 2 pc lv [.int v] σ) (h : wp_X8_twice p1 σ Post) : zGG p l e R s m args below meth c Q g n1 n2 2 0 [(0, .ref (g.2.1 0)), (1, .int p1)] [] σ := by
  unfold wp_X8_twice at h
  refine zr_iload_n C (zo_27 (p := 0) (zby_w zwX8_twice_0 0 rfl)) rfl ?_
  refine zr_iconst C (0 : Int32) (zo_3 (p := 1) (zby_w zwX8_twice_0 1 rfl)) (by decide) ?_
  refine zr_iconst C (1 : Int32) (zo_4 (p := 2) (zby_w zwX8_twice_0 2 rfl)) (by decide) ?_
  refine zr_cip (zr_runS (As := [.int p1, .int (0 : Int32), .int (1 : Int32)]) (rest := []) C sw_X8_47 (c_X8_within l g p1 (0 : Int32) (1 : Int32) σ _ h) (by decide) (by decide) rfl rfl (Nat.le_of_ble_eq_true rfl) (zo_184 (p := 3) (k := 47) (a := 0) (b := 47) (zby_w zwX8_twice_0 3 rfl) (zby_w zwX8_twice_0 4 rfl) (zby_w zwX8_twice_0 5 rfl) (by decide))) (fun r1 h => ?_)
  refine zr_if_eq C 32 (zo_153 (p := 6) (k := 26) (a := 0) (b := 26) (zby_w zwX8_twice_0 6 rfl) (zby_w zwX8_twice_0 7 rfl) (zby_w zwX8_twice_0 8 rfl) (by decide)) (by decide) (fun hc3 => ?_) (fun hc3 => ?_)
  · rw [if_pos hc3] at h
    refine zr_bipush C (-2 : Int32) (zo_16 (p := 32) (k := (-2)) (a := 254) (zby_w zwX8_twice_1 0 rfl) (zby_w zwX8_twice_1 1 rfl) (by decide)) (by decide) ?_
    exact hret _ _ _ h d_X8_twice_34
  · rw [if_neg hc3] at h
    refine zr_aload_n C (zo_42 (p := 9) (zby_w zwX8_twice_0 9 rfl)) rfl ?_
    refine zr_getr (u := 1) C fw_X8_10 (sh_0) rfl (zo_180 (p := 10) (k := 10) (a := 0) (b := 10) (zby_w zwX8_twice_0 10 rfl) (zby_w zwX8_twice_0 11 rfl) (zby_w zwX8_twice_0 12 rfl) (by decide)) ?_
    refine zr_getr (u := 15) C fw_X8_257 (sh_1) rfl (zo_180 (p := 13) (k := 257) (a := 1) (b := 1) (zby_w zwX8_twice_0 13 rfl) (zby_w zwX8_twice_0 14 rfl) (zby_w zwX8_twice_0 15 rfl) (by decide)) ?_
    refine zr_iload_n C (zo_27 (p := 16) (zby_w zwX8_twice_0 16 rfl)) rfl ?_
    refine zr_iconst C (1 : Int32) (zo_4 (p := 17) (zby_w zwX8_twice_0 17 rfl)) (by decide) ?_
    have hJ6 : ∀ z5 : Int32, z5 = (if p1 = (1 : Int32) then (1 : Int32) else (0 : Int32)) → zGG p l e R s m args below meth c Q g n1 n2 2 26 [(0, .ref (g.2.1 0)), (1, .int p1)] [.int z5, .ref (g.2.1 15)] σ := by
      intro z5 hz5
      replace h := h z5 hz5
      refine zr_cip (zr_runV (As := [.int z5]) (rest := []) C vw_X8_270 (c_X5_namesOnTwo l g 15 isX5_15 z5 σ _ h) (sh_15) rfl (by decide) (by decide) rfl rfl (Nat.le_of_ble_eq_true rfl) (zo_182 (p := 26) (k := 270) (a := 1) (b := 14) (zby_w zwX8_twice_0 26 rfl) (zby_w zwX8_twice_0 27 rfl) (zby_w zwX8_twice_0 28 rfl) (by decide))) (fun r8 h => ?_)
      refine zr_goto C 34 (zo_167 (p := 29) (k := 5) (a := 0) (b := 5) (zby_w zwX8_twice_0 29 rfl) (zby_w zwX8_twice_0 30 rfl) (zby_w zwX8_twice_0 31 rfl) (by decide)) (by decide) ?_
      exact hret _ _ _ h d_X8_twice_34
    refine zr_icmp_ne C 25 (zo_160 (p := 18) (k := 7) (a := 0) (b := 7) (zby_w zwX8_twice_0 18 rfl) (zby_w zwX8_twice_0 19 rfl) (zby_w zwX8_twice_0 20 rfl) (by decide)) (by decide) (fun hc4 => ?_) (fun hc4 => ?_)
    · skip
      refine zr_iconst C (0 : Int32) (zo_3 (p := 25) (zby_w zwX8_twice_0 25 rfl)) (by decide) ?_
      exact hJ6 _ (by rw [if_neg hc4])
    · skip
      refine zr_iconst C (1 : Int32) (zo_4 (p := 21) (zby_w zwX8_twice_0 21 rfl)) (by decide) ?_
      refine zr_goto C 26 (zo_167 (p := 22) (k := 4) (a := 0) (b := 4) (zby_w zwX8_twice_0 22 rfl) (zby_w zwX8_twice_0 23 rfl) (zby_w zwX8_twice_0 24 rfl) (by decide)) (by decide) ?_
      exact hJ6 _ (by rw [if_pos hc4])
set_option maxRecDepth 20000 in
theorem c_X8_twice (l : Launch) (g : zG) (p1 : Int32) (σ : zST) (Post : Int32 → Prop) (h : wp_X8_twice p1 σ Post) : Met l yX8_twice (Cond.code yX8_twice cX8_twice 2 (some .int) :: zGW) (zRm 2 47) (va_Pc [.ref (g.2.1 0), .int p1] (zPP g σ)) (va_Qi (fun r u => Post r ∧ u = σ) (zBB g) (zA g)) 0 0 (zA g) :=
  zMet (by decide) (Nat.le_of_ble_eq_true rfl) (fun p e s m below meth c hr C => g_X8_twice C (fun v pc lv hp hd => zr_iret C hr ⟨hp, rfl⟩ hd) h)
def wp_X8_burnt_L13 (σ : zST) (Post : Int64 → Prop) : Nat → Int64 → Int32 → Prop
  | 0, _, _ => False
  | N + 1, v2, v4 => (if (σ.1 15 0) ≤ v4 then Post v2 else (if (6 : Int32) ≤ v4 then Post v2 else vp_in v4 6 ∧ wp_J6_bitCount_0f7a4 (σ.1 16 v4.toNatClampNeg) σ (fun r4 => vp_in v4 6 ∧ wp_X8_ways ((8 : Int32) - r4) (σ.1 17 v4.toNatClampNeg) σ (fun r7 => ∀ x9 : Int64, x9 = (v2 * r7) → wp_X8_burnt_L13 σ Post N x9 (v4 + 1)))))

set_option maxRecDepth 100000 in
set_option maxHeartbeats 4000000 in
theorem g_X8_burnt_L13 {p : Program} {l : Launch} {e : Env} {R : Room} {s : State} {m : MethodId} {args : Array Value} {below : List Frame} {meth : Method} {c : Code} {Q : State → Prop} {g : zG} {n1 n2 : Nat} (C : zCX p R s m args meth c g n1 n2 cX8_burnt 5 RX8 1 24) {σ : zST}  {Post : Int64 → Prop} (hret : ∀ (v : Int64) (pc : Nat) (lv : List (Nat × Value)), Post v → decode cX8_burnt pc = .ok (.lreturn, 1) → zGG p l e R s m args below meth c Q g n1 n2 5 pc lv [.long v] σ) : ∀ (N : Nat) (v2 : Int64) (v4 : Int32) , wp_X8_burnt_L13 σ Post N v2 v4 → zGG p l e R s m args below meth c Q g n1 n2 5 13 [(1, .ref (g.2.1 15)), (2, .long v2), (4, .int v4)] [] σ := by
  intro N
  induction N with
  | zero =>
    intro v2 v4 h
    exact h.elim
  | succ N ih =>
    intro v2 v4 h
    rw [wp_X8_burnt_L13] at h
    refine zr_iload C (zo_21 (p := 13) (k := 4) (a := 4) (zby_w zwX8_burnt_0 13 rfl) (zby_w zwX8_burnt_0 14 rfl) (by decide)) rfl ?_
    refine zr_aload_n C (zo_43 (p := 15) (zby_w zwX8_burnt_0 15 rfl)) rfl ?_
    refine zr_geti C fw_X8_261 (sh_15) rfl (zo_180 (p := 16) (k := 261) (a := 1) (b := 5) (zby_w zwX8_burnt_0 16 rfl) (zby_w zwX8_burnt_0 17 rfl) (zby_w zwX8_burnt_0 18 rfl) (by decide)) ?_
    refine zr_icmp_ge C 61 (zo_162 (p := 19) (k := 42) (a := 0) (b := 42) (zby_w zwX8_burnt_0 19 rfl) (zby_w zwX8_burnt_0 20 rfl) (zby_w zwX8_burnt_0 21 rfl) (by decide)) (by decide) (fun hc1 => ?_) (fun hc1 => ?_)
    · rw [if_pos hc1] at h
      refine zr_lload_n C d_X8_burnt_61 rfl ?_
      exact hret _ _ _ h d_X8_burnt_62
    · rw [if_neg hc1] at h
      refine zr_iload C (zo_21 (p := 22) (k := 4) (a := 4) (zby_w zwX8_burnt_0 22 rfl) (zby_w zwX8_burnt_0 23 rfl) (by decide)) rfl ?_
      refine zr_bipush C (6 : Int32) (zo_16 (p := 24) (k := 6) (a := 6) (zby_w zwX8_burnt_0 24 rfl) (zby_w zwX8_burnt_0 25 rfl) (by decide)) (by decide) ?_
      refine zr_icmp_ge C 61 (zo_162 (p := 26) (k := 35) (a := 0) (b := 35) (zby_w zwX8_burnt_0 26 rfl) (zby_w zwX8_burnt_0 27 rfl) (zby_w zwX8_burnt_0 28 rfl) (by decide)) (by decide) (fun hc2 => ?_) (fun hc2 => ?_)
      · rw [if_pos hc2] at h
        refine zr_lload_n C d_X8_burnt_61 rfl ?_
        exact hret _ _ _ h d_X8_burnt_62
      · rw [if_neg hc2] at h
        refine zr_lload_n C (zo_32 (p := 29) (zby_w zwX8_burnt_0 29 rfl)) rfl ?_
        refine zr_bipush C (8 : Int32) (zo_16 (p := 30) (k := 8) (a := 8) (zby_w zwX8_burnt_0 30 rfl) (zby_w zwX8_burnt_0 31 rfl) (by decide)) (by decide) ?_
        refine zr_aload_n C (zo_43 (p := 32) (zby_w zwX8_burnt_1 0 rfl)) rfl ?_
        refine zr_getr (u := 16) C fw_X8_264 (sh_15) rfl (zo_180 (p := 33) (k := 264) (a := 1) (b := 8) (zby_w zwX8_burnt_1 1 rfl) (zby_w zwX8_burnt_1 2 rfl) (zby_w zwX8_burnt_1 3 rfl) (by decide)) ?_
        refine zr_iload C (zo_21 (p := 36) (k := 4) (a := 4) (zby_w zwX8_burnt_1 4 rfl) (zby_w zwX8_burnt_1 5 rfl) (by decide)) rfl ?_
        obtain ⟨ho3, h⟩ := h
        refine zr_iald C (sh_16) ho3 (zo_46 (p := 38) (zby_w zwX8_burnt_1 6 rfl)) ?_
        refine zr_cip (zr_runS (As := [.int (σ.1 16 v4.toNatClampNeg)]) (rest := [.int (8 : Int32), .long v2]) C sw_X8_73 (c_J6_bitCount_0f7a4 l g (σ.1 16 v4.toNatClampNeg) σ _ h) (by decide) (by decide) rfl rfl (Nat.le_of_ble_eq_true rfl) (zo_184 (p := 39) (k := 73) (a := 0) (b := 73) (zby_w zwX8_burnt_1 7 rfl) (zby_w zwX8_burnt_1 8 rfl) (zby_w zwX8_burnt_1 9 rfl) (by decide))) (fun r4 h => ?_)
        refine zr_isub C (zo_100 (p := 42) (zby_w zwX8_burnt_1 10 rfl)) ?_
        refine zr_aload_n C (zo_43 (p := 43) (zby_w zwX8_burnt_1 11 rfl)) rfl ?_
        refine zr_getr (u := 17) C fw_X8_267 (sh_15) rfl (zo_180 (p := 44) (k := 267) (a := 1) (b := 11) (zby_w zwX8_burnt_1 12 rfl) (zby_w zwX8_burnt_1 13 rfl) (zby_w zwX8_burnt_1 14 rfl) (by decide)) ?_
        refine zr_iload C (zo_21 (p := 47) (k := 4) (a := 4) (zby_w zwX8_burnt_1 15 rfl) (zby_w zwX8_burnt_1 16 rfl) (by decide)) rfl ?_
        obtain ⟨ho6, h⟩ := h
        refine zr_iald C (sh_17) ho6 (zo_46 (p := 49) (zby_w zwX8_burnt_1 17 rfl)) ?_
        refine zr_clp (zr_runS (As := [.int ((8 : Int32) - r4), .int (σ.1 17 v4.toNatClampNeg)]) (rest := [.long v2]) C sw_X8_250 (c_X8_ways l g ((8 : Int32) - r4) (σ.1 17 v4.toNatClampNeg) σ _ h) (by decide) (by decide) rfl rfl (Nat.le_of_ble_eq_true rfl) (zo_184 (p := 50) (k := 250) (a := 0) (b := 250) (zby_w zwX8_burnt_1 18 rfl) (zby_w zwX8_burnt_1 19 rfl) (zby_w zwX8_burnt_1 20 rfl) (by decide))) (fun r7 h => ?_)
        refine zr_lmul C (zo_105 (p := 53) (zby_w zwX8_burnt_1 21 rfl)) ?_
        refine zr_topl (fun x9 hx9 => ?_)
        replace h := h x9 hx9
        refine zr_lstore_n C [(2, .long x9), (1, .ref (g.2.1 15)), (4, .int v4)] (zo_65 (p := 54) (zby_w zwX8_burnt_1 22 rfl)) (by decide) rfl ?_
        refine zr_iinc C (v4 + 1) [(4, .int (v4 + 1)), (2, .long x9), (1, .ref (g.2.1 15))] d_X8_burnt_55 rfl rfl (by decide) rfl ?_
        refine zr_goto C 13 (zo_167 (p := 58) (k := (-45)) (a := 255) (b := 211) (zby_w zwX8_burnt_1 26 rfl) (zby_w zwX8_burnt_1 27 rfl) (zby_w zwX8_burnt_1 28 rfl) (by decide)) (by decide) ?_
        exact zr_pick [2, 1, 0] rfl (ih x9 (v4 + 1) h)

def wp_X8_burnt (σ : zST) (Post : Int64 → Prop) : Prop := ∃ M10 : Nat, wp_X8_burnt_L13 σ Post M10 (1 : Int64) (0 : Int32)
set_option maxRecDepth 100000 in
set_option maxHeartbeats 4000000 in
theorem g_X8_burnt {p : Program} {l : Launch} {e : Env} {R : Room} {s : State} {m : MethodId} {args : Array Value} {below : List Frame} {meth : Method} {c : Code} {Q : State → Prop} {g : zG} {n1 n2 : Nat} (C : zCX p R s m args meth c g n1 n2 cX8_burnt 5 RX8 1 24) {σ : zST} {Post : Int64 → Prop} (hret : ∀ (v : Int64) (pc : Nat) (lv : List (Nat × Value)), Post v → decode cX8_burnt pc = .ok (.lreturn, 1) → zGG p l e R s m args below meth c Q g n1 n2 5 pc lv [.long v] σ) (h : wp_X8_burnt σ Post) : zGG p l e R s m args below meth c Q g n1 n2 5 0 [(0, .ref (g.2.1 0))] [] σ := by
  unfold wp_X8_burnt at h
  refine zr_aload_n C (zo_42 (p := 0) (zby_w zwX8_burnt_0 0 rfl)) rfl ?_
  refine zr_getr (u := 1) C fw_X8_10 (sh_0) rfl (zo_180 (p := 1) (k := 10) (a := 0) (b := 10) (zby_w zwX8_burnt_0 1 rfl) (zby_w zwX8_burnt_0 2 rfl) (zby_w zwX8_burnt_0 3 rfl) (by decide)) ?_
  refine zr_getr (u := 15) C fw_X8_257 (sh_1) rfl (zo_180 (p := 4) (k := 257) (a := 1) (b := 1) (zby_w zwX8_burnt_0 4 rfl) (zby_w zwX8_burnt_0 5 rfl) (zby_w zwX8_burnt_0 6 rfl) (by decide)) ?_
  refine zr_astore_n C [(1, .ref (g.2.1 15)), (0, .ref (g.2.1 0))] (zo_76 (p := 7) (zby_w zwX8_burnt_0 7 rfl)) (by decide) rfl ?_
  refine zr_lconst C (1 : Int64) (zo_10 (p := 8) (zby_w zwX8_burnt_0 8 rfl)) (by decide) ?_
  refine zr_lstore_n C [(2, .long (1 : Int64)), (1, .ref (g.2.1 15)), (0, .ref (g.2.1 0))] (zo_65 (p := 9) (zby_w zwX8_burnt_0 9 rfl)) (by decide) rfl ?_
  refine zr_iconst C (0 : Int32) (zo_3 (p := 10) (zby_w zwX8_burnt_0 10 rfl)) (by decide) ?_
  refine zr_istore C [(4, .int (0 : Int32)), (2, .long (1 : Int64)), (1, .ref (g.2.1 15)), (0, .ref (g.2.1 0))] (zo_54 (p := 11) (k := 4) (a := 4) (zby_w zwX8_burnt_0 11 rfl) (zby_w zwX8_burnt_0 12 rfl) (by decide)) (by decide) rfl ?_
  obtain ⟨M10, h⟩ := h
  exact zr_pick [2, 1, 0] rfl (g_X8_burnt_L13 C hret M10 (1 : Int64) (0 : Int32) h)
set_option maxRecDepth 20000 in
theorem c_X8_burnt (l : Launch) (g : zG) (σ : zST) (Post : Int64 → Prop) (h : wp_X8_burnt σ Post) : Met l yX8_burnt (Cond.code yX8_burnt cX8_burnt 5 (some .long) :: zGW) (zRm 1 24) (va_Pc [.ref (g.2.1 0)] (zPP g σ)) (va_Ql (fun r u => Post r ∧ u = σ) (zBB g) (zA g)) 0 0 (zA g) :=
  zMet (by decide) (Nat.le_of_ble_eq_true rfl) (fun p e s m below meth c hr C => g_X8_burnt C (fun v pc lv hp hd => zr_lret C hr ⟨hp, rfl⟩ hd) h)
