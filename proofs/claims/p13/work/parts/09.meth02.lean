def wp_X8_state (p1 : Int32) (p2 : Int32) (σ : zST) (Post : Int32 → Prop) : Prop := wp_X6_has 2 p1 σ (fun r1 => (if r1 = (0) then Post (-1 : Int32) else wp_X8_within p2 (0 : Int32) (2 : Int32) σ (fun r4 => (if r4 = (0) then Post (-2 : Int32) else wp_X6_look 2 p1 p2 σ (fun r7 => Post r7)))))
set_option maxRecDepth 100000 in
set_option maxHeartbeats 4000000 in
theorem g_X8_state {p : Program} {l : Launch} {e : Env} {R : Room} {s : State} {m : MethodId} {args : Array Value} {below : List Frame} {meth : Method} {c : Code} {Q : State → Prop} {g : zG} {n1 n2 : Nat} (C : zCX p R s m args meth c g n1 n2 cX8_state 3 RX8 2 43) {p1 : Int32} {p2 : Int32} {σ : zST} {Post : Int32 → Prop} (hret : ∀ (v : Int32) (pc : Nat) (lv : List (Nat × Value)), Post v → decode cX8_state pc = .ok (.ireturn, 1) → zGG p l e R s m args below meth c Q g n1 n2 3 pc lv [.int v] σ) (h : wp_X8_state p1 p2 σ Post) : zGG p l e R s m args below meth c Q g n1 n2 3 0 [(0, .ref (g.2.1 0)), (1, .int p1), (2, .int p2)] [] σ := by
  unfold wp_X8_state at h
  refine zr_aload_n C d_X8_state_0 rfl ?_
  refine zr_getr (u := 1) C fw_X8_10 (sh_0) rfl d_X8_state_1 ?_
  refine zr_getr (u := 2) C fw_X8_51 (sh_1) rfl d_X8_state_4 ?_
  refine zr_iload_n C d_X8_state_7 rfl ?_
  refine zr_cip (zr_runV (As := [.int p1]) (rest := []) C vw_X8_79 (c_X6_has l g 2 isX6_2 p1 σ _ h) (sh_2) rfl (by decide) (by decide) rfl rfl (Nat.le_of_ble_eq_true rfl) d_X8_state_8) (fun r1 h => ?_)
  refine zr_if_ne C 16 d_X8_state_11 (by decide) (fun hc3 => ?_) (fun hc3 => ?_)
  · rw [if_neg hc3] at h
    refine zr_iload_n C d_X8_state_16 rfl ?_
    refine zr_iconst C (0 : Int32) d_X8_state_17 (by decide) ?_
    refine zr_iconst C (2 : Int32) d_X8_state_18 (by decide) ?_
    refine zr_cip (zr_runS (As := [.int p2, .int (0 : Int32), .int (2 : Int32)]) (rest := []) C sw_X8_47 (c_X8_within l g p2 (0 : Int32) (2 : Int32) σ _ h) (by decide) (by decide) rfl rfl (Nat.le_of_ble_eq_true rfl) d_X8_state_19) (fun r4 h => ?_)
    refine zr_if_ne C 28 d_X8_state_22 (by decide) (fun hc6 => ?_) (fun hc6 => ?_)
    · rw [if_neg hc6] at h
      refine zr_aload_n C d_X8_state_28 rfl ?_
      refine zr_getr (u := 1) C fw_X8_10 (sh_0) rfl d_X8_state_29 ?_
      refine zr_getr (u := 2) C fw_X8_51 (sh_1) rfl d_X8_state_32 ?_
      refine zr_iload_n C d_X8_state_35 rfl ?_
      refine zr_iload_n C d_X8_state_36 rfl ?_
      refine zr_cip (zr_runV (As := [.int p1, .int p2]) (rest := []) C vw_X8_130 (c_X6_look l g 2 isX6_2 p1 p2 σ _ h) (sh_2) rfl (by decide) (by decide) rfl rfl (Nat.le_of_ble_eq_true rfl) d_X8_state_37) (fun r7 h => ?_)
      exact hret _ _ _ h d_X8_state_40
    · rw [if_pos hc6] at h
      refine zr_bipush C (-2 : Int32) d_X8_state_25 (by decide) ?_
      exact hret _ _ _ h d_X8_state_27
  · rw [if_pos hc3] at h
    refine zr_iconst C (-1 : Int32) d_X8_state_14 (by decide) ?_
    exact hret _ _ _ h d_X8_state_15
set_option maxRecDepth 20000 in
theorem c_X8_state (l : Launch) (g : zG) (p1 : Int32) (p2 : Int32) (σ : zST) (Post : Int32 → Prop) (h : wp_X8_state p1 p2 σ Post) : Met l yX8_state (Cond.code yX8_state cX8_state 3 (some .int) :: zGW) (zRm 2 43) (va_Pc [.ref (g.2.1 0), .int p1, .int p2] (zPP g σ)) (va_Qi (fun r u => Post r ∧ u = σ) (zBB g) (zA g)) 0 0 (zA g) :=
  zMet (by decide) (Nat.le_of_ble_eq_true rfl) (fun p e s m below meth c hr C => g_X8_state C (fun v pc lv hp hd => zr_iret C hr ⟨hp, rfl⟩ hd) h)
def wp_X8_seasonCanBe (σ : zST) (Post : Int32 → zST → Prop) : Prop := wp_X4_faultAsSeason σ (fun r1 => (if r1 = (-6 : Int32) then wp_X7_tryOut 2 σ (fun σ5 => ∀ z7 : Int32, z7 = (if (σ5.1 54 2) = (-6 : Int32) then (1 : Int32) else (0 : Int32)) → zB z7 ∧ Post z7 σ5) else Post (0 : Int32) σ))
set_option maxRecDepth 100000 in
set_option maxHeartbeats 4000000 in
theorem g_X8_seasonCanBe {p : Program} {l : Launch} {e : Env} {R : Room} {s : State} {m : MethodId} {args : Array Value} {below : List Frame} {meth : Method} {c : Code} {Q : State → Prop} {g : zG} {n1 n2 : Nat} (C : zCX p R s m args meth c g n1 n2 cX8_seasonCanBe 1 RX8 5 115) {σ : zST} {Post : Int32 → zST → Prop} (hret : ∀ (v : Int32) (σ : zST) (pc : Nat) (lv : List (Nat × Value)), zB v → Post v σ → decode cX8_seasonCanBe pc = .ok (.ireturn, 1) → zGG p l e R s m args below meth c Q g n1 n2 1 pc lv [.int v] σ) (h : wp_X8_seasonCanBe σ Post) : zGG p l e R s m args below meth c Q g n1 n2 1 0 [(0, .ref (g.2.1 0))] [] σ := by
  unfold wp_X8_seasonCanBe at h
  refine zr_aload_n C d_X8_seasonCanBe_0 rfl ?_
  refine zr_getr (u := 52) C fw_X8_29 (sh_0) rfl d_X8_seasonCanBe_1 ?_
  refine zr_cip (zr_runV (As := []) (rest := []) C vw_X8_105 (c_X4_faultAsSeason l g σ _ h) (sh_52) rfl (by decide) (by decide) rfl rfl (Nat.le_of_ble_eq_true rfl) d_X8_seasonCanBe_4) (fun r1 h => ?_)
  refine zr_bipush C (-6 : Int32) d_X8_seasonCanBe_7 (by decide) ?_
  refine zr_icmp_eq C 14 d_X8_seasonCanBe_9 (by decide) (fun hc3 => ?_) (fun hc3 => ?_)
  · rw [if_pos hc3] at h
    refine zr_aload_n C d_X8_seasonCanBe_14 rfl ?_
    refine zr_getr (u := 54) C fw_X8_36 (sh_0) rfl d_X8_seasonCanBe_15 ?_
    refine zr_aload_n C d_X8_seasonCanBe_18 rfl ?_
    refine zr_getr (u := 52) C fw_X8_29 (sh_0) rfl d_X8_seasonCanBe_19 ?_
    refine zr_aload_n C d_X8_seasonCanBe_22 rfl ?_
    refine zr_getr (u := 1) C fw_X8_10 (sh_0) rfl d_X8_seasonCanBe_23 ?_
    refine zr_getr (u := 2) C fw_X8_51 (sh_1) rfl d_X8_seasonCanBe_26 ?_
    refine zr_cv (zr_runV (As := [.ref (g.2.1 52), .ref (g.2.1 2)]) (rest := []) C vw_X8_120 (c_X7_tryOut l g 2 isX6_2 σ _ h) (sh_54) rfl (by decide) (by decide) rfl rfl (Nat.le_of_ble_eq_true rfl) d_X8_seasonCanBe_29) (fun σ5 h => ?_)
    refine zr_aload_n C d_X8_seasonCanBe_32 rfl ?_
    refine zr_getr (u := 54) C fw_X8_36 (sh_0) rfl d_X8_seasonCanBe_33 ?_
    refine zr_geti C fw_X8_124 (sh_54) rfl d_X8_seasonCanBe_36 ?_
    refine zr_bipush C (-6 : Int32) d_X8_seasonCanBe_39 (by decide) ?_
    have hJ8 : ∀ z7 : Int32, z7 = (if (σ5.1 54 2) = (-6 : Int32) then (1 : Int32) else (0 : Int32)) → zGG p l e R s m args below meth c Q g n1 n2 1 49 [(0, .ref (g.2.1 0))] [.int z7] σ5 := by
      intro z7 hz7
      replace h := h z7 hz7
      exact hret _ _ _ _ h.1 h.2 d_X8_seasonCanBe_49
    refine zr_icmp_ne C 48 d_X8_seasonCanBe_41 (by decide) (fun hc6 => ?_) (fun hc6 => ?_)
    · skip
      refine zr_iconst C (0 : Int32) d_X8_seasonCanBe_48 (by decide) ?_
      exact hJ8 _ (by rw [if_neg hc6])
    · skip
      refine zr_iconst C (1 : Int32) d_X8_seasonCanBe_44 (by decide) ?_
      refine zr_goto C 49 d_X8_seasonCanBe_45 (by decide) ?_
      exact hJ8 _ (by rw [if_pos hc6])
  · rw [if_neg hc3] at h
    refine zr_iconst C (0 : Int32) d_X8_seasonCanBe_12 (by decide) ?_
    exact hret _ _ _ _ rfl h d_X8_seasonCanBe_13
set_option maxRecDepth 20000 in
theorem c_X8_seasonCanBe (l : Launch) (g : zG) (σ : zST) (Post : Int32 → zST → Prop) (h : wp_X8_seasonCanBe σ Post) : Met l yX8_seasonCanBe (Cond.code yX8_seasonCanBe cX8_seasonCanBe 1 (some .boolean) :: zGW) (zRm 5 115) (va_Pc [.ref (g.2.1 0)] (zPP g σ)) (va_Qi Post (zBB g) (zA g)) 0 0 (zA g) :=
  zMet (by decide) (Nat.le_of_ble_eq_true rfl) (fun p e s m below meth c hr C => g_X8_seasonCanBe C (fun v σ pc lv hz hp hd => zr_zret C hr hz hp hd) h)
def wp_X8_behind (p1 : Int32) (p2 : Int32) (σ : zST) (Post : Int32 → zST → Prop) : Prop := wp_X6_has 2 p1 σ (fun r1 => (if r1 = (0) then Post (-1 : Int32) σ else wp_X8_within p2 (0 : Int32) (2 : Int32) σ (fun r4 => (if r4 = (0) then Post (-2 : Int32) σ else wp_X8_seasonCanBe σ (fun r7 σ8 => (if r7 = (0) then Post (-5 : Int32) σ8 else wp_X6_look 55 p1 p2 σ8 (fun r10 => Post r10 σ8)))))))
set_option maxRecDepth 100000 in
set_option maxHeartbeats 4000000 in
theorem g_X8_behind {p : Program} {l : Launch} {e : Env} {R : Room} {s : State} {m : MethodId} {args : Array Value} {below : List Frame} {meth : Method} {c : Code} {Q : State → Prop} {g : zG} {n1 n2 : Nat} (C : zCX p R s m args meth c g n1 n2 cX8_behind 3 RX8 6 135) {p1 : Int32} {p2 : Int32} {σ : zST} {Post : Int32 → zST → Prop} (hret : ∀ (v : Int32) (σ : zST) (pc : Nat) (lv : List (Nat × Value)), Post v σ → decode cX8_behind pc = .ok (.ireturn, 1) → zGG p l e R s m args below meth c Q g n1 n2 3 pc lv [.int v] σ) (h : wp_X8_behind p1 p2 σ Post) : zGG p l e R s m args below meth c Q g n1 n2 3 0 [(0, .ref (g.2.1 0)), (1, .int p1), (2, .int p2)] [] σ := by
  unfold wp_X8_behind at h
  refine zr_aload_n C d_X8_behind_0 rfl ?_
  refine zr_getr (u := 1) C fw_X8_10 (sh_0) rfl d_X8_behind_1 ?_
  refine zr_getr (u := 2) C fw_X8_51 (sh_1) rfl d_X8_behind_4 ?_
  refine zr_iload_n C d_X8_behind_7 rfl ?_
  refine zr_cip (zr_runV (As := [.int p1]) (rest := []) C vw_X8_79 (c_X6_has l g 2 isX6_2 p1 σ _ h) (sh_2) rfl (by decide) (by decide) rfl rfl (Nat.le_of_ble_eq_true rfl) d_X8_behind_8) (fun r1 h => ?_)
  refine zr_if_ne C 16 d_X8_behind_11 (by decide) (fun hc3 => ?_) (fun hc3 => ?_)
  · rw [if_neg hc3] at h
    refine zr_iload_n C d_X8_behind_16 rfl ?_
    refine zr_iconst C (0 : Int32) d_X8_behind_17 (by decide) ?_
    refine zr_iconst C (2 : Int32) d_X8_behind_18 (by decide) ?_
    refine zr_cip (zr_runS (As := [.int p2, .int (0 : Int32), .int (2 : Int32)]) (rest := []) C sw_X8_47 (c_X8_within l g p2 (0 : Int32) (2 : Int32) σ _ h) (by decide) (by decide) rfl rfl (Nat.le_of_ble_eq_true rfl) d_X8_behind_19) (fun r4 h => ?_)
    refine zr_if_ne C 28 d_X8_behind_22 (by decide) (fun hc6 => ?_) (fun hc6 => ?_)
    · rw [if_neg hc6] at h
      refine zr_aload_n C d_X8_behind_28 rfl ?_
      refine zr_ci (zr_runV (As := []) (rest := []) C vw_X8_133 (c_X8_seasonCanBe l g σ _ h) (sh_0) rfl (by decide) (by decide) rfl rfl (Nat.le_of_ble_eq_true rfl) d_X8_behind_29) (fun r7 σ8 h => ?_)
      refine zr_if_eq C 50 d_X8_behind_32 (by decide) (fun hc9 => ?_) (fun hc9 => ?_)
      · rw [if_pos hc9] at h
        refine zr_bipush C (-5 : Int32) d_X8_behind_50 (by decide) ?_
        exact hret _ _ _ _ h d_X8_behind_52
      · rw [if_neg hc9] at h
        refine zr_aload_n C d_X8_behind_35 rfl ?_
        refine zr_getr (u := 54) C fw_X8_36 (sh_0) rfl d_X8_behind_36 ?_
        refine zr_getr (u := 55) C fw_X8_137 (sh_54) rfl d_X8_behind_39 ?_
        refine zr_iload_n C d_X8_behind_42 rfl ?_
        refine zr_iload_n C d_X8_behind_43 rfl ?_
        refine zr_cip (zr_runV (As := [.int p1, .int p2]) (rest := []) C vw_X8_130 (c_X6_look l g 55 isX6_55 p1 p2 σ8 _ h) (sh_55) rfl (by decide) (by decide) rfl rfl (Nat.le_of_ble_eq_true rfl) d_X8_behind_44) (fun r10 h => ?_)
        refine zr_goto C 52 d_X8_behind_47 (by decide) ?_
        exact hret _ _ _ _ h d_X8_behind_52
    · rw [if_pos hc6] at h
      refine zr_bipush C (-2 : Int32) d_X8_behind_25 (by decide) ?_
      exact hret _ _ _ _ h d_X8_behind_27
  · rw [if_pos hc3] at h
    refine zr_iconst C (-1 : Int32) d_X8_behind_14 (by decide) ?_
    exact hret _ _ _ _ h d_X8_behind_15
set_option maxRecDepth 20000 in
theorem c_X8_behind (l : Launch) (g : zG) (p1 : Int32) (p2 : Int32) (σ : zST) (Post : Int32 → zST → Prop) (h : wp_X8_behind p1 p2 σ Post) : Met l yX8_behind (Cond.code yX8_behind cX8_behind 3 (some .int) :: zGW) (zRm 6 135) (va_Pc [.ref (g.2.1 0), .int p1, .int p2] (zPP g σ)) (va_Qi Post (zBB g) (zA g)) 0 0 (zA g) :=
  zMet (by decide) (Nat.le_of_ble_eq_true rfl) (fun p e s m below meth c hr C => g_X8_behind C (fun v σ pc lv hp hd => zr_iret C hr hp hd) h)
def wp_X8_done (σ : zST) (Post : Int32 → zST → Prop) : Prop := wp_X8_seasonCanBe σ (fun r1 σ2 => (if r1 = (0) then Post (-5 : Int32) σ2 else wp_X6_become 2 55 σ2 (fun σ5 => wp_X4_clear σ5 (fun r6 σ7 => Post (σ7.1 54 1) σ7))))
set_option maxRecDepth 100000 in
set_option maxHeartbeats 4000000 in
theorem g_X8_done {p : Program} {l : Launch} {e : Env} {R : Room} {s : State} {m : MethodId} {args : Array Value} {below : List Frame} {meth : Method} {c : Code} {Q : State → Prop} {g : zG} {n1 n2 : Nat} (C : zCX p R s m args meth c g n1 n2 cX8_done 1 RX8 6 135) {σ : zST} {Post : Int32 → zST → Prop} (hret : ∀ (v : Int32) (σ : zST) (pc : Nat) (lv : List (Nat × Value)), Post v σ → decode cX8_done pc = .ok (.ireturn, 1) → zGG p l e R s m args below meth c Q g n1 n2 1 pc lv [.int v] σ) (h : wp_X8_done σ Post) : zGG p l e R s m args below meth c Q g n1 n2 1 0 [(0, .ref (g.2.1 0))] [] σ := by
  unfold wp_X8_done at h
  refine zr_aload_n C d_X8_done_0 rfl ?_
  refine zr_ci (zr_runV (As := []) (rest := []) C vw_X8_133 (c_X8_seasonCanBe l g σ _ h) (sh_0) rfl (by decide) (by decide) rfl rfl (Nat.le_of_ble_eq_true rfl) d_X8_done_1) (fun r1 σ2 h => ?_)
  refine zr_if_ne C 10 d_X8_done_4 (by decide) (fun hc3 => ?_) (fun hc3 => ?_)
  · rw [if_neg hc3] at h
    refine zr_aload_n C d_X8_done_10 rfl ?_
    refine zr_getr (u := 1) C fw_X8_10 (sh_0) rfl d_X8_done_11 ?_
    refine zr_getr (u := 2) C fw_X8_51 (sh_1) rfl d_X8_done_14 ?_
    refine zr_aload_n C d_X8_done_17 rfl ?_
    refine zr_getr (u := 54) C fw_X8_36 (sh_0) rfl d_X8_done_18 ?_
    refine zr_getr (u := 55) C fw_X8_137 (sh_54) rfl d_X8_done_21 ?_
    refine zr_cv (zr_runV (As := [.ref (g.2.1 55)]) (rest := []) C vw_X8_138 (c_X6_become l g 2 isX6_2 55 isX6_55 σ2 _ h) (sh_2) rfl (by decide) (by decide) rfl rfl (Nat.le_of_ble_eq_true rfl) d_X8_done_24) (fun σ5 h => ?_)
    refine zr_aload_n C d_X8_done_27 rfl ?_
    refine zr_getr (u := 52) C fw_X8_29 (sh_0) rfl d_X8_done_28 ?_
    refine zr_ci (zr_runV (As := []) (rest := []) C vw_X8_98 (c_X4_clear l g σ5 _ h) (sh_52) rfl (by decide) (by decide) rfl rfl (Nat.le_of_ble_eq_true rfl) d_X8_done_31) (fun r6 σ7 h => ?_)
    refine zr_pop C d_X8_done_34 rfl ?_
    refine zr_aload_n C d_X8_done_35 rfl ?_
    refine zr_getr (u := 54) C fw_X8_36 (sh_0) rfl d_X8_done_36 ?_
    refine zr_geti C fw_X8_127 (sh_54) rfl d_X8_done_39 ?_
    exact hret _ _ _ _ h d_X8_done_42
  · rw [if_pos hc3] at h
    refine zr_bipush C (-5 : Int32) d_X8_done_7 (by decide) ?_
    exact hret _ _ _ _ h d_X8_done_9
set_option maxRecDepth 20000 in
theorem c_X8_done (l : Launch) (g : zG) (σ : zST) (Post : Int32 → zST → Prop) (h : wp_X8_done σ Post) : Met l yX8_done (Cond.code yX8_done cX8_done 1 (some .int) :: zGW) (zRm 6 135) (va_Pc [.ref (g.2.1 0)] (zPP g σ)) (va_Qi Post (zBB g) (zA g)) 0 0 (zA g) :=
  zMet (by decide) (Nat.le_of_ble_eq_true rfl) (fun p e s m below meth c hr C => g_X8_done C (fun v σ pc lv hp hd => zr_iret C hr hp hd) h)
def wp_X8_sum (p1 : Int32) (σ : zST) (Post : Int32 → Prop) : Prop := wp_X8_within p1 (0 : Int32) (2 : Int32) σ (fun r1 => (if r1 = (0) then True else vp_in p1 3 ∧ True) ∧ ∀ z4 : Int32, z4 = (if r1 = (0) then (-2 : Int32) else (σ.1 9 p1.toNatClampNeg)) → Post z4)
set_option maxRecDepth 100000 in
set_option maxHeartbeats 4000000 in
theorem g_X8_sum {p : Program} {l : Launch} {e : Env} {R : Room} {s : State} {m : MethodId} {args : Array Value} {below : List Frame} {meth : Method} {c : Code} {Q : State → Prop} {g : zG} {n1 n2 : Nat} (C : zCX p R s m args meth c g n1 n2 cX8_sum 2 RX8 1 22) {p1 : Int32} {σ : zST} {Post : Int32 → Prop} (hret : ∀ (v : Int32) (pc : Nat) (lv : List (Nat × Value)), Post v → decode cX8_sum pc = .ok (.ireturn, 1) → zGG p l e R s m args below meth c Q g n1 n2 2 pc lv [.int v] σ) (h : wp_X8_sum p1 σ Post) : zGG p l e R s m args below meth c Q g n1 n2 2 0 [(0, .ref (g.2.1 0)), (1, .int p1)] [] σ := by
  unfold wp_X8_sum at h
  refine zr_iload_n C d_X8_sum_0 rfl ?_
  refine zr_iconst C (0 : Int32) d_X8_sum_1 (by decide) ?_
  refine zr_iconst C (2 : Int32) d_X8_sum_2 (by decide) ?_
  refine zr_cip (zr_runS (As := [.int p1, .int (0 : Int32), .int (2 : Int32)]) (rest := []) C sw_X8_47 (c_X8_within l g p1 (0 : Int32) (2 : Int32) σ _ h) (by decide) (by decide) rfl rfl (Nat.le_of_ble_eq_true rfl) d_X8_sum_3) (fun r1 h => ?_)
  obtain ⟨ho6, h⟩ := h
  have hJ5 : ∀ z4 : Int32, z4 = (if r1 = (0) then (-2 : Int32) else (σ.1 9 p1.toNatClampNeg)) → zGG p l e R s m args below meth c Q g n1 n2 2 26 [(0, .ref (g.2.1 0)), (1, .int p1)] [.int z4] σ := by
    intro z4 hz4
    replace h := h z4 hz4
    exact hret _ _ _ h d_X8_sum_26
  refine zr_if_eq C 24 d_X8_sum_6 (by decide) (fun hc3 => ?_) (fun hc3 => ?_)
  · skip
    rw [if_pos hc3] at ho6
    refine zr_bipush C (-2 : Int32) d_X8_sum_24 (by decide) ?_
    exact hJ5 _ (by rw [if_pos hc3])
  · skip
    rw [if_neg hc3] at ho6
    refine zr_aload_n C d_X8_sum_9 rfl ?_
    refine zr_getr (u := 1) C fw_X8_10 (sh_0) rfl d_X8_sum_10 ?_
    refine zr_getr (u := 2) C fw_X8_51 (sh_1) rfl d_X8_sum_13 ?_
    refine zr_getr (u := 9) C fw_X8_142 (sh_2) rfl d_X8_sum_16 ?_
    refine zr_iload_n C d_X8_sum_19 rfl ?_
    obtain ⟨ho7, ho6⟩ := ho6
    refine zr_iald C (sh_9) ho7 d_X8_sum_20 ?_
    refine zr_goto C 26 d_X8_sum_21 (by decide) ?_
    exact hJ5 _ (by rw [if_neg hc3])
set_option maxRecDepth 20000 in
theorem c_X8_sum (l : Launch) (g : zG) (p1 : Int32) (σ : zST) (Post : Int32 → Prop) (h : wp_X8_sum p1 σ Post) : Met l yX8_sum (Cond.code yX8_sum cX8_sum 2 (some .int) :: zGW) (zRm 1 22) (va_Pc [.ref (g.2.1 0), .int p1] (zPP g σ)) (va_Qi (fun r u => Post r ∧ u = σ) (zBB g) (zA g)) 0 0 (zA g) :=
  zMet (by decide) (Nat.le_of_ble_eq_true rfl) (fun p e s m below meth c hr C => g_X8_sum C (fun v pc lv hp hd => zr_iret C hr ⟨hp, rfl⟩ hd) h)
def wp_X8_isHour (p0 : Int32) (σ : zST) (Post : Int32 → Prop) : Prop := wp_X8_within p0 (0 : Int32) (999 : Int32) σ (fun r1 => zB r1 ∧ Post r1)
set_option maxRecDepth 100000 in
set_option maxHeartbeats 4000000 in
theorem g_X8_isHour {p : Program} {l : Launch} {e : Env} {R : Room} {s : State} {m : MethodId} {args : Array Value} {below : List Frame} {meth : Method} {c : Code} {Q : State → Prop} {g : zG} {n1 n2 : Nat} (C : zCX p R s m args meth c g n1 n2 cX8_isHour 1 RX8 1 22) {p0 : Int32} {σ : zST} {Post : Int32 → Prop} (hret : ∀ (v : Int32) (pc : Nat) (lv : List (Nat × Value)), zB v → Post v → decode cX8_isHour pc = .ok (.ireturn, 1) → zGG p l e R s m args below meth c Q g n1 n2 1 pc lv [.int v] σ) (h : wp_X8_isHour p0 σ Post) : zGG p l e R s m args below meth c Q g n1 n2 1 0 [(0, .int p0)] [] σ := by
  unfold wp_X8_isHour at h
  refine zr_iload_n C d_X8_isHour_0 rfl ?_
  refine zr_iconst C (0 : Int32) d_X8_isHour_1 (by decide) ?_
  refine zr_sipush C (999 : Int32) d_X8_isHour_2 (by decide) ?_
  refine zr_cip (zr_runS (As := [.int p0, .int (0 : Int32), .int (999 : Int32)]) (rest := []) C sw_X8_47 (c_X8_within l g p0 (0 : Int32) (999 : Int32) σ _ h) (by decide) (by decide) rfl rfl (Nat.le_of_ble_eq_true rfl) d_X8_isHour_5) (fun r1 h => ?_)
  exact hret _ _ _ h.1 h.2 d_X8_isHour_8
set_option maxRecDepth 20000 in
theorem c_X8_isHour (l : Launch) (g : zG) (p0 : Int32) (σ : zST) (Post : Int32 → Prop) (h : wp_X8_isHour p0 σ Post) : Met l yX8_isHour (Cond.code yX8_isHour cX8_isHour 1 (some .boolean) :: zGW) (zRm 1 22) (va_Pc [.int p0] (zPP g σ)) (va_Qi (fun r u => Post r ∧ u = σ) (zBB g) (zA g)) 0 0 (zA g) :=
  zMet (by decide) (Nat.le_of_ble_eq_true rfl) (fun p e s m below meth c hr C => g_X8_isHour C (fun v pc lv hz hp hd => zr_zret C hr hz ⟨hp, rfl⟩ hd) h)
def wp_X8_mean (p1 : Int32) (p2 : Int32) (p3 : Int32) (σ : zST) (Post : Int32 → Prop) : Prop := wp_X6_has 2 p1 σ (fun r1 => (if r1 = (0) then Post (-1 : Int32) else wp_X8_within p2 (0 : Int32) (2 : Int32) σ (fun r4 => (if r4 = (0) then Post (-2 : Int32) else wp_X8_isHour p3 σ (fun r7 => (if r7 = (0) then Post (-2 : Int32) else wp_X6_meanBy 2 p1 p2 p3 σ (fun r10 => Post r10)))))))
set_option maxRecDepth 100000 in
set_option maxHeartbeats 4000000 in
theorem g_X8_mean {p : Program} {l : Launch} {e : Env} {R : Room} {s : State} {m : MethodId} {args : Array Value} {below : List Frame} {meth : Method} {c : Code} {Q : State → Prop} {g : zG} {n1 n2 : Nat} (C : zCX p R s m args meth c g n1 n2 cX8_mean 4 RX8 4 90) {p1 : Int32} {p2 : Int32} {p3 : Int32} {σ : zST} {Post : Int32 → Prop} (hret : ∀ (v : Int32) (pc : Nat) (lv : List (Nat × Value)), Post v → decode cX8_mean pc = .ok (.ireturn, 1) → zGG p l e R s m args below meth c Q g n1 n2 4 pc lv [.int v] σ) (h : wp_X8_mean p1 p2 p3 σ Post) : zGG p l e R s m args below meth c Q g n1 n2 4 0 [(0, .ref (g.2.1 0)), (1, .int p1), (2, .int p2), (3, .int p3)] [] σ := by
  unfold wp_X8_mean at h
  refine zr_aload_n C d_X8_mean_0 rfl ?_
  refine zr_getr (u := 1) C fw_X8_10 (sh_0) rfl d_X8_mean_1 ?_
  refine zr_getr (u := 2) C fw_X8_51 (sh_1) rfl d_X8_mean_4 ?_
  refine zr_iload_n C d_X8_mean_7 rfl ?_
  refine zr_cip (zr_runV (As := [.int p1]) (rest := []) C vw_X8_79 (c_X6_has l g 2 isX6_2 p1 σ _ h) (sh_2) rfl (by decide) (by decide) rfl rfl (Nat.le_of_ble_eq_true rfl) d_X8_mean_8) (fun r1 h => ?_)
  refine zr_if_ne C 16 d_X8_mean_11 (by decide) (fun hc3 => ?_) (fun hc3 => ?_)
  · rw [if_neg hc3] at h
    refine zr_iload_n C d_X8_mean_16 rfl ?_
    refine zr_iconst C (0 : Int32) d_X8_mean_17 (by decide) ?_
    refine zr_iconst C (2 : Int32) d_X8_mean_18 (by decide) ?_
    refine zr_cip (zr_runS (As := [.int p2, .int (0 : Int32), .int (2 : Int32)]) (rest := []) C sw_X8_47 (c_X8_within l g p2 (0 : Int32) (2 : Int32) σ _ h) (by decide) (by decide) rfl rfl (Nat.le_of_ble_eq_true rfl) d_X8_mean_19) (fun r4 h => ?_)
    refine zr_if_eq C 32 d_X8_mean_22 (by decide) (fun hc6 => ?_) (fun hc6 => ?_)
    · rw [if_pos hc6] at h
      refine zr_bipush C (-2 : Int32) d_X8_mean_32 (by decide) ?_
      exact hret _ _ _ h d_X8_mean_34
    · rw [if_neg hc6] at h
      refine zr_iload_n C d_X8_mean_25 rfl ?_
      refine zr_cip (zr_runS (As := [.int p3]) (rest := []) C sw_X8_145 (c_X8_isHour l g p3 σ _ h) (by decide) (by decide) rfl rfl (Nat.le_of_ble_eq_true rfl) d_X8_mean_26) (fun r7 h => ?_)
      refine zr_if_ne C 35 d_X8_mean_29 (by decide) (fun hc9 => ?_) (fun hc9 => ?_)
      · rw [if_neg hc9] at h
        refine zr_aload_n C d_X8_mean_35 rfl ?_
        refine zr_getr (u := 1) C fw_X8_10 (sh_0) rfl d_X8_mean_36 ?_
        refine zr_getr (u := 2) C fw_X8_51 (sh_1) rfl d_X8_mean_39 ?_
        refine zr_iload_n C d_X8_mean_42 rfl ?_
        refine zr_iload_n C d_X8_mean_43 rfl ?_
        refine zr_iload_n C d_X8_mean_44 rfl ?_
        refine zr_cip (zr_runV (As := [.int p1, .int p2, .int p3]) (rest := []) C vw_X8_148 (c_X6_meanBy l g 2 isX6_2 p1 p2 p3 σ _ h) (sh_2) rfl (by decide) (by decide) rfl rfl (Nat.le_of_ble_eq_true rfl) d_X8_mean_45) (fun r10 h => ?_)
        exact hret _ _ _ h d_X8_mean_48
      · rw [if_pos hc9] at h
        refine zr_bipush C (-2 : Int32) d_X8_mean_32 (by decide) ?_
        exact hret _ _ _ h d_X8_mean_34
  · rw [if_pos hc3] at h
    refine zr_iconst C (-1 : Int32) d_X8_mean_14 (by decide) ?_
    exact hret _ _ _ h d_X8_mean_15
set_option maxRecDepth 20000 in
theorem c_X8_mean (l : Launch) (g : zG) (p1 : Int32) (p2 : Int32) (p3 : Int32) (σ : zST) (Post : Int32 → Prop) (h : wp_X8_mean p1 p2 p3 σ Post) : Met l yX8_mean (Cond.code yX8_mean cX8_mean 4 (some .int) :: zGW) (zRm 4 90) (va_Pc [.ref (g.2.1 0), .int p1, .int p2, .int p3] (zPP g σ)) (va_Qi (fun r u => Post r ∧ u = σ) (zBB g) (zA g)) 0 0 (zA g) :=
  zMet (by decide) (Nat.le_of_ble_eq_true rfl) (fun p e s m below meth c hr C => g_X8_mean C (fun v pc lv hp hd => zr_iret C hr ⟨hp, rfl⟩ hd) h)
def wp_X8_worst (p1 : Int32) (p2 : Int32) (p3 : Int32) (σ : zST) (Post : Int32 → Prop) : Prop := wp_X6_has 2 p1 σ (fun r1 => (if r1 = (0) then Post (-1 : Int32) else wp_X8_within p2 (0 : Int32) (2 : Int32) σ (fun r4 => (if r4 = (0) then Post (-2 : Int32) else wp_X8_isHour p3 σ (fun r7 => (if r7 = (0) then Post (-2 : Int32) else wp_X6_worstBy 2 p1 p2 p3 σ (fun r10 => Post r10)))))))
set_option maxRecDepth 100000 in
set_option maxHeartbeats 4000000 in
theorem g_X8_worst {p : Program} {l : Launch} {e : Env} {R : Room} {s : State} {m : MethodId} {args : Array Value} {below : List Frame} {meth : Method} {c : Code} {Q : State → Prop} {g : zG} {n1 n2 : Nat} (C : zCX p R s m args meth c g n1 n2 cX8_worst 4 RX8 4 90) {p1 : Int32} {p2 : Int32} {p3 : Int32} {σ : zST} {Post : Int32 → Prop} (hret : ∀ (v : Int32) (pc : Nat) (lv : List (Nat × Value)), Post v → decode cX8_worst pc = .ok (.ireturn, 1) → zGG p l e R s m args below meth c Q g n1 n2 4 pc lv [.int v] σ) (h : wp_X8_worst p1 p2 p3 σ Post) : zGG p l e R s m args below meth c Q g n1 n2 4 0 [(0, .ref (g.2.1 0)), (1, .int p1), (2, .int p2), (3, .int p3)] [] σ := by
  unfold wp_X8_worst at h
  refine zr_aload_n C d_X8_worst_0 rfl ?_
  refine zr_getr (u := 1) C fw_X8_10 (sh_0) rfl d_X8_worst_1 ?_
  refine zr_getr (u := 2) C fw_X8_51 (sh_1) rfl d_X8_worst_4 ?_
  refine zr_iload_n C d_X8_worst_7 rfl ?_
  refine zr_cip (zr_runV (As := [.int p1]) (rest := []) C vw_X8_79 (c_X6_has l g 2 isX6_2 p1 σ _ h) (sh_2) rfl (by decide) (by decide) rfl rfl (Nat.le_of_ble_eq_true rfl) d_X8_worst_8) (fun r1 h => ?_)
  refine zr_if_ne C 16 d_X8_worst_11 (by decide) (fun hc3 => ?_) (fun hc3 => ?_)
  · rw [if_neg hc3] at h
    refine zr_iload_n C d_X8_worst_16 rfl ?_
    refine zr_iconst C (0 : Int32) d_X8_worst_17 (by decide) ?_
    refine zr_iconst C (2 : Int32) d_X8_worst_18 (by decide) ?_
    refine zr_cip (zr_runS (As := [.int p2, .int (0 : Int32), .int (2 : Int32)]) (rest := []) C sw_X8_47 (c_X8_within l g p2 (0 : Int32) (2 : Int32) σ _ h) (by decide) (by decide) rfl rfl (Nat.le_of_ble_eq_true rfl) d_X8_worst_19) (fun r4 h => ?_)
    refine zr_if_eq C 32 d_X8_worst_22 (by decide) (fun hc6 => ?_) (fun hc6 => ?_)
    · rw [if_pos hc6] at h
      refine zr_bipush C (-2 : Int32) d_X8_worst_32 (by decide) ?_
      exact hret _ _ _ h d_X8_worst_34
    · rw [if_neg hc6] at h
      refine zr_iload_n C d_X8_worst_25 rfl ?_
      refine zr_cip (zr_runS (As := [.int p3]) (rest := []) C sw_X8_145 (c_X8_isHour l g p3 σ _ h) (by decide) (by decide) rfl rfl (Nat.le_of_ble_eq_true rfl) d_X8_worst_26) (fun r7 h => ?_)
      refine zr_if_ne C 35 d_X8_worst_29 (by decide) (fun hc9 => ?_) (fun hc9 => ?_)
      · rw [if_neg hc9] at h
        refine zr_aload_n C d_X8_worst_35 rfl ?_
        refine zr_getr (u := 1) C fw_X8_10 (sh_0) rfl d_X8_worst_36 ?_
        refine zr_getr (u := 2) C fw_X8_51 (sh_1) rfl d_X8_worst_39 ?_
        refine zr_iload_n C d_X8_worst_42 rfl ?_
        refine zr_iload_n C d_X8_worst_43 rfl ?_
        refine zr_iload_n C d_X8_worst_44 rfl ?_
        refine zr_cip (zr_runV (As := [.int p1, .int p2, .int p3]) (rest := []) C vw_X8_152 (c_X6_worstBy l g 2 isX6_2 p1 p2 p3 σ _ h) (sh_2) rfl (by decide) (by decide) rfl rfl (Nat.le_of_ble_eq_true rfl) d_X8_worst_45) (fun r10 h => ?_)
        exact hret _ _ _ h d_X8_worst_48
      · rw [if_pos hc9] at h
        refine zr_bipush C (-2 : Int32) d_X8_worst_32 (by decide) ?_
        exact hret _ _ _ h d_X8_worst_34
  · rw [if_pos hc3] at h
    refine zr_iconst C (-1 : Int32) d_X8_worst_14 (by decide) ?_
    exact hret _ _ _ h d_X8_worst_15
set_option maxRecDepth 20000 in
theorem c_X8_worst (l : Launch) (g : zG) (p1 : Int32) (p2 : Int32) (p3 : Int32) (σ : zST) (Post : Int32 → Prop) (h : wp_X8_worst p1 p2 p3 σ Post) : Met l yX8_worst (Cond.code yX8_worst cX8_worst 4 (some .int) :: zGW) (zRm 4 90) (va_Pc [.ref (g.2.1 0), .int p1, .int p2, .int p3] (zPP g σ)) (va_Qi (fun r u => Post r ∧ u = σ) (zBB g) (zA g)) 0 0 (zA g) :=
  zMet (by decide) (Nat.le_of_ble_eq_true rfl) (fun p e s m below meth c hr C => g_X8_worst C (fun v pc lv hp hd => zr_iret C hr ⟨hp, rfl⟩ hd) h)
def wp_X8_refusalOf (p1 : Int32) (p2 : Int32) (σ : zST) (Post : Int32 → Prop) : Prop := wp_X6_has 2 p1 σ (fun r1 => (if r1 = (0) then Post (-1 : Int32) else wp_X8_isHour p2 σ (fun r4 => ∀ z7 : Int32, z7 = (if r4 = (0) then (-2 : Int32) else (0 : Int32)) → Post z7)))
set_option maxRecDepth 100000 in
set_option maxHeartbeats 4000000 in
theorem g_X8_refusalOf {p : Program} {l : Launch} {e : Env} {R : Room} {s : State} {m : MethodId} {args : Array Value} {below : List Frame} {meth : Method} {c : Code} {Q : State → Prop} {g : zG} {n1 n2 : Nat} (C : zCX p R s m args meth c g n1 n2 cX8_refusalOf 3 RX8 2 43) {p1 : Int32} {p2 : Int32} {σ : zST} {Post : Int32 → Prop} (hret : ∀ (v : Int32) (pc : Nat) (lv : List (Nat × Value)), Post v → decode cX8_refusalOf pc = .ok (.ireturn, 1) → zGG p l e R s m args below meth c Q g n1 n2 3 pc lv [.int v] σ) (h : wp_X8_refusalOf p1 p2 σ Post) : zGG p l e R s m args below meth c Q g n1 n2 3 0 [(0, .ref (g.2.1 0)), (1, .int p1), (2, .int p2)] [] σ := by
  unfold wp_X8_refusalOf at h
  refine zr_aload_n C d_X8_refusalOf_0 rfl ?_
  refine zr_getr (u := 1) C fw_X8_10 (sh_0) rfl d_X8_refusalOf_1 ?_
  refine zr_getr (u := 2) C fw_X8_51 (sh_1) rfl d_X8_refusalOf_4 ?_
  refine zr_iload_n C d_X8_refusalOf_7 rfl ?_
  refine zr_cip (zr_runV (As := [.int p1]) (rest := []) C vw_X8_79 (c_X6_has l g 2 isX6_2 p1 σ _ h) (sh_2) rfl (by decide) (by decide) rfl rfl (Nat.le_of_ble_eq_true rfl) d_X8_refusalOf_8) (fun r1 h => ?_)
  refine zr_if_ne C 16 d_X8_refusalOf_11 (by decide) (fun hc3 => ?_) (fun hc3 => ?_)
  · rw [if_neg hc3] at h
    refine zr_iload_n C d_X8_refusalOf_16 rfl ?_
    refine zr_cip (zr_runS (As := [.int p2]) (rest := []) C sw_X8_145 (c_X8_isHour l g p2 σ _ h) (by decide) (by decide) rfl rfl (Nat.le_of_ble_eq_true rfl) d_X8_refusalOf_17) (fun r4 h => ?_)
    have hJ8 : ∀ z7 : Int32, z7 = (if r4 = (0) then (-2 : Int32) else (0 : Int32)) → zGG p l e R s m args below meth c Q g n1 n2 3 29 [(0, .ref (g.2.1 0)), (1, .int p1), (2, .int p2)] [.int z7] σ := by
      intro z7 hz7
      replace h := h z7 hz7
      exact hret _ _ _ h d_X8_refusalOf_29
    refine zr_if_eq C 27 d_X8_refusalOf_20 (by decide) (fun hc6 => ?_) (fun hc6 => ?_)
    · skip
      refine zr_bipush C (-2 : Int32) d_X8_refusalOf_27 (by decide) ?_
      exact hJ8 _ (by rw [if_pos hc6])
    · skip
      refine zr_iconst C (0 : Int32) d_X8_refusalOf_23 (by decide) ?_
      refine zr_goto C 29 d_X8_refusalOf_24 (by decide) ?_
      exact hJ8 _ (by rw [if_neg hc6])
  · rw [if_pos hc3] at h
    refine zr_iconst C (-1 : Int32) d_X8_refusalOf_14 (by decide) ?_
    exact hret _ _ _ h d_X8_refusalOf_15
set_option maxRecDepth 20000 in
theorem c_X8_refusalOf (l : Launch) (g : zG) (p1 : Int32) (p2 : Int32) (σ : zST) (Post : Int32 → Prop) (h : wp_X8_refusalOf p1 p2 σ Post) : Met l yX8_refusalOf (Cond.code yX8_refusalOf cX8_refusalOf 3 (some .int) :: zGW) (zRm 2 43) (va_Pc [.ref (g.2.1 0), .int p1, .int p2] (zPP g σ)) (va_Qi (fun r u => Post r ∧ u = σ) (zBB g) (zA g)) 0 0 (zA g) :=
  zMet (by decide) (Nat.le_of_ble_eq_true rfl) (fun p e s m below meth c hr C => g_X8_refusalOf C (fun v pc lv hp hd => zr_iret C hr ⟨hp, rfl⟩ hd) h)
def wp_X8_choice (p1 : Int32) (p2 : Int32) (σ : zST) (Post : Int32 → Prop) : Prop := wp_X8_refusalOf p1 p2 σ (fun r1 => (if r1 = (0) then wp_X6_ownersSide 2 p1 p2 σ (fun r4 => Post r4) else Post r1))
set_option maxRecDepth 100000 in
set_option maxHeartbeats 4000000 in
theorem g_X8_choice {p : Program} {l : Launch} {e : Env} {R : Room} {s : State} {m : MethodId} {args : Array Value} {below : List Frame} {meth : Method} {c : Code} {Q : State → Prop} {g : zG} {n1 n2 : Nat} (C : zCX p R s m args meth c g n1 n2 cX8_choice 4 RX8 5 114) {p1 : Int32} {p2 : Int32} {σ : zST} {Post : Int32 → Prop} (hret : ∀ (v : Int32) (pc : Nat) (lv : List (Nat × Value)), Post v → decode cX8_choice pc = .ok (.ireturn, 1) → zGG p l e R s m args below meth c Q g n1 n2 4 pc lv [.int v] σ) (h : wp_X8_choice p1 p2 σ Post) : zGG p l e R s m args below meth c Q g n1 n2 4 0 [(0, .ref (g.2.1 0)), (1, .int p1), (2, .int p2)] [] σ := by
  unfold wp_X8_choice at h
  refine zr_aload_n C d_X8_choice_0 rfl ?_
  refine zr_iload_n C d_X8_choice_1 rfl ?_
  refine zr_iload_n C d_X8_choice_2 rfl ?_
  refine zr_cip (zr_runV (As := [.int p1, .int p2]) (rest := []) C vw_X8_155 (c_X8_refusalOf l g p1 p2 σ _ h) (sh_0) rfl (by decide) (by decide) rfl rfl (Nat.le_of_ble_eq_true rfl) d_X8_choice_3) (fun r1 h => ?_)
  refine zr_istore_n C [(3, .int r1), (0, .ref (g.2.1 0)), (1, .int p1), (2, .int p2)] d_X8_choice_6 (by decide) rfl ?_
  refine zr_iload_n C d_X8_choice_7 rfl ?_
  refine zr_if_eq C 15 d_X8_choice_8 (by decide) (fun hc3 => ?_) (fun hc3 => ?_)
  · rw [if_pos hc3] at h
    refine zr_aload_n C d_X8_choice_15 rfl ?_
    refine zr_getr (u := 1) C fw_X8_10 (sh_0) rfl d_X8_choice_16 ?_
    refine zr_getr (u := 2) C fw_X8_51 (sh_1) rfl d_X8_choice_19 ?_
    refine zr_iload_n C d_X8_choice_22 rfl ?_
    refine zr_iload_n C d_X8_choice_23 rfl ?_
    refine zr_cip (zr_runV (As := [.int p1, .int p2]) (rest := []) C vw_X8_158 (c_X6_ownersSide l g 2 isX6_2 p1 p2 σ _ h) (sh_2) rfl (by decide) (by decide) rfl rfl (Nat.le_of_ble_eq_true rfl) d_X8_choice_24) (fun r4 h => ?_)
    exact hret _ _ _ h d_X8_choice_27
  · rw [if_neg hc3] at h
    refine zr_iload_n C d_X8_choice_11 rfl ?_
    refine zr_goto C 27 d_X8_choice_12 (by decide) ?_
    exact hret _ _ _ h d_X8_choice_27
set_option maxRecDepth 20000 in
theorem c_X8_choice (l : Launch) (g : zG) (p1 : Int32) (p2 : Int32) (σ : zST) (Post : Int32 → Prop) (h : wp_X8_choice p1 p2 σ Post) : Met l yX8_choice (Cond.code yX8_choice cX8_choice 4 (some .int) :: zGW) (zRm 5 114) (va_Pc [.ref (g.2.1 0), .int p1, .int p2] (zPP g σ)) (va_Qi (fun r u => Post r ∧ u = σ) (zBB g) (zA g)) 0 0 (zA g) :=
  zMet (by decide) (Nat.le_of_ble_eq_true rfl) (fun p e s m below meth c hr C => g_X8_choice C (fun v pc lv hp hd => zr_iret C hr ⟨hp, rfl⟩ hd) h)
def wp_X8_held_J114 (v1 : Int32) (v3 : Int32) (v5 : Int32) (v6 : Int32) (σ : zST) (Post : Int32 → Prop) : Prop := (if v3 = (0) then Post v5 else (if v3 = (1 : Int32) then Post v6 else wp_X6_ownersSide 2 v1 v5 σ (fun r15 => Post r15)))

set_option maxRecDepth 100000 in
set_option maxHeartbeats 4000000 in
theorem g_X8_held_J114 {p : Program} {l : Launch} {e : Env} {R : Room} {s : State} {m : MethodId} {args : Array Value} {below : List Frame} {meth : Method} {c : Code} {Q : State → Prop} {g : zG} {n1 n2 : Nat} (C : zCX p R s m args meth c g n1 n2 cX8_held 9 RX8 6 136) {v1 : Int32} {v3 : Int32} {v5 : Int32} {v6 : Int32} {σ : zST}  {Post : Int32 → Prop} (hret : ∀ (v : Int32) (pc : Nat) (lv : List (Nat × Value)), Post v → decode cX8_held pc = .ok (.ireturn, 1) → zGG p l e R s m args below meth c Q g n1 n2 9 pc lv [.int v] σ) (h : wp_X8_held_J114 v1 v3 v5 v6 σ Post) : zGG p l e R s m args below meth c Q g n1 n2 9 114 [(1, .int v1), (3, .int v3), (4, .ref (g.2.1 2)), (5, .int v5), (6, .int v6)] [] σ := by
  unfold wp_X8_held_J114 at h
  refine zr_iload_n C d_X8_held_114 rfl ?_
  refine zr_if_ne C 121 d_X8_held_115 (by decide) (fun hc13 => ?_) (fun hc13 => ?_)
  · rw [if_neg hc13] at h
    refine zr_iload_n C d_X8_held_121 rfl ?_
    refine zr_iconst C (1 : Int32) d_X8_held_122 (by decide) ?_
    refine zr_icmp_ne C 131 d_X8_held_123 (by decide) (fun hc14 => ?_) (fun hc14 => ?_)
    · rw [if_neg hc14] at h
      refine zr_aload C d_X8_held_131 rfl ?_
      refine zr_iload_n C d_X8_held_133 rfl ?_
      refine zr_iload C d_X8_held_134 rfl ?_
      refine zr_cip (zr_runV (As := [.int v1, .int v5]) (rest := []) C vw_X8_158 (c_X6_ownersSide l g 2 isX6_2 v1 v5 σ _ h) (sh_2) rfl (by decide) (by decide) rfl rfl (Nat.le_of_ble_eq_true rfl) d_X8_held_136) (fun r15 h => ?_)
      exact hret _ _ _ h d_X8_held_139
    · rw [if_pos hc14] at h
      refine zr_iload C d_X8_held_126 rfl ?_
      refine zr_goto C 139 d_X8_held_128 (by decide) ?_
      exact hret _ _ _ h d_X8_held_139
  · rw [if_pos hc13] at h
    refine zr_iload C d_X8_held_118 rfl ?_
    exact hret _ _ _ h d_X8_held_120

def wp_X8_held_L58 (v1 : Int32) (v2 : Int32) (v3 : Int32) (σ : zST) (Post : Int32 → Prop) : Nat → Int32 → Int32 → Int32 → Prop
  | 0, _, _, _ => False
  | N + 1, v5, v6, v7 => (if (24 : Int32) ≤ v7 then wp_X8_held_J114 v1 v3 v5 v6 σ Post else wp_X6_leastMean 2 v1 (v2 + v7) σ (fun r17 => ∀ x19 : Int32, x19 = (r17 + (((10 : Int32) * (σ.1 7 (4 : Int32).toNatClampNeg)) * v7)) → (if v6 ≤ x19 then wp_X8_held_L58 v1 v2 v3 σ Post N v5 v6 (v7 + 1) else ∀ x21 : Int32, x21 = (v2 + v7) → wp_X8_held_L58 v1 v2 v3 σ Post N x21 x19 (v7 + 1))))

set_option maxRecDepth 100000 in
set_option maxHeartbeats 4000000 in
theorem g_X8_held_L58 {p : Program} {l : Launch} {e : Env} {R : Room} {s : State} {m : MethodId} {args : Array Value} {below : List Frame} {meth : Method} {c : Code} {Q : State → Prop} {g : zG} {n1 n2 : Nat} (C : zCX p R s m args meth c g n1 n2 cX8_held 9 RX8 6 136) {v1 : Int32} {v2 : Int32} {v3 : Int32} {σ : zST}  {Post : Int32 → Prop} (hret : ∀ (v : Int32) (pc : Nat) (lv : List (Nat × Value)), Post v → decode cX8_held pc = .ok (.ireturn, 1) → zGG p l e R s m args below meth c Q g n1 n2 9 pc lv [.int v] σ) : ∀ (N : Nat) (v5 : Int32) (v6 : Int32) (v7 : Int32) , wp_X8_held_L58 v1 v2 v3 σ Post N v5 v6 v7 → zGG p l e R s m args below meth c Q g n1 n2 9 58 [(1, .int v1), (2, .int v2), (3, .int v3), (4, .ref (g.2.1 2)), (5, .int v5), (6, .int v6), (7, .int v7)] [] σ := by
  intro N
  induction N with
  | zero =>
    intro v5 v6 v7 h
    exact h.elim
  | succ N ih =>
    intro v5 v6 v7 h
    rw [wp_X8_held_L58] at h
    refine zr_iload C d_X8_held_58 rfl ?_
    refine zr_bipush C (24 : Int32) d_X8_held_60 (by decide) ?_
    refine zr_icmp_ge C 114 d_X8_held_62 (by decide) (fun hc12 => ?_) (fun hc12 => ?_)
    · rw [if_pos hc12] at h
      exact zr_pick [0, 2, 3, 4, 5] rfl (g_X8_held_J114 C hret h)
    · rw [if_neg hc12] at h
      refine zr_aload C d_X8_held_65 rfl ?_
      refine zr_iload_n C d_X8_held_67 rfl ?_
      refine zr_iload_n C d_X8_held_68 rfl ?_
      refine zr_iload C d_X8_held_69 rfl ?_
      refine zr_iadd C d_X8_held_71 ?_
      refine zr_cip (zr_runV (As := [.int v1, .int (v2 + v7)]) (rest := []) C vw_X8_161 (c_X6_leastMean l g 2 isX6_2 v1 (v2 + v7) σ _ h) (sh_2) rfl (by decide) (by decide) rfl rfl (Nat.le_of_ble_eq_true rfl) d_X8_held_72) (fun r17 h => ?_)
      refine zr_bipush C (10 : Int32) d_X8_held_75 (by decide) ?_
      refine zr_aload C d_X8_held_77 rfl ?_
      refine zr_getr (u := 7) C fw_X8_89 (sh_2) rfl d_X8_held_79 ?_
      refine zr_iconst C (4 : Int32) d_X8_held_82 (by decide) ?_
      refine zr_iald C (sh_7) (by unfold vp_in; decide) d_X8_held_83 ?_
      refine zr_imul C d_X8_held_84 ?_
      refine zr_iload C d_X8_held_85 rfl ?_
      refine zr_imul C d_X8_held_87 ?_
      refine zr_iadd C d_X8_held_88 ?_
      refine zr_topi (fun x19 hx19 => ?_)
      replace h := h x19 hx19
      refine zr_istore C [(8, .int x19), (1, .int v1), (2, .int v2), (3, .int v3), (4, .ref (g.2.1 2)), (5, .int v5), (6, .int v6), (7, .int v7)] d_X8_held_89 (by decide) rfl ?_
      refine zr_iload C d_X8_held_91 rfl ?_
      refine zr_iload C d_X8_held_93 rfl ?_
      refine zr_icmp_ge C 108 d_X8_held_95 (by decide) (fun hc20 => ?_) (fun hc20 => ?_)
      · rw [if_pos hc20] at h
        refine zr_iinc C (v7 + 1) [(7, .int (v7 + 1)), (8, .int x19), (1, .int v1), (2, .int v2), (3, .int v3), (4, .ref (g.2.1 2)), (5, .int v5), (6, .int v6)] d_X8_held_108 rfl rfl (by decide) rfl ?_
        refine zr_goto C 58 d_X8_held_111 (by decide) ?_
        exact zr_pick [2, 3, 4, 5, 6, 7, 0] rfl (ih v5 v6 (v7 + 1) h)
      · rw [if_neg hc20] at h
        refine zr_iload C d_X8_held_98 rfl ?_
        refine zr_istore C [(6, .int x19), (8, .int x19), (1, .int v1), (2, .int v2), (3, .int v3), (4, .ref (g.2.1 2)), (5, .int v5), (7, .int v7)] d_X8_held_100 (by decide) rfl ?_
        refine zr_iload_n C d_X8_held_102 rfl ?_
        refine zr_iload C d_X8_held_103 rfl ?_
        refine zr_iadd C d_X8_held_105 ?_
        refine zr_topi (fun x21 hx21 => ?_)
        replace h := h x21 hx21
        refine zr_istore C [(5, .int x21), (6, .int x19), (8, .int x19), (1, .int v1), (2, .int v2), (3, .int v3), (4, .ref (g.2.1 2)), (7, .int v7)] d_X8_held_106 (by decide) rfl ?_
        refine zr_iinc C (v7 + 1) [(7, .int (v7 + 1)), (5, .int x21), (6, .int x19), (8, .int x19), (1, .int v1), (2, .int v2), (3, .int v3), (4, .ref (g.2.1 2))] d_X8_held_108 rfl rfl (by decide) rfl ?_
        refine zr_goto C 58 d_X8_held_111 (by decide) ?_
        exact zr_pick [4, 5, 6, 7, 1, 2, 0] rfl (ih x21 x19 (v7 + 1) h)

def wp_X8_held (p1 : Int32) (p2 : Int32) (p3 : Int32) (σ : zST) (Post : Int32 → Prop) : Prop := wp_X6_has 2 p1 σ (fun r1 => (if r1 = (0) then Post (-1 : Int32) else wp_X8_within p2 (0 : Int32) (976 : Int32) σ (fun r4 => (if r4 = (0) then Post (-2 : Int32) else wp_X8_within p3 (0 : Int32) (2 : Int32) σ (fun r7 => (if r7 = (0) then Post (-2 : Int32) else wp_X6_leastMean 2 p1 p2 σ (fun r10 => ∃ M22 : Nat, wp_X8_held_L58 p1 p2 p3 σ Post M22 p2 r10 (1 : Int32))))))))
set_option maxRecDepth 100000 in
set_option maxHeartbeats 4000000 in
theorem g_X8_held {p : Program} {l : Launch} {e : Env} {R : Room} {s : State} {m : MethodId} {args : Array Value} {below : List Frame} {meth : Method} {c : Code} {Q : State → Prop} {g : zG} {n1 n2 : Nat} (C : zCX p R s m args meth c g n1 n2 cX8_held 9 RX8 6 136) {p1 : Int32} {p2 : Int32} {p3 : Int32} {σ : zST} {Post : Int32 → Prop} (hret : ∀ (v : Int32) (pc : Nat) (lv : List (Nat × Value)), Post v → decode cX8_held pc = .ok (.ireturn, 1) → zGG p l e R s m args below meth c Q g n1 n2 9 pc lv [.int v] σ) (h : wp_X8_held p1 p2 p3 σ Post) : zGG p l e R s m args below meth c Q g n1 n2 9 0 [(0, .ref (g.2.1 0)), (1, .int p1), (2, .int p2), (3, .int p3)] [] σ := by
  unfold wp_X8_held at h
  refine zr_aload_n C d_X8_held_0 rfl ?_
  refine zr_getr (u := 1) C fw_X8_10 (sh_0) rfl d_X8_held_1 ?_
  refine zr_getr (u := 2) C fw_X8_51 (sh_1) rfl d_X8_held_4 ?_
  refine zr_astore C [(4, .ref (g.2.1 2)), (0, .ref (g.2.1 0)), (1, .int p1), (2, .int p2), (3, .int p3)] d_X8_held_7 (by decide) rfl ?_
  refine zr_aload C d_X8_held_9 rfl ?_
  refine zr_iload_n C d_X8_held_11 rfl ?_
  refine zr_cip (zr_runV (As := [.int p1]) (rest := []) C vw_X8_79 (c_X6_has l g 2 isX6_2 p1 σ _ h) (sh_2) rfl (by decide) (by decide) rfl rfl (Nat.le_of_ble_eq_true rfl) d_X8_held_12) (fun r1 h => ?_)
  refine zr_if_ne C 20 d_X8_held_15 (by decide) (fun hc3 => ?_) (fun hc3 => ?_)
  · rw [if_neg hc3] at h
    refine zr_iload_n C d_X8_held_20 rfl ?_
    refine zr_iconst C (0 : Int32) d_X8_held_21 (by decide) ?_
    refine zr_sipush C (976 : Int32) d_X8_held_22 (by decide) ?_
    refine zr_cip (zr_runS (As := [.int p2, .int (0 : Int32), .int (976 : Int32)]) (rest := []) C sw_X8_47 (c_X8_within l g p2 (0 : Int32) (976 : Int32) σ _ h) (by decide) (by decide) rfl rfl (Nat.le_of_ble_eq_true rfl) d_X8_held_25) (fun r4 h => ?_)
    refine zr_if_eq C 40 d_X8_held_28 (by decide) (fun hc6 => ?_) (fun hc6 => ?_)
    · rw [if_pos hc6] at h
      refine zr_bipush C (-2 : Int32) d_X8_held_40 (by decide) ?_
      exact hret _ _ _ h d_X8_held_42
    · rw [if_neg hc6] at h
      refine zr_iload_n C d_X8_held_31 rfl ?_
      refine zr_iconst C (0 : Int32) d_X8_held_32 (by decide) ?_
      refine zr_iconst C (2 : Int32) d_X8_held_33 (by decide) ?_
      refine zr_cip (zr_runS (As := [.int p3, .int (0 : Int32), .int (2 : Int32)]) (rest := []) C sw_X8_47 (c_X8_within l g p3 (0 : Int32) (2 : Int32) σ _ h) (by decide) (by decide) rfl rfl (Nat.le_of_ble_eq_true rfl) d_X8_held_34) (fun r7 h => ?_)
      refine zr_if_ne C 43 d_X8_held_37 (by decide) (fun hc9 => ?_) (fun hc9 => ?_)
      · rw [if_neg hc9] at h
        refine zr_iload_n C d_X8_held_43 rfl ?_
        refine zr_istore C [(5, .int p2), (4, .ref (g.2.1 2)), (0, .ref (g.2.1 0)), (1, .int p1), (2, .int p2), (3, .int p3)] d_X8_held_44 (by decide) rfl ?_
        refine zr_aload C d_X8_held_46 rfl ?_
        refine zr_iload_n C d_X8_held_48 rfl ?_
        refine zr_iload_n C d_X8_held_49 rfl ?_
        refine zr_cip (zr_runV (As := [.int p1, .int p2]) (rest := []) C vw_X8_161 (c_X6_leastMean l g 2 isX6_2 p1 p2 σ _ h) (sh_2) rfl (by decide) (by decide) rfl rfl (Nat.le_of_ble_eq_true rfl) d_X8_held_50) (fun r10 h => ?_)
        refine zr_istore C [(6, .int r10), (5, .int p2), (4, .ref (g.2.1 2)), (0, .ref (g.2.1 0)), (1, .int p1), (2, .int p2), (3, .int p3)] d_X8_held_53 (by decide) rfl ?_
        refine zr_iconst C (1 : Int32) d_X8_held_55 (by decide) ?_
        refine zr_istore C [(7, .int (1 : Int32)), (6, .int r10), (5, .int p2), (4, .ref (g.2.1 2)), (0, .ref (g.2.1 0)), (1, .int p1), (2, .int p2), (3, .int p3)] d_X8_held_56 (by decide) rfl ?_
        obtain ⟨M22, h⟩ := h
        exact zr_pick [5, 6, 7, 3, 2, 1, 0] rfl (g_X8_held_L58 C hret M22 p2 r10 (1 : Int32) h)
      · rw [if_pos hc9] at h
        refine zr_bipush C (-2 : Int32) d_X8_held_40 (by decide) ?_
        exact hret _ _ _ h d_X8_held_42
  · rw [if_pos hc3] at h
    refine zr_iconst C (-1 : Int32) d_X8_held_18 (by decide) ?_
    exact hret _ _ _ h d_X8_held_19
set_option maxRecDepth 20000 in
theorem c_X8_held (l : Launch) (g : zG) (p1 : Int32) (p2 : Int32) (p3 : Int32) (σ : zST) (Post : Int32 → Prop) (h : wp_X8_held p1 p2 p3 σ Post) : Met l yX8_held (Cond.code yX8_held cX8_held 9 (some .int) :: zGW) (zRm 6 136) (va_Pc [.ref (g.2.1 0), .int p1, .int p2, .int p3] (zPP g σ)) (va_Qi (fun r u => Post r ∧ u = σ) (zBB g) (zA g)) 0 0 (zA g) :=
  zMet (by decide) (Nat.le_of_ble_eq_true rfl) (fun p e s m below meth c hr C => g_X8_held C (fun v pc lv hp hd => zr_iret C hr ⟨hp, rfl⟩ hd) h)
def wp_X8_bound (p1 : Int32) (p2 : Int32) (p3 : Int32) (σ : zST) (Post : Int32 → zST → Prop) : Prop := (if p3 = (-1 : Int32) then wp_X8_isHour p1 σ (fun r2 => (if r2 = (0) then Post (-2 : Int32) σ else wp_X8_within p2 (0 : Int32) (99999 : Int32) σ (fun r5 => (if r5 = (0) then Post (-2 : Int32) σ else wp_X2_gather 2 p1 σ (fun σ9 => wp_X2_leastWithin p2 σ9 (fun r10 σ11 => (if r10 = (-6 : Int32) then Post (-6 : Int32) σ11 else (if p3 = (-1 : Int32) then wp_X2_meanOfChoice r10 σ11 (fun r16 => Post r16 σ11) else wp_X2_sideInChoice r10 p3 σ11 (fun r14 => Post r14 σ11))))))))) else wp_X6_moored 2 p3 σ (fun r18 => (if r18 = (0) then Post (-1 : Int32) σ else wp_X8_isHour p1 σ (fun r21 => (if r21 = (0) then Post (-2 : Int32) σ else wp_X8_within p2 (0 : Int32) (99999 : Int32) σ (fun r24 => (if r24 = (0) then Post (-2 : Int32) σ else wp_X2_gather 2 p1 σ (fun σ28 => wp_X2_leastWithin p2 σ28 (fun r29 σ30 => (if r29 = (-6 : Int32) then Post (-6 : Int32) σ30 else (if p3 = (-1 : Int32) then wp_X2_meanOfChoice r29 σ30 (fun r35 => Post r35 σ30) else wp_X2_sideInChoice r29 p3 σ30 (fun r33 => Post r33 σ30))))))))))))
set_option maxRecDepth 100000 in
set_option maxHeartbeats 4000000 in
theorem g_X8_bound {p : Program} {l : Launch} {e : Env} {R : Room} {s : State} {m : MethodId} {args : Array Value} {below : List Frame} {meth : Method} {c : Code} {Q : State → Prop} {g : zG} {n1 n2 : Nat} (C : zCX p R s m args meth c g n1 n2 cX8_bound 5 RX8 5 116) {p1 : Int32} {p2 : Int32} {p3 : Int32} {σ : zST} {Post : Int32 → zST → Prop} (hret : ∀ (v : Int32) (σ : zST) (pc : Nat) (lv : List (Nat × Value)), Post v σ → decode cX8_bound pc = .ok (.ireturn, 1) → zGG p l e R s m args below meth c Q g n1 n2 5 pc lv [.int v] σ) (h : wp_X8_bound p1 p2 p3 σ Post) : zGG p l e R s m args below meth c Q g n1 n2 5 0 [(0, .ref (g.2.1 0)), (1, .int p1), (2, .int p2), (3, .int p3)] [] σ := by
  unfold wp_X8_bound at h
  refine zr_iload_n C d_X8_bound_0 rfl ?_
  refine zr_iconst C (-1 : Int32) d_X8_bound_1 (by decide) ?_
  refine zr_icmp_eq C 21 d_X8_bound_2 (by decide) (fun hc1 => ?_) (fun hc1 => ?_)
  · rw [if_pos hc1] at h
    refine zr_iload_n C d_X8_bound_21 rfl ?_
    refine zr_cip (zr_runS (As := [.int p1]) (rest := []) C sw_X8_145 (c_X8_isHour l g p1 σ _ h) (by decide) (by decide) rfl rfl (Nat.le_of_ble_eq_true rfl) d_X8_bound_22) (fun r2 h => ?_)
    refine zr_if_eq C 38 d_X8_bound_25 (by decide) (fun hc4 => ?_) (fun hc4 => ?_)
    · rw [if_pos hc4] at h
      refine zr_bipush C (-2 : Int32) d_X8_bound_38 (by decide) ?_
      exact hret _ _ _ _ h d_X8_bound_40
    · rw [if_neg hc4] at h
      refine zr_iload_n C d_X8_bound_28 rfl ?_
      refine zr_iconst C (0 : Int32) d_X8_bound_29 (by decide) ?_
      refine zr_ldc C (v := (99999 : Int32)) cw_X8_167 d_X8_bound_30 ?_
      refine zr_cip (zr_runS (As := [.int p2, .int (0 : Int32), .int (99999 : Int32)]) (rest := []) C sw_X8_47 (c_X8_within l g p2 (0 : Int32) (99999 : Int32) σ _ h) (by decide) (by decide) rfl rfl (Nat.le_of_ble_eq_true rfl) d_X8_bound_32) (fun r5 h => ?_)
      refine zr_if_ne C 41 d_X8_bound_35 (by decide) (fun hc7 => ?_) (fun hc7 => ?_)
      · rw [if_neg hc7] at h
        refine zr_aload_n C d_X8_bound_41 rfl ?_
        refine zr_getr (u := 63) C fw_X8_43 (sh_0) rfl d_X8_bound_42 ?_
        refine zr_aload_n C d_X8_bound_45 rfl ?_
        refine zr_getr (u := 1) C fw_X8_10 (sh_0) rfl d_X8_bound_46 ?_
        refine zr_getr (u := 2) C fw_X8_51 (sh_1) rfl d_X8_bound_49 ?_
        refine zr_iload_n C d_X8_bound_52 rfl ?_
        refine zr_cv (zr_runV (As := [.ref (g.2.1 2), .int p1]) (rest := []) C vw_X8_168 (c_X2_gather l g 2 isX6_2 p1 σ _ h) (sh_63) rfl (by decide) (by decide) rfl rfl (Nat.le_of_ble_eq_true rfl) d_X8_bound_53) (fun σ9 h => ?_)
        refine zr_aload_n C d_X8_bound_56 rfl ?_
        refine zr_getr (u := 63) C fw_X8_43 (sh_0) rfl d_X8_bound_57 ?_
        refine zr_iload_n C d_X8_bound_60 rfl ?_
        refine zr_ci (zr_runV (As := [.int p2]) (rest := []) C vw_X8_172 (c_X2_leastWithin l g p2 σ9 _ h) (sh_63) rfl (by decide) (by decide) rfl rfl (Nat.le_of_ble_eq_true rfl) d_X8_bound_61) (fun r10 σ11 h => ?_)
        refine zr_istore C [(4, .int r10), (0, .ref (g.2.1 0)), (1, .int p1), (2, .int p2), (3, .int p3)] d_X8_bound_64 (by decide) rfl ?_
        refine zr_iload C d_X8_bound_66 rfl ?_
        refine zr_bipush C (-6 : Int32) d_X8_bound_68 (by decide) ?_
        refine zr_icmp_ne C 76 d_X8_bound_70 (by decide) (fun hc12 => ?_) (fun hc12 => ?_)
        · rw [if_neg hc12] at h
          refine zr_iload_n C d_X8_bound_76 rfl ?_
          refine zr_iconst C (-1 : Int32) d_X8_bound_77 (by decide) ?_
          refine zr_icmp_ne C 93 d_X8_bound_78 (by decide) (fun hc13 => ?_) (fun hc13 => ?_)
          · rw [if_neg hc13] at h
            refine zr_aload_n C d_X8_bound_93 rfl ?_
            refine zr_getr (u := 63) C fw_X8_43 (sh_0) rfl d_X8_bound_94 ?_
            refine zr_iload C d_X8_bound_97 rfl ?_
            refine zr_iload_n C d_X8_bound_99 rfl ?_
            refine zr_cip (zr_runV (As := [.int r10, .int p3]) (rest := []) C vw_X8_178 (c_X2_sideInChoice l g r10 p3 σ11 _ h) (sh_63) rfl (by decide) (by decide) rfl rfl (Nat.le_of_ble_eq_true rfl) d_X8_bound_100) (fun r14 h => ?_)
            exact hret _ _ _ _ h d_X8_bound_103
          · rw [if_pos hc13] at h
            refine zr_aload_n C d_X8_bound_81 rfl ?_
            refine zr_getr (u := 63) C fw_X8_43 (sh_0) rfl d_X8_bound_82 ?_
            refine zr_iload C d_X8_bound_85 rfl ?_
            refine zr_cip (zr_runV (As := [.int r10]) (rest := []) C vw_X8_175 (c_X2_meanOfChoice l g r10 σ11 _ h) (sh_63) rfl (by decide) (by decide) rfl rfl (Nat.le_of_ble_eq_true rfl) d_X8_bound_87) (fun r16 h => ?_)
            refine zr_goto C 103 d_X8_bound_90 (by decide) ?_
            exact hret _ _ _ _ h d_X8_bound_103
        · rw [if_pos hc12] at h
          refine zr_bipush C (-6 : Int32) d_X8_bound_73 (by decide) ?_
          exact hret _ _ _ _ h d_X8_bound_75
      · rw [if_pos hc7] at h
        refine zr_bipush C (-2 : Int32) d_X8_bound_38 (by decide) ?_
        exact hret _ _ _ _ h d_X8_bound_40
  · rw [if_neg hc1] at h
    refine zr_aload_n C d_X8_bound_5 rfl ?_
    refine zr_getr (u := 1) C fw_X8_10 (sh_0) rfl d_X8_bound_6 ?_
    refine zr_getr (u := 2) C fw_X8_51 (sh_1) rfl d_X8_bound_9 ?_
    refine zr_iload_n C d_X8_bound_12 rfl ?_
    refine zr_cip (zr_runV (As := [.int p3]) (rest := []) C vw_X8_164 (c_X6_moored l g 2 isX6_2 p3 σ _ h) (sh_2) rfl (by decide) (by decide) rfl rfl (Nat.le_of_ble_eq_true rfl) d_X8_bound_13) (fun r18 h => ?_)
    refine zr_if_ne C 21 d_X8_bound_16 (by decide) (fun hc20 => ?_) (fun hc20 => ?_)
    · rw [if_neg hc20] at h
      refine zr_iload_n C d_X8_bound_21 rfl ?_
      refine zr_cip (zr_runS (As := [.int p1]) (rest := []) C sw_X8_145 (c_X8_isHour l g p1 σ _ h) (by decide) (by decide) rfl rfl (Nat.le_of_ble_eq_true rfl) d_X8_bound_22) (fun r21 h => ?_)
      refine zr_if_eq C 38 d_X8_bound_25 (by decide) (fun hc23 => ?_) (fun hc23 => ?_)
      · rw [if_pos hc23] at h
        refine zr_bipush C (-2 : Int32) d_X8_bound_38 (by decide) ?_
        exact hret _ _ _ _ h d_X8_bound_40
      · rw [if_neg hc23] at h
        refine zr_iload_n C d_X8_bound_28 rfl ?_
        refine zr_iconst C (0 : Int32) d_X8_bound_29 (by decide) ?_
        refine zr_ldc C (v := (99999 : Int32)) cw_X8_167 d_X8_bound_30 ?_
        refine zr_cip (zr_runS (As := [.int p2, .int (0 : Int32), .int (99999 : Int32)]) (rest := []) C sw_X8_47 (c_X8_within l g p2 (0 : Int32) (99999 : Int32) σ _ h) (by decide) (by decide) rfl rfl (Nat.le_of_ble_eq_true rfl) d_X8_bound_32) (fun r24 h => ?_)
        refine zr_if_ne C 41 d_X8_bound_35 (by decide) (fun hc26 => ?_) (fun hc26 => ?_)
        · rw [if_neg hc26] at h
          refine zr_aload_n C d_X8_bound_41 rfl ?_
          refine zr_getr (u := 63) C fw_X8_43 (sh_0) rfl d_X8_bound_42 ?_
          refine zr_aload_n C d_X8_bound_45 rfl ?_
          refine zr_getr (u := 1) C fw_X8_10 (sh_0) rfl d_X8_bound_46 ?_
          refine zr_getr (u := 2) C fw_X8_51 (sh_1) rfl d_X8_bound_49 ?_
          refine zr_iload_n C d_X8_bound_52 rfl ?_
          refine zr_cv (zr_runV (As := [.ref (g.2.1 2), .int p1]) (rest := []) C vw_X8_168 (c_X2_gather l g 2 isX6_2 p1 σ _ h) (sh_63) rfl (by decide) (by decide) rfl rfl (Nat.le_of_ble_eq_true rfl) d_X8_bound_53) (fun σ28 h => ?_)
          refine zr_aload_n C d_X8_bound_56 rfl ?_
          refine zr_getr (u := 63) C fw_X8_43 (sh_0) rfl d_X8_bound_57 ?_
          refine zr_iload_n C d_X8_bound_60 rfl ?_
          refine zr_ci (zr_runV (As := [.int p2]) (rest := []) C vw_X8_172 (c_X2_leastWithin l g p2 σ28 _ h) (sh_63) rfl (by decide) (by decide) rfl rfl (Nat.le_of_ble_eq_true rfl) d_X8_bound_61) (fun r29 σ30 h => ?_)
          refine zr_istore C [(4, .int r29), (0, .ref (g.2.1 0)), (1, .int p1), (2, .int p2), (3, .int p3)] d_X8_bound_64 (by decide) rfl ?_
          refine zr_iload C d_X8_bound_66 rfl ?_
          refine zr_bipush C (-6 : Int32) d_X8_bound_68 (by decide) ?_
          refine zr_icmp_ne C 76 d_X8_bound_70 (by decide) (fun hc31 => ?_) (fun hc31 => ?_)
          · rw [if_neg hc31] at h
            refine zr_iload_n C d_X8_bound_76 rfl ?_
            refine zr_iconst C (-1 : Int32) d_X8_bound_77 (by decide) ?_
            refine zr_icmp_ne C 93 d_X8_bound_78 (by decide) (fun hc32 => ?_) (fun hc32 => ?_)
            · rw [if_neg hc32] at h
              refine zr_aload_n C d_X8_bound_93 rfl ?_
              refine zr_getr (u := 63) C fw_X8_43 (sh_0) rfl d_X8_bound_94 ?_
              refine zr_iload C d_X8_bound_97 rfl ?_
              refine zr_iload_n C d_X8_bound_99 rfl ?_
              refine zr_cip (zr_runV (As := [.int r29, .int p3]) (rest := []) C vw_X8_178 (c_X2_sideInChoice l g r29 p3 σ30 _ h) (sh_63) rfl (by decide) (by decide) rfl rfl (Nat.le_of_ble_eq_true rfl) d_X8_bound_100) (fun r33 h => ?_)
              exact hret _ _ _ _ h d_X8_bound_103
            · rw [if_pos hc32] at h
              refine zr_aload_n C d_X8_bound_81 rfl ?_
              refine zr_getr (u := 63) C fw_X8_43 (sh_0) rfl d_X8_bound_82 ?_
              refine zr_iload C d_X8_bound_85 rfl ?_
              refine zr_cip (zr_runV (As := [.int r29]) (rest := []) C vw_X8_175 (c_X2_meanOfChoice l g r29 σ30 _ h) (sh_63) rfl (by decide) (by decide) rfl rfl (Nat.le_of_ble_eq_true rfl) d_X8_bound_87) (fun r35 h => ?_)
              refine zr_goto C 103 d_X8_bound_90 (by decide) ?_
              exact hret _ _ _ _ h d_X8_bound_103
          · rw [if_pos hc31] at h
            refine zr_bipush C (-6 : Int32) d_X8_bound_73 (by decide) ?_
            exact hret _ _ _ _ h d_X8_bound_75
        · rw [if_pos hc26] at h
          refine zr_bipush C (-2 : Int32) d_X8_bound_38 (by decide) ?_
          exact hret _ _ _ _ h d_X8_bound_40
    · rw [if_pos hc20] at h
      refine zr_iconst C (-1 : Int32) d_X8_bound_19 (by decide) ?_
      exact hret _ _ _ _ h d_X8_bound_20
set_option maxRecDepth 20000 in
theorem c_X8_bound (l : Launch) (g : zG) (p1 : Int32) (p2 : Int32) (p3 : Int32) (σ : zST) (Post : Int32 → zST → Prop) (h : wp_X8_bound p1 p2 p3 σ Post) : Met l yX8_bound (Cond.code yX8_bound cX8_bound 5 (some .int) :: zGW) (zRm 5 116) (va_Pc [.ref (g.2.1 0), .int p1, .int p2, .int p3] (zPP g σ)) (va_Qi Post (zBB g) (zA g)) 0 0 (zA g) :=
  zMet (by decide) (Nat.le_of_ble_eq_true rfl) (fun p e s m below meth c hr C => g_X8_bound C (fun v σ pc lv hp hd => zr_iret C hr hp hd) h)
def wp_X8_line (p1 : Int32) (p2 : Int32) (p3 : Int32) (σ : zST) (Post : Int32 → zST → Prop) : Prop := wp_X8_isHour p1 σ (fun r1 => (if r1 = (0) then Post (-2 : Int32) σ else (if p2 < (-1 : Int32) then Post (-2 : Int32) σ else wp_X8_within p3 (0 : Int32) (1 : Int32) σ (fun r5 => (if r5 = (0) then Post (-2 : Int32) σ else wp_X2_gather 2 p1 σ (fun σ9 => wp_X2_drawLine σ9 (fun r10 σ11 => (if p2 = (-1 : Int32) then Post r10 σ11 else (if r10 ≤ p2 then Post (-6 : Int32) σ11 else wp_X2_onLine p2 p3 σ11 (fun r14 => Post r14 σ11))))))))))
set_option maxRecDepth 100000 in
set_option maxHeartbeats 4000000 in
theorem g_X8_line {p : Program} {l : Launch} {e : Env} {R : Room} {s : State} {m : MethodId} {args : Array Value} {below : List Frame} {meth : Method} {c : Code} {Q : State → Prop} {g : zG} {n1 n2 : Nat} (C : zCX p R s m args meth c g n1 n2 cX8_line 5 RX8 5 116) {p1 : Int32} {p2 : Int32} {p3 : Int32} {σ : zST} {Post : Int32 → zST → Prop} (hret : ∀ (v : Int32) (σ : zST) (pc : Nat) (lv : List (Nat × Value)), Post v σ → decode cX8_line pc = .ok (.ireturn, 1) → zGG p l e R s m args below meth c Q g n1 n2 5 pc lv [.int v] σ) (h : wp_X8_line p1 p2 p3 σ Post) : zGG p l e R s m args below meth c Q g n1 n2 5 0 [(0, .ref (g.2.1 0)), (1, .int p1), (2, .int p2), (3, .int p3)] [] σ := by
  unfold wp_X8_line at h
  refine zr_iload_n C d_X8_line_0 rfl ?_
  refine zr_cip (zr_runS (As := [.int p1]) (rest := []) C sw_X8_145 (c_X8_isHour l g p1 σ _ h) (by decide) (by decide) rfl rfl (Nat.le_of_ble_eq_true rfl) d_X8_line_1) (fun r1 h => ?_)
  refine zr_if_eq C 21 d_X8_line_4 (by decide) (fun hc3 => ?_) (fun hc3 => ?_)
  · rw [if_pos hc3] at h
    refine zr_bipush C (-2 : Int32) d_X8_line_21 (by decide) ?_
    exact hret _ _ _ _ h d_X8_line_23
  · rw [if_neg hc3] at h
    refine zr_iload_n C d_X8_line_7 rfl ?_
    refine zr_iconst C (-1 : Int32) d_X8_line_8 (by decide) ?_
    refine zr_icmp_lt C 21 d_X8_line_9 (by decide) (fun hc4 => ?_) (fun hc4 => ?_)
    · rw [if_pos hc4] at h
      refine zr_bipush C (-2 : Int32) d_X8_line_21 (by decide) ?_
      exact hret _ _ _ _ h d_X8_line_23
    · rw [if_neg hc4] at h
      refine zr_iload_n C d_X8_line_12 rfl ?_
      refine zr_iconst C (0 : Int32) d_X8_line_13 (by decide) ?_
      refine zr_iconst C (1 : Int32) d_X8_line_14 (by decide) ?_
      refine zr_cip (zr_runS (As := [.int p3, .int (0 : Int32), .int (1 : Int32)]) (rest := []) C sw_X8_47 (c_X8_within l g p3 (0 : Int32) (1 : Int32) σ _ h) (by decide) (by decide) rfl rfl (Nat.le_of_ble_eq_true rfl) d_X8_line_15) (fun r5 h => ?_)
      refine zr_if_ne C 24 d_X8_line_18 (by decide) (fun hc7 => ?_) (fun hc7 => ?_)
      · rw [if_neg hc7] at h
        refine zr_aload_n C d_X8_line_24 rfl ?_
        refine zr_getr (u := 63) C fw_X8_43 (sh_0) rfl d_X8_line_25 ?_
        refine zr_aload_n C d_X8_line_28 rfl ?_
        refine zr_getr (u := 1) C fw_X8_10 (sh_0) rfl d_X8_line_29 ?_
        refine zr_getr (u := 2) C fw_X8_51 (sh_1) rfl d_X8_line_32 ?_
        refine zr_iload_n C d_X8_line_35 rfl ?_
        refine zr_cv (zr_runV (As := [.ref (g.2.1 2), .int p1]) (rest := []) C vw_X8_168 (c_X2_gather l g 2 isX6_2 p1 σ _ h) (sh_63) rfl (by decide) (by decide) rfl rfl (Nat.le_of_ble_eq_true rfl) d_X8_line_36) (fun σ9 h => ?_)
        refine zr_aload_n C d_X8_line_39 rfl ?_
        refine zr_getr (u := 63) C fw_X8_43 (sh_0) rfl d_X8_line_40 ?_
        refine zr_ci (zr_runV (As := []) (rest := []) C vw_X8_181 (c_X2_drawLine l g σ9 _ h) (sh_63) rfl (by decide) (by decide) rfl rfl (Nat.le_of_ble_eq_true rfl) d_X8_line_43) (fun r10 σ11 h => ?_)
        refine zr_istore C [(4, .int r10), (0, .ref (g.2.1 0)), (1, .int p1), (2, .int p2), (3, .int p3)] d_X8_line_46 (by decide) rfl ?_
        refine zr_iload_n C d_X8_line_48 rfl ?_
        refine zr_iconst C (-1 : Int32) d_X8_line_49 (by decide) ?_
        refine zr_icmp_ne C 56 d_X8_line_50 (by decide) (fun hc12 => ?_) (fun hc12 => ?_)
        · rw [if_neg hc12] at h
          refine zr_iload_n C d_X8_line_56 rfl ?_
          refine zr_iload C d_X8_line_57 rfl ?_
          refine zr_icmp_ge C 74 d_X8_line_59 (by decide) (fun hc13 => ?_) (fun hc13 => ?_)
          · rw [if_pos hc13] at h
            refine zr_bipush C (-6 : Int32) d_X8_line_74 (by decide) ?_
            exact hret _ _ _ _ h d_X8_line_76
          · rw [if_neg hc13] at h
            refine zr_aload_n C d_X8_line_62 rfl ?_
            refine zr_getr (u := 63) C fw_X8_43 (sh_0) rfl d_X8_line_63 ?_
            refine zr_iload_n C d_X8_line_66 rfl ?_
            refine zr_iload_n C d_X8_line_67 rfl ?_
            refine zr_cip (zr_runV (As := [.int p2, .int p3]) (rest := []) C vw_X8_184 (c_X2_onLine l g p2 p3 σ11 _ h) (sh_63) rfl (by decide) (by decide) rfl rfl (Nat.le_of_ble_eq_true rfl) d_X8_line_68) (fun r14 h => ?_)
            refine zr_goto C 76 d_X8_line_71 (by decide) ?_
            exact hret _ _ _ _ h d_X8_line_76
        · rw [if_pos hc12] at h
          refine zr_iload C d_X8_line_53 rfl ?_
          exact hret _ _ _ _ h d_X8_line_55
      · rw [if_pos hc7] at h
        refine zr_bipush C (-2 : Int32) d_X8_line_21 (by decide) ?_
        exact hret _ _ _ _ h d_X8_line_23
set_option maxRecDepth 20000 in
theorem c_X8_line (l : Launch) (g : zG) (p1 : Int32) (p2 : Int32) (p3 : Int32) (σ : zST) (Post : Int32 → zST → Prop) (h : wp_X8_line p1 p2 p3 σ Post) : Met l yX8_line (Cond.code yX8_line cX8_line 5 (some .int) :: zGW) (zRm 5 116) (va_Pc [.ref (g.2.1 0), .int p1, .int p2, .int p3] (zPP g σ)) (va_Qi Post (zBB g) (zA g)) 0 0 (zA g) :=
  zMet (by decide) (Nat.le_of_ble_eq_true rfl) (fun p e s m below meth c hr C => g_X8_line C (fun v σ pc lv hp hd => zr_iret C hr hp hd) h)
def wp_X8_convoy (p1 : Int32) (p2 : Int32) (σ : zST) (Post : Int32 → zST → Prop) : Prop := wp_X8_isHour p1 σ (fun r1 => (if r1 = (0) then Post (-2 : Int32) σ else wp_X8_within p2 (0 : Int32) (1 : Int32) σ (fun r4 => (if r4 = (0) then Post (-2 : Int32) σ else wp_X2_gather 2 p1 σ (fun σ8 => wp_X2_commonSide σ8 (fun r9 => (if p2 = (0) then Post r9 σ8 else wp_X2_meanOfAllBy r9 σ8 (fun r12 => Post r12 σ8))))))))
set_option maxRecDepth 100000 in
set_option maxHeartbeats 4000000 in
theorem g_X8_convoy {p : Program} {l : Launch} {e : Env} {R : Room} {s : State} {m : MethodId} {args : Array Value} {below : List Frame} {meth : Method} {c : Code} {Q : State → Prop} {g : zG} {n1 n2 : Nat} (C : zCX p R s m args meth c g n1 n2 cX8_convoy 4 RX8 5 116) {p1 : Int32} {p2 : Int32} {σ : zST} {Post : Int32 → zST → Prop} (hret : ∀ (v : Int32) (σ : zST) (pc : Nat) (lv : List (Nat × Value)), Post v σ → decode cX8_convoy pc = .ok (.ireturn, 1) → zGG p l e R s m args below meth c Q g n1 n2 4 pc lv [.int v] σ) (h : wp_X8_convoy p1 p2 σ Post) : zGG p l e R s m args below meth c Q g n1 n2 4 0 [(0, .ref (g.2.1 0)), (1, .int p1), (2, .int p2)] [] σ := by
  unfold wp_X8_convoy at h
  refine zr_iload_n C d_X8_convoy_0 rfl ?_
  refine zr_cip (zr_runS (As := [.int p1]) (rest := []) C sw_X8_145 (c_X8_isHour l g p1 σ _ h) (by decide) (by decide) rfl rfl (Nat.le_of_ble_eq_true rfl) d_X8_convoy_1) (fun r1 h => ?_)
  refine zr_if_eq C 16 d_X8_convoy_4 (by decide) (fun hc3 => ?_) (fun hc3 => ?_)
  · rw [if_pos hc3] at h
    refine zr_bipush C (-2 : Int32) d_X8_convoy_16 (by decide) ?_
    exact hret _ _ _ _ h d_X8_convoy_18
  · rw [if_neg hc3] at h
    refine zr_iload_n C d_X8_convoy_7 rfl ?_
    refine zr_iconst C (0 : Int32) d_X8_convoy_8 (by decide) ?_
    refine zr_iconst C (1 : Int32) d_X8_convoy_9 (by decide) ?_
    refine zr_cip (zr_runS (As := [.int p2, .int (0 : Int32), .int (1 : Int32)]) (rest := []) C sw_X8_47 (c_X8_within l g p2 (0 : Int32) (1 : Int32) σ _ h) (by decide) (by decide) rfl rfl (Nat.le_of_ble_eq_true rfl) d_X8_convoy_10) (fun r4 h => ?_)
    refine zr_if_ne C 19 d_X8_convoy_13 (by decide) (fun hc6 => ?_) (fun hc6 => ?_)
    · rw [if_neg hc6] at h
      refine zr_aload_n C d_X8_convoy_19 rfl ?_
      refine zr_getr (u := 63) C fw_X8_43 (sh_0) rfl d_X8_convoy_20 ?_
      refine zr_aload_n C d_X8_convoy_23 rfl ?_
      refine zr_getr (u := 1) C fw_X8_10 (sh_0) rfl d_X8_convoy_24 ?_
      refine zr_getr (u := 2) C fw_X8_51 (sh_1) rfl d_X8_convoy_27 ?_
      refine zr_iload_n C d_X8_convoy_30 rfl ?_
      refine zr_cv (zr_runV (As := [.ref (g.2.1 2), .int p1]) (rest := []) C vw_X8_168 (c_X2_gather l g 2 isX6_2 p1 σ _ h) (sh_63) rfl (by decide) (by decide) rfl rfl (Nat.le_of_ble_eq_true rfl) d_X8_convoy_31) (fun σ8 h => ?_)
      refine zr_aload_n C d_X8_convoy_34 rfl ?_
      refine zr_getr (u := 63) C fw_X8_43 (sh_0) rfl d_X8_convoy_35 ?_
      refine zr_cip (zr_runV (As := []) (rest := []) C vw_X8_187 (c_X2_commonSide l g σ8 _ h) (sh_63) rfl (by decide) (by decide) rfl rfl (Nat.le_of_ble_eq_true rfl) d_X8_convoy_38) (fun r9 h => ?_)
      refine zr_istore_n C [(3, .int r9), (0, .ref (g.2.1 0)), (1, .int p1), (2, .int p2)] d_X8_convoy_41 (by decide) rfl ?_
      refine zr_iload_n C d_X8_convoy_42 rfl ?_
      refine zr_if_ne C 50 d_X8_convoy_43 (by decide) (fun hc11 => ?_) (fun hc11 => ?_)
      · rw [if_neg hc11] at h
        refine zr_aload_n C d_X8_convoy_50 rfl ?_
        refine zr_getr (u := 63) C fw_X8_43 (sh_0) rfl d_X8_convoy_51 ?_
        refine zr_iload_n C d_X8_convoy_54 rfl ?_
        refine zr_cip (zr_runV (As := [.int r9]) (rest := []) C vw_X8_190 (c_X2_meanOfAllBy l g r9 σ8 _ h) (sh_63) rfl (by decide) (by decide) rfl rfl (Nat.le_of_ble_eq_true rfl) d_X8_convoy_55) (fun r12 h => ?_)
        exact hret _ _ _ _ h d_X8_convoy_58
      · rw [if_pos hc11] at h
        refine zr_iload_n C d_X8_convoy_46 rfl ?_
        refine zr_goto C 58 d_X8_convoy_47 (by decide) ?_
        exact hret _ _ _ _ h d_X8_convoy_58
    · rw [if_pos hc6] at h
      refine zr_bipush C (-2 : Int32) d_X8_convoy_16 (by decide) ?_
      exact hret _ _ _ _ h d_X8_convoy_18
set_option maxRecDepth 20000 in
theorem c_X8_convoy (l : Launch) (g : zG) (p1 : Int32) (p2 : Int32) (σ : zST) (Post : Int32 → zST → Prop) (h : wp_X8_convoy p1 p2 σ Post) : Met l yX8_convoy (Cond.code yX8_convoy cX8_convoy 4 (some .int) :: zGW) (zRm 5 116) (va_Pc [.ref (g.2.1 0), .int p1, .int p2] (zPP g σ)) (va_Qi Post (zBB g) (zA g)) 0 0 (zA g) :=
  zMet (by decide) (Nat.le_of_ble_eq_true rfl) (fun p e s m below meth c hr C => g_X8_convoy C (fun v σ pc lv hp hd => zr_iret C hr hp hd) h)
def wp_X8_captain (p1 : Int32) (p2 : Int32) (σ : zST) (Post : Int32 → Prop) : Prop := wp_X8_refusalOf p1 p2 σ (fun r1 => (if r1 = (0) then wp_X6_captainsSide 2 p1 p2 (σ.1 7 (6 : Int32).toNatClampNeg) σ (fun r4 => Post r4) else Post r1))
set_option maxRecDepth 100000 in
set_option maxHeartbeats 4000000 in
theorem g_X8_captain {p : Program} {l : Launch} {e : Env} {R : Room} {s : State} {m : MethodId} {args : Array Value} {below : List Frame} {meth : Method} {c : Code} {Q : State → Prop} {g : zG} {n1 n2 : Nat} (C : zCX p R s m args meth c g n1 n2 cX8_captain 4 RX8 4 95) {p1 : Int32} {p2 : Int32} {σ : zST} {Post : Int32 → Prop} (hret : ∀ (v : Int32) (pc : Nat) (lv : List (Nat × Value)), Post v → decode cX8_captain pc = .ok (.ireturn, 1) → zGG p l e R s m args below meth c Q g n1 n2 4 pc lv [.int v] σ) (h : wp_X8_captain p1 p2 σ Post) : zGG p l e R s m args below meth c Q g n1 n2 4 0 [(0, .ref (g.2.1 0)), (1, .int p1), (2, .int p2)] [] σ := by
  unfold wp_X8_captain at h
  refine zr_aload_n C d_X8_captain_0 rfl ?_
  refine zr_iload_n C d_X8_captain_1 rfl ?_
  refine zr_iload_n C d_X8_captain_2 rfl ?_
  refine zr_cip (zr_runV (As := [.int p1, .int p2]) (rest := []) C vw_X8_155 (c_X8_refusalOf l g p1 p2 σ _ h) (sh_0) rfl (by decide) (by decide) rfl rfl (Nat.le_of_ble_eq_true rfl) d_X8_captain_3) (fun r1 h => ?_)
  refine zr_istore_n C [(3, .int r1), (0, .ref (g.2.1 0)), (1, .int p1), (2, .int p2)] d_X8_captain_6 (by decide) rfl ?_
  refine zr_iload_n C d_X8_captain_7 rfl ?_
  refine zr_if_eq C 15 d_X8_captain_8 (by decide) (fun hc3 => ?_) (fun hc3 => ?_)
  · rw [if_pos hc3] at h
    refine zr_aload_n C d_X8_captain_15 rfl ?_
    refine zr_getr (u := 1) C fw_X8_10 (sh_0) rfl d_X8_captain_16 ?_
    refine zr_getr (u := 2) C fw_X8_51 (sh_1) rfl d_X8_captain_19 ?_
    refine zr_iload_n C d_X8_captain_22 rfl ?_
    refine zr_iload_n C d_X8_captain_23 rfl ?_
    refine zr_aload_n C d_X8_captain_24 rfl ?_
    refine zr_getr (u := 1) C fw_X8_10 (sh_0) rfl d_X8_captain_25 ?_
    refine zr_getr (u := 2) C fw_X8_51 (sh_1) rfl d_X8_captain_28 ?_
    refine zr_getr (u := 7) C fw_X8_89 (sh_2) rfl d_X8_captain_31 ?_
    refine zr_bipush C (6 : Int32) d_X8_captain_34 (by decide) ?_
    refine zr_iald C (sh_7) (by unfold vp_in; decide) d_X8_captain_36 ?_
    refine zr_cip (zr_runV (As := [.int p1, .int p2, .int (σ.1 7 (6 : Int32).toNatClampNeg)]) (rest := []) C vw_X8_193 (c_X6_captainsSide l g 2 isX6_2 p1 p2 (σ.1 7 (6 : Int32).toNatClampNeg) σ _ h) (sh_2) rfl (by decide) (by decide) rfl rfl (Nat.le_of_ble_eq_true rfl) d_X8_captain_37) (fun r4 h => ?_)
    exact hret _ _ _ h d_X8_captain_40
  · rw [if_neg hc3] at h
    refine zr_iload_n C d_X8_captain_11 rfl ?_
    refine zr_goto C 40 d_X8_captain_12 (by decide) ?_
    exact hret _ _ _ h d_X8_captain_40
set_option maxRecDepth 20000 in
theorem c_X8_captain (l : Launch) (g : zG) (p1 : Int32) (p2 : Int32) (σ : zST) (Post : Int32 → Prop) (h : wp_X8_captain p1 p2 σ Post) : Met l yX8_captain (Cond.code yX8_captain cX8_captain 4 (some .int) :: zGW) (zRm 4 95) (va_Pc [.ref (g.2.1 0), .int p1, .int p2] (zPP g σ)) (va_Qi (fun r u => Post r ∧ u = σ) (zBB g) (zA g)) 0 0 (zA g) :=
  zMet (by decide) (Nat.le_of_ble_eq_true rfl) (fun p e s m below meth c hr C => g_X8_captain C (fun v pc lv hp hd => zr_iret C hr ⟨hp, rfl⟩ hd) h)
def wp_X8_persuaded_L35 (v1 : Int32) (v2 : Int32) (v4 : Int32) (σ : zST) (Post : Int32 → Prop) : Nat → Int32 → Prop
  | 0, _ => False
  | N + 1, v5 => (if (zTM (6 : Int32).toNatClampNeg) < v5 then Post (-6 : Int32) else wp_X6_captainsSide 2 v1 v2 v5 σ (fun r10 => (if r10 = v4 then Post v5 else wp_X8_persuaded_L35 v1 v2 v4 σ Post N (v5 + 1))))

set_option maxRecDepth 100000 in
set_option maxHeartbeats 4000000 in
theorem g_X8_persuaded_L35 {p : Program} {l : Launch} {e : Env} {R : Room} {s : State} {m : MethodId} {args : Array Value} {below : List Frame} {meth : Method} {c : Code} {Q : State → Prop} {g : zG} {n1 n2 : Nat} (C : zCX p R s m args meth c g n1 n2 cX8_persuaded 6 RX8 5 114) {v1 : Int32} {v2 : Int32} {v4 : Int32} {σ : zST}  {Post : Int32 → Prop} (hret : ∀ (v : Int32) (pc : Nat) (lv : List (Nat × Value)), Post v → decode cX8_persuaded pc = .ok (.ireturn, 1) → zGG p l e R s m args below meth c Q g n1 n2 6 pc lv [.int v] σ) : ∀ (N : Nat) (v5 : Int32) , wp_X8_persuaded_L35 v1 v2 v4 σ Post N v5 → zGG p l e R s m args below meth c Q g n1 n2 6 35 [(0, .ref (g.2.1 0)), (1, .int v1), (2, .int v2), (4, .int v4), (5, .int v5)] [] σ := by
  intro N
  induction N with
  | zero =>
    intro v5 h
    exact h.elim
  | succ N ih =>
    intro v5 h
    rw [wp_X8_persuaded_L35] at h
    refine zr_iload C d_X8_persuaded_35 rfl ?_
    refine zr_getsM C gs_X8_86 d_X8_persuaded_37 (fun t8 ht8 => ?_)
    refine zr_bipush C (6 : Int32) d_X8_persuaded_40 (by decide) ?_
    refine zr_tald C ht8 (by unfold vp_in; decide) d_X8_persuaded_42 ?_
    refine zr_icmp_gt C 74 d_X8_persuaded_43 (by decide) (fun hc9 => ?_) (fun hc9 => ?_)
    · rw [if_pos hc9] at h
      refine zr_bipush C (-6 : Int32) d_X8_persuaded_74 (by decide) ?_
      exact hret _ _ _ h d_X8_persuaded_76
    · rw [if_neg hc9] at h
      refine zr_aload_n C d_X8_persuaded_46 rfl ?_
      refine zr_getr (u := 1) C fw_X8_10 (sh_0) rfl d_X8_persuaded_47 ?_
      refine zr_getr (u := 2) C fw_X8_51 (sh_1) rfl d_X8_persuaded_50 ?_
      refine zr_iload_n C d_X8_persuaded_53 rfl ?_
      refine zr_iload_n C d_X8_persuaded_54 rfl ?_
      refine zr_iload C d_X8_persuaded_55 rfl ?_
      refine zr_cip (zr_runV (As := [.int v1, .int v2, .int v5]) (rest := []) C vw_X8_193 (c_X6_captainsSide l g 2 isX6_2 v1 v2 v5 σ _ h) (sh_2) rfl (by decide) (by decide) rfl rfl (Nat.le_of_ble_eq_true rfl) d_X8_persuaded_57) (fun r10 h => ?_)
      refine zr_iload C d_X8_persuaded_60 rfl ?_
      refine zr_icmp_ne C 68 d_X8_persuaded_62 (by decide) (fun hc12 => ?_) (fun hc12 => ?_)
      · rw [if_neg hc12] at h
        refine zr_iinc C (v5 + 1) [(5, .int (v5 + 1)), (0, .ref (g.2.1 0)), (1, .int v1), (2, .int v2), (4, .int v4)] d_X8_persuaded_68 rfl rfl (by decide) rfl ?_
        refine zr_goto C 35 d_X8_persuaded_71 (by decide) ?_
        exact zr_pick [1, 2, 3, 4, 0] rfl (ih (v5 + 1) h)
      · rw [if_pos hc12] at h
        refine zr_iload C d_X8_persuaded_65 rfl ?_
        exact hret _ _ _ h d_X8_persuaded_67

def wp_X8_persuaded (p1 : Int32) (p2 : Int32) (σ : zST) (Post : Int32 → Prop) : Prop := wp_X8_refusalOf p1 p2 σ (fun r1 => (if r1 = (0) then wp_X6_ownersSide 2 p1 p2 σ (fun r4 => ∀ x7 : Int32, x7 = zTL (6 : Int32).toNatClampNeg → ∃ M13 : Nat, wp_X8_persuaded_L35 p1 p2 r4 σ Post M13 x7) else Post r1))
set_option maxRecDepth 100000 in
set_option maxHeartbeats 4000000 in
theorem g_X8_persuaded {p : Program} {l : Launch} {e : Env} {R : Room} {s : State} {m : MethodId} {args : Array Value} {below : List Frame} {meth : Method} {c : Code} {Q : State → Prop} {g : zG} {n1 n2 : Nat} (C : zCX p R s m args meth c g n1 n2 cX8_persuaded 6 RX8 5 114) {p1 : Int32} {p2 : Int32} {σ : zST} {Post : Int32 → Prop} (hret : ∀ (v : Int32) (pc : Nat) (lv : List (Nat × Value)), Post v → decode cX8_persuaded pc = .ok (.ireturn, 1) → zGG p l e R s m args below meth c Q g n1 n2 6 pc lv [.int v] σ) (h : wp_X8_persuaded p1 p2 σ Post) : zGG p l e R s m args below meth c Q g n1 n2 6 0 [(0, .ref (g.2.1 0)), (1, .int p1), (2, .int p2)] [] σ := by
  unfold wp_X8_persuaded at h
  refine zr_aload_n C d_X8_persuaded_0 rfl ?_
  refine zr_iload_n C d_X8_persuaded_1 rfl ?_
  refine zr_iload_n C d_X8_persuaded_2 rfl ?_
  refine zr_cip (zr_runV (As := [.int p1, .int p2]) (rest := []) C vw_X8_155 (c_X8_refusalOf l g p1 p2 σ _ h) (sh_0) rfl (by decide) (by decide) rfl rfl (Nat.le_of_ble_eq_true rfl) d_X8_persuaded_3) (fun r1 h => ?_)
  refine zr_istore_n C [(3, .int r1), (0, .ref (g.2.1 0)), (1, .int p1), (2, .int p2)] d_X8_persuaded_6 (by decide) rfl ?_
  refine zr_iload_n C d_X8_persuaded_7 rfl ?_
  refine zr_if_eq C 13 d_X8_persuaded_8 (by decide) (fun hc3 => ?_) (fun hc3 => ?_)
  · rw [if_pos hc3] at h
    refine zr_aload_n C d_X8_persuaded_13 rfl ?_
    refine zr_getr (u := 1) C fw_X8_10 (sh_0) rfl d_X8_persuaded_14 ?_
    refine zr_getr (u := 2) C fw_X8_51 (sh_1) rfl d_X8_persuaded_17 ?_
    refine zr_iload_n C d_X8_persuaded_20 rfl ?_
    refine zr_iload_n C d_X8_persuaded_21 rfl ?_
    refine zr_cip (zr_runV (As := [.int p1, .int p2]) (rest := []) C vw_X8_158 (c_X6_ownersSide l g 2 isX6_2 p1 p2 σ _ h) (sh_2) rfl (by decide) (by decide) rfl rfl (Nat.le_of_ble_eq_true rfl) d_X8_persuaded_22) (fun r4 h => ?_)
    refine zr_istore C [(4, .int r4), (3, .int r1), (0, .ref (g.2.1 0)), (1, .int p1), (2, .int p2)] d_X8_persuaded_25 (by decide) rfl ?_
    refine zr_getsL C gs_X8_83 d_X8_persuaded_27 (fun t6 ht6 => ?_)
    refine zr_bipush C (6 : Int32) d_X8_persuaded_30 (by decide) ?_
    refine zr_tald C ht6 (by unfold vp_in; decide) d_X8_persuaded_32 ?_
    refine zr_topi (fun x7 hx7 => ?_)
    replace h := h x7 hx7
    refine zr_istore C [(5, .int x7), (4, .int r4), (3, .int r1), (0, .ref (g.2.1 0)), (1, .int p1), (2, .int p2)] d_X8_persuaded_33 (by decide) rfl ?_
    obtain ⟨M13, h⟩ := h
    exact zr_pick [3, 4, 5, 1, 0] rfl (g_X8_persuaded_L35 C hret M13 x7 h)
  · rw [if_neg hc3] at h
    refine zr_iload_n C d_X8_persuaded_11 rfl ?_
    exact hret _ _ _ h d_X8_persuaded_12
set_option maxRecDepth 20000 in
theorem c_X8_persuaded (l : Launch) (g : zG) (p1 : Int32) (p2 : Int32) (σ : zST) (Post : Int32 → Prop) (h : wp_X8_persuaded p1 p2 σ Post) : Met l yX8_persuaded (Cond.code yX8_persuaded cX8_persuaded 6 (some .int) :: zGW) (zRm 5 114) (va_Pc [.ref (g.2.1 0), .int p1, .int p2] (zPP g σ)) (va_Qi (fun r u => Post r ∧ u = σ) (zBB g) (zA g)) 0 0 (zA g) :=
  zMet (by decide) (Nat.le_of_ble_eq_true rfl) (fun p e s m below meth c hr C => g_X8_persuaded C (fun v pc lv hp hd => zr_iret C hr ⟨hp, rfl⟩ hd) h)
def wp_X8_offer (p1 : Int32) (p2 : Int32) (p3 : Int32) (σ : zST) (Post : Int32 → zST → Prop) : Prop := wp_X8_within p1 (0 : Int32) (3 : Int32) σ (fun r1 => (if r1 = (0) then Post (-2 : Int32) σ else wp_X8_within p2 (0 : Int32) (999 : Int32) σ (fun r4 => (if r4 = (0) then Post (-2 : Int32) σ else wp_X8_within p3 (0 : Int32) (9999 : Int32) σ (fun r7 => (if r7 = (0) then Post (-2 : Int32) σ else vp_in p1 4 ∧ vp_in p1 4 ∧ ∀ σ12 : zST, σ12 = (wI (wI (wI σ 10 0 ((σ.1 10 0) ||| ((1 : Int32) <<< (p1 &&& 31)))) 11 p1.toNatClampNeg p2) 12 p1.toNatClampNeg p3) → wp_J6_bitCount_0f7a4 (σ12.1 10 0) σ12 (fun r13 => Post r13 σ12)))))))
set_option maxRecDepth 100000 in
set_option maxHeartbeats 4000000 in
theorem g_X8_offer {p : Program} {l : Launch} {e : Env} {R : Room} {s : State} {m : MethodId} {args : Array Value} {below : List Frame} {meth : Method} {c : Code} {Q : State → Prop} {g : zG} {n1 n2 : Nat} (C : zCX p R s m args meth c g n1 n2 cX8_offer 5 RX8 1 22) {p1 : Int32} {p2 : Int32} {p3 : Int32} {σ : zST} {Post : Int32 → zST → Prop} (hret : ∀ (v : Int32) (σ : zST) (pc : Nat) (lv : List (Nat × Value)), Post v σ → decode cX8_offer pc = .ok (.ireturn, 1) → zGG p l e R s m args below meth c Q g n1 n2 5 pc lv [.int v] σ) (h : wp_X8_offer p1 p2 p3 σ Post) : zGG p l e R s m args below meth c Q g n1 n2 5 0 [(0, .ref (g.2.1 0)), (1, .int p1), (2, .int p2), (3, .int p3)] [] σ := by
  unfold wp_X8_offer at h
  refine zr_iload_n C d_X8_offer_0 rfl ?_
  refine zr_iconst C (0 : Int32) d_X8_offer_1 (by decide) ?_
  refine zr_iconst C (3 : Int32) d_X8_offer_2 (by decide) ?_
  refine zr_cip (zr_runS (As := [.int p1, .int (0 : Int32), .int (3 : Int32)]) (rest := []) C sw_X8_47 (c_X8_within l g p1 (0 : Int32) (3 : Int32) σ _ h) (by decide) (by decide) rfl rfl (Nat.le_of_ble_eq_true rfl) d_X8_offer_3) (fun r1 h => ?_)
  refine zr_if_eq C 31 d_X8_offer_6 (by decide) (fun hc3 => ?_) (fun hc3 => ?_)
  · rw [if_pos hc3] at h
    refine zr_bipush C (-2 : Int32) d_X8_offer_31 (by decide) ?_
    exact hret _ _ _ _ h d_X8_offer_33
  · rw [if_neg hc3] at h
    refine zr_iload_n C d_X8_offer_9 rfl ?_
    refine zr_iconst C (0 : Int32) d_X8_offer_10 (by decide) ?_
    refine zr_sipush C (999 : Int32) d_X8_offer_11 (by decide) ?_
    refine zr_cip (zr_runS (As := [.int p2, .int (0 : Int32), .int (999 : Int32)]) (rest := []) C sw_X8_47 (c_X8_within l g p2 (0 : Int32) (999 : Int32) σ _ h) (by decide) (by decide) rfl rfl (Nat.le_of_ble_eq_true rfl) d_X8_offer_14) (fun r4 h => ?_)
    refine zr_if_eq C 31 d_X8_offer_17 (by decide) (fun hc6 => ?_) (fun hc6 => ?_)
    · rw [if_pos hc6] at h
      refine zr_bipush C (-2 : Int32) d_X8_offer_31 (by decide) ?_
      exact hret _ _ _ _ h d_X8_offer_33
    · rw [if_neg hc6] at h
      refine zr_iload_n C d_X8_offer_20 rfl ?_
      refine zr_iconst C (0 : Int32) d_X8_offer_21 (by decide) ?_
      refine zr_sipush C (9999 : Int32) d_X8_offer_22 (by decide) ?_
      refine zr_cip (zr_runS (As := [.int p3, .int (0 : Int32), .int (9999 : Int32)]) (rest := []) C sw_X8_47 (c_X8_within l g p3 (0 : Int32) (9999 : Int32) σ _ h) (by decide) (by decide) rfl rfl (Nat.le_of_ble_eq_true rfl) d_X8_offer_25) (fun r7 h => ?_)
      refine zr_if_ne C 34 d_X8_offer_28 (by decide) (fun hc9 => ?_) (fun hc9 => ?_)
      · rw [if_neg hc9] at h
        refine zr_aload_n C d_X8_offer_34 rfl ?_
        refine zr_getr (u := 1) C fw_X8_10 (sh_0) rfl d_X8_offer_35 ?_
        refine zr_getr (u := 10) C fw_X8_196 (sh_1) rfl d_X8_offer_38 ?_
        refine zr_astore C [(4, .ref (g.2.1 10)), (0, .ref (g.2.1 0)), (1, .int p1), (2, .int p2), (3, .int p3)] d_X8_offer_41 (by decide) rfl ?_
        refine zr_aload C d_X8_offer_43 rfl ?_
        refine zr_dup C d_X8_offer_45 rfl ?_
        refine zr_geti C fw_X8_200 (sh_10) rfl d_X8_offer_46 ?_
        refine zr_iconst C (1 : Int32) d_X8_offer_49 (by decide) ?_
        refine zr_iload_n C d_X8_offer_50 rfl ?_
        refine zr_ishl C d_X8_offer_51 ?_
        refine zr_ior C d_X8_offer_52 ?_
        refine zr_puti C fw_X8_200 pw_X3_0 (sh_10) rfl rfl rfl d_X8_offer_53 ?_
        refine zr_aload C d_X8_offer_56 rfl ?_
        refine zr_getr (u := 11) C fw_X8_203 (sh_10) rfl d_X8_offer_58 ?_
        refine zr_iload_n C d_X8_offer_61 rfl ?_
        refine zr_iload_n C d_X8_offer_62 rfl ?_
        obtain ⟨ho10, h⟩ := h
        refine zr_iast C (sh_11) ho10 d_X8_offer_63 ?_
        refine zr_aload C d_X8_offer_64 rfl ?_
        refine zr_getr (u := 12) C fw_X8_206 (sh_10) rfl d_X8_offer_66 ?_
        refine zr_iload_n C d_X8_offer_69 rfl ?_
        refine zr_iload_n C d_X8_offer_70 rfl ?_
        obtain ⟨ho11, h⟩ := h
        refine zr_iast C (sh_12) ho11 d_X8_offer_71 ?_
        refine zr_aload C d_X8_offer_72 rfl ?_
        refine zr_tops (fun σ12 hσ12 => ?_)
        replace h := h σ12 hσ12
        refine zr_geti C fw_X8_200 (sh_10) rfl d_X8_offer_74 ?_
        refine zr_cip (zr_runS (As := [.int (σ12.1 10 0)]) (rest := []) C sw_X8_73 (c_J6_bitCount_0f7a4 l g (σ12.1 10 0) σ12 _ h) (by decide) (by decide) rfl rfl (Nat.le_of_ble_eq_true rfl) d_X8_offer_77) (fun r13 h => ?_)
        exact hret _ _ _ _ h d_X8_offer_80
      · rw [if_pos hc9] at h
        refine zr_bipush C (-2 : Int32) d_X8_offer_31 (by decide) ?_
        exact hret _ _ _ _ h d_X8_offer_33
set_option maxRecDepth 20000 in
theorem c_X8_offer (l : Launch) (g : zG) (p1 : Int32) (p2 : Int32) (p3 : Int32) (σ : zST) (Post : Int32 → zST → Prop) (h : wp_X8_offer p1 p2 p3 σ Post) : Met l yX8_offer (Cond.code yX8_offer cX8_offer 5 (some .int) :: zGW) (zRm 1 22) (va_Pc [.ref (g.2.1 0), .int p1, .int p2, .int p3] (zPP g σ)) (va_Qi Post (zBB g) (zA g)) 0 0 (zA g) :=
  zMet (by decide) (Nat.le_of_ble_eq_true rfl) (fun p e s m below meth c hr C => g_X8_offer C (fun v σ pc lv hp hd => zr_iret C hr hp hd) h)
def wp_X8_noOffers (σ : zST) (Post : Int32 → zST → Prop) : Prop := wp_J6_bitCount_0f7a4 (σ.1 10 0) σ (fun r1 => Post r1 (wI σ 10 0 (0 : Int32)))
set_option maxRecDepth 100000 in
set_option maxHeartbeats 4000000 in
theorem g_X8_noOffers {p : Program} {l : Launch} {e : Env} {R : Room} {s : State} {m : MethodId} {args : Array Value} {below : List Frame} {meth : Method} {c : Code} {Q : State → Prop} {g : zG} {n1 n2 : Nat} (C : zCX p R s m args meth c g n1 n2 cX8_noOffers 2 RX8 1 20) {σ : zST} {Post : Int32 → zST → Prop} (hret : ∀ (v : Int32) (σ : zST) (pc : Nat) (lv : List (Nat × Value)), Post v σ → decode cX8_noOffers pc = .ok (.ireturn, 1) → zGG p l e R s m args below meth c Q g n1 n2 2 pc lv [.int v] σ) (h : wp_X8_noOffers σ Post) : zGG p l e R s m args below meth c Q g n1 n2 2 0 [(0, .ref (g.2.1 0))] [] σ := by
  unfold wp_X8_noOffers at h
  refine zr_aload_n C d_X8_noOffers_0 rfl ?_
  refine zr_getr (u := 1) C fw_X8_10 (sh_0) rfl d_X8_noOffers_1 ?_
  refine zr_getr (u := 10) C fw_X8_196 (sh_1) rfl d_X8_noOffers_4 ?_
  refine zr_geti C fw_X8_200 (sh_10) rfl d_X8_noOffers_7 ?_
  refine zr_cip (zr_runS (As := [.int (σ.1 10 0)]) (rest := []) C sw_X8_73 (c_J6_bitCount_0f7a4 l g (σ.1 10 0) σ _ h) (by decide) (by decide) rfl rfl (Nat.le_of_ble_eq_true rfl) d_X8_noOffers_10) (fun r1 h => ?_)
  refine zr_istore_n C [(1, .int r1), (0, .ref (g.2.1 0))] d_X8_noOffers_13 (by decide) rfl ?_
  refine zr_aload_n C d_X8_noOffers_14 rfl ?_
  refine zr_getr (u := 1) C fw_X8_10 (sh_0) rfl d_X8_noOffers_15 ?_
  refine zr_getr (u := 10) C fw_X8_196 (sh_1) rfl d_X8_noOffers_18 ?_
  refine zr_iconst C (0 : Int32) d_X8_noOffers_21 (by decide) ?_
  refine zr_puti C fw_X8_200 pw_X3_0 (sh_10) rfl rfl rfl d_X8_noOffers_22 ?_
  refine zr_iload_n C d_X8_noOffers_25 rfl ?_
  exact hret _ _ _ _ h d_X8_noOffers_26
set_option maxRecDepth 20000 in
theorem c_X8_noOffers (l : Launch) (g : zG) (σ : zST) (Post : Int32 → zST → Prop) (h : wp_X8_noOffers σ Post) : Met l yX8_noOffers (Cond.code yX8_noOffers cX8_noOffers 2 (some .int) :: zGW) (zRm 1 20) (va_Pc [.ref (g.2.1 0)] (zPP g σ)) (va_Qi Post (zBB g) (zA g)) 0 0 (zA g) :=
  zMet (by decide) (Nat.le_of_ble_eq_true rfl) (fun p e s m below meth c hr C => g_X8_noOffers C (fun v σ pc lv hp hd => zr_iret C hr hp hd) h)
def wp_X8_insured (p1 : Int32) (p2 : Int32) (p3 : Int32) (σ : zST) (Post : Int32 → Prop) : Prop := wp_X6_has 2 p1 σ (fun r1 => (if r1 = (0) then Post (-1 : Int32) else wp_X8_isHour p2 σ (fun r4 => (if r4 = (0) then Post (-2 : Int32) else wp_X8_within p3 (0 : Int32) (2 : Int32) σ (fun r7 => (if r7 = (0) then Post (-2 : Int32) else wp_X6_digitAt 2 p2 σ (fun r10 => wp_X3_worthTaking 10 r10 σ (fun r12 => (if p3 = (1 : Int32) then Post r12 else wp_X3_premiumsOf 10 r12 σ (fun r15 => wp_X3_paysOf 10 r12 σ (fun r17 => wp_X6_whole 2 p1 σ (fun r19 => (if p3 = (0) then Post (((r10 * (r19 - r17)) + ((10 : Int32) * r15)) + (1000000 : Int32)) else ∀ z23 : Int32, z23 = (if r10 ≤ (0) then (0 : Int32) else ((r19 + r15) - r17)) → Post (if r15 < z23 then z23 else r15))))))))))))))
set_option maxRecDepth 100000 in
set_option maxHeartbeats 4000000 in
theorem g_X8_insured {p : Program} {l : Launch} {e : Env} {R : Room} {s : State} {m : MethodId} {args : Array Value} {below : List Frame} {meth : Method} {c : Code} {Q : State → Prop} {g : zG} {n1 n2 : Nat} (C : zCX p R s m args meth c g n1 n2 cX8_insured 11 RX8 2 44) {p1 : Int32} {p2 : Int32} {p3 : Int32} {σ : zST} {Post : Int32 → Prop} (hret : ∀ (v : Int32) (pc : Nat) (lv : List (Nat × Value)), Post v → decode cX8_insured pc = .ok (.ireturn, 1) → zGG p l e R s m args below meth c Q g n1 n2 11 pc lv [.int v] σ) (h : wp_X8_insured p1 p2 p3 σ Post) : zGG p l e R s m args below meth c Q g n1 n2 11 0 [(0, .ref (g.2.1 0)), (1, .int p1), (2, .int p2), (3, .int p3)] [] σ := by
  unfold wp_X8_insured at h
  refine zr_aload_n C d_X8_insured_0 rfl ?_
  refine zr_getr (u := 1) C fw_X8_10 (sh_0) rfl d_X8_insured_1 ?_
  refine zr_getr (u := 2) C fw_X8_51 (sh_1) rfl d_X8_insured_4 ?_
  refine zr_iload_n C d_X8_insured_7 rfl ?_
  refine zr_cip (zr_runV (As := [.int p1]) (rest := []) C vw_X8_79 (c_X6_has l g 2 isX6_2 p1 σ _ h) (sh_2) rfl (by decide) (by decide) rfl rfl (Nat.le_of_ble_eq_true rfl) d_X8_insured_8) (fun r1 h => ?_)
  refine zr_if_ne C 16 d_X8_insured_11 (by decide) (fun hc3 => ?_) (fun hc3 => ?_)
  · rw [if_neg hc3] at h
    refine zr_iload_n C d_X8_insured_16 rfl ?_
    refine zr_cip (zr_runS (As := [.int p2]) (rest := []) C sw_X8_145 (c_X8_isHour l g p2 σ _ h) (by decide) (by decide) rfl rfl (Nat.le_of_ble_eq_true rfl) d_X8_insured_17) (fun r4 h => ?_)
    refine zr_if_eq C 32 d_X8_insured_20 (by decide) (fun hc6 => ?_) (fun hc6 => ?_)
    · rw [if_pos hc6] at h
      refine zr_bipush C (-2 : Int32) d_X8_insured_32 (by decide) ?_
      exact hret _ _ _ h d_X8_insured_34
    · rw [if_neg hc6] at h
      refine zr_iload_n C d_X8_insured_23 rfl ?_
      refine zr_iconst C (0 : Int32) d_X8_insured_24 (by decide) ?_
      refine zr_iconst C (2 : Int32) d_X8_insured_25 (by decide) ?_
      refine zr_cip (zr_runS (As := [.int p3, .int (0 : Int32), .int (2 : Int32)]) (rest := []) C sw_X8_47 (c_X8_within l g p3 (0 : Int32) (2 : Int32) σ _ h) (by decide) (by decide) rfl rfl (Nat.le_of_ble_eq_true rfl) d_X8_insured_26) (fun r7 h => ?_)
      refine zr_if_ne C 35 d_X8_insured_29 (by decide) (fun hc9 => ?_) (fun hc9 => ?_)
      · rw [if_neg hc9] at h
        refine zr_aload_n C d_X8_insured_35 rfl ?_
        refine zr_getr (u := 1) C fw_X8_10 (sh_0) rfl d_X8_insured_36 ?_
        refine zr_getr (u := 10) C fw_X8_196 (sh_1) rfl d_X8_insured_39 ?_
        refine zr_astore C [(4, .ref (g.2.1 10)), (0, .ref (g.2.1 0)), (1, .int p1), (2, .int p2), (3, .int p3)] d_X8_insured_42 (by decide) rfl ?_
        refine zr_aload_n C d_X8_insured_44 rfl ?_
        refine zr_getr (u := 1) C fw_X8_10 (sh_0) rfl d_X8_insured_45 ?_
        refine zr_getr (u := 2) C fw_X8_51 (sh_1) rfl d_X8_insured_48 ?_
        refine zr_iload_n C d_X8_insured_51 rfl ?_
        refine zr_cip (zr_runV (As := [.int p2]) (rest := []) C vw_X8_209 (c_X6_digitAt l g 2 isX6_2 p2 σ _ h) (sh_2) rfl (by decide) (by decide) rfl rfl (Nat.le_of_ble_eq_true rfl) d_X8_insured_52) (fun r10 h => ?_)
        refine zr_istore C [(5, .int r10), (4, .ref (g.2.1 10)), (0, .ref (g.2.1 0)), (1, .int p1), (2, .int p2), (3, .int p3)] d_X8_insured_55 (by decide) rfl ?_
        refine zr_aload C d_X8_insured_57 rfl ?_
        refine zr_iload C d_X8_insured_59 rfl ?_
        refine zr_cip (zr_runV (As := [.int r10]) (rest := []) C vw_X8_212 (c_X3_worthTaking l g 10 isX3_10 r10 σ _ h) (sh_10) rfl (by decide) (by decide) rfl rfl (Nat.le_of_ble_eq_true rfl) d_X8_insured_61) (fun r12 h => ?_)
        refine zr_istore C [(6, .int r12), (5, .int r10), (4, .ref (g.2.1 10)), (0, .ref (g.2.1 0)), (1, .int p1), (2, .int p2), (3, .int p3)] d_X8_insured_64 (by decide) rfl ?_
        refine zr_iload_n C d_X8_insured_66 rfl ?_
        refine zr_iconst C (1 : Int32) d_X8_insured_67 (by decide) ?_
        refine zr_icmp_ne C 74 d_X8_insured_68 (by decide) (fun hc14 => ?_) (fun hc14 => ?_)
        · rw [if_neg hc14] at h
          refine zr_aload C d_X8_insured_74 rfl ?_
          refine zr_iload C d_X8_insured_76 rfl ?_
          refine zr_cip (zr_runV (As := [.int r12]) (rest := []) C vw_X8_215 (c_X3_premiumsOf l g 10 isX3_10 r12 σ _ h) (sh_10) rfl (by decide) (by decide) rfl rfl (Nat.le_of_ble_eq_true rfl) d_X8_insured_78) (fun r15 h => ?_)
          refine zr_istore C [(7, .int r15), (6, .int r12), (5, .int r10), (4, .ref (g.2.1 10)), (0, .ref (g.2.1 0)), (1, .int p1), (2, .int p2), (3, .int p3)] d_X8_insured_81 (by decide) rfl ?_
          refine zr_aload C d_X8_insured_83 rfl ?_
          refine zr_iload C d_X8_insured_85 rfl ?_
          refine zr_cip (zr_runV (As := [.int r12]) (rest := []) C vw_X8_218 (c_X3_paysOf l g 10 isX3_10 r12 σ _ h) (sh_10) rfl (by decide) (by decide) rfl rfl (Nat.le_of_ble_eq_true rfl) d_X8_insured_87) (fun r17 h => ?_)
          refine zr_istore C [(8, .int r17), (7, .int r15), (6, .int r12), (5, .int r10), (4, .ref (g.2.1 10)), (0, .ref (g.2.1 0)), (1, .int p1), (2, .int p2), (3, .int p3)] d_X8_insured_90 (by decide) rfl ?_
          refine zr_aload_n C d_X8_insured_92 rfl ?_
          refine zr_getr (u := 1) C fw_X8_10 (sh_0) rfl d_X8_insured_93 ?_
          refine zr_getr (u := 2) C fw_X8_51 (sh_1) rfl d_X8_insured_96 ?_
          refine zr_iload_n C d_X8_insured_99 rfl ?_
          refine zr_cip (zr_runV (As := [.int p1]) (rest := []) C vw_X8_221 (c_X6_whole l g 2 isX6_2 p1 σ _ h) (sh_2) rfl (by decide) (by decide) rfl rfl (Nat.le_of_ble_eq_true rfl) d_X8_insured_100) (fun r19 h => ?_)
          refine zr_istore C [(9, .int r19), (8, .int r17), (7, .int r15), (6, .int r12), (5, .int r10), (4, .ref (g.2.1 10)), (0, .ref (g.2.1 0)), (1, .int p1), (2, .int p2), (3, .int p3)] d_X8_insured_103 (by decide) rfl ?_
          refine zr_iload_n C d_X8_insured_105 rfl ?_
          refine zr_if_ne C 127 d_X8_insured_106 (by decide) (fun hc21 => ?_) (fun hc21 => ?_)
          · rw [if_neg hc21] at h
            refine zr_iload C d_X8_insured_127 rfl ?_
            have hJ24 : ∀ z23 : Int32, z23 = (if r10 ≤ (0) then (0 : Int32) else ((r19 + r15) - r17)) → zGG p l e R s m args below meth c Q g n1 n2 11 144 [(9, .int r19), (8, .int r17), (7, .int r15), (6, .int r12), (5, .int r10), (4, .ref (g.2.1 10)), (0, .ref (g.2.1 0)), (1, .int p1), (2, .int p2), (3, .int p3)] [.int z23] σ := by
              intro z23 hz23
              replace h := h z23 hz23
              refine zr_istore C [(10, .int z23), (9, .int r19), (8, .int r17), (7, .int r15), (6, .int r12), (5, .int r10), (4, .ref (g.2.1 10)), (0, .ref (g.2.1 0)), (1, .int p1), (2, .int p2), (3, .int p3)] d_X8_insured_144 (by decide) rfl ?_
              refine zr_iload C d_X8_insured_146 rfl ?_
              refine zr_iload C d_X8_insured_148 rfl ?_
              refine zr_mmax C mw_X8_225 (by decide) (Nat.le_of_ble_eq_true rfl) d_X8_insured_150 ?_
              exact hret _ _ _ h d_X8_insured_153
            refine zr_if_le C 143 d_X8_insured_129 (by decide) (fun hc22 => ?_) (fun hc22 => ?_)
            · skip
              refine zr_iconst C (0 : Int32) d_X8_insured_143 (by decide) ?_
              exact hJ24 _ (by rw [if_pos hc22])
            · skip
              refine zr_iload C d_X8_insured_132 rfl ?_
              refine zr_iload C d_X8_insured_134 rfl ?_
              refine zr_iadd C d_X8_insured_136 ?_
              refine zr_iload C d_X8_insured_137 rfl ?_
              refine zr_isub C d_X8_insured_139 ?_
              refine zr_goto C 144 d_X8_insured_140 (by decide) ?_
              exact hJ24 _ (by rw [if_neg hc22])
          · rw [if_pos hc21] at h
            refine zr_iload C d_X8_insured_109 rfl ?_
            refine zr_iload C d_X8_insured_111 rfl ?_
            refine zr_iload C d_X8_insured_113 rfl ?_
            refine zr_isub C d_X8_insured_115 ?_
            refine zr_imul C d_X8_insured_116 ?_
            refine zr_bipush C (10 : Int32) d_X8_insured_117 (by decide) ?_
            refine zr_iload C d_X8_insured_119 rfl ?_
            refine zr_imul C d_X8_insured_121 ?_
            refine zr_iadd C d_X8_insured_122 ?_
            refine zr_ldc C (v := (1000000 : Int32)) cw_X8_224 d_X8_insured_123 ?_
            refine zr_iadd C d_X8_insured_125 ?_
            exact hret _ _ _ h d_X8_insured_126
        · rw [if_pos hc14] at h
          refine zr_iload C d_X8_insured_71 rfl ?_
          exact hret _ _ _ h d_X8_insured_73
      · rw [if_pos hc9] at h
        refine zr_bipush C (-2 : Int32) d_X8_insured_32 (by decide) ?_
        exact hret _ _ _ h d_X8_insured_34
  · rw [if_pos hc3] at h
    refine zr_iconst C (-1 : Int32) d_X8_insured_14 (by decide) ?_
    exact hret _ _ _ h d_X8_insured_15
set_option maxRecDepth 20000 in
theorem c_X8_insured (l : Launch) (g : zG) (p1 : Int32) (p2 : Int32) (p3 : Int32) (σ : zST) (Post : Int32 → Prop) (h : wp_X8_insured p1 p2 p3 σ Post) : Met l yX8_insured (Cond.code yX8_insured cX8_insured 11 (some .int) :: zGW) (zRm 2 44) (va_Pc [.ref (g.2.1 0), .int p1, .int p2, .int p3] (zPP g σ)) (va_Qi (fun r u => Post r ∧ u = σ) (zBB g) (zA g)) 0 0 (zA g) :=
  zMet (by decide) (Nat.le_of_ble_eq_true rfl) (fun p e s m below meth c hr C => g_X8_insured C (fun v pc lv hp hd => zr_iret C hr ⟨hp, rfl⟩ hd) h)
def wp_X8_aboard (p1 : Int32) (p2 : Int32) (σ : zST) (Post : Int32 → zST → Prop) : Prop := wp_X8_within p1 (0 : Int32) (7 : Int32) σ (fun r1 => (if r1 = (0) then Post (-1 : Int32) σ else wp_X8_within p2 (0 : Int32) (9 : Int32) σ (fun r4 => (if r4 = (0) then Post (-2 : Int32) σ else vp_in p1 8 ∧ ∀ σ8 : zST, σ8 = (wI (wI σ 13 0 ((σ.1 13 0) ||| ((1 : Int32) <<< (p1 &&& 31)))) 14 p1.toNatClampNeg p2) → wp_J6_bitCount_0f7a4 (σ8.1 13 0) σ8 (fun r9 => Post r9 σ8)))))
set_option maxRecDepth 100000 in
set_option maxHeartbeats 4000000 in
theorem g_X8_aboard {p : Program} {l : Launch} {e : Env} {R : Room} {s : State} {m : MethodId} {args : Array Value} {below : List Frame} {meth : Method} {c : Code} {Q : State → Prop} {g : zG} {n1 n2 : Nat} (C : zCX p R s m args meth c g n1 n2 cX8_aboard 3 RX8 1 22) {p1 : Int32} {p2 : Int32} {σ : zST} {Post : Int32 → zST → Prop} (hret : ∀ (v : Int32) (σ : zST) (pc : Nat) (lv : List (Nat × Value)), Post v σ → decode cX8_aboard pc = .ok (.ireturn, 1) → zGG p l e R s m args below meth c Q g n1 n2 3 pc lv [.int v] σ) (h : wp_X8_aboard p1 p2 σ Post) : zGG p l e R s m args below meth c Q g n1 n2 3 0 [(0, .ref (g.2.1 0)), (1, .int p1), (2, .int p2)] [] σ := by
  unfold wp_X8_aboard at h
  refine zr_iload_n C d_X8_aboard_0 rfl ?_
  refine zr_iconst C (0 : Int32) d_X8_aboard_1 (by decide) ?_
  refine zr_bipush C (7 : Int32) d_X8_aboard_2 (by decide) ?_
  refine zr_cip (zr_runS (As := [.int p1, .int (0 : Int32), .int (7 : Int32)]) (rest := []) C sw_X8_47 (c_X8_within l g p1 (0 : Int32) (7 : Int32) σ _ h) (by decide) (by decide) rfl rfl (Nat.le_of_ble_eq_true rfl) d_X8_aboard_4) (fun r1 h => ?_)
  refine zr_if_ne C 12 d_X8_aboard_7 (by decide) (fun hc3 => ?_) (fun hc3 => ?_)
  · rw [if_neg hc3] at h
    refine zr_iload_n C d_X8_aboard_12 rfl ?_
    refine zr_iconst C (0 : Int32) d_X8_aboard_13 (by decide) ?_
    refine zr_bipush C (9 : Int32) d_X8_aboard_14 (by decide) ?_
    refine zr_cip (zr_runS (As := [.int p2, .int (0 : Int32), .int (9 : Int32)]) (rest := []) C sw_X8_47 (c_X8_within l g p2 (0 : Int32) (9 : Int32) σ _ h) (by decide) (by decide) rfl rfl (Nat.le_of_ble_eq_true rfl) d_X8_aboard_16) (fun r4 h => ?_)
    refine zr_if_ne C 25 d_X8_aboard_19 (by decide) (fun hc6 => ?_) (fun hc6 => ?_)
    · rw [if_neg hc6] at h
      refine zr_aload_n C d_X8_aboard_25 rfl ?_
      refine zr_getr (u := 1) C fw_X8_10 (sh_0) rfl d_X8_aboard_26 ?_
      refine zr_getr (u := 13) C fw_X8_228 (sh_1) rfl d_X8_aboard_29 ?_
      refine zr_dup C d_X8_aboard_32 rfl ?_
      refine zr_geti C fw_X8_232 (sh_13) rfl d_X8_aboard_33 ?_
      refine zr_iconst C (1 : Int32) d_X8_aboard_36 (by decide) ?_
      refine zr_iload_n C d_X8_aboard_37 rfl ?_
      refine zr_ishl C d_X8_aboard_38 ?_
      refine zr_ior C d_X8_aboard_39 ?_
      refine zr_puti C fw_X8_232 pw_X1_0 (sh_13) rfl rfl rfl d_X8_aboard_40 ?_
      refine zr_aload_n C d_X8_aboard_43 rfl ?_
      refine zr_getr (u := 1) C fw_X8_10 (sh_0) rfl d_X8_aboard_44 ?_
      refine zr_getr (u := 13) C fw_X8_228 (sh_1) rfl d_X8_aboard_47 ?_
      refine zr_getr (u := 14) C fw_X8_235 (sh_13) rfl d_X8_aboard_50 ?_
      refine zr_iload_n C d_X8_aboard_53 rfl ?_
      refine zr_iload_n C d_X8_aboard_54 rfl ?_
      obtain ⟨ho7, h⟩ := h
      refine zr_iast C (sh_14) ho7 d_X8_aboard_55 ?_
      refine zr_aload_n C d_X8_aboard_56 rfl ?_
      refine zr_getr (u := 1) C fw_X8_10 (sh_0) rfl d_X8_aboard_57 ?_
      refine zr_getr (u := 13) C fw_X8_228 (sh_1) rfl d_X8_aboard_60 ?_
      refine zr_tops (fun σ8 hσ8 => ?_)
      replace h := h σ8 hσ8
      refine zr_geti C fw_X8_232 (sh_13) rfl d_X8_aboard_63 ?_
      refine zr_cip (zr_runS (As := [.int (σ8.1 13 0)]) (rest := []) C sw_X8_73 (c_J6_bitCount_0f7a4 l g (σ8.1 13 0) σ8 _ h) (by decide) (by decide) rfl rfl (Nat.le_of_ble_eq_true rfl) d_X8_aboard_66) (fun r9 h => ?_)
      exact hret _ _ _ _ h d_X8_aboard_69
    · rw [if_pos hc6] at h
      refine zr_bipush C (-2 : Int32) d_X8_aboard_22 (by decide) ?_
      exact hret _ _ _ _ h d_X8_aboard_24
  · rw [if_pos hc3] at h
    refine zr_iconst C (-1 : Int32) d_X8_aboard_10 (by decide) ?_
    exact hret _ _ _ _ h d_X8_aboard_11
set_option maxRecDepth 20000 in
theorem c_X8_aboard (l : Launch) (g : zG) (p1 : Int32) (p2 : Int32) (σ : zST) (Post : Int32 → zST → Prop) (h : wp_X8_aboard p1 p2 σ Post) : Met l yX8_aboard (Cond.code yX8_aboard cX8_aboard 3 (some .int) :: zGW) (zRm 1 22) (va_Pc [.ref (g.2.1 0), .int p1, .int p2] (zPP g σ)) (va_Qi Post (zBB g) (zA g)) 0 0 (zA g) :=
  zMet (by decide) (Nat.le_of_ble_eq_true rfl) (fun p e s m below meth c hr C => g_X8_aboard C (fun v σ pc lv hp hd => zr_iret C hr hp hd) h)
def wp_X8_ashore (p1 : Int32) (σ : zST) (Post : Int32 → zST → Prop) : Prop := wp_X1_has 13 p1 σ (fun r1 => (if r1 = (0) then Post (-1 : Int32) σ else ∀ σ4 : zST, σ4 = (wI σ 13 0 ((σ.1 13 0) &&& (((1 : Int32) <<< (p1 &&& 31)) ^^^ (-1 : Int32)))) → wp_J6_bitCount_0f7a4 (σ4.1 13 0) σ4 (fun r5 => Post r5 σ4)))
set_option maxRecDepth 100000 in
set_option maxHeartbeats 4000000 in
theorem g_X8_ashore {p : Program} {l : Launch} {e : Env} {R : Room} {s : State} {m : MethodId} {args : Array Value} {below : List Frame} {meth : Method} {c : Code} {Q : State → Prop} {g : zG} {n1 n2 : Nat} (C : zCX p R s m args meth c g n1 n2 cX8_ashore 2 RX8 2 43) {p1 : Int32} {σ : zST} {Post : Int32 → zST → Prop} (hret : ∀ (v : Int32) (σ : zST) (pc : Nat) (lv : List (Nat × Value)), Post v σ → decode cX8_ashore pc = .ok (.ireturn, 1) → zGG p l e R s m args below meth c Q g n1 n2 2 pc lv [.int v] σ) (h : wp_X8_ashore p1 σ Post) : zGG p l e R s m args below meth c Q g n1 n2 2 0 [(0, .ref (g.2.1 0)), (1, .int p1)] [] σ := by
  unfold wp_X8_ashore at h
  refine zr_aload_n C d_X8_ashore_0 rfl ?_
  refine zr_getr (u := 1) C fw_X8_10 (sh_0) rfl d_X8_ashore_1 ?_
  refine zr_getr (u := 13) C fw_X8_228 (sh_1) rfl d_X8_ashore_4 ?_
  refine zr_iload_n C d_X8_ashore_7 rfl ?_
  refine zr_cip (zr_runV (As := [.int p1]) (rest := []) C vw_X8_238 (c_X1_has l g 13 isX1_13 p1 σ _ h) (sh_13) rfl (by decide) (by decide) rfl rfl (Nat.le_of_ble_eq_true rfl) d_X8_ashore_8) (fun r1 h => ?_)
  refine zr_if_ne C 16 d_X8_ashore_11 (by decide) (fun hc3 => ?_) (fun hc3 => ?_)
  · rw [if_neg hc3] at h
    refine zr_aload_n C d_X8_ashore_16 rfl ?_
    refine zr_getr (u := 1) C fw_X8_10 (sh_0) rfl d_X8_ashore_17 ?_
    refine zr_getr (u := 13) C fw_X8_228 (sh_1) rfl d_X8_ashore_20 ?_
    refine zr_dup C d_X8_ashore_23 rfl ?_
    refine zr_geti C fw_X8_232 (sh_13) rfl d_X8_ashore_24 ?_
    refine zr_iconst C (1 : Int32) d_X8_ashore_27 (by decide) ?_
    refine zr_iload_n C d_X8_ashore_28 rfl ?_
    refine zr_ishl C d_X8_ashore_29 ?_
    refine zr_iconst C (-1 : Int32) d_X8_ashore_30 (by decide) ?_
    refine zr_ixor C d_X8_ashore_31 ?_
    refine zr_iand C d_X8_ashore_32 ?_
    refine zr_puti C fw_X8_232 pw_X1_0 (sh_13) rfl rfl rfl d_X8_ashore_33 ?_
    refine zr_aload_n C d_X8_ashore_36 rfl ?_
    refine zr_getr (u := 1) C fw_X8_10 (sh_0) rfl d_X8_ashore_37 ?_
    refine zr_getr (u := 13) C fw_X8_228 (sh_1) rfl d_X8_ashore_40 ?_
    refine zr_tops (fun σ4 hσ4 => ?_)
    replace h := h σ4 hσ4
    refine zr_geti C fw_X8_232 (sh_13) rfl d_X8_ashore_43 ?_
    refine zr_cip (zr_runS (As := [.int (σ4.1 13 0)]) (rest := []) C sw_X8_73 (c_J6_bitCount_0f7a4 l g (σ4.1 13 0) σ4 _ h) (by decide) (by decide) rfl rfl (Nat.le_of_ble_eq_true rfl) d_X8_ashore_46) (fun r5 h => ?_)
    exact hret _ _ _ _ h d_X8_ashore_49
  · rw [if_pos hc3] at h
    refine zr_iconst C (-1 : Int32) d_X8_ashore_14 (by decide) ?_
    exact hret _ _ _ _ h d_X8_ashore_15
set_option maxRecDepth 20000 in
theorem c_X8_ashore (l : Launch) (g : zG) (p1 : Int32) (σ : zST) (Post : Int32 → zST → Prop) (h : wp_X8_ashore p1 σ Post) : Met l yX8_ashore (Cond.code yX8_ashore cX8_ashore 2 (some .int) :: zGW) (zRm 2 43) (va_Pc [.ref (g.2.1 0), .int p1] (zPP g σ)) (va_Qi Post (zBB g) (zA g)) 0 0 (zA g) :=
  zMet (by decide) (Nat.le_of_ble_eq_true rfl) (fun p e s m below meth c hr C => g_X8_ashore C (fun v σ pc lv hp hd => zr_iret C hr hp hd) h)
def wp_X8_commonDivisor_L9 (σ : zST) (Post : Int64 → Prop) : Nat → Int64 → Int64 → Int32 → Prop
  | 0, _, _, _ => False
  | N + 1, v4, v6, v8 => (if (128 : Int32) ≤ v8 then Post v4 else (if (lg_cmp v6 (0 : Int64)) = (0) then Post v4 else ¬ v6 = 0 ∧ ∀ x4 : Int64, x4 = (v4 - v4 / v6 * v6) → wp_X8_commonDivisor_L9 σ Post N v6 x4 (v8 + 1)))

set_option maxRecDepth 100000 in
set_option maxHeartbeats 4000000 in
theorem g_X8_commonDivisor_L9 {p : Program} {l : Launch} {e : Env} {R : Room} {s : State} {m : MethodId} {args : Array Value} {below : List Frame} {meth : Method} {c : Code} {Q : State → Prop} {g : zG} {n1 n2 : Nat} (C : zCX p R s m args meth c g n1 n2 cX8_commonDivisor 11 RX8 0 0) {σ : zST}  {Post : Int64 → Prop} (hret : ∀ (v : Int64) (pc : Nat) (lv : List (Nat × Value)), Post v → decode cX8_commonDivisor pc = .ok (.lreturn, 1) → zGG p l e R s m args below meth c Q g n1 n2 11 pc lv [.long v] σ) : ∀ (N : Nat) (v4 : Int64) (v6 : Int64) (v8 : Int32) , wp_X8_commonDivisor_L9 σ Post N v4 v6 v8 → zGG p l e R s m args below meth c Q g n1 n2 11 9 [(4, .long v4), (6, .long v6), (8, .int v8)] [] σ := by
  intro N
  induction N with
  | zero =>
    intro v4 v6 v8 h
    exact h.elim
  | succ N ih =>
    intro v4 v6 v8 h
    rw [wp_X8_commonDivisor_L9] at h
    refine zr_iload C d_X8_commonDivisor_9 rfl ?_
    refine zr_sipush C (128 : Int32) d_X8_commonDivisor_11 (by decide) ?_
    refine zr_icmp_ge C 45 d_X8_commonDivisor_14 (by decide) (fun hc1 => ?_) (fun hc1 => ?_)
    · rw [if_pos hc1] at h
      refine zr_lload C d_X8_commonDivisor_45 rfl ?_
      exact hret _ _ _ h d_X8_commonDivisor_47
    · rw [if_neg hc1] at h
      refine zr_lload C d_X8_commonDivisor_17 rfl ?_
      refine zr_lconst C (0 : Int64) d_X8_commonDivisor_19 (by decide) ?_
      refine zr_lcmp C d_X8_commonDivisor_20 ?_
      refine zr_if_eq C 45 d_X8_commonDivisor_21 (by decide) (fun hc2 => ?_) (fun hc2 => ?_)
      · rw [if_pos hc2] at h
        refine zr_lload C d_X8_commonDivisor_45 rfl ?_
        exact hret _ _ _ h d_X8_commonDivisor_47
      · rw [if_neg hc2] at h
        refine zr_lload C d_X8_commonDivisor_24 rfl ?_
        refine zr_lload C d_X8_commonDivisor_26 rfl ?_
        obtain ⟨ho3, h⟩ := h
        refine zr_lrem C d_X8_commonDivisor_28 ho3 ?_
        refine zr_topl (fun x4 hx4 => ?_)
        replace h := h x4 hx4
        refine zr_lstore C [(9, .long x4), (4, .long v4), (6, .long v6), (8, .int v8)] d_X8_commonDivisor_29 (by decide) rfl ?_
        refine zr_lload C d_X8_commonDivisor_31 rfl ?_
        refine zr_lstore C [(4, .long v6), (9, .long x4), (6, .long v6), (8, .int v8)] d_X8_commonDivisor_33 (by decide) rfl ?_
        refine zr_lload C d_X8_commonDivisor_35 rfl ?_
        refine zr_lstore C [(6, .long x4), (4, .long v6), (9, .long x4), (8, .int v8)] d_X8_commonDivisor_37 (by decide) rfl ?_
        refine zr_iinc C (v8 + 1) [(8, .int (v8 + 1)), (6, .long x4), (4, .long v6), (9, .long x4)] d_X8_commonDivisor_39 rfl rfl (by decide) rfl ?_
        refine zr_goto C 9 d_X8_commonDivisor_42 (by decide) ?_
        exact zr_pick [2, 1, 0] rfl (ih v6 x4 (v8 + 1) h)

def wp_X8_commonDivisor (p0 : Int64) (p2 : Int64) (σ : zST) (Post : Int64 → Prop) : Prop := ∃ M5 : Nat, wp_X8_commonDivisor_L9 σ Post M5 p0 p2 (0 : Int32)
set_option maxRecDepth 100000 in
set_option maxHeartbeats 4000000 in
theorem g_X8_commonDivisor {p : Program} {l : Launch} {e : Env} {R : Room} {s : State} {m : MethodId} {args : Array Value} {below : List Frame} {meth : Method} {c : Code} {Q : State → Prop} {g : zG} {n1 n2 : Nat} (C : zCX p R s m args meth c g n1 n2 cX8_commonDivisor 11 RX8 0 0) {p0 : Int64} {p2 : Int64} {σ : zST} {Post : Int64 → Prop} (hret : ∀ (v : Int64) (pc : Nat) (lv : List (Nat × Value)), Post v → decode cX8_commonDivisor pc = .ok (.lreturn, 1) → zGG p l e R s m args below meth c Q g n1 n2 11 pc lv [.long v] σ) (h : wp_X8_commonDivisor p0 p2 σ Post) : zGG p l e R s m args below meth c Q g n1 n2 11 0 [(0, .long p0), (2, .long p2)] [] σ := by
  unfold wp_X8_commonDivisor at h
  refine zr_lload_n C d_X8_commonDivisor_0 rfl ?_
  refine zr_lstore C [(4, .long p0), (0, .long p0), (2, .long p2)] d_X8_commonDivisor_1 (by decide) rfl ?_
  refine zr_lload_n C d_X8_commonDivisor_3 rfl ?_
  refine zr_lstore C [(6, .long p2), (4, .long p0), (0, .long p0), (2, .long p2)] d_X8_commonDivisor_4 (by decide) rfl ?_
  refine zr_iconst C (0 : Int32) d_X8_commonDivisor_6 (by decide) ?_
  refine zr_istore C [(8, .int (0 : Int32)), (6, .long p2), (4, .long p0), (0, .long p0), (2, .long p2)] d_X8_commonDivisor_7 (by decide) rfl ?_
  obtain ⟨M5, h⟩ := h
  exact zr_pick [2, 1, 0] rfl (g_X8_commonDivisor_L9 C hret M5 p0 p2 (0 : Int32) h)
set_option maxRecDepth 20000 in
theorem c_X8_commonDivisor (l : Launch) (g : zG) (p0 : Int64) (p2 : Int64) (σ : zST) (Post : Int64 → Prop) (h : wp_X8_commonDivisor p0 p2 σ Post) : Met l yX8_commonDivisor (Cond.code yX8_commonDivisor cX8_commonDivisor 11 (some .long) :: zGW) (zRm 0 0) (va_Pc [.long p0, .long p2] (zPP g σ)) (va_Ql (fun r u => Post r ∧ u = σ) (zBB g) (zA g)) 0 0 (zA g) :=
  zMet (by decide) (Nat.le_of_ble_eq_true rfl) (fun p e s m below meth c hr C => g_X8_commonDivisor C (fun v pc lv hp hd => zr_lret C hr ⟨hp, rfl⟩ hd) h)
def wp_X8_partOf (p0 : Int64) (p2 : Int64) (p4 : Int32) (σ : zST) (Post : Int64 → Prop) : Prop := wp_X8_commonDivisor p0 p2 σ (fun r1 => (if (0) ≤ (lg_cmp r1 (1 : Int64)) then ∀ z5 : Int64, z5 = (if p4 = (0) then p0 else p2) → ¬ r1 = 0 ∧ Post (z5 / r1) else Post (0 : Int64)))
set_option maxRecDepth 100000 in
set_option maxHeartbeats 4000000 in
theorem g_X8_partOf {p : Program} {l : Launch} {e : Env} {R : Room} {s : State} {m : MethodId} {args : Array Value} {below : List Frame} {meth : Method} {c : Code} {Q : State → Prop} {g : zG} {n1 n2 : Nat} (C : zCX p R s m args meth c g n1 n2 cX8_partOf 7 RX8 1 30) {p0 : Int64} {p2 : Int64} {p4 : Int32} {σ : zST} {Post : Int64 → Prop} (hret : ∀ (v : Int64) (pc : Nat) (lv : List (Nat × Value)), Post v → decode cX8_partOf pc = .ok (.lreturn, 1) → zGG p l e R s m args below meth c Q g n1 n2 7 pc lv [.long v] σ) (h : wp_X8_partOf p0 p2 p4 σ Post) : zGG p l e R s m args below meth c Q g n1 n2 7 0 [(0, .long p0), (2, .long p2), (4, .int p4)] [] σ := by
  unfold wp_X8_partOf at h
  refine zr_lload_n C d_X8_partOf_0 rfl ?_
  refine zr_lload_n C d_X8_partOf_1 rfl ?_
  refine zr_clp (zr_runS (As := [.long p0, .long p2]) (rest := []) C sw_X8_288 (c_X8_commonDivisor l g p0 p2 σ _ h) (by decide) (by decide) rfl rfl (Nat.le_of_ble_eq_true rfl) d_X8_partOf_2) (fun r1 h => ?_)
  refine zr_lstore C [(5, .long r1), (0, .long p0), (2, .long p2), (4, .int p4)] d_X8_partOf_5 (by decide) rfl ?_
  refine zr_lload C d_X8_partOf_7 rfl ?_
  refine zr_lconst C (1 : Int64) d_X8_partOf_9 (by decide) ?_
  refine zr_lcmp C d_X8_partOf_10 ?_
  refine zr_if_ge C 16 d_X8_partOf_11 (by decide) (fun hc3 => ?_) (fun hc3 => ?_)
  · rw [if_pos hc3] at h
    refine zr_iload C d_X8_partOf_16 rfl ?_
    have hJ6 : ∀ z5 : Int64, z5 = (if p4 = (0) then p0 else p2) → zGG p l e R s m args below meth c Q g n1 n2 7 26 [(5, .long r1), (0, .long p0), (2, .long p2), (4, .int p4)] [.long z5] σ := by
      intro z5 hz5
      replace h := h z5 hz5
      refine zr_lload C d_X8_partOf_26 rfl ?_
      obtain ⟨ho8, h⟩ := h
      refine zr_ldiv C d_X8_partOf_28 ho8 ?_
      exact hret _ _ _ h d_X8_partOf_29
    refine zr_if_ne C 25 d_X8_partOf_18 (by decide) (fun hc4 => ?_) (fun hc4 => ?_)
    · skip
      refine zr_lload_n C d_X8_partOf_25 rfl ?_
      exact hJ6 _ (by rw [if_neg hc4])
    · skip
      refine zr_lload_n C d_X8_partOf_21 rfl ?_
      refine zr_goto C 26 d_X8_partOf_22 (by decide) ?_
      exact hJ6 _ (by rw [if_pos hc4])
  · rw [if_neg hc3] at h
    refine zr_lconst C (0 : Int64) d_X8_partOf_14 (by decide) ?_
    exact hret _ _ _ h d_X8_partOf_15
set_option maxRecDepth 20000 in
theorem c_X8_partOf (l : Launch) (g : zG) (p0 : Int64) (p2 : Int64) (p4 : Int32) (σ : zST) (Post : Int64 → Prop) (h : wp_X8_partOf p0 p2 p4 σ Post) : Met l yX8_partOf (Cond.code yX8_partOf cX8_partOf 7 (some .long) :: zGW) (zRm 1 30) (va_Pc [.long p0, .long p2, .int p4] (zPP g σ)) (va_Ql (fun r u => Post r ∧ u = σ) (zBB g) (zA g)) 0 0 (zA g) :=
  zMet (by decide) (Nat.le_of_ble_eq_true rfl) (fun p e s m below meth c hr C => g_X8_partOf C (fun v pc lv hp hd => zr_lret C hr ⟨hp, rfl⟩ hd) h)
def wp_X8_lot (p1 : Int32) (p2 : Int32) (p3 : Int32) (σ : zST) (Post : Int64 → Prop) : Prop := wp_X1_has 13 p2 σ (fun r1 => (if r1 = (0) then Post (-1000000000000000001 : Int64) else wp_J6_bitCount_0f7a4 (σ.1 13 0) σ (fun r4 => wp_X8_within p1 (1 : Int32) r4 σ (fun r6 => (if r6 = (0) then Post (-1000000000000000002 : Int64) else wp_X8_within p3 (0 : Int32) (1 : Int32) σ (fun r9 => (if r9 = (0) then Post (-1000000000000000002 : Int64) else vp_in p2 8 ∧ vp_in p2 8 ∧ wp_X1_countDrawn 13 (σ.1 14 p2.toNatClampNeg) (σ.1 14 p2.toNatClampNeg) σ (fun r14 => vp_in p2 8 ∧ wp_X1_countDrawn 13 (0 : Int32) ((σ.1 14 p2.toNatClampNeg) - (1 : Int32)) σ (fun r17 => ∀ x19 : Int32, x19 = (if (0 : Int32) < (if (p1 - r17) < r14 then (p1 - r17) else r14) then (if (p1 - r17) < r14 then (p1 - r17) else r14) else (0 : Int32)) → wp_X8_partOf (x19.toInt64) (r14.toInt64) p3 σ (fun r20 => Post r20))))))))))
set_option maxRecDepth 100000 in
set_option maxHeartbeats 4000000 in
theorem g_X8_lot {p : Program} {l : Launch} {e : Env} {R : Room} {s : State} {m : MethodId} {args : Array Value} {below : List Frame} {meth : Method} {c : Code} {Q : State → Prop} {g : zG} {n1 n2 : Nat} (C : zCX p R s m args meth c g n1 n2 cX8_lot 8 RX8 3 67) {p1 : Int32} {p2 : Int32} {p3 : Int32} {σ : zST} {Post : Int64 → Prop} (hret : ∀ (v : Int64) (pc : Nat) (lv : List (Nat × Value)), Post v → decode cX8_lot pc = .ok (.lreturn, 1) → zGG p l e R s m args below meth c Q g n1 n2 8 pc lv [.long v] σ) (h : wp_X8_lot p1 p2 p3 σ Post) : zGG p l e R s m args below meth c Q g n1 n2 8 0 [(0, .ref (g.2.1 0)), (1, .int p1), (2, .int p2), (3, .int p3)] [] σ := by
  unfold wp_X8_lot at h
  refine zr_aload_n C d_X8_lot_0 rfl ?_
  refine zr_getr (u := 1) C fw_X8_10 (sh_0) rfl d_X8_lot_1 ?_
  refine zr_getr (u := 13) C fw_X8_228 (sh_1) rfl d_X8_lot_4 ?_
  refine zr_astore C [(4, .ref (g.2.1 13)), (0, .ref (g.2.1 0)), (1, .int p1), (2, .int p2), (3, .int p3)] d_X8_lot_7 (by decide) rfl ?_
  refine zr_aload C d_X8_lot_9 rfl ?_
  refine zr_iload_n C d_X8_lot_11 rfl ?_
  refine zr_cip (zr_runV (As := [.int p2]) (rest := []) C vw_X8_238 (c_X1_has l g 13 isX1_13 p2 σ _ h) (sh_13) rfl (by decide) (by decide) rfl rfl (Nat.le_of_ble_eq_true rfl) d_X8_lot_12) (fun r1 h => ?_)
  refine zr_if_ne C 22 d_X8_lot_15 (by decide) (fun hc3 => ?_) (fun hc3 => ?_)
  · rw [if_neg hc3] at h
    refine zr_iload_n C d_X8_lot_22 rfl ?_
    refine zr_iconst C (1 : Int32) d_X8_lot_23 (by decide) ?_
    refine zr_aload C d_X8_lot_24 rfl ?_
    refine zr_geti C fw_X8_232 (sh_13) rfl d_X8_lot_26 ?_
    refine zr_cip (zr_runS (As := [.int (σ.1 13 0)]) (rest := [.int (1 : Int32), .int p1]) C sw_X8_73 (c_J6_bitCount_0f7a4 l g (σ.1 13 0) σ _ h) (by decide) (by decide) rfl rfl (Nat.le_of_ble_eq_true rfl) d_X8_lot_29) (fun r4 h => ?_)
    refine zr_cip (zr_runS (As := [.int p1, .int (1 : Int32), .int r4]) (rest := []) C sw_X8_47 (c_X8_within l g p1 (1 : Int32) r4 σ _ h) (by decide) (by decide) rfl rfl (Nat.le_of_ble_eq_true rfl) d_X8_lot_32) (fun r6 h => ?_)
    refine zr_if_eq C 47 d_X8_lot_35 (by decide) (fun hc8 => ?_) (fun hc8 => ?_)
    · rw [if_pos hc8] at h
      refine zr_ldc2 C (v := (-1000000000000000002 : Int64)) cl_X8_241 d_X8_lot_47 ?_
      exact hret _ _ _ h d_X8_lot_50
    · rw [if_neg hc8] at h
      refine zr_iload_n C d_X8_lot_38 rfl ?_
      refine zr_iconst C (0 : Int32) d_X8_lot_39 (by decide) ?_
      refine zr_iconst C (1 : Int32) d_X8_lot_40 (by decide) ?_
      refine zr_cip (zr_runS (As := [.int p3, .int (0 : Int32), .int (1 : Int32)]) (rest := []) C sw_X8_47 (c_X8_within l g p3 (0 : Int32) (1 : Int32) σ _ h) (by decide) (by decide) rfl rfl (Nat.le_of_ble_eq_true rfl) d_X8_lot_41) (fun r9 h => ?_)
      refine zr_if_ne C 51 d_X8_lot_44 (by decide) (fun hc11 => ?_) (fun hc11 => ?_)
      · rw [if_neg hc11] at h
        refine zr_aload C d_X8_lot_51 rfl ?_
        refine zr_aload C d_X8_lot_53 rfl ?_
        refine zr_getr (u := 14) C fw_X8_235 (sh_13) rfl d_X8_lot_55 ?_
        refine zr_iload_n C d_X8_lot_58 rfl ?_
        obtain ⟨ho12, h⟩ := h
        refine zr_iald C (sh_14) ho12 d_X8_lot_59 ?_
        refine zr_aload C d_X8_lot_60 rfl ?_
        refine zr_getr (u := 14) C fw_X8_235 (sh_13) rfl d_X8_lot_62 ?_
        refine zr_iload_n C d_X8_lot_65 rfl ?_
        obtain ⟨ho13, h⟩ := h
        refine zr_iald C (sh_14) ho13 d_X8_lot_66 ?_
        refine zr_cip (zr_runV (As := [.int (σ.1 14 p2.toNatClampNeg), .int (σ.1 14 p2.toNatClampNeg)]) (rest := []) C vw_X8_243 (c_X1_countDrawn l g 13 isX1_13 (σ.1 14 p2.toNatClampNeg) (σ.1 14 p2.toNatClampNeg) σ _ h) (sh_13) rfl (by decide) (by decide) rfl rfl (Nat.le_of_ble_eq_true rfl) d_X8_lot_67) (fun r14 h => ?_)
        refine zr_istore C [(5, .int r14), (4, .ref (g.2.1 13)), (0, .ref (g.2.1 0)), (1, .int p1), (2, .int p2), (3, .int p3)] d_X8_lot_70 (by decide) rfl ?_
        refine zr_aload C d_X8_lot_72 rfl ?_
        refine zr_iconst C (0 : Int32) d_X8_lot_74 (by decide) ?_
        refine zr_aload C d_X8_lot_75 rfl ?_
        refine zr_getr (u := 14) C fw_X8_235 (sh_13) rfl d_X8_lot_77 ?_
        refine zr_iload_n C d_X8_lot_80 rfl ?_
        obtain ⟨ho16, h⟩ := h
        refine zr_iald C (sh_14) ho16 d_X8_lot_81 ?_
        refine zr_iconst C (1 : Int32) d_X8_lot_82 (by decide) ?_
        refine zr_isub C d_X8_lot_83 ?_
        refine zr_cip (zr_runV (As := [.int (0 : Int32), .int ((σ.1 14 p2.toNatClampNeg) - (1 : Int32))]) (rest := []) C vw_X8_243 (c_X1_countDrawn l g 13 isX1_13 (0 : Int32) ((σ.1 14 p2.toNatClampNeg) - (1 : Int32)) σ _ h) (sh_13) rfl (by decide) (by decide) rfl rfl (Nat.le_of_ble_eq_true rfl) d_X8_lot_84) (fun r17 h => ?_)
        refine zr_istore C [(6, .int r17), (5, .int r14), (4, .ref (g.2.1 13)), (0, .ref (g.2.1 0)), (1, .int p1), (2, .int p2), (3, .int p3)] d_X8_lot_87 (by decide) rfl ?_
        refine zr_iconst C (0 : Int32) d_X8_lot_89 (by decide) ?_
        refine zr_iload C d_X8_lot_90 rfl ?_
        refine zr_iload_n C d_X8_lot_92 rfl ?_
        refine zr_iload C d_X8_lot_93 rfl ?_
        refine zr_isub C d_X8_lot_95 ?_
        refine zr_mmin C mw_X8_108 (by decide) (Nat.le_of_ble_eq_true rfl) d_X8_lot_96 ?_
        refine zr_mmax C mw_X8_225 (by decide) (Nat.le_of_ble_eq_true rfl) d_X8_lot_99 ?_
        refine zr_topi (fun x19 hx19 => ?_)
        replace h := h x19 hx19
        refine zr_istore C [(7, .int x19), (6, .int r17), (5, .int r14), (4, .ref (g.2.1 13)), (0, .ref (g.2.1 0)), (1, .int p1), (2, .int p2), (3, .int p3)] d_X8_lot_102 (by decide) rfl ?_
        refine zr_iload C d_X8_lot_104 rfl ?_
        refine zr_i2l C d_X8_lot_106 ?_
        refine zr_iload C d_X8_lot_107 rfl ?_
        refine zr_i2l C d_X8_lot_109 ?_
        refine zr_iload_n C d_X8_lot_110 rfl ?_
        refine zr_clp (zr_runS (As := [.long (x19.toInt64), .long (r14.toInt64), .int p3]) (rest := []) C sw_X8_246 (c_X8_partOf l g (x19.toInt64) (r14.toInt64) p3 σ _ h) (by decide) (by decide) rfl rfl (Nat.le_of_ble_eq_true rfl) d_X8_lot_111) (fun r20 h => ?_)
        exact hret _ _ _ h d_X8_lot_114
      · rw [if_pos hc11] at h
        refine zr_ldc2 C (v := (-1000000000000000002 : Int64)) cl_X8_241 d_X8_lot_47 ?_
        exact hret _ _ _ h d_X8_lot_50
  · rw [if_pos hc3] at h
    refine zr_ldc2 C (v := (-1000000000000000001 : Int64)) cl_X8_239 d_X8_lot_18 ?_
    exact hret _ _ _ h d_X8_lot_21
set_option maxRecDepth 20000 in
theorem c_X8_lot (l : Launch) (g : zG) (p1 : Int32) (p2 : Int32) (p3 : Int32) (σ : zST) (Post : Int64 → Prop) (h : wp_X8_lot p1 p2 p3 σ Post) : Met l yX8_lot (Cond.code yX8_lot cX8_lot 8 (some .long) :: zGW) (zRm 3 67) (va_Pc [.ref (g.2.1 0), .int p1, .int p2, .int p3] (zPP g σ)) (va_Ql (fun r u => Post r ∧ u = σ) (zBB g) (zA g)) 0 0 (zA g) :=
  zMet (by decide) (Nat.le_of_ble_eq_true rfl) (fun p e s m below meth c hr C => g_X8_lot C (fun v pc lv hp hd => zr_lret C hr ⟨hp, rfl⟩ hd) h)
def wp_X8_ways_L16 (v0 : Int32) (v1 : Int32) (σ : zST) (Post : Int64 → Prop) : Nat → Int64 → Int32 → Prop
  | 0, _, _ => False
  | N + 1, v2, v4 => (if v1 < v4 then Post v2 else ¬ (v4.toInt64) = 0 ∧ ∀ x5 : Int64, x5 = ((v2 * (((v0 - v1) + v4).toInt64)) / (v4.toInt64)) → wp_X8_ways_L16 v0 v1 σ Post N x5 (v4 + 1))

set_option maxRecDepth 100000 in
set_option maxHeartbeats 4000000 in
theorem g_X8_ways_L16 {p : Program} {l : Launch} {e : Env} {R : Room} {s : State} {m : MethodId} {args : Array Value} {below : List Frame} {meth : Method} {c : Code} {Q : State → Prop} {g : zG} {n1 n2 : Nat} (C : zCX p R s m args meth c g n1 n2 cX8_ways 5 RX8 0 0) {v0 : Int32} {v1 : Int32} {σ : zST}  {Post : Int64 → Prop} (hret : ∀ (v : Int64) (pc : Nat) (lv : List (Nat × Value)), Post v → decode cX8_ways pc = .ok (.lreturn, 1) → zGG p l e R s m args below meth c Q g n1 n2 5 pc lv [.long v] σ) : ∀ (N : Nat) (v2 : Int64) (v4 : Int32) , wp_X8_ways_L16 v0 v1 σ Post N v2 v4 → zGG p l e R s m args below meth c Q g n1 n2 5 16 [(0, .int v0), (1, .int v1), (2, .long v2), (4, .int v4)] [] σ := by
  intro N
  induction N with
  | zero =>
    intro v2 v4 h
    exact h.elim
  | succ N ih =>
    intro v2 v4 h
    rw [wp_X8_ways_L16] at h
    refine zr_iload C d_X8_ways_16 rfl ?_
    refine zr_iload_n C d_X8_ways_18 rfl ?_
    refine zr_icmp_gt C 42 d_X8_ways_19 (by decide) (fun hc3 => ?_) (fun hc3 => ?_)
    · rw [if_pos hc3] at h
      refine zr_lload_n C d_X8_ways_42 rfl ?_
      exact hret _ _ _ h d_X8_ways_43
    · rw [if_neg hc3] at h
      refine zr_lload_n C d_X8_ways_22 rfl ?_
      refine zr_iload_n C d_X8_ways_23 rfl ?_
      refine zr_iload_n C d_X8_ways_24 rfl ?_
      refine zr_isub C d_X8_ways_25 ?_
      refine zr_iload C d_X8_ways_26 rfl ?_
      refine zr_iadd C d_X8_ways_28 ?_
      refine zr_i2l C d_X8_ways_29 ?_
      refine zr_lmul C d_X8_ways_30 ?_
      refine zr_iload C d_X8_ways_31 rfl ?_
      refine zr_i2l C d_X8_ways_33 ?_
      obtain ⟨ho4, h⟩ := h
      refine zr_ldiv C d_X8_ways_34 ho4 ?_
      refine zr_topl (fun x5 hx5 => ?_)
      replace h := h x5 hx5
      refine zr_lstore_n C [(2, .long x5), (0, .int v0), (1, .int v1), (4, .int v4)] d_X8_ways_35 (by decide) rfl ?_
      refine zr_iinc C (v4 + 1) [(4, .int (v4 + 1)), (2, .long x5), (0, .int v0), (1, .int v1)] d_X8_ways_36 rfl rfl (by decide) rfl ?_
      refine zr_goto C 16 d_X8_ways_39 (by decide) ?_
      exact zr_pick [2, 3, 1, 0] rfl (ih x5 (v4 + 1) h)

def wp_X8_ways (p0 : Int32) (p1 : Int32) (σ : zST) (Post : Int64 → Prop) : Prop := (if p1 < (0) then Post (0 : Int64) else (if p1 ≤ p0 then ∃ M6 : Nat, wp_X8_ways_L16 p0 p1 σ Post M6 (1 : Int64) (1 : Int32) else Post (0 : Int64)))
set_option maxRecDepth 100000 in
set_option maxHeartbeats 4000000 in
theorem g_X8_ways {p : Program} {l : Launch} {e : Env} {R : Room} {s : State} {m : MethodId} {args : Array Value} {below : List Frame} {meth : Method} {c : Code} {Q : State → Prop} {g : zG} {n1 n2 : Nat} (C : zCX p R s m args meth c g n1 n2 cX8_ways 5 RX8 0 0) {p0 : Int32} {p1 : Int32} {σ : zST} {Post : Int64 → Prop} (hret : ∀ (v : Int64) (pc : Nat) (lv : List (Nat × Value)), Post v → decode cX8_ways pc = .ok (.lreturn, 1) → zGG p l e R s m args below meth c Q g n1 n2 5 pc lv [.long v] σ) (h : wp_X8_ways p0 p1 σ Post) : zGG p l e R s m args below meth c Q g n1 n2 5 0 [(0, .int p0), (1, .int p1)] [] σ := by
  unfold wp_X8_ways at h
  refine zr_iload_n C d_X8_ways_0 rfl ?_
  refine zr_if_lt C 9 d_X8_ways_1 (by decide) (fun hc1 => ?_) (fun hc1 => ?_)
  · rw [if_pos hc1] at h
    refine zr_lconst C (0 : Int64) d_X8_ways_9 (by decide) ?_
    exact hret _ _ _ h d_X8_ways_10
  · rw [if_neg hc1] at h
    refine zr_iload_n C d_X8_ways_4 rfl ?_
    refine zr_iload_n C d_X8_ways_5 rfl ?_
    refine zr_icmp_le C 11 d_X8_ways_6 (by decide) (fun hc2 => ?_) (fun hc2 => ?_)
    · rw [if_pos hc2] at h
      refine zr_lconst C (1 : Int64) d_X8_ways_11 (by decide) ?_
      refine zr_lstore_n C [(2, .long (1 : Int64)), (0, .int p0), (1, .int p1)] d_X8_ways_12 (by decide) rfl ?_
      refine zr_iconst C (1 : Int32) d_X8_ways_13 (by decide) ?_
      refine zr_istore C [(4, .int (1 : Int32)), (2, .long (1 : Int64)), (0, .int p0), (1, .int p1)] d_X8_ways_14 (by decide) rfl ?_
      obtain ⟨M6, h⟩ := h
      exact zr_pick [2, 3, 1, 0] rfl (g_X8_ways_L16 C hret M6 (1 : Int64) (1 : Int32) h)
    · rw [if_neg hc2] at h
      refine zr_lconst C (0 : Int64) d_X8_ways_9 (by decide) ?_
      exact hret _ _ _ h d_X8_ways_10
set_option maxRecDepth 20000 in
theorem c_X8_ways (l : Launch) (g : zG) (p0 : Int32) (p1 : Int32) (σ : zST) (Post : Int64 → Prop) (h : wp_X8_ways p0 p1 σ Post) : Met l yX8_ways (Cond.code yX8_ways cX8_ways 5 (some .long) :: zGW) (zRm 0 0) (va_Pc [.int p0, .int p1] (zPP g σ)) (va_Ql (fun r u => Post r ∧ u = σ) (zBB g) (zA g)) 0 0 (zA g) :=
  zMet (by decide) (Nat.le_of_ble_eq_true rfl) (fun p e s m below meth c hr C => g_X8_ways C (fun v pc lv hp hd => zr_lret C hr ⟨hp, rfl⟩ hd) h)
def wp_X8_power_L5 (v0 : Int32) (v1 : Int32) (σ : zST) (Post : Int64 → Prop) : Nat → Int64 → Int32 → Prop
  | 0, _, _ => False
  | N + 1, v2, v4 => (if v1 ≤ v4 then Post v2 else ∀ x2 : Int64, x2 = (v2 * (v0.toInt64)) → wp_X8_power_L5 v0 v1 σ Post N x2 (v4 + 1))

set_option maxRecDepth 100000 in
set_option maxHeartbeats 4000000 in
theorem g_X8_power_L5 {p : Program} {l : Launch} {e : Env} {R : Room} {s : State} {m : MethodId} {args : Array Value} {below : List Frame} {meth : Method} {c : Code} {Q : State → Prop} {g : zG} {n1 n2 : Nat} (C : zCX p R s m args meth c g n1 n2 cX8_power 5 RX8 0 0) {v0 : Int32} {v1 : Int32} {σ : zST}  {Post : Int64 → Prop} (hret : ∀ (v : Int64) (pc : Nat) (lv : List (Nat × Value)), Post v → decode cX8_power pc = .ok (.lreturn, 1) → zGG p l e R s m args below meth c Q g n1 n2 5 pc lv [.long v] σ) : ∀ (N : Nat) (v2 : Int64) (v4 : Int32) , wp_X8_power_L5 v0 v1 σ Post N v2 v4 → zGG p l e R s m args below meth c Q g n1 n2 5 5 [(0, .int v0), (1, .int v1), (2, .long v2), (4, .int v4)] [] σ := by
  intro N
  induction N with
  | zero =>
    intro v2 v4 h
    exact h.elim
  | succ N ih =>
    intro v2 v4 h
    rw [wp_X8_power_L5] at h
    refine zr_iload C d_X8_power_5 rfl ?_
    refine zr_iload_n C d_X8_power_7 rfl ?_
    refine zr_icmp_ge C 22 d_X8_power_8 (by decide) (fun hc1 => ?_) (fun hc1 => ?_)
    · rw [if_pos hc1] at h
      refine zr_lload_n C d_X8_power_22 rfl ?_
      exact hret _ _ _ h d_X8_power_23
    · rw [if_neg hc1] at h
      refine zr_lload_n C d_X8_power_11 rfl ?_
      refine zr_iload_n C d_X8_power_12 rfl ?_
      refine zr_i2l C d_X8_power_13 ?_
      refine zr_lmul C d_X8_power_14 ?_
      refine zr_topl (fun x2 hx2 => ?_)
      replace h := h x2 hx2
      refine zr_lstore_n C [(2, .long x2), (0, .int v0), (1, .int v1), (4, .int v4)] d_X8_power_15 (by decide) rfl ?_
      refine zr_iinc C (v4 + 1) [(4, .int (v4 + 1)), (2, .long x2), (0, .int v0), (1, .int v1)] d_X8_power_16 rfl rfl (by decide) rfl ?_
      refine zr_goto C 5 d_X8_power_19 (by decide) ?_
      exact zr_pick [2, 3, 1, 0] rfl (ih x2 (v4 + 1) h)

def wp_X8_power (p0 : Int32) (p1 : Int32) (σ : zST) (Post : Int64 → Prop) : Prop := ∃ M3 : Nat, wp_X8_power_L5 p0 p1 σ Post M3 (1 : Int64) (0 : Int32)
set_option maxRecDepth 100000 in
set_option maxHeartbeats 4000000 in
theorem g_X8_power {p : Program} {l : Launch} {e : Env} {R : Room} {s : State} {m : MethodId} {args : Array Value} {below : List Frame} {meth : Method} {c : Code} {Q : State → Prop} {g : zG} {n1 n2 : Nat} (C : zCX p R s m args meth c g n1 n2 cX8_power 5 RX8 0 0) {p0 : Int32} {p1 : Int32} {σ : zST} {Post : Int64 → Prop} (hret : ∀ (v : Int64) (pc : Nat) (lv : List (Nat × Value)), Post v → decode cX8_power pc = .ok (.lreturn, 1) → zGG p l e R s m args below meth c Q g n1 n2 5 pc lv [.long v] σ) (h : wp_X8_power p0 p1 σ Post) : zGG p l e R s m args below meth c Q g n1 n2 5 0 [(0, .int p0), (1, .int p1)] [] σ := by
  unfold wp_X8_power at h
  refine zr_lconst C (1 : Int64) d_X8_power_0 (by decide) ?_
  refine zr_lstore_n C [(2, .long (1 : Int64)), (0, .int p0), (1, .int p1)] d_X8_power_1 (by decide) rfl ?_
  refine zr_iconst C (0 : Int32) d_X8_power_2 (by decide) ?_
  refine zr_istore C [(4, .int (0 : Int32)), (2, .long (1 : Int64)), (0, .int p0), (1, .int p1)] d_X8_power_3 (by decide) rfl ?_
  obtain ⟨M3, h⟩ := h
  exact zr_pick [2, 3, 1, 0] rfl (g_X8_power_L5 C hret M3 (1 : Int64) (0 : Int32) h)
set_option maxRecDepth 20000 in
theorem c_X8_power (l : Launch) (g : zG) (p0 : Int32) (p1 : Int32) (σ : zST) (Post : Int64 → Prop) (h : wp_X8_power p0 p1 σ Post) : Met l yX8_power (Cond.code yX8_power cX8_power 5 (some .long) :: zGW) (zRm 0 0) (va_Pc [.int p0, .int p1] (zPP g σ)) (va_Ql (fun r u => Post r ∧ u = σ) (zBB g) (zA g)) 0 0 (zA g) :=
  zMet (by decide) (Nat.le_of_ble_eq_true rfl) (fun p e s m below meth c hr C => g_X8_power C (fun v pc lv hp hd => zr_lret C hr ⟨hp, rfl⟩ hd) h)
def wp_X8_often_J102 (v1 : Int32) (v3 : Int32) (v5 : Int32) (v6 : Int64) (σ : zST) (Post : Int64 → Prop) : Prop := wp_X8_power v1 v3 σ (fun r17 => wp_X8_partOf v6 r17 v5 σ (fun r19 => Post r19))

set_option maxRecDepth 100000 in
set_option maxHeartbeats 4000000 in
theorem g_X8_often_J102 {p : Program} {l : Launch} {e : Env} {R : Room} {s : State} {m : MethodId} {args : Array Value} {below : List Frame} {meth : Method} {c : Code} {Q : State → Prop} {g : zG} {n1 n2 : Nat} (C : zCX p R s m args meth c g n1 n2 cX8_often 9 RX8 2 56) {v1 : Int32} {v3 : Int32} {v5 : Int32} {v6 : Int64} {σ : zST}  {Post : Int64 → Prop} (hret : ∀ (v : Int64) (pc : Nat) (lv : List (Nat × Value)), Post v → decode cX8_often pc = .ok (.lreturn, 1) → zGG p l e R s m args below meth c Q g n1 n2 9 pc lv [.long v] σ) (h : wp_X8_often_J102 v1 v3 v5 v6 σ Post) : zGG p l e R s m args below meth c Q g n1 n2 9 102 [(1, .int v1), (3, .int v3), (5, .int v5), (6, .long v6)] [] σ := by
  unfold wp_X8_often_J102 at h
  refine zr_lload C d_X8_often_102 rfl ?_
  refine zr_iload_n C d_X8_often_104 rfl ?_
  refine zr_iload_n C d_X8_often_105 rfl ?_
  refine zr_clp (zr_runS (As := [.int v1, .int v3]) (rest := [.long v6]) C sw_X8_254 (c_X8_power l g v1 v3 σ _ h) (by decide) (by decide) rfl rfl (Nat.le_of_ble_eq_true rfl) d_X8_often_106) (fun r17 h => ?_)
  refine zr_iload C d_X8_often_109 rfl ?_
  refine zr_clp (zr_runS (As := [.long v6, .long r17, .int v5]) (rest := []) C sw_X8_246 (c_X8_partOf l g v6 r17 v5 σ _ h) (by decide) (by decide) rfl rfl (Nat.le_of_ble_eq_true rfl) d_X8_often_111) (fun r19 h => ?_)
  exact hret _ _ _ h d_X8_often_114

def wp_X8_often_L61 (v1 : Int32) (v2 : Int32) (v3 : Int32) (v5 : Int32) (σ : zST) (Post : Int64 → Prop) : Nat → Int64 → Int32 → Prop
  | 0, _, _ => False
  | N + 1, v6, v8 => (if v3 < v8 then wp_X8_often_J102 v1 v3 v5 v6 σ Post else wp_X8_ways v3 v8 σ (fun r21 => wp_X8_power v2 v8 σ (fun r23 => wp_X8_power (v1 - v2) (v3 - v8) σ (fun r25 => ∀ x27 : Int64, x27 = (v6 + ((r21 * r23) * r25)) → wp_X8_often_L61 v1 v2 v3 v5 σ Post N x27 (v8 + 1)))))

set_option maxRecDepth 100000 in
set_option maxHeartbeats 4000000 in
theorem g_X8_often_L61 {p : Program} {l : Launch} {e : Env} {R : Room} {s : State} {m : MethodId} {args : Array Value} {below : List Frame} {meth : Method} {c : Code} {Q : State → Prop} {g : zG} {n1 n2 : Nat} (C : zCX p R s m args meth c g n1 n2 cX8_often 9 RX8 2 56) {v1 : Int32} {v2 : Int32} {v3 : Int32} {v5 : Int32} {σ : zST}  {Post : Int64 → Prop} (hret : ∀ (v : Int64) (pc : Nat) (lv : List (Nat × Value)), Post v → decode cX8_often pc = .ok (.lreturn, 1) → zGG p l e R s m args below meth c Q g n1 n2 9 pc lv [.long v] σ) : ∀ (N : Nat) (v6 : Int64) (v8 : Int32) , wp_X8_often_L61 v1 v2 v3 v5 σ Post N v6 v8 → zGG p l e R s m args below meth c Q g n1 n2 9 61 [(1, .int v1), (2, .int v2), (3, .int v3), (5, .int v5), (6, .long v6), (8, .int v8)] [] σ := by
  intro N
  induction N with
  | zero =>
    intro v6 v8 h
    exact h.elim
  | succ N ih =>
    intro v6 v8 h
    rw [wp_X8_often_L61] at h
    refine zr_iload C d_X8_often_61 rfl ?_
    refine zr_iload_n C d_X8_often_63 rfl ?_
    refine zr_icmp_gt C 102 d_X8_often_64 (by decide) (fun hc16 => ?_) (fun hc16 => ?_)
    · rw [if_pos hc16] at h
      exact zr_pick [0, 2, 3, 4] rfl (g_X8_often_J102 C hret h)
    · rw [if_neg hc16] at h
      refine zr_lload C d_X8_often_67 rfl ?_
      refine zr_iload_n C d_X8_often_69 rfl ?_
      refine zr_iload C d_X8_often_70 rfl ?_
      refine zr_clp (zr_runS (As := [.int v3, .int v8]) (rest := [.long v6]) C sw_X8_250 (c_X8_ways l g v3 v8 σ _ h) (by decide) (by decide) rfl rfl (Nat.le_of_ble_eq_true rfl) d_X8_often_72) (fun r21 h => ?_)
      refine zr_iload_n C d_X8_often_75 rfl ?_
      refine zr_iload C d_X8_often_76 rfl ?_
      refine zr_clp (zr_runS (As := [.int v2, .int v8]) (rest := [.long r21, .long v6]) C sw_X8_254 (c_X8_power l g v2 v8 σ _ h) (by decide) (by decide) rfl rfl (Nat.le_of_ble_eq_true rfl) d_X8_often_78) (fun r23 h => ?_)
      refine zr_lmul C d_X8_often_81 ?_
      refine zr_iload_n C d_X8_often_82 rfl ?_
      refine zr_iload_n C d_X8_often_83 rfl ?_
      refine zr_isub C d_X8_often_84 ?_
      refine zr_iload_n C d_X8_often_85 rfl ?_
      refine zr_iload C d_X8_often_86 rfl ?_
      refine zr_isub C d_X8_often_88 ?_
      refine zr_clp (zr_runS (As := [.int (v1 - v2), .int (v3 - v8)]) (rest := [.long (r21 * r23), .long v6]) C sw_X8_254 (c_X8_power l g (v1 - v2) (v3 - v8) σ _ h) (by decide) (by decide) rfl rfl (Nat.le_of_ble_eq_true rfl) d_X8_often_89) (fun r25 h => ?_)
      refine zr_lmul C d_X8_often_92 ?_
      refine zr_ladd C d_X8_often_93 ?_
      refine zr_topl (fun x27 hx27 => ?_)
      replace h := h x27 hx27
      refine zr_lstore C [(6, .long x27), (1, .int v1), (2, .int v2), (3, .int v3), (5, .int v5), (8, .int v8)] d_X8_often_94 (by decide) rfl ?_
      refine zr_iinc C (v8 + 1) [(8, .int (v8 + 1)), (6, .long x27), (1, .int v1), (2, .int v2), (3, .int v3), (5, .int v5)] d_X8_often_96 rfl rfl (by decide) rfl ?_
      refine zr_goto C 61 d_X8_often_99 (by decide) ?_
      exact zr_pick [2, 3, 4, 5, 1, 0] rfl (ih x27 (v8 + 1) h)

def wp_X8_often (p1 : Int32) (p2 : Int32) (p3 : Int32) (p4 : Int32) (p5 : Int32) (σ : zST) (Post : Int64 → Prop) : Prop := wp_X8_within p1 (1 : Int32) (8 : Int32) σ (fun r1 => (if r1 = (0) then Post (-1000000000000000002 : Int64) else wp_X8_within p2 (0 : Int32) p1 σ (fun r4 => (if r4 = (0) then Post (-1000000000000000002 : Int64) else wp_X8_within p3 (1 : Int32) (8 : Int32) σ (fun r7 => (if r7 = (0) then Post (-1000000000000000002 : Int64) else wp_X8_within p4 (0 : Int32) (8 : Int32) σ (fun r10 => (if r10 = (0) then Post (-1000000000000000002 : Int64) else wp_X8_within p5 (0 : Int32) (1 : Int32) σ (fun r13 => (if r13 = (0) then Post (-1000000000000000002 : Int64) else ∃ M28 : Nat, wp_X8_often_L61 p1 p2 p3 p5 σ Post M28 (0 : Int64) p4))))))))))
set_option maxRecDepth 100000 in
set_option maxHeartbeats 4000000 in
theorem g_X8_often {p : Program} {l : Launch} {e : Env} {R : Room} {s : State} {m : MethodId} {args : Array Value} {below : List Frame} {meth : Method} {c : Code} {Q : State → Prop} {g : zG} {n1 n2 : Nat} (C : zCX p R s m args meth c g n1 n2 cX8_often 9 RX8 2 56) {p1 : Int32} {p2 : Int32} {p3 : Int32} {p4 : Int32} {p5 : Int32} {σ : zST} {Post : Int64 → Prop} (hret : ∀ (v : Int64) (pc : Nat) (lv : List (Nat × Value)), Post v → decode cX8_often pc = .ok (.lreturn, 1) → zGG p l e R s m args below meth c Q g n1 n2 9 pc lv [.long v] σ) (h : wp_X8_often p1 p2 p3 p4 p5 σ Post) : zGG p l e R s m args below meth c Q g n1 n2 9 0 [(0, .ref (g.2.1 0)), (1, .int p1), (2, .int p2), (3, .int p3), (4, .int p4), (5, .int p5)] [] σ := by
  unfold wp_X8_often at h
  refine zr_iload_n C d_X8_often_0 rfl ?_
  refine zr_iconst C (1 : Int32) d_X8_often_1 (by decide) ?_
  refine zr_bipush C (8 : Int32) d_X8_often_2 (by decide) ?_
  refine zr_cip (zr_runS (As := [.int p1, .int (1 : Int32), .int (8 : Int32)]) (rest := []) C sw_X8_47 (c_X8_within l g p1 (1 : Int32) (8 : Int32) σ _ h) (by decide) (by decide) rfl rfl (Nat.le_of_ble_eq_true rfl) d_X8_often_4) (fun r1 h => ?_)
  refine zr_if_eq C 50 d_X8_often_7 (by decide) (fun hc3 => ?_) (fun hc3 => ?_)
  · rw [if_pos hc3] at h
    refine zr_ldc2 C (v := (-1000000000000000002 : Int64)) cl_X8_241 d_X8_often_50 ?_
    exact hret _ _ _ h d_X8_often_53
  · rw [if_neg hc3] at h
    refine zr_iload_n C d_X8_often_10 rfl ?_
    refine zr_iconst C (0 : Int32) d_X8_often_11 (by decide) ?_
    refine zr_iload_n C d_X8_often_12 rfl ?_
    refine zr_cip (zr_runS (As := [.int p2, .int (0 : Int32), .int p1]) (rest := []) C sw_X8_47 (c_X8_within l g p2 (0 : Int32) p1 σ _ h) (by decide) (by decide) rfl rfl (Nat.le_of_ble_eq_true rfl) d_X8_often_13) (fun r4 h => ?_)
    refine zr_if_eq C 50 d_X8_often_16 (by decide) (fun hc6 => ?_) (fun hc6 => ?_)
    · rw [if_pos hc6] at h
      refine zr_ldc2 C (v := (-1000000000000000002 : Int64)) cl_X8_241 d_X8_often_50 ?_
      exact hret _ _ _ h d_X8_often_53
    · rw [if_neg hc6] at h
      refine zr_iload_n C d_X8_often_19 rfl ?_
      refine zr_iconst C (1 : Int32) d_X8_often_20 (by decide) ?_
      refine zr_bipush C (8 : Int32) d_X8_often_21 (by decide) ?_
      refine zr_cip (zr_runS (As := [.int p3, .int (1 : Int32), .int (8 : Int32)]) (rest := []) C sw_X8_47 (c_X8_within l g p3 (1 : Int32) (8 : Int32) σ _ h) (by decide) (by decide) rfl rfl (Nat.le_of_ble_eq_true rfl) d_X8_often_23) (fun r7 h => ?_)
      refine zr_if_eq C 50 d_X8_often_26 (by decide) (fun hc9 => ?_) (fun hc9 => ?_)
      · rw [if_pos hc9] at h
        refine zr_ldc2 C (v := (-1000000000000000002 : Int64)) cl_X8_241 d_X8_often_50 ?_
        exact hret _ _ _ h d_X8_often_53
      · rw [if_neg hc9] at h
        refine zr_iload C d_X8_often_29 rfl ?_
        refine zr_iconst C (0 : Int32) d_X8_often_31 (by decide) ?_
        refine zr_bipush C (8 : Int32) d_X8_often_32 (by decide) ?_
        refine zr_cip (zr_runS (As := [.int p4, .int (0 : Int32), .int (8 : Int32)]) (rest := []) C sw_X8_47 (c_X8_within l g p4 (0 : Int32) (8 : Int32) σ _ h) (by decide) (by decide) rfl rfl (Nat.le_of_ble_eq_true rfl) d_X8_often_34) (fun r10 h => ?_)
        refine zr_if_eq C 50 d_X8_often_37 (by decide) (fun hc12 => ?_) (fun hc12 => ?_)
        · rw [if_pos hc12] at h
          refine zr_ldc2 C (v := (-1000000000000000002 : Int64)) cl_X8_241 d_X8_often_50 ?_
          exact hret _ _ _ h d_X8_often_53
        · rw [if_neg hc12] at h
          refine zr_iload C d_X8_often_40 rfl ?_
          refine zr_iconst C (0 : Int32) d_X8_often_42 (by decide) ?_
          refine zr_iconst C (1 : Int32) d_X8_often_43 (by decide) ?_
          refine zr_cip (zr_runS (As := [.int p5, .int (0 : Int32), .int (1 : Int32)]) (rest := []) C sw_X8_47 (c_X8_within l g p5 (0 : Int32) (1 : Int32) σ _ h) (by decide) (by decide) rfl rfl (Nat.le_of_ble_eq_true rfl) d_X8_often_44) (fun r13 h => ?_)
          refine zr_if_ne C 54 d_X8_often_47 (by decide) (fun hc15 => ?_) (fun hc15 => ?_)
          · rw [if_neg hc15] at h
            refine zr_lconst C (0 : Int64) d_X8_often_54 (by decide) ?_
            refine zr_lstore C [(6, .long (0 : Int64)), (0, .ref (g.2.1 0)), (1, .int p1), (2, .int p2), (3, .int p3), (4, .int p4), (5, .int p5)] d_X8_often_55 (by decide) rfl ?_
            refine zr_iload C d_X8_often_57 rfl ?_
            refine zr_istore C [(8, .int p4), (6, .long (0 : Int64)), (0, .ref (g.2.1 0)), (1, .int p1), (2, .int p2), (3, .int p3), (4, .int p4), (5, .int p5)] d_X8_often_59 (by decide) rfl ?_
            obtain ⟨M28, h⟩ := h
            exact zr_pick [3, 4, 5, 7, 1, 0] rfl (g_X8_often_L61 C hret M28 (0 : Int64) p4 h)
          · rw [if_pos hc15] at h
            refine zr_ldc2 C (v := (-1000000000000000002 : Int64)) cl_X8_241 d_X8_often_50 ?_
            exact hret _ _ _ h d_X8_often_53
set_option maxRecDepth 20000 in
theorem c_X8_often (l : Launch) (g : zG) (p1 : Int32) (p2 : Int32) (p3 : Int32) (p4 : Int32) (p5 : Int32) (σ : zST) (Post : Int64 → Prop) (h : wp_X8_often p1 p2 p3 p4 p5 σ Post) : Met l yX8_often (Cond.code yX8_often cX8_often 9 (some .long) :: zGW) (zRm 2 56) (va_Pc [.ref (g.2.1 0), .int p1, .int p2, .int p3, .int p4, .int p5] (zPP g σ)) (va_Ql (fun r u => Post r ∧ u = σ) (zBB g) (zA g)) 0 0 (zA g) :=
  zMet (by decide) (Nat.le_of_ble_eq_true rfl) (fun p e s m below meth c hr C => g_X8_often C (fun v pc lv hp hd => zr_lret C hr ⟨hp, rfl⟩ hd) h)
def wp_X8_roll (p1 : Int32) (p2 : Int32) (σ : zST) (Post : Int32 → zST → Prop) : Prop := wp_X8_within p1 (0 : Int32) (255 : Int32) σ (fun r1 => (if r1 = (0) then Post (-2 : Int32) σ else wp_J6_bitCount_0f7a4 p1 σ (fun r4 => wp_X8_within p2 r4 (8 : Int32) σ (fun r6 => (if r6 = (0) then Post (-2 : Int32) σ else (if (σ.1 15 0) < (6 : Int32) then vp_in (σ.1 15 0) 6 ∧ ∀ σ11 : zST, σ11 = (wI σ 16 (σ.1 15 0).toNatClampNeg p1) → wp_J6_bitCount_0f7a4 p1 σ11 (fun r12 => vp_in (σ11.1 15 0) 6 ∧ ∀ σ15 : zST, σ15 = (wI σ11 17 (σ11.1 15 0).toNatClampNeg (p2 - r12)) → ∀ σ16 : zST, σ16 = (wI σ15 15 0 ((σ15.1 15 0) + (1 : Int32))) → Post (σ16.1 15 0) σ16) else Post (-4 : Int32) σ))))))
set_option maxRecDepth 100000 in
set_option maxHeartbeats 4000000 in
theorem g_X8_roll {p : Program} {l : Launch} {e : Env} {R : Room} {s : State} {m : MethodId} {args : Array Value} {below : List Frame} {meth : Method} {c : Code} {Q : State → Prop} {g : zG} {n1 n2 : Nat} (C : zCX p R s m args meth c g n1 n2 cX8_roll 4 RX8 1 22) {p1 : Int32} {p2 : Int32} {σ : zST} {Post : Int32 → zST → Prop} (hret : ∀ (v : Int32) (σ : zST) (pc : Nat) (lv : List (Nat × Value)), Post v σ → decode cX8_roll pc = .ok (.ireturn, 1) → zGG p l e R s m args below meth c Q g n1 n2 4 pc lv [.int v] σ) (h : wp_X8_roll p1 p2 σ Post) : zGG p l e R s m args below meth c Q g n1 n2 4 0 [(0, .ref (g.2.1 0)), (1, .int p1), (2, .int p2)] [] σ := by
  unfold wp_X8_roll at h
  refine zr_iload_n C d_X8_roll_0 rfl ?_
  refine zr_iconst C (0 : Int32) d_X8_roll_1 (by decide) ?_
  refine zr_sipush C (255 : Int32) d_X8_roll_2 (by decide) ?_
  refine zr_cip (zr_runS (As := [.int p1, .int (0 : Int32), .int (255 : Int32)]) (rest := []) C sw_X8_47 (c_X8_within l g p1 (0 : Int32) (255 : Int32) σ _ h) (by decide) (by decide) rfl rfl (Nat.le_of_ble_eq_true rfl) d_X8_roll_5) (fun r1 h => ?_)
  refine zr_if_eq C 24 d_X8_roll_8 (by decide) (fun hc3 => ?_) (fun hc3 => ?_)
  · rw [if_pos hc3] at h
    refine zr_bipush C (-2 : Int32) d_X8_roll_24 (by decide) ?_
    exact hret _ _ _ _ h d_X8_roll_26
  · rw [if_neg hc3] at h
    refine zr_iload_n C d_X8_roll_11 rfl ?_
    refine zr_iload_n C d_X8_roll_12 rfl ?_
    refine zr_cip (zr_runS (As := [.int p1]) (rest := [.int p2]) C sw_X8_73 (c_J6_bitCount_0f7a4 l g p1 σ _ h) (by decide) (by decide) rfl rfl (Nat.le_of_ble_eq_true rfl) d_X8_roll_13) (fun r4 h => ?_)
    refine zr_bipush C (8 : Int32) d_X8_roll_16 (by decide) ?_
    refine zr_cip (zr_runS (As := [.int p2, .int r4, .int (8 : Int32)]) (rest := []) C sw_X8_47 (c_X8_within l g p2 r4 (8 : Int32) σ _ h) (by decide) (by decide) rfl rfl (Nat.le_of_ble_eq_true rfl) d_X8_roll_18) (fun r6 h => ?_)
    refine zr_if_ne C 27 d_X8_roll_21 (by decide) (fun hc8 => ?_) (fun hc8 => ?_)
    · rw [if_neg hc8] at h
      refine zr_aload_n C d_X8_roll_27 rfl ?_
      refine zr_getr (u := 1) C fw_X8_10 (sh_0) rfl d_X8_roll_28 ?_
      refine zr_getr (u := 15) C fw_X8_257 (sh_1) rfl d_X8_roll_31 ?_
      refine zr_astore_n C [(3, .ref (g.2.1 15)), (0, .ref (g.2.1 0)), (1, .int p1), (2, .int p2)] d_X8_roll_34 (by decide) rfl ?_
      refine zr_aload_n C d_X8_roll_35 rfl ?_
      refine zr_geti C fw_X8_261 (sh_15) rfl d_X8_roll_36 ?_
      refine zr_bipush C (6 : Int32) d_X8_roll_39 (by decide) ?_
      refine zr_icmp_lt C 47 d_X8_roll_41 (by decide) (fun hc9 => ?_) (fun hc9 => ?_)
      · rw [if_pos hc9] at h
        refine zr_aload_n C d_X8_roll_47 rfl ?_
        refine zr_getr (u := 16) C fw_X8_264 (sh_15) rfl d_X8_roll_48 ?_
        refine zr_aload_n C d_X8_roll_51 rfl ?_
        refine zr_geti C fw_X8_261 (sh_15) rfl d_X8_roll_52 ?_
        refine zr_iload_n C d_X8_roll_55 rfl ?_
        obtain ⟨ho10, h⟩ := h
        refine zr_iast C (sh_16) ho10 d_X8_roll_56 ?_
        refine zr_aload_n C d_X8_roll_57 rfl ?_
        refine zr_getr (u := 17) C fw_X8_267 (sh_15) rfl d_X8_roll_58 ?_
        refine zr_aload_n C d_X8_roll_61 rfl ?_
        refine zr_tops (fun σ11 hσ11 => ?_)
        replace h := h σ11 hσ11
        refine zr_geti C fw_X8_261 (sh_15) rfl d_X8_roll_62 ?_
        refine zr_iload_n C d_X8_roll_65 rfl ?_
        refine zr_iload_n C d_X8_roll_66 rfl ?_
        refine zr_cip (zr_runS (As := [.int p1]) (rest := [.int p2, .int (σ11.1 15 0), .ref (g.2.1 17)]) C sw_X8_73 (c_J6_bitCount_0f7a4 l g p1 σ11 _ h) (by decide) (by decide) rfl rfl (Nat.le_of_ble_eq_true rfl) d_X8_roll_67) (fun r12 h => ?_)
        refine zr_isub C d_X8_roll_70 ?_
        obtain ⟨ho14, h⟩ := h
        refine zr_iast C (sh_17) ho14 d_X8_roll_71 ?_
        refine zr_aload_n C d_X8_roll_72 rfl ?_
        refine zr_dup C d_X8_roll_73 rfl ?_
        refine zr_tops (fun σ15 hσ15 => ?_)
        replace h := h σ15 hσ15
        refine zr_geti C fw_X8_261 (sh_15) rfl d_X8_roll_74 ?_
        refine zr_iconst C (1 : Int32) d_X8_roll_77 (by decide) ?_
        refine zr_iadd C d_X8_roll_78 ?_
        refine zr_puti C fw_X8_261 pw_X5_0 (sh_15) rfl rfl rfl d_X8_roll_79 ?_
        refine zr_aload_n C d_X8_roll_82 rfl ?_
        refine zr_tops (fun σ16 hσ16 => ?_)
        replace h := h σ16 hσ16
        refine zr_geti C fw_X8_261 (sh_15) rfl d_X8_roll_83 ?_
        exact hret _ _ _ _ h d_X8_roll_86
      · rw [if_neg hc9] at h
        refine zr_bipush C (-4 : Int32) d_X8_roll_44 (by decide) ?_
        exact hret _ _ _ _ h d_X8_roll_46
    · rw [if_pos hc8] at h
      refine zr_bipush C (-2 : Int32) d_X8_roll_24 (by decide) ?_
      exact hret _ _ _ _ h d_X8_roll_26
set_option maxRecDepth 20000 in
theorem c_X8_roll (l : Launch) (g : zG) (p1 : Int32) (p2 : Int32) (σ : zST) (Post : Int32 → zST → Prop) (h : wp_X8_roll p1 p2 σ Post) : Met l yX8_roll (Cond.code yX8_roll cX8_roll 4 (some .int) :: zGW) (zRm 1 22) (va_Pc [.ref (g.2.1 0), .int p1, .int p2] (zPP g σ)) (va_Qi Post (zBB g) (zA g)) 0 0 (zA g) :=
  zMet (by decide) (Nat.le_of_ble_eq_true rfl) (fun p e s m below meth c hr C => g_X8_roll C (fun v σ pc lv hp hd => zr_iret C hr hp hd) h)
def wp_X8_forget (σ : zST) (Post : Int32 → zST → Prop) : Prop := ∀ x1 : Int32, x1 = σ.1 15 0 → Post x1 (wI σ 15 0 (0 : Int32))
set_option maxRecDepth 100000 in
set_option maxHeartbeats 4000000 in
theorem g_X8_forget {p : Program} {l : Launch} {e : Env} {R : Room} {s : State} {m : MethodId} {args : Array Value} {below : List Frame} {meth : Method} {c : Code} {Q : State → Prop} {g : zG} {n1 n2 : Nat} (C : zCX p R s m args meth c g n1 n2 cX8_forget 2 RX8 0 0) {σ : zST} {Post : Int32 → zST → Prop} (hret : ∀ (v : Int32) (σ : zST) (pc : Nat) (lv : List (Nat × Value)), Post v σ → decode cX8_forget pc = .ok (.ireturn, 1) → zGG p l e R s m args below meth c Q g n1 n2 2 pc lv [.int v] σ) (h : wp_X8_forget σ Post) : zGG p l e R s m args below meth c Q g n1 n2 2 0 [(0, .ref (g.2.1 0))] [] σ := by
  unfold wp_X8_forget at h
  refine zr_aload_n C d_X8_forget_0 rfl ?_
  refine zr_getr (u := 1) C fw_X8_10 (sh_0) rfl d_X8_forget_1 ?_
  refine zr_getr (u := 15) C fw_X8_257 (sh_1) rfl d_X8_forget_4 ?_
  refine zr_geti C fw_X8_261 (sh_15) rfl d_X8_forget_7 ?_
  refine zr_topi (fun x1 hx1 => ?_)
  replace h := h x1 hx1
  refine zr_istore_n C [(1, .int x1), (0, .ref (g.2.1 0))] d_X8_forget_10 (by decide) rfl ?_
  refine zr_aload_n C d_X8_forget_11 rfl ?_
  refine zr_getr (u := 1) C fw_X8_10 (sh_0) rfl d_X8_forget_12 ?_
  refine zr_getr (u := 15) C fw_X8_257 (sh_1) rfl d_X8_forget_15 ?_
  refine zr_iconst C (0 : Int32) d_X8_forget_18 (by decide) ?_
  refine zr_puti C fw_X8_261 pw_X5_0 (sh_15) rfl rfl rfl d_X8_forget_19 ?_
  refine zr_iload_n C d_X8_forget_22 rfl ?_
  exact hret _ _ _ _ h d_X8_forget_23
set_option maxRecDepth 20000 in
theorem c_X8_forget (l : Launch) (g : zG) (σ : zST) (Post : Int32 → zST → Prop) (h : wp_X8_forget σ Post) : Met l yX8_forget (Cond.code yX8_forget cX8_forget 2 (some .int) :: zGW) (zRm 0 0) (va_Pc [.ref (g.2.1 0)] (zPP g σ)) (va_Qi Post (zBB g) (zA g)) 0 0 (zA g) :=
  zMet (by decide) (Nat.le_of_ble_eq_true rfl) (fun p e s m below meth c hr C => g_X8_forget C (fun v σ pc lv hp hd => zr_iret C hr hp hd) h)
def wp_X8_twice (p1 : Int32) (σ : zST) (Post : Int32 → Prop) : Prop := wp_X8_within p1 (0 : Int32) (1 : Int32) σ (fun r1 => (if r1 = (0) then Post (-2 : Int32) else ∀ z5 : Int32, z5 = (if p1 = (1 : Int32) then (1 : Int32) else (0 : Int32)) → wp_X5_namesOnTwo 15 z5 σ (fun r8 => Post r8)))
set_option maxRecDepth 100000 in
set_option maxHeartbeats 4000000 in
theorem g_X8_twice {p : Program} {l : Launch} {e : Env} {R : Room} {s : State} {m : MethodId} {args : Array Value} {below : List Frame} {meth : Method} {c : Code} {Q : State → Prop} {g : zG} {n1 n2 : Nat} (C : zCX p R s m args meth c g n1 n2 cX8_twice 2 RX8 2 47) {p1 : Int32} {σ : zST} {Post : Int32 → Prop} (hret : ∀ (v : Int32) (pc : Nat) (lv : List (Nat × Value)), Post v → decode cX8_twice pc = .ok (.ireturn, 1) → zGG p l e R s m args below meth c Q g n1 n2 2 pc lv [.int v] σ) (h : wp_X8_twice p1 σ Post) : zGG p l e R s m args below meth c Q g n1 n2 2 0 [(0, .ref (g.2.1 0)), (1, .int p1)] [] σ := by
  unfold wp_X8_twice at h
  refine zr_iload_n C d_X8_twice_0 rfl ?_
  refine zr_iconst C (0 : Int32) d_X8_twice_1 (by decide) ?_
  refine zr_iconst C (1 : Int32) d_X8_twice_2 (by decide) ?_
  refine zr_cip (zr_runS (As := [.int p1, .int (0 : Int32), .int (1 : Int32)]) (rest := []) C sw_X8_47 (c_X8_within l g p1 (0 : Int32) (1 : Int32) σ _ h) (by decide) (by decide) rfl rfl (Nat.le_of_ble_eq_true rfl) d_X8_twice_3) (fun r1 h => ?_)
  refine zr_if_eq C 32 d_X8_twice_6 (by decide) (fun hc3 => ?_) (fun hc3 => ?_)
  · rw [if_pos hc3] at h
    refine zr_bipush C (-2 : Int32) d_X8_twice_32 (by decide) ?_
    exact hret _ _ _ h d_X8_twice_34
  · rw [if_neg hc3] at h
    refine zr_aload_n C d_X8_twice_9 rfl ?_
    refine zr_getr (u := 1) C fw_X8_10 (sh_0) rfl d_X8_twice_10 ?_
    refine zr_getr (u := 15) C fw_X8_257 (sh_1) rfl d_X8_twice_13 ?_
    refine zr_iload_n C d_X8_twice_16 rfl ?_
    refine zr_iconst C (1 : Int32) d_X8_twice_17 (by decide) ?_
    have hJ6 : ∀ z5 : Int32, z5 = (if p1 = (1 : Int32) then (1 : Int32) else (0 : Int32)) → zGG p l e R s m args below meth c Q g n1 n2 2 26 [(0, .ref (g.2.1 0)), (1, .int p1)] [.int z5, .ref (g.2.1 15)] σ := by
      intro z5 hz5
      replace h := h z5 hz5
      refine zr_cip (zr_runV (As := [.int z5]) (rest := []) C vw_X8_270 (c_X5_namesOnTwo l g 15 isX5_15 z5 σ _ h) (sh_15) rfl (by decide) (by decide) rfl rfl (Nat.le_of_ble_eq_true rfl) d_X8_twice_26) (fun r8 h => ?_)
      refine zr_goto C 34 d_X8_twice_29 (by decide) ?_
      exact hret _ _ _ h d_X8_twice_34
    refine zr_icmp_ne C 25 d_X8_twice_18 (by decide) (fun hc4 => ?_) (fun hc4 => ?_)
    · skip
      refine zr_iconst C (0 : Int32) d_X8_twice_25 (by decide) ?_
      exact hJ6 _ (by rw [if_neg hc4])
    · skip
      refine zr_iconst C (1 : Int32) d_X8_twice_21 (by decide) ?_
      refine zr_goto C 26 d_X8_twice_22 (by decide) ?_
      exact hJ6 _ (by rw [if_pos hc4])
set_option maxRecDepth 20000 in
theorem c_X8_twice (l : Launch) (g : zG) (p1 : Int32) (σ : zST) (Post : Int32 → Prop) (h : wp_X8_twice p1 σ Post) : Met l yX8_twice (Cond.code yX8_twice cX8_twice 2 (some .int) :: zGW) (zRm 2 47) (va_Pc [.ref (g.2.1 0), .int p1] (zPP g σ)) (va_Qi (fun r u => Post r ∧ u = σ) (zBB g) (zA g)) 0 0 (zA g) :=
  zMet (by decide) (Nat.le_of_ble_eq_true rfl) (fun p e s m below meth c hr C => g_X8_twice C (fun v pc lv hp hd => zr_iret C hr ⟨hp, rfl⟩ hd) h)
def wp_X8_burnt_L13 (σ : zST) (Post : Int64 → Prop) : Nat → Int64 → Int32 → Prop
  | 0, _, _ => False
  | N + 1, v2, v4 => (if (σ.1 15 0) ≤ v4 then Post v2 else (if (6 : Int32) ≤ v4 then Post v2 else vp_in v4 6 ∧ wp_J6_bitCount_0f7a4 (σ.1 16 v4.toNatClampNeg) σ (fun r4 => vp_in v4 6 ∧ wp_X8_ways ((8 : Int32) - r4) (σ.1 17 v4.toNatClampNeg) σ (fun r7 => ∀ x9 : Int64, x9 = (v2 * r7) → wp_X8_burnt_L13 σ Post N x9 (v4 + 1)))))

set_option maxRecDepth 100000 in
set_option maxHeartbeats 4000000 in
theorem g_X8_burnt_L13 {p : Program} {l : Launch} {e : Env} {R : Room} {s : State} {m : MethodId} {args : Array Value} {below : List Frame} {meth : Method} {c : Code} {Q : State → Prop} {g : zG} {n1 n2 : Nat} (C : zCX p R s m args meth c g n1 n2 cX8_burnt 5 RX8 1 24) {σ : zST}  {Post : Int64 → Prop} (hret : ∀ (v : Int64) (pc : Nat) (lv : List (Nat × Value)), Post v → decode cX8_burnt pc = .ok (.lreturn, 1) → zGG p l e R s m args below meth c Q g n1 n2 5 pc lv [.long v] σ) : ∀ (N : Nat) (v2 : Int64) (v4 : Int32) , wp_X8_burnt_L13 σ Post N v2 v4 → zGG p l e R s m args below meth c Q g n1 n2 5 13 [(1, .ref (g.2.1 15)), (2, .long v2), (4, .int v4)] [] σ := by
  intro N
  induction N with
  | zero =>
    intro v2 v4 h
    exact h.elim
  | succ N ih =>
    intro v2 v4 h
    rw [wp_X8_burnt_L13] at h
    refine zr_iload C d_X8_burnt_13 rfl ?_
    refine zr_aload_n C d_X8_burnt_15 rfl ?_
    refine zr_geti C fw_X8_261 (sh_15) rfl d_X8_burnt_16 ?_
    refine zr_icmp_ge C 61 d_X8_burnt_19 (by decide) (fun hc1 => ?_) (fun hc1 => ?_)
    · rw [if_pos hc1] at h
      refine zr_lload_n C d_X8_burnt_61 rfl ?_
      exact hret _ _ _ h d_X8_burnt_62
    · rw [if_neg hc1] at h
      refine zr_iload C d_X8_burnt_22 rfl ?_
      refine zr_bipush C (6 : Int32) d_X8_burnt_24 (by decide) ?_
      refine zr_icmp_ge C 61 d_X8_burnt_26 (by decide) (fun hc2 => ?_) (fun hc2 => ?_)
      · rw [if_pos hc2] at h
        refine zr_lload_n C d_X8_burnt_61 rfl ?_
        exact hret _ _ _ h d_X8_burnt_62
      · rw [if_neg hc2] at h
        refine zr_lload_n C d_X8_burnt_29 rfl ?_
        refine zr_bipush C (8 : Int32) d_X8_burnt_30 (by decide) ?_
        refine zr_aload_n C d_X8_burnt_32 rfl ?_
        refine zr_getr (u := 16) C fw_X8_264 (sh_15) rfl d_X8_burnt_33 ?_
        refine zr_iload C d_X8_burnt_36 rfl ?_
        obtain ⟨ho3, h⟩ := h
        refine zr_iald C (sh_16) ho3 d_X8_burnt_38 ?_
        refine zr_cip (zr_runS (As := [.int (σ.1 16 v4.toNatClampNeg)]) (rest := [.int (8 : Int32), .long v2]) C sw_X8_73 (c_J6_bitCount_0f7a4 l g (σ.1 16 v4.toNatClampNeg) σ _ h) (by decide) (by decide) rfl rfl (Nat.le_of_ble_eq_true rfl) d_X8_burnt_39) (fun r4 h => ?_)
        refine zr_isub C d_X8_burnt_42 ?_
        refine zr_aload_n C d_X8_burnt_43 rfl ?_
        refine zr_getr (u := 17) C fw_X8_267 (sh_15) rfl d_X8_burnt_44 ?_
        refine zr_iload C d_X8_burnt_47 rfl ?_
        obtain ⟨ho6, h⟩ := h
        refine zr_iald C (sh_17) ho6 d_X8_burnt_49 ?_
        refine zr_clp (zr_runS (As := [.int ((8 : Int32) - r4), .int (σ.1 17 v4.toNatClampNeg)]) (rest := [.long v2]) C sw_X8_250 (c_X8_ways l g ((8 : Int32) - r4) (σ.1 17 v4.toNatClampNeg) σ _ h) (by decide) (by decide) rfl rfl (Nat.le_of_ble_eq_true rfl) d_X8_burnt_50) (fun r7 h => ?_)
        refine zr_lmul C d_X8_burnt_53 ?_
        refine zr_topl (fun x9 hx9 => ?_)
        replace h := h x9 hx9
        refine zr_lstore_n C [(2, .long x9), (1, .ref (g.2.1 15)), (4, .int v4)] d_X8_burnt_54 (by decide) rfl ?_
        refine zr_iinc C (v4 + 1) [(4, .int (v4 + 1)), (2, .long x9), (1, .ref (g.2.1 15))] d_X8_burnt_55 rfl rfl (by decide) rfl ?_
        refine zr_goto C 13 d_X8_burnt_58 (by decide) ?_
        exact zr_pick [2, 1, 0] rfl (ih x9 (v4 + 1) h)

def wp_X8_burnt (σ : zST) (Post : Int64 → Prop) : Prop := ∃ M10 : Nat, wp_X8_burnt_L13 σ Post M10 (1 : Int64) (0 : Int32)
set_option maxRecDepth 100000 in
set_option maxHeartbeats 4000000 in
theorem g_X8_burnt {p : Program} {l : Launch} {e : Env} {R : Room} {s : State} {m : MethodId} {args : Array Value} {below : List Frame} {meth : Method} {c : Code} {Q : State → Prop} {g : zG} {n1 n2 : Nat} (C : zCX p R s m args meth c g n1 n2 cX8_burnt 5 RX8 1 24) {σ : zST} {Post : Int64 → Prop} (hret : ∀ (v : Int64) (pc : Nat) (lv : List (Nat × Value)), Post v → decode cX8_burnt pc = .ok (.lreturn, 1) → zGG p l e R s m args below meth c Q g n1 n2 5 pc lv [.long v] σ) (h : wp_X8_burnt σ Post) : zGG p l e R s m args below meth c Q g n1 n2 5 0 [(0, .ref (g.2.1 0))] [] σ := by
  unfold wp_X8_burnt at h
  refine zr_aload_n C d_X8_burnt_0 rfl ?_
  refine zr_getr (u := 1) C fw_X8_10 (sh_0) rfl d_X8_burnt_1 ?_
  refine zr_getr (u := 15) C fw_X8_257 (sh_1) rfl d_X8_burnt_4 ?_
  refine zr_astore_n C [(1, .ref (g.2.1 15)), (0, .ref (g.2.1 0))] d_X8_burnt_7 (by decide) rfl ?_
  refine zr_lconst C (1 : Int64) d_X8_burnt_8 (by decide) ?_
  refine zr_lstore_n C [(2, .long (1 : Int64)), (1, .ref (g.2.1 15)), (0, .ref (g.2.1 0))] d_X8_burnt_9 (by decide) rfl ?_
  refine zr_iconst C (0 : Int32) d_X8_burnt_10 (by decide) ?_
  refine zr_istore C [(4, .int (0 : Int32)), (2, .long (1 : Int64)), (1, .ref (g.2.1 15)), (0, .ref (g.2.1 0))] d_X8_burnt_11 (by decide) rfl ?_
  obtain ⟨M10, h⟩ := h
  exact zr_pick [2, 1, 0] rfl (g_X8_burnt_L13 C hret M10 (1 : Int64) (0 : Int32) h)
set_option maxRecDepth 20000 in
theorem c_X8_burnt (l : Launch) (g : zG) (σ : zST) (Post : Int64 → Prop) (h : wp_X8_burnt σ Post) : Met l yX8_burnt (Cond.code yX8_burnt cX8_burnt 5 (some .long) :: zGW) (zRm 1 24) (va_Pc [.ref (g.2.1 0)] (zPP g σ)) (va_Ql (fun r u => Post r ∧ u = σ) (zBB g) (zA g)) 0 0 (zA g) :=
  zMet (by decide) (Nat.le_of_ble_eq_true rfl) (fun p e s m below meth c hr C => g_X8_burnt C (fun v pc lv hp hd => zr_lret C hr ⟨hp, rfl⟩ hd) h)
