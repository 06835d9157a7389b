def wp_X8_years_J121 (v1 : Int32) (v4 : Int32) (v7 : Int32) (σ : zST) (Post : Int32 → Prop) : Prop := (if v4 = (2 : Int32) then Post v7 else wp_X6_whole 2 v1 σ (fun r16 => Post (v7 * r16)))

set_option maxRecDepth 100000 in
set_option maxHeartbeats 4000000 in
theorem g_X8_years_J121 {p : Program} {l : Launch} {e : Env} {R : Room} {s : State} {m : MethodId} {args : Array Value} {below : List Frame} {meth : Method} {c : Code} {Q : State → Prop} {g : zG} {n1 n2 : Nat} (C : zCX p R s m args meth c g n1 n2 cX8_years 9 RX8 3 67) {v1 : Int32} {v4 : Int32} {v7 : Int32} {σ : zST}  {Post : Int32 → Prop} (hret : ∀ (v : Int32) (pc : Nat) (lv : List (Nat × Value)), Post v → decode cX8_years pc = .ok (.ireturn, 1) → zGG p l e R s m args below meth c Q g n1 n2 9 pc lv [.int v] σ) (h : wp_X8_years_J121 v1 v4 v7 σ Post) : zGG p l e R s m args below meth c Q g n1 n2 9 121 [(1, .int v1), (4, .int v4), (5, .ref (g.2.1 2)), (7, .int v7)] [] σ := by
  unfold wp_X8_years_J121 at h
  refine zr_iload C d_X8_years_121 rfl ?_
  refine zr_iconst C (2 : Int32) d_X8_years_123 (by decide) ?_
  refine zr_icmp_ne C 132 d_X8_years_124 (by decide) (fun hc15 => ?_) (fun hc15 => ?_)
  · rw [if_neg hc15] at h
    refine zr_iload C d_X8_years_132 rfl ?_
    refine zr_aload C d_X8_years_134 rfl ?_
    refine zr_iload_n C d_X8_years_136 rfl ?_
    refine zr_cip (zr_runV (As := [.int v1]) (rest := [.int v7]) C vw_X8_221 (c_X6_whole l g 2 isX6_2 v1 σ _ h) (sh_2) rfl (by decide) (by decide) rfl rfl (Nat.le_of_ble_eq_true rfl) d_X8_years_137) (fun r16 h => ?_)
    refine zr_imul C d_X8_years_140 ?_
    exact hret _ _ _ h d_X8_years_141
  · rw [if_pos hc15] at h
    refine zr_iload C d_X8_years_127 rfl ?_
    refine zr_goto C 141 d_X8_years_129 (by decide) ?_
    exact hret _ _ _ h d_X8_years_141

def wp_X8_years_L78 (v1 : Int32) (v3 : Int32) (v4 : Int32) (σ : zST) (Post : Int32 → Prop) : Nat → Int32 → Int32 → Int32 → Prop
  | 0, _, _, _ => False
  | N + 1, v6, v7, v8 => (if v3 ≤ v8 then wp_X8_years_J121 v1 v4 v7 σ Post else wp_X8_drawAfter v6 σ (fun r18 => wp_X6_digitAt 2 (r18 - r18 / (24 : Int32) * (24 : Int32)) σ (fun r20 => (if r20 ≤ ((r18 / (24 : Int32)) - (r18 / (24 : Int32)) / (10 : Int32) * (10 : Int32)) then wp_X8_years_L78 v1 v3 v4 σ Post N r18 v7 (v8 + 1) else wp_X8_years_L78 v1 v3 v4 σ Post N r18 (v7 + 1) (v8 + 1)))))

set_option maxRecDepth 100000 in
set_option maxHeartbeats 4000000 in
theorem g_X8_years_L78 {p : Program} {l : Launch} {e : Env} {R : Room} {s : State} {m : MethodId} {args : Array Value} {below : List Frame} {meth : Method} {c : Code} {Q : State → Prop} {g : zG} {n1 n2 : Nat} (C : zCX p R s m args meth c g n1 n2 cX8_years 9 RX8 3 67) {v1 : Int32} {v3 : Int32} {v4 : Int32} {σ : zST}  {Post : Int32 → Prop} (hret : ∀ (v : Int32) (pc : Nat) (lv : List (Nat × Value)), Post v → decode cX8_years pc = .ok (.ireturn, 1) → zGG p l e R s m args below meth c Q g n1 n2 9 pc lv [.int v] σ) : ∀ (N : Nat) (v6 : Int32) (v7 : Int32) (v8 : Int32) , wp_X8_years_L78 v1 v3 v4 σ Post N v6 v7 v8 → zGG p l e R s m args below meth c Q g n1 n2 9 78 [(1, .int v1), (3, .int v3), (4, .int v4), (5, .ref (g.2.1 2)), (6, .int v6), (7, .int v7), (8, .int v8)] [] σ := by
  intro N
  induction N with
  | zero =>
    intro v6 v7 v8 h
    exact h.elim
  | succ N ih =>
    intro v6 v7 v8 h
    rw [wp_X8_years_L78] at h
    refine zr_iload C d_X8_years_78 rfl ?_
    refine zr_iload_n C d_X8_years_80 rfl ?_
    refine zr_icmp_ge C 121 d_X8_years_81 (by decide) (fun hc14 => ?_) (fun hc14 => ?_)
    · rw [if_pos hc14] at h
      exact zr_pick [0, 2, 3, 5] rfl (g_X8_years_J121 C hret h)
    · rw [if_neg hc14] at h
      refine zr_iload C d_X8_years_84 rfl ?_
      refine zr_cip (zr_runS (As := [.int v6]) (rest := []) C sw_X8_277 (c_X8_drawAfter l g v6 σ _ h) (by decide) (by decide) rfl rfl (Nat.le_of_ble_eq_true rfl) d_X8_years_86) (fun r18 h => ?_)
      refine zr_istore C [(6, .int r18), (1, .int v1), (3, .int v3), (4, .int v4), (5, .ref (g.2.1 2)), (7, .int v7), (8, .int v8)] d_X8_years_89 (by decide) rfl ?_
      refine zr_iload C d_X8_years_91 rfl ?_
      refine zr_bipush C (24 : Int32) d_X8_years_93 (by decide) ?_
      refine zr_idiv C d_X8_years_95 (by decide) ?_
      refine zr_bipush C (10 : Int32) d_X8_years_96 (by decide) ?_
      refine zr_irem C d_X8_years_98 (by decide) ?_
      refine zr_aload C d_X8_years_99 rfl ?_
      refine zr_iload C d_X8_years_101 rfl ?_
      refine zr_bipush C (24 : Int32) d_X8_years_103 (by decide) ?_
      refine zr_irem C d_X8_years_105 (by decide) ?_
      refine zr_cip (zr_runV (As := [.int (r18 - r18 / (24 : Int32) * (24 : Int32))]) (rest := [.int ((r18 / (24 : Int32)) - (r18 / (24 : Int32)) / (10 : Int32) * (10 : Int32))]) C vw_X8_209 (c_X6_digitAt l g 2 isX6_2 (r18 - r18 / (24 : Int32) * (24 : Int32)) σ _ h) (sh_2) rfl (by decide) (by decide) rfl rfl (Nat.le_of_ble_eq_true rfl) d_X8_years_106) (fun r20 h => ?_)
      refine zr_icmp_ge C 115 d_X8_years_109 (by decide) (fun hc22 => ?_) (fun hc22 => ?_)
      · rw [if_pos hc22] at h
        refine zr_iinc C (v8 + 1) [(8, .int (v8 + 1)), (6, .int r18), (1, .int v1), (3, .int v3), (4, .int v4), (5, .ref (g.2.1 2)), (7, .int v7)] d_X8_years_115 rfl rfl (by decide) rfl ?_
        refine zr_goto C 78 d_X8_years_118 (by decide) ?_
        exact zr_pick [2, 3, 4, 5, 1, 6, 0] rfl (ih r18 v7 (v8 + 1) h)
      · rw [if_neg hc22] at h
        refine zr_iinc C (v7 + 1) [(7, .int (v7 + 1)), (6, .int r18), (1, .int v1), (3, .int v3), (4, .int v4), (5, .ref (g.2.1 2)), (8, .int v8)] d_X8_years_112 rfl rfl (by decide) rfl ?_
        refine zr_iinc C (v8 + 1) [(8, .int (v8 + 1)), (7, .int (v7 + 1)), (6, .int r18), (1, .int v1), (3, .int v3), (4, .int v4), (5, .ref (g.2.1 2))] d_X8_years_115 rfl rfl (by decide) rfl ?_
        refine zr_goto C 78 d_X8_years_118 (by decide) ?_
        exact zr_pick [3, 4, 5, 6, 2, 1, 0] rfl (ih r18 (v7 + 1) (v8 + 1) h)

def wp_X8_years (p1 : Int32) (p2 : Int32) (p3 : Int32) (p4 : Int32) (σ : zST) (Post : Int32 → Prop) : Prop := wp_X6_has 2 p1 σ (fun r1 => (if r1 = (0) then Post (-1 : Int32) else wp_X8_within p2 (0 : Int32) (9999 : Int32) σ (fun r4 => (if r4 = (0) then Post (-2 : Int32) else wp_X8_within p3 (1 : Int32) (99 : Int32) σ (fun r7 => (if r7 = (0) then Post (-2 : Int32) else wp_X8_within p4 (0 : Int32) (2 : Int32) σ (fun r10 => (if r10 = (0) then Post (-2 : Int32) else (if p4 = (1 : Int32) then wp_X6_lostToTeeth 2 p1 σ (fun r24 => Post (p3 * r24)) else ∃ M23 : Nat, wp_X8_years_L78 p1 p3 p4 σ Post M23 p2 (0 : Int32) (0 : Int32))))))))))
set_option maxRecDepth 100000 in
set_option maxHeartbeats 4000000 in
theorem g_X8_years {p : Program} {l : Launch} {e : Env} {R : Room} {s : State} {m : MethodId} {args : Array Value} {below : List Frame} {meth : Method} {c : Code} {Q : State → Prop} {g : zG} {n1 n2 : Nat} (C : zCX p R s m args meth c g n1 n2 cX8_years 9 RX8 3 67) {p1 : Int32} {p2 : Int32} {p3 : Int32} {p4 : Int32} {σ : zST} {Post : Int32 → Prop} (hret : ∀ (v : Int32) (pc : Nat) (lv : List (Nat × Value)), Post v → decode cX8_years pc = .ok (.ireturn, 1) → zGG p l e R s m args below meth c Q g n1 n2 9 pc lv [.int v] σ) (h : wp_X8_years p1 p2 p3 p4 σ Post) : zGG p l e R s m args below meth c Q g n1 n2 9 0 [(0, .ref (g.2.1 0)), (1, .int p1), (2, .int p2), (3, .int p3), (4, .int p4)] [] σ := by
  unfold wp_X8_years at h
  refine zr_aload_n C d_X8_years_0 rfl ?_
  refine zr_getr (u := 1) C fw_X8_10 (sh_0) rfl d_X8_years_1 ?_
  refine zr_getr (u := 2) C fw_X8_51 (sh_1) rfl d_X8_years_4 ?_
  refine zr_astore C [(5, .ref (g.2.1 2)), (0, .ref (g.2.1 0)), (1, .int p1), (2, .int p2), (3, .int p3), (4, .int p4)] d_X8_years_7 (by decide) rfl ?_
  refine zr_aload C d_X8_years_9 rfl ?_
  refine zr_iload_n C d_X8_years_11 rfl ?_
  refine zr_cip (zr_runV (As := [.int p1]) (rest := []) C vw_X8_79 (c_X6_has l g 2 isX6_2 p1 σ _ h) (sh_2) rfl (by decide) (by decide) rfl rfl (Nat.le_of_ble_eq_true rfl) d_X8_years_12) (fun r1 h => ?_)
  refine zr_if_ne C 20 d_X8_years_15 (by decide) (fun hc3 => ?_) (fun hc3 => ?_)
  · rw [if_neg hc3] at h
    refine zr_iload_n C d_X8_years_20 rfl ?_
    refine zr_iconst C (0 : Int32) d_X8_years_21 (by decide) ?_
    refine zr_sipush C (9999 : Int32) d_X8_years_22 (by decide) ?_
    refine zr_cip (zr_runS (As := [.int p2, .int (0 : Int32), .int (9999 : Int32)]) (rest := []) C sw_X8_47 (c_X8_within l g p2 (0 : Int32) (9999 : Int32) σ _ h) (by decide) (by decide) rfl rfl (Nat.le_of_ble_eq_true rfl) d_X8_years_25) (fun r4 h => ?_)
    refine zr_if_eq C 51 d_X8_years_28 (by decide) (fun hc6 => ?_) (fun hc6 => ?_)
    · rw [if_pos hc6] at h
      refine zr_bipush C (-2 : Int32) d_X8_years_51 (by decide) ?_
      exact hret _ _ _ h d_X8_years_53
    · rw [if_neg hc6] at h
      refine zr_iload_n C d_X8_years_31 rfl ?_
      refine zr_iconst C (1 : Int32) d_X8_years_32 (by decide) ?_
      refine zr_bipush C (99 : Int32) d_X8_years_33 (by decide) ?_
      refine zr_cip (zr_runS (As := [.int p3, .int (1 : Int32), .int (99 : Int32)]) (rest := []) C sw_X8_47 (c_X8_within l g p3 (1 : Int32) (99 : Int32) σ _ h) (by decide) (by decide) rfl rfl (Nat.le_of_ble_eq_true rfl) d_X8_years_35) (fun r7 h => ?_)
      refine zr_if_eq C 51 d_X8_years_38 (by decide) (fun hc9 => ?_) (fun hc9 => ?_)
      · rw [if_pos hc9] at h
        refine zr_bipush C (-2 : Int32) d_X8_years_51 (by decide) ?_
        exact hret _ _ _ h d_X8_years_53
      · rw [if_neg hc9] at h
        refine zr_iload C d_X8_years_41 rfl ?_
        refine zr_iconst C (0 : Int32) d_X8_years_43 (by decide) ?_
        refine zr_iconst C (2 : Int32) d_X8_years_44 (by decide) ?_
        refine zr_cip (zr_runS (As := [.int p4, .int (0 : Int32), .int (2 : Int32)]) (rest := []) C sw_X8_47 (c_X8_within l g p4 (0 : Int32) (2 : Int32) σ _ h) (by decide) (by decide) rfl rfl (Nat.le_of_ble_eq_true rfl) d_X8_years_45) (fun r10 h => ?_)
        refine zr_if_ne C 54 d_X8_years_48 (by decide) (fun hc12 => ?_) (fun hc12 => ?_)
        · rw [if_neg hc12] at h
          refine zr_iload C d_X8_years_54 rfl ?_
          refine zr_iconst C (1 : Int32) d_X8_years_56 (by decide) ?_
          refine zr_icmp_ne C 69 d_X8_years_57 (by decide) (fun hc13 => ?_) (fun hc13 => ?_)
          · rw [if_neg hc13] at h
            refine zr_iload_n C d_X8_years_69 rfl ?_
            refine zr_istore C [(6, .int p2), (5, .ref (g.2.1 2)), (0, .ref (g.2.1 0)), (1, .int p1), (2, .int p2), (3, .int p3), (4, .int p4)] d_X8_years_70 (by decide) rfl ?_
            refine zr_iconst C (0 : Int32) d_X8_years_72 (by decide) ?_
            refine zr_istore C [(7, .int (0 : Int32)), (6, .int p2), (5, .ref (g.2.1 2)), (0, .ref (g.2.1 0)), (1, .int p1), (2, .int p2), (3, .int p3), (4, .int p4)] d_X8_years_73 (by decide) rfl ?_
            refine zr_iconst C (0 : Int32) d_X8_years_75 (by decide) ?_
            refine zr_istore C [(8, .int (0 : Int32)), (7, .int (0 : Int32)), (6, .int p2), (5, .ref (g.2.1 2)), (0, .ref (g.2.1 0)), (1, .int p1), (2, .int p2), (3, .int p3), (4, .int p4)] d_X8_years_76 (by decide) rfl ?_
            obtain ⟨M23, h⟩ := h
            exact zr_pick [5, 7, 8, 3, 2, 1, 0] rfl (g_X8_years_L78 C hret M23 p2 (0 : Int32) (0 : Int32) h)
          · rw [if_pos hc13] at h
            refine zr_iload_n C d_X8_years_60 rfl ?_
            refine zr_aload C d_X8_years_61 rfl ?_
            refine zr_iload_n C d_X8_years_63 rfl ?_
            refine zr_cip (zr_runV (As := [.int p1]) (rest := [.int p3]) C vw_X8_274 (c_X6_lostToTeeth l g 2 isX6_2 p1 σ _ h) (sh_2) rfl (by decide) (by decide) rfl rfl (Nat.le_of_ble_eq_true rfl) d_X8_years_64) (fun r24 h => ?_)
            refine zr_imul C d_X8_years_67 ?_
            exact hret _ _ _ h d_X8_years_68
        · rw [if_pos hc12] at h
          refine zr_bipush C (-2 : Int32) d_X8_years_51 (by decide) ?_
          exact hret _ _ _ h d_X8_years_53
  · rw [if_pos hc3] at h
    refine zr_iconst C (-1 : Int32) d_X8_years_18 (by decide) ?_
    exact hret _ _ _ h d_X8_years_19
set_option maxRecDepth 20000 in
theorem c_X8_years (l : Launch) (g : zG) (p1 : Int32) (p2 : Int32) (p3 : Int32) (p4 : Int32) (σ : zST) (Post : Int32 → Prop) (h : wp_X8_years p1 p2 p3 p4 σ Post) : Met l yX8_years (Cond.code yX8_years cX8_years 9 (some .int) :: zGW) (zRm 3 67) (va_Pc [.ref (g.2.1 0), .int p1, .int p2, .int p3, .int p4] (zPP g σ)) (va_Qi (fun r u => Post r ∧ u = σ) (zBB g) (zA g)) 0 0 (zA g) :=
  zMet (by decide) (Nat.le_of_ble_eq_true rfl) (fun p e s m below meth c hr C => g_X8_years C (fun v pc lv hp hd => zr_iret C hr ⟨hp, rfl⟩ hd) h)
def wp_X8_imageBooks (p1 : Int32) (σ : zST) (Post : Nat → Prop) : Prop := (if p1 = (0) then Post (18) else Post (35))
set_option maxRecDepth 100000 in
set_option maxHeartbeats 4000000 in
theorem g_X8_imageBooks {p : Program} {l : Launch} {e : Env} {R : Room} {s : State} {m : MethodId} {args : Array Value} {below : List Frame} {meth : Method} {c : Code} {Q : State → Prop} {g : zG} {n1 n2 : Nat} (C : zCX p R s m args meth c g n1 n2 cX8_imageBooks 2 RX8 0 0) {p1 : Int32} {σ : zST} {Post : Nat → Prop} (hret : ∀ (v : Nat) (pc : Nat) (lv : List (Nat × Value)), Post v → decode cX8_imageBooks pc = .ok (.areturn, 1) → zGG p l e R s m args below meth c Q g n1 n2 2 pc lv [.ref (g.2.1 v)] σ) (h : wp_X8_imageBooks p1 σ Post) : zGG p l e R s m args below meth c Q g n1 n2 2 0 [(0, .ref (g.2.1 0)), (1, .int p1)] [] σ := by
  unfold wp_X8_imageBooks at h
  refine zr_iload_n C d_X8_imageBooks_0 rfl ?_
  refine zr_if_ne C 11 d_X8_imageBooks_1 (by decide) (fun hc1 => ?_) (fun hc1 => ?_)
  · rw [if_neg hc1] at h
    refine zr_aload_n C d_X8_imageBooks_11 rfl ?_
    refine zr_getr (u := 35) C fw_X8_19 (sh_0) rfl d_X8_imageBooks_12 ?_
    exact hret _ _ _ h d_X8_imageBooks_15
  · rw [if_pos hc1] at h
    refine zr_aload_n C d_X8_imageBooks_4 rfl ?_
    refine zr_getr (u := 18) C fw_X8_16 (sh_0) rfl d_X8_imageBooks_5 ?_
    refine zr_goto C 15 d_X8_imageBooks_8 (by decide) ?_
    exact hret _ _ _ h d_X8_imageBooks_15
set_option maxRecDepth 20000 in
theorem c_X8_imageBooks (l : Launch) (g : zG) (p1 : Int32) (σ : zST) (Post : Nat → Prop) (h : wp_X8_imageBooks p1 σ Post) : Met l yX8_imageBooks (Cond.code yX8_imageBooks cX8_imageBooks 2 (some (.object "StraitFleet$Books")) :: zGW) (zRm 0 0) (va_Pc [.ref (g.2.1 0), .int p1] (zPP g σ)) (va_Qr (zPr g (fun r u => Post r ∧ u = σ)) (zBr g) (zA g)) 0 0 (zA g) :=
  zMet (by decide) (Nat.le_of_ble_eq_true rfl) (fun p e s m below meth c hr C => g_X8_imageBooks C (fun v pc lv hp hd => zr_aret C hr ⟨hp, rfl⟩ hd) h)
def wp_X8_image (p1 : Int32) (σ : zST) (Post : Int32 → zST → Prop) : Prop := wp_X8_within p1 (0 : Int32) (1 : Int32) σ (fun r1 => (if r1 = (0) then Post (-2 : Int32) σ else wp_X8_imageBooks p1 σ (fun r4 => isX0 r4 ∧ wp_X0_become r4 1 σ (fun σ7 => Post (1 : Int32) (wI σ7 0 3 ((σ7.1 0 3) ||| ((1 : Int32) <<< (p1 &&& 31))))))))
set_option maxRecDepth 100000 in
set_option maxHeartbeats 4000000 in
theorem g_X8_image {p : Program} {l : Launch} {e : Env} {R : Room} {s : State} {m : MethodId} {args : Array Value} {below : List Frame} {meth : Method} {c : Code} {Q : State → Prop} {g : zG} {n1 n2 : Nat} (C : zCX p R s m args meth c g n1 n2 cX8_image 2 RX8 3 90) {p1 : Int32} {σ : zST} {Post : Int32 → zST → Prop} (hret : ∀ (v : Int32) (σ : zST) (pc : Nat) (lv : List (Nat × Value)), Post v σ → decode cX8_image pc = .ok (.ireturn, 1) → zGG p l e R s m args below meth c Q g n1 n2 2 pc lv [.int v] σ) (h : wp_X8_image p1 σ Post) : zGG p l e R s m args below meth c Q g n1 n2 2 0 [(0, .ref (g.2.1 0)), (1, .int p1)] [] σ := by
  unfold wp_X8_image at h
  refine zr_iload_n C d_X8_image_0 rfl ?_
  refine zr_iconst C (0 : Int32) d_X8_image_1 (by decide) ?_
  refine zr_iconst C (1 : Int32) d_X8_image_2 (by decide) ?_
  refine zr_cip (zr_runS (As := [.int p1, .int (0 : Int32), .int (1 : Int32)]) (rest := []) C sw_X8_47 (c_X8_within l g p1 (0 : Int32) (1 : Int32) σ _ h) (by decide) (by decide) rfl rfl (Nat.le_of_ble_eq_true rfl) d_X8_image_3) (fun r1 h => ?_)
  refine zr_if_ne C 12 d_X8_image_6 (by decide) (fun hc3 => ?_) (fun hc3 => ?_)
  · rw [if_neg hc3] at h
    refine zr_aload_n C d_X8_image_12 rfl ?_
    refine zr_iload_n C d_X8_image_13 rfl ?_
    refine zr_crp (zr_runV (As := [.int p1]) (rest := []) C vw_X8_280 (c_X8_imageBooks l g p1 σ _ h) (sh_0) rfl (by decide) (by decide) rfl rfl (Nat.le_of_ble_eq_true rfl) d_X8_image_14) (fun r4 h => ?_)
    obtain ⟨hr4, h⟩ := h
    refine zr_aload_n C d_X8_image_17 rfl ?_
    refine zr_getr (u := 1) C fw_X8_10 (sh_0) rfl d_X8_image_18 ?_
    refine zr_cv (zr_runV (As := [.ref (g.2.1 1)]) (rest := []) C vw_X8_284 (c_X0_become l g r4 hr4 1 isX0_1 σ _ h) (shX0_0 hr4) rfl (by decide) (by decide) rfl rfl (Nat.le_of_ble_eq_true rfl) d_X8_image_21) (fun σ7 h => ?_)
    refine zr_aload_n C d_X8_image_24 rfl ?_
    refine zr_dup C d_X8_image_25 rfl ?_
    refine zr_geti C fw_X8_22 (sh_0) rfl d_X8_image_26 ?_
    refine zr_iconst C (1 : Int32) d_X8_image_29 (by decide) ?_
    refine zr_iload_n C d_X8_image_30 rfl ?_
    refine zr_ishl C d_X8_image_31 ?_
    refine zr_ior C d_X8_image_32 ?_
    refine zr_puti C fw_X8_22 pw_X8_3 (sh_0) rfl rfl rfl d_X8_image_33 ?_
    refine zr_iconst C (1 : Int32) d_X8_image_36 (by decide) ?_
    exact hret _ _ _ _ h d_X8_image_37
  · rw [if_pos hc3] at h
    refine zr_bipush C (-2 : Int32) d_X8_image_9 (by decide) ?_
    exact hret _ _ _ _ h d_X8_image_11
set_option maxRecDepth 20000 in
theorem c_X8_image (l : Launch) (g : zG) (p1 : Int32) (σ : zST) (Post : Int32 → zST → Prop) (h : wp_X8_image p1 σ Post) : Met l yX8_image (Cond.code yX8_image cX8_image 2 (some .int) :: zGW) (zRm 3 90) (va_Pc [.ref (g.2.1 0), .int p1] (zPP g σ)) (va_Qi Post (zBB g) (zA g)) 0 0 (zA g) :=
  zMet (by decide) (Nat.le_of_ble_eq_true rfl) (fun p e s m below meth c hr C => g_X8_image C (fun v σ pc lv hp hd => zr_iret C hr hp hd) h)
def wp_X8_restore (p1 : Int32) (σ : zST) (Post : Int32 → zST → Prop) : Prop := wp_X8_within p1 (0 : Int32) (1 : Int32) σ (fun r1 => (if r1 = (0) then Post (-2 : Int32) σ else (if (((σ.1 0 3) >>> (p1 &&& 31)) &&& (1 : Int32)) = (0) then Post (-3 : Int32) σ else wp_X8_imageBooks p1 σ (fun r5 => isX0 r5 ∧ wp_X0_become 1 r5 σ (fun σ8 => Post (1 : Int32) σ8)))))
set_option maxRecDepth 100000 in
set_option maxHeartbeats 4000000 in
theorem g_X8_restore {p : Program} {l : Launch} {e : Env} {R : Room} {s : State} {m : MethodId} {args : Array Value} {below : List Frame} {meth : Method} {c : Code} {Q : State → Prop} {g : zG} {n1 n2 : Nat} (C : zCX p R s m args meth c g n1 n2 cX8_restore 2 RX8 3 90) {p1 : Int32} {σ : zST} {Post : Int32 → zST → Prop} (hret : ∀ (v : Int32) (σ : zST) (pc : Nat) (lv : List (Nat × Value)), Post v σ → decode cX8_restore pc = .ok (.ireturn, 1) → zGG p l e R s m args below meth c Q g n1 n2 2 pc lv [.int v] σ) (h : wp_X8_restore p1 σ Post) : zGG p l e R s m args below meth c Q g n1 n2 2 0 [(0, .ref (g.2.1 0)), (1, .int p1)] [] σ := by
  unfold wp_X8_restore at h
  refine zr_iload_n C d_X8_restore_0 rfl ?_
  refine zr_iconst C (0 : Int32) d_X8_restore_1 (by decide) ?_
  refine zr_iconst C (1 : Int32) d_X8_restore_2 (by decide) ?_
  refine zr_cip (zr_runS (As := [.int p1, .int (0 : Int32), .int (1 : Int32)]) (rest := []) C sw_X8_47 (c_X8_within l g p1 (0 : Int32) (1 : Int32) σ _ h) (by decide) (by decide) rfl rfl (Nat.le_of_ble_eq_true rfl) d_X8_restore_3) (fun r1 h => ?_)
  refine zr_if_ne C 12 d_X8_restore_6 (by decide) (fun hc3 => ?_) (fun hc3 => ?_)
  · rw [if_neg hc3] at h
    refine zr_aload_n C d_X8_restore_12 rfl ?_
    refine zr_geti C fw_X8_22 (sh_0) rfl d_X8_restore_13 ?_
    refine zr_iload_n C d_X8_restore_16 rfl ?_
    refine zr_ishr C d_X8_restore_17 ?_
    refine zr_iconst C (1 : Int32) d_X8_restore_18 (by decide) ?_
    refine zr_iand C d_X8_restore_19 ?_
    refine zr_if_ne C 26 d_X8_restore_20 (by decide) (fun hc4 => ?_) (fun hc4 => ?_)
    · rw [if_neg hc4] at h
      refine zr_aload_n C d_X8_restore_26 rfl ?_
      refine zr_getr (u := 1) C fw_X8_10 (sh_0) rfl d_X8_restore_27 ?_
      refine zr_aload_n C d_X8_restore_30 rfl ?_
      refine zr_iload_n C d_X8_restore_31 rfl ?_
      refine zr_crp (zr_runV (As := [.int p1]) (rest := [.ref (g.2.1 1)]) C vw_X8_280 (c_X8_imageBooks l g p1 σ _ h) (sh_0) rfl (by decide) (by decide) rfl rfl (Nat.le_of_ble_eq_true rfl) d_X8_restore_32) (fun r5 h => ?_)
      obtain ⟨hr5, h⟩ := h
      refine zr_cv (zr_runV (As := [.ref (g.2.1 r5)]) (rest := []) C vw_X8_284 (c_X0_become l g 1 isX0_1 r5 hr5 σ _ h) (sh_1) rfl (by decide) (by decide) rfl rfl (Nat.le_of_ble_eq_true rfl) d_X8_restore_35) (fun σ8 h => ?_)
      refine zr_iconst C (1 : Int32) d_X8_restore_38 (by decide) ?_
      exact hret _ _ _ _ h d_X8_restore_39
    · rw [if_pos hc4] at h
      refine zr_bipush C (-3 : Int32) d_X8_restore_23 (by decide) ?_
      exact hret _ _ _ _ h d_X8_restore_25
  · rw [if_pos hc3] at h
    refine zr_bipush C (-2 : Int32) d_X8_restore_9 (by decide) ?_
    exact hret _ _ _ _ h d_X8_restore_11
set_option maxRecDepth 20000 in
theorem c_X8_restore (l : Launch) (g : zG) (p1 : Int32) (σ : zST) (Post : Int32 → zST → Prop) (h : wp_X8_restore p1 σ Post) : Met l yX8_restore (Cond.code yX8_restore cX8_restore 2 (some .int) :: zGW) (zRm 3 90) (va_Pc [.ref (g.2.1 0), .int p1] (zPP g σ)) (va_Qi Post (zBB g) (zA g)) 0 0 (zA g) :=
  zMet (by decide) (Nat.le_of_ble_eq_true rfl) (fun p e s m below meth c hr C => g_X8_restore C (fun v σ pc lv hp hd => zr_iret C hr hp hd) h)
def wp_X8_told (p1 : Int32) (σ : zST) (Post : Int32 → Prop) : Prop := wp_X8_within p1 (2 : Int32) (9 : Int32) σ (fun r1 => (if r1 = (0) then wp_X8_within p1 (20 : Int32) (27 : Int32) σ (fun r4 => (if r4 = (0) then wp_X8_within p1 (30 : Int32) (35 : Int32) σ (fun r7 => (if r7 = (0) then wp_X8_within p1 (100 : Int32) (123 : Int32) σ (fun r10 => (if r10 = (0) then (if p1 = 0 then Post (σ.1 52 1) else (if p1 = 1 then Post (σ.1 2 0) else (if p1 = 2 then Post (-2 : Int32) else (if p1 = 3 then Post (-2 : Int32) else (if p1 = 4 then Post (-2 : Int32) else (if p1 = 5 then Post (-2 : Int32) else (if p1 = 6 then Post (-2 : Int32) else (if p1 = 7 then Post (-2 : Int32) else (if p1 = 8 then Post (-2 : Int32) else (if p1 = 9 then Post (-2 : Int32) else (if p1 = 10 then Post (σ.1 2 7) else (if p1 = 11 then Post (σ.1 10 0) else (if p1 = 12 then Post (σ.1 13 0) else (if p1 = 13 then Post (σ.1 15 0) else Post (-2 : Int32))))))))))))))) else wp_X6_digitAt 2 (p1 - (100 : Int32)) σ (fun r27 => Post r27))) else wp_X6_has 2 (p1 - (30 : Int32)) σ (fun r29 => (if r29 = (0) then True else vp_in (p1 - (30 : Int32)) 6 ∧ True) ∧ ∀ z32 : Int32, z32 = (if r29 = (0) then (-2 : Int32) else (σ.1 6 (p1 - (30 : Int32)).toNatClampNeg)) → Post z32))) else wp_X1_has 13 (p1 - (20 : Int32)) σ (fun r36 => (if r36 = (0) then True else vp_in (p1 - (20 : Int32)) 8 ∧ True) ∧ ∀ z39 : Int32, z39 = (if r36 = (0) then (-2 : Int32) else (σ.1 14 (p1 - (20 : Int32)).toNatClampNeg)) → Post z39))) else vp_in (p1 - (2 : Int32)) 8 ∧ Post (σ.1 7 (p1 - (2 : Int32)).toNatClampNeg)))
set_option maxRecDepth 100000 in
set_option maxHeartbeats 4000000 in
theorem g_X8_told {p : Program} {l : Launch} {e : Env} {R : Room} {s : State} {m : MethodId} {args : Array Value} {below : List Frame} {meth : Method} {c : Code} {Q : State → Prop} {g : zG} {n1 n2 : Nat} (C : zCX p R s m args meth c g n1 n2 cX8_told 2 RX8 2 43) {p1 : Int32} {σ : zST} {Post : Int32 → Prop} (hret : ∀ (v : Int32) (pc : Nat) (lv : List (Nat × Value)), Post v → decode cX8_told pc = .ok (.ireturn, 1) → zGG p l e R s m args below meth c Q g n1 n2 2 pc lv [.int v] σ) (h : wp_X8_told p1 σ Post) : zGG p l e R s m args below meth c Q g n1 n2 2 0 [(0, .ref (g.2.1 0)), (1, .int p1)] [] σ := by
  unfold wp_X8_told at h
  refine zr_iload_n C d_X8_told_0 rfl ?_
  refine zr_iconst C (2 : Int32) d_X8_told_1 (by decide) ?_
  refine zr_bipush C (9 : Int32) d_X8_told_2 (by decide) ?_
  refine zr_cip (zr_runS (As := [.int p1, .int (2 : Int32), .int (9 : Int32)]) (rest := []) C sw_X8_47 (c_X8_within l g p1 (2 : Int32) (9 : Int32) σ _ h) (by decide) (by decide) rfl rfl (Nat.le_of_ble_eq_true rfl) d_X8_told_4) (fun r1 h => ?_)
  refine zr_if_eq C 25 d_X8_told_7 (by decide) (fun hc3 => ?_) (fun hc3 => ?_)
  · rw [if_pos hc3] at h
    refine zr_iload_n C d_X8_told_25 rfl ?_
    refine zr_bipush C (20 : Int32) d_X8_told_26 (by decide) ?_
    refine zr_bipush C (27 : Int32) d_X8_told_28 (by decide) ?_
    refine zr_cip (zr_runS (As := [.int p1, .int (20 : Int32), .int (27 : Int32)]) (rest := []) C sw_X8_47 (c_X8_within l g p1 (20 : Int32) (27 : Int32) σ _ h) (by decide) (by decide) rfl rfl (Nat.le_of_ble_eq_true rfl) d_X8_told_30) (fun r4 h => ?_)
    refine zr_if_eq C 74 d_X8_told_33 (by decide) (fun hc6 => ?_) (fun hc6 => ?_)
    · rw [if_pos hc6] at h
      refine zr_iload_n C d_X8_told_74 rfl ?_
      refine zr_bipush C (30 : Int32) d_X8_told_75 (by decide) ?_
      refine zr_bipush C (35 : Int32) d_X8_told_77 (by decide) ?_
      refine zr_cip (zr_runS (As := [.int p1, .int (30 : Int32), .int (35 : Int32)]) (rest := []) C sw_X8_47 (c_X8_within l g p1 (30 : Int32) (35 : Int32) σ _ h) (by decide) (by decide) rfl rfl (Nat.le_of_ble_eq_true rfl) d_X8_told_79) (fun r7 h => ?_)
      refine zr_if_eq C 123 d_X8_told_82 (by decide) (fun hc9 => ?_) (fun hc9 => ?_)
      · rw [if_pos hc9] at h
        refine zr_iload_n C d_X8_told_123 rfl ?_
        refine zr_bipush C (100 : Int32) d_X8_told_124 (by decide) ?_
        refine zr_bipush C (123 : Int32) d_X8_told_126 (by decide) ?_
        refine zr_cip (zr_runS (As := [.int p1, .int (100 : Int32), .int (123 : Int32)]) (rest := []) C sw_X8_47 (c_X8_within l g p1 (100 : Int32) (123 : Int32) σ _ h) (by decide) (by decide) rfl rfl (Nat.le_of_ble_eq_true rfl) d_X8_told_128) (fun r10 h => ?_)
        refine zr_if_eq C 149 d_X8_told_131 (by decide) (fun hc12 => ?_) (fun hc12 => ?_)
        · rw [if_pos hc12] at h
          refine zr_iload_n C d_X8_told_149 rfl ?_
          by_cases hc13 : p1 = 0
          · rw [if_pos hc13] at h
            refine zr_tabIn C (off := 70) 220 d_X8_told_150 (by rw [hc13]; decide) (by rw [hc13]; decide) (by rw [hc13]; rfl) (by decide) ?_
            refine zr_aload_n C d_X8_told_220 rfl ?_
            refine zr_getr (u := 52) C fw_X8_29 (sh_0) rfl d_X8_told_221 ?_
            refine zr_geti C fw_X8_92 (sh_52) rfl d_X8_told_224 ?_
            exact hret _ _ _ h d_X8_told_227
          rw [if_neg hc13] at h
          by_cases hc14 : p1 = 1
          · rw [if_pos hc14] at h
            refine zr_tabIn C (off := 78) 228 d_X8_told_150 (by rw [hc14]; decide) (by rw [hc14]; decide) (by rw [hc14]; rfl) (by decide) ?_
            refine zr_aload_n C d_X8_told_228 rfl ?_
            refine zr_getr (u := 1) C fw_X8_10 (sh_0) rfl d_X8_told_229 ?_
            refine zr_getr (u := 2) C fw_X8_51 (sh_1) rfl d_X8_told_232 ?_
            refine zr_geti C fw_X8_55 (sh_2) rfl d_X8_told_235 ?_
            exact hret _ _ _ h d_X8_told_238
          rw [if_neg hc14] at h
          by_cases hc15 : p1 = 2
          · rw [if_pos hc15] at h
            refine zr_tabIn C (off := 133) 283 d_X8_told_150 (by rw [hc15]; decide) (by rw [hc15]; decide) (by rw [hc15]; rfl) (by decide) ?_
            refine zr_bipush C (-2 : Int32) d_X8_told_283 (by decide) ?_
            exact hret _ _ _ h d_X8_told_285
          rw [if_neg hc15] at h
          by_cases hc16 : p1 = 3
          · rw [if_pos hc16] at h
            refine zr_tabIn C (off := 133) 283 d_X8_told_150 (by rw [hc16]; decide) (by rw [hc16]; decide) (by rw [hc16]; rfl) (by decide) ?_
            refine zr_bipush C (-2 : Int32) d_X8_told_283 (by decide) ?_
            exact hret _ _ _ h d_X8_told_285
          rw [if_neg hc16] at h
          by_cases hc17 : p1 = 4
          · rw [if_pos hc17] at h
            refine zr_tabIn C (off := 133) 283 d_X8_told_150 (by rw [hc17]; decide) (by rw [hc17]; decide) (by rw [hc17]; rfl) (by decide) ?_
            refine zr_bipush C (-2 : Int32) d_X8_told_283 (by decide) ?_
            exact hret _ _ _ h d_X8_told_285
          rw [if_neg hc17] at h
          by_cases hc18 : p1 = 5
          · rw [if_pos hc18] at h
            refine zr_tabIn C (off := 133) 283 d_X8_told_150 (by rw [hc18]; decide) (by rw [hc18]; decide) (by rw [hc18]; rfl) (by decide) ?_
            refine zr_bipush C (-2 : Int32) d_X8_told_283 (by decide) ?_
            exact hret _ _ _ h d_X8_told_285
          rw [if_neg hc18] at h
          by_cases hc19 : p1 = 6
          · rw [if_pos hc19] at h
            refine zr_tabIn C (off := 133) 283 d_X8_told_150 (by rw [hc19]; decide) (by rw [hc19]; decide) (by rw [hc19]; rfl) (by decide) ?_
            refine zr_bipush C (-2 : Int32) d_X8_told_283 (by decide) ?_
            exact hret _ _ _ h d_X8_told_285
          rw [if_neg hc19] at h
          by_cases hc20 : p1 = 7
          · rw [if_pos hc20] at h
            refine zr_tabIn C (off := 133) 283 d_X8_told_150 (by rw [hc20]; decide) (by rw [hc20]; decide) (by rw [hc20]; rfl) (by decide) ?_
            refine zr_bipush C (-2 : Int32) d_X8_told_283 (by decide) ?_
            exact hret _ _ _ h d_X8_told_285
          rw [if_neg hc20] at h
          by_cases hc21 : p1 = 8
          · rw [if_pos hc21] at h
            refine zr_tabIn C (off := 133) 283 d_X8_told_150 (by rw [hc21]; decide) (by rw [hc21]; decide) (by rw [hc21]; rfl) (by decide) ?_
            refine zr_bipush C (-2 : Int32) d_X8_told_283 (by decide) ?_
            exact hret _ _ _ h d_X8_told_285
          rw [if_neg hc21] at h
          by_cases hc22 : p1 = 9
          · rw [if_pos hc22] at h
            refine zr_tabIn C (off := 133) 283 d_X8_told_150 (by rw [hc22]; decide) (by rw [hc22]; decide) (by rw [hc22]; rfl) (by decide) ?_
            refine zr_bipush C (-2 : Int32) d_X8_told_283 (by decide) ?_
            exact hret _ _ _ h d_X8_told_285
          rw [if_neg hc22] at h
          by_cases hc23 : p1 = 10
          · rw [if_pos hc23] at h
            refine zr_tabIn C (off := 89) 239 d_X8_told_150 (by rw [hc23]; decide) (by rw [hc23]; decide) (by rw [hc23]; rfl) (by decide) ?_
            refine zr_aload_n C d_X8_told_239 rfl ?_
            refine zr_getr (u := 1) C fw_X8_10 (sh_0) rfl d_X8_told_240 ?_
            refine zr_getr (u := 2) C fw_X8_51 (sh_1) rfl d_X8_told_243 ?_
            refine zr_geti C fw_X8_114 (sh_2) rfl d_X8_told_246 ?_
            exact hret _ _ _ h d_X8_told_249
          rw [if_neg hc23] at h
          by_cases hc24 : p1 = 11
          · rw [if_pos hc24] at h
            refine zr_tabIn C (off := 100) 250 d_X8_told_150 (by rw [hc24]; decide) (by rw [hc24]; decide) (by rw [hc24]; rfl) (by decide) ?_
            refine zr_aload_n C d_X8_told_250 rfl ?_
            refine zr_getr (u := 1) C fw_X8_10 (sh_0) rfl d_X8_told_251 ?_
            refine zr_getr (u := 10) C fw_X8_196 (sh_1) rfl d_X8_told_254 ?_
            refine zr_geti C fw_X8_200 (sh_10) rfl d_X8_told_257 ?_
            exact hret _ _ _ h d_X8_told_260
          rw [if_neg hc24] at h
          by_cases hc25 : p1 = 12
          · rw [if_pos hc25] at h
            refine zr_tabIn C (off := 111) 261 d_X8_told_150 (by rw [hc25]; decide) (by rw [hc25]; decide) (by rw [hc25]; rfl) (by decide) ?_
            refine zr_aload_n C d_X8_told_261 rfl ?_
            refine zr_getr (u := 1) C fw_X8_10 (sh_0) rfl d_X8_told_262 ?_
            refine zr_getr (u := 13) C fw_X8_228 (sh_1) rfl d_X8_told_265 ?_
            refine zr_geti C fw_X8_232 (sh_13) rfl d_X8_told_268 ?_
            exact hret _ _ _ h d_X8_told_271
          rw [if_neg hc25] at h
          by_cases hc26 : p1 = 13
          · rw [if_pos hc26] at h
            refine zr_tabIn C (off := 122) 272 d_X8_told_150 (by rw [hc26]; decide) (by rw [hc26]; decide) (by rw [hc26]; rfl) (by decide) ?_
            refine zr_aload_n C d_X8_told_272 rfl ?_
            refine zr_getr (u := 1) C fw_X8_10 (sh_0) rfl d_X8_told_273 ?_
            refine zr_getr (u := 15) C fw_X8_257 (sh_1) rfl d_X8_told_276 ?_
            refine zr_geti C fw_X8_261 (sh_15) rfl d_X8_told_279 ?_
            exact hret _ _ _ h d_X8_told_282
          rw [if_neg hc26] at h
          have ehc13 := lv_neT hc13 (show (0 : Int32).toInt = 0 by decide)
          have ehc14 := lv_neT hc14 (show (1 : Int32).toInt = 1 by decide)
          have ehc15 := lv_neT hc15 (show (2 : Int32).toInt = 2 by decide)
          have ehc16 := lv_neT hc16 (show (3 : Int32).toInt = 3 by decide)
          have ehc17 := lv_neT hc17 (show (4 : Int32).toInt = 4 by decide)
          have ehc18 := lv_neT hc18 (show (5 : Int32).toInt = 5 by decide)
          have ehc19 := lv_neT hc19 (show (6 : Int32).toInt = 6 by decide)
          have ehc20 := lv_neT hc20 (show (7 : Int32).toInt = 7 by decide)
          have ehc21 := lv_neT hc21 (show (8 : Int32).toInt = 8 by decide)
          have ehc22 := lv_neT hc22 (show (9 : Int32).toInt = 9 by decide)
          have ehc23 := lv_neT hc23 (show (10 : Int32).toInt = 10 by decide)
          have ehc24 := lv_neT hc24 (show (11 : Int32).toInt = 11 by decide)
          have ehc25 := lv_neT hc25 (show (12 : Int32).toInt = 12 by decide)
          have ehc26 := lv_neT hc26 (show (13 : Int32).toInt = 13 by decide)
          refine zr_tabOut C 283 d_X8_told_150 (by omega) (by decide) ?_
          refine zr_bipush C (-2 : Int32) d_X8_told_283 (by decide) ?_
          exact hret _ _ _ h d_X8_told_285
        · rw [if_neg hc12] at h
          refine zr_aload_n C d_X8_told_134 rfl ?_
          refine zr_getr (u := 1) C fw_X8_10 (sh_0) rfl d_X8_told_135 ?_
          refine zr_getr (u := 2) C fw_X8_51 (sh_1) rfl d_X8_told_138 ?_
          refine zr_iload_n C d_X8_told_141 rfl ?_
          refine zr_bipush C (100 : Int32) d_X8_told_142 (by decide) ?_
          refine zr_isub C d_X8_told_144 ?_
          refine zr_cip (zr_runV (As := [.int (p1 - (100 : Int32))]) (rest := []) C vw_X8_209 (c_X6_digitAt l g 2 isX6_2 (p1 - (100 : Int32)) σ _ h) (sh_2) rfl (by decide) (by decide) rfl rfl (Nat.le_of_ble_eq_true rfl) d_X8_told_145) (fun r27 h => ?_)
          exact hret _ _ _ h d_X8_told_148
      · rw [if_neg hc9] at h
        refine zr_aload_n C d_X8_told_85 rfl ?_
        refine zr_getr (u := 1) C fw_X8_10 (sh_0) rfl d_X8_told_86 ?_
        refine zr_getr (u := 2) C fw_X8_51 (sh_1) rfl d_X8_told_89 ?_
        refine zr_iload_n C d_X8_told_92 rfl ?_
        refine zr_bipush C (30 : Int32) d_X8_told_93 (by decide) ?_
        refine zr_isub C d_X8_told_95 ?_
        refine zr_cip (zr_runV (As := [.int (p1 - (30 : Int32))]) (rest := []) C vw_X8_79 (c_X6_has l g 2 isX6_2 (p1 - (30 : Int32)) σ _ h) (sh_2) rfl (by decide) (by decide) rfl rfl (Nat.le_of_ble_eq_true rfl) d_X8_told_96) (fun r29 h => ?_)
        obtain ⟨ho34, h⟩ := h
        have hJ33 : ∀ z32 : Int32, z32 = (if r29 = (0) then (-2 : Int32) else (σ.1 6 (p1 - (30 : Int32)).toNatClampNeg)) → zGG p l e R s m args below meth c Q g n1 n2 2 122 [(0, .ref (g.2.1 0)), (1, .int p1)] [.int z32] σ := by
          intro z32 hz32
          replace h := h z32 hz32
          exact hret _ _ _ h d_X8_told_122
        refine zr_if_eq C 120 d_X8_told_99 (by decide) (fun hc31 => ?_) (fun hc31 => ?_)
        · skip
          rw [if_pos hc31] at ho34
          refine zr_bipush C (-2 : Int32) d_X8_told_120 (by decide) ?_
          exact hJ33 _ (by rw [if_pos hc31])
        · skip
          rw [if_neg hc31] at ho34
          refine zr_aload_n C d_X8_told_102 rfl ?_
          refine zr_getr (u := 1) C fw_X8_10 (sh_0) rfl d_X8_told_103 ?_
          refine zr_getr (u := 2) C fw_X8_51 (sh_1) rfl d_X8_told_106 ?_
          refine zr_getr (u := 6) C fw_X8_70 (sh_2) rfl d_X8_told_109 ?_
          refine zr_iload_n C d_X8_told_112 rfl ?_
          refine zr_bipush C (30 : Int32) d_X8_told_113 (by decide) ?_
          refine zr_isub C d_X8_told_115 ?_
          obtain ⟨ho35, ho34⟩ := ho34
          refine zr_iald C (sh_6) ho35 d_X8_told_116 ?_
          refine zr_goto C 122 d_X8_told_117 (by decide) ?_
          exact hJ33 _ (by rw [if_neg hc31])
    · rw [if_neg hc6] at h
      refine zr_aload_n C d_X8_told_36 rfl ?_
      refine zr_getr (u := 1) C fw_X8_10 (sh_0) rfl d_X8_told_37 ?_
      refine zr_getr (u := 13) C fw_X8_228 (sh_1) rfl d_X8_told_40 ?_
      refine zr_iload_n C d_X8_told_43 rfl ?_
      refine zr_bipush C (20 : Int32) d_X8_told_44 (by decide) ?_
      refine zr_isub C d_X8_told_46 ?_
      refine zr_cip (zr_runV (As := [.int (p1 - (20 : Int32))]) (rest := []) C vw_X8_238 (c_X1_has l g 13 isX1_13 (p1 - (20 : Int32)) σ _ h) (sh_13) rfl (by decide) (by decide) rfl rfl (Nat.le_of_ble_eq_true rfl) d_X8_told_47) (fun r36 h => ?_)
      obtain ⟨ho41, h⟩ := h
      have hJ40 : ∀ z39 : Int32, z39 = (if r36 = (0) then (-2 : Int32) else (σ.1 14 (p1 - (20 : Int32)).toNatClampNeg)) → zGG p l e R s m args below meth c Q g n1 n2 2 73 [(0, .ref (g.2.1 0)), (1, .int p1)] [.int z39] σ := by
        intro z39 hz39
        replace h := h z39 hz39
        exact hret _ _ _ h d_X8_told_73
      refine zr_if_eq C 71 d_X8_told_50 (by decide) (fun hc38 => ?_) (fun hc38 => ?_)
      · skip
        rw [if_pos hc38] at ho41
        refine zr_bipush C (-2 : Int32) d_X8_told_71 (by decide) ?_
        exact hJ40 _ (by rw [if_pos hc38])
      · skip
        rw [if_neg hc38] at ho41
        refine zr_aload_n C d_X8_told_53 rfl ?_
        refine zr_getr (u := 1) C fw_X8_10 (sh_0) rfl d_X8_told_54 ?_
        refine zr_getr (u := 13) C fw_X8_228 (sh_1) rfl d_X8_told_57 ?_
        refine zr_getr (u := 14) C fw_X8_235 (sh_13) rfl d_X8_told_60 ?_
        refine zr_iload_n C d_X8_told_63 rfl ?_
        refine zr_bipush C (20 : Int32) d_X8_told_64 (by decide) ?_
        refine zr_isub C d_X8_told_66 ?_
        obtain ⟨ho42, ho41⟩ := ho41
        refine zr_iald C (sh_14) ho42 d_X8_told_67 ?_
        refine zr_goto C 73 d_X8_told_68 (by decide) ?_
        exact hJ40 _ (by rw [if_neg hc38])
  · rw [if_neg hc3] at h
    refine zr_aload_n C d_X8_told_10 rfl ?_
    refine zr_getr (u := 1) C fw_X8_10 (sh_0) rfl d_X8_told_11 ?_
    refine zr_getr (u := 2) C fw_X8_51 (sh_1) rfl d_X8_told_14 ?_
    refine zr_getr (u := 7) C fw_X8_89 (sh_2) rfl d_X8_told_17 ?_
    refine zr_iload_n C d_X8_told_20 rfl ?_
    refine zr_iconst C (2 : Int32) d_X8_told_21 (by decide) ?_
    refine zr_isub C d_X8_told_22 ?_
    obtain ⟨ho43, h⟩ := h
    refine zr_iald C (sh_7) ho43 d_X8_told_23 ?_
    exact hret _ _ _ h d_X8_told_24
set_option maxRecDepth 20000 in
theorem c_X8_told (l : Launch) (g : zG) (p1 : Int32) (σ : zST) (Post : Int32 → Prop) (h : wp_X8_told p1 σ Post) : Met l yX8_told (Cond.code yX8_told cX8_told 2 (some .int) :: zGW) (zRm 2 43) (va_Pc [.ref (g.2.1 0), .int p1] (zPP g σ)) (va_Qi (fun r u => Post r ∧ u = σ) (zBB g) (zA g)) 0 0 (zA g) :=
  zMet (by decide) (Nat.le_of_ble_eq_true rfl) (fun p e s m below meth c hr C => g_X8_told C (fun v pc lv hp hd => zr_iret C hr ⟨hp, rfl⟩ hd) h)
def wp_X9_in (p0 : Int64) (p2 : Int64) (p4 : Int64) (σ : zST) (Post : Int32 → Prop) : Prop := ∀ z2 : Int32, z2 = (if (lg_cmp p0 p2) < (0) then (0 : Int32) else (if (0) < (lg_cmp p0 p4) then (0 : Int32) else (1 : Int32))) → zB z2 ∧ Post z2
set_option maxRecDepth 100000 in
set_option maxHeartbeats 4000000 in
theorem g_X9_in {p : Program} {l : Launch} {e : Env} {R : Room} {s : State} {m : MethodId} {args : Array Value} {below : List Frame} {meth : Method} {c : Code} {Q : State → Prop} {g : zG} {n1 n2 : Nat} (C : zCX p R s m args meth c g n1 n2 cX9_in 6 RX9 0 0) {p0 : Int64} {p2 : Int64} {p4 : Int64} {σ : zST} {Post : Int32 → Prop} (hret : ∀ (v : Int32) (pc : Nat) (lv : List (Nat × Value)), zB v → Post v → decode cX9_in pc = .ok (.ireturn, 1) → zGG p l e R s m args below meth c Q g n1 n2 6 pc lv [.int v] σ) (h : wp_X9_in p0 p2 p4 σ Post) : zGG p l e R s m args below meth c Q g n1 n2 6 0 [(0, .long p0), (2, .long p2), (4, .long p4)] [] σ := by
  unfold wp_X9_in at h
  refine zr_lload_n C d_X9_in_0 rfl ?_
  refine zr_lload_n C d_X9_in_1 rfl ?_
  refine zr_lcmp C d_X9_in_2 ?_
  have hJ3 : ∀ z2 : Int32, z2 = (if (lg_cmp p0 p2) < (0) then (0 : Int32) else (if (0) < (lg_cmp p0 p4) then (0 : Int32) else (1 : Int32))) → zGG p l e R s m args below meth c Q g n1 n2 6 18 [(0, .long p0), (2, .long p2), (4, .long p4)] [.int z2] σ := by
    intro z2 hz2
    replace h := h z2 hz2
    exact hret _ _ _ h.1 h.2 d_X9_in_18
  refine zr_if_lt C 17 d_X9_in_3 (by decide) (fun hc1 => ?_) (fun hc1 => ?_)
  · skip
    refine zr_iconst C (0 : Int32) d_X9_in_17 (by decide) ?_
    exact hJ3 _ (by rw [if_pos hc1])
  · skip
    refine zr_lload_n C d_X9_in_6 rfl ?_
    refine zr_lload C d_X9_in_7 rfl ?_
    refine zr_lcmp C d_X9_in_9 ?_
    refine zr_if_gt C 17 d_X9_in_10 (by decide) (fun hc5 => ?_) (fun hc5 => ?_)
    · skip
      refine zr_iconst C (0 : Int32) d_X9_in_17 (by decide) ?_
      exact hJ3 _ (by rw [if_neg hc1, if_pos hc5])
    · skip
      refine zr_iconst C (1 : Int32) d_X9_in_13 (by decide) ?_
      refine zr_goto C 18 d_X9_in_14 (by decide) ?_
      exact hJ3 _ (by rw [if_neg hc1, if_neg hc5])
set_option maxRecDepth 20000 in
theorem c_X9_in (l : Launch) (g : zG) (p0 : Int64) (p2 : Int64) (p4 : Int64) (σ : zST) (Post : Int32 → Prop) (h : wp_X9_in p0 p2 p4 σ Post) : Met l yX9_in (Cond.code yX9_in cX9_in 6 (some .boolean) :: zGW) (zRm 0 0) (va_Pc [.long p0, .long p2, .long p4] (zPP g σ)) (va_Qi (fun r u => Post r ∧ u = σ) (zBB g) (zA g)) 0 0 (zA g) :=
  zMet (by decide) (Nat.le_of_ble_eq_true rfl) (fun p e s m below meth c hr C => g_X9_in C (fun v pc lv hz hp hd => zr_zret C hr hz ⟨hp, rfl⟩ hd) h)
def wp_X9_ones_L4 (σ : zST) (Post : Int32 → Prop) : Nat → Int32 → Int32 → Prop
  | 0, _, _ => False
  | N + 1, v1, v2 => (if v2 = (0) then Post v1 else ∀ x2 : Int32, x2 = (v2 &&& (v2 - (1 : Int32))) → wp_X9_ones_L4 σ Post N (v1 + 1) x2)

set_option maxRecDepth 100000 in
set_option maxHeartbeats 4000000 in
theorem g_X9_ones_L4 {p : Program} {l : Launch} {e : Env} {R : Room} {s : State} {m : MethodId} {args : Array Value} {below : List Frame} {meth : Method} {c : Code} {Q : State → Prop} {g : zG} {n1 n2 : Nat} (C : zCX p R s m args meth c g n1 n2 cX9_ones 3 RX9 0 0) {σ : zST}  {Post : Int32 → Prop} (hret : ∀ (v : Int32) (pc : Nat) (lv : List (Nat × Value)), Post v → decode cX9_ones pc = .ok (.ireturn, 1) → zGG p l e R s m args below meth c Q g n1 n2 3 pc lv [.int v] σ) : ∀ (N : Nat) (v1 : Int32) (v2 : Int32) , wp_X9_ones_L4 σ Post N v1 v2 → zGG p l e R s m args below meth c Q g n1 n2 3 4 [(1, .int v1), (2, .int v2)] [] σ := by
  intro N
  induction N with
  | zero =>
    intro v1 v2 h
    exact h.elim
  | succ N ih =>
    intro v1 v2 h
    rw [wp_X9_ones_L4] at h
    refine zr_iload_n C d_X9_ones_4 rfl ?_
    refine zr_if_eq C 20 d_X9_ones_5 (by decide) (fun hc1 => ?_) (fun hc1 => ?_)
    · rw [if_pos hc1] at h
      refine zr_iload_n C d_X9_ones_20 rfl ?_
      exact hret _ _ _ h d_X9_ones_21
    · rw [if_neg hc1] at h
      refine zr_iinc C (v1 + 1) [(1, .int (v1 + 1)), (2, .int v2)] d_X9_ones_8 rfl rfl (by decide) rfl ?_
      refine zr_iload_n C d_X9_ones_11 rfl ?_
      refine zr_iload_n C d_X9_ones_12 rfl ?_
      refine zr_iconst C (1 : Int32) d_X9_ones_13 (by decide) ?_
      refine zr_isub C d_X9_ones_14 ?_
      refine zr_iand C d_X9_ones_15 ?_
      refine zr_topi (fun x2 hx2 => ?_)
      replace h := h x2 hx2
      refine zr_istore_n C [(2, .int x2), (1, .int (v1 + 1))] d_X9_ones_16 (by decide) rfl ?_
      refine zr_goto C 4 d_X9_ones_17 (by decide) ?_
      exact zr_pick [1, 0] rfl (ih (v1 + 1) x2 h)

def wp_X9_ones (p0 : Int32) (σ : zST) (Post : Int32 → Prop) : Prop := ∃ M3 : Nat, wp_X9_ones_L4 σ Post M3 (0 : Int32) p0
set_option maxRecDepth 100000 in
set_option maxHeartbeats 4000000 in
theorem g_X9_ones {p : Program} {l : Launch} {e : Env} {R : Room} {s : State} {m : MethodId} {args : Array Value} {below : List Frame} {meth : Method} {c : Code} {Q : State → Prop} {g : zG} {n1 n2 : Nat} (C : zCX p R s m args meth c g n1 n2 cX9_ones 3 RX9 0 0) {p0 : Int32} {σ : zST} {Post : Int32 → Prop} (hret : ∀ (v : Int32) (pc : Nat) (lv : List (Nat × Value)), Post v → decode cX9_ones pc = .ok (.ireturn, 1) → zGG p l e R s m args below meth c Q g n1 n2 3 pc lv [.int v] σ) (h : wp_X9_ones p0 σ Post) : zGG p l e R s m args below meth c Q g n1 n2 3 0 [(0, .int p0)] [] σ := by
  unfold wp_X9_ones at h
  refine zr_iconst C (0 : Int32) d_X9_ones_0 (by decide) ?_
  refine zr_istore_n C [(1, .int (0 : Int32)), (0, .int p0)] d_X9_ones_1 (by decide) rfl ?_
  refine zr_iload_n C d_X9_ones_2 rfl ?_
  refine zr_istore_n C [(2, .int p0), (1, .int (0 : Int32)), (0, .int p0)] d_X9_ones_3 (by decide) rfl ?_
  obtain ⟨M3, h⟩ := h
  exact zr_pick [1, 0] rfl (g_X9_ones_L4 C hret M3 (0 : Int32) p0 h)
set_option maxRecDepth 20000 in
theorem c_X9_ones (l : Launch) (g : zG) (p0 : Int32) (σ : zST) (Post : Int32 → Prop) (h : wp_X9_ones p0 σ Post) : Met l yX9_ones (Cond.code yX9_ones cX9_ones 3 (some .int) :: zGW) (zRm 0 0) (va_Pc [.int p0] (zPP g σ)) (va_Qi (fun r u => Post r ∧ u = σ) (zBB g) (zA g)) 0 0 (zA g) :=
  zMet (by decide) (Nat.le_of_ble_eq_true rfl) (fun p e s m below meth c hr C => g_X9_ones C (fun v pc lv hp hd => zr_iret C hr ⟨hp, rfl⟩ hd) h)
def wp_X9_isNumber (p0 : Int32) (σ : zST) (Post : Int32 → Prop) : Prop := wp_X9_in (p0.toInt64) (0 : Int64) (5 : Int64) σ (fun r1 => zB r1 ∧ Post r1)
set_option maxRecDepth 100000 in
set_option maxHeartbeats 4000000 in
theorem g_X9_isNumber {p : Program} {l : Launch} {e : Env} {R : Room} {s : State} {m : MethodId} {args : Array Value} {below : List Frame} {meth : Method} {c : Code} {Q : State → Prop} {g : zG} {n1 n2 : Nat} (C : zCX p R s m args meth c g n1 n2 cX9_isNumber 1 RX9 1 25) {p0 : Int32} {σ : zST} {Post : Int32 → Prop} (hret : ∀ (v : Int32) (pc : Nat) (lv : List (Nat × Value)), zB v → Post v → decode cX9_isNumber pc = .ok (.ireturn, 1) → zGG p l e R s m args below meth c Q g n1 n2 1 pc lv [.int v] σ) (h : wp_X9_isNumber p0 σ Post) : zGG p l e R s m args below meth c Q g n1 n2 1 0 [(0, .int p0)] [] σ := by
  unfold wp_X9_isNumber at h
  refine zr_iload_n C d_X9_isNumber_0 rfl ?_
  refine zr_i2l C d_X9_isNumber_1 ?_
  refine zr_lconst C (0 : Int64) d_X9_isNumber_2 (by decide) ?_
  refine zr_ldc2 C (v := (5 : Int64)) cl_X9_87 d_X9_isNumber_3 ?_
  refine zr_cip (zr_runS (As := [.long (p0.toInt64), .long (0 : Int64), .long (5 : Int64)]) (rest := []) C sw_X9_89 (c_X9_in l g (p0.toInt64) (0 : Int64) (5 : Int64) σ _ h) (by decide) (by decide) rfl rfl (Nat.le_of_ble_eq_true rfl) d_X9_isNumber_6) (fun r1 h => ?_)
  exact hret _ _ _ h.1 h.2 d_X9_isNumber_9
set_option maxRecDepth 20000 in
theorem c_X9_isNumber (l : Launch) (g : zG) (p0 : Int32) (σ : zST) (Post : Int32 → Prop) (h : wp_X9_isNumber p0 σ Post) : Met l yX9_isNumber (Cond.code yX9_isNumber cX9_isNumber 1 (some .boolean) :: zGW) (zRm 1 25) (va_Pc [.int p0] (zPP g σ)) (va_Qi (fun r u => Post r ∧ u = σ) (zBB g) (zA g)) 0 0 (zA g) :=
  zMet (by decide) (Nat.le_of_ble_eq_true rfl) (fun p e s m below meth c hr C => g_X9_isNumber C (fun v pc lv hz hp hd => zr_zret C hr hz ⟨hp, rfl⟩ hd) h)
def wp_X9_isShip (p1 : Int32) (σ : zST) (Post : Int32 → Prop) : Prop := wp_X9_isNumber p1 σ (fun r1 => ∀ z4 : Int32, z4 = (if r1 = (0) then (0 : Int32) else (if (((σ.1 69 0) >>> (p1 &&& 31)) &&& (1 : Int32)) = (1 : Int32) then (1 : Int32) else (0 : Int32))) → zB z4 ∧ Post z4)
set_option maxRecDepth 100000 in
set_option maxHeartbeats 4000000 in
theorem g_X9_isShip {p : Program} {l : Launch} {e : Env} {R : Room} {s : State} {m : MethodId} {args : Array Value} {below : List Frame} {meth : Method} {c : Code} {Q : State → Prop} {g : zG} {n1 n2 : Nat} (C : zCX p R s m args meth c g n1 n2 cX9_isShip 2 RX9 2 45) {p1 : Int32} {σ : zST} {Post : Int32 → Prop} (hret : ∀ (v : Int32) (pc : Nat) (lv : List (Nat × Value)), zB v → Post v → decode cX9_isShip pc = .ok (.ireturn, 1) → zGG p l e R s m args below meth c Q g n1 n2 2 pc lv [.int v] σ) (h : wp_X9_isShip p1 σ Post) : zGG p l e R s m args below meth c Q g n1 n2 2 0 [(0, .ref (g.2.1 69)), (1, .int p1)] [] σ := by
  unfold wp_X9_isShip at h
  refine zr_iload_n C d_X9_isShip_0 rfl ?_
  refine zr_cip (zr_runS (As := [.int p1]) (rest := []) C sw_X9_93 (c_X9_isNumber l g p1 σ _ h) (by decide) (by decide) rfl rfl (Nat.le_of_ble_eq_true rfl) d_X9_isShip_1) (fun r1 h => ?_)
  have hJ5 : ∀ z4 : Int32, z4 = (if r1 = (0) then (0 : Int32) else (if (((σ.1 69 0) >>> (p1 &&& 31)) &&& (1 : Int32)) = (1 : Int32) then (1 : Int32) else (0 : Int32))) → zGG p l e R s m args below meth c Q g n1 n2 2 24 [(0, .ref (g.2.1 69)), (1, .int p1)] [.int z4] σ := by
    intro z4 hz4
    replace h := h z4 hz4
    exact hret _ _ _ h.1 h.2 d_X9_isShip_24
  refine zr_if_eq C 23 d_X9_isShip_4 (by decide) (fun hc3 => ?_) (fun hc3 => ?_)
  · skip
    refine zr_iconst C (0 : Int32) d_X9_isShip_23 (by decide) ?_
    exact hJ5 _ (by rw [if_pos hc3])
  · skip
    refine zr_aload_n C d_X9_isShip_7 rfl ?_
    refine zr_geti C fw_X9_97 (sh_69) rfl d_X9_isShip_8 ?_
    refine zr_iload_n C d_X9_isShip_11 rfl ?_
    refine zr_ishr C d_X9_isShip_12 ?_
    refine zr_iconst C (1 : Int32) d_X9_isShip_13 (by decide) ?_
    refine zr_iand C d_X9_isShip_14 ?_
    refine zr_iconst C (1 : Int32) d_X9_isShip_15 (by decide) ?_
    refine zr_icmp_ne C 23 d_X9_isShip_16 (by decide) (fun hc7 => ?_) (fun hc7 => ?_)
    · skip
      refine zr_iconst C (0 : Int32) d_X9_isShip_23 (by decide) ?_
      exact hJ5 _ (by rw [if_neg hc3, if_neg hc7])
    · skip
      refine zr_iconst C (1 : Int32) d_X9_isShip_19 (by decide) ?_
      refine zr_goto C 24 d_X9_isShip_20 (by decide) ?_
      exact hJ5 _ (by rw [if_neg hc3, if_pos hc7])
set_option maxRecDepth 20000 in
theorem c_X9_isShip (l : Launch) (g : zG) (p1 : Int32) (σ : zST) (Post : Int32 → Prop) (h : wp_X9_isShip p1 σ Post) : Met l yX9_isShip (Cond.code yX9_isShip cX9_isShip 2 (some .boolean) :: zGW) (zRm 2 45) (va_Pc [.ref (g.2.1 69), .int p1] (zPP g σ)) (va_Qi (fun r u => Post r ∧ u = σ) (zBB g) (zA g)) 0 0 (zA g) :=
  zMet (by decide) (Nat.le_of_ble_eq_true rfl) (fun p e s m below meth c hr C => g_X9_isShip C (fun v pc lv hz hp hd => zr_zret C hr hz ⟨hp, rfl⟩ hd) h)
def wp_X9_isHour (p0 : Int32) (σ : zST) (Post : Int32 → Prop) : Prop := wp_X9_in (p0.toInt64) (0 : Int64) (999 : Int64) σ (fun r1 => zB r1 ∧ Post r1)
set_option maxRecDepth 100000 in
set_option maxHeartbeats 4000000 in
theorem g_X9_isHour {p : Program} {l : Launch} {e : Env} {R : Room} {s : State} {m : MethodId} {args : Array Value} {below : List Frame} {meth : Method} {c : Code} {Q : State → Prop} {g : zG} {n1 n2 : Nat} (C : zCX p R s m args meth c g n1 n2 cX9_isHour 1 RX9 1 25) {p0 : Int32} {σ : zST} {Post : Int32 → Prop} (hret : ∀ (v : Int32) (pc : Nat) (lv : List (Nat × Value)), zB v → Post v → decode cX9_isHour pc = .ok (.ireturn, 1) → zGG p l e R s m args below meth c Q g n1 n2 1 pc lv [.int v] σ) (h : wp_X9_isHour p0 σ Post) : zGG p l e R s m args below meth c Q g n1 n2 1 0 [(0, .int p0)] [] σ := by
  unfold wp_X9_isHour at h
  refine zr_iload_n C d_X9_isHour_0 rfl ?_
  refine zr_i2l C d_X9_isHour_1 ?_
  refine zr_lconst C (0 : Int64) d_X9_isHour_2 (by decide) ?_
  refine zr_ldc2 C (v := (999 : Int64)) cl_X9_100 d_X9_isHour_3 ?_
  refine zr_cip (zr_runS (As := [.long (p0.toInt64), .long (0 : Int64), .long (999 : Int64)]) (rest := []) C sw_X9_89 (c_X9_in l g (p0.toInt64) (0 : Int64) (999 : Int64) σ _ h) (by decide) (by decide) rfl rfl (Nat.le_of_ble_eq_true rfl) d_X9_isHour_6) (fun r1 h => ?_)
  exact hret _ _ _ h.1 h.2 d_X9_isHour_9
set_option maxRecDepth 20000 in
theorem c_X9_isHour (l : Launch) (g : zG) (p0 : Int32) (σ : zST) (Post : Int32 → Prop) (h : wp_X9_isHour p0 σ Post) : Met l yX9_isHour (Cond.code yX9_isHour cX9_isHour 1 (some .boolean) :: zGW) (zRm 1 25) (va_Pc [.int p0] (zPP g σ)) (va_Qi (fun r u => Post r ∧ u = σ) (zBB g) (zA g)) 0 0 (zA g) :=
  zMet (by decide) (Nat.le_of_ble_eq_true rfl) (fun p e s m below meth c hr C => g_X9_isHour C (fun v pc lv hz hp hd => zr_zret C hr hz ⟨hp, rfl⟩ hd) h)
def wp_X9_isSide (p0 : Int32) (σ : zST) (Post : Int32 → Prop) : Prop := wp_X9_in (p0.toInt64) (0 : Int64) (2 : Int64) σ (fun r1 => zB r1 ∧ Post r1)
set_option maxRecDepth 100000 in
set_option maxHeartbeats 4000000 in
theorem g_X9_isSide {p : Program} {l : Launch} {e : Env} {R : Room} {s : State} {m : MethodId} {args : Array Value} {below : List Frame} {meth : Method} {c : Code} {Q : State → Prop} {g : zG} {n1 n2 : Nat} (C : zCX p R s m args meth c g n1 n2 cX9_isSide 1 RX9 1 25) {p0 : Int32} {σ : zST} {Post : Int32 → Prop} (hret : ∀ (v : Int32) (pc : Nat) (lv : List (Nat × Value)), zB v → Post v → decode cX9_isSide pc = .ok (.ireturn, 1) → zGG p l e R s m args below meth c Q g n1 n2 1 pc lv [.int v] σ) (h : wp_X9_isSide p0 σ Post) : zGG p l e R s m args below meth c Q g n1 n2 1 0 [(0, .int p0)] [] σ := by
  unfold wp_X9_isSide at h
  refine zr_iload_n C d_X9_isSide_0 rfl ?_
  refine zr_i2l C d_X9_isSide_1 ?_
  refine zr_lconst C (0 : Int64) d_X9_isSide_2 (by decide) ?_
  refine zr_ldc2 C (v := (2 : Int64)) cl_X9_102 d_X9_isSide_3 ?_
  refine zr_cip (zr_runS (As := [.long (p0.toInt64), .long (0 : Int64), .long (2 : Int64)]) (rest := []) C sw_X9_89 (c_X9_in l g (p0.toInt64) (0 : Int64) (2 : Int64) σ _ h) (by decide) (by decide) rfl rfl (Nat.le_of_ble_eq_true rfl) d_X9_isSide_6) (fun r1 h => ?_)
  exact hret _ _ _ h.1 h.2 d_X9_isSide_9
set_option maxRecDepth 20000 in
theorem c_X9_isSide (l : Launch) (g : zG) (p0 : Int32) (σ : zST) (Post : Int32 → Prop) (h : wp_X9_isSide p0 σ Post) : Met l yX9_isSide (Cond.code yX9_isSide cX9_isSide 1 (some .boolean) :: zGW) (zRm 1 25) (va_Pc [.int p0] (zPP g σ)) (va_Qi (fun r u => Post r ∧ u = σ) (zBB g) (zA g)) 0 0 (zA g) :=
  zMet (by decide) (Nat.le_of_ble_eq_true rfl) (fun p e s m below meth c hr C => g_X9_isSide C (fun v pc lv hz hp hd => zr_zret C hr hz ⟨hp, rfl⟩ hd) h)
def wp_X9_ship (p1 : Int32) (p2 : Int32) (p3 : Int32) (p4 : Int32) (σ : zST) (Post : Int32 → zST → Prop) : Prop := wp_X9_isNumber p1 σ (fun r1 => (if r1 = (0) then Post (-1 : Int32) σ else wp_X9_in (p2.toInt64) (1 : Int64) (30 : Int64) σ (fun r4 => (if r4 = (0) then Post (-2 : Int32) σ else wp_X9_in (p3.toInt64) (0 : Int64) (9 : Int64) σ (fun r7 => (if r7 = (0) then Post (-2 : Int32) σ else wp_X9_in (p4.toInt64) (0 : Int64) (999 : Int64) σ (fun r10 => (if r10 = (0) then Post (-2 : Int32) σ else vp_in p1 6 ∧ vp_in p1 6 ∧ vp_in p1 6 ∧ vp_in p1 6 ∧ ∀ σ17 : zST, σ17 = (wI (wI (wI (wI σ 70 p1.toNatClampNeg p2) 71 p1.toNatClampNeg p3) 72 p1.toNatClampNeg p4) 73 p1.toNatClampNeg (0 : Int32)) → ∀ σ18 : zST, σ18 = (wI σ17 69 0 ((σ17.1 69 0) ||| ((1 : Int32) <<< (p1 &&& 31)))) → wp_X9_ones (σ18.1 69 0) σ18 (fun r19 => Post r19 σ18)))))))))
set_option maxRecDepth 100000 in
set_option maxHeartbeats 4000000 in
theorem g_X9_ship {p : Program} {l : Launch} {e : Env} {R : Room} {s : State} {m : MethodId} {args : Array Value} {below : List Frame} {meth : Method} {c : Code} {Q : State → Prop} {g : zG} {n1 n2 : Nat} (C : zCX p R s m args meth c g n1 n2 cX9_ship 5 RX9 2 45) {p1 : Int32} {p2 : Int32} {p3 : Int32} {p4 : Int32} {σ : zST} {Post : Int32 → zST → Prop} (hret : ∀ (v : Int32) (σ : zST) (pc : Nat) (lv : List (Nat × Value)), Post v σ → decode cX9_ship pc = .ok (.ireturn, 1) → zGG p l e R s m args below meth c Q g n1 n2 5 pc lv [.int v] σ) (h : wp_X9_ship p1 p2 p3 p4 σ Post) : zGG p l e R s m args below meth c Q g n1 n2 5 0 [(0, .ref (g.2.1 69)), (1, .int p1), (2, .int p2), (3, .int p3), (4, .int p4)] [] σ := by
  unfold wp_X9_ship at h
  refine zr_iload_n C d_X9_ship_0 rfl ?_
  refine zr_cip (zr_runS (As := [.int p1]) (rest := []) C sw_X9_93 (c_X9_isNumber l g p1 σ _ h) (by decide) (by decide) rfl rfl (Nat.le_of_ble_eq_true rfl) d_X9_ship_1) (fun r1 h => ?_)
  refine zr_if_ne C 9 d_X9_ship_4 (by decide) (fun hc3 => ?_) (fun hc3 => ?_)
  · rw [if_neg hc3] at h
    refine zr_iload_n C d_X9_ship_9 rfl ?_
    refine zr_i2l C d_X9_ship_10 ?_
    refine zr_lconst C (1 : Int64) d_X9_ship_11 (by decide) ?_
    refine zr_ldc2 C (v := (30 : Int64)) cl_X9_104 d_X9_ship_12 ?_
    refine zr_cip (zr_runS (As := [.long (p2.toInt64), .long (1 : Int64), .long (30 : Int64)]) (rest := []) C sw_X9_89 (c_X9_in l g (p2.toInt64) (1 : Int64) (30 : Int64) σ _ h) (by decide) (by decide) rfl rfl (Nat.le_of_ble_eq_true rfl) d_X9_ship_15) (fun r4 h => ?_)
    refine zr_if_eq C 46 d_X9_ship_18 (by decide) (fun hc6 => ?_) (fun hc6 => ?_)
    · rw [if_pos hc6] at h
      refine zr_bipush C (-2 : Int32) d_X9_ship_46 (by decide) ?_
      exact hret _ _ _ _ h d_X9_ship_48
    · rw [if_neg hc6] at h
      refine zr_iload_n C d_X9_ship_21 rfl ?_
      refine zr_i2l C d_X9_ship_22 ?_
      refine zr_lconst C (0 : Int64) d_X9_ship_23 (by decide) ?_
      refine zr_ldc2 C (v := (9 : Int64)) cl_X9_106 d_X9_ship_24 ?_
      refine zr_cip (zr_runS (As := [.long (p3.toInt64), .long (0 : Int64), .long (9 : Int64)]) (rest := []) C sw_X9_89 (c_X9_in l g (p3.toInt64) (0 : Int64) (9 : Int64) σ _ h) (by decide) (by decide) rfl rfl (Nat.le_of_ble_eq_true rfl) d_X9_ship_27) (fun r7 h => ?_)
      refine zr_if_eq C 46 d_X9_ship_30 (by decide) (fun hc9 => ?_) (fun hc9 => ?_)
      · rw [if_pos hc9] at h
        refine zr_bipush C (-2 : Int32) d_X9_ship_46 (by decide) ?_
        exact hret _ _ _ _ h d_X9_ship_48
      · rw [if_neg hc9] at h
        refine zr_iload C d_X9_ship_33 rfl ?_
        refine zr_i2l C d_X9_ship_35 ?_
        refine zr_lconst C (0 : Int64) d_X9_ship_36 (by decide) ?_
        refine zr_ldc2 C (v := (999 : Int64)) cl_X9_100 d_X9_ship_37 ?_
        refine zr_cip (zr_runS (As := [.long (p4.toInt64), .long (0 : Int64), .long (999 : Int64)]) (rest := []) C sw_X9_89 (c_X9_in l g (p4.toInt64) (0 : Int64) (999 : Int64) σ _ h) (by decide) (by decide) rfl rfl (Nat.le_of_ble_eq_true rfl) d_X9_ship_40) (fun r10 h => ?_)
        refine zr_if_ne C 49 d_X9_ship_43 (by decide) (fun hc12 => ?_) (fun hc12 => ?_)
        · rw [if_neg hc12] at h
          refine zr_aload_n C d_X9_ship_49 rfl ?_
          refine zr_getr (u := 70) C fw_X9_7 (sh_69) rfl d_X9_ship_50 ?_
          refine zr_iload_n C d_X9_ship_53 rfl ?_
          refine zr_iload_n C d_X9_ship_54 rfl ?_
          obtain ⟨ho13, h⟩ := h
          refine zr_iast C (sh_70) ho13 d_X9_ship_55 ?_
          refine zr_aload_n C d_X9_ship_56 rfl ?_
          refine zr_getr (u := 71) C fw_X9_13 (sh_69) rfl d_X9_ship_57 ?_
          refine zr_iload_n C d_X9_ship_60 rfl ?_
          refine zr_iload_n C d_X9_ship_61 rfl ?_
          obtain ⟨ho14, h⟩ := h
          refine zr_iast C (sh_71) ho14 d_X9_ship_62 ?_
          refine zr_aload_n C d_X9_ship_63 rfl ?_
          refine zr_getr (u := 72) C fw_X9_16 (sh_69) rfl d_X9_ship_64 ?_
          refine zr_iload_n C d_X9_ship_67 rfl ?_
          refine zr_iload C d_X9_ship_68 rfl ?_
          obtain ⟨ho15, h⟩ := h
          refine zr_iast C (sh_72) ho15 d_X9_ship_70 ?_
          refine zr_aload_n C d_X9_ship_71 rfl ?_
          refine zr_getr (u := 73) C fw_X9_19 (sh_69) rfl d_X9_ship_72 ?_
          refine zr_iload_n C d_X9_ship_75 rfl ?_
          refine zr_iconst C (0 : Int32) d_X9_ship_76 (by decide) ?_
          obtain ⟨ho16, h⟩ := h
          refine zr_iast C (sh_73) ho16 d_X9_ship_77 ?_
          refine zr_aload_n C d_X9_ship_78 rfl ?_
          refine zr_dup C d_X9_ship_79 rfl ?_
          refine zr_tops (fun σ17 hσ17 => ?_)
          replace h := h σ17 hσ17
          refine zr_geti C fw_X9_97 (sh_69) rfl d_X9_ship_80 ?_
          refine zr_iconst C (1 : Int32) d_X9_ship_83 (by decide) ?_
          refine zr_iload_n C d_X9_ship_84 rfl ?_
          refine zr_ishl C d_X9_ship_85 ?_
          refine zr_ior C d_X9_ship_86 ?_
          refine zr_puti C fw_X9_97 pw_X9_0 (sh_69) rfl rfl rfl d_X9_ship_87 ?_
          refine zr_aload_n C d_X9_ship_90 rfl ?_
          refine zr_tops (fun σ18 hσ18 => ?_)
          replace h := h σ18 hσ18
          refine zr_geti C fw_X9_97 (sh_69) rfl d_X9_ship_91 ?_
          refine zr_cip (zr_runS (As := [.int (σ18.1 69 0)]) (rest := []) C sw_X9_108 (c_X9_ones l g (σ18.1 69 0) σ18 _ h) (by decide) (by decide) rfl rfl (Nat.le_of_ble_eq_true rfl) d_X9_ship_94) (fun r19 h => ?_)
          exact hret _ _ _ _ h d_X9_ship_97
        · rw [if_pos hc12] at h
          refine zr_bipush C (-2 : Int32) d_X9_ship_46 (by decide) ?_
          exact hret _ _ _ _ h d_X9_ship_48
  · rw [if_pos hc3] at h
    refine zr_iconst C (-1 : Int32) d_X9_ship_7 (by decide) ?_
    exact hret _ _ _ _ h d_X9_ship_8
set_option maxRecDepth 20000 in
theorem c_X9_ship (l : Launch) (g : zG) (p1 : Int32) (p2 : Int32) (p3 : Int32) (p4 : Int32) (σ : zST) (Post : Int32 → zST → Prop) (h : wp_X9_ship p1 p2 p3 p4 σ Post) : Met l yX9_ship (Cond.code yX9_ship cX9_ship 5 (some .int) :: zGW) (zRm 2 45) (va_Pc [.ref (g.2.1 69), .int p1, .int p2, .int p3, .int p4] (zPP g σ)) (va_Qi Post (zBB g) (zA g)) 0 0 (zA g) :=
  zMet (by decide) (Nat.le_of_ble_eq_true rfl) (fun p e s m below meth c hr C => g_X9_ship C (fun v σ pc lv hp hd => zr_iret C hr hp hd) h)
def wp_X9_scrap (p1 : Int32) (σ : zST) (Post : Int32 → zST → Prop) : Prop := wp_X9_isShip p1 σ (fun r1 => (if r1 = (0) then Post (-1 : Int32) σ else ∀ σ4 : zST, σ4 = (wI σ 69 0 ((σ.1 69 0) &&& (((1 : Int32) <<< (p1 &&& 31)) ^^^ (-1 : Int32)))) → wp_X9_ones (σ4.1 69 0) σ4 (fun r5 => Post r5 σ4)))
set_option maxRecDepth 100000 in
set_option maxHeartbeats 4000000 in
theorem g_X9_scrap {p : Program} {l : Launch} {e : Env} {R : Room} {s : State} {m : MethodId} {args : Array Value} {below : List Frame} {meth : Method} {c : Code} {Q : State → Prop} {g : zG} {n1 n2 : Nat} (C : zCX p R s m args meth c g n1 n2 cX9_scrap 2 RX9 3 66) {p1 : Int32} {σ : zST} {Post : Int32 → zST → Prop} (hret : ∀ (v : Int32) (σ : zST) (pc : Nat) (lv : List (Nat × Value)), Post v σ → decode cX9_scrap pc = .ok (.ireturn, 1) → zGG p l e R s m args below meth c Q g n1 n2 2 pc lv [.int v] σ) (h : wp_X9_scrap p1 σ Post) : zGG p l e R s m args below meth c Q g n1 n2 2 0 [(0, .ref (g.2.1 69)), (1, .int p1)] [] σ := by
  unfold wp_X9_scrap at h
  refine zr_aload_n C d_X9_scrap_0 rfl ?_
  refine zr_iload_n C d_X9_scrap_1 rfl ?_
  refine zr_cip (zr_runV (As := [.int p1]) (rest := []) C vw_X9_112 (c_X9_isShip l g p1 σ _ h) (sh_69) rfl (by decide) (by decide) rfl rfl (Nat.le_of_ble_eq_true rfl) d_X9_scrap_2) (fun r1 h => ?_)
  refine zr_if_ne C 10 d_X9_scrap_5 (by decide) (fun hc3 => ?_) (fun hc3 => ?_)
  · rw [if_neg hc3] at h
    refine zr_aload_n C d_X9_scrap_10 rfl ?_
    refine zr_dup C d_X9_scrap_11 rfl ?_
    refine zr_geti C fw_X9_97 (sh_69) rfl d_X9_scrap_12 ?_
    refine zr_iconst C (1 : Int32) d_X9_scrap_15 (by decide) ?_
    refine zr_iload_n C d_X9_scrap_16 rfl ?_
    refine zr_ishl C d_X9_scrap_17 ?_
    refine zr_iconst C (-1 : Int32) d_X9_scrap_18 (by decide) ?_
    refine zr_ixor C d_X9_scrap_19 ?_
    refine zr_iand C d_X9_scrap_20 ?_
    refine zr_puti C fw_X9_97 pw_X9_0 (sh_69) rfl rfl rfl d_X9_scrap_21 ?_
    refine zr_aload_n C d_X9_scrap_24 rfl ?_
    refine zr_tops (fun σ4 hσ4 => ?_)
    replace h := h σ4 hσ4
    refine zr_geti C fw_X9_97 (sh_69) rfl d_X9_scrap_25 ?_
    refine zr_cip (zr_runS (As := [.int (σ4.1 69 0)]) (rest := []) C sw_X9_108 (c_X9_ones l g (σ4.1 69 0) σ4 _ h) (by decide) (by decide) rfl rfl (Nat.le_of_ble_eq_true rfl) d_X9_scrap_28) (fun r5 h => ?_)
    exact hret _ _ _ _ h d_X9_scrap_31
  · rw [if_pos hc3] at h
    refine zr_iconst C (-1 : Int32) d_X9_scrap_8 (by decide) ?_
    exact hret _ _ _ _ h d_X9_scrap_9
set_option maxRecDepth 20000 in
theorem c_X9_scrap (l : Launch) (g : zG) (p1 : Int32) (σ : zST) (Post : Int32 → zST → Prop) (h : wp_X9_scrap p1 σ Post) : Met l yX9_scrap (Cond.code yX9_scrap cX9_scrap 2 (some .int) :: zGW) (zRm 3 66) (va_Pc [.ref (g.2.1 69), .int p1] (zPP g σ)) (va_Qi Post (zBB g) (zA g)) 0 0 (zA g) :=
  zMet (by decide) (Nat.le_of_ble_eq_true rfl) (fun p e s m below meth c hr C => g_X9_scrap C (fun v σ pc lv hp hd => zr_iret C hr hp hd) h)
def wp_X9_greatest (p0 : Int32) (σ : zST) (Post : Int32 → Prop) : Prop := ∀ z2 : Int32, z2 = (if p0 = (0) then (9 : Int32) else (if p0 = (2 : Int32) then (20 : Int32) else (if p0 = (3 : Int32) then (60 : Int32) else (if p0 = (7 : Int32) then (9999 : Int32) else (99 : Int32))))) → Post z2
set_option maxRecDepth 100000 in
set_option maxHeartbeats 4000000 in
theorem g_X9_greatest {p : Program} {l : Launch} {e : Env} {R : Room} {s : State} {m : MethodId} {args : Array Value} {below : List Frame} {meth : Method} {c : Code} {Q : State → Prop} {g : zG} {n1 n2 : Nat} (C : zCX p R s m args meth c g n1 n2 cX9_greatest 1 RX9 0 0) {p0 : Int32} {σ : zST} {Post : Int32 → Prop} (hret : ∀ (v : Int32) (pc : Nat) (lv : List (Nat × Value)), Post v → decode cX9_greatest pc = .ok (.ireturn, 1) → zGG p l e R s m args below meth c Q g n1 n2 1 pc lv [.int v] σ) (h : wp_X9_greatest p0 σ Post) : zGG p l e R s m args below meth c Q g n1 n2 1 0 [(0, .int p0)] [] σ := by
  unfold wp_X9_greatest at h
  refine zr_iload_n C d_X9_greatest_0 rfl ?_
  have hJ3 : ∀ z2 : Int32, z2 = (if p0 = (0) then (9 : Int32) else (if p0 = (2 : Int32) then (20 : Int32) else (if p0 = (3 : Int32) then (60 : Int32) else (if p0 = (7 : Int32) then (9999 : Int32) else (99 : Int32))))) → zGG p l e R s m args below meth c Q g n1 n2 1 43 [(0, .int p0)] [.int z2] σ := by
    intro z2 hz2
    replace h := h z2 hz2
    exact hret _ _ _ h d_X9_greatest_43
  refine zr_if_ne C 9 d_X9_greatest_1 (by decide) (fun hc1 => ?_) (fun hc1 => ?_)
  · skip
    refine zr_iload_n C d_X9_greatest_9 rfl ?_
    refine zr_iconst C (2 : Int32) d_X9_greatest_10 (by decide) ?_
    refine zr_icmp_ne C 19 d_X9_greatest_11 (by decide) (fun hc5 => ?_) (fun hc5 => ?_)
    · skip
      refine zr_iload_n C d_X9_greatest_19 rfl ?_
      refine zr_iconst C (3 : Int32) d_X9_greatest_20 (by decide) ?_
      refine zr_icmp_ne C 29 d_X9_greatest_21 (by decide) (fun hc6 => ?_) (fun hc6 => ?_)
      · skip
        refine zr_iload_n C d_X9_greatest_29 rfl ?_
        refine zr_bipush C (7 : Int32) d_X9_greatest_30 (by decide) ?_
        refine zr_icmp_ne C 41 d_X9_greatest_32 (by decide) (fun hc7 => ?_) (fun hc7 => ?_)
        · skip
          refine zr_bipush C (99 : Int32) d_X9_greatest_41 (by decide) ?_
          exact hJ3 _ (by rw [if_neg hc1, if_neg hc5, if_neg hc6, if_neg hc7])
        · skip
          refine zr_sipush C (9999 : Int32) d_X9_greatest_35 (by decide) ?_
          refine zr_goto C 43 d_X9_greatest_38 (by decide) ?_
          exact hJ3 _ (by rw [if_neg hc1, if_neg hc5, if_neg hc6, if_pos hc7])
      · skip
        refine zr_bipush C (60 : Int32) d_X9_greatest_24 (by decide) ?_
        refine zr_goto C 43 d_X9_greatest_26 (by decide) ?_
        exact hJ3 _ (by rw [if_neg hc1, if_neg hc5, if_pos hc6])
    · skip
      refine zr_bipush C (20 : Int32) d_X9_greatest_14 (by decide) ?_
      refine zr_goto C 43 d_X9_greatest_16 (by decide) ?_
      exact hJ3 _ (by rw [if_neg hc1, if_pos hc5])
  · skip
    refine zr_bipush C (9 : Int32) d_X9_greatest_4 (by decide) ?_
    refine zr_goto C 43 d_X9_greatest_6 (by decide) ?_
    exact hJ3 _ (by rw [if_pos hc1])
set_option maxRecDepth 20000 in
theorem c_X9_greatest (l : Launch) (g : zG) (p0 : Int32) (σ : zST) (Post : Int32 → Prop) (h : wp_X9_greatest p0 σ Post) : Met l yX9_greatest (Cond.code yX9_greatest cX9_greatest 1 (some .int) :: zGW) (zRm 0 0) (va_Pc [.int p0] (zPP g σ)) (va_Qi (fun r u => Post r ∧ u = σ) (zBB g) (zA g)) 0 0 (zA g) :=
  zMet (by decide) (Nat.le_of_ble_eq_true rfl) (fun p e s m below meth c hr C => g_X9_greatest C (fun v pc lv hp hd => zr_iret C hr ⟨hp, rfl⟩ hd) h)
def wp_X9_toldSet (p1 : Int32) (σ : zST) (Post : Int32 → Prop) : Prop := (if p1 = 0 then Post (σ.1 69 5) else (if p1 = 1 then Post (σ.1 69 6) else (if p1 = 2 then Post (σ.1 69 7) else (if p1 = 3 then Post (σ.1 69 8) else (if p1 = 4 then Post (σ.1 69 9) else (if p1 = 5 then Post (σ.1 69 10) else (if p1 = 6 then Post (σ.1 69 11) else Post (σ.1 69 12))))))))
set_option maxRecDepth 100000 in
set_option maxHeartbeats 4000000 in
theorem g_X9_toldSet {p : Program} {l : Launch} {e : Env} {R : Room} {s : State} {m : MethodId} {args : Array Value} {below : List Frame} {meth : Method} {c : Code} {Q : State → Prop} {g : zG} {n1 n2 : Nat} (C : zCX p R s m args meth c g n1 n2 cX9_toldSet 2 RX9 0 0) {p1 : Int32} {σ : zST} {Post : Int32 → Prop} (hret : ∀ (v : Int32) (pc : Nat) (lv : List (Nat × Value)), Post v → decode cX9_toldSet pc = .ok (.ireturn, 1) → zGG p l e R s m args below meth c Q g n1 n2 2 pc lv [.int v] σ) (h : wp_X9_toldSet p1 σ Post) : zGG p l e R s m args below meth c Q g n1 n2 2 0 [(0, .ref (g.2.1 69)), (1, .int p1)] [] σ := by
  unfold wp_X9_toldSet at h
  refine zr_iload_n C d_X9_toldSet_0 rfl ?_
  by_cases hc1 : p1 = 0
  · rw [if_pos hc1] at h
    refine zr_tabIn C (off := 43) 44 d_X9_toldSet_1 (by rw [hc1]; decide) (by rw [hc1]; decide) (by rw [hc1]; rfl) (by decide) ?_
    refine zr_aload_n C d_X9_toldSet_44 rfl ?_
    refine zr_geti C fw_X9_62 (sh_69) rfl d_X9_toldSet_45 ?_
    exact hret _ _ _ h d_X9_toldSet_48
  rw [if_neg hc1] at h
  by_cases hc2 : p1 = 1
  · rw [if_pos hc2] at h
    refine zr_tabIn C (off := 48) 49 d_X9_toldSet_1 (by rw [hc2]; decide) (by rw [hc2]; decide) (by rw [hc2]; rfl) (by decide) ?_
    refine zr_aload_n C d_X9_toldSet_49 rfl ?_
    refine zr_geti C fw_X9_66 (sh_69) rfl d_X9_toldSet_50 ?_
    exact hret _ _ _ h d_X9_toldSet_53
  rw [if_neg hc2] at h
  by_cases hc3 : p1 = 2
  · rw [if_pos hc3] at h
    refine zr_tabIn C (off := 53) 54 d_X9_toldSet_1 (by rw [hc3]; decide) (by rw [hc3]; decide) (by rw [hc3]; rfl) (by decide) ?_
    refine zr_aload_n C d_X9_toldSet_54 rfl ?_
    refine zr_geti C fw_X9_69 (sh_69) rfl d_X9_toldSet_55 ?_
    exact hret _ _ _ h d_X9_toldSet_58
  rw [if_neg hc3] at h
  by_cases hc4 : p1 = 3
  · rw [if_pos hc4] at h
    refine zr_tabIn C (off := 58) 59 d_X9_toldSet_1 (by rw [hc4]; decide) (by rw [hc4]; decide) (by rw [hc4]; rfl) (by decide) ?_
    refine zr_aload_n C d_X9_toldSet_59 rfl ?_
    refine zr_geti C fw_X9_72 (sh_69) rfl d_X9_toldSet_60 ?_
    exact hret _ _ _ h d_X9_toldSet_63
  rw [if_neg hc4] at h
  by_cases hc5 : p1 = 4
  · rw [if_pos hc5] at h
    refine zr_tabIn C (off := 63) 64 d_X9_toldSet_1 (by rw [hc5]; decide) (by rw [hc5]; decide) (by rw [hc5]; rfl) (by decide) ?_
    refine zr_aload_n C d_X9_toldSet_64 rfl ?_
    refine zr_geti C fw_X9_75 (sh_69) rfl d_X9_toldSet_65 ?_
    exact hret _ _ _ h d_X9_toldSet_68
  rw [if_neg hc5] at h
  by_cases hc6 : p1 = 5
  · rw [if_pos hc6] at h
    refine zr_tabIn C (off := 68) 69 d_X9_toldSet_1 (by rw [hc6]; decide) (by rw [hc6]; decide) (by rw [hc6]; rfl) (by decide) ?_
    refine zr_aload_n C d_X9_toldSet_69 rfl ?_
    refine zr_geti C fw_X9_78 (sh_69) rfl d_X9_toldSet_70 ?_
    exact hret _ _ _ h d_X9_toldSet_73
  rw [if_neg hc6] at h
  by_cases hc7 : p1 = 6
  · rw [if_pos hc7] at h
    refine zr_tabIn C (off := 73) 74 d_X9_toldSet_1 (by rw [hc7]; decide) (by rw [hc7]; decide) (by rw [hc7]; rfl) (by decide) ?_
    refine zr_aload_n C d_X9_toldSet_74 rfl ?_
    refine zr_geti C fw_X9_115 (sh_69) rfl d_X9_toldSet_75 ?_
    exact hret _ _ _ h d_X9_toldSet_78
  rw [if_neg hc7] at h
  have ehc1 := lv_neT hc1 (show (0 : Int32).toInt = 0 by decide)
  have ehc2 := lv_neT hc2 (show (1 : Int32).toInt = 1 by decide)
  have ehc3 := lv_neT hc3 (show (2 : Int32).toInt = 2 by decide)
  have ehc4 := lv_neT hc4 (show (3 : Int32).toInt = 3 by decide)
  have ehc5 := lv_neT hc5 (show (4 : Int32).toInt = 4 by decide)
  have ehc6 := lv_neT hc6 (show (5 : Int32).toInt = 5 by decide)
  have ehc7 := lv_neT hc7 (show (6 : Int32).toInt = 6 by decide)
  refine zr_tabOut C 79 d_X9_toldSet_1 (by omega) (by decide) ?_
  refine zr_aload_n C d_X9_toldSet_79 rfl ?_
  refine zr_geti C fw_X9_81 (sh_69) rfl d_X9_toldSet_80 ?_
  exact hret _ _ _ h d_X9_toldSet_83
set_option maxRecDepth 20000 in
theorem c_X9_toldSet (l : Launch) (g : zG) (p1 : Int32) (σ : zST) (Post : Int32 → Prop) (h : wp_X9_toldSet p1 σ Post) : Met l yX9_toldSet (Cond.code yX9_toldSet cX9_toldSet 2 (some .int) :: zGW) (zRm 0 0) (va_Pc [.ref (g.2.1 69), .int p1] (zPP g σ)) (va_Qi (fun r u => Post r ∧ u = σ) (zBB g) (zA g)) 0 0 (zA g) :=
  zMet (by decide) (Nat.le_of_ble_eq_true rfl) (fun p e s m below meth c hr C => g_X9_toldSet C (fun v pc lv hp hd => zr_iret C hr ⟨hp, rfl⟩ hd) h)
def wp_X9_set_J159 (v1 : Int32) (v2 : Int32) (v3 : Int32) (s0 : Int32) (σ : zST) (Post : Int32 → zST → Prop) : Prop := (if v1 = (7 : Int32) then Post v3 (wI (wI σ 69 11 s0) 69 12 v2) else ∀ σ32 : zST, σ32 = (wI σ 69 11 s0) → Post v3 (wI σ32 69 12 (σ32.1 69 12)))

set_option maxRecDepth 100000 in
set_option maxHeartbeats 4000000 in
theorem g_X9_set_J159 {p : Program} {l : Launch} {e : Env} {R : Room} {s : State} {m : MethodId} {args : Array Value} {below : List Frame} {meth : Method} {c : Code} {Q : State → Prop} {g : zG} {n1 n2 : Nat} (C : zCX p R s m args meth c g n1 n2 cX9_set 4 RX9 1 25) {v1 : Int32} {v2 : Int32} {v3 : Int32} {s0 : Int32} {σ : zST}  {Post : Int32 → zST → Prop} (hret : ∀ (v : Int32) (σ : zST) (pc : Nat) (lv : List (Nat × Value)), Post v σ → decode cX9_set pc = .ok (.ireturn, 1) → zGG p l e R s m args below meth c Q g n1 n2 4 pc lv [.int v] σ) (h : wp_X9_set_J159 v1 v2 v3 s0 σ Post) : zGG p l e R s m args below meth c Q g n1 n2 4 159 [(0, .ref (g.2.1 69)), (1, .int v1), (2, .int v2), (3, .int v3)] [.int s0, .ref (g.2.1 69)] σ := by
  unfold wp_X9_set_J159 at h
  refine zr_puti C fw_X9_115 pw_X9_11 (sh_69) rfl rfl rfl d_X9_set_159 ?_
  refine zr_aload_n C d_X9_set_162 rfl ?_
  refine zr_iload_n C d_X9_set_163 rfl ?_
  refine zr_bipush C (7 : Int32) d_X9_set_164 (by decide) ?_
  refine zr_icmp_ne C 173 d_X9_set_166 (by decide) (fun hc31 => ?_) (fun hc31 => ?_)
  · rw [if_neg hc31] at h
    refine zr_aload_n C d_X9_set_173 rfl ?_
    refine zr_tops (fun σ32 hσ32 => ?_)
    replace h := h σ32 hσ32
    refine zr_geti C fw_X9_81 (sh_69) rfl d_X9_set_174 ?_
    refine zr_puti C fw_X9_81 pw_X9_12 (sh_69) rfl rfl rfl d_X9_set_177 ?_
    refine zr_iload_n C d_X9_set_180 rfl ?_
    exact hret _ _ _ _ h d_X9_set_181
  · rw [if_pos hc31] at h
    refine zr_iload_n C d_X9_set_169 rfl ?_
    refine zr_goto C 177 d_X9_set_170 (by decide) ?_
    refine zr_puti C fw_X9_81 pw_X9_12 (sh_69) rfl rfl rfl d_X9_set_177 ?_
    refine zr_iload_n C d_X9_set_180 rfl ?_
    exact hret _ _ _ _ h d_X9_set_181

def wp_X9_set_J141 (v1 : Int32) (v2 : Int32) (v3 : Int32) (s0 : Int32) (σ : zST) (Post : Int32 → zST → Prop) : Prop := (if v1 = (6 : Int32) then wp_X9_set_J159 v1 v2 v3 v2 (wI σ 69 10 s0) Post else ∀ σ30 : zST, σ30 = (wI σ 69 10 s0) → wp_X9_set_J159 v1 v2 v3 (σ30.1 69 11) σ30 Post)

set_option maxRecDepth 100000 in
set_option maxHeartbeats 4000000 in
theorem g_X9_set_J141 {p : Program} {l : Launch} {e : Env} {R : Room} {s : State} {m : MethodId} {args : Array Value} {below : List Frame} {meth : Method} {c : Code} {Q : State → Prop} {g : zG} {n1 n2 : Nat} (C : zCX p R s m args meth c g n1 n2 cX9_set 4 RX9 1 25) {v1 : Int32} {v2 : Int32} {v3 : Int32} {s0 : Int32} {σ : zST}  {Post : Int32 → zST → Prop} (hret : ∀ (v : Int32) (σ : zST) (pc : Nat) (lv : List (Nat × Value)), Post v σ → decode cX9_set pc = .ok (.ireturn, 1) → zGG p l e R s m args below meth c Q g n1 n2 4 pc lv [.int v] σ) (h : wp_X9_set_J141 v1 v2 v3 s0 σ Post) : zGG p l e R s m args below meth c Q g n1 n2 4 141 [(0, .ref (g.2.1 69)), (1, .int v1), (2, .int v2), (3, .int v3)] [.int s0, .ref (g.2.1 69)] σ := by
  unfold wp_X9_set_J141 at h
  refine zr_puti C fw_X9_78 pw_X9_10 (sh_69) rfl rfl rfl d_X9_set_141 ?_
  refine zr_aload_n C d_X9_set_144 rfl ?_
  refine zr_iload_n C d_X9_set_145 rfl ?_
  refine zr_bipush C (6 : Int32) d_X9_set_146 (by decide) ?_
  refine zr_icmp_ne C 155 d_X9_set_148 (by decide) (fun hc29 => ?_) (fun hc29 => ?_)
  · rw [if_neg hc29] at h
    refine zr_aload_n C d_X9_set_155 rfl ?_
    refine zr_tops (fun σ30 hσ30 => ?_)
    replace h := h σ30 hσ30
    refine zr_geti C fw_X9_115 (sh_69) rfl d_X9_set_156 ?_
    exact zr_pick [0, 1, 2, 3] rfl (g_X9_set_J159 C hret h)
  · rw [if_pos hc29] at h
    refine zr_iload_n C d_X9_set_151 rfl ?_
    refine zr_goto C 159 d_X9_set_152 (by decide) ?_
    exact zr_pick [0, 1, 2, 3] rfl (g_X9_set_J159 C hret h)

def wp_X9_set_J124 (v1 : Int32) (v2 : Int32) (v3 : Int32) (s0 : Int32) (σ : zST) (Post : Int32 → zST → Prop) : Prop := (if v1 = (5 : Int32) then wp_X9_set_J141 v1 v2 v3 v2 (wI σ 69 9 s0) Post else ∀ σ28 : zST, σ28 = (wI σ 69 9 s0) → wp_X9_set_J141 v1 v2 v3 (σ28.1 69 10) σ28 Post)

set_option maxRecDepth 100000 in
set_option maxHeartbeats 4000000 in
theorem g_X9_set_J124 {p : Program} {l : Launch} {e : Env} {R : Room} {s : State} {m : MethodId} {args : Array Value} {below : List Frame} {meth : Method} {c : Code} {Q : State → Prop} {g : zG} {n1 n2 : Nat} (C : zCX p R s m args meth c g n1 n2 cX9_set 4 RX9 1 25) {v1 : Int32} {v2 : Int32} {v3 : Int32} {s0 : Int32} {σ : zST}  {Post : Int32 → zST → Prop} (hret : ∀ (v : Int32) (σ : zST) (pc : Nat) (lv : List (Nat × Value)), Post v σ → decode cX9_set pc = .ok (.ireturn, 1) → zGG p l e R s m args below meth c Q g n1 n2 4 pc lv [.int v] σ) (h : wp_X9_set_J124 v1 v2 v3 s0 σ Post) : zGG p l e R s m args below meth c Q g n1 n2 4 124 [(0, .ref (g.2.1 69)), (1, .int v1), (2, .int v2), (3, .int v3)] [.int s0, .ref (g.2.1 69)] σ := by
  unfold wp_X9_set_J124 at h
  refine zr_puti C fw_X9_75 pw_X9_9 (sh_69) rfl rfl rfl d_X9_set_124 ?_
  refine zr_aload_n C d_X9_set_127 rfl ?_
  refine zr_iload_n C d_X9_set_128 rfl ?_
  refine zr_iconst C (5 : Int32) d_X9_set_129 (by decide) ?_
  refine zr_icmp_ne C 137 d_X9_set_130 (by decide) (fun hc27 => ?_) (fun hc27 => ?_)
  · rw [if_neg hc27] at h
    refine zr_aload_n C d_X9_set_137 rfl ?_
    refine zr_tops (fun σ28 hσ28 => ?_)
    replace h := h σ28 hσ28
    refine zr_geti C fw_X9_78 (sh_69) rfl d_X9_set_138 ?_
    exact zr_pick [0, 1, 2, 3] rfl (g_X9_set_J141 C hret h)
  · rw [if_pos hc27] at h
    refine zr_iload_n C d_X9_set_133 rfl ?_
    refine zr_goto C 141 d_X9_set_134 (by decide) ?_
    exact zr_pick [0, 1, 2, 3] rfl (g_X9_set_J141 C hret h)

def wp_X9_set_J107 (v1 : Int32) (v2 : Int32) (v3 : Int32) (s0 : Int32) (σ : zST) (Post : Int32 → zST → Prop) : Prop := (if v1 = (4 : Int32) then wp_X9_set_J124 v1 v2 v3 v2 (wI σ 69 8 s0) Post else ∀ σ26 : zST, σ26 = (wI σ 69 8 s0) → wp_X9_set_J124 v1 v2 v3 (σ26.1 69 9) σ26 Post)

set_option maxRecDepth 100000 in
set_option maxHeartbeats 4000000 in
theorem g_X9_set_J107 {p : Program} {l : Launch} {e : Env} {R : Room} {s : State} {m : MethodId} {args : Array Value} {below : List Frame} {meth : Method} {c : Code} {Q : State → Prop} {g : zG} {n1 n2 : Nat} (C : zCX p R s m args meth c g n1 n2 cX9_set 4 RX9 1 25) {v1 : Int32} {v2 : Int32} {v3 : Int32} {s0 : Int32} {σ : zST}  {Post : Int32 → zST → Prop} (hret : ∀ (v : Int32) (σ : zST) (pc : Nat) (lv : List (Nat × Value)), Post v σ → decode cX9_set pc = .ok (.ireturn, 1) → zGG p l e R s m args below meth c Q g n1 n2 4 pc lv [.int v] σ) (h : wp_X9_set_J107 v1 v2 v3 s0 σ Post) : zGG p l e R s m args below meth c Q g n1 n2 4 107 [(0, .ref (g.2.1 69)), (1, .int v1), (2, .int v2), (3, .int v3)] [.int s0, .ref (g.2.1 69)] σ := by
  unfold wp_X9_set_J107 at h
  refine zr_puti C fw_X9_72 pw_X9_8 (sh_69) rfl rfl rfl d_X9_set_107 ?_
  refine zr_aload_n C d_X9_set_110 rfl ?_
  refine zr_iload_n C d_X9_set_111 rfl ?_
  refine zr_iconst C (4 : Int32) d_X9_set_112 (by decide) ?_
  refine zr_icmp_ne C 120 d_X9_set_113 (by decide) (fun hc25 => ?_) (fun hc25 => ?_)
  · rw [if_neg hc25] at h
    refine zr_aload_n C d_X9_set_120 rfl ?_
    refine zr_tops (fun σ26 hσ26 => ?_)
    replace h := h σ26 hσ26
    refine zr_geti C fw_X9_75 (sh_69) rfl d_X9_set_121 ?_
    exact zr_pick [0, 1, 2, 3] rfl (g_X9_set_J124 C hret h)
  · rw [if_pos hc25] at h
    refine zr_iload_n C d_X9_set_116 rfl ?_
    refine zr_goto C 124 d_X9_set_117 (by decide) ?_
    exact zr_pick [0, 1, 2, 3] rfl (g_X9_set_J124 C hret h)

def wp_X9_set_J90 (v1 : Int32) (v2 : Int32) (v3 : Int32) (s0 : Int32) (σ : zST) (Post : Int32 → zST → Prop) : Prop := (if v1 = (3 : Int32) then wp_X9_set_J107 v1 v2 v3 v2 (wI σ 69 7 s0) Post else ∀ σ24 : zST, σ24 = (wI σ 69 7 s0) → wp_X9_set_J107 v1 v2 v3 (σ24.1 69 8) σ24 Post)

set_option maxRecDepth 100000 in
set_option maxHeartbeats 4000000 in
theorem g_X9_set_J90 {p : Program} {l : Launch} {e : Env} {R : Room} {s : State} {m : MethodId} {args : Array Value} {below : List Frame} {meth : Method} {c : Code} {Q : State → Prop} {g : zG} {n1 n2 : Nat} (C : zCX p R s m args meth c g n1 n2 cX9_set 4 RX9 1 25) {v1 : Int32} {v2 : Int32} {v3 : Int32} {s0 : Int32} {σ : zST}  {Post : Int32 → zST → Prop} (hret : ∀ (v : Int32) (σ : zST) (pc : Nat) (lv : List (Nat × Value)), Post v σ → decode cX9_set pc = .ok (.ireturn, 1) → zGG p l e R s m args below meth c Q g n1 n2 4 pc lv [.int v] σ) (h : wp_X9_set_J90 v1 v2 v3 s0 σ Post) : zGG p l e R s m args below meth c Q g n1 n2 4 90 [(0, .ref (g.2.1 69)), (1, .int v1), (2, .int v2), (3, .int v3)] [.int s0, .ref (g.2.1 69)] σ := by
  unfold wp_X9_set_J90 at h
  refine zr_puti C fw_X9_69 pw_X9_7 (sh_69) rfl rfl rfl d_X9_set_90 ?_
  refine zr_aload_n C d_X9_set_93 rfl ?_
  refine zr_iload_n C d_X9_set_94 rfl ?_
  refine zr_iconst C (3 : Int32) d_X9_set_95 (by decide) ?_
  refine zr_icmp_ne C 103 d_X9_set_96 (by decide) (fun hc23 => ?_) (fun hc23 => ?_)
  · rw [if_neg hc23] at h
    refine zr_aload_n C d_X9_set_103 rfl ?_
    refine zr_tops (fun σ24 hσ24 => ?_)
    replace h := h σ24 hσ24
    refine zr_geti C fw_X9_72 (sh_69) rfl d_X9_set_104 ?_
    exact zr_pick [0, 1, 2, 3] rfl (g_X9_set_J107 C hret h)
  · rw [if_pos hc23] at h
    refine zr_iload_n C d_X9_set_99 rfl ?_
    refine zr_goto C 107 d_X9_set_100 (by decide) ?_
    exact zr_pick [0, 1, 2, 3] rfl (g_X9_set_J107 C hret h)

def wp_X9_set_J73 (v1 : Int32) (v2 : Int32) (v3 : Int32) (s0 : Int32) (σ : zST) (Post : Int32 → zST → Prop) : Prop := (if v1 = (2 : Int32) then wp_X9_set_J90 v1 v2 v3 v2 (wI σ 69 6 s0) Post else ∀ σ22 : zST, σ22 = (wI σ 69 6 s0) → wp_X9_set_J90 v1 v2 v3 (σ22.1 69 7) σ22 Post)

set_option maxRecDepth 100000 in
set_option maxHeartbeats 4000000 in
theorem g_X9_set_J73 {p : Program} {l : Launch} {e : Env} {R : Room} {s : State} {m : MethodId} {args : Array Value} {below : List Frame} {meth : Method} {c : Code} {Q : State → Prop} {g : zG} {n1 n2 : Nat} (C : zCX p R s m args meth c g n1 n2 cX9_set 4 RX9 1 25) {v1 : Int32} {v2 : Int32} {v3 : Int32} {s0 : Int32} {σ : zST}  {Post : Int32 → zST → Prop} (hret : ∀ (v : Int32) (σ : zST) (pc : Nat) (lv : List (Nat × Value)), Post v σ → decode cX9_set pc = .ok (.ireturn, 1) → zGG p l e R s m args below meth c Q g n1 n2 4 pc lv [.int v] σ) (h : wp_X9_set_J73 v1 v2 v3 s0 σ Post) : zGG p l e R s m args below meth c Q g n1 n2 4 73 [(0, .ref (g.2.1 69)), (1, .int v1), (2, .int v2), (3, .int v3)] [.int s0, .ref (g.2.1 69)] σ := by
  unfold wp_X9_set_J73 at h
  refine zr_puti C fw_X9_66 pw_X9_6 (sh_69) rfl rfl rfl d_X9_set_73 ?_
  refine zr_aload_n C d_X9_set_76 rfl ?_
  refine zr_iload_n C d_X9_set_77 rfl ?_
  refine zr_iconst C (2 : Int32) d_X9_set_78 (by decide) ?_
  refine zr_icmp_ne C 86 d_X9_set_79 (by decide) (fun hc21 => ?_) (fun hc21 => ?_)
  · rw [if_neg hc21] at h
    refine zr_aload_n C d_X9_set_86 rfl ?_
    refine zr_tops (fun σ22 hσ22 => ?_)
    replace h := h σ22 hσ22
    refine zr_geti C fw_X9_69 (sh_69) rfl d_X9_set_87 ?_
    exact zr_pick [0, 1, 2, 3] rfl (g_X9_set_J90 C hret h)
  · rw [if_pos hc21] at h
    refine zr_iload_n C d_X9_set_82 rfl ?_
    refine zr_goto C 90 d_X9_set_83 (by decide) ?_
    exact zr_pick [0, 1, 2, 3] rfl (g_X9_set_J90 C hret h)

def wp_X9_set (p1 : Int32) (p2 : Int32) (σ : zST) (Post : Int32 → zST → Prop) : Prop := wp_X9_in (p1.toInt64) (0 : Int64) (7 : Int64) σ (fun r1 => (if r1 = (0) then Post (-2 : Int32) σ else ∀ z5 : Int64, z5 = (if p1 = (0) then (1 : Int64) else (0 : Int64)) → wp_X9_greatest p1 σ (fun r8 => wp_X9_in (p2.toInt64) z5 (r8.toInt64) σ (fun r10 => (if r10 = (0) then Post (-2 : Int32) σ else wp_X9_toldSet p1 σ (fun r13 => ∀ z16 : Int32, z16 = (if p1 = (0) then p2 else (σ.1 69 5)) → (if p1 = (1 : Int32) then wp_X9_set_J73 p1 p2 r13 p2 (wI σ 69 5 z16) Post else ∀ σ20 : zST, σ20 = (wI σ 69 5 z16) → wp_X9_set_J73 p1 p2 r13 (σ20.1 69 6) σ20 Post)))))))
set_option maxRecDepth 100000 in
set_option maxHeartbeats 4000000 in
theorem g_X9_set {p : Program} {l : Launch} {e : Env} {R : Room} {s : State} {m : MethodId} {args : Array Value} {below : List Frame} {meth : Method} {c : Code} {Q : State → Prop} {g : zG} {n1 n2 : Nat} (C : zCX p R s m args meth c g n1 n2 cX9_set 4 RX9 1 25) {p1 : Int32} {p2 : Int32} {σ : zST} {Post : Int32 → zST → Prop} (hret : ∀ (v : Int32) (σ : zST) (pc : Nat) (lv : List (Nat × Value)), Post v σ → decode cX9_set pc = .ok (.ireturn, 1) → zGG p l e R s m args below meth c Q g n1 n2 4 pc lv [.int v] σ) (h : wp_X9_set p1 p2 σ Post) : zGG p l e R s m args below meth c Q g n1 n2 4 0 [(0, .ref (g.2.1 69)), (1, .int p1), (2, .int p2)] [] σ := by
  unfold wp_X9_set at h
  refine zr_iload_n C d_X9_set_0 rfl ?_
  refine zr_i2l C d_X9_set_1 ?_
  refine zr_lconst C (0 : Int64) d_X9_set_2 (by decide) ?_
  refine zr_ldc2 C (v := (7 : Int64)) cl_X9_118 d_X9_set_3 ?_
  refine zr_cip (zr_runS (As := [.long (p1.toInt64), .long (0 : Int64), .long (7 : Int64)]) (rest := []) C sw_X9_89 (c_X9_in l g (p1.toInt64) (0 : Int64) (7 : Int64) σ _ h) (by decide) (by decide) rfl rfl (Nat.le_of_ble_eq_true rfl) d_X9_set_6) (fun r1 h => ?_)
  refine zr_if_eq C 34 d_X9_set_9 (by decide) (fun hc3 => ?_) (fun hc3 => ?_)
  · rw [if_pos hc3] at h
    refine zr_bipush C (-2 : Int32) d_X9_set_34 (by decide) ?_
    exact hret _ _ _ _ h d_X9_set_36
  · rw [if_neg hc3] at h
    refine zr_iload_n C d_X9_set_12 rfl ?_
    refine zr_i2l C d_X9_set_13 ?_
    refine zr_iload_n C d_X9_set_14 rfl ?_
    have hJ6 : ∀ z5 : Int64, z5 = (if p1 = (0) then (1 : Int64) else (0 : Int64)) → zGG p l e R s m args below meth c Q g n1 n2 4 23 [(0, .ref (g.2.1 69)), (1, .int p1), (2, .int p2)] [.long z5, .long (p2.toInt64)] σ := by
      intro z5 hz5
      replace h := h z5 hz5
      refine zr_iload_n C d_X9_set_23 rfl ?_
      refine zr_cip (zr_runS (As := [.int p1]) (rest := [.long z5, .long (p2.toInt64)]) C sw_X9_120 (c_X9_greatest l g p1 σ _ h) (by decide) (by decide) rfl rfl (Nat.le_of_ble_eq_true rfl) d_X9_set_24) (fun r8 h => ?_)
      refine zr_i2l C d_X9_set_27 ?_
      refine zr_cip (zr_runS (As := [.long (p2.toInt64), .long z5, .long (r8.toInt64)]) (rest := []) C sw_X9_89 (c_X9_in l g (p2.toInt64) z5 (r8.toInt64) σ _ h) (by decide) (by decide) rfl rfl (Nat.le_of_ble_eq_true rfl) d_X9_set_28) (fun r10 h => ?_)
      refine zr_if_ne C 37 d_X9_set_31 (by decide) (fun hc12 => ?_) (fun hc12 => ?_)
      · rw [if_neg hc12] at h
        refine zr_aload_n C d_X9_set_37 rfl ?_
        refine zr_iload_n C d_X9_set_38 rfl ?_
        refine zr_cip (zr_runV (As := [.int p1]) (rest := []) C vw_X9_123 (c_X9_toldSet l g p1 σ _ h) (sh_69) rfl (by decide) (by decide) rfl rfl (Nat.le_of_ble_eq_true rfl) d_X9_set_39) (fun r13 h => ?_)
        refine zr_istore_n C [(3, .int r13), (0, .ref (g.2.1 69)), (1, .int p1), (2, .int p2)] d_X9_set_42 (by decide) rfl ?_
        refine zr_aload_n C d_X9_set_43 rfl ?_
        refine zr_iload_n C d_X9_set_44 rfl ?_
        have hJ17 : ∀ z16 : Int32, z16 = (if p1 = (0) then p2 else (σ.1 69 5)) → zGG p l e R s m args below meth c Q g n1 n2 4 56 [(3, .int r13), (0, .ref (g.2.1 69)), (1, .int p1), (2, .int p2)] [.int z16, .ref (g.2.1 69)] σ := by
          intro z16 hz16
          replace h := h z16 hz16
          refine zr_puti C fw_X9_62 pw_X9_5 (sh_69) rfl rfl rfl d_X9_set_56 ?_
          refine zr_aload_n C d_X9_set_59 rfl ?_
          refine zr_iload_n C d_X9_set_60 rfl ?_
          refine zr_iconst C (1 : Int32) d_X9_set_61 (by decide) ?_
          refine zr_icmp_ne C 69 d_X9_set_62 (by decide) (fun hc19 => ?_) (fun hc19 => ?_)
          · rw [if_neg hc19] at h
            refine zr_aload_n C d_X9_set_69 rfl ?_
            refine zr_tops (fun σ20 hσ20 => ?_)
            replace h := h σ20 hσ20
            refine zr_geti C fw_X9_66 (sh_69) rfl d_X9_set_70 ?_
            exact zr_pick [1, 2, 3, 0] rfl (g_X9_set_J73 C hret h)
          · rw [if_pos hc19] at h
            refine zr_iload_n C d_X9_set_65 rfl ?_
            refine zr_goto C 73 d_X9_set_66 (by decide) ?_
            exact zr_pick [1, 2, 3, 0] rfl (g_X9_set_J73 C hret h)
        refine zr_if_ne C 52 d_X9_set_45 (by decide) (fun hc15 => ?_) (fun hc15 => ?_)
        · skip
          refine zr_aload_n C d_X9_set_52 rfl ?_
          refine zr_geti C fw_X9_62 (sh_69) rfl d_X9_set_53 ?_
          exact hJ17 _ (by rw [if_neg hc15])
        · skip
          refine zr_iload_n C d_X9_set_48 rfl ?_
          refine zr_goto C 56 d_X9_set_49 (by decide) ?_
          exact hJ17 _ (by rw [if_pos hc15])
      · rw [if_pos hc12] at h
        refine zr_bipush C (-2 : Int32) d_X9_set_34 (by decide) ?_
        exact hret _ _ _ _ h d_X9_set_36
    refine zr_if_ne C 22 d_X9_set_15 (by decide) (fun hc4 => ?_) (fun hc4 => ?_)
    · skip
      refine zr_lconst C (0 : Int64) d_X9_set_22 (by decide) ?_
      exact hJ6 _ (by rw [if_neg hc4])
    · skip
      refine zr_lconst C (1 : Int64) d_X9_set_18 (by decide) ?_
      refine zr_goto C 23 d_X9_set_19 (by decide) ?_
      exact hJ6 _ (by rw [if_pos hc4])
set_option maxRecDepth 20000 in
theorem c_X9_set (l : Launch) (g : zG) (p1 : Int32) (p2 : Int32) (σ : zST) (Post : Int32 → zST → Prop) (h : wp_X9_set p1 p2 σ Post) : Met l yX9_set (Cond.code yX9_set cX9_set 4 (some .int) :: zGW) (zRm 1 25) (va_Pc [.ref (g.2.1 69), .int p1, .int p2] (zPP g σ)) (va_Qi Post (zBB g) (zA g)) 0 0 (zA g) :=
  zMet (by decide) (Nat.le_of_ble_eq_true rfl) (fun p e s m below meth c hr C => g_X9_set C (fun v σ pc lv hp hd => zr_iret C hr hp hd) h)
def wp_X9_say (p1 : Int32) (σ : zST) (Post : Int32 → zST → Prop) : Prop := wp_X9_in (p1.toInt64) (33 : Int64) (126 : Int64) σ (fun r1 => (if r1 = (0) then Post (-2 : Int32) σ else (if (σ.1 69 27) = (60 : Int32) then Post (-4 : Int32) σ else vp_in (σ.1 69 27) 60 ∧ ∀ σ6 : zST, σ6 = (wI σ 80 (σ.1 69 27).toNatClampNeg p1) → ∀ σ7 : zST, σ7 = (wI σ6 69 27 ((σ6.1 69 27) + (1 : Int32))) → Post (σ7.1 69 27) σ7)))
set_option maxRecDepth 100000 in
set_option maxHeartbeats 4000000 in
theorem g_X9_say {p : Program} {l : Launch} {e : Env} {R : Room} {s : State} {m : MethodId} {args : Array Value} {below : List Frame} {meth : Method} {c : Code} {Q : State → Prop} {g : zG} {n1 n2 : Nat} (C : zCX p R s m args meth c g n1 n2 cX9_say 2 RX9 1 25) {p1 : Int32} {σ : zST} {Post : Int32 → zST → Prop} (hret : ∀ (v : Int32) (σ : zST) (pc : Nat) (lv : List (Nat × Value)), Post v σ → decode cX9_say pc = .ok (.ireturn, 1) → zGG p l e R s m args below meth c Q g n1 n2 2 pc lv [.int v] σ) (h : wp_X9_say p1 σ Post) : zGG p l e R s m args below meth c Q g n1 n2 2 0 [(0, .ref (g.2.1 69)), (1, .int p1)] [] σ := by
  unfold wp_X9_say at h
  refine zr_iload_n C d_X9_say_0 rfl ?_
  refine zr_i2l C d_X9_say_1 ?_
  refine zr_ldc2 C (v := (33 : Int64)) cl_X9_126 d_X9_say_2 ?_
  refine zr_ldc2 C (v := (126 : Int64)) cl_X9_128 d_X9_say_5 ?_
  refine zr_cip (zr_runS (As := [.long (p1.toInt64), .long (33 : Int64), .long (126 : Int64)]) (rest := []) C sw_X9_89 (c_X9_in l g (p1.toInt64) (33 : Int64) (126 : Int64) σ _ h) (by decide) (by decide) rfl rfl (Nat.le_of_ble_eq_true rfl) d_X9_say_8) (fun r1 h => ?_)
  refine zr_if_ne C 17 d_X9_say_11 (by decide) (fun hc3 => ?_) (fun hc3 => ?_)
  · rw [if_neg hc3] at h
    refine zr_aload_n C d_X9_say_17 rfl ?_
    refine zr_geti C fw_X9_130 (sh_69) rfl d_X9_say_18 ?_
    refine zr_bipush C (60 : Int32) d_X9_say_21 (by decide) ?_
    refine zr_icmp_ne C 29 d_X9_say_23 (by decide) (fun hc4 => ?_) (fun hc4 => ?_)
    · rw [if_neg hc4] at h
      refine zr_aload_n C d_X9_say_29 rfl ?_
      refine zr_getr (u := 80) C fw_X9_40 (sh_69) rfl d_X9_say_30 ?_
      refine zr_aload_n C d_X9_say_33 rfl ?_
      refine zr_geti C fw_X9_130 (sh_69) rfl d_X9_say_34 ?_
      refine zr_iload_n C d_X9_say_37 rfl ?_
      obtain ⟨ho5, h⟩ := h
      refine zr_iast C (sh_80) ho5 d_X9_say_38 ?_
      refine zr_aload_n C d_X9_say_39 rfl ?_
      refine zr_dup C d_X9_say_40 rfl ?_
      refine zr_tops (fun σ6 hσ6 => ?_)
      replace h := h σ6 hσ6
      refine zr_geti C fw_X9_130 (sh_69) rfl d_X9_say_41 ?_
      refine zr_iconst C (1 : Int32) d_X9_say_44 (by decide) ?_
      refine zr_iadd C d_X9_say_45 ?_
      refine zr_puti C fw_X9_130 pw_X9_27 (sh_69) rfl rfl rfl d_X9_say_46 ?_
      refine zr_aload_n C d_X9_say_49 rfl ?_
      refine zr_tops (fun σ7 hσ7 => ?_)
      replace h := h σ7 hσ7
      refine zr_geti C fw_X9_130 (sh_69) rfl d_X9_say_50 ?_
      exact hret _ _ _ _ h d_X9_say_53
    · rw [if_pos hc4] at h
      refine zr_bipush C (-4 : Int32) d_X9_say_26 (by decide) ?_
      exact hret _ _ _ _ h d_X9_say_28
  · rw [if_pos hc3] at h
    refine zr_bipush C (-2 : Int32) d_X9_say_14 (by decide) ?_
    exact hret _ _ _ _ h d_X9_say_16
set_option maxRecDepth 20000 in
theorem c_X9_say (l : Launch) (g : zG) (p1 : Int32) (σ : zST) (Post : Int32 → zST → Prop) (h : wp_X9_say p1 σ Post) : Met l yX9_say (Cond.code yX9_say cX9_say 2 (some .int) :: zGW) (zRm 1 25) (va_Pc [.ref (g.2.1 69), .int p1] (zPP g σ)) (va_Qi Post (zBB g) (zA g)) 0 0 (zA g) :=
  zMet (by decide) (Nat.le_of_ble_eq_true rfl) (fun p e s m below meth c hr C => g_X9_say C (fun v σ pc lv hp hd => zr_iret C hr hp hd) h)
def wp_X9_wipe (σ : zST) (Post : Int32 → zST → Prop) : Prop := ∀ x1 : Int32, x1 = σ.1 69 27 → Post x1 (wI σ 69 27 (0 : Int32))
set_option maxRecDepth 100000 in
set_option maxHeartbeats 4000000 in
theorem g_X9_wipe {p : Program} {l : Launch} {e : Env} {R : Room} {s : State} {m : MethodId} {args : Array Value} {below : List Frame} {meth : Method} {c : Code} {Q : State → Prop} {g : zG} {n1 n2 : Nat} (C : zCX p R s m args meth c g n1 n2 cX9_wipe 2 RX9 0 0) {σ : zST} {Post : Int32 → zST → Prop} (hret : ∀ (v : Int32) (σ : zST) (pc : Nat) (lv : List (Nat × Value)), Post v σ → decode cX9_wipe pc = .ok (.ireturn, 1) → zGG p l e R s m args below meth c Q g n1 n2 2 pc lv [.int v] σ) (h : wp_X9_wipe σ Post) : zGG p l e R s m args below meth c Q g n1 n2 2 0 [(0, .ref (g.2.1 69))] [] σ := by
  unfold wp_X9_wipe at h
  refine zr_aload_n C d_X9_wipe_0 rfl ?_
  refine zr_geti C fw_X9_130 (sh_69) rfl d_X9_wipe_1 ?_
  refine zr_topi (fun x1 hx1 => ?_)
  replace h := h x1 hx1
  refine zr_istore_n C [(1, .int x1), (0, .ref (g.2.1 69))] d_X9_wipe_4 (by decide) rfl ?_
  refine zr_aload_n C d_X9_wipe_5 rfl ?_
  refine zr_iconst C (0 : Int32) d_X9_wipe_6 (by decide) ?_
  refine zr_puti C fw_X9_130 pw_X9_27 (sh_69) rfl rfl rfl d_X9_wipe_7 ?_
  refine zr_iload_n C d_X9_wipe_10 rfl ?_
  exact hret _ _ _ _ h d_X9_wipe_11
set_option maxRecDepth 20000 in
theorem c_X9_wipe (l : Launch) (g : zG) (σ : zST) (Post : Int32 → zST → Prop) (h : wp_X9_wipe σ Post) : Met l yX9_wipe (Cond.code yX9_wipe cX9_wipe 2 (some .int) :: zGW) (zRm 0 0) (va_Pc [.ref (g.2.1 69)] (zPP g σ)) (va_Qi Post (zBB g) (zA g)) 0 0 (zA g) :=
  zMet (by decide) (Nat.le_of_ble_eq_true rfl) (fun p e s m below meth c hr C => g_X9_wipe C (fun v σ pc lv hp hd => zr_iret C hr hp hd) h)
def wp_X9_faultOfTide_L2 (σ : zST) (Post : Int32 → Prop) : Nat → Int32 → Prop
  | 0, _ => False
  | N + 1, v1 => (if (σ.1 69 27) ≤ v1 then ∀ z3 : Int32, z3 = (if (σ.1 69 27) = (0) then (0 : Int32) else (-6 : Int32)) → Post z3 else (if v1 = (24 : Int32) then Post v1 else vp_in v1 60 ∧ wp_X9_in ((σ.1 80 v1.toNatClampNeg).toInt64) (48 : Int64) (57 : Int64) σ (fun r8 => (if r8 = (0) then Post v1 else wp_X9_faultOfTide_L2 σ Post N (v1 + 1)))))

set_option maxRecDepth 100000 in
set_option maxHeartbeats 4000000 in
theorem g_X9_faultOfTide_L2 {p : Program} {l : Launch} {e : Env} {R : Room} {s : State} {m : MethodId} {args : Array Value} {below : List Frame} {meth : Method} {c : Code} {Q : State → Prop} {g : zG} {n1 n2 : Nat} (C : zCX p R s m args meth c g n1 n2 cX9_faultOfTide 2 RX9 1 25) {σ : zST}  {Post : Int32 → Prop} (hret : ∀ (v : Int32) (pc : Nat) (lv : List (Nat × Value)), Post v → decode cX9_faultOfTide pc = .ok (.ireturn, 1) → zGG p l e R s m args below meth c Q g n1 n2 2 pc lv [.int v] σ) : ∀ (N : Nat) (v1 : Int32) , wp_X9_faultOfTide_L2 σ Post N v1 → zGG p l e R s m args below meth c Q g n1 n2 2 2 [(0, .ref (g.2.1 69)), (1, .int v1)] [] σ := by
  intro N
  induction N with
  | zero =>
    intro v1 h
    exact h.elim
  | succ N ih =>
    intro v1 h
    rw [wp_X9_faultOfTide_L2] at h
    refine zr_iload_n C d_X9_faultOfTide_2 rfl ?_
    refine zr_aload_n C d_X9_faultOfTide_3 rfl ?_
    refine zr_geti C fw_X9_130 (sh_69) rfl d_X9_faultOfTide_4 ?_
    refine zr_icmp_ge C 43 d_X9_faultOfTide_7 (by decide) (fun hc1 => ?_) (fun hc1 => ?_)
    · rw [if_pos hc1] at h
      refine zr_aload_n C d_X9_faultOfTide_43 rfl ?_
      refine zr_geti C fw_X9_130 (sh_69) rfl d_X9_faultOfTide_44 ?_
      have hJ4 : ∀ z3 : Int32, z3 = (if (σ.1 69 27) = (0) then (0 : Int32) else (-6 : Int32)) → zGG p l e R s m args below meth c Q g n1 n2 2 56 [(0, .ref (g.2.1 69)), (1, .int v1)] [.int z3] σ := by
        intro z3 hz3
        replace h := h z3 hz3
        exact hret _ _ _ h d_X9_faultOfTide_56
      refine zr_if_ne C 54 d_X9_faultOfTide_47 (by decide) (fun hc2 => ?_) (fun hc2 => ?_)
      · skip
        refine zr_bipush C (-6 : Int32) d_X9_faultOfTide_54 (by decide) ?_
        exact hJ4 _ (by rw [if_neg hc2])
      · skip
        refine zr_iconst C (0 : Int32) d_X9_faultOfTide_50 (by decide) ?_
        refine zr_goto C 56 d_X9_faultOfTide_51 (by decide) ?_
        exact hJ4 _ (by rw [if_pos hc2])
    · rw [if_neg hc1] at h
      refine zr_iload_n C d_X9_faultOfTide_10 rfl ?_
      refine zr_bipush C (24 : Int32) d_X9_faultOfTide_11 (by decide) ?_
      refine zr_icmp_eq C 35 d_X9_faultOfTide_13 (by decide) (fun hc6 => ?_) (fun hc6 => ?_)
      · rw [if_pos hc6] at h
        refine zr_iload_n C d_X9_faultOfTide_35 rfl ?_
        exact hret _ _ _ h d_X9_faultOfTide_36
      · rw [if_neg hc6] at h
        refine zr_aload_n C d_X9_faultOfTide_16 rfl ?_
        refine zr_getr (u := 80) C fw_X9_40 (sh_69) rfl d_X9_faultOfTide_17 ?_
        refine zr_iload_n C d_X9_faultOfTide_20 rfl ?_
        obtain ⟨ho7, h⟩ := h
        refine zr_iald C (sh_80) ho7 d_X9_faultOfTide_21 ?_
        refine zr_i2l C d_X9_faultOfTide_22 ?_
        refine zr_ldc2 C (v := (48 : Int64)) cl_X9_133 d_X9_faultOfTide_23 ?_
        refine zr_ldc2 C (v := (57 : Int64)) cl_X9_135 d_X9_faultOfTide_26 ?_
        refine zr_cip (zr_runS (As := [.long ((σ.1 80 v1.toNatClampNeg).toInt64), .long (48 : Int64), .long (57 : Int64)]) (rest := []) C sw_X9_89 (c_X9_in l g ((σ.1 80 v1.toNatClampNeg).toInt64) (48 : Int64) (57 : Int64) σ _ h) (by decide) (by decide) rfl rfl (Nat.le_of_ble_eq_true rfl) d_X9_faultOfTide_29) (fun r8 h => ?_)
        refine zr_if_ne C 37 d_X9_faultOfTide_32 (by decide) (fun hc10 => ?_) (fun hc10 => ?_)
        · rw [if_neg hc10] at h
          refine zr_iinc C (v1 + 1) [(1, .int (v1 + 1)), (0, .ref (g.2.1 69))] d_X9_faultOfTide_37 rfl rfl (by decide) rfl ?_
          refine zr_goto C 2 d_X9_faultOfTide_40 (by decide) ?_
          exact zr_pick [1, 0] rfl (ih (v1 + 1) h)
        · rw [if_pos hc10] at h
          refine zr_iload_n C d_X9_faultOfTide_35 rfl ?_
          exact hret _ _ _ h d_X9_faultOfTide_36

def wp_X9_faultOfTide (σ : zST) (Post : Int32 → Prop) : Prop := ∃ M11 : Nat, wp_X9_faultOfTide_L2 σ Post M11 (0 : Int32)
set_option maxRecDepth 100000 in
set_option maxHeartbeats 4000000 in
theorem g_X9_faultOfTide {p : Program} {l : Launch} {e : Env} {R : Room} {s : State} {m : MethodId} {args : Array Value} {below : List Frame} {meth : Method} {c : Code} {Q : State → Prop} {g : zG} {n1 n2 : Nat} (C : zCX p R s m args meth c g n1 n2 cX9_faultOfTide 2 RX9 1 25) {σ : zST} {Post : Int32 → Prop} (hret : ∀ (v : Int32) (pc : Nat) (lv : List (Nat × Value)), Post v → decode cX9_faultOfTide pc = .ok (.ireturn, 1) → zGG p l e R s m args below meth c Q g n1 n2 2 pc lv [.int v] σ) (h : wp_X9_faultOfTide σ Post) : zGG p l e R s m args below meth c Q g n1 n2 2 0 [(0, .ref (g.2.1 69))] [] σ := by
  unfold wp_X9_faultOfTide at h
  refine zr_iconst C (0 : Int32) d_X9_faultOfTide_0 (by decide) ?_
  refine zr_istore_n C [(1, .int (0 : Int32)), (0, .ref (g.2.1 69))] d_X9_faultOfTide_1 (by decide) rfl ?_
  obtain ⟨M11, h⟩ := h
  exact zr_pick [1, 0] rfl (g_X9_faultOfTide_L2 C hret M11 (0 : Int32) h)
set_option maxRecDepth 20000 in
theorem c_X9_faultOfTide (l : Launch) (g : zG) (σ : zST) (Post : Int32 → Prop) (h : wp_X9_faultOfTide σ Post) : Met l yX9_faultOfTide (Cond.code yX9_faultOfTide cX9_faultOfTide 2 (some .int) :: zGW) (zRm 1 25) (va_Pc [.ref (g.2.1 69)] (zPP g σ)) (va_Qi (fun r u => Post r ∧ u = σ) (zBB g) (zA g)) 0 0 (zA g) :=
  zMet (by decide) (Nat.le_of_ble_eq_true rfl) (fun p e s m below meth c hr C => g_X9_faultOfTide C (fun v pc lv hp hd => zr_iret C hr ⟨hp, rfl⟩ hd) h)
def wp_X9_faultOfSeason_J74 (v1 : Int32) (v2 : Int32) (v3 : Int32) (s0 : Int32) (σ : zST) (K4 : Int32 → Int32 → Prop) (Post : Int32 → Prop) : Prop := (if s0 = (0) then Post v2 else ∀ z12 : Int32, z12 = (if v1 = (0) then (if v3 = (46 : Int32) then (0 : Int32) else (1 : Int32)) else (0 : Int32)) → K4 z12 (v2 + 1))

set_option maxRecDepth 100000 in
set_option maxHeartbeats 4000000 in
theorem g_X9_faultOfSeason_J74 {p : Program} {l : Launch} {e : Env} {R : Room} {s : State} {m : MethodId} {args : Array Value} {below : List Frame} {meth : Method} {c : Code} {Q : State → Prop} {g : zG} {n1 n2 : Nat} (C : zCX p R s m args meth c g n1 n2 cX9_faultOfSeason 5 RX9 1 25) {v1 : Int32} {v2 : Int32} {v3 : Int32} {s0 : Int32} {σ : zST} {K4 : Int32 → Int32 → Prop} {Post : Int32 → Prop} (hK4 : ∀ (w1 : Int32) (w2 : Int32), K4 w1 w2 → zGG p l e R s m args below meth c Q g n1 n2 5 4 [(0, .ref (g.2.1 69)), (1, .int w1), (2, .int w2)] [] σ) (hret : ∀ (v : Int32) (pc : Nat) (lv : List (Nat × Value)), Post v → decode cX9_faultOfSeason pc = .ok (.ireturn, 1) → zGG p l e R s m args below meth c Q g n1 n2 5 pc lv [.int v] σ) (h : wp_X9_faultOfSeason_J74 v1 v2 v3 s0 σ K4 Post) : zGG p l e R s m args below meth c Q g n1 n2 5 74 [(0, .ref (g.2.1 69)), (1, .int v1), (2, .int v2), (3, .int v3)] [.int s0] σ := by
  unfold wp_X9_faultOfSeason_J74 at h
  refine zr_istore C [(4, .int s0), (0, .ref (g.2.1 69)), (1, .int v1), (2, .int v2), (3, .int v3)] d_X9_faultOfSeason_74 (by decide) rfl ?_
  refine zr_iload C d_X9_faultOfSeason_76 rfl ?_
  refine zr_if_ne C 83 d_X9_faultOfSeason_78 (by decide) (fun hc10 => ?_) (fun hc10 => ?_)
  · rw [if_neg hc10] at h
    refine zr_iload_n C d_X9_faultOfSeason_83 rfl ?_
    have hJ13 : ∀ z12 : Int32, z12 = (if v1 = (0) then (if v3 = (46 : Int32) then (0 : Int32) else (1 : Int32)) else (0 : Int32)) → zGG p l e R s m args below meth c Q g n1 n2 5 98 [(4, .int s0), (0, .ref (g.2.1 69)), (1, .int v1), (2, .int v2), (3, .int v3)] [.int z12] σ := by
      intro z12 hz12
      replace h := h z12 hz12
      refine zr_istore_n C [(1, .int z12), (4, .int s0), (0, .ref (g.2.1 69)), (2, .int v2), (3, .int v3)] d_X9_faultOfSeason_98 (by decide) rfl ?_
      refine zr_iinc C (v2 + 1) [(2, .int (v2 + 1)), (1, .int z12), (4, .int s0), (0, .ref (g.2.1 69)), (3, .int v3)] d_X9_faultOfSeason_99 rfl rfl (by decide) rfl ?_
      refine zr_goto C 4 d_X9_faultOfSeason_102 (by decide) ?_
      exact zr_pick [3, 1, 0] rfl (hK4 z12 (v2 + 1) h)
    refine zr_if_ne C 97 d_X9_faultOfSeason_84 (by decide) (fun hc11 => ?_) (fun hc11 => ?_)
    · skip
      refine zr_iconst C (0 : Int32) d_X9_faultOfSeason_97 (by decide) ?_
      exact hJ13 _ (by rw [if_neg hc11])
    · skip
      refine zr_iload_n C d_X9_faultOfSeason_87 rfl ?_
      refine zr_bipush C (46 : Int32) d_X9_faultOfSeason_88 (by decide) ?_
      refine zr_icmp_eq C 97 d_X9_faultOfSeason_90 (by decide) (fun hc15 => ?_) (fun hc15 => ?_)
      · skip
        refine zr_iconst C (0 : Int32) d_X9_faultOfSeason_97 (by decide) ?_
        exact hJ13 _ (by rw [if_pos hc11, if_pos hc15])
      · skip
        refine zr_iconst C (1 : Int32) d_X9_faultOfSeason_93 (by decide) ?_
        refine zr_goto C 98 d_X9_faultOfSeason_94 (by decide) ?_
        exact hJ13 _ (by rw [if_pos hc11, if_neg hc15])
  · rw [if_pos hc10] at h
    refine zr_iload_n C d_X9_faultOfSeason_81 rfl ?_
    exact hret _ _ _ h d_X9_faultOfSeason_82

def wp_X9_faultOfSeason_L4 (σ : zST) (Post : Int32 → Prop) : Nat → Int32 → Int32 → Prop
  | 0, _, _ => False
  | N + 1, v1, v2 => (if (σ.1 69 27) ≤ v2 then ∀ z3 : Int32, z3 = (if v1 = (0) then (-6 : Int32) else (σ.1 69 27)) → Post z3 else vp_in v2 60 ∧ ∀ x7 : Int32, x7 = σ.1 80 v2.toNatClampNeg → (if v1 = (0) then (if x7 = (46 : Int32) then wp_X9_faultOfSeason_J74 v1 v2 x7 (1 : Int32) σ (fun v1 v2 => wp_X9_faultOfSeason_L4 σ Post N v1 v2) Post else wp_X9_in (x7.toInt64) (65 : Int64) (70 : Int64) σ (fun r16 => ∀ z19 : Int32, z19 = (if r16 = (0) then (0 : Int32) else (1 : Int32)) → wp_X9_faultOfSeason_J74 v1 v2 x7 z19 σ (fun v1 v2 => wp_X9_faultOfSeason_L4 σ Post N v1 v2) Post)) else ∀ z29 : Int32, z29 = (if x7 = (84 : Int32) then (1 : Int32) else (if x7 = (87 : Int32) then (1 : Int32) else (if x7 = (67 : Int32) then (1 : Int32) else (0 : Int32)))) → wp_X9_faultOfSeason_J74 v1 v2 x7 z29 σ (fun v1 v2 => wp_X9_faultOfSeason_L4 σ Post N v1 v2) Post))

set_option maxRecDepth 100000 in
set_option maxHeartbeats 4000000 in
theorem g_X9_faultOfSeason_L4 {p : Program} {l : Launch} {e : Env} {R : Room} {s : State} {m : MethodId} {args : Array Value} {below : List Frame} {meth : Method} {c : Code} {Q : State → Prop} {g : zG} {n1 n2 : Nat} (C : zCX p R s m args meth c g n1 n2 cX9_faultOfSeason 5 RX9 1 25) {σ : zST}  {Post : Int32 → Prop} (hret : ∀ (v : Int32) (pc : Nat) (lv : List (Nat × Value)), Post v → decode cX9_faultOfSeason pc = .ok (.ireturn, 1) → zGG p l e R s m args below meth c Q g n1 n2 5 pc lv [.int v] σ) : ∀ (N : Nat) (v1 : Int32) (v2 : Int32) , wp_X9_faultOfSeason_L4 σ Post N v1 v2 → zGG p l e R s m args below meth c Q g n1 n2 5 4 [(0, .ref (g.2.1 69)), (1, .int v1), (2, .int v2)] [] σ := by
  intro N
  induction N with
  | zero =>
    intro v1 v2 h
    exact h.elim
  | succ N ih =>
    intro v1 v2 h
    rw [wp_X9_faultOfSeason_L4] at h
    refine zr_iload_n C d_X9_faultOfSeason_4 rfl ?_
    refine zr_aload_n C d_X9_faultOfSeason_5 rfl ?_
    refine zr_geti C fw_X9_130 (sh_69) rfl d_X9_faultOfSeason_6 ?_
    refine zr_icmp_ge C 105 d_X9_faultOfSeason_9 (by decide) (fun hc1 => ?_) (fun hc1 => ?_)
    · rw [if_pos hc1] at h
      refine zr_iload_n C d_X9_faultOfSeason_105 rfl ?_
      have hJ4 : ∀ z3 : Int32, z3 = (if v1 = (0) then (-6 : Int32) else (σ.1 69 27)) → zGG p l e R s m args below meth c Q g n1 n2 5 118 [(0, .ref (g.2.1 69)), (1, .int v1), (2, .int v2)] [.int z3] σ := by
        intro z3 hz3
        replace h := h z3 hz3
        exact hret _ _ _ h d_X9_faultOfSeason_118
      refine zr_if_eq C 116 d_X9_faultOfSeason_106 (by decide) (fun hc2 => ?_) (fun hc2 => ?_)
      · skip
        refine zr_bipush C (-6 : Int32) d_X9_faultOfSeason_116 (by decide) ?_
        exact hJ4 _ (by rw [if_pos hc2])
      · skip
        refine zr_aload_n C d_X9_faultOfSeason_109 rfl ?_
        refine zr_geti C fw_X9_130 (sh_69) rfl d_X9_faultOfSeason_110 ?_
        refine zr_goto C 118 d_X9_faultOfSeason_113 (by decide) ?_
        exact hJ4 _ (by rw [if_neg hc2])
    · rw [if_neg hc1] at h
      refine zr_aload_n C d_X9_faultOfSeason_12 rfl ?_
      refine zr_getr (u := 80) C fw_X9_40 (sh_69) rfl d_X9_faultOfSeason_13 ?_
      refine zr_iload_n C d_X9_faultOfSeason_16 rfl ?_
      obtain ⟨ho6, h⟩ := h
      refine zr_iald C (sh_80) ho6 d_X9_faultOfSeason_17 ?_
      refine zr_topi (fun x7 hx7 => ?_)
      replace h := h x7 hx7
      refine zr_istore_n C [(3, .int x7), (0, .ref (g.2.1 69)), (1, .int v1), (2, .int v2)] d_X9_faultOfSeason_18 (by decide) rfl ?_
      refine zr_iload_n C d_X9_faultOfSeason_19 rfl ?_
      refine zr_if_eq C 49 d_X9_faultOfSeason_20 (by decide) (fun hc8 => ?_) (fun hc8 => ?_)
      · rw [if_pos hc8] at h
        refine zr_iload_n C d_X9_faultOfSeason_49 rfl ?_
        refine zr_bipush C (46 : Int32) d_X9_faultOfSeason_50 (by decide) ?_
        refine zr_icmp_eq C 69 d_X9_faultOfSeason_52 (by decide) (fun hc9 => ?_) (fun hc9 => ?_)
        · rw [if_pos hc9] at h
          refine zr_iconst C (1 : Int32) d_X9_faultOfSeason_69 (by decide) ?_
          refine zr_goto C 74 d_X9_faultOfSeason_70 (by decide) ?_
          exact zr_pick [1, 2, 3, 0] rfl (g_X9_faultOfSeason_J74 C ih hret h)
        · rw [if_neg hc9] at h
          refine zr_iload_n C d_X9_faultOfSeason_55 rfl ?_
          refine zr_i2l C d_X9_faultOfSeason_56 ?_
          refine zr_ldc2 C (v := (65 : Int64)) cl_X9_137 d_X9_faultOfSeason_57 ?_
          refine zr_ldc2 C (v := (70 : Int64)) cl_X9_139 d_X9_faultOfSeason_60 ?_
          refine zr_cip (zr_runS (As := [.long (x7.toInt64), .long (65 : Int64), .long (70 : Int64)]) (rest := []) C sw_X9_89 (c_X9_in l g (x7.toInt64) (65 : Int64) (70 : Int64) σ _ h) (by decide) (by decide) rfl rfl (Nat.le_of_ble_eq_true rfl) d_X9_faultOfSeason_63) (fun r16 h => ?_)
          have hJ20 : ∀ z19 : Int32, z19 = (if r16 = (0) then (0 : Int32) else (1 : Int32)) → zGG p l e R s m args below meth c Q g n1 n2 5 74 [(3, .int x7), (0, .ref (g.2.1 69)), (1, .int v1), (2, .int v2)] [.int z19] σ := by
            intro z19 hz19
            replace h := h z19 hz19
            exact zr_pick [1, 2, 3, 0] rfl (g_X9_faultOfSeason_J74 C ih hret h)
          refine zr_if_eq C 73 d_X9_faultOfSeason_66 (by decide) (fun hc18 => ?_) (fun hc18 => ?_)
          · skip
            refine zr_iconst C (0 : Int32) d_X9_faultOfSeason_73 (by decide) ?_
            exact hJ20 _ (by rw [if_pos hc18])
          · skip
            refine zr_iconst C (1 : Int32) d_X9_faultOfSeason_69 (by decide) ?_
            refine zr_goto C 74 d_X9_faultOfSeason_70 (by decide) ?_
            exact hJ20 _ (by rw [if_neg hc18])
      · rw [if_neg hc8] at h
        refine zr_iload_n C d_X9_faultOfSeason_23 rfl ?_
        refine zr_bipush C (84 : Int32) d_X9_faultOfSeason_24 (by decide) ?_
        have hJ30 : ∀ z29 : Int32, z29 = (if x7 = (84 : Int32) then (1 : Int32) else (if x7 = (87 : Int32) then (1 : Int32) else (if x7 = (67 : Int32) then (1 : Int32) else (0 : Int32)))) → zGG p l e R s m args below meth c Q g n1 n2 5 74 [(3, .int x7), (0, .ref (g.2.1 69)), (1, .int v1), (2, .int v2)] [.int z29] σ := by
          intro z29 hz29
          replace h := h z29 hz29
          exact zr_pick [1, 2, 3, 0] rfl (g_X9_faultOfSeason_J74 C ih hret h)
        refine zr_icmp_eq C 41 d_X9_faultOfSeason_26 (by decide) (fun hc28 => ?_) (fun hc28 => ?_)
        · skip
          refine zr_iconst C (1 : Int32) d_X9_faultOfSeason_41 (by decide) ?_
          refine zr_goto C 74 d_X9_faultOfSeason_42 (by decide) ?_
          exact hJ30 _ (by rw [if_pos hc28])
        · skip
          refine zr_iload_n C d_X9_faultOfSeason_29 rfl ?_
          refine zr_bipush C (87 : Int32) d_X9_faultOfSeason_30 (by decide) ?_
          refine zr_icmp_eq C 41 d_X9_faultOfSeason_32 (by decide) (fun hc32 => ?_) (fun hc32 => ?_)
          · skip
            refine zr_iconst C (1 : Int32) d_X9_faultOfSeason_41 (by decide) ?_
            refine zr_goto C 74 d_X9_faultOfSeason_42 (by decide) ?_
            exact hJ30 _ (by rw [if_neg hc28, if_pos hc32])
          · skip
            refine zr_iload_n C d_X9_faultOfSeason_35 rfl ?_
            refine zr_bipush C (67 : Int32) d_X9_faultOfSeason_36 (by decide) ?_
            refine zr_icmp_ne C 45 d_X9_faultOfSeason_38 (by decide) (fun hc33 => ?_) (fun hc33 => ?_)
            · skip
              refine zr_iconst C (0 : Int32) d_X9_faultOfSeason_45 (by decide) ?_
              refine zr_goto C 74 d_X9_faultOfSeason_46 (by decide) ?_
              exact hJ30 _ (by rw [if_neg hc28, if_neg hc32, if_neg hc33])
            · skip
              refine zr_iconst C (1 : Int32) d_X9_faultOfSeason_41 (by decide) ?_
              refine zr_goto C 74 d_X9_faultOfSeason_42 (by decide) ?_
              exact hJ30 _ (by rw [if_neg hc28, if_neg hc32, if_pos hc33])

def wp_X9_faultOfSeason (σ : zST) (Post : Int32 → Prop) : Prop := ∃ M40 : Nat, wp_X9_faultOfSeason_L4 σ Post M40 (0 : Int32) (0 : Int32)
set_option maxRecDepth 100000 in
set_option maxHeartbeats 4000000 in
theorem g_X9_faultOfSeason {p : Program} {l : Launch} {e : Env} {R : Room} {s : State} {m : MethodId} {args : Array Value} {below : List Frame} {meth : Method} {c : Code} {Q : State → Prop} {g : zG} {n1 n2 : Nat} (C : zCX p R s m args meth c g n1 n2 cX9_faultOfSeason 5 RX9 1 25) {σ : zST} {Post : Int32 → Prop} (hret : ∀ (v : Int32) (pc : Nat) (lv : List (Nat × Value)), Post v → decode cX9_faultOfSeason pc = .ok (.ireturn, 1) → zGG p l e R s m args below meth c Q g n1 n2 5 pc lv [.int v] σ) (h : wp_X9_faultOfSeason σ Post) : zGG p l e R s m args below meth c Q g n1 n2 5 0 [(0, .ref (g.2.1 69))] [] σ := by
  unfold wp_X9_faultOfSeason at h
  refine zr_iconst C (0 : Int32) d_X9_faultOfSeason_0 (by decide) ?_
  refine zr_istore_n C [(1, .int (0 : Int32)), (0, .ref (g.2.1 69))] d_X9_faultOfSeason_1 (by decide) rfl ?_
  refine zr_iconst C (0 : Int32) d_X9_faultOfSeason_2 (by decide) ?_
  refine zr_istore_n C [(2, .int (0 : Int32)), (1, .int (0 : Int32)), (0, .ref (g.2.1 69))] d_X9_faultOfSeason_3 (by decide) rfl ?_
  obtain ⟨M40, h⟩ := h
  exact zr_pick [2, 1, 0] rfl (g_X9_faultOfSeason_L4 C hret M40 (0 : Int32) (0 : Int32) h)
set_option maxRecDepth 20000 in
theorem c_X9_faultOfSeason (l : Launch) (g : zG) (σ : zST) (Post : Int32 → Prop) (h : wp_X9_faultOfSeason σ Post) : Met l yX9_faultOfSeason (Cond.code yX9_faultOfSeason cX9_faultOfSeason 5 (some .int) :: zGW) (zRm 1 25) (va_Pc [.ref (g.2.1 69)] (zPP g σ)) (va_Qi (fun r u => Post r ∧ u = σ) (zBB g) (zA g)) 0 0 (zA g) :=
  zMet (by decide) (Nat.le_of_ble_eq_true rfl) (fun p e s m below meth c hr C => g_X9_faultOfSeason C (fun v pc lv hp hd => zr_iret C hr ⟨hp, rfl⟩ hd) h)
def wp_X9_fault (p1 : Int32) (σ : zST) (Post : Int32 → Prop) : Prop := (if p1 = (0) then wp_X9_faultOfTide σ (fun r5 => Post r5) else (if p1 = (1 : Int32) then wp_X9_faultOfSeason σ (fun r3 => Post r3) else Post (-2 : Int32)))
set_option maxRecDepth 100000 in
set_option maxHeartbeats 4000000 in
theorem g_X9_fault {p : Program} {l : Launch} {e : Env} {R : Room} {s : State} {m : MethodId} {args : Array Value} {below : List Frame} {meth : Method} {c : Code} {Q : State → Prop} {g : zG} {n1 n2 : Nat} (C : zCX p R s m args meth c g n1 n2 cX9_fault 2 RX9 2 49) {p1 : Int32} {σ : zST} {Post : Int32 → Prop} (hret : ∀ (v : Int32) (pc : Nat) (lv : List (Nat × Value)), Post v → decode cX9_fault pc = .ok (.ireturn, 1) → zGG p l e R s m args below meth c Q g n1 n2 2 pc lv [.int v] σ) (h : wp_X9_fault p1 σ Post) : zGG p l e R s m args below meth c Q g n1 n2 2 0 [(0, .ref (g.2.1 69)), (1, .int p1)] [] σ := by
  unfold wp_X9_fault at h
  refine zr_iload_n C d_X9_fault_0 rfl ?_
  refine zr_if_ne C 11 d_X9_fault_1 (by decide) (fun hc1 => ?_) (fun hc1 => ?_)
  · rw [if_neg hc1] at h
    refine zr_iload_n C d_X9_fault_11 rfl ?_
    refine zr_iconst C (1 : Int32) d_X9_fault_12 (by decide) ?_
    refine zr_icmp_ne C 23 d_X9_fault_13 (by decide) (fun hc2 => ?_) (fun hc2 => ?_)
    · rw [if_neg hc2] at h
      refine zr_bipush C (-2 : Int32) d_X9_fault_23 (by decide) ?_
      exact hret _ _ _ h d_X9_fault_25
    · rw [if_pos hc2] at h
      refine zr_aload_n C d_X9_fault_16 rfl ?_
      refine zr_cip (zr_runV (As := []) (rest := []) C vw_X9_145 (c_X9_faultOfSeason l g σ _ h) (sh_69) rfl (by decide) (by decide) rfl rfl (Nat.le_of_ble_eq_true rfl) d_X9_fault_17) (fun r3 h => ?_)
      refine zr_goto C 25 d_X9_fault_20 (by decide) ?_
      exact hret _ _ _ h d_X9_fault_25
  · rw [if_pos hc1] at h
    refine zr_aload_n C d_X9_fault_4 rfl ?_
    refine zr_cip (zr_runV (As := []) (rest := []) C vw_X9_141 (c_X9_faultOfTide l g σ _ h) (sh_69) rfl (by decide) (by decide) rfl rfl (Nat.le_of_ble_eq_true rfl) d_X9_fault_5) (fun r5 h => ?_)
    refine zr_goto C 25 d_X9_fault_8 (by decide) ?_
    exact hret _ _ _ h d_X9_fault_25
set_option maxRecDepth 20000 in
theorem c_X9_fault (l : Launch) (g : zG) (p1 : Int32) (σ : zST) (Post : Int32 → Prop) (h : wp_X9_fault p1 σ Post) : Met l yX9_fault (Cond.code yX9_fault cX9_fault 2 (some .int) :: zGW) (zRm 2 49) (va_Pc [.ref (g.2.1 69), .int p1] (zPP g σ)) (va_Qi (fun r u => Post r ∧ u = σ) (zBB g) (zA g)) 0 0 (zA g) :=
  zMet (by decide) (Nat.le_of_ble_eq_true rfl) (fun p e s m below meth c hr C => g_X9_fault C (fun v pc lv hp hd => zr_iret C hr ⟨hp, rfl⟩ hd) h)
def wp_X9_tide_J41 (σ : zST) (Post : Int32 → zST → Prop) : Prop := ∀ σ5 : zST, σ5 = (wI (wI σ 69 14 (σ.1 69 27)) 69 27 (0 : Int32)) → Post (σ5.1 69 14) σ5

set_option maxRecDepth 100000 in
set_option maxHeartbeats 4000000 in
theorem g_X9_tide_J41 {p : Program} {l : Launch} {e : Env} {R : Room} {s : State} {m : MethodId} {args : Array Value} {below : List Frame} {meth : Method} {c : Code} {Q : State → Prop} {g : zG} {n1 n2 : Nat} (C : zCX p R s m args meth c g n1 n2 cX9_tide 2 RX9 2 46) {σ : zST}  {Post : Int32 → zST → Prop} (hret : ∀ (v : Int32) (σ : zST) (pc : Nat) (lv : List (Nat × Value)), Post v σ → decode cX9_tide pc = .ok (.ireturn, 1) → zGG p l e R s m args below meth c Q g n1 n2 2 pc lv [.int v] σ) (h : wp_X9_tide_J41 σ Post) : zGG p l e R s m args below meth c Q g n1 n2 2 41 [(0, .ref (g.2.1 69))] [] σ := by
  unfold wp_X9_tide_J41 at h
  refine zr_aload_n C d_X9_tide_41 rfl ?_
  refine zr_aload_n C d_X9_tide_42 rfl ?_
  refine zr_geti C fw_X9_130 (sh_69) rfl d_X9_tide_43 ?_
  refine zr_puti C fw_X9_84 pw_X9_14 (sh_69) rfl rfl rfl d_X9_tide_46 ?_
  refine zr_aload_n C d_X9_tide_49 rfl ?_
  refine zr_iconst C (0 : Int32) d_X9_tide_50 (by decide) ?_
  refine zr_puti C fw_X9_130 pw_X9_27 (sh_69) rfl rfl rfl d_X9_tide_51 ?_
  refine zr_aload_n C d_X9_tide_54 rfl ?_
  refine zr_tops (fun σ5 hσ5 => ?_)
  replace h := h σ5 hσ5
  refine zr_geti C fw_X9_84 (sh_69) rfl d_X9_tide_55 ?_
  exact hret _ _ _ _ h d_X9_tide_58

def wp_X9_tide_L12 (Post : Int32 → zST → Prop) : Nat → Int32 → zST → Prop
  | 0, _, _ => False
  | N + 1, v1, σ => (if (σ.1 69 27) ≤ v1 then wp_X9_tide_J41 σ Post else vp_in v1 60 ∧ vp_in v1 24 ∧ wp_X9_tide_L12 Post N (v1 + 1) (wI σ 74 v1.toNatClampNeg ((σ.1 80 v1.toNatClampNeg) - (48 : Int32))))

set_option maxRecDepth 100000 in
set_option maxHeartbeats 4000000 in
theorem g_X9_tide_L12 {p : Program} {l : Launch} {e : Env} {R : Room} {s : State} {m : MethodId} {args : Array Value} {below : List Frame} {meth : Method} {c : Code} {Q : State → Prop} {g : zG} {n1 n2 : Nat} (C : zCX p R s m args meth c g n1 n2 cX9_tide 2 RX9 2 46)  {Post : Int32 → zST → Prop} (hret : ∀ (v : Int32) (σ : zST) (pc : Nat) (lv : List (Nat × Value)), Post v σ → decode cX9_tide pc = .ok (.ireturn, 1) → zGG p l e R s m args below meth c Q g n1 n2 2 pc lv [.int v] σ) : ∀ (N : Nat) (v1 : Int32) (σ : zST) , wp_X9_tide_L12 Post N v1 σ → zGG p l e R s m args below meth c Q g n1 n2 2 12 [(0, .ref (g.2.1 69)), (1, .int v1)] [] σ := by
  intro N
  induction N with
  | zero =>
    intro v1 σ h
    exact h.elim
  | succ N ih =>
    intro v1 σ h
    rw [wp_X9_tide_L12] at h
    refine zr_iload_n C d_X9_tide_12 rfl ?_
    refine zr_aload_n C d_X9_tide_13 rfl ?_
    refine zr_geti C fw_X9_130 (sh_69) rfl d_X9_tide_14 ?_
    refine zr_icmp_ge C 41 d_X9_tide_17 (by decide) (fun hc4 => ?_) (fun hc4 => ?_)
    · rw [if_pos hc4] at h
      exact zr_pick [0] rfl (g_X9_tide_J41 C hret h)
    · rw [if_neg hc4] at h
      refine zr_aload_n C d_X9_tide_20 rfl ?_
      refine zr_getr (u := 74) C fw_X9_22 (sh_69) rfl d_X9_tide_21 ?_
      refine zr_iload_n C d_X9_tide_24 rfl ?_
      refine zr_aload_n C d_X9_tide_25 rfl ?_
      refine zr_getr (u := 80) C fw_X9_40 (sh_69) rfl d_X9_tide_26 ?_
      refine zr_iload_n C d_X9_tide_29 rfl ?_
      obtain ⟨ho6, h⟩ := h
      refine zr_iald C (sh_80) ho6 d_X9_tide_30 ?_
      refine zr_bipush C (48 : Int32) d_X9_tide_31 (by decide) ?_
      refine zr_isub C d_X9_tide_33 ?_
      obtain ⟨ho7, h⟩ := h
      refine zr_iast C (sh_74) ho7 d_X9_tide_34 ?_
      refine zr_iinc C (v1 + 1) [(1, .int (v1 + 1)), (0, .ref (g.2.1 69))] d_X9_tide_35 rfl rfl (by decide) rfl ?_
      refine zr_goto C 12 d_X9_tide_38 (by decide) ?_
      exact zr_pick [1, 0] rfl (ih (v1 + 1) (wI σ 74 v1.toNatClampNeg ((σ.1 80 v1.toNatClampNeg) - (48 : Int32))) h)

def wp_X9_tide (σ : zST) (Post : Int32 → zST → Prop) : Prop := wp_X9_faultOfTide σ (fun r1 => (if r1 < (0) then ∃ M8 : Nat, wp_X9_tide_L12 Post M8 (0 : Int32) σ else Post (-5 : Int32) σ))
set_option maxRecDepth 100000 in
set_option maxHeartbeats 4000000 in
theorem g_X9_tide {p : Program} {l : Launch} {e : Env} {R : Room} {s : State} {m : MethodId} {args : Array Value} {below : List Frame} {meth : Method} {c : Code} {Q : State → Prop} {g : zG} {n1 n2 : Nat} (C : zCX p R s m args meth c g n1 n2 cX9_tide 2 RX9 2 46) {σ : zST} {Post : Int32 → zST → Prop} (hret : ∀ (v : Int32) (σ : zST) (pc : Nat) (lv : List (Nat × Value)), Post v σ → decode cX9_tide pc = .ok (.ireturn, 1) → zGG p l e R s m args below meth c Q g n1 n2 2 pc lv [.int v] σ) (h : wp_X9_tide σ Post) : zGG p l e R s m args below meth c Q g n1 n2 2 0 [(0, .ref (g.2.1 69))] [] σ := by
  unfold wp_X9_tide at h
  refine zr_aload_n C d_X9_tide_0 rfl ?_
  refine zr_cip (zr_runV (As := []) (rest := []) C vw_X9_141 (c_X9_faultOfTide l g σ _ h) (sh_69) rfl (by decide) (by decide) rfl rfl (Nat.le_of_ble_eq_true rfl) d_X9_tide_1) (fun r1 h => ?_)
  refine zr_if_lt C 10 d_X9_tide_4 (by decide) (fun hc3 => ?_) (fun hc3 => ?_)
  · rw [if_pos hc3] at h
    refine zr_iconst C (0 : Int32) d_X9_tide_10 (by decide) ?_
    refine zr_istore_n C [(1, .int (0 : Int32)), (0, .ref (g.2.1 69))] d_X9_tide_11 (by decide) rfl ?_
    obtain ⟨M8, h⟩ := h
    exact zr_pick [1, 0] rfl (g_X9_tide_L12 C hret M8 (0 : Int32) σ h)
  · rw [if_neg hc3] at h
    refine zr_bipush C (-5 : Int32) d_X9_tide_7 (by decide) ?_
    exact hret _ _ _ _ h d_X9_tide_9
set_option maxRecDepth 20000 in
theorem c_X9_tide (l : Launch) (g : zG) (σ : zST) (Post : Int32 → zST → Prop) (h : wp_X9_tide σ Post) : Met l yX9_tide (Cond.code yX9_tide cX9_tide 2 (some .int) :: zGW) (zRm 2 46) (va_Pc [.ref (g.2.1 69)] (zPP g σ)) (va_Qi Post (zBB g) (zA g)) 0 0 (zA g) :=
  zMet (by decide) (Nat.le_of_ble_eq_true rfl) (fun p e s m below meth c hr C => g_X9_tide C (fun v σ pc lv hp hd => zr_iret C hr hp hd) h)
def wp_X9_tenths (p1 : Int32) (σ : zST) (Post : Int32 → Prop) : Prop := ¬ (σ.1 69 14) = 0 ∧ vp_in (p1 - p1 / (σ.1 69 14) * (σ.1 69 14)) 24 ∧ Post (σ.1 74 (p1 - p1 / (σ.1 69 14) * (σ.1 69 14)).toNatClampNeg)
set_option maxRecDepth 100000 in
set_option maxHeartbeats 4000000 in
theorem g_X9_tenths {p : Program} {l : Launch} {e : Env} {R : Room} {s : State} {m : MethodId} {args : Array Value} {below : List Frame} {meth : Method} {c : Code} {Q : State → Prop} {g : zG} {n1 n2 : Nat} (C : zCX p R s m args meth c g n1 n2 cX9_tenths 2 RX9 0 0) {p1 : Int32} {σ : zST} {Post : Int32 → Prop} (hret : ∀ (v : Int32) (pc : Nat) (lv : List (Nat × Value)), Post v → decode cX9_tenths pc = .ok (.ireturn, 1) → zGG p l e R s m args below meth c Q g n1 n2 2 pc lv [.int v] σ) (h : wp_X9_tenths p1 σ Post) : zGG p l e R s m args below meth c Q g n1 n2 2 0 [(0, .ref (g.2.1 69)), (1, .int p1)] [] σ := by
  unfold wp_X9_tenths at h
  refine zr_aload_n C d_X9_tenths_0 rfl ?_
  refine zr_getr (u := 74) C fw_X9_22 (sh_69) rfl d_X9_tenths_1 ?_
  refine zr_iload_n C d_X9_tenths_4 rfl ?_
  refine zr_aload_n C d_X9_tenths_5 rfl ?_
  refine zr_geti C fw_X9_84 (sh_69) rfl d_X9_tenths_6 ?_
  obtain ⟨ho1, h⟩ := h
  refine zr_irem C d_X9_tenths_9 ho1 ?_
  obtain ⟨ho2, h⟩ := h
  refine zr_iald C (sh_74) ho2 d_X9_tenths_10 ?_
  exact hret _ _ _ h d_X9_tenths_11
set_option maxRecDepth 20000 in
theorem c_X9_tenths (l : Launch) (g : zG) (p1 : Int32) (σ : zST) (Post : Int32 → Prop) (h : wp_X9_tenths p1 σ Post) : Met l yX9_tenths (Cond.code yX9_tenths cX9_tenths 2 (some .int) :: zGW) (zRm 0 0) (va_Pc [.ref (g.2.1 69), .int p1] (zPP g σ)) (va_Qi (fun r u => Post r ∧ u = σ) (zBB g) (zA g)) 0 0 (zA g) :=
  zMet (by decide) (Nat.le_of_ble_eq_true rfl) (fun p e s m below meth c hr C => g_X9_tenths C (fun v pc lv hp hd => zr_iret C hr ⟨hp, rfl⟩ hd) h)
def wp_X9_lostByTeeth (p1 : Int32) (σ : zST) (Post : Int32 → Prop) : Prop := vp_in p1 6 ∧ (if (σ.1 69 5) ≤ (σ.1 71 p1.toNatClampNeg) then True else vp_in p1 6 ∧ True) ∧ ∀ z3 : Int32, z3 = (if (σ.1 69 5) ≤ (σ.1 71 p1.toNatClampNeg) then (0 : Int32) else ((σ.1 69 5) - (σ.1 71 p1.toNatClampNeg))) → vp_in p1 6 ∧ (if (σ.1 70 p1.toNatClampNeg) ≤ z3 then vp_in p1 6 ∧ True else True) ∧ ∀ z9 : Int32, z9 = (if (σ.1 70 p1.toNatClampNeg) ≤ z3 then (σ.1 70 p1.toNatClampNeg) else z3) → Post z9
set_option maxRecDepth 100000 in
set_option maxHeartbeats 4000000 in
theorem g_X9_lostByTeeth {p : Program} {l : Launch} {e : Env} {R : Room} {s : State} {m : MethodId} {args : Array Value} {below : List Frame} {meth : Method} {c : Code} {Q : State → Prop} {g : zG} {n1 n2 : Nat} (C : zCX p R s m args meth c g n1 n2 cX9_lostByTeeth 3 RX9 0 0) {p1 : Int32} {σ : zST} {Post : Int32 → Prop} (hret : ∀ (v : Int32) (pc : Nat) (lv : List (Nat × Value)), Post v → decode cX9_lostByTeeth pc = .ok (.ireturn, 1) → zGG p l e R s m args below meth c Q g n1 n2 3 pc lv [.int v] σ) (h : wp_X9_lostByTeeth p1 σ Post) : zGG p l e R s m args below meth c Q g n1 n2 3 0 [(0, .ref (g.2.1 69)), (1, .int p1)] [] σ := by
  unfold wp_X9_lostByTeeth at h
  refine zr_aload_n C d_X9_lostByTeeth_0 rfl ?_
  refine zr_geti C fw_X9_62 (sh_69) rfl d_X9_lostByTeeth_1 ?_
  refine zr_aload_n C d_X9_lostByTeeth_4 rfl ?_
  refine zr_getr (u := 71) C fw_X9_13 (sh_69) rfl d_X9_lostByTeeth_5 ?_
  refine zr_iload_n C d_X9_lostByTeeth_8 rfl ?_
  obtain ⟨ho1, h⟩ := h
  refine zr_iald C (sh_71) ho1 d_X9_lostByTeeth_9 ?_
  obtain ⟨ho5, h⟩ := h
  have hJ4 : ∀ z3 : Int32, z3 = (if (σ.1 69 5) ≤ (σ.1 71 p1.toNatClampNeg) then (0 : Int32) else ((σ.1 69 5) - (σ.1 71 p1.toNatClampNeg))) → zGG p l e R s m args below meth c Q g n1 n2 3 28 [(0, .ref (g.2.1 69)), (1, .int p1)] [.int z3] σ := by
    intro z3 hz3
    replace h := h z3 hz3
    refine zr_istore_n C [(2, .int z3), (0, .ref (g.2.1 69)), (1, .int p1)] d_X9_lostByTeeth_28 (by decide) rfl ?_
    refine zr_iload_n C d_X9_lostByTeeth_29 rfl ?_
    refine zr_aload_n C d_X9_lostByTeeth_30 rfl ?_
    refine zr_getr (u := 70) C fw_X9_7 (sh_69) rfl d_X9_lostByTeeth_31 ?_
    refine zr_iload_n C d_X9_lostByTeeth_34 rfl ?_
    obtain ⟨ho7, h⟩ := h
    refine zr_iald C (sh_70) ho7 d_X9_lostByTeeth_35 ?_
    obtain ⟨ho11, h⟩ := h
    have hJ10 : ∀ z9 : Int32, z9 = (if (σ.1 70 p1.toNatClampNeg) ≤ z3 then (σ.1 70 p1.toNatClampNeg) else z3) → zGG p l e R s m args below meth c Q g n1 n2 3 49 [(2, .int z3), (0, .ref (g.2.1 69)), (1, .int p1)] [.int z9] σ := by
      intro z9 hz9
      replace h := h z9 hz9
      exact hret _ _ _ h d_X9_lostByTeeth_49
    refine zr_icmp_ge C 43 d_X9_lostByTeeth_36 (by decide) (fun hc8 => ?_) (fun hc8 => ?_)
    · skip
      rw [if_pos hc8] at ho11
      refine zr_aload_n C d_X9_lostByTeeth_43 rfl ?_
      refine zr_getr (u := 70) C fw_X9_7 (sh_69) rfl d_X9_lostByTeeth_44 ?_
      refine zr_iload_n C d_X9_lostByTeeth_47 rfl ?_
      obtain ⟨ho12, ho11⟩ := ho11
      refine zr_iald C (sh_70) ho12 d_X9_lostByTeeth_48 ?_
      exact hJ10 _ (by rw [if_pos hc8])
    · skip
      rw [if_neg hc8] at ho11
      refine zr_iload_n C d_X9_lostByTeeth_39 rfl ?_
      refine zr_goto C 49 d_X9_lostByTeeth_40 (by decide) ?_
      exact hJ10 _ (by rw [if_neg hc8])
  refine zr_icmp_le C 27 d_X9_lostByTeeth_10 (by decide) (fun hc2 => ?_) (fun hc2 => ?_)
  · skip
    rw [if_pos hc2] at ho5
    refine zr_iconst C (0 : Int32) d_X9_lostByTeeth_27 (by decide) ?_
    exact hJ4 _ (by rw [if_pos hc2])
  · skip
    rw [if_neg hc2] at ho5
    refine zr_aload_n C d_X9_lostByTeeth_13 rfl ?_
    refine zr_geti C fw_X9_62 (sh_69) rfl d_X9_lostByTeeth_14 ?_
    refine zr_aload_n C d_X9_lostByTeeth_17 rfl ?_
    refine zr_getr (u := 71) C fw_X9_13 (sh_69) rfl d_X9_lostByTeeth_18 ?_
    refine zr_iload_n C d_X9_lostByTeeth_21 rfl ?_
    obtain ⟨ho6, ho5⟩ := ho5
    refine zr_iald C (sh_71) ho6 d_X9_lostByTeeth_22 ?_
    refine zr_isub C d_X9_lostByTeeth_23 ?_
    refine zr_goto C 28 d_X9_lostByTeeth_24 (by decide) ?_
    exact hJ4 _ (by rw [if_neg hc2])
set_option maxRecDepth 20000 in
theorem c_X9_lostByTeeth (l : Launch) (g : zG) (p1 : Int32) (σ : zST) (Post : Int32 → Prop) (h : wp_X9_lostByTeeth p1 σ Post) : Met l yX9_lostByTeeth (Cond.code yX9_lostByTeeth cX9_lostByTeeth 3 (some .int) :: zGW) (zRm 0 0) (va_Pc [.ref (g.2.1 69), .int p1] (zPP g σ)) (va_Qi (fun r u => Post r ∧ u = σ) (zBB g) (zA g)) 0 0 (zA g) :=
  zMet (by decide) (Nat.le_of_ble_eq_true rfl) (fun p e s m below meth c hr C => g_X9_lostByTeeth C (fun v pc lv hp hd => zr_iret C hr ⟨hp, rfl⟩ hd) h)
def wp_X9_goTeeth (p1 : Int32) (σ : zST) (Post : zST → Prop) : Prop := wp_X9_lostByTeeth p1 σ (fun r1 => vp_in p1 6 ∧ (if (σ.1 71 p1.toNatClampNeg) ≤ (σ.1 69 5) then True else vp_in p1 6 ∧ True) ∧ ∀ z5 : Int32, z5 = (if (σ.1 71 p1.toNatClampNeg) ≤ (σ.1 69 5) then (0 : Int32) else ((σ.1 71 p1.toNatClampNeg) - (σ.1 69 5))) → vp_in p1 6 ∧ vp_in p1 6 ∧ ∀ σ11 : zST, σ11 = (wI σ 71 p1.toNatClampNeg z5) → vp_in p1 6 ∧ ∀ σ13 : zST, σ13 = (wI σ11 70 p1.toNatClampNeg ((σ11.1 70 p1.toNatClampNeg) - r1)) → vp_in p1 6 ∧ ∀ σ15 : zST, σ15 = (wI σ13 69 15 ((σ13.1 69 15) + r1)) → ∀ z17 : Int32, z17 = (if (σ15.1 70 p1.toNatClampNeg) = (0) then (2 : Int32) else (1 : Int32)) → vp_in p1 6 ∧ ∀ σ21 : zST, σ21 = (wI σ15 73 p1.toNatClampNeg z17) → vp_in p1 6 ∧ (if (σ21.1 70 p1.toNatClampNeg) = (0) then vp_in p1 6 ∧ True else True) ∧ ∀ z24 : Int32, z24 = (if (σ21.1 70 p1.toNatClampNeg) = (0) then (σ21.1 72 p1.toNatClampNeg) else (0 : Int32)) → vp_in p1 6 ∧ ∀ σ29 : zST, σ29 = (wI σ21 69 16 ((σ21.1 69 16) + z24)) → (if (σ29.1 70 p1.toNatClampNeg) = (0) then True else vp_in p1 6 ∧ True) ∧ ∀ z31 : Int32, z31 = (if (σ29.1 70 p1.toNatClampNeg) = (0) then (0 : Int32) else (σ29.1 72 p1.toNatClampNeg)) → vp_in p1 6 ∧ Post (wI σ29 72 p1.toNatClampNeg z31))
set_option maxRecDepth 100000 in
set_option maxHeartbeats 4000000 in
theorem g_X9_goTeeth {p : Program} {l : Launch} {e : Env} {R : Room} {s : State} {m : MethodId} {args : Array Value} {below : List Frame} {meth : Method} {c : Code} {Q : State → Prop} {g : zG} {n1 n2 : Nat} (C : zCX p R s m args meth c g n1 n2 cX9_goTeeth 3 RX9 1 22) {p1 : Int32} {σ : zST} {Post : zST → Prop} (hret : ∀ (σ : zST) (pc : Nat) (lv : List (Nat × Value)), Post σ → decode cX9_goTeeth pc = .ok (.return_, 1) → zGG p l e R s m args below meth c Q g n1 n2 3 pc lv [] σ) (h : wp_X9_goTeeth p1 σ Post) : zGG p l e R s m args below meth c Q g n1 n2 3 0 [(0, .ref (g.2.1 69)), (1, .int p1)] [] σ := by
  unfold wp_X9_goTeeth at h
  refine zr_aload_n C d_X9_goTeeth_0 rfl ?_
  refine zr_iload_n C d_X9_goTeeth_1 rfl ?_
  refine zr_cip (zr_runV (As := [.int p1]) (rest := []) C vw_X9_148 (c_X9_lostByTeeth l g p1 σ _ h) (sh_69) rfl (by decide) (by decide) rfl rfl (Nat.le_of_ble_eq_true rfl) d_X9_goTeeth_2) (fun r1 h => ?_)
  refine zr_istore_n C [(2, .int r1), (0, .ref (g.2.1 69)), (1, .int p1)] d_X9_goTeeth_5 (by decide) rfl ?_
  refine zr_aload_n C d_X9_goTeeth_6 rfl ?_
  refine zr_getr (u := 71) C fw_X9_13 (sh_69) rfl d_X9_goTeeth_7 ?_
  refine zr_iload_n C d_X9_goTeeth_10 rfl ?_
  refine zr_aload_n C d_X9_goTeeth_11 rfl ?_
  refine zr_getr (u := 71) C fw_X9_13 (sh_69) rfl d_X9_goTeeth_12 ?_
  refine zr_iload_n C d_X9_goTeeth_15 rfl ?_
  obtain ⟨ho3, h⟩ := h
  refine zr_iald C (sh_71) ho3 d_X9_goTeeth_16 ?_
  refine zr_aload_n C d_X9_goTeeth_17 rfl ?_
  refine zr_geti C fw_X9_62 (sh_69) rfl d_X9_goTeeth_18 ?_
  obtain ⟨ho7, h⟩ := h
  have hJ6 : ∀ z5 : Int32, z5 = (if (σ.1 71 p1.toNatClampNeg) ≤ (σ.1 69 5) then (0 : Int32) else ((σ.1 71 p1.toNatClampNeg) - (σ.1 69 5))) → zGG p l e R s m args below meth c Q g n1 n2 3 39 [(2, .int r1), (0, .ref (g.2.1 69)), (1, .int p1)] [.int z5, .int p1, .ref (g.2.1 71)] σ := by
    intro z5 hz5
    replace h := h z5 hz5
    obtain ⟨ho9, h⟩ := h
    refine zr_iast C (sh_71) ho9 d_X9_goTeeth_39 ?_
    refine zr_aload_n C d_X9_goTeeth_40 rfl ?_
    refine zr_getr (u := 70) C fw_X9_7 (sh_69) rfl d_X9_goTeeth_41 ?_
    refine zr_iload_n C d_X9_goTeeth_44 rfl ?_
    refine zr_dup2 C d_X9_goTeeth_45 rfl rfl ?_
    obtain ⟨ho10, h⟩ := h
    refine zr_tops (fun σ11 hσ11 => ?_)
    replace h := h σ11 hσ11
    refine zr_iald C (sh_70) ho10 d_X9_goTeeth_46 ?_
    refine zr_iload_n C d_X9_goTeeth_47 rfl ?_
    refine zr_isub C d_X9_goTeeth_48 ?_
    obtain ⟨ho12, h⟩ := h
    refine zr_iast C (sh_70) ho12 d_X9_goTeeth_49 ?_
    refine zr_aload_n C d_X9_goTeeth_50 rfl ?_
    refine zr_dup C d_X9_goTeeth_51 rfl ?_
    refine zr_tops (fun σ13 hσ13 => ?_)
    replace h := h σ13 hσ13
    refine zr_geti C fw_X9_151 (sh_69) rfl d_X9_goTeeth_52 ?_
    refine zr_iload_n C d_X9_goTeeth_55 rfl ?_
    refine zr_iadd C d_X9_goTeeth_56 ?_
    refine zr_puti C fw_X9_151 pw_X9_15 (sh_69) rfl rfl rfl d_X9_goTeeth_57 ?_
    refine zr_aload_n C d_X9_goTeeth_60 rfl ?_
    refine zr_getr (u := 73) C fw_X9_19 (sh_69) rfl d_X9_goTeeth_61 ?_
    refine zr_iload_n C d_X9_goTeeth_64 rfl ?_
    refine zr_aload_n C d_X9_goTeeth_65 rfl ?_
    refine zr_getr (u := 70) C fw_X9_7 (sh_69) rfl d_X9_goTeeth_66 ?_
    refine zr_iload_n C d_X9_goTeeth_69 rfl ?_
    obtain ⟨ho14, h⟩ := h
    refine zr_tops (fun σ15 hσ15 => ?_)
    replace h := h σ15 hσ15
    refine zr_iald C (sh_70) ho14 d_X9_goTeeth_70 ?_
    have hJ18 : ∀ z17 : Int32, z17 = (if (σ15.1 70 p1.toNatClampNeg) = (0) then (2 : Int32) else (1 : Int32)) → zGG p l e R s m args below meth c Q g n1 n2 3 79 [(2, .int r1), (0, .ref (g.2.1 69)), (1, .int p1)] [.int z17, .int p1, .ref (g.2.1 73)] σ15 := by
      intro z17 hz17
      replace h := h z17 hz17
      obtain ⟨ho20, h⟩ := h
      refine zr_iast C (sh_73) ho20 d_X9_goTeeth_79 ?_
      refine zr_aload_n C d_X9_goTeeth_80 rfl ?_
      refine zr_dup C d_X9_goTeeth_81 rfl ?_
      refine zr_tops (fun σ21 hσ21 => ?_)
      replace h := h σ21 hσ21
      refine zr_geti C fw_X9_154 (sh_69) rfl d_X9_goTeeth_82 ?_
      refine zr_aload_n C d_X9_goTeeth_85 rfl ?_
      refine zr_getr (u := 70) C fw_X9_7 (sh_69) rfl d_X9_goTeeth_86 ?_
      refine zr_iload_n C d_X9_goTeeth_89 rfl ?_
      obtain ⟨ho22, h⟩ := h
      refine zr_iald C (sh_70) ho22 d_X9_goTeeth_90 ?_
      obtain ⟨ho26, h⟩ := h
      have hJ25 : ∀ z24 : Int32, z24 = (if (σ21.1 70 p1.toNatClampNeg) = (0) then (σ21.1 72 p1.toNatClampNeg) else (0 : Int32)) → zGG p l e R s m args below meth c Q g n1 n2 3 104 [(2, .int r1), (0, .ref (g.2.1 69)), (1, .int p1)] [.int z24, .int (σ21.1 69 16), .ref (g.2.1 69)] σ21 := by
        intro z24 hz24
        replace h := h z24 hz24
        refine zr_iadd C d_X9_goTeeth_104 ?_
        refine zr_puti C fw_X9_154 pw_X9_16 (sh_69) rfl rfl rfl d_X9_goTeeth_105 ?_
        refine zr_aload_n C d_X9_goTeeth_108 rfl ?_
        refine zr_getr (u := 72) C fw_X9_16 (sh_69) rfl d_X9_goTeeth_109 ?_
        refine zr_iload_n C d_X9_goTeeth_112 rfl ?_
        refine zr_aload_n C d_X9_goTeeth_113 rfl ?_
        refine zr_getr (u := 70) C fw_X9_7 (sh_69) rfl d_X9_goTeeth_114 ?_
        refine zr_iload_n C d_X9_goTeeth_117 rfl ?_
        obtain ⟨ho28, h⟩ := h
        refine zr_tops (fun σ29 hσ29 => ?_)
        replace h := h σ29 hσ29
        refine zr_iald C (sh_70) ho28 d_X9_goTeeth_118 ?_
        obtain ⟨ho33, h⟩ := h
        have hJ32 : ∀ z31 : Int32, z31 = (if (σ29.1 70 p1.toNatClampNeg) = (0) then (0 : Int32) else (σ29.1 72 p1.toNatClampNeg)) → zGG p l e R s m args below meth c Q g n1 n2 3 132 [(2, .int r1), (0, .ref (g.2.1 69)), (1, .int p1)] [.int z31, .int p1, .ref (g.2.1 72)] σ29 := by
          intro z31 hz31
          replace h := h z31 hz31
          obtain ⟨ho35, h⟩ := h
          refine zr_iast C (sh_72) ho35 d_X9_goTeeth_132 ?_
          exact hret _ _ _ h d_X9_goTeeth_133
        refine zr_if_ne C 126 d_X9_goTeeth_119 (by decide) (fun hc30 => ?_) (fun hc30 => ?_)
        · skip
          rw [if_neg hc30] at ho33
          refine zr_aload_n C d_X9_goTeeth_126 rfl ?_
          refine zr_getr (u := 72) C fw_X9_16 (sh_69) rfl d_X9_goTeeth_127 ?_
          refine zr_iload_n C d_X9_goTeeth_130 rfl ?_
          obtain ⟨ho34, ho33⟩ := ho33
          refine zr_iald C (sh_72) ho34 d_X9_goTeeth_131 ?_
          exact hJ32 _ (by rw [if_neg hc30])
        · skip
          rw [if_pos hc30] at ho33
          refine zr_iconst C (0 : Int32) d_X9_goTeeth_122 (by decide) ?_
          refine zr_goto C 132 d_X9_goTeeth_123 (by decide) ?_
          exact hJ32 _ (by rw [if_pos hc30])
      refine zr_if_ne C 103 d_X9_goTeeth_91 (by decide) (fun hc23 => ?_) (fun hc23 => ?_)
      · skip
        rw [if_neg hc23] at ho26
        refine zr_iconst C (0 : Int32) d_X9_goTeeth_103 (by decide) ?_
        exact hJ25 _ (by rw [if_neg hc23])
      · skip
        rw [if_pos hc23] at ho26
        refine zr_aload_n C d_X9_goTeeth_94 rfl ?_
        refine zr_getr (u := 72) C fw_X9_16 (sh_69) rfl d_X9_goTeeth_95 ?_
        refine zr_iload_n C d_X9_goTeeth_98 rfl ?_
        obtain ⟨ho27, ho26⟩ := ho26
        refine zr_iald C (sh_72) ho27 d_X9_goTeeth_99 ?_
        refine zr_goto C 104 d_X9_goTeeth_100 (by decide) ?_
        exact hJ25 _ (by rw [if_pos hc23])
    refine zr_if_ne C 78 d_X9_goTeeth_71 (by decide) (fun hc16 => ?_) (fun hc16 => ?_)
    · skip
      refine zr_iconst C (1 : Int32) d_X9_goTeeth_78 (by decide) ?_
      exact hJ18 _ (by rw [if_neg hc16])
    · skip
      refine zr_iconst C (2 : Int32) d_X9_goTeeth_74 (by decide) ?_
      refine zr_goto C 79 d_X9_goTeeth_75 (by decide) ?_
      exact hJ18 _ (by rw [if_pos hc16])
  refine zr_icmp_le C 38 d_X9_goTeeth_21 (by decide) (fun hc4 => ?_) (fun hc4 => ?_)
  · skip
    rw [if_pos hc4] at ho7
    refine zr_iconst C (0 : Int32) d_X9_goTeeth_38 (by decide) ?_
    exact hJ6 _ (by rw [if_pos hc4])
  · skip
    rw [if_neg hc4] at ho7
    refine zr_aload_n C d_X9_goTeeth_24 rfl ?_
    refine zr_getr (u := 71) C fw_X9_13 (sh_69) rfl d_X9_goTeeth_25 ?_
    refine zr_iload_n C d_X9_goTeeth_28 rfl ?_
    obtain ⟨ho8, ho7⟩ := ho7
    refine zr_iald C (sh_71) ho8 d_X9_goTeeth_29 ?_
    refine zr_aload_n C d_X9_goTeeth_30 rfl ?_
    refine zr_geti C fw_X9_62 (sh_69) rfl d_X9_goTeeth_31 ?_
    refine zr_isub C d_X9_goTeeth_34 ?_
    refine zr_goto C 39 d_X9_goTeeth_35 (by decide) ?_
    exact hJ6 _ (by rw [if_neg hc4])
set_option maxRecDepth 20000 in
theorem c_X9_goTeeth (l : Launch) (g : zG) (p1 : Int32) (σ : zST) (Post : zST → Prop) (h : wp_X9_goTeeth p1 σ Post) : Met l yX9_goTeeth (Cond.code yX9_goTeeth cX9_goTeeth 3 none :: zGW) (zRm 1 22) (va_Pc [.ref (g.2.1 69), .int p1] (zPP g σ)) (va_Qv Post (zBB g) (zA g)) 0 0 (zA g) :=
  zMet (by decide) (Nat.le_of_ble_eq_true rfl) (fun p e s m below meth c hr C => g_X9_goTeeth C (fun σ pc lv hp hd => zr_vret C hr hp hd) h)
def wp_X9_goWhirl (p1 : Int32) (p2 : Int32) (σ : zST) (Post : zST → Prop) : Prop := ∀ σ1 : zST, σ1 = (wI σ 69 12 (((((75 : Int64) * ((σ.1 69 12).toInt64)) + (74 : Int64)) - (((75 : Int64) * ((σ.1 69 12).toInt64)) + (74 : Int64)) / (65537 : Int64) * (65537 : Int64)).toInt32)) → wp_X9_tenths p2 σ1 (fun r2 => ∀ z5 : Int32, z5 = (if r2 ≤ ((σ1.1 69 12) - (σ1.1 69 12) / (10 : Int32) * (10 : Int32)) then (0 : Int32) else (1 : Int32)) → ∀ z9 : Int32, z9 = (if z5 = (0) then (1 : Int32) else (2 : Int32)) → vp_in p1 6 ∧ (if z5 = (0) then Post (wI σ1 73 p1.toNatClampNeg z9) else ∀ σ14 : zST, σ14 = (wI σ1 73 p1.toNatClampNeg z9) → vp_in p1 6 ∧ ∀ σ16 : zST, σ16 = (wI σ14 69 15 ((σ14.1 69 15) + (σ14.1 70 p1.toNatClampNeg))) → vp_in p1 6 ∧ vp_in p1 6 ∧ vp_in p1 6 ∧ vp_in p1 6 ∧ Post (wI (wI (wI (wI σ16 69 16 ((σ16.1 69 16) + (σ16.1 72 p1.toNatClampNeg))) 70 p1.toNatClampNeg (0 : Int32)) 71 p1.toNatClampNeg (0 : Int32)) 72 p1.toNatClampNeg (0 : Int32))))
set_option maxRecDepth 100000 in
set_option maxHeartbeats 4000000 in
theorem g_X9_goWhirl {p : Program} {l : Launch} {e : Env} {R : Room} {s : State} {m : MethodId} {args : Array Value} {below : List Frame} {meth : Method} {c : Code} {Q : State → Prop} {g : zG} {n1 n2 : Nat} (C : zCX p R s m args meth c g n1 n2 cX9_goWhirl 4 RX9 1 21) {p1 : Int32} {p2 : Int32} {σ : zST} {Post : zST → Prop} (hret : ∀ (σ : zST) (pc : Nat) (lv : List (Nat × Value)), Post σ → decode cX9_goWhirl pc = .ok (.return_, 1) → zGG p l e R s m args below meth c Q g n1 n2 4 pc lv [] σ) (h : wp_X9_goWhirl p1 p2 σ Post) : zGG p l e R s m args below meth c Q g n1 n2 4 0 [(0, .ref (g.2.1 69)), (1, .int p1), (2, .int p2)] [] σ := by
  unfold wp_X9_goWhirl at h
  refine zr_aload_n C d_X9_goWhirl_0 rfl ?_
  refine zr_ldc2 C (v := (75 : Int64)) cl_X9_157 d_X9_goWhirl_1 ?_
  refine zr_aload_n C d_X9_goWhirl_4 rfl ?_
  refine zr_geti C fw_X9_81 (sh_69) rfl d_X9_goWhirl_5 ?_
  refine zr_i2l C d_X9_goWhirl_8 ?_
  refine zr_lmul C d_X9_goWhirl_9 ?_
  refine zr_ldc2 C (v := (74 : Int64)) cl_X9_159 d_X9_goWhirl_10 ?_
  refine zr_ladd C d_X9_goWhirl_13 ?_
  refine zr_ldc2 C (v := (65537 : Int64)) cl_X9_161 d_X9_goWhirl_14 ?_
  refine zr_lrem C d_X9_goWhirl_17 (by decide) ?_
  refine zr_l2i C d_X9_goWhirl_18 ?_
  refine zr_puti C fw_X9_81 pw_X9_12 (sh_69) rfl rfl rfl d_X9_goWhirl_19 ?_
  refine zr_aload_n C d_X9_goWhirl_22 rfl ?_
  refine zr_tops (fun σ1 hσ1 => ?_)
  replace h := h σ1 hσ1
  refine zr_geti C fw_X9_81 (sh_69) rfl d_X9_goWhirl_23 ?_
  refine zr_bipush C (10 : Int32) d_X9_goWhirl_26 (by decide) ?_
  refine zr_irem C d_X9_goWhirl_28 (by decide) ?_
  refine zr_aload_n C d_X9_goWhirl_29 rfl ?_
  refine zr_iload_n C d_X9_goWhirl_30 rfl ?_
  refine zr_cip (zr_runV (As := [.int p2]) (rest := [.int ((σ1.1 69 12) - (σ1.1 69 12) / (10 : Int32) * (10 : Int32))]) C vw_X9_163 (c_X9_tenths l g p2 σ1 _ h) (sh_69) rfl (by decide) (by decide) rfl rfl (Nat.le_of_ble_eq_true rfl) d_X9_goWhirl_31) (fun r2 h => ?_)
  have hJ6 : ∀ z5 : Int32, z5 = (if r2 ≤ ((σ1.1 69 12) - (σ1.1 69 12) / (10 : Int32) * (10 : Int32)) then (0 : Int32) else (1 : Int32)) → zGG p l e R s m args below meth c Q g n1 n2 4 42 [(0, .ref (g.2.1 69)), (1, .int p1), (2, .int p2)] [.int z5] σ1 := by
    intro z5 hz5
    replace h := h z5 hz5
    refine zr_istore_n C [(3, .int z5), (0, .ref (g.2.1 69)), (1, .int p1), (2, .int p2)] d_X9_goWhirl_42 (by decide) rfl ?_
    refine zr_aload_n C d_X9_goWhirl_43 rfl ?_
    refine zr_getr (u := 73) C fw_X9_19 (sh_69) rfl d_X9_goWhirl_44 ?_
    refine zr_iload_n C d_X9_goWhirl_47 rfl ?_
    refine zr_iload_n C d_X9_goWhirl_48 rfl ?_
    have hJ10 : ∀ z9 : Int32, z9 = (if z5 = (0) then (1 : Int32) else (2 : Int32)) → zGG p l e R s m args below meth c Q g n1 n2 4 57 [(3, .int z5), (0, .ref (g.2.1 69)), (1, .int p1), (2, .int p2)] [.int z9, .int p1, .ref (g.2.1 73)] σ1 := by
      intro z9 hz9
      replace h := h z9 hz9
      obtain ⟨ho12, h⟩ := h
      refine zr_iast C (sh_73) ho12 d_X9_goWhirl_57 ?_
      refine zr_iload_n C d_X9_goWhirl_58 rfl ?_
      refine zr_if_eq C 113 d_X9_goWhirl_59 (by decide) (fun hc13 => ?_) (fun hc13 => ?_)
      · rw [if_pos hc13] at h
        exact hret _ _ _ h d_X9_goWhirl_113
      · rw [if_neg hc13] at h
        refine zr_aload_n C d_X9_goWhirl_62 rfl ?_
        refine zr_dup C d_X9_goWhirl_63 rfl ?_
        refine zr_tops (fun σ14 hσ14 => ?_)
        replace h := h σ14 hσ14
        refine zr_geti C fw_X9_151 (sh_69) rfl d_X9_goWhirl_64 ?_
        refine zr_aload_n C d_X9_goWhirl_67 rfl ?_
        refine zr_getr (u := 70) C fw_X9_7 (sh_69) rfl d_X9_goWhirl_68 ?_
        refine zr_iload_n C d_X9_goWhirl_71 rfl ?_
        obtain ⟨ho15, h⟩ := h
        refine zr_iald C (sh_70) ho15 d_X9_goWhirl_72 ?_
        refine zr_iadd C d_X9_goWhirl_73 ?_
        refine zr_puti C fw_X9_151 pw_X9_15 (sh_69) rfl rfl rfl d_X9_goWhirl_74 ?_
        refine zr_aload_n C d_X9_goWhirl_77 rfl ?_
        refine zr_dup C d_X9_goWhirl_78 rfl ?_
        refine zr_tops (fun σ16 hσ16 => ?_)
        replace h := h σ16 hσ16
        refine zr_geti C fw_X9_154 (sh_69) rfl d_X9_goWhirl_79 ?_
        refine zr_aload_n C d_X9_goWhirl_82 rfl ?_
        refine zr_getr (u := 72) C fw_X9_16 (sh_69) rfl d_X9_goWhirl_83 ?_
        refine zr_iload_n C d_X9_goWhirl_86 rfl ?_
        obtain ⟨ho17, h⟩ := h
        refine zr_iald C (sh_72) ho17 d_X9_goWhirl_87 ?_
        refine zr_iadd C d_X9_goWhirl_88 ?_
        refine zr_puti C fw_X9_154 pw_X9_16 (sh_69) rfl rfl rfl d_X9_goWhirl_89 ?_
        refine zr_aload_n C d_X9_goWhirl_92 rfl ?_
        refine zr_getr (u := 70) C fw_X9_7 (sh_69) rfl d_X9_goWhirl_93 ?_
        refine zr_iload_n C d_X9_goWhirl_96 rfl ?_
        refine zr_iconst C (0 : Int32) d_X9_goWhirl_97 (by decide) ?_
        obtain ⟨ho18, h⟩ := h
        refine zr_iast C (sh_70) ho18 d_X9_goWhirl_98 ?_
        refine zr_aload_n C d_X9_goWhirl_99 rfl ?_
        refine zr_getr (u := 71) C fw_X9_13 (sh_69) rfl d_X9_goWhirl_100 ?_
        refine zr_iload_n C d_X9_goWhirl_103 rfl ?_
        refine zr_iconst C (0 : Int32) d_X9_goWhirl_104 (by decide) ?_
        obtain ⟨ho19, h⟩ := h
        refine zr_iast C (sh_71) ho19 d_X9_goWhirl_105 ?_
        refine zr_aload_n C d_X9_goWhirl_106 rfl ?_
        refine zr_getr (u := 72) C fw_X9_16 (sh_69) rfl d_X9_goWhirl_107 ?_
        refine zr_iload_n C d_X9_goWhirl_110 rfl ?_
        refine zr_iconst C (0 : Int32) d_X9_goWhirl_111 (by decide) ?_
        obtain ⟨ho20, h⟩ := h
        refine zr_iast C (sh_72) ho20 d_X9_goWhirl_112 ?_
        exact hret _ _ _ h d_X9_goWhirl_113
    refine zr_if_eq C 56 d_X9_goWhirl_49 (by decide) (fun hc8 => ?_) (fun hc8 => ?_)
    · skip
      refine zr_iconst C (1 : Int32) d_X9_goWhirl_56 (by decide) ?_
      exact hJ10 _ (by rw [if_pos hc8])
    · skip
      refine zr_iconst C (2 : Int32) d_X9_goWhirl_52 (by decide) ?_
      refine zr_goto C 57 d_X9_goWhirl_53 (by decide) ?_
      exact hJ10 _ (by rw [if_neg hc8])
  refine zr_icmp_ge C 41 d_X9_goWhirl_34 (by decide) (fun hc4 => ?_) (fun hc4 => ?_)
  · skip
    refine zr_iconst C (0 : Int32) d_X9_goWhirl_41 (by decide) ?_
    exact hJ6 _ (by rw [if_pos hc4])
  · skip
    refine zr_iconst C (1 : Int32) d_X9_goWhirl_37 (by decide) ?_
    refine zr_goto C 42 d_X9_goWhirl_38 (by decide) ?_
    exact hJ6 _ (by rw [if_neg hc4])
set_option maxRecDepth 20000 in
theorem c_X9_goWhirl (l : Launch) (g : zG) (p1 : Int32) (p2 : Int32) (σ : zST) (Post : zST → Prop) (h : wp_X9_goWhirl p1 p2 σ Post) : Met l yX9_goWhirl (Cond.code yX9_goWhirl cX9_goWhirl 4 none :: zGW) (zRm 1 21) (va_Pc [.ref (g.2.1 69), .int p1, .int p2] (zPP g σ)) (va_Qv Post (zBB g) (zA g)) 0 0 (zA g) :=
  zMet (by decide) (Nat.le_of_ble_eq_true rfl) (fun p e s m below meth c hr C => g_X9_goWhirl C (fun σ pc lv hp hd => zr_vret C hr hp hd) h)
def wp_X9_goCape (p1 : Int32) (σ : zST) (Post : zST → Prop) : Prop := vp_in p1 6 ∧ vp_in p1 6 ∧ Post (wI (wI σ 69 17 ((σ.1 69 17) + (((σ.1 69 7) * (σ.1 69 8)) * (σ.1 70 p1.toNatClampNeg)))) 73 p1.toNatClampNeg (1 : Int32))
set_option maxRecDepth 100000 in
set_option maxHeartbeats 4000000 in
theorem g_X9_goCape {p : Program} {l : Launch} {e : Env} {R : Room} {s : State} {m : MethodId} {args : Array Value} {below : List Frame} {meth : Method} {c : Code} {Q : State → Prop} {g : zG} {n1 n2 : Nat} (C : zCX p R s m args meth c g n1 n2 cX9_goCape 2 RX9 0 0) {p1 : Int32} {σ : zST} {Post : zST → Prop} (hret : ∀ (σ : zST) (pc : Nat) (lv : List (Nat × Value)), Post σ → decode cX9_goCape pc = .ok (.return_, 1) → zGG p l e R s m args below meth c Q g n1 n2 2 pc lv [] σ) (h : wp_X9_goCape p1 σ Post) : zGG p l e R s m args below meth c Q g n1 n2 2 0 [(0, .ref (g.2.1 69)), (1, .int p1)] [] σ := by
  unfold wp_X9_goCape at h
  refine zr_aload_n C d_X9_goCape_0 rfl ?_
  refine zr_dup C d_X9_goCape_1 rfl ?_
  refine zr_geti C fw_X9_166 (sh_69) rfl d_X9_goCape_2 ?_
  refine zr_aload_n C d_X9_goCape_5 rfl ?_
  refine zr_geti C fw_X9_69 (sh_69) rfl d_X9_goCape_6 ?_
  refine zr_aload_n C d_X9_goCape_9 rfl ?_
  refine zr_geti C fw_X9_72 (sh_69) rfl d_X9_goCape_10 ?_
  refine zr_imul C d_X9_goCape_13 ?_
  refine zr_aload_n C d_X9_goCape_14 rfl ?_
  refine zr_getr (u := 70) C fw_X9_7 (sh_69) rfl d_X9_goCape_15 ?_
  refine zr_iload_n C d_X9_goCape_18 rfl ?_
  obtain ⟨ho1, h⟩ := h
  refine zr_iald C (sh_70) ho1 d_X9_goCape_19 ?_
  refine zr_imul C d_X9_goCape_20 ?_
  refine zr_iadd C d_X9_goCape_21 ?_
  refine zr_puti C fw_X9_166 pw_X9_17 (sh_69) rfl rfl rfl d_X9_goCape_22 ?_
  refine zr_aload_n C d_X9_goCape_25 rfl ?_
  refine zr_getr (u := 73) C fw_X9_19 (sh_69) rfl d_X9_goCape_26 ?_
  refine zr_iload_n C d_X9_goCape_29 rfl ?_
  refine zr_iconst C (1 : Int32) d_X9_goCape_30 (by decide) ?_
  obtain ⟨ho2, h⟩ := h
  refine zr_iast C (sh_73) ho2 d_X9_goCape_31 ?_
  exact hret _ _ _ h d_X9_goCape_32
set_option maxRecDepth 20000 in
theorem c_X9_goCape (l : Launch) (g : zG) (p1 : Int32) (σ : zST) (Post : zST → Prop) (h : wp_X9_goCape p1 σ Post) : Met l yX9_goCape (Cond.code yX9_goCape cX9_goCape 2 none :: zGW) (zRm 0 0) (va_Pc [.ref (g.2.1 69), .int p1] (zPP g σ)) (va_Qv Post (zBB g) (zA g)) 0 0 (zA g) :=
  zMet (by decide) (Nat.le_of_ble_eq_true rfl) (fun p e s m below meth c hr C => g_X9_goCape C (fun σ pc lv hp hd => zr_vret C hr hp hd) h)
def wp_X9_keepNow_L2 (K71 : zST → Prop) : Nat → Int32 → zST → Prop
  | 0, _, _ => False
  | N + 1, v1, σ => (if (6 : Int32) ≤ v1 then K71 σ else vp_in v1 6 ∧ vp_in v1 28 ∧ vp_in v1 6 ∧ ∀ σ5 : zST, σ5 = (wI σ 81 v1.toNatClampNeg (σ.1 70 v1.toNatClampNeg)) → vp_in ((6 : Int32) + v1) 28 ∧ vp_in v1 6 ∧ ∀ σ8 : zST, σ8 = (wI σ5 81 ((6 : Int32) + v1).toNatClampNeg (σ5.1 71 v1.toNatClampNeg)) → vp_in ((12 : Int32) + v1) 28 ∧ vp_in v1 6 ∧ ∀ σ11 : zST, σ11 = (wI σ8 81 ((12 : Int32) + v1).toNatClampNeg (σ8.1 72 v1.toNatClampNeg)) → vp_in ((18 : Int32) + v1) 28 ∧ wp_X9_keepNow_L2 K71 N (v1 + 1) (wI σ11 81 ((18 : Int32) + v1).toNatClampNeg (σ11.1 73 v1.toNatClampNeg)))

set_option maxRecDepth 100000 in
set_option maxHeartbeats 4000000 in
theorem g_X9_keepNow_L2 {p : Program} {l : Launch} {e : Env} {R : Room} {s : State} {m : MethodId} {args : Array Value} {below : List Frame} {meth : Method} {c : Code} {Q : State → Prop} {g : zG} {n1 n2 : Nat} (C : zCX p R s m args meth c g n1 n2 cX9_keepNow 2 RX9 0 0) {K71 : zST → Prop} (hK71 : ∀ (σ : zST), K71 σ → zGG p l e R s m args below meth c Q g n1 n2 2 71 [(0, .ref (g.2.1 69))] [] σ) : ∀ (N : Nat) (v1 : Int32) (σ : zST) , wp_X9_keepNow_L2 K71 N v1 σ → zGG p l e R s m args below meth c Q g n1 n2 2 2 [(0, .ref (g.2.1 69)), (1, .int v1)] [] σ := by
  intro N
  induction N with
  | zero =>
    intro v1 σ h
    exact h.elim
  | succ N ih =>
    intro v1 σ h
    rw [wp_X9_keepNow_L2] at h
    refine zr_iload_n C d_X9_keepNow_2 rfl ?_
    refine zr_bipush C (6 : Int32) d_X9_keepNow_3 (by decide) ?_
    refine zr_icmp_ge C 71 d_X9_keepNow_5 (by decide) (fun hc1 => ?_) (fun hc1 => ?_)
    · rw [if_pos hc1] at h
      exact zr_pick [0] rfl (hK71 σ h)
    · rw [if_neg hc1] at h
      refine zr_aload_n C d_X9_keepNow_8 rfl ?_
      refine zr_getr (u := 81) C fw_X9_43 (sh_69) rfl d_X9_keepNow_9 ?_
      refine zr_iload_n C d_X9_keepNow_12 rfl ?_
      refine zr_aload_n C d_X9_keepNow_13 rfl ?_
      refine zr_getr (u := 70) C fw_X9_7 (sh_69) rfl d_X9_keepNow_14 ?_
      refine zr_iload_n C d_X9_keepNow_17 rfl ?_
      obtain ⟨ho2, h⟩ := h
      refine zr_iald C (sh_70) ho2 d_X9_keepNow_18 ?_
      obtain ⟨ho3, h⟩ := h
      refine zr_iast C (sh_81) ho3 d_X9_keepNow_19 ?_
      refine zr_aload_n C d_X9_keepNow_20 rfl ?_
      refine zr_getr (u := 81) C fw_X9_43 (sh_69) rfl d_X9_keepNow_21 ?_
      refine zr_bipush C (6 : Int32) d_X9_keepNow_24 (by decide) ?_
      refine zr_iload_n C d_X9_keepNow_26 rfl ?_
      refine zr_iadd C d_X9_keepNow_27 ?_
      refine zr_aload_n C d_X9_keepNow_28 rfl ?_
      refine zr_getr (u := 71) C fw_X9_13 (sh_69) rfl d_X9_keepNow_29 ?_
      refine zr_iload_n C d_X9_keepNow_32 rfl ?_
      obtain ⟨ho4, h⟩ := h
      refine zr_tops (fun σ5 hσ5 => ?_)
      replace h := h σ5 hσ5
      refine zr_iald C (sh_71) ho4 d_X9_keepNow_33 ?_
      obtain ⟨ho6, h⟩ := h
      refine zr_iast C (sh_81) ho6 d_X9_keepNow_34 ?_
      refine zr_aload_n C d_X9_keepNow_35 rfl ?_
      refine zr_getr (u := 81) C fw_X9_43 (sh_69) rfl d_X9_keepNow_36 ?_
      refine zr_bipush C (12 : Int32) d_X9_keepNow_39 (by decide) ?_
      refine zr_iload_n C d_X9_keepNow_41 rfl ?_
      refine zr_iadd C d_X9_keepNow_42 ?_
      refine zr_aload_n C d_X9_keepNow_43 rfl ?_
      refine zr_getr (u := 72) C fw_X9_16 (sh_69) rfl d_X9_keepNow_44 ?_
      refine zr_iload_n C d_X9_keepNow_47 rfl ?_
      obtain ⟨ho7, h⟩ := h
      refine zr_tops (fun σ8 hσ8 => ?_)
      replace h := h σ8 hσ8
      refine zr_iald C (sh_72) ho7 d_X9_keepNow_48 ?_
      obtain ⟨ho9, h⟩ := h
      refine zr_iast C (sh_81) ho9 d_X9_keepNow_49 ?_
      refine zr_aload_n C d_X9_keepNow_50 rfl ?_
      refine zr_getr (u := 81) C fw_X9_43 (sh_69) rfl d_X9_keepNow_51 ?_
      refine zr_bipush C (18 : Int32) d_X9_keepNow_54 (by decide) ?_
      refine zr_iload_n C d_X9_keepNow_56 rfl ?_
      refine zr_iadd C d_X9_keepNow_57 ?_
      refine zr_aload_n C d_X9_keepNow_58 rfl ?_
      refine zr_getr (u := 73) C fw_X9_19 (sh_69) rfl d_X9_keepNow_59 ?_
      refine zr_iload_n C d_X9_keepNow_62 rfl ?_
      obtain ⟨ho10, h⟩ := h
      refine zr_tops (fun σ11 hσ11 => ?_)
      replace h := h σ11 hσ11
      refine zr_iald C (sh_73) ho10 d_X9_keepNow_63 ?_
      obtain ⟨ho12, h⟩ := h
      refine zr_iast C (sh_81) ho12 d_X9_keepNow_64 ?_
      refine zr_iinc C (v1 + 1) [(1, .int (v1 + 1)), (0, .ref (g.2.1 69))] d_X9_keepNow_65 rfl rfl (by decide) rfl ?_
      refine zr_goto C 2 d_X9_keepNow_68 (by decide) ?_
      exact zr_pick [1, 0] rfl (ih (v1 + 1) (wI σ11 81 ((18 : Int32) + v1).toNatClampNeg (σ11.1 73 v1.toNatClampNeg)) h)

def wp_X9_keepNow (σ : zST) (Post : zST → Prop) : Prop := ∃ M16 : Nat, wp_X9_keepNow_L2 (fun σ => ∀ σ13 : zST, σ13 = (wI σ 81 (24 : Int32).toNatClampNeg (σ.1 69 12)) → ∀ σ14 : zST, σ14 = (wI σ13 81 (25 : Int32).toNatClampNeg (σ13.1 69 15)) → ∀ σ15 : zST, σ15 = (wI σ14 81 (26 : Int32).toNatClampNeg (σ14.1 69 16)) → Post (wI σ15 81 (27 : Int32).toNatClampNeg (σ15.1 69 17))) M16 (0 : Int32) σ
set_option maxRecDepth 100000 in
set_option maxHeartbeats 4000000 in
theorem g_X9_keepNow {p : Program} {l : Launch} {e : Env} {R : Room} {s : State} {m : MethodId} {args : Array Value} {below : List Frame} {meth : Method} {c : Code} {Q : State → Prop} {g : zG} {n1 n2 : Nat} (C : zCX p R s m args meth c g n1 n2 cX9_keepNow 2 RX9 0 0) {σ : zST} {Post : zST → Prop} (hret : ∀ (σ : zST) (pc : Nat) (lv : List (Nat × Value)), Post σ → decode cX9_keepNow pc = .ok (.return_, 1) → zGG p l e R s m args below meth c Q g n1 n2 2 pc lv [] σ) (h : wp_X9_keepNow σ Post) : zGG p l e R s m args below meth c Q g n1 n2 2 0 [(0, .ref (g.2.1 69))] [] σ := by
  unfold wp_X9_keepNow at h
  refine zr_iconst C (0 : Int32) d_X9_keepNow_0 (by decide) ?_
  refine zr_istore_n C [(1, .int (0 : Int32)), (0, .ref (g.2.1 69))] d_X9_keepNow_1 (by decide) rfl ?_
  obtain ⟨M16, h⟩ := h
  exact zr_pick [1, 0] rfl (g_X9_keepNow_L2 C (fun σ h => by
      refine zr_aload_n C d_X9_keepNow_71 rfl ?_
      refine zr_getr (u := 81) C fw_X9_43 (sh_69) rfl d_X9_keepNow_72 ?_
      refine zr_bipush C (24 : Int32) d_X9_keepNow_75 (by decide) ?_
      refine zr_aload_n C d_X9_keepNow_77 rfl ?_
      refine zr_geti C fw_X9_81 (sh_69) rfl d_X9_keepNow_78 ?_
      refine zr_iast C (sh_81) (by unfold vp_in; decide) d_X9_keepNow_81 ?_
      refine zr_aload_n C d_X9_keepNow_82 rfl ?_
      refine zr_getr (u := 81) C fw_X9_43 (sh_69) rfl d_X9_keepNow_83 ?_
      refine zr_bipush C (25 : Int32) d_X9_keepNow_86 (by decide) ?_
      refine zr_aload_n C d_X9_keepNow_88 rfl ?_
      refine zr_tops (fun σ13 hσ13 => ?_)
      replace h := h σ13 hσ13
      refine zr_geti C fw_X9_151 (sh_69) rfl d_X9_keepNow_89 ?_
      refine zr_iast C (sh_81) (by unfold vp_in; decide) d_X9_keepNow_92 ?_
      refine zr_aload_n C d_X9_keepNow_93 rfl ?_
      refine zr_getr (u := 81) C fw_X9_43 (sh_69) rfl d_X9_keepNow_94 ?_
      refine zr_bipush C (26 : Int32) d_X9_keepNow_97 (by decide) ?_
      refine zr_aload_n C d_X9_keepNow_99 rfl ?_
      refine zr_tops (fun σ14 hσ14 => ?_)
      replace h := h σ14 hσ14
      refine zr_geti C fw_X9_154 (sh_69) rfl d_X9_keepNow_100 ?_
      refine zr_iast C (sh_81) (by unfold vp_in; decide) d_X9_keepNow_103 ?_
      refine zr_aload_n C d_X9_keepNow_104 rfl ?_
      refine zr_getr (u := 81) C fw_X9_43 (sh_69) rfl d_X9_keepNow_105 ?_
      refine zr_bipush C (27 : Int32) d_X9_keepNow_108 (by decide) ?_
      refine zr_aload_n C d_X9_keepNow_110 rfl ?_
      refine zr_tops (fun σ15 hσ15 => ?_)
      replace h := h σ15 hσ15
      refine zr_geti C fw_X9_166 (sh_69) rfl d_X9_keepNow_111 ?_
      refine zr_iast C (sh_81) (by unfold vp_in; decide) d_X9_keepNow_114 ?_
      exact hret _ _ _ h d_X9_keepNow_115) M16 (0 : Int32) σ h)
set_option maxRecDepth 20000 in
theorem c_X9_keepNow (l : Launch) (g : zG) (σ : zST) (Post : zST → Prop) (h : wp_X9_keepNow σ Post) : Met l yX9_keepNow (Cond.code yX9_keepNow cX9_keepNow 2 none :: zGW) (zRm 0 0) (va_Pc [.ref (g.2.1 69)] (zPP g σ)) (va_Qv Post (zBB g) (zA g)) 0 0 (zA g) :=
  zMet (by decide) (Nat.le_of_ble_eq_true rfl) (fun p e s m below meth c hr C => g_X9_keepNow C (fun σ pc lv hp hd => zr_vret C hr hp hd) h)
