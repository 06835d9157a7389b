def wp_X9_years_L59 (v1 : Int32) (v3 : Int32) (v4 : Int32) (σ : zST) (K119 : Int32 → Prop) : Nat → Int32 → Int32 → Int32 → Prop
  | 0, _, _, _ => False
  | N + 1, v5, v6, v7 => (if v3 ≤ v7 then K119 v6 else ∀ x14 : Int32, x14 = ((((75 : Int64) * (v5.toInt64)) + (74 : Int64)) - (((75 : Int64) * (v5.toInt64)) + (74 : Int64)) / (65537 : Int64) * (65537 : Int64)).toInt32 → wp_X9_tenths (x14 - x14 / (24 : Int32) * (24 : Int32)) σ (fun r15 => ∀ z18 : Int32, z18 = (if r15 ≤ ((x14 / (24 : Int32)) - (x14 / (24 : Int32)) / (10 : Int32) * (10 : Int32)) then (0 : Int32) else (1 : Int32)) → ∀ x21 : Int32, x21 = (v6 + z18) → wp_X9_years_L59 v1 v3 v4 σ K119 N x14 x21 (v7 + 1)))

set_option maxRecDepth 100000 in
set_option maxHeartbeats 4000000 in
theorem g_X9_years_L59 {p : Program} {l : Launch} {e : Env} {R : Room} {s : State} {m : MethodId} {args : Array Value} {below : List Frame} {meth : Method} {c : Code} {Q : State → Prop} {g : zG} {n1 n2 : Nat} (C : zCX p R s m args meth c g n1 n2 cX9_years 8 RX9 3 66) {v1 : Int32} {v3 : Int32} {v4 : Int32} {σ : zST} {K119 : Int32 → Prop} (hK119 : ∀ (w6 : Int32), K119 w6 → zGG p l e R s m args below meth c Q g n1 n2 8 119 [(0, .ref (g.2.1 69)), (1, .int v1), (3, .int v3), (4, .int v4), (6, .int w6)] [] σ) : ∀ (N : Nat) (v5 : Int32) (v6 : Int32) (v7 : Int32) , wp_X9_years_L59 v1 v3 v4 σ K119 N v5 v6 v7 → zGG p l e R s m args below meth c Q g n1 n2 8 59 [(0, .ref (g.2.1 69)), (1, .int v1), (3, .int v3), (4, .int v4), (5, .int v5), (6, .int v6), (7, .int v7)] [] σ := by
  intro N
  induction N with
  | zero =>
    intro v5 v6 v7 h
    exact h.elim
  | succ N ih =>
    intro v5 v6 v7 h
    rw [wp_X9_years_L59] at h
    refine zr_iload C d_X9_years_59 rfl ?_
    refine zr_iload_n C d_X9_years_61 rfl ?_
    refine zr_icmp_ge C 119 d_X9_years_62 (by decide) (fun hc13 => ?_) (fun hc13 => ?_)
    · rw [if_pos hc13] at h
      exact zr_pick [0, 1, 2, 3, 5] rfl (hK119 v6 h)
    · rw [if_neg hc13] at h
      refine zr_ldc2 C (v := (75 : Int64)) cl_X9_157 d_X9_years_65 ?_
      refine zr_iload C d_X9_years_68 rfl ?_
      refine zr_i2l C d_X9_years_70 ?_
      refine zr_lmul C d_X9_years_71 ?_
      refine zr_ldc2 C (v := (74 : Int64)) cl_X9_159 d_X9_years_72 ?_
      refine zr_ladd C d_X9_years_75 ?_
      refine zr_ldc2 C (v := (65537 : Int64)) cl_X9_161 d_X9_years_76 ?_
      refine zr_lrem C d_X9_years_79 (by decide) ?_
      refine zr_l2i C d_X9_years_80 ?_
      refine zr_topi (fun x14 hx14 => ?_)
      replace h := h x14 hx14
      refine zr_istore C [(5, .int x14), (0, .ref (g.2.1 69)), (1, .int v1), (3, .int v3), (4, .int v4), (6, .int v6), (7, .int v7)] d_X9_years_81 (by decide) rfl ?_
      refine zr_iload C d_X9_years_83 rfl ?_
      refine zr_iload C d_X9_years_85 rfl ?_
      refine zr_bipush C (24 : Int32) d_X9_years_87 (by decide) ?_
      refine zr_idiv C d_X9_years_89 (by decide) ?_
      refine zr_bipush C (10 : Int32) d_X9_years_90 (by decide) ?_
      refine zr_irem C d_X9_years_92 (by decide) ?_
      refine zr_aload_n C d_X9_years_93 rfl ?_
      refine zr_iload C d_X9_years_94 rfl ?_
      refine zr_bipush C (24 : Int32) d_X9_years_96 (by decide) ?_
      refine zr_irem C d_X9_years_98 (by decide) ?_
      refine zr_cip (zr_runV (As := [.int (x14 - x14 / (24 : Int32) * (24 : Int32))]) (rest := [.int ((x14 / (24 : Int32)) - (x14 / (24 : Int32)) / (10 : Int32) * (10 : Int32)), .int v6]) C vw_X9_163 (c_X9_tenths l g (x14 - x14 / (24 : Int32) * (24 : Int32)) σ _ h) (sh_69) rfl (by decide) (by decide) rfl rfl (Nat.le_of_ble_eq_true rfl) d_X9_years_99) (fun r15 h => ?_)
      have hJ19 : ∀ z18 : Int32, z18 = (if r15 ≤ ((x14 / (24 : Int32)) - (x14 / (24 : Int32)) / (10 : Int32) * (10 : Int32)) then (0 : Int32) else (1 : Int32)) → zGG p l e R s m args below meth c Q g n1 n2 8 110 [(5, .int x14), (0, .ref (g.2.1 69)), (1, .int v1), (3, .int v3), (4, .int v4), (6, .int v6), (7, .int v7)] [.int z18, .int v6] σ := by
        intro z18 hz18
        replace h := h z18 hz18
        refine zr_iadd C d_X9_years_110 ?_
        refine zr_topi (fun x21 hx21 => ?_)
        replace h := h x21 hx21
        refine zr_istore C [(6, .int x21), (5, .int x14), (0, .ref (g.2.1 69)), (1, .int v1), (3, .int v3), (4, .int v4), (7, .int v7)] d_X9_years_111 (by decide) rfl ?_
        refine zr_iinc C (v7 + 1) [(7, .int (v7 + 1)), (6, .int x21), (5, .int x14), (0, .ref (g.2.1 69)), (1, .int v1), (3, .int v3), (4, .int v4)] d_X9_years_113 rfl rfl (by decide) rfl ?_
        refine zr_goto C 59 d_X9_years_116 (by decide) ?_
        exact zr_pick [3, 4, 5, 6, 2, 1, 0] rfl (ih x14 x21 (v7 + 1) h)
      refine zr_icmp_ge C 109 d_X9_years_102 (by decide) (fun hc17 => ?_) (fun hc17 => ?_)
      · skip
        refine zr_iconst C (0 : Int32) d_X9_years_109 (by decide) ?_
        exact hJ19 _ (by rw [if_pos hc17])
      · skip
        refine zr_iconst C (1 : Int32) d_X9_years_105 (by decide) ?_
        refine zr_goto C 110 d_X9_years_106 (by decide) ?_
        exact hJ19 _ (by rw [if_neg hc17])

def wp_X9_years (p1 : Int32) (p2 : Int32) (p3 : Int32) (p4 : Int32) (σ : zST) (Post : Int32 → Prop) : Prop := wp_X9_isShip p1 σ (fun r1 => (if r1 = (0) then Post (-1 : Int32) else wp_X9_in (p2.toInt64) (0 : Int64) (9999 : Int64) σ (fun r4 => (if r4 = (0) then Post (-2 : Int32) else wp_X9_in (p3.toInt64) (1 : Int64) (99 : Int64) σ (fun r7 => (if r7 = (0) then Post (-2 : Int32) else wp_X9_in (p4.toInt64) (0 : Int64) (2 : Int64) σ (fun r10 => (if r10 = (0) then Post (-2 : Int32) else ∃ M28 : Nat, wp_X9_years_L59 p1 p3 p4 σ (fun w6 => (if p4 = (0) then wp_X9_allOf p1 σ (fun r26 => Post (w6 * r26)) else (if p4 = (1 : Int32) then wp_X9_teethTake p1 σ (fun r24 => Post (p3 * r24)) else Post w6))) M28 p2 (0 : Int32) (0 : Int32)))))))))
set_option maxRecDepth 100000 in
set_option maxHeartbeats 4000000 in
theorem g_X9_years {p : Program} {l : Launch} {e : Env} {R : Room} {s : State} {m : MethodId} {args : Array Value} {below : List Frame} {meth : Method} {c : Code} {Q : State → Prop} {g : zG} {n1 n2 : Nat} (C : zCX p R s m args meth c g n1 n2 cX9_years 8 RX9 3 66) {p1 : Int32} {p2 : Int32} {p3 : Int32} {p4 : Int32} {σ : zST} {Post : Int32 → Prop} (hret : ∀ (v : Int32) (pc : Nat) (lv : List (Nat × Value)), Post v → decode cX9_years pc = .ok (.ireturn, 1) → zGG p l e R s m args below meth c Q g n1 n2 8 pc lv [.int v] σ) (h : wp_X9_years p1 p2 p3 p4 σ Post) : zGG p l e R s m args below meth c Q g n1 n2 8 0 [(0, .ref (g.2.1 69)), (1, .int p1), (2, .int p2), (3, .int p3), (4, .int p4)] [] σ := by
  unfold wp_X9_years at h
  refine zr_aload_n C d_X9_years_0 rfl ?_
  refine zr_iload_n C d_X9_years_1 rfl ?_
  refine zr_cip (zr_runV (As := [.int p1]) (rest := []) C vw_X9_112 (c_X9_isShip l g p1 σ _ h) (sh_69) rfl (by decide) (by decide) rfl rfl (Nat.le_of_ble_eq_true rfl) d_X9_years_2) (fun r1 h => ?_)
  refine zr_if_ne C 10 d_X9_years_5 (by decide) (fun hc3 => ?_) (fun hc3 => ?_)
  · rw [if_neg hc3] at h
    refine zr_iload_n C d_X9_years_10 rfl ?_
    refine zr_i2l C d_X9_years_11 ?_
    refine zr_lconst C (0 : Int64) d_X9_years_12 (by decide) ?_
    refine zr_ldc2 C (v := (9999 : Int64)) cl_X9_260 d_X9_years_13 ?_
    refine zr_cip (zr_runS (As := [.long (p2.toInt64), .long (0 : Int64), .long (9999 : Int64)]) (rest := []) C sw_X9_89 (c_X9_in l g (p2.toInt64) (0 : Int64) (9999 : Int64) σ _ h) (by decide) (by decide) rfl rfl (Nat.le_of_ble_eq_true rfl) d_X9_years_16) (fun r4 h => ?_)
    refine zr_if_eq C 47 d_X9_years_19 (by decide) (fun hc6 => ?_) (fun hc6 => ?_)
    · rw [if_pos hc6] at h
      refine zr_bipush C (-2 : Int32) d_X9_years_47 (by decide) ?_
      exact hret _ _ _ h d_X9_years_49
    · rw [if_neg hc6] at h
      refine zr_iload_n C d_X9_years_22 rfl ?_
      refine zr_i2l C d_X9_years_23 ?_
      refine zr_lconst C (1 : Int64) d_X9_years_24 (by decide) ?_
      refine zr_ldc2 C (v := (99 : Int64)) cl_X9_300 d_X9_years_25 ?_
      refine zr_cip (zr_runS (As := [.long (p3.toInt64), .long (1 : Int64), .long (99 : Int64)]) (rest := []) C sw_X9_89 (c_X9_in l g (p3.toInt64) (1 : Int64) (99 : Int64) σ _ h) (by decide) (by decide) rfl rfl (Nat.le_of_ble_eq_true rfl) d_X9_years_28) (fun r7 h => ?_)
      refine zr_if_eq C 47 d_X9_years_31 (by decide) (fun hc9 => ?_) (fun hc9 => ?_)
      · rw [if_pos hc9] at h
        refine zr_bipush C (-2 : Int32) d_X9_years_47 (by decide) ?_
        exact hret _ _ _ h d_X9_years_49
      · rw [if_neg hc9] at h
        refine zr_iload C d_X9_years_34 rfl ?_
        refine zr_i2l C d_X9_years_36 ?_
        refine zr_lconst C (0 : Int64) d_X9_years_37 (by decide) ?_
        refine zr_ldc2 C (v := (2 : Int64)) cl_X9_102 d_X9_years_38 ?_
        refine zr_cip (zr_runS (As := [.long (p4.toInt64), .long (0 : Int64), .long (2 : Int64)]) (rest := []) C sw_X9_89 (c_X9_in l g (p4.toInt64) (0 : Int64) (2 : Int64) σ _ h) (by decide) (by decide) rfl rfl (Nat.le_of_ble_eq_true rfl) d_X9_years_41) (fun r10 h => ?_)
        refine zr_if_ne C 50 d_X9_years_44 (by decide) (fun hc12 => ?_) (fun hc12 => ?_)
        · rw [if_neg hc12] at h
          refine zr_iload_n C d_X9_years_50 rfl ?_
          refine zr_istore C [(5, .int p2), (0, .ref (g.2.1 69)), (1, .int p1), (2, .int p2), (3, .int p3), (4, .int p4)] d_X9_years_51 (by decide) rfl ?_
          refine zr_iconst C (0 : Int32) d_X9_years_53 (by decide) ?_
          refine zr_istore C [(6, .int (0 : Int32)), (5, .int p2), (0, .ref (g.2.1 69)), (1, .int p1), (2, .int p2), (3, .int p3), (4, .int p4)] d_X9_years_54 (by decide) rfl ?_
          refine zr_iconst C (0 : Int32) d_X9_years_56 (by decide) ?_
          refine zr_istore C [(7, .int (0 : Int32)), (6, .int (0 : Int32)), (5, .int p2), (0, .ref (g.2.1 69)), (1, .int p1), (2, .int p2), (3, .int p3), (4, .int p4)] d_X9_years_57 (by decide) rfl ?_
          obtain ⟨M28, h⟩ := h
          exact zr_pick [3, 4, 6, 7, 2, 1, 0] rfl (g_X9_years_L59 C (fun w6 h => by
              refine zr_iload C d_X9_years_119 rfl ?_
              refine zr_if_ne C 135 d_X9_years_121 (by decide) (fun hc22 => ?_) (fun hc22 => ?_)
              · rw [if_neg hc22] at h
                refine zr_iload C d_X9_years_135 rfl ?_
                refine zr_iconst C (1 : Int32) d_X9_years_137 (by decide) ?_
                refine zr_icmp_ne C 151 d_X9_years_138 (by decide) (fun hc23 => ?_) (fun hc23 => ?_)
                · rw [if_neg hc23] at h
                  refine zr_iload C d_X9_years_151 rfl ?_
                  exact hret _ _ _ h d_X9_years_153
                · rw [if_pos hc23] at h
                  refine zr_iload_n C d_X9_years_141 rfl ?_
                  refine zr_aload_n C d_X9_years_142 rfl ?_
                  refine zr_iload_n C d_X9_years_143 rfl ?_
                  refine zr_cip (zr_runV (As := [.int p1]) (rest := [.int p3]) C vw_X9_206 (c_X9_teethTake l g p1 σ _ h) (sh_69) rfl (by decide) (by decide) rfl rfl (Nat.le_of_ble_eq_true rfl) d_X9_years_144) (fun r24 h => ?_)
                  refine zr_imul C d_X9_years_147 ?_
                  refine zr_goto C 153 d_X9_years_148 (by decide) ?_
                  exact hret _ _ _ h d_X9_years_153
              · rw [if_pos hc22] at h
                refine zr_iload C d_X9_years_124 rfl ?_
                refine zr_aload_n C d_X9_years_126 rfl ?_
                refine zr_iload_n C d_X9_years_127 rfl ?_
                refine zr_cip (zr_runV (As := [.int p1]) (rest := [.int w6]) C vw_X9_209 (c_X9_allOf l g p1 σ _ h) (sh_69) rfl (by decide) (by decide) rfl rfl (Nat.le_of_ble_eq_true rfl) d_X9_years_128) (fun r26 h => ?_)
                refine zr_imul C d_X9_years_131 ?_
                refine zr_goto C 153 d_X9_years_132 (by decide) ?_
                exact hret _ _ _ h d_X9_years_153) M28 p2 (0 : Int32) (0 : Int32) h)
        · rw [if_pos hc12] at h
          refine zr_bipush C (-2 : Int32) d_X9_years_47 (by decide) ?_
          exact hret _ _ _ h d_X9_years_49
  · rw [if_pos hc3] at h
    refine zr_iconst C (-1 : Int32) d_X9_years_8 (by decide) ?_
    exact hret _ _ _ h d_X9_years_9
set_option maxRecDepth 20000 in
theorem c_X9_years (l : Launch) (g : zG) (p1 : Int32) (p2 : Int32) (p3 : Int32) (p4 : Int32) (σ : zST) (Post : Int32 → Prop) (h : wp_X9_years p1 p2 p3 p4 σ Post) : Met l yX9_years (Cond.code yX9_years cX9_years 8 (some .int) :: zGW) (zRm 3 66) (va_Pc [.ref (g.2.1 69), .int p1, .int p2, .int p3, .int p4] (zPP g σ)) (va_Qi (fun r u => Post r ∧ u = σ) (zBB g) (zA g)) 0 0 (zA g) :=
  zMet (by decide) (Nat.le_of_ble_eq_true rfl) (fun p e s m below meth c hr C => g_X9_years C (fun v pc lv hp hd => zr_iret C hr ⟨hp, rfl⟩ hd) h)
def wp_X9_pass (p1 : Int32) (σ : zST) (Post : Int32 → zST → Prop) : Prop := (if (σ.1 69 39) = (0) then vp_in (σ.1 69 38) 240 ∧ True else True) ∧ ∀ z2 : Int32, z2 = (if (σ.1 69 39) = (0) then (σ.1 85 (σ.1 69 38).toNatClampNeg) else p1) → vp_in (σ.1 69 38) 240 ∧ ∀ σ7 : zST, σ7 = (wI σ 85 (σ.1 69 38).toNatClampNeg z2) → Post z2 (wI σ7 69 38 ((σ7.1 69 38) + (1 : Int32)))
set_option maxRecDepth 100000 in
set_option maxHeartbeats 4000000 in
theorem g_X9_pass {p : Program} {l : Launch} {e : Env} {R : Room} {s : State} {m : MethodId} {args : Array Value} {below : List Frame} {meth : Method} {c : Code} {Q : State → Prop} {g : zG} {n1 n2 : Nat} (C : zCX p R s m args meth c g n1 n2 cX9_pass 3 RX9 0 0) {p1 : Int32} {σ : zST} {Post : Int32 → zST → Prop} (hret : ∀ (v : Int32) (σ : zST) (pc : Nat) (lv : List (Nat × Value)), Post v σ → decode cX9_pass pc = .ok (.ireturn, 1) → zGG p l e R s m args below meth c Q g n1 n2 3 pc lv [.int v] σ) (h : wp_X9_pass p1 σ Post) : zGG p l e R s m args below meth c Q g n1 n2 3 0 [(0, .ref (g.2.1 69)), (1, .int p1)] [] σ := by
  unfold wp_X9_pass at h
  refine zr_aload_n C d_X9_pass_0 rfl ?_
  refine zr_geti C fw_X9_302 (sh_69) rfl d_X9_pass_1 ?_
  obtain ⟨ho4, h⟩ := h
  have hJ3 : ∀ z2 : Int32, z2 = (if (σ.1 69 39) = (0) then (σ.1 85 (σ.1 69 38).toNatClampNeg) else p1) → zGG p l e R s m args below meth c Q g n1 n2 3 20 [(0, .ref (g.2.1 69)), (1, .int p1)] [.int z2] σ := by
    intro z2 hz2
    replace h := h z2 hz2
    refine zr_istore_n C [(2, .int z2), (0, .ref (g.2.1 69)), (1, .int p1)] d_X9_pass_20 (by decide) rfl ?_
    refine zr_aload_n C d_X9_pass_21 rfl ?_
    refine zr_getr (u := 85) C fw_X9_55 (sh_69) rfl d_X9_pass_22 ?_
    refine zr_aload_n C d_X9_pass_25 rfl ?_
    refine zr_geti C fw_X9_306 (sh_69) rfl d_X9_pass_26 ?_
    refine zr_iload_n C d_X9_pass_29 rfl ?_
    obtain ⟨ho6, h⟩ := h
    refine zr_iast C (sh_85) ho6 d_X9_pass_30 ?_
    refine zr_aload_n C d_X9_pass_31 rfl ?_
    refine zr_dup C d_X9_pass_32 rfl ?_
    refine zr_tops (fun σ7 hσ7 => ?_)
    replace h := h σ7 hσ7
    refine zr_geti C fw_X9_306 (sh_69) rfl d_X9_pass_33 ?_
    refine zr_iconst C (1 : Int32) d_X9_pass_36 (by decide) ?_
    refine zr_iadd C d_X9_pass_37 ?_
    refine zr_puti C fw_X9_306 pw_X9_38 (sh_69) rfl rfl rfl d_X9_pass_38 ?_
    refine zr_iload_n C d_X9_pass_41 rfl ?_
    exact hret _ _ _ _ h d_X9_pass_42
  refine zr_if_eq C 11 d_X9_pass_4 (by decide) (fun hc1 => ?_) (fun hc1 => ?_)
  · skip
    rw [if_pos hc1] at ho4
    refine zr_aload_n C d_X9_pass_11 rfl ?_
    refine zr_getr (u := 85) C fw_X9_55 (sh_69) rfl d_X9_pass_12 ?_
    refine zr_aload_n C d_X9_pass_15 rfl ?_
    refine zr_geti C fw_X9_306 (sh_69) rfl d_X9_pass_16 ?_
    obtain ⟨ho5, ho4⟩ := ho4
    refine zr_iald C (sh_85) ho5 d_X9_pass_19 ?_
    exact hJ3 _ (by rw [if_pos hc1])
  · skip
    rw [if_neg hc1] at ho4
    refine zr_iload_n C d_X9_pass_7 rfl ?_
    refine zr_goto C 20 d_X9_pass_8 (by decide) ?_
    exact hJ3 _ (by rw [if_neg hc1])
set_option maxRecDepth 20000 in
theorem c_X9_pass (l : Launch) (g : zG) (p1 : Int32) (σ : zST) (Post : Int32 → zST → Prop) (h : wp_X9_pass p1 σ Post) : Met l yX9_pass (Cond.code yX9_pass cX9_pass 3 (some .int) :: zGW) (zRm 0 0) (va_Pc [.ref (g.2.1 69), .int p1] (zPP g σ)) (va_Qi Post (zBB g) (zA g)) 0 0 (zA g) :=
  zMet (by decide) (Nat.le_of_ble_eq_true rfl) (fun p e s m below meth c hr C => g_X9_pass C (fun v σ pc lv hp hd => zr_iret C hr hp hd) h)
def wp_X9_passNumbers (σ : zST) (Post : zST → Prop) : Prop := wp_X9_pass (σ.1 69 0) σ (fun r1 σ2 => ∀ σ3 : zST, σ3 = (wI σ2 69 0 r1) → wp_X9_pass (σ3.1 69 5) σ3 (fun r4 σ5 => ∀ σ6 : zST, σ6 = (wI σ5 69 5 r4) → wp_X9_pass (σ6.1 69 6) σ6 (fun r7 σ8 => ∀ σ9 : zST, σ9 = (wI σ8 69 6 r7) → wp_X9_pass (σ9.1 69 7) σ9 (fun r10 σ11 => ∀ σ12 : zST, σ12 = (wI σ11 69 7 r10) → wp_X9_pass (σ12.1 69 8) σ12 (fun r13 σ14 => ∀ σ15 : zST, σ15 = (wI σ14 69 8 r13) → wp_X9_pass (σ15.1 69 9) σ15 (fun r16 σ17 => ∀ σ18 : zST, σ18 = (wI σ17 69 9 r16) → wp_X9_pass (σ18.1 69 10) σ18 (fun r19 σ20 => ∀ σ21 : zST, σ21 = (wI σ20 69 10 r19) → wp_X9_pass (σ21.1 69 11) σ21 (fun r22 σ23 => ∀ σ24 : zST, σ24 = (wI σ23 69 11 r22) → wp_X9_pass (σ24.1 69 12) σ24 (fun r25 σ26 => ∀ σ27 : zST, σ27 = (wI σ26 69 12 r25) → wp_X9_pass (σ27.1 69 14) σ27 (fun r28 σ29 => ∀ σ30 : zST, σ30 = (wI σ29 69 14 r28) → wp_X9_pass (σ30.1 69 15) σ30 (fun r31 σ32 => ∀ σ33 : zST, σ33 = (wI σ32 69 15 r31) → wp_X9_pass (σ33.1 69 16) σ33 (fun r34 σ35 => ∀ σ36 : zST, σ36 = (wI σ35 69 16 r34) → wp_X9_pass (σ36.1 69 17) σ36 (fun r37 σ38 => ∀ σ39 : zST, σ39 = (wI σ38 69 17 r37) → wp_X9_pass (σ39.1 69 18) σ39 (fun r40 σ41 => ∀ σ42 : zST, σ42 = (wI σ41 69 18 r40) → wp_X9_pass (σ42.1 69 21) σ42 (fun r43 σ44 => ∀ σ45 : zST, σ45 = (wI σ44 69 21 r43) → wp_X9_pass (σ45.1 69 25) σ45 (fun r46 σ47 => Post (wI σ47 69 25 r46)))))))))))))))))
set_option maxRecDepth 100000 in
set_option maxHeartbeats 4000000 in
theorem g_X9_passNumbers {p : Program} {l : Launch} {e : Env} {R : Room} {s : State} {m : MethodId} {args : Array Value} {below : List Frame} {meth : Method} {c : Code} {Q : State → Prop} {g : zG} {n1 n2 : Nat} (C : zCX p R s m args meth c g n1 n2 cX9_passNumbers 1 RX9 1 22) {σ : zST} {Post : zST → Prop} (hret : ∀ (σ : zST) (pc : Nat) (lv : List (Nat × Value)), Post σ → decode cX9_passNumbers pc = .ok (.return_, 1) → zGG p l e R s m args below meth c Q g n1 n2 1 pc lv [] σ) (h : wp_X9_passNumbers σ Post) : zGG p l e R s m args below meth c Q g n1 n2 1 0 [(0, .ref (g.2.1 69))] [] σ := by
  unfold wp_X9_passNumbers at h
  refine zr_aload_n C d_X9_passNumbers_0 rfl ?_
  refine zr_aload_n C d_X9_passNumbers_1 rfl ?_
  refine zr_aload_n C d_X9_passNumbers_2 rfl ?_
  refine zr_geti C fw_X9_97 (sh_69) rfl d_X9_passNumbers_3 ?_
  refine zr_ci (zr_runV (As := [.int (σ.1 69 0)]) (rest := [.ref (g.2.1 69)]) C vw_X9_309 (c_X9_pass l g (σ.1 69 0) σ _ h) (sh_69) rfl (by decide) (by decide) rfl rfl (Nat.le_of_ble_eq_true rfl) d_X9_passNumbers_6) (fun r1 σ2 h => ?_)
  refine zr_puti C fw_X9_97 pw_X9_0 (sh_69) rfl rfl rfl d_X9_passNumbers_9 ?_
  refine zr_aload_n C d_X9_passNumbers_12 rfl ?_
  refine zr_aload_n C d_X9_passNumbers_13 rfl ?_
  refine zr_aload_n C d_X9_passNumbers_14 rfl ?_
  refine zr_tops (fun σ3 hσ3 => ?_)
  replace h := h σ3 hσ3
  refine zr_geti C fw_X9_62 (sh_69) rfl d_X9_passNumbers_15 ?_
  refine zr_ci (zr_runV (As := [.int (σ3.1 69 5)]) (rest := [.ref (g.2.1 69)]) C vw_X9_309 (c_X9_pass l g (σ3.1 69 5) σ3 _ h) (sh_69) rfl (by decide) (by decide) rfl rfl (Nat.le_of_ble_eq_true rfl) d_X9_passNumbers_18) (fun r4 σ5 h => ?_)
  refine zr_puti C fw_X9_62 pw_X9_5 (sh_69) rfl rfl rfl d_X9_passNumbers_21 ?_
  refine zr_aload_n C d_X9_passNumbers_24 rfl ?_
  refine zr_aload_n C d_X9_passNumbers_25 rfl ?_
  refine zr_aload_n C d_X9_passNumbers_26 rfl ?_
  refine zr_tops (fun σ6 hσ6 => ?_)
  replace h := h σ6 hσ6
  refine zr_geti C fw_X9_66 (sh_69) rfl d_X9_passNumbers_27 ?_
  refine zr_ci (zr_runV (As := [.int (σ6.1 69 6)]) (rest := [.ref (g.2.1 69)]) C vw_X9_309 (c_X9_pass l g (σ6.1 69 6) σ6 _ h) (sh_69) rfl (by decide) (by decide) rfl rfl (Nat.le_of_ble_eq_true rfl) d_X9_passNumbers_30) (fun r7 σ8 h => ?_)
  refine zr_puti C fw_X9_66 pw_X9_6 (sh_69) rfl rfl rfl d_X9_passNumbers_33 ?_
  refine zr_aload_n C d_X9_passNumbers_36 rfl ?_
  refine zr_aload_n C d_X9_passNumbers_37 rfl ?_
  refine zr_aload_n C d_X9_passNumbers_38 rfl ?_
  refine zr_tops (fun σ9 hσ9 => ?_)
  replace h := h σ9 hσ9
  refine zr_geti C fw_X9_69 (sh_69) rfl d_X9_passNumbers_39 ?_
  refine zr_ci (zr_runV (As := [.int (σ9.1 69 7)]) (rest := [.ref (g.2.1 69)]) C vw_X9_309 (c_X9_pass l g (σ9.1 69 7) σ9 _ h) (sh_69) rfl (by decide) (by decide) rfl rfl (Nat.le_of_ble_eq_true rfl) d_X9_passNumbers_42) (fun r10 σ11 h => ?_)
  refine zr_puti C fw_X9_69 pw_X9_7 (sh_69) rfl rfl rfl d_X9_passNumbers_45 ?_
  refine zr_aload_n C d_X9_passNumbers_48 rfl ?_
  refine zr_aload_n C d_X9_passNumbers_49 rfl ?_
  refine zr_aload_n C d_X9_passNumbers_50 rfl ?_
  refine zr_tops (fun σ12 hσ12 => ?_)
  replace h := h σ12 hσ12
  refine zr_geti C fw_X9_72 (sh_69) rfl d_X9_passNumbers_51 ?_
  refine zr_ci (zr_runV (As := [.int (σ12.1 69 8)]) (rest := [.ref (g.2.1 69)]) C vw_X9_309 (c_X9_pass l g (σ12.1 69 8) σ12 _ h) (sh_69) rfl (by decide) (by decide) rfl rfl (Nat.le_of_ble_eq_true rfl) d_X9_passNumbers_54) (fun r13 σ14 h => ?_)
  refine zr_puti C fw_X9_72 pw_X9_8 (sh_69) rfl rfl rfl d_X9_passNumbers_57 ?_
  refine zr_aload_n C d_X9_passNumbers_60 rfl ?_
  refine zr_aload_n C d_X9_passNumbers_61 rfl ?_
  refine zr_aload_n C d_X9_passNumbers_62 rfl ?_
  refine zr_tops (fun σ15 hσ15 => ?_)
  replace h := h σ15 hσ15
  refine zr_geti C fw_X9_75 (sh_69) rfl d_X9_passNumbers_63 ?_
  refine zr_ci (zr_runV (As := [.int (σ15.1 69 9)]) (rest := [.ref (g.2.1 69)]) C vw_X9_309 (c_X9_pass l g (σ15.1 69 9) σ15 _ h) (sh_69) rfl (by decide) (by decide) rfl rfl (Nat.le_of_ble_eq_true rfl) d_X9_passNumbers_66) (fun r16 σ17 h => ?_)
  refine zr_puti C fw_X9_75 pw_X9_9 (sh_69) rfl rfl rfl d_X9_passNumbers_69 ?_
  refine zr_aload_n C d_X9_passNumbers_72 rfl ?_
  refine zr_aload_n C d_X9_passNumbers_73 rfl ?_
  refine zr_aload_n C d_X9_passNumbers_74 rfl ?_
  refine zr_tops (fun σ18 hσ18 => ?_)
  replace h := h σ18 hσ18
  refine zr_geti C fw_X9_78 (sh_69) rfl d_X9_passNumbers_75 ?_
  refine zr_ci (zr_runV (As := [.int (σ18.1 69 10)]) (rest := [.ref (g.2.1 69)]) C vw_X9_309 (c_X9_pass l g (σ18.1 69 10) σ18 _ h) (sh_69) rfl (by decide) (by decide) rfl rfl (Nat.le_of_ble_eq_true rfl) d_X9_passNumbers_78) (fun r19 σ20 h => ?_)
  refine zr_puti C fw_X9_78 pw_X9_10 (sh_69) rfl rfl rfl d_X9_passNumbers_81 ?_
  refine zr_aload_n C d_X9_passNumbers_84 rfl ?_
  refine zr_aload_n C d_X9_passNumbers_85 rfl ?_
  refine zr_aload_n C d_X9_passNumbers_86 rfl ?_
  refine zr_tops (fun σ21 hσ21 => ?_)
  replace h := h σ21 hσ21
  refine zr_geti C fw_X9_115 (sh_69) rfl d_X9_passNumbers_87 ?_
  refine zr_ci (zr_runV (As := [.int (σ21.1 69 11)]) (rest := [.ref (g.2.1 69)]) C vw_X9_309 (c_X9_pass l g (σ21.1 69 11) σ21 _ h) (sh_69) rfl (by decide) (by decide) rfl rfl (Nat.le_of_ble_eq_true rfl) d_X9_passNumbers_90) (fun r22 σ23 h => ?_)
  refine zr_puti C fw_X9_115 pw_X9_11 (sh_69) rfl rfl rfl d_X9_passNumbers_93 ?_
  refine zr_aload_n C d_X9_passNumbers_96 rfl ?_
  refine zr_aload_n C d_X9_passNumbers_97 rfl ?_
  refine zr_aload_n C d_X9_passNumbers_98 rfl ?_
  refine zr_tops (fun σ24 hσ24 => ?_)
  replace h := h σ24 hσ24
  refine zr_geti C fw_X9_81 (sh_69) rfl d_X9_passNumbers_99 ?_
  refine zr_ci (zr_runV (As := [.int (σ24.1 69 12)]) (rest := [.ref (g.2.1 69)]) C vw_X9_309 (c_X9_pass l g (σ24.1 69 12) σ24 _ h) (sh_69) rfl (by decide) (by decide) rfl rfl (Nat.le_of_ble_eq_true rfl) d_X9_passNumbers_102) (fun r25 σ26 h => ?_)
  refine zr_puti C fw_X9_81 pw_X9_12 (sh_69) rfl rfl rfl d_X9_passNumbers_105 ?_
  refine zr_aload_n C d_X9_passNumbers_108 rfl ?_
  refine zr_aload_n C d_X9_passNumbers_109 rfl ?_
  refine zr_aload_n C d_X9_passNumbers_110 rfl ?_
  refine zr_tops (fun σ27 hσ27 => ?_)
  replace h := h σ27 hσ27
  refine zr_geti C fw_X9_84 (sh_69) rfl d_X9_passNumbers_111 ?_
  refine zr_ci (zr_runV (As := [.int (σ27.1 69 14)]) (rest := [.ref (g.2.1 69)]) C vw_X9_309 (c_X9_pass l g (σ27.1 69 14) σ27 _ h) (sh_69) rfl (by decide) (by decide) rfl rfl (Nat.le_of_ble_eq_true rfl) d_X9_passNumbers_114) (fun r28 σ29 h => ?_)
  refine zr_puti C fw_X9_84 pw_X9_14 (sh_69) rfl rfl rfl d_X9_passNumbers_117 ?_
  refine zr_aload_n C d_X9_passNumbers_120 rfl ?_
  refine zr_aload_n C d_X9_passNumbers_121 rfl ?_
  refine zr_aload_n C d_X9_passNumbers_122 rfl ?_
  refine zr_tops (fun σ30 hσ30 => ?_)
  replace h := h σ30 hσ30
  refine zr_geti C fw_X9_151 (sh_69) rfl d_X9_passNumbers_123 ?_
  refine zr_ci (zr_runV (As := [.int (σ30.1 69 15)]) (rest := [.ref (g.2.1 69)]) C vw_X9_309 (c_X9_pass l g (σ30.1 69 15) σ30 _ h) (sh_69) rfl (by decide) (by decide) rfl rfl (Nat.le_of_ble_eq_true rfl) d_X9_passNumbers_126) (fun r31 σ32 h => ?_)
  refine zr_puti C fw_X9_151 pw_X9_15 (sh_69) rfl rfl rfl d_X9_passNumbers_129 ?_
  refine zr_aload_n C d_X9_passNumbers_132 rfl ?_
  refine zr_aload_n C d_X9_passNumbers_133 rfl ?_
  refine zr_aload_n C d_X9_passNumbers_134 rfl ?_
  refine zr_tops (fun σ33 hσ33 => ?_)
  replace h := h σ33 hσ33
  refine zr_geti C fw_X9_154 (sh_69) rfl d_X9_passNumbers_135 ?_
  refine zr_ci (zr_runV (As := [.int (σ33.1 69 16)]) (rest := [.ref (g.2.1 69)]) C vw_X9_309 (c_X9_pass l g (σ33.1 69 16) σ33 _ h) (sh_69) rfl (by decide) (by decide) rfl rfl (Nat.le_of_ble_eq_true rfl) d_X9_passNumbers_138) (fun r34 σ35 h => ?_)
  refine zr_puti C fw_X9_154 pw_X9_16 (sh_69) rfl rfl rfl d_X9_passNumbers_141 ?_
  refine zr_aload_n C d_X9_passNumbers_144 rfl ?_
  refine zr_aload_n C d_X9_passNumbers_145 rfl ?_
  refine zr_aload_n C d_X9_passNumbers_146 rfl ?_
  refine zr_tops (fun σ36 hσ36 => ?_)
  replace h := h σ36 hσ36
  refine zr_geti C fw_X9_166 (sh_69) rfl d_X9_passNumbers_147 ?_
  refine zr_ci (zr_runV (As := [.int (σ36.1 69 17)]) (rest := [.ref (g.2.1 69)]) C vw_X9_309 (c_X9_pass l g (σ36.1 69 17) σ36 _ h) (sh_69) rfl (by decide) (by decide) rfl rfl (Nat.le_of_ble_eq_true rfl) d_X9_passNumbers_150) (fun r37 σ38 h => ?_)
  refine zr_puti C fw_X9_166 pw_X9_17 (sh_69) rfl rfl rfl d_X9_passNumbers_153 ?_
  refine zr_aload_n C d_X9_passNumbers_156 rfl ?_
  refine zr_aload_n C d_X9_passNumbers_157 rfl ?_
  refine zr_aload_n C d_X9_passNumbers_158 rfl ?_
  refine zr_tops (fun σ39 hσ39 => ?_)
  replace h := h σ39 hσ39
  refine zr_geti C fw_X9_262 (sh_69) rfl d_X9_passNumbers_159 ?_
  refine zr_ci (zr_runV (As := [.int (σ39.1 69 18)]) (rest := [.ref (g.2.1 69)]) C vw_X9_309 (c_X9_pass l g (σ39.1 69 18) σ39 _ h) (sh_69) rfl (by decide) (by decide) rfl rfl (Nat.le_of_ble_eq_true rfl) d_X9_passNumbers_162) (fun r40 σ41 h => ?_)
  refine zr_puti C fw_X9_262 pw_X9_18 (sh_69) rfl rfl rfl d_X9_passNumbers_165 ?_
  refine zr_aload_n C d_X9_passNumbers_168 rfl ?_
  refine zr_aload_n C d_X9_passNumbers_169 rfl ?_
  refine zr_aload_n C d_X9_passNumbers_170 rfl ?_
  refine zr_tops (fun σ42 hσ42 => ?_)
  replace h := h σ42 hσ42
  refine zr_geti C fw_X9_272 (sh_69) rfl d_X9_passNumbers_171 ?_
  refine zr_ci (zr_runV (As := [.int (σ42.1 69 21)]) (rest := [.ref (g.2.1 69)]) C vw_X9_309 (c_X9_pass l g (σ42.1 69 21) σ42 _ h) (sh_69) rfl (by decide) (by decide) rfl rfl (Nat.le_of_ble_eq_true rfl) d_X9_passNumbers_174) (fun r43 σ44 h => ?_)
  refine zr_puti C fw_X9_272 pw_X9_21 (sh_69) rfl rfl rfl d_X9_passNumbers_177 ?_
  refine zr_aload_n C d_X9_passNumbers_180 rfl ?_
  refine zr_aload_n C d_X9_passNumbers_181 rfl ?_
  refine zr_aload_n C d_X9_passNumbers_182 rfl ?_
  refine zr_tops (fun σ45 hσ45 => ?_)
  replace h := h σ45 hσ45
  refine zr_geti C fw_X9_297 (sh_69) rfl d_X9_passNumbers_183 ?_
  refine zr_ci (zr_runV (As := [.int (σ45.1 69 25)]) (rest := [.ref (g.2.1 69)]) C vw_X9_309 (c_X9_pass l g (σ45.1 69 25) σ45 _ h) (sh_69) rfl (by decide) (by decide) rfl rfl (Nat.le_of_ble_eq_true rfl) d_X9_passNumbers_186) (fun r46 σ47 h => ?_)
  refine zr_puti C fw_X9_297 pw_X9_25 (sh_69) rfl rfl rfl d_X9_passNumbers_189 ?_
  exact hret _ _ _ h d_X9_passNumbers_192
set_option maxRecDepth 20000 in
theorem c_X9_passNumbers (l : Launch) (g : zG) (σ : zST) (Post : zST → Prop) (h : wp_X9_passNumbers σ Post) : Met l yX9_passNumbers (Cond.code yX9_passNumbers cX9_passNumbers 1 none :: zGW) (zRm 1 22) (va_Pc [.ref (g.2.1 69)] (zPP g σ)) (va_Qv Post (zBB g) (zA g)) 0 0 (zA g) :=
  zMet (by decide) (Nat.le_of_ble_eq_true rfl) (fun p e s m below meth c hr C => g_X9_passNumbers C (fun σ pc lv hp hd => zr_vret C hr hp hd) h)
def wp_X9_passAll_L6 (K114 : zST → Prop) : Nat → Int32 → zST → Prop
  | 0, _, _ => False
  | N + 1, v1, σ => (if (6 : Int32) ≤ v1 then K114 σ else vp_in v1 6 ∧ wp_X9_pass (σ.1 70 v1.toNatClampNeg) σ (fun r5 σ6 => vp_in v1 6 ∧ vp_in v1 6 ∧ ∀ σ9 : zST, σ9 = (wI σ6 70 v1.toNatClampNeg r5) → wp_X9_pass (σ9.1 71 v1.toNatClampNeg) σ9 (fun r10 σ11 => vp_in v1 6 ∧ vp_in v1 6 ∧ ∀ σ14 : zST, σ14 = (wI σ11 71 v1.toNatClampNeg r10) → wp_X9_pass (σ14.1 72 v1.toNatClampNeg) σ14 (fun r15 σ16 => vp_in v1 6 ∧ vp_in v1 6 ∧ ∀ σ19 : zST, σ19 = (wI σ16 72 v1.toNatClampNeg r15) → wp_X9_pass (σ19.1 73 v1.toNatClampNeg) σ19 (fun r20 σ21 => vp_in v1 6 ∧ vp_in v1 6 ∧ ∀ σ24 : zST, σ24 = (wI σ21 73 v1.toNatClampNeg r20) → wp_X9_pass (σ24.1 78 v1.toNatClampNeg) σ24 (fun r25 σ26 => vp_in v1 6 ∧ vp_in v1 6 ∧ ∀ σ29 : zST, σ29 = (wI σ26 78 v1.toNatClampNeg r25) → wp_X9_pass (σ29.1 79 v1.toNatClampNeg) σ29 (fun r30 σ31 => vp_in v1 6 ∧ wp_X9_passAll_L6 K114 N (v1 + 1) (wI σ31 79 v1.toNatClampNeg r30))))))))

set_option maxRecDepth 100000 in
set_option maxHeartbeats 4000000 in
theorem g_X9_passAll_L6 {p : Program} {l : Launch} {e : Env} {R : Room} {s : State} {m : MethodId} {args : Array Value} {below : List Frame} {meth : Method} {c : Code} {Q : State → Prop} {g : zG} {n1 n2 : Nat} (C : zCX p R s m args meth c g n1 n2 cX9_passAll 2 RX9 2 42) {K114 : zST → Prop} (hK114 : ∀ (σ : zST), K114 σ → zGG p l e R s m args below meth c Q g n1 n2 2 114 [(0, .ref (g.2.1 69))] [] σ) : ∀ (N : Nat) (v1 : Int32) (σ : zST) , wp_X9_passAll_L6 K114 N v1 σ → zGG p l e R s m args below meth c Q g n1 n2 2 6 [(0, .ref (g.2.1 69)), (1, .int v1)] [] σ := by
  intro N
  induction N with
  | zero =>
    intro v1 σ h
    exact h.elim
  | succ N ih =>
    intro v1 σ h
    rw [wp_X9_passAll_L6] at h
    refine zr_iload_n C d_X9_passAll_6 rfl ?_
    refine zr_bipush C (6 : Int32) d_X9_passAll_7 (by decide) ?_
    refine zr_icmp_ge C 114 d_X9_passAll_9 (by decide) (fun hc3 => ?_) (fun hc3 => ?_)
    · rw [if_pos hc3] at h
      exact zr_pick [0] rfl (hK114 σ h)
    · rw [if_neg hc3] at h
      refine zr_aload_n C d_X9_passAll_12 rfl ?_
      refine zr_getr (u := 70) C fw_X9_7 (sh_69) rfl d_X9_passAll_13 ?_
      refine zr_iload_n C d_X9_passAll_16 rfl ?_
      refine zr_aload_n C d_X9_passAll_17 rfl ?_
      refine zr_aload_n C d_X9_passAll_18 rfl ?_
      refine zr_getr (u := 70) C fw_X9_7 (sh_69) rfl d_X9_passAll_19 ?_
      refine zr_iload_n C d_X9_passAll_22 rfl ?_
      obtain ⟨ho4, h⟩ := h
      refine zr_iald C (sh_70) ho4 d_X9_passAll_23 ?_
      refine zr_ci (zr_runV (As := [.int (σ.1 70 v1.toNatClampNeg)]) (rest := [.int v1, .ref (g.2.1 70)]) C vw_X9_309 (c_X9_pass l g (σ.1 70 v1.toNatClampNeg) σ _ h) (sh_69) rfl (by decide) (by decide) rfl rfl (Nat.le_of_ble_eq_true rfl) d_X9_passAll_24) (fun r5 σ6 h => ?_)
      obtain ⟨ho7, h⟩ := h
      refine zr_iast C (sh_70) ho7 d_X9_passAll_27 ?_
      refine zr_aload_n C d_X9_passAll_28 rfl ?_
      refine zr_getr (u := 71) C fw_X9_13 (sh_69) rfl d_X9_passAll_29 ?_
      refine zr_iload_n C d_X9_passAll_32 rfl ?_
      refine zr_aload_n C d_X9_passAll_33 rfl ?_
      refine zr_aload_n C d_X9_passAll_34 rfl ?_
      refine zr_getr (u := 71) C fw_X9_13 (sh_69) rfl d_X9_passAll_35 ?_
      refine zr_iload_n C d_X9_passAll_38 rfl ?_
      obtain ⟨ho8, h⟩ := h
      refine zr_tops (fun σ9 hσ9 => ?_)
      replace h := h σ9 hσ9
      refine zr_iald C (sh_71) ho8 d_X9_passAll_39 ?_
      refine zr_ci (zr_runV (As := [.int (σ9.1 71 v1.toNatClampNeg)]) (rest := [.int v1, .ref (g.2.1 71)]) C vw_X9_309 (c_X9_pass l g (σ9.1 71 v1.toNatClampNeg) σ9 _ h) (sh_69) rfl (by decide) (by decide) rfl rfl (Nat.le_of_ble_eq_true rfl) d_X9_passAll_40) (fun r10 σ11 h => ?_)
      obtain ⟨ho12, h⟩ := h
      refine zr_iast C (sh_71) ho12 d_X9_passAll_43 ?_
      refine zr_aload_n C d_X9_passAll_44 rfl ?_
      refine zr_getr (u := 72) C fw_X9_16 (sh_69) rfl d_X9_passAll_45 ?_
      refine zr_iload_n C d_X9_passAll_48 rfl ?_
      refine zr_aload_n C d_X9_passAll_49 rfl ?_
      refine zr_aload_n C d_X9_passAll_50 rfl ?_
      refine zr_getr (u := 72) C fw_X9_16 (sh_69) rfl d_X9_passAll_51 ?_
      refine zr_iload_n C d_X9_passAll_54 rfl ?_
      obtain ⟨ho13, h⟩ := h
      refine zr_tops (fun σ14 hσ14 => ?_)
      replace h := h σ14 hσ14
      refine zr_iald C (sh_72) ho13 d_X9_passAll_55 ?_
      refine zr_ci (zr_runV (As := [.int (σ14.1 72 v1.toNatClampNeg)]) (rest := [.int v1, .ref (g.2.1 72)]) C vw_X9_309 (c_X9_pass l g (σ14.1 72 v1.toNatClampNeg) σ14 _ h) (sh_69) rfl (by decide) (by decide) rfl rfl (Nat.le_of_ble_eq_true rfl) d_X9_passAll_56) (fun r15 σ16 h => ?_)
      obtain ⟨ho17, h⟩ := h
      refine zr_iast C (sh_72) ho17 d_X9_passAll_59 ?_
      refine zr_aload_n C d_X9_passAll_60 rfl ?_
      refine zr_getr (u := 73) C fw_X9_19 (sh_69) rfl d_X9_passAll_61 ?_
      refine zr_iload_n C d_X9_passAll_64 rfl ?_
      refine zr_aload_n C d_X9_passAll_65 rfl ?_
      refine zr_aload_n C d_X9_passAll_66 rfl ?_
      refine zr_getr (u := 73) C fw_X9_19 (sh_69) rfl d_X9_passAll_67 ?_
      refine zr_iload_n C d_X9_passAll_70 rfl ?_
      obtain ⟨ho18, h⟩ := h
      refine zr_tops (fun σ19 hσ19 => ?_)
      replace h := h σ19 hσ19
      refine zr_iald C (sh_73) ho18 d_X9_passAll_71 ?_
      refine zr_ci (zr_runV (As := [.int (σ19.1 73 v1.toNatClampNeg)]) (rest := [.int v1, .ref (g.2.1 73)]) C vw_X9_309 (c_X9_pass l g (σ19.1 73 v1.toNatClampNeg) σ19 _ h) (sh_69) rfl (by decide) (by decide) rfl rfl (Nat.le_of_ble_eq_true rfl) d_X9_passAll_72) (fun r20 σ21 h => ?_)
      obtain ⟨ho22, h⟩ := h
      refine zr_iast C (sh_73) ho22 d_X9_passAll_75 ?_
      refine zr_aload_n C d_X9_passAll_76 rfl ?_
      refine zr_getr (u := 78) C fw_X9_34 (sh_69) rfl d_X9_passAll_77 ?_
      refine zr_iload_n C d_X9_passAll_80 rfl ?_
      refine zr_aload_n C d_X9_passAll_81 rfl ?_
      refine zr_aload_n C d_X9_passAll_82 rfl ?_
      refine zr_getr (u := 78) C fw_X9_34 (sh_69) rfl d_X9_passAll_83 ?_
      refine zr_iload_n C d_X9_passAll_86 rfl ?_
      obtain ⟨ho23, h⟩ := h
      refine zr_tops (fun σ24 hσ24 => ?_)
      replace h := h σ24 hσ24
      refine zr_iald C (sh_78) ho23 d_X9_passAll_87 ?_
      refine zr_ci (zr_runV (As := [.int (σ24.1 78 v1.toNatClampNeg)]) (rest := [.int v1, .ref (g.2.1 78)]) C vw_X9_309 (c_X9_pass l g (σ24.1 78 v1.toNatClampNeg) σ24 _ h) (sh_69) rfl (by decide) (by decide) rfl rfl (Nat.le_of_ble_eq_true rfl) d_X9_passAll_88) (fun r25 σ26 h => ?_)
      obtain ⟨ho27, h⟩ := h
      refine zr_iast C (sh_78) ho27 d_X9_passAll_91 ?_
      refine zr_aload_n C d_X9_passAll_92 rfl ?_
      refine zr_getr (u := 79) C fw_X9_37 (sh_69) rfl d_X9_passAll_93 ?_
      refine zr_iload_n C d_X9_passAll_96 rfl ?_
      refine zr_aload_n C d_X9_passAll_97 rfl ?_
      refine zr_aload_n C d_X9_passAll_98 rfl ?_
      refine zr_getr (u := 79) C fw_X9_37 (sh_69) rfl d_X9_passAll_99 ?_
      refine zr_iload_n C d_X9_passAll_102 rfl ?_
      obtain ⟨ho28, h⟩ := h
      refine zr_tops (fun σ29 hσ29 => ?_)
      replace h := h σ29 hσ29
      refine zr_iald C (sh_79) ho28 d_X9_passAll_103 ?_
      refine zr_ci (zr_runV (As := [.int (σ29.1 79 v1.toNatClampNeg)]) (rest := [.int v1, .ref (g.2.1 79)]) C vw_X9_309 (c_X9_pass l g (σ29.1 79 v1.toNatClampNeg) σ29 _ h) (sh_69) rfl (by decide) (by decide) rfl rfl (Nat.le_of_ble_eq_true rfl) d_X9_passAll_104) (fun r30 σ31 h => ?_)
      obtain ⟨ho32, h⟩ := h
      refine zr_iast C (sh_79) ho32 d_X9_passAll_107 ?_
      refine zr_iinc C (v1 + 1) [(1, .int (v1 + 1)), (0, .ref (g.2.1 69))] d_X9_passAll_108 rfl rfl (by decide) rfl ?_
      refine zr_goto C 6 d_X9_passAll_111 (by decide) ?_
      exact zr_pick [1, 0] rfl (ih (v1 + 1) (wI σ31 79 v1.toNatClampNeg r30) h)

def wp_X9_passAll_L116 (K159 : zST → Prop) : Nat → Int32 → zST → Prop
  | 0, _, _ => False
  | N + 1, v1, σ => (if (4 : Int32) ≤ v1 then K159 σ else vp_in v1 4 ∧ wp_X9_pass (σ.1 75 v1.toNatClampNeg) σ (fun r35 σ36 => vp_in v1 4 ∧ vp_in v1 4 ∧ ∀ σ39 : zST, σ39 = (wI σ36 75 v1.toNatClampNeg r35) → wp_X9_pass (σ39.1 76 v1.toNatClampNeg) σ39 (fun r40 σ41 => vp_in v1 4 ∧ wp_X9_passAll_L116 K159 N (v1 + 1) (wI σ41 76 v1.toNatClampNeg r40))))

set_option maxRecDepth 100000 in
set_option maxHeartbeats 4000000 in
theorem g_X9_passAll_L116 {p : Program} {l : Launch} {e : Env} {R : Room} {s : State} {m : MethodId} {args : Array Value} {below : List Frame} {meth : Method} {c : Code} {Q : State → Prop} {g : zG} {n1 n2 : Nat} (C : zCX p R s m args meth c g n1 n2 cX9_passAll 2 RX9 2 42) {K159 : zST → Prop} (hK159 : ∀ (σ : zST), K159 σ → zGG p l e R s m args below meth c Q g n1 n2 2 159 [(0, .ref (g.2.1 69))] [] σ) : ∀ (N : Nat) (v1 : Int32) (σ : zST) , wp_X9_passAll_L116 K159 N v1 σ → zGG p l e R s m args below meth c Q g n1 n2 2 116 [(0, .ref (g.2.1 69)), (1, .int v1)] [] σ := by
  intro N
  induction N with
  | zero =>
    intro v1 σ h
    exact h.elim
  | succ N ih =>
    intro v1 σ h
    rw [wp_X9_passAll_L116] at h
    refine zr_iload_n C d_X9_passAll_116 rfl ?_
    refine zr_iconst C (4 : Int32) d_X9_passAll_117 (by decide) ?_
    refine zr_icmp_ge C 159 d_X9_passAll_118 (by decide) (fun hc33 => ?_) (fun hc33 => ?_)
    · rw [if_pos hc33] at h
      exact zr_pick [0] rfl (hK159 σ h)
    · rw [if_neg hc33] at h
      refine zr_aload_n C d_X9_passAll_121 rfl ?_
      refine zr_getr (u := 75) C fw_X9_25 (sh_69) rfl d_X9_passAll_122 ?_
      refine zr_iload_n C d_X9_passAll_125 rfl ?_
      refine zr_aload_n C d_X9_passAll_126 rfl ?_
      refine zr_aload_n C d_X9_passAll_127 rfl ?_
      refine zr_getr (u := 75) C fw_X9_25 (sh_69) rfl d_X9_passAll_128 ?_
      refine zr_iload_n C d_X9_passAll_131 rfl ?_
      obtain ⟨ho34, h⟩ := h
      refine zr_iald C (sh_75) ho34 d_X9_passAll_132 ?_
      refine zr_ci (zr_runV (As := [.int (σ.1 75 v1.toNatClampNeg)]) (rest := [.int v1, .ref (g.2.1 75)]) C vw_X9_309 (c_X9_pass l g (σ.1 75 v1.toNatClampNeg) σ _ h) (sh_69) rfl (by decide) (by decide) rfl rfl (Nat.le_of_ble_eq_true rfl) d_X9_passAll_133) (fun r35 σ36 h => ?_)
      obtain ⟨ho37, h⟩ := h
      refine zr_iast C (sh_75) ho37 d_X9_passAll_136 ?_
      refine zr_aload_n C d_X9_passAll_137 rfl ?_
      refine zr_getr (u := 76) C fw_X9_28 (sh_69) rfl d_X9_passAll_138 ?_
      refine zr_iload_n C d_X9_passAll_141 rfl ?_
      refine zr_aload_n C d_X9_passAll_142 rfl ?_
      refine zr_aload_n C d_X9_passAll_143 rfl ?_
      refine zr_getr (u := 76) C fw_X9_28 (sh_69) rfl d_X9_passAll_144 ?_
      refine zr_iload_n C d_X9_passAll_147 rfl ?_
      obtain ⟨ho38, h⟩ := h
      refine zr_tops (fun σ39 hσ39 => ?_)
      replace h := h σ39 hσ39
      refine zr_iald C (sh_76) ho38 d_X9_passAll_148 ?_
      refine zr_ci (zr_runV (As := [.int (σ39.1 76 v1.toNatClampNeg)]) (rest := [.int v1, .ref (g.2.1 76)]) C vw_X9_309 (c_X9_pass l g (σ39.1 76 v1.toNatClampNeg) σ39 _ h) (sh_69) rfl (by decide) (by decide) rfl rfl (Nat.le_of_ble_eq_true rfl) d_X9_passAll_149) (fun r40 σ41 h => ?_)
      obtain ⟨ho42, h⟩ := h
      refine zr_iast C (sh_76) ho42 d_X9_passAll_152 ?_
      refine zr_iinc C (v1 + 1) [(1, .int (v1 + 1)), (0, .ref (g.2.1 69))] d_X9_passAll_153 rfl rfl (by decide) rfl ?_
      refine zr_goto C 116 d_X9_passAll_156 (by decide) ?_
      exact zr_pick [1, 0] rfl (ih (v1 + 1) (wI σ41 76 v1.toNatClampNeg r40) h)

def wp_X9_passAll_L161 (K189 : zST → Prop) : Nat → Int32 → zST → Prop
  | 0, _, _ => False
  | N + 1, v1, σ => (if (8 : Int32) ≤ v1 then K189 σ else vp_in v1 8 ∧ wp_X9_pass (σ.1 77 v1.toNatClampNeg) σ (fun r45 σ46 => vp_in v1 8 ∧ wp_X9_passAll_L161 K189 N (v1 + 1) (wI σ46 77 v1.toNatClampNeg r45)))

set_option maxRecDepth 100000 in
set_option maxHeartbeats 4000000 in
theorem g_X9_passAll_L161 {p : Program} {l : Launch} {e : Env} {R : Room} {s : State} {m : MethodId} {args : Array Value} {below : List Frame} {meth : Method} {c : Code} {Q : State → Prop} {g : zG} {n1 n2 : Nat} (C : zCX p R s m args meth c g n1 n2 cX9_passAll 2 RX9 2 42) {K189 : zST → Prop} (hK189 : ∀ (σ : zST), K189 σ → zGG p l e R s m args below meth c Q g n1 n2 2 189 [(0, .ref (g.2.1 69))] [] σ) : ∀ (N : Nat) (v1 : Int32) (σ : zST) , wp_X9_passAll_L161 K189 N v1 σ → zGG p l e R s m args below meth c Q g n1 n2 2 161 [(0, .ref (g.2.1 69)), (1, .int v1)] [] σ := by
  intro N
  induction N with
  | zero =>
    intro v1 σ h
    exact h.elim
  | succ N ih =>
    intro v1 σ h
    rw [wp_X9_passAll_L161] at h
    refine zr_iload_n C d_X9_passAll_161 rfl ?_
    refine zr_bipush C (8 : Int32) d_X9_passAll_162 (by decide) ?_
    refine zr_icmp_ge C 189 d_X9_passAll_164 (by decide) (fun hc43 => ?_) (fun hc43 => ?_)
    · rw [if_pos hc43] at h
      exact zr_pick [0] rfl (hK189 σ h)
    · rw [if_neg hc43] at h
      refine zr_aload_n C d_X9_passAll_167 rfl ?_
      refine zr_getr (u := 77) C fw_X9_31 (sh_69) rfl d_X9_passAll_168 ?_
      refine zr_iload_n C d_X9_passAll_171 rfl ?_
      refine zr_aload_n C d_X9_passAll_172 rfl ?_
      refine zr_aload_n C d_X9_passAll_173 rfl ?_
      refine zr_getr (u := 77) C fw_X9_31 (sh_69) rfl d_X9_passAll_174 ?_
      refine zr_iload_n C d_X9_passAll_177 rfl ?_
      obtain ⟨ho44, h⟩ := h
      refine zr_iald C (sh_77) ho44 d_X9_passAll_178 ?_
      refine zr_ci (zr_runV (As := [.int (σ.1 77 v1.toNatClampNeg)]) (rest := [.int v1, .ref (g.2.1 77)]) C vw_X9_309 (c_X9_pass l g (σ.1 77 v1.toNatClampNeg) σ _ h) (sh_69) rfl (by decide) (by decide) rfl rfl (Nat.le_of_ble_eq_true rfl) d_X9_passAll_179) (fun r45 σ46 h => ?_)
      obtain ⟨ho47, h⟩ := h
      refine zr_iast C (sh_77) ho47 d_X9_passAll_182 ?_
      refine zr_iinc C (v1 + 1) [(1, .int (v1 + 1)), (0, .ref (g.2.1 69))] d_X9_passAll_183 rfl rfl (by decide) rfl ?_
      refine zr_goto C 161 d_X9_passAll_186 (by decide) ?_
      exact zr_pick [1, 0] rfl (ih (v1 + 1) (wI σ46 77 v1.toNatClampNeg r45) h)

def wp_X9_passAll_L191 (Post : zST → Prop) : Nat → Int32 → zST → Prop
  | 0, _, _ => False
  | N + 1, v1, σ => (if (24 : Int32) ≤ v1 then Post σ else vp_in v1 24 ∧ wp_X9_pass (σ.1 74 v1.toNatClampNeg) σ (fun r50 σ51 => vp_in v1 24 ∧ wp_X9_passAll_L191 Post N (v1 + 1) (wI σ51 74 v1.toNatClampNeg r50)))

set_option maxRecDepth 100000 in
set_option maxHeartbeats 4000000 in
theorem g_X9_passAll_L191 {p : Program} {l : Launch} {e : Env} {R : Room} {s : State} {m : MethodId} {args : Array Value} {below : List Frame} {meth : Method} {c : Code} {Q : State → Prop} {g : zG} {n1 n2 : Nat} (C : zCX p R s m args meth c g n1 n2 cX9_passAll 2 RX9 2 42)  {Post : zST → Prop} (hret : ∀ (σ : zST) (pc : Nat) (lv : List (Nat × Value)), Post σ → decode cX9_passAll pc = .ok (.return_, 1) → zGG p l e R s m args below meth c Q g n1 n2 2 pc lv [] σ) : ∀ (N : Nat) (v1 : Int32) (σ : zST) , wp_X9_passAll_L191 Post N v1 σ → zGG p l e R s m args below meth c Q g n1 n2 2 191 [(0, .ref (g.2.1 69)), (1, .int v1)] [] σ := by
  intro N
  induction N with
  | zero =>
    intro v1 σ h
    exact h.elim
  | succ N ih =>
    intro v1 σ h
    rw [wp_X9_passAll_L191] at h
    refine zr_iload_n C d_X9_passAll_191 rfl ?_
    refine zr_bipush C (24 : Int32) d_X9_passAll_192 (by decide) ?_
    refine zr_icmp_ge C 219 d_X9_passAll_194 (by decide) (fun hc48 => ?_) (fun hc48 => ?_)
    · rw [if_pos hc48] at h
      exact hret _ _ _ h d_X9_passAll_219
    · rw [if_neg hc48] at h
      refine zr_aload_n C d_X9_passAll_197 rfl ?_
      refine zr_getr (u := 74) C fw_X9_22 (sh_69) rfl d_X9_passAll_198 ?_
      refine zr_iload_n C d_X9_passAll_201 rfl ?_
      refine zr_aload_n C d_X9_passAll_202 rfl ?_
      refine zr_aload_n C d_X9_passAll_203 rfl ?_
      refine zr_getr (u := 74) C fw_X9_22 (sh_69) rfl d_X9_passAll_204 ?_
      refine zr_iload_n C d_X9_passAll_207 rfl ?_
      obtain ⟨ho49, h⟩ := h
      refine zr_iald C (sh_74) ho49 d_X9_passAll_208 ?_
      refine zr_ci (zr_runV (As := [.int (σ.1 74 v1.toNatClampNeg)]) (rest := [.int v1, .ref (g.2.1 74)]) C vw_X9_309 (c_X9_pass l g (σ.1 74 v1.toNatClampNeg) σ _ h) (sh_69) rfl (by decide) (by decide) rfl rfl (Nat.le_of_ble_eq_true rfl) d_X9_passAll_209) (fun r50 σ51 h => ?_)
      obtain ⟨ho52, h⟩ := h
      refine zr_iast C (sh_74) ho52 d_X9_passAll_212 ?_
      refine zr_iinc C (v1 + 1) [(1, .int (v1 + 1)), (0, .ref (g.2.1 69))] d_X9_passAll_213 rfl rfl (by decide) rfl ?_
      refine zr_goto C 191 d_X9_passAll_216 (by decide) ?_
      exact zr_pick [1, 0] rfl (ih (v1 + 1) (wI σ51 74 v1.toNatClampNeg r50) h)

def wp_X9_passAll (σ : zST) (Post : zST → Prop) : Prop := wp_X9_passNumbers σ (fun σ2 => ∃ M56 : Nat, wp_X9_passAll_L6 (fun σ => ∃ M55 : Nat, wp_X9_passAll_L116 (fun σ => ∃ M54 : Nat, wp_X9_passAll_L161 (fun σ => ∃ M53 : Nat, wp_X9_passAll_L191 Post M53 (0 : Int32) σ) M54 (0 : Int32) σ) M55 (0 : Int32) σ) M56 (0 : Int32) σ2)
set_option maxRecDepth 100000 in
set_option maxHeartbeats 4000000 in
theorem g_X9_passAll {p : Program} {l : Launch} {e : Env} {R : Room} {s : State} {m : MethodId} {args : Array Value} {below : List Frame} {meth : Method} {c : Code} {Q : State → Prop} {g : zG} {n1 n2 : Nat} (C : zCX p R s m args meth c g n1 n2 cX9_passAll 2 RX9 2 42) {σ : zST} {Post : zST → Prop} (hret : ∀ (σ : zST) (pc : Nat) (lv : List (Nat × Value)), Post σ → decode cX9_passAll pc = .ok (.return_, 1) → zGG p l e R s m args below meth c Q g n1 n2 2 pc lv [] σ) (h : wp_X9_passAll σ Post) : zGG p l e R s m args below meth c Q g n1 n2 2 0 [(0, .ref (g.2.1 69))] [] σ := by
  unfold wp_X9_passAll at h
  refine zr_aload_n C d_X9_passAll_0 rfl ?_
  refine zr_cv (zr_runV (As := []) (rest := []) C vw_X9_312 (c_X9_passNumbers l g σ _ h) (sh_69) rfl (by decide) (by decide) rfl rfl (Nat.le_of_ble_eq_true rfl) d_X9_passAll_1) (fun σ2 h => ?_)
  refine zr_iconst C (0 : Int32) d_X9_passAll_4 (by decide) ?_
  refine zr_istore_n C [(1, .int (0 : Int32)), (0, .ref (g.2.1 69))] d_X9_passAll_5 (by decide) rfl ?_
  obtain ⟨M56, h⟩ := h
  exact zr_pick [1, 0] rfl (g_X9_passAll_L6 C (fun σ h => by
      refine zr_iconst C (0 : Int32) d_X9_passAll_114 (by decide) ?_
      refine zr_istore_n C [(1, .int (0 : Int32)), (0, .ref (g.2.1 69))] d_X9_passAll_115 (by decide) rfl ?_
      obtain ⟨M55, h⟩ := h
      exact zr_pick [1, 0] rfl (g_X9_passAll_L116 C (fun σ h => by
        refine zr_iconst C (0 : Int32) d_X9_passAll_159 (by decide) ?_
        refine zr_istore_n C [(1, .int (0 : Int32)), (0, .ref (g.2.1 69))] d_X9_passAll_160 (by decide) rfl ?_
        obtain ⟨M54, h⟩ := h
        exact zr_pick [1, 0] rfl (g_X9_passAll_L161 C (fun σ h => by
          refine zr_iconst C (0 : Int32) d_X9_passAll_189 (by decide) ?_
          refine zr_istore_n C [(1, .int (0 : Int32)), (0, .ref (g.2.1 69))] d_X9_passAll_190 (by decide) rfl ?_
          obtain ⟨M53, h⟩ := h
          exact zr_pick [1, 0] rfl (g_X9_passAll_L191 C hret M53 (0 : Int32) σ h)) M54 (0 : Int32) σ h)) M55 (0 : Int32) σ h)) M56 (0 : Int32) σ2 h)
set_option maxRecDepth 20000 in
theorem c_X9_passAll (l : Launch) (g : zG) (σ : zST) (Post : zST → Prop) (h : wp_X9_passAll σ Post) : Met l yX9_passAll (Cond.code yX9_passAll cX9_passAll 2 none :: zGW) (zRm 2 42) (va_Pc [.ref (g.2.1 69)] (zPP g σ)) (va_Qv Post (zBB g) (zA g)) 0 0 (zA g) :=
  zMet (by decide) (Nat.le_of_ble_eq_true rfl) (fun p e s m below meth c hr C => g_X9_passAll C (fun σ pc lv hp hd => zr_vret C hr hp hd) h)
def wp_X9_image (p1 : Int32) (σ : zST) (Post : Int32 → zST → Prop) : Prop := wp_X9_in (p1.toInt64) (0 : Int64) (1 : Int64) σ (fun r1 => (if r1 = (0) then Post (-2 : Int32) σ else ∀ σ4 : zST, σ4 = (wI (wI σ 69 38 ((120 : Int32) * p1)) 69 39 (1 : Int32)) → wp_X9_passAll σ4 (fun σ6 => vp_in p1 2 ∧ Post (1 : Int32) (wI σ6 86 p1.toNatClampNeg (1 : Int32)))))
set_option maxRecDepth 100000 in
set_option maxHeartbeats 4000000 in
theorem g_X9_image {p : Program} {l : Launch} {e : Env} {R : Room} {s : State} {m : MethodId} {args : Array Value} {below : List Frame} {meth : Method} {c : Code} {Q : State → Prop} {g : zG} {n1 n2 : Nat} (C : zCX p R s m args meth c g n1 n2 cX9_image 2 RX9 3 63) {p1 : Int32} {σ : zST} {Post : Int32 → zST → Prop} (hret : ∀ (v : Int32) (σ : zST) (pc : Nat) (lv : List (Nat × Value)), Post v σ → decode cX9_image pc = .ok (.ireturn, 1) → zGG p l e R s m args below meth c Q g n1 n2 2 pc lv [.int v] σ) (h : wp_X9_image p1 σ Post) : zGG p l e R s m args below meth c Q g n1 n2 2 0 [(0, .ref (g.2.1 69)), (1, .int p1)] [] σ := by
  unfold wp_X9_image at h
  refine zr_iload_n C d_X9_image_0 rfl ?_
  refine zr_i2l C d_X9_image_1 ?_
  refine zr_lconst C (0 : Int64) d_X9_image_2 (by decide) ?_
  refine zr_lconst C (1 : Int64) d_X9_image_3 (by decide) ?_
  refine zr_cip (zr_runS (As := [.long (p1.toInt64), .long (0 : Int64), .long (1 : Int64)]) (rest := []) C sw_X9_89 (c_X9_in l g (p1.toInt64) (0 : Int64) (1 : Int64) σ _ h) (by decide) (by decide) rfl rfl (Nat.le_of_ble_eq_true rfl) d_X9_image_4) (fun r1 h => ?_)
  refine zr_if_ne C 13 d_X9_image_7 (by decide) (fun hc3 => ?_) (fun hc3 => ?_)
  · rw [if_neg hc3] at h
    refine zr_aload_n C d_X9_image_13 rfl ?_
    refine zr_bipush C (120 : Int32) d_X9_image_14 (by decide) ?_
    refine zr_iload_n C d_X9_image_16 rfl ?_
    refine zr_imul C d_X9_image_17 ?_
    refine zr_puti C fw_X9_306 pw_X9_38 (sh_69) rfl rfl rfl d_X9_image_18 ?_
    refine zr_aload_n C d_X9_image_21 rfl ?_
    refine zr_iconst C (1 : Int32) d_X9_image_22 (by decide) ?_
    refine zr_puti C fw_X9_302 pw_X9_39 (sh_69) rfl rfl rfl d_X9_image_23 ?_
    refine zr_aload_n C d_X9_image_26 rfl ?_
    refine zr_tops (fun σ4 hσ4 => ?_)
    replace h := h σ4 hσ4
    refine zr_cv (zr_runV (As := []) (rest := []) C vw_X9_315 (c_X9_passAll l g σ4 _ h) (sh_69) rfl (by decide) (by decide) rfl rfl (Nat.le_of_ble_eq_true rfl) d_X9_image_27) (fun σ6 h => ?_)
    refine zr_aload_n C d_X9_image_30 rfl ?_
    refine zr_getr (u := 86) C fw_X9_58 (sh_69) rfl d_X9_image_31 ?_
    refine zr_iload_n C d_X9_image_34 rfl ?_
    refine zr_iconst C (1 : Int32) d_X9_image_35 (by decide) ?_
    obtain ⟨ho7, h⟩ := h
    refine zr_zast C (sh_86) ho7 rfl d_X9_image_36 ?_
    refine zr_iconst C (1 : Int32) d_X9_image_37 (by decide) ?_
    exact hret _ _ _ _ h d_X9_image_38
  · rw [if_pos hc3] at h
    refine zr_bipush C (-2 : Int32) d_X9_image_10 (by decide) ?_
    exact hret _ _ _ _ h d_X9_image_12
set_option maxRecDepth 20000 in
theorem c_X9_image (l : Launch) (g : zG) (p1 : Int32) (σ : zST) (Post : Int32 → zST → Prop) (h : wp_X9_image p1 σ Post) : Met l yX9_image (Cond.code yX9_image cX9_image 2 (some .int) :: zGW) (zRm 3 63) (va_Pc [.ref (g.2.1 69), .int p1] (zPP g σ)) (va_Qi Post (zBB g) (zA g)) 0 0 (zA g) :=
  zMet (by decide) (Nat.le_of_ble_eq_true rfl) (fun p e s m below meth c hr C => g_X9_image C (fun v σ pc lv hp hd => zr_iret C hr hp hd) h)
def wp_X9_restore (p1 : Int32) (σ : zST) (Post : Int32 → zST → Prop) : Prop := wp_X9_in (p1.toInt64) (0 : Int64) (1 : Int64) σ (fun r1 => (if r1 = (0) then Post (-2 : Int32) σ else vp_in p1 2 ∧ (if (σ.1 86 p1.toNatClampNeg) = (0) then Post (-3 : Int32) σ else ∀ σ6 : zST, σ6 = (wI (wI σ 69 38 ((120 : Int32) * p1)) 69 39 (0 : Int32)) → wp_X9_passAll σ6 (fun σ8 => Post (1 : Int32) σ8))))
set_option maxRecDepth 100000 in
set_option maxHeartbeats 4000000 in
theorem g_X9_restore {p : Program} {l : Launch} {e : Env} {R : Room} {s : State} {m : MethodId} {args : Array Value} {below : List Frame} {meth : Method} {c : Code} {Q : State → Prop} {g : zG} {n1 n2 : Nat} (C : zCX p R s m args meth c g n1 n2 cX9_restore 2 RX9 3 63) {p1 : Int32} {σ : zST} {Post : Int32 → zST → Prop} (hret : ∀ (v : Int32) (σ : zST) (pc : Nat) (lv : List (Nat × Value)), Post v σ → decode cX9_restore pc = .ok (.ireturn, 1) → zGG p l e R s m args below meth c Q g n1 n2 2 pc lv [.int v] σ) (h : wp_X9_restore p1 σ Post) : zGG p l e R s m args below meth c Q g n1 n2 2 0 [(0, .ref (g.2.1 69)), (1, .int p1)] [] σ := by
  unfold wp_X9_restore at h
  refine zr_iload_n C d_X9_restore_0 rfl ?_
  refine zr_i2l C d_X9_restore_1 ?_
  refine zr_lconst C (0 : Int64) d_X9_restore_2 (by decide) ?_
  refine zr_lconst C (1 : Int64) d_X9_restore_3 (by decide) ?_
  refine zr_cip (zr_runS (As := [.long (p1.toInt64), .long (0 : Int64), .long (1 : Int64)]) (rest := []) C sw_X9_89 (c_X9_in l g (p1.toInt64) (0 : Int64) (1 : Int64) σ _ h) (by decide) (by decide) rfl rfl (Nat.le_of_ble_eq_true rfl) d_X9_restore_4) (fun r1 h => ?_)
  refine zr_if_ne C 13 d_X9_restore_7 (by decide) (fun hc3 => ?_) (fun hc3 => ?_)
  · rw [if_neg hc3] at h
    refine zr_aload_n C d_X9_restore_13 rfl ?_
    refine zr_getr (u := 86) C fw_X9_58 (sh_69) rfl d_X9_restore_14 ?_
    refine zr_iload_n C d_X9_restore_17 rfl ?_
    obtain ⟨ho4, h⟩ := h
    refine zr_zald C (sh_86) ho4 d_X9_restore_18 ?_
    refine zr_if_ne C 25 d_X9_restore_19 (by decide) (fun hc5 => ?_) (fun hc5 => ?_)
    · rw [if_neg hc5] at h
      refine zr_aload_n C d_X9_restore_25 rfl ?_
      refine zr_bipush C (120 : Int32) d_X9_restore_26 (by decide) ?_
      refine zr_iload_n C d_X9_restore_28 rfl ?_
      refine zr_imul C d_X9_restore_29 ?_
      refine zr_puti C fw_X9_306 pw_X9_38 (sh_69) rfl rfl rfl d_X9_restore_30 ?_
      refine zr_aload_n C d_X9_restore_33 rfl ?_
      refine zr_iconst C (0 : Int32) d_X9_restore_34 (by decide) ?_
      refine zr_puti C fw_X9_302 pw_X9_39 (sh_69) rfl rfl rfl d_X9_restore_35 ?_
      refine zr_aload_n C d_X9_restore_38 rfl ?_
      refine zr_tops (fun σ6 hσ6 => ?_)
      replace h := h σ6 hσ6
      refine zr_cv (zr_runV (As := []) (rest := []) C vw_X9_315 (c_X9_passAll l g σ6 _ h) (sh_69) rfl (by decide) (by decide) rfl rfl (Nat.le_of_ble_eq_true rfl) d_X9_restore_39) (fun σ8 h => ?_)
      refine zr_iconst C (1 : Int32) d_X9_restore_42 (by decide) ?_
      exact hret _ _ _ _ h d_X9_restore_43
    · rw [if_pos hc5] at h
      refine zr_bipush C (-3 : Int32) d_X9_restore_22 (by decide) ?_
      exact hret _ _ _ _ h d_X9_restore_24
  · rw [if_pos hc3] at h
    refine zr_bipush C (-2 : Int32) d_X9_restore_10 (by decide) ?_
    exact hret _ _ _ _ h d_X9_restore_12
set_option maxRecDepth 20000 in
theorem c_X9_restore (l : Launch) (g : zG) (p1 : Int32) (σ : zST) (Post : Int32 → zST → Prop) (h : wp_X9_restore p1 σ Post) : Met l yX9_restore (Cond.code yX9_restore cX9_restore 2 (some .int) :: zGW) (zRm 3 63) (va_Pc [.ref (g.2.1 69), .int p1] (zPP g σ)) (va_Qi Post (zBB g) (zA g)) 0 0 (zA g) :=
  zMet (by decide) (Nat.le_of_ble_eq_true rfl) (fun p e s m below meth c hr C => g_X9_restore C (fun v σ pc lv hp hd => zr_iret C hr hp hd) h)
def wp_X9_toldMany (p1 : Int32) (σ : zST) (Post : Int32 → Prop) : Prop := ∀ z2 : Int32, z2 = (if p1 = (0) then (σ.1 69 27) else (if p1 = (1 : Int32) then (σ.1 69 0) else (if p1 = (10 : Int32) then (σ.1 69 14) else (if p1 = (11 : Int32) then (σ.1 69 18) else (if p1 = (12 : Int32) then (σ.1 69 21) else (if p1 = (13 : Int32) then (σ.1 69 25) else (-2 : Int32))))))) → Post z2
set_option maxRecDepth 100000 in
set_option maxHeartbeats 4000000 in
theorem g_X9_toldMany {p : Program} {l : Launch} {e : Env} {R : Room} {s : State} {m : MethodId} {args : Array Value} {below : List Frame} {meth : Method} {c : Code} {Q : State → Prop} {g : zG} {n1 n2 : Nat} (C : zCX p R s m args meth c g n1 n2 cX9_toldMany 2 RX9 0 0) {p1 : Int32} {σ : zST} {Post : Int32 → Prop} (hret : ∀ (v : Int32) (pc : Nat) (lv : List (Nat × Value)), Post v → decode cX9_toldMany pc = .ok (.ireturn, 1) → zGG p l e R s m args below meth c Q g n1 n2 2 pc lv [.int v] σ) (h : wp_X9_toldMany p1 σ Post) : zGG p l e R s m args below meth c Q g n1 n2 2 0 [(0, .ref (g.2.1 69)), (1, .int p1)] [] σ := by
  unfold wp_X9_toldMany at h
  refine zr_iload_n C d_X9_toldMany_0 rfl ?_
  have hJ3 : ∀ z2 : Int32, z2 = (if p1 = (0) then (σ.1 69 27) else (if p1 = (1 : Int32) then (σ.1 69 0) else (if p1 = (10 : Int32) then (σ.1 69 14) else (if p1 = (11 : Int32) then (σ.1 69 18) else (if p1 = (12 : Int32) then (σ.1 69 21) else (if p1 = (13 : Int32) then (σ.1 69 25) else (-2 : Int32))))))) → zGG p l e R s m args below meth c Q g n1 n2 2 77 [(0, .ref (g.2.1 69)), (1, .int p1)] [.int z2] σ := by
    intro z2 hz2
    replace h := h z2 hz2
    exact hret _ _ _ h d_X9_toldMany_77
  refine zr_if_ne C 11 d_X9_toldMany_1 (by decide) (fun hc1 => ?_) (fun hc1 => ?_)
  · skip
    refine zr_iload_n C d_X9_toldMany_11 rfl ?_
    refine zr_iconst C (1 : Int32) d_X9_toldMany_12 (by decide) ?_
    refine zr_icmp_ne C 23 d_X9_toldMany_13 (by decide) (fun hc5 => ?_) (fun hc5 => ?_)
    · skip
      refine zr_iload_n C d_X9_toldMany_23 rfl ?_
      refine zr_bipush C (10 : Int32) d_X9_toldMany_24 (by decide) ?_
      refine zr_icmp_ne C 36 d_X9_toldMany_26 (by decide) (fun hc6 => ?_) (fun hc6 => ?_)
      · skip
        refine zr_iload_n C d_X9_toldMany_36 rfl ?_
        refine zr_bipush C (11 : Int32) d_X9_toldMany_37 (by decide) ?_
        refine zr_icmp_ne C 49 d_X9_toldMany_39 (by decide) (fun hc7 => ?_) (fun hc7 => ?_)
        · skip
          refine zr_iload_n C d_X9_toldMany_49 rfl ?_
          refine zr_bipush C (12 : Int32) d_X9_toldMany_50 (by decide) ?_
          refine zr_icmp_ne C 62 d_X9_toldMany_52 (by decide) (fun hc8 => ?_) (fun hc8 => ?_)
          · skip
            refine zr_iload_n C d_X9_toldMany_62 rfl ?_
            refine zr_bipush C (13 : Int32) d_X9_toldMany_63 (by decide) ?_
            refine zr_icmp_ne C 75 d_X9_toldMany_65 (by decide) (fun hc9 => ?_) (fun hc9 => ?_)
            · skip
              refine zr_bipush C (-2 : Int32) d_X9_toldMany_75 (by decide) ?_
              exact hJ3 _ (by rw [if_neg hc1, if_neg hc5, if_neg hc6, if_neg hc7, if_neg hc8, if_neg hc9])
            · skip
              refine zr_aload_n C d_X9_toldMany_68 rfl ?_
              refine zr_geti C fw_X9_297 (sh_69) rfl d_X9_toldMany_69 ?_
              refine zr_goto C 77 d_X9_toldMany_72 (by decide) ?_
              exact hJ3 _ (by rw [if_neg hc1, if_neg hc5, if_neg hc6, if_neg hc7, if_neg hc8, if_pos hc9])
          · skip
            refine zr_aload_n C d_X9_toldMany_55 rfl ?_
            refine zr_geti C fw_X9_272 (sh_69) rfl d_X9_toldMany_56 ?_
            refine zr_goto C 77 d_X9_toldMany_59 (by decide) ?_
            exact hJ3 _ (by rw [if_neg hc1, if_neg hc5, if_neg hc6, if_neg hc7, if_pos hc8])
        · skip
          refine zr_aload_n C d_X9_toldMany_42 rfl ?_
          refine zr_geti C fw_X9_262 (sh_69) rfl d_X9_toldMany_43 ?_
          refine zr_goto C 77 d_X9_toldMany_46 (by decide) ?_
          exact hJ3 _ (by rw [if_neg hc1, if_neg hc5, if_neg hc6, if_pos hc7])
      · skip
        refine zr_aload_n C d_X9_toldMany_29 rfl ?_
        refine zr_geti C fw_X9_84 (sh_69) rfl d_X9_toldMany_30 ?_
        refine zr_goto C 77 d_X9_toldMany_33 (by decide) ?_
        exact hJ3 _ (by rw [if_neg hc1, if_neg hc5, if_pos hc6])
    · skip
      refine zr_aload_n C d_X9_toldMany_16 rfl ?_
      refine zr_geti C fw_X9_97 (sh_69) rfl d_X9_toldMany_17 ?_
      refine zr_goto C 77 d_X9_toldMany_20 (by decide) ?_
      exact hJ3 _ (by rw [if_neg hc1, if_pos hc5])
  · skip
    refine zr_aload_n C d_X9_toldMany_4 rfl ?_
    refine zr_geti C fw_X9_130 (sh_69) rfl d_X9_toldMany_5 ?_
    refine zr_goto C 77 d_X9_toldMany_8 (by decide) ?_
    exact hJ3 _ (by rw [if_pos hc1])
set_option maxRecDepth 20000 in
theorem c_X9_toldMany (l : Launch) (g : zG) (p1 : Int32) (σ : zST) (Post : Int32 → Prop) (h : wp_X9_toldMany p1 σ Post) : Met l yX9_toldMany (Cond.code yX9_toldMany cX9_toldMany 2 (some .int) :: zGW) (zRm 0 0) (va_Pc [.ref (g.2.1 69), .int p1] (zPP g σ)) (va_Qi (fun r u => Post r ∧ u = σ) (zBB g) (zA g)) 0 0 (zA g) :=
  zMet (by decide) (Nat.le_of_ble_eq_true rfl) (fun p e s m below meth c hr C => g_X9_toldMany C (fun v pc lv hp hd => zr_iret C hr ⟨hp, rfl⟩ hd) h)
def wp_X9_told (p1 : Int32) (σ : zST) (Post : Int32 → Prop) : Prop := wp_X9_in (p1.toInt64) (2 : Int64) (9 : Int64) σ (fun r1 => (if r1 = (0) then wp_X9_in (p1.toInt64) (20 : Int64) (27 : Int64) σ (fun r4 => (if r4 = (0) then wp_X9_in (p1.toInt64) (30 : Int64) (35 : Int64) σ (fun r7 => (if r7 = (0) then wp_X9_in (p1.toInt64) (100 : Int64) (123 : Int64) σ (fun r10 => (if r10 = (0) then wp_X9_toldMany p1 σ (fun r13 => Post r13) else wp_X9_tenths (p1 - (100 : Int32)) σ (fun r15 => Post r15))) else wp_X9_isShip (p1 - (30 : Int32)) σ (fun r17 => (if r17 = (0) then True else vp_in (p1 - (30 : Int32)) 6 ∧ True) ∧ ∀ z20 : Int32, z20 = (if r17 = (0) then (-2 : Int32) else (σ.1 72 (p1 - (30 : Int32)).toNatClampNeg)) → Post z20))) else wp_X9_isAboard (p1 - (20 : Int32)) σ (fun r24 => (if r24 = (0) then True else vp_in (p1 - (20 : Int32)) 8 ∧ True) ∧ ∀ z27 : Int32, z27 = (if r24 = (0) then (-2 : Int32) else (σ.1 77 (p1 - (20 : Int32)).toNatClampNeg)) → Post z27))) else wp_X9_toldSet (p1 - (2 : Int32)) σ (fun r31 => Post r31)))
set_option maxRecDepth 100000 in
set_option maxHeartbeats 4000000 in
theorem g_X9_told {p : Program} {l : Launch} {e : Env} {R : Room} {s : State} {m : MethodId} {args : Array Value} {below : List Frame} {meth : Method} {c : Code} {Q : State → Prop} {g : zG} {n1 n2 : Nat} (C : zCX p R s m args meth c g n1 n2 cX9_told 2 RX9 3 66) {p1 : Int32} {σ : zST} {Post : Int32 → Prop} (hret : ∀ (v : Int32) (pc : Nat) (lv : List (Nat × Value)), Post v → decode cX9_told pc = .ok (.ireturn, 1) → zGG p l e R s m args below meth c Q g n1 n2 2 pc lv [.int v] σ) (h : wp_X9_told p1 σ Post) : zGG p l e R s m args below meth c Q g n1 n2 2 0 [(0, .ref (g.2.1 69)), (1, .int p1)] [] σ := by
  unfold wp_X9_told at h
  refine zr_iload_n C d_X9_told_0 rfl ?_
  refine zr_i2l C d_X9_told_1 ?_
  refine zr_ldc2 C (v := (2 : Int64)) cl_X9_102 d_X9_told_2 ?_
  refine zr_ldc2 C (v := (9 : Int64)) cl_X9_106 d_X9_told_5 ?_
  refine zr_cip (zr_runS (As := [.long (p1.toInt64), .long (2 : Int64), .long (9 : Int64)]) (rest := []) C sw_X9_89 (c_X9_in l g (p1.toInt64) (2 : Int64) (9 : Int64) σ _ h) (by decide) (by decide) rfl rfl (Nat.le_of_ble_eq_true rfl) d_X9_told_8) (fun r1 h => ?_)
  refine zr_if_eq C 22 d_X9_told_11 (by decide) (fun hc3 => ?_) (fun hc3 => ?_)
  · rw [if_pos hc3] at h
    refine zr_iload_n C d_X9_told_22 rfl ?_
    refine zr_i2l C d_X9_told_23 ?_
    refine zr_ldc2 C (v := (20 : Int64)) cl_X9_318 d_X9_told_24 ?_
    refine zr_ldc2 C (v := (27 : Int64)) cl_X9_320 d_X9_told_27 ?_
    refine zr_cip (zr_runS (As := [.long (p1.toInt64), .long (20 : Int64), .long (27 : Int64)]) (rest := []) C sw_X9_89 (c_X9_in l g (p1.toInt64) (20 : Int64) (27 : Int64) σ _ h) (by decide) (by decide) rfl rfl (Nat.le_of_ble_eq_true rfl) d_X9_told_30) (fun r4 h => ?_)
    refine zr_if_eq C 62 d_X9_told_33 (by decide) (fun hc6 => ?_) (fun hc6 => ?_)
    · rw [if_pos hc6] at h
      refine zr_iload_n C d_X9_told_62 rfl ?_
      refine zr_i2l C d_X9_told_63 ?_
      refine zr_ldc2 C (v := (30 : Int64)) cl_X9_104 d_X9_told_64 ?_
      refine zr_ldc2 C (v := (35 : Int64)) cl_X9_322 d_X9_told_67 ?_
      refine zr_cip (zr_runS (As := [.long (p1.toInt64), .long (30 : Int64), .long (35 : Int64)]) (rest := []) C sw_X9_89 (c_X9_in l g (p1.toInt64) (30 : Int64) (35 : Int64) σ _ h) (by decide) (by decide) rfl rfl (Nat.le_of_ble_eq_true rfl) d_X9_told_70) (fun r7 h => ?_)
      refine zr_if_eq C 102 d_X9_told_73 (by decide) (fun hc9 => ?_) (fun hc9 => ?_)
      · rw [if_pos hc9] at h
        refine zr_iload_n C d_X9_told_102 rfl ?_
        refine zr_i2l C d_X9_told_103 ?_
        refine zr_ldc2 C (v := (100 : Int64)) cl_X9_324 d_X9_told_104 ?_
        refine zr_ldc2 C (v := (123 : Int64)) cl_X9_326 d_X9_told_107 ?_
        refine zr_cip (zr_runS (As := [.long (p1.toInt64), .long (100 : Int64), .long (123 : Int64)]) (rest := []) C sw_X9_89 (c_X9_in l g (p1.toInt64) (100 : Int64) (123 : Int64) σ _ h) (by decide) (by decide) rfl rfl (Nat.le_of_ble_eq_true rfl) d_X9_told_110) (fun r10 h => ?_)
        refine zr_if_eq C 127 d_X9_told_113 (by decide) (fun hc12 => ?_) (fun hc12 => ?_)
        · rw [if_pos hc12] at h
          refine zr_aload_n C d_X9_told_127 rfl ?_
          refine zr_iload_n C d_X9_told_128 rfl ?_
          refine zr_cip (zr_runV (As := [.int p1]) (rest := []) C vw_X9_328 (c_X9_toldMany l g p1 σ _ h) (sh_69) rfl (by decide) (by decide) rfl rfl (Nat.le_of_ble_eq_true rfl) d_X9_told_129) (fun r13 h => ?_)
          exact hret _ _ _ h d_X9_told_132
        · rw [if_neg hc12] at h
          refine zr_aload_n C d_X9_told_116 rfl ?_
          refine zr_iload_n C d_X9_told_117 rfl ?_
          refine zr_bipush C (100 : Int32) d_X9_told_118 (by decide) ?_
          refine zr_isub C d_X9_told_120 ?_
          refine zr_cip (zr_runV (As := [.int (p1 - (100 : Int32))]) (rest := []) C vw_X9_163 (c_X9_tenths l g (p1 - (100 : Int32)) σ _ h) (sh_69) rfl (by decide) (by decide) rfl rfl (Nat.le_of_ble_eq_true rfl) d_X9_told_121) (fun r15 h => ?_)
          refine zr_goto C 132 d_X9_told_124 (by decide) ?_
          exact hret _ _ _ h d_X9_told_132
      · rw [if_neg hc9] at h
        refine zr_aload_n C d_X9_told_76 rfl ?_
        refine zr_iload_n C d_X9_told_77 rfl ?_
        refine zr_bipush C (30 : Int32) d_X9_told_78 (by decide) ?_
        refine zr_isub C d_X9_told_80 ?_
        refine zr_cip (zr_runV (As := [.int (p1 - (30 : Int32))]) (rest := []) C vw_X9_112 (c_X9_isShip l g (p1 - (30 : Int32)) σ _ h) (sh_69) rfl (by decide) (by decide) rfl rfl (Nat.le_of_ble_eq_true rfl) d_X9_told_81) (fun r17 h => ?_)
        obtain ⟨ho22, h⟩ := h
        have hJ21 : ∀ z20 : Int32, z20 = (if r17 = (0) then (-2 : Int32) else (σ.1 72 (p1 - (30 : Int32)).toNatClampNeg)) → zGG p l e R s m args below meth c Q g n1 n2 2 101 [(0, .ref (g.2.1 69)), (1, .int p1)] [.int z20] σ := by
          intro z20 hz20
          replace h := h z20 hz20
          exact hret _ _ _ h d_X9_told_101
        refine zr_if_eq C 99 d_X9_told_84 (by decide) (fun hc19 => ?_) (fun hc19 => ?_)
        · skip
          rw [if_pos hc19] at ho22
          refine zr_bipush C (-2 : Int32) d_X9_told_99 (by decide) ?_
          exact hJ21 _ (by rw [if_pos hc19])
        · skip
          rw [if_neg hc19] at ho22
          refine zr_aload_n C d_X9_told_87 rfl ?_
          refine zr_getr (u := 72) C fw_X9_16 (sh_69) rfl d_X9_told_88 ?_
          refine zr_iload_n C d_X9_told_91 rfl ?_
          refine zr_bipush C (30 : Int32) d_X9_told_92 (by decide) ?_
          refine zr_isub C d_X9_told_94 ?_
          obtain ⟨ho23, ho22⟩ := ho22
          refine zr_iald C (sh_72) ho23 d_X9_told_95 ?_
          refine zr_goto C 101 d_X9_told_96 (by decide) ?_
          exact hJ21 _ (by rw [if_neg hc19])
    · rw [if_neg hc6] at h
      refine zr_aload_n C d_X9_told_36 rfl ?_
      refine zr_iload_n C d_X9_told_37 rfl ?_
      refine zr_bipush C (20 : Int32) d_X9_told_38 (by decide) ?_
      refine zr_isub C d_X9_told_40 ?_
      refine zr_cip (zr_runV (As := [.int (p1 - (20 : Int32))]) (rest := []) C vw_X9_275 (c_X9_isAboard l g (p1 - (20 : Int32)) σ _ h) (sh_69) rfl (by decide) (by decide) rfl rfl (Nat.le_of_ble_eq_true rfl) d_X9_told_41) (fun r24 h => ?_)
      obtain ⟨ho29, h⟩ := h
      have hJ28 : ∀ z27 : Int32, z27 = (if r24 = (0) then (-2 : Int32) else (σ.1 77 (p1 - (20 : Int32)).toNatClampNeg)) → zGG p l e R s m args below meth c Q g n1 n2 2 61 [(0, .ref (g.2.1 69)), (1, .int p1)] [.int z27] σ := by
        intro z27 hz27
        replace h := h z27 hz27
        exact hret _ _ _ h d_X9_told_61
      refine zr_if_eq C 59 d_X9_told_44 (by decide) (fun hc26 => ?_) (fun hc26 => ?_)
      · skip
        rw [if_pos hc26] at ho29
        refine zr_bipush C (-2 : Int32) d_X9_told_59 (by decide) ?_
        exact hJ28 _ (by rw [if_pos hc26])
      · skip
        rw [if_neg hc26] at ho29
        refine zr_aload_n C d_X9_told_47 rfl ?_
        refine zr_getr (u := 77) C fw_X9_31 (sh_69) rfl d_X9_told_48 ?_
        refine zr_iload_n C d_X9_told_51 rfl ?_
        refine zr_bipush C (20 : Int32) d_X9_told_52 (by decide) ?_
        refine zr_isub C d_X9_told_54 ?_
        obtain ⟨ho30, ho29⟩ := ho29
        refine zr_iald C (sh_77) ho30 d_X9_told_55 ?_
        refine zr_goto C 61 d_X9_told_56 (by decide) ?_
        exact hJ28 _ (by rw [if_neg hc26])
  · rw [if_neg hc3] at h
    refine zr_aload_n C d_X9_told_14 rfl ?_
    refine zr_iload_n C d_X9_told_15 rfl ?_
    refine zr_iconst C (2 : Int32) d_X9_told_16 (by decide) ?_
    refine zr_isub C d_X9_told_17 ?_
    refine zr_cip (zr_runV (As := [.int (p1 - (2 : Int32))]) (rest := []) C vw_X9_123 (c_X9_toldSet l g (p1 - (2 : Int32)) σ _ h) (sh_69) rfl (by decide) (by decide) rfl rfl (Nat.le_of_ble_eq_true rfl) d_X9_told_18) (fun r31 h => ?_)
    exact hret _ _ _ h d_X9_told_21
set_option maxRecDepth 20000 in
theorem c_X9_told (l : Launch) (g : zG) (p1 : Int32) (σ : zST) (Post : Int32 → Prop) (h : wp_X9_told p1 σ Post) : Met l yX9_told (Cond.code yX9_told cX9_told 2 (some .int) :: zGW) (zRm 3 66) (va_Pc [.ref (g.2.1 69), .int p1] (zPP g σ)) (va_Qi (fun r u => Post r ∧ u = σ) (zBB g) (zA g)) 0 0 (zA g) :=
  zMet (by decide) (Nat.le_of_ble_eq_true rfl) (fun p e s m below meth c hr C => g_X9_told C (fun v pc lv hp hd => zr_iret C hr ⟨hp, rfl⟩ hd) h)
