def wp_X9_putBack_L2 (K71 : zST → Prop) : Nat → Int32 → zST → Prop
  | 0, _, _ => False
  | N + 1, v1, σ => (if (6 : Int32) ≤ v1 then K71 σ else vp_in v1 28 ∧ vp_in v1 6 ∧ vp_in ((6 : Int32) + v1) 28 ∧ ∀ σ5 : zST, σ5 = (wI σ 70 v1.toNatClampNeg (σ.1 81 v1.toNatClampNeg)) → vp_in v1 6 ∧ vp_in ((12 : Int32) + v1) 28 ∧ ∀ σ8 : zST, σ8 = (wI σ5 71 v1.toNatClampNeg (σ5.1 81 ((6 : Int32) + v1).toNatClampNeg)) → vp_in v1 6 ∧ vp_in ((18 : Int32) + v1) 28 ∧ ∀ σ11 : zST, σ11 = (wI σ8 72 v1.toNatClampNeg (σ8.1 81 ((12 : Int32) + v1).toNatClampNeg)) → vp_in v1 6 ∧ wp_X9_putBack_L2 K71 N (v1 + 1) (wI σ11 73 v1.toNatClampNeg (σ11.1 81 ((18 : Int32) + v1).toNatClampNeg)))

set_option maxRecDepth 100000 in
set_option maxHeartbeats 4000000 in
theorem g_X9_putBack_L2 {p : Program} {l : Launch} {e : Env} {R : Room} {s : State} {m : MethodId} {args : Array Value} {below : List Frame} {meth : Method} {c : Code} {Q : State → Prop} {g : zG} {n1 n2 : Nat} (C : zCX p R s m args meth c g n1 n2 cX9_putBack 2 RX9 0 0) {K71 : zST → Prop} (hK71 : ∀ (σ : zST), K71 σ → zGG p l e R s m args below meth c Q g n1 n2 2 71 [(0, .ref (g.2.1 69))] [] σ) : ∀ (N : Nat) (v1 : Int32) (σ : zST) , wp_X9_putBack_L2 K71 N v1 σ → zGG p l e R s m args below meth c Q g n1 n2 2 2 [(0, .ref (g.2.1 69)), (1, .int v1)] [] σ := by
  intro N
  induction N with
  | zero =>
    intro v1 σ h
    exact h.elim
  | succ N ih =>
    intro v1 σ h
    rw [wp_X9_putBack_L2] at h
    refine zr_iload_n C d_X9_putBack_2 rfl ?_
    refine zr_bipush C (6 : Int32) d_X9_putBack_3 (by decide) ?_
    refine zr_icmp_ge C 71 d_X9_putBack_5 (by decide) (fun hc1 => ?_) (fun hc1 => ?_)
    · rw [if_pos hc1] at h
      exact zr_pick [0] rfl (hK71 σ h)
    · rw [if_neg hc1] at h
      refine zr_aload_n C d_X9_putBack_8 rfl ?_
      refine zr_getr (u := 70) C fw_X9_7 (sh_69) rfl d_X9_putBack_9 ?_
      refine zr_iload_n C d_X9_putBack_12 rfl ?_
      refine zr_aload_n C d_X9_putBack_13 rfl ?_
      refine zr_getr (u := 81) C fw_X9_43 (sh_69) rfl d_X9_putBack_14 ?_
      refine zr_iload_n C d_X9_putBack_17 rfl ?_
      obtain ⟨ho2, h⟩ := h
      refine zr_iald C (sh_81) ho2 d_X9_putBack_18 ?_
      obtain ⟨ho3, h⟩ := h
      refine zr_iast C (sh_70) ho3 d_X9_putBack_19 ?_
      refine zr_aload_n C d_X9_putBack_20 rfl ?_
      refine zr_getr (u := 71) C fw_X9_13 (sh_69) rfl d_X9_putBack_21 ?_
      refine zr_iload_n C d_X9_putBack_24 rfl ?_
      refine zr_aload_n C d_X9_putBack_25 rfl ?_
      refine zr_getr (u := 81) C fw_X9_43 (sh_69) rfl d_X9_putBack_26 ?_
      refine zr_bipush C (6 : Int32) d_X9_putBack_29 (by decide) ?_
      refine zr_iload_n C d_X9_putBack_31 rfl ?_
      refine zr_iadd C d_X9_putBack_32 ?_
      obtain ⟨ho4, h⟩ := h
      refine zr_tops (fun σ5 hσ5 => ?_)
      replace h := h σ5 hσ5
      refine zr_iald C (sh_81) ho4 d_X9_putBack_33 ?_
      obtain ⟨ho6, h⟩ := h
      refine zr_iast C (sh_71) ho6 d_X9_putBack_34 ?_
      refine zr_aload_n C d_X9_putBack_35 rfl ?_
      refine zr_getr (u := 72) C fw_X9_16 (sh_69) rfl d_X9_putBack_36 ?_
      refine zr_iload_n C d_X9_putBack_39 rfl ?_
      refine zr_aload_n C d_X9_putBack_40 rfl ?_
      refine zr_getr (u := 81) C fw_X9_43 (sh_69) rfl d_X9_putBack_41 ?_
      refine zr_bipush C (12 : Int32) d_X9_putBack_44 (by decide) ?_
      refine zr_iload_n C d_X9_putBack_46 rfl ?_
      refine zr_iadd C d_X9_putBack_47 ?_
      obtain ⟨ho7, h⟩ := h
      refine zr_tops (fun σ8 hσ8 => ?_)
      replace h := h σ8 hσ8
      refine zr_iald C (sh_81) ho7 d_X9_putBack_48 ?_
      obtain ⟨ho9, h⟩ := h
      refine zr_iast C (sh_72) ho9 d_X9_putBack_49 ?_
      refine zr_aload_n C d_X9_putBack_50 rfl ?_
      refine zr_getr (u := 73) C fw_X9_19 (sh_69) rfl d_X9_putBack_51 ?_
      refine zr_iload_n C d_X9_putBack_54 rfl ?_
      refine zr_aload_n C d_X9_putBack_55 rfl ?_
      refine zr_getr (u := 81) C fw_X9_43 (sh_69) rfl d_X9_putBack_56 ?_
      refine zr_bipush C (18 : Int32) d_X9_putBack_59 (by decide) ?_
      refine zr_iload_n C d_X9_putBack_61 rfl ?_
      refine zr_iadd C d_X9_putBack_62 ?_
      obtain ⟨ho10, h⟩ := h
      refine zr_tops (fun σ11 hσ11 => ?_)
      replace h := h σ11 hσ11
      refine zr_iald C (sh_81) ho10 d_X9_putBack_63 ?_
      obtain ⟨ho12, h⟩ := h
      refine zr_iast C (sh_73) ho12 d_X9_putBack_64 ?_
      refine zr_iinc C (v1 + 1) [(1, .int (v1 + 1)), (0, .ref (g.2.1 69))] d_X9_putBack_65 rfl rfl (by decide) rfl ?_
      refine zr_goto C 2 d_X9_putBack_68 (by decide) ?_
      exact zr_pick [1, 0] rfl (ih (v1 + 1) (wI σ11 73 v1.toNatClampNeg (σ11.1 81 ((18 : Int32) + v1).toNatClampNeg)) h)

def wp_X9_putBack (σ : zST) (Post : zST → Prop) : Prop := ∃ M16 : Nat, wp_X9_putBack_L2 (fun σ => ∀ σ13 : zST, σ13 = (wI σ 69 12 (σ.1 81 (24 : Int32).toNatClampNeg)) → ∀ σ14 : zST, σ14 = (wI σ13 69 15 (σ13.1 81 (25 : Int32).toNatClampNeg)) → ∀ σ15 : zST, σ15 = (wI σ14 69 16 (σ14.1 81 (26 : Int32).toNatClampNeg)) → Post (wI σ15 69 17 (σ15.1 81 (27 : Int32).toNatClampNeg))) M16 (0 : Int32) σ
set_option maxRecDepth 100000 in
set_option maxHeartbeats 4000000 in
theorem g_X9_putBack {p : Program} {l : Launch} {e : Env} {R : Room} {s : State} {m : MethodId} {args : Array Value} {below : List Frame} {meth : Method} {c : Code} {Q : State → Prop} {g : zG} {n1 n2 : Nat} (C : zCX p R s m args meth c g n1 n2 cX9_putBack 2 RX9 0 0) {σ : zST} {Post : zST → Prop} (hret : ∀ (σ : zST) (pc : Nat) (lv : List (Nat × Value)), Post σ → decode cX9_putBack pc = .ok (.return_, 1) → zGG p l e R s m args below meth c Q g n1 n2 2 pc lv [] σ) (h : wp_X9_putBack σ Post) : zGG p l e R s m args below meth c Q g n1 n2 2 0 [(0, .ref (g.2.1 69))] [] σ := by
  unfold wp_X9_putBack at h
  refine zr_iconst C (0 : Int32) d_X9_putBack_0 (by decide) ?_
  refine zr_istore_n C [(1, .int (0 : Int32)), (0, .ref (g.2.1 69))] d_X9_putBack_1 (by decide) rfl ?_
  obtain ⟨M16, h⟩ := h
  exact zr_pick [1, 0] rfl (g_X9_putBack_L2 C (fun σ h => by
      refine zr_aload_n C d_X9_putBack_71 rfl ?_
      refine zr_aload_n C d_X9_putBack_72 rfl ?_
      refine zr_getr (u := 81) C fw_X9_43 (sh_69) rfl d_X9_putBack_73 ?_
      refine zr_bipush C (24 : Int32) d_X9_putBack_76 (by decide) ?_
      refine zr_iald C (sh_81) (by unfold vp_in; decide) d_X9_putBack_78 ?_
      refine zr_puti C fw_X9_81 pw_X9_12 (sh_69) rfl rfl rfl d_X9_putBack_79 ?_
      refine zr_aload_n C d_X9_putBack_82 rfl ?_
      refine zr_aload_n C d_X9_putBack_83 rfl ?_
      refine zr_getr (u := 81) C fw_X9_43 (sh_69) rfl d_X9_putBack_84 ?_
      refine zr_bipush C (25 : Int32) d_X9_putBack_87 (by decide) ?_
      refine zr_tops (fun σ13 hσ13 => ?_)
      replace h := h σ13 hσ13
      refine zr_iald C (sh_81) (by unfold vp_in; decide) d_X9_putBack_89 ?_
      refine zr_puti C fw_X9_151 pw_X9_15 (sh_69) rfl rfl rfl d_X9_putBack_90 ?_
      refine zr_aload_n C d_X9_putBack_93 rfl ?_
      refine zr_aload_n C d_X9_putBack_94 rfl ?_
      refine zr_getr (u := 81) C fw_X9_43 (sh_69) rfl d_X9_putBack_95 ?_
      refine zr_bipush C (26 : Int32) d_X9_putBack_98 (by decide) ?_
      refine zr_tops (fun σ14 hσ14 => ?_)
      replace h := h σ14 hσ14
      refine zr_iald C (sh_81) (by unfold vp_in; decide) d_X9_putBack_100 ?_
      refine zr_puti C fw_X9_154 pw_X9_16 (sh_69) rfl rfl rfl d_X9_putBack_101 ?_
      refine zr_aload_n C d_X9_putBack_104 rfl ?_
      refine zr_aload_n C d_X9_putBack_105 rfl ?_
      refine zr_getr (u := 81) C fw_X9_43 (sh_69) rfl d_X9_putBack_106 ?_
      refine zr_bipush C (27 : Int32) d_X9_putBack_109 (by decide) ?_
      refine zr_tops (fun σ15 hσ15 => ?_)
      replace h := h σ15 hσ15
      refine zr_iald C (sh_81) (by unfold vp_in; decide) d_X9_putBack_111 ?_
      refine zr_puti C fw_X9_166 pw_X9_17 (sh_69) rfl rfl rfl d_X9_putBack_112 ?_
      exact hret _ _ _ h d_X9_putBack_115) M16 (0 : Int32) σ h)
set_option maxRecDepth 20000 in
theorem c_X9_putBack (l : Launch) (g : zG) (σ : zST) (Post : zST → Prop) (h : wp_X9_putBack σ Post) : Met l yX9_putBack (Cond.code yX9_putBack cX9_putBack 2 none :: zGW) (zRm 0 0) (va_Pc [.ref (g.2.1 69)] (zPP g σ)) (va_Qv Post (zBB g) (zA g)) 0 0 (zA g) :=
  zMet (by decide) (Nat.le_of_ble_eq_true rfl) (fun p e s m below meth c hr C => g_X9_putBack C (fun σ pc lv hp hd => zr_vret C hr hp hd) h)
def wp_X9_order (p1 : Int32) (p2 : Int32) (p3 : Int32) (σ : zST) (Post : zST → Prop) : Prop := wp_X9_isShip p1 σ (fun r1 => (if r1 = (0) then True else vp_in p1 6 ∧ True) ∧ ∀ z4 : Int32, z4 = (if r1 = (0) then (1 : Int32) else (if (σ.1 73 p1.toNatClampNeg) = (0) then (-6 : Int32) else (2 : Int32))) → ∀ σ9 : zST, σ9 = (wI σ 69 30 z4) → (if (σ9.1 69 30) ≤ (0) then (if p2 = (84 : Int32) then wp_X9_goTeeth p1 σ9 (fun σ18 => Post σ18) else (if p2 = (87 : Int32) then wp_X9_goWhirl p1 p3 σ9 (fun σ16 => Post σ16) else wp_X9_goCape p1 σ9 (fun σ14 => Post σ14))) else Post (wI σ9 69 29 (σ9.1 69 31))))
set_option maxRecDepth 100000 in
set_option maxHeartbeats 4000000 in
theorem g_X9_order {p : Program} {l : Launch} {e : Env} {R : Room} {s : State} {m : MethodId} {args : Array Value} {below : List Frame} {meth : Method} {c : Code} {Q : State → Prop} {g : zG} {n1 n2 : Nat} (C : zCX p R s m args meth c g n1 n2 cX9_order 4 RX9 3 66) {p1 : Int32} {p2 : Int32} {p3 : Int32} {σ : zST} {Post : zST → Prop} (hret : ∀ (σ : zST) (pc : Nat) (lv : List (Nat × Value)), Post σ → decode cX9_order pc = .ok (.return_, 1) → zGG p l e R s m args below meth c Q g n1 n2 4 pc lv [] σ) (h : wp_X9_order p1 p2 p3 σ Post) : zGG p l e R s m args below meth c Q g n1 n2 4 0 [(0, .ref (g.2.1 69)), (1, .int p1), (2, .int p2), (3, .int p3)] [] σ := by
  unfold wp_X9_order at h
  refine zr_aload_n C d_X9_order_0 rfl ?_
  refine zr_aload_n C d_X9_order_1 rfl ?_
  refine zr_iload_n C d_X9_order_2 rfl ?_
  refine zr_cip (zr_runV (As := [.int p1]) (rest := [.ref (g.2.1 69)]) C vw_X9_112 (c_X9_isShip l g p1 σ _ h) (sh_69) rfl (by decide) (by decide) rfl rfl (Nat.le_of_ble_eq_true rfl) d_X9_order_3) (fun r1 h => ?_)
  obtain ⟨ho6, h⟩ := h
  have hJ5 : ∀ z4 : Int32, z4 = (if r1 = (0) then (1 : Int32) else (if (σ.1 73 p1.toNatClampNeg) = (0) then (-6 : Int32) else (2 : Int32))) → zGG p l e R s m args below meth c Q g n1 n2 4 28 [(0, .ref (g.2.1 69)), (1, .int p1), (2, .int p2), (3, .int p3)] [.int z4, .ref (g.2.1 69)] σ := by
    intro z4 hz4
    replace h := h z4 hz4
    refine zr_puti C fw_X9_169 pw_X9_30 (sh_69) rfl rfl rfl d_X9_order_28 ?_
    refine zr_aload_n C d_X9_order_31 rfl ?_
    refine zr_tops (fun σ9 hσ9 => ?_)
    replace h := h σ9 hσ9
    refine zr_geti C fw_X9_169 (sh_69) rfl d_X9_order_32 ?_
    refine zr_if_le C 49 d_X9_order_35 (by decide) (fun hc10 => ?_) (fun hc10 => ?_)
    · rw [if_pos hc10] at h
      refine zr_iload_n C d_X9_order_49 rfl ?_
      refine zr_bipush C (84 : Int32) d_X9_order_50 (by decide) ?_
      refine zr_icmp_ne C 63 d_X9_order_52 (by decide) (fun hc11 => ?_) (fun hc11 => ?_)
      · rw [if_neg hc11] at h
        refine zr_iload_n C d_X9_order_63 rfl ?_
        refine zr_bipush C (87 : Int32) d_X9_order_64 (by decide) ?_
        refine zr_icmp_ne C 78 d_X9_order_66 (by decide) (fun hc12 => ?_) (fun hc12 => ?_)
        · rw [if_neg hc12] at h
          refine zr_aload_n C d_X9_order_78 rfl ?_
          refine zr_iload_n C d_X9_order_79 rfl ?_
          refine zr_cv (zr_runV (As := [.int p1]) (rest := []) C vw_X9_186 (c_X9_goCape l g p1 σ9 _ h) (sh_69) rfl (by decide) (by decide) rfl rfl (Nat.le_of_ble_eq_true rfl) d_X9_order_80) (fun σ14 h => ?_)
          exact hret _ _ _ h d_X9_order_83
        · rw [if_pos hc12] at h
          refine zr_aload_n C d_X9_order_69 rfl ?_
          refine zr_iload_n C d_X9_order_70 rfl ?_
          refine zr_iload_n C d_X9_order_71 rfl ?_
          refine zr_cv (zr_runV (As := [.int p1, .int p3]) (rest := []) C vw_X9_182 (c_X9_goWhirl l g p1 p3 σ9 _ h) (sh_69) rfl (by decide) (by decide) rfl rfl (Nat.le_of_ble_eq_true rfl) d_X9_order_72) (fun σ16 h => ?_)
          refine zr_goto C 83 d_X9_order_75 (by decide) ?_
          exact hret _ _ _ h d_X9_order_83
      · rw [if_pos hc11] at h
        refine zr_aload_n C d_X9_order_55 rfl ?_
        refine zr_iload_n C d_X9_order_56 rfl ?_
        refine zr_cv (zr_runV (As := [.int p1]) (rest := []) C vw_X9_178 (c_X9_goTeeth l g p1 σ9 _ h) (sh_69) rfl (by decide) (by decide) rfl rfl (Nat.le_of_ble_eq_true rfl) d_X9_order_57) (fun σ18 h => ?_)
        refine zr_goto C 83 d_X9_order_60 (by decide) ?_
        exact hret _ _ _ h d_X9_order_83
    · rw [if_neg hc10] at h
      refine zr_aload_n C d_X9_order_38 rfl ?_
      refine zr_aload_n C d_X9_order_39 rfl ?_
      refine zr_geti C fw_X9_172 (sh_69) rfl d_X9_order_40 ?_
      refine zr_puti C fw_X9_175 pw_X9_29 (sh_69) rfl rfl rfl d_X9_order_43 ?_
      refine zr_goto C 83 d_X9_order_46 (by decide) ?_
      exact hret _ _ _ h d_X9_order_83
  refine zr_if_ne C 13 d_X9_order_6 (by decide) (fun hc3 => ?_) (fun hc3 => ?_)
  · skip
    rw [if_neg hc3] at ho6
    refine zr_aload_n C d_X9_order_13 rfl ?_
    refine zr_getr (u := 73) C fw_X9_19 (sh_69) rfl d_X9_order_14 ?_
    refine zr_iload_n C d_X9_order_17 rfl ?_
    obtain ⟨ho7, ho6⟩ := ho6
    refine zr_iald C (sh_73) ho7 d_X9_order_18 ?_
    refine zr_if_eq C 26 d_X9_order_19 (by decide) (fun hc8 => ?_) (fun hc8 => ?_)
    · skip
      refine zr_bipush C (-6 : Int32) d_X9_order_26 (by decide) ?_
      exact hJ5 _ (by rw [if_neg hc3, if_pos hc8])
    · skip
      refine zr_iconst C (2 : Int32) d_X9_order_22 (by decide) ?_
      refine zr_goto C 28 d_X9_order_23 (by decide) ?_
      exact hJ5 _ (by rw [if_neg hc3, if_neg hc8])
  · skip
    rw [if_pos hc3] at ho6
    refine zr_iconst C (1 : Int32) d_X9_order_9 (by decide) ?_
    refine zr_goto C 28 d_X9_order_10 (by decide) ?_
    exact hJ5 _ (by rw [if_pos hc3])
set_option maxRecDepth 20000 in
theorem c_X9_order (l : Launch) (g : zG) (p1 : Int32) (p2 : Int32) (p3 : Int32) (σ : zST) (Post : zST → Prop) (h : wp_X9_order p1 p2 p3 σ Post) : Met l yX9_order (Cond.code yX9_order cX9_order 4 none :: zGW) (zRm 3 66) (va_Pc [.ref (g.2.1 69), .int p1, .int p2, .int p3] (zPP g σ)) (va_Qv Post (zBB g) (zA g)) 0 0 (zA g) :=
  zMet (by decide) (Nat.le_of_ble_eq_true rfl) (fun p e s m below meth c hr C => g_X9_order C (fun σ pc lv hp hd => zr_vret C hr hp hd) h)
def wp_X9_goSeason_L21 (Post : zST → Prop) : Nat → Int32 → Int32 → zST → Prop
  | 0, _, _, _ => False
  | N + 1, v1, v2, σ => (if (σ.1 69 27) ≤ v2 then Post σ else (if (0) ≤ (σ.1 69 29) then Post σ else vp_in v2 60 ∧ (if (σ.1 80 v2.toNatClampNeg) = (46 : Int32) then wp_X9_goSeason_L21 Post N (v1 + 1) (v2 + 1) (wI σ 69 31 ((σ.1 69 31) + (1 : Int32))) else vp_in v2 60 ∧ vp_in (v2 + (1 : Int32)) 60 ∧ wp_X9_order ((σ.1 80 v2.toNatClampNeg) - (65 : Int32)) (σ.1 80 (v2 + (1 : Int32)).toNatClampNeg) v1 σ (fun σ8 => wp_X9_goSeason_L21 Post N v1 ((v2 + 1) + 1) (wI σ8 69 31 ((σ8.1 69 31) + (1 : Int32)))))))

set_option maxRecDepth 100000 in
set_option maxHeartbeats 4000000 in
theorem g_X9_goSeason_L21 {p : Program} {l : Launch} {e : Env} {R : Room} {s : State} {m : MethodId} {args : Array Value} {below : List Frame} {meth : Method} {c : Code} {Q : State → Prop} {g : zG} {n1 n2 : Nat} (C : zCX p R s m args meth c g n1 n2 cX9_goSeason 3 RX9 4 89)  {Post : zST → Prop} (hret : ∀ (σ : zST) (pc : Nat) (lv : List (Nat × Value)), Post σ → decode cX9_goSeason pc = .ok (.return_, 1) → zGG p l e R s m args below meth c Q g n1 n2 3 pc lv [] σ) : ∀ (N : Nat) (v1 : Int32) (v2 : Int32) (σ : zST) , wp_X9_goSeason_L21 Post N v1 v2 σ → zGG p l e R s m args below meth c Q g n1 n2 3 21 [(0, .ref (g.2.1 69)), (1, .int v1), (2, .int v2)] [] σ := by
  intro N
  induction N with
  | zero =>
    intro v1 v2 σ h
    exact h.elim
  | succ N ih =>
    intro v1 v2 σ h
    rw [wp_X9_goSeason_L21] at h
    refine zr_iload_n C d_X9_goSeason_21 rfl ?_
    refine zr_aload_n C d_X9_goSeason_22 rfl ?_
    refine zr_geti C fw_X9_130 (sh_69) rfl d_X9_goSeason_23 ?_
    refine zr_icmp_ge C 94 d_X9_goSeason_26 (by decide) (fun hc1 => ?_) (fun hc1 => ?_)
    · rw [if_pos hc1] at h
      exact hret _ _ _ h d_X9_goSeason_94
    · rw [if_neg hc1] at h
      refine zr_aload_n C d_X9_goSeason_29 rfl ?_
      refine zr_geti C fw_X9_175 (sh_69) rfl d_X9_goSeason_30 ?_
      refine zr_if_ge C 94 d_X9_goSeason_33 (by decide) (fun hc2 => ?_) (fun hc2 => ?_)
      · rw [if_pos hc2] at h
        exact hret _ _ _ h d_X9_goSeason_94
      · rw [if_neg hc2] at h
        refine zr_aload_n C d_X9_goSeason_36 rfl ?_
        refine zr_getr (u := 80) C fw_X9_40 (sh_69) rfl d_X9_goSeason_37 ?_
        refine zr_iload_n C d_X9_goSeason_40 rfl ?_
        obtain ⟨ho3, h⟩ := h
        refine zr_iald C (sh_80) ho3 d_X9_goSeason_41 ?_
        refine zr_bipush C (46 : Int32) d_X9_goSeason_42 (by decide) ?_
        refine zr_icmp_ne C 53 d_X9_goSeason_44 (by decide) (fun hc4 => ?_) (fun hc4 => ?_)
        · rw [if_neg hc4] at h
          refine zr_aload_n C d_X9_goSeason_53 rfl ?_
          refine zr_aload_n C d_X9_goSeason_54 rfl ?_
          refine zr_getr (u := 80) C fw_X9_40 (sh_69) rfl d_X9_goSeason_55 ?_
          refine zr_iload_n C d_X9_goSeason_58 rfl ?_
          obtain ⟨ho5, h⟩ := h
          refine zr_iald C (sh_80) ho5 d_X9_goSeason_59 ?_
          refine zr_bipush C (65 : Int32) d_X9_goSeason_60 (by decide) ?_
          refine zr_isub C d_X9_goSeason_62 ?_
          refine zr_aload_n C d_X9_goSeason_63 rfl ?_
          refine zr_getr (u := 80) C fw_X9_40 (sh_69) rfl d_X9_goSeason_64 ?_
          refine zr_iload_n C d_X9_goSeason_67 rfl ?_
          refine zr_iconst C (1 : Int32) d_X9_goSeason_68 (by decide) ?_
          refine zr_iadd C d_X9_goSeason_69 ?_
          obtain ⟨ho6, h⟩ := h
          refine zr_iald C (sh_80) ho6 d_X9_goSeason_70 ?_
          refine zr_iload_n C d_X9_goSeason_71 rfl ?_
          refine zr_cv (zr_runV (As := [.int ((σ.1 80 v2.toNatClampNeg) - (65 : Int32)), .int (σ.1 80 (v2 + (1 : Int32)).toNatClampNeg), .int v1]) (rest := []) C vw_X9_189 (c_X9_order l g ((σ.1 80 v2.toNatClampNeg) - (65 : Int32)) (σ.1 80 (v2 + (1 : Int32)).toNatClampNeg) v1 σ _ h) (sh_69) rfl (by decide) (by decide) rfl rfl (Nat.le_of_ble_eq_true rfl) d_X9_goSeason_72) (fun σ8 h => ?_)
          refine zr_iinc C (v2 + 1) [(2, .int (v2 + 1)), (0, .ref (g.2.1 69)), (1, .int v1)] d_X9_goSeason_75 rfl rfl (by decide) rfl ?_
          refine zr_aload_n C d_X9_goSeason_78 rfl ?_
          refine zr_dup C d_X9_goSeason_79 rfl ?_
          refine zr_geti C fw_X9_172 (sh_69) rfl d_X9_goSeason_80 ?_
          refine zr_iconst C (1 : Int32) d_X9_goSeason_83 (by decide) ?_
          refine zr_iadd C d_X9_goSeason_84 ?_
          refine zr_puti C fw_X9_172 pw_X9_31 (sh_69) rfl rfl rfl d_X9_goSeason_85 ?_
          refine zr_iinc C ((v2 + 1) + 1) [(2, .int ((v2 + 1) + 1)), (0, .ref (g.2.1 69)), (1, .int v1)] d_X9_goSeason_88 rfl rfl (by decide) rfl ?_
          refine zr_goto C 21 d_X9_goSeason_91 (by decide) ?_
          exact zr_pick [1, 2, 0] rfl (ih v1 ((v2 + 1) + 1) (wI σ8 69 31 ((σ8.1 69 31) + (1 : Int32))) h)
        · rw [if_pos hc4] at h
          refine zr_iinc C (v1 + 1) [(1, .int (v1 + 1)), (0, .ref (g.2.1 69)), (2, .int v2)] d_X9_goSeason_47 rfl rfl (by decide) rfl ?_
          refine zr_goto C 78 d_X9_goSeason_50 (by decide) ?_
          refine zr_aload_n C d_X9_goSeason_78 rfl ?_
          refine zr_dup C d_X9_goSeason_79 rfl ?_
          refine zr_geti C fw_X9_172 (sh_69) rfl d_X9_goSeason_80 ?_
          refine zr_iconst C (1 : Int32) d_X9_goSeason_83 (by decide) ?_
          refine zr_iadd C d_X9_goSeason_84 ?_
          refine zr_puti C fw_X9_172 pw_X9_31 (sh_69) rfl rfl rfl d_X9_goSeason_85 ?_
          refine zr_iinc C (v2 + 1) [(2, .int (v2 + 1)), (1, .int (v1 + 1)), (0, .ref (g.2.1 69))] d_X9_goSeason_88 rfl rfl (by decide) rfl ?_
          refine zr_goto C 21 d_X9_goSeason_91 (by decide) ?_
          exact zr_pick [2, 1, 0] rfl (ih (v1 + 1) (v2 + 1) (wI σ 69 31 ((σ.1 69 31) + (1 : Int32))) h)

def wp_X9_goSeason (σ : zST) (Post : zST → Prop) : Prop := ∃ M9 : Nat, wp_X9_goSeason_L21 Post M9 (0 : Int32) (0 : Int32) (wI (wI (wI σ 69 29 (-6 : Int32)) 69 30 (-6 : Int32)) 69 31 (0 : Int32))
set_option maxRecDepth 100000 in
set_option maxHeartbeats 4000000 in
theorem g_X9_goSeason {p : Program} {l : Launch} {e : Env} {R : Room} {s : State} {m : MethodId} {args : Array Value} {below : List Frame} {meth : Method} {c : Code} {Q : State → Prop} {g : zG} {n1 n2 : Nat} (C : zCX p R s m args meth c g n1 n2 cX9_goSeason 3 RX9 4 89) {σ : zST} {Post : zST → Prop} (hret : ∀ (σ : zST) (pc : Nat) (lv : List (Nat × Value)), Post σ → decode cX9_goSeason pc = .ok (.return_, 1) → zGG p l e R s m args below meth c Q g n1 n2 3 pc lv [] σ) (h : wp_X9_goSeason σ Post) : zGG p l e R s m args below meth c Q g n1 n2 3 0 [(0, .ref (g.2.1 69))] [] σ := by
  unfold wp_X9_goSeason at h
  refine zr_aload_n C d_X9_goSeason_0 rfl ?_
  refine zr_bipush C (-6 : Int32) d_X9_goSeason_1 (by decide) ?_
  refine zr_puti C fw_X9_175 pw_X9_29 (sh_69) rfl rfl rfl d_X9_goSeason_3 ?_
  refine zr_aload_n C d_X9_goSeason_6 rfl ?_
  refine zr_bipush C (-6 : Int32) d_X9_goSeason_7 (by decide) ?_
  refine zr_puti C fw_X9_169 pw_X9_30 (sh_69) rfl rfl rfl d_X9_goSeason_9 ?_
  refine zr_aload_n C d_X9_goSeason_12 rfl ?_
  refine zr_iconst C (0 : Int32) d_X9_goSeason_13 (by decide) ?_
  refine zr_puti C fw_X9_172 pw_X9_31 (sh_69) rfl rfl rfl d_X9_goSeason_14 ?_
  refine zr_iconst C (0 : Int32) d_X9_goSeason_17 (by decide) ?_
  refine zr_istore_n C [(1, .int (0 : Int32)), (0, .ref (g.2.1 69))] d_X9_goSeason_18 (by decide) rfl ?_
  refine zr_iconst C (0 : Int32) d_X9_goSeason_19 (by decide) ?_
  refine zr_istore_n C [(2, .int (0 : Int32)), (1, .int (0 : Int32)), (0, .ref (g.2.1 69))] d_X9_goSeason_20 (by decide) rfl ?_
  obtain ⟨M9, h⟩ := h
  exact zr_pick [2, 1, 0] rfl (g_X9_goSeason_L21 C hret M9 (0 : Int32) (0 : Int32) (wI (wI (wI σ 69 29 (-6 : Int32)) 69 30 (-6 : Int32)) 69 31 (0 : Int32)) h)
set_option maxRecDepth 20000 in
theorem c_X9_goSeason (l : Launch) (g : zG) (σ : zST) (Post : zST → Prop) (h : wp_X9_goSeason σ Post) : Met l yX9_goSeason (Cond.code yX9_goSeason cX9_goSeason 3 none :: zGW) (zRm 4 89) (va_Pc [.ref (g.2.1 69)] (zPP g σ)) (va_Qv Post (zBB g) (zA g)) 0 0 (zA g) :=
  zMet (by decide) (Nat.le_of_ble_eq_true rfl) (fun p e s m below meth c hr C => g_X9_goSeason C (fun σ pc lv hp hd => zr_vret C hr hp hd) h)
def wp_X9_judge (p1 : Int32) (σ : zST) (Post : Int32 → zST → Prop) : Prop := wp_X9_in (p1.toInt64) (0 : Int64) (1 : Int64) σ (fun r1 => (if r1 = (0) then Post (-2 : Int32) σ else wp_X9_faultOfSeason σ (fun r4 => (if r4 < (0) then wp_X9_keepNow σ (fun σ8 => wp_X9_goSeason σ8 (fun σ10 => wp_X9_putBack σ10 (fun σ12 => ∀ z14 : Int32, z14 = (if p1 = (0) then (σ12.1 69 29) else (σ12.1 69 30)) → Post z14 σ12))) else Post (-5 : Int32) σ))))
set_option maxRecDepth 100000 in
set_option maxHeartbeats 4000000 in
theorem g_X9_judge {p : Program} {l : Launch} {e : Env} {R : Room} {s : State} {m : MethodId} {args : Array Value} {below : List Frame} {meth : Method} {c : Code} {Q : State → Prop} {g : zG} {n1 n2 : Nat} (C : zCX p R s m args meth c g n1 n2 cX9_judge 2 RX9 5 111) {p1 : Int32} {σ : zST} {Post : Int32 → zST → Prop} (hret : ∀ (v : Int32) (σ : zST) (pc : Nat) (lv : List (Nat × Value)), Post v σ → decode cX9_judge pc = .ok (.ireturn, 1) → zGG p l e R s m args below meth c Q g n1 n2 2 pc lv [.int v] σ) (h : wp_X9_judge p1 σ Post) : zGG p l e R s m args below meth c Q g n1 n2 2 0 [(0, .ref (g.2.1 69)), (1, .int p1)] [] σ := by
  unfold wp_X9_judge at h
  refine zr_iload_n C d_X9_judge_0 rfl ?_
  refine zr_i2l C d_X9_judge_1 ?_
  refine zr_lconst C (0 : Int64) d_X9_judge_2 (by decide) ?_
  refine zr_lconst C (1 : Int64) d_X9_judge_3 (by decide) ?_
  refine zr_cip (zr_runS (As := [.long (p1.toInt64), .long (0 : Int64), .long (1 : Int64)]) (rest := []) C sw_X9_89 (c_X9_in l g (p1.toInt64) (0 : Int64) (1 : Int64) σ _ h) (by decide) (by decide) rfl rfl (Nat.le_of_ble_eq_true rfl) d_X9_judge_4) (fun r1 h => ?_)
  refine zr_if_ne C 13 d_X9_judge_7 (by decide) (fun hc3 => ?_) (fun hc3 => ?_)
  · rw [if_neg hc3] at h
    refine zr_aload_n C d_X9_judge_13 rfl ?_
    refine zr_cip (zr_runV (As := []) (rest := []) C vw_X9_145 (c_X9_faultOfSeason l g σ _ h) (sh_69) rfl (by decide) (by decide) rfl rfl (Nat.le_of_ble_eq_true rfl) d_X9_judge_14) (fun r4 h => ?_)
    refine zr_if_lt C 23 d_X9_judge_17 (by decide) (fun hc6 => ?_) (fun hc6 => ?_)
    · rw [if_pos hc6] at h
      refine zr_aload_n C d_X9_judge_23 rfl ?_
      refine zr_cv (zr_runV (As := []) (rest := []) C vw_X9_193 (c_X9_keepNow l g σ _ h) (sh_69) rfl (by decide) (by decide) rfl rfl (Nat.le_of_ble_eq_true rfl) d_X9_judge_24) (fun σ8 h => ?_)
      refine zr_aload_n C d_X9_judge_27 rfl ?_
      refine zr_cv (zr_runV (As := []) (rest := []) C vw_X9_196 (c_X9_goSeason l g σ8 _ h) (sh_69) rfl (by decide) (by decide) rfl rfl (Nat.le_of_ble_eq_true rfl) d_X9_judge_28) (fun σ10 h => ?_)
      refine zr_aload_n C d_X9_judge_31 rfl ?_
      refine zr_cv (zr_runV (As := []) (rest := []) C vw_X9_199 (c_X9_putBack l g σ10 _ h) (sh_69) rfl (by decide) (by decide) rfl rfl (Nat.le_of_ble_eq_true rfl) d_X9_judge_32) (fun σ12 h => ?_)
      refine zr_iload_n C d_X9_judge_35 rfl ?_
      have hJ15 : ∀ z14 : Int32, z14 = (if p1 = (0) then (σ12.1 69 29) else (σ12.1 69 30)) → zGG p l e R s m args below meth c Q g n1 n2 2 50 [(0, .ref (g.2.1 69)), (1, .int p1)] [.int z14] σ12 := by
        intro z14 hz14
        replace h := h z14 hz14
        exact hret _ _ _ _ h d_X9_judge_50
      refine zr_if_ne C 46 d_X9_judge_36 (by decide) (fun hc13 => ?_) (fun hc13 => ?_)
      · skip
        refine zr_aload_n C d_X9_judge_46 rfl ?_
        refine zr_geti C fw_X9_169 (sh_69) rfl d_X9_judge_47 ?_
        exact hJ15 _ (by rw [if_neg hc13])
      · skip
        refine zr_aload_n C d_X9_judge_39 rfl ?_
        refine zr_geti C fw_X9_175 (sh_69) rfl d_X9_judge_40 ?_
        refine zr_goto C 50 d_X9_judge_43 (by decide) ?_
        exact hJ15 _ (by rw [if_pos hc13])
    · rw [if_neg hc6] at h
      refine zr_bipush C (-5 : Int32) d_X9_judge_20 (by decide) ?_
      exact hret _ _ _ _ h d_X9_judge_22
  · rw [if_pos hc3] at h
    refine zr_bipush C (-2 : Int32) d_X9_judge_10 (by decide) ?_
    exact hret _ _ _ _ h d_X9_judge_12
set_option maxRecDepth 20000 in
theorem c_X9_judge (l : Launch) (g : zG) (p1 : Int32) (σ : zST) (Post : Int32 → zST → Prop) (h : wp_X9_judge p1 σ Post) : Met l yX9_judge (Cond.code yX9_judge cX9_judge 2 (some .int) :: zGW) (zRm 5 111) (va_Pc [.ref (g.2.1 69), .int p1] (zPP g σ)) (va_Qi Post (zBB g) (zA g)) 0 0 (zA g) :=
  zMet (by decide) (Nat.le_of_ble_eq_true rfl) (fun p e s m below meth c hr C => g_X9_judge C (fun v σ pc lv hp hd => zr_iret C hr hp hd) h)
def wp_X9_stateOf (p1 : Int32) (p2 : Int32) (σ : zST) (Post : Int32 → Prop) : Prop := (if p2 = (0) then vp_in p1 6 ∧ True else (if p2 = (1 : Int32) then vp_in p1 6 ∧ True else vp_in p1 6 ∧ True)) ∧ ∀ z2 : Int32, z2 = (if p2 = (0) then (σ.1 73 p1.toNatClampNeg) else (if p2 = (1 : Int32) then (σ.1 70 p1.toNatClampNeg) else (σ.1 71 p1.toNatClampNeg))) → Post z2
set_option maxRecDepth 100000 in
set_option maxHeartbeats 4000000 in
theorem g_X9_stateOf {p : Program} {l : Launch} {e : Env} {R : Room} {s : State} {m : MethodId} {args : Array Value} {below : List Frame} {meth : Method} {c : Code} {Q : State → Prop} {g : zG} {n1 n2 : Nat} (C : zCX p R s m args meth c g n1 n2 cX9_stateOf 3 RX9 0 0) {p1 : Int32} {p2 : Int32} {σ : zST} {Post : Int32 → Prop} (hret : ∀ (v : Int32) (pc : Nat) (lv : List (Nat × Value)), Post v → decode cX9_stateOf pc = .ok (.ireturn, 1) → zGG p l e R s m args below meth c Q g n1 n2 3 pc lv [.int v] σ) (h : wp_X9_stateOf p1 p2 σ Post) : zGG p l e R s m args below meth c Q g n1 n2 3 0 [(0, .ref (g.2.1 69)), (1, .int p1), (2, .int p2)] [] σ := by
  unfold wp_X9_stateOf at h
  refine zr_iload_n C d_X9_stateOf_0 rfl ?_
  obtain ⟨ho4, h⟩ := h
  have hJ3 : ∀ z2 : Int32, z2 = (if p2 = (0) then (σ.1 73 p1.toNatClampNeg) else (if p2 = (1 : Int32) then (σ.1 70 p1.toNatClampNeg) else (σ.1 71 p1.toNatClampNeg))) → zGG p l e R s m args below meth c Q g n1 n2 3 33 [(0, .ref (g.2.1 69)), (1, .int p1), (2, .int p2)] [.int z2] σ := by
    intro z2 hz2
    replace h := h z2 hz2
    exact hret _ _ _ h d_X9_stateOf_33
  refine zr_if_ne C 13 d_X9_stateOf_1 (by decide) (fun hc1 => ?_) (fun hc1 => ?_)
  · skip
    rw [if_neg hc1] at ho4
    refine zr_iload_n C d_X9_stateOf_13 rfl ?_
    refine zr_iconst C (1 : Int32) d_X9_stateOf_14 (by decide) ?_
    refine zr_icmp_ne C 27 d_X9_stateOf_15 (by decide) (fun hc5 => ?_) (fun hc5 => ?_)
    · skip
      rw [if_neg hc5] at ho4
      refine zr_aload_n C d_X9_stateOf_27 rfl ?_
      refine zr_getr (u := 71) C fw_X9_13 (sh_69) rfl d_X9_stateOf_28 ?_
      refine zr_iload_n C d_X9_stateOf_31 rfl ?_
      obtain ⟨ho6, ho4⟩ := ho4
      refine zr_iald C (sh_71) ho6 d_X9_stateOf_32 ?_
      exact hJ3 _ (by rw [if_neg hc1, if_neg hc5])
    · skip
      rw [if_pos hc5] at ho4
      refine zr_aload_n C d_X9_stateOf_18 rfl ?_
      refine zr_getr (u := 70) C fw_X9_7 (sh_69) rfl d_X9_stateOf_19 ?_
      refine zr_iload_n C d_X9_stateOf_22 rfl ?_
      obtain ⟨ho7, ho4⟩ := ho4
      refine zr_iald C (sh_70) ho7 d_X9_stateOf_23 ?_
      refine zr_goto C 33 d_X9_stateOf_24 (by decide) ?_
      exact hJ3 _ (by rw [if_neg hc1, if_pos hc5])
  · skip
    rw [if_pos hc1] at ho4
    refine zr_aload_n C d_X9_stateOf_4 rfl ?_
    refine zr_getr (u := 73) C fw_X9_19 (sh_69) rfl d_X9_stateOf_5 ?_
    refine zr_iload_n C d_X9_stateOf_8 rfl ?_
    obtain ⟨ho8, ho4⟩ := ho4
    refine zr_iald C (sh_73) ho8 d_X9_stateOf_9 ?_
    refine zr_goto C 33 d_X9_stateOf_10 (by decide) ?_
    exact hJ3 _ (by rw [if_pos hc1])
set_option maxRecDepth 20000 in
theorem c_X9_stateOf (l : Launch) (g : zG) (p1 : Int32) (p2 : Int32) (σ : zST) (Post : Int32 → Prop) (h : wp_X9_stateOf p1 p2 σ Post) : Met l yX9_stateOf (Cond.code yX9_stateOf cX9_stateOf 3 (some .int) :: zGW) (zRm 0 0) (va_Pc [.ref (g.2.1 69), .int p1, .int p2] (zPP g σ)) (va_Qi (fun r u => Post r ∧ u = σ) (zBB g) (zA g)) 0 0 (zA g) :=
  zMet (by decide) (Nat.le_of_ble_eq_true rfl) (fun p e s m below meth c hr C => g_X9_stateOf C (fun v pc lv hp hd => zr_iret C hr ⟨hp, rfl⟩ hd) h)
def wp_X9_state (p1 : Int32) (p2 : Int32) (σ : zST) (Post : Int32 → Prop) : Prop := wp_X9_isShip p1 σ (fun r1 => (if r1 = (0) then Post (-1 : Int32) else wp_X9_in (p2.toInt64) (0 : Int64) (2 : Int64) σ (fun r4 => (if r4 = (0) then Post (-2 : Int32) else wp_X9_stateOf p1 p2 σ (fun r7 => Post r7)))))
set_option maxRecDepth 100000 in
set_option maxHeartbeats 4000000 in
theorem g_X9_state {p : Program} {l : Launch} {e : Env} {R : Room} {s : State} {m : MethodId} {args : Array Value} {below : List Frame} {meth : Method} {c : Code} {Q : State → Prop} {g : zG} {n1 n2 : Nat} (C : zCX p R s m args meth c g n1 n2 cX9_state 3 RX9 3 66) {p1 : Int32} {p2 : Int32} {σ : zST} {Post : Int32 → Prop} (hret : ∀ (v : Int32) (pc : Nat) (lv : List (Nat × Value)), Post v → decode cX9_state pc = .ok (.ireturn, 1) → zGG p l e R s m args below meth c Q g n1 n2 3 pc lv [.int v] σ) (h : wp_X9_state p1 p2 σ Post) : zGG p l e R s m args below meth c Q g n1 n2 3 0 [(0, .ref (g.2.1 69)), (1, .int p1), (2, .int p2)] [] σ := by
  unfold wp_X9_state at h
  refine zr_aload_n C d_X9_state_0 rfl ?_
  refine zr_iload_n C d_X9_state_1 rfl ?_
  refine zr_cip (zr_runV (As := [.int p1]) (rest := []) C vw_X9_112 (c_X9_isShip l g p1 σ _ h) (sh_69) rfl (by decide) (by decide) rfl rfl (Nat.le_of_ble_eq_true rfl) d_X9_state_2) (fun r1 h => ?_)
  refine zr_if_ne C 10 d_X9_state_5 (by decide) (fun hc3 => ?_) (fun hc3 => ?_)
  · rw [if_neg hc3] at h
    refine zr_iload_n C d_X9_state_10 rfl ?_
    refine zr_i2l C d_X9_state_11 ?_
    refine zr_lconst C (0 : Int64) d_X9_state_12 (by decide) ?_
    refine zr_ldc2 C (v := (2 : Int64)) cl_X9_102 d_X9_state_13 ?_
    refine zr_cip (zr_runS (As := [.long (p2.toInt64), .long (0 : Int64), .long (2 : Int64)]) (rest := []) C sw_X9_89 (c_X9_in l g (p2.toInt64) (0 : Int64) (2 : Int64) σ _ h) (by decide) (by decide) rfl rfl (Nat.le_of_ble_eq_true rfl) d_X9_state_16) (fun r4 h => ?_)
    refine zr_if_eq C 31 d_X9_state_19 (by decide) (fun hc6 => ?_) (fun hc6 => ?_)
    · rw [if_pos hc6] at h
      refine zr_bipush C (-2 : Int32) d_X9_state_31 (by decide) ?_
      exact hret _ _ _ h d_X9_state_33
    · rw [if_neg hc6] at h
      refine zr_aload_n C d_X9_state_22 rfl ?_
      refine zr_iload_n C d_X9_state_23 rfl ?_
      refine zr_iload_n C d_X9_state_24 rfl ?_
      refine zr_cip (zr_runV (As := [.int p1, .int p2]) (rest := []) C vw_X9_202 (c_X9_stateOf l g p1 p2 σ _ h) (sh_69) rfl (by decide) (by decide) rfl rfl (Nat.le_of_ble_eq_true rfl) d_X9_state_25) (fun r7 h => ?_)
      refine zr_goto C 33 d_X9_state_28 (by decide) ?_
      exact hret _ _ _ h d_X9_state_33
  · rw [if_pos hc3] at h
    refine zr_iconst C (-1 : Int32) d_X9_state_8 (by decide) ?_
    exact hret _ _ _ h d_X9_state_9
set_option maxRecDepth 20000 in
theorem c_X9_state (l : Launch) (g : zG) (p1 : Int32) (p2 : Int32) (σ : zST) (Post : Int32 → Prop) (h : wp_X9_state p1 p2 σ Post) : Met l yX9_state (Cond.code yX9_state cX9_state 3 (some .int) :: zGW) (zRm 3 66) (va_Pc [.ref (g.2.1 69), .int p1, .int p2] (zPP g σ)) (va_Qi (fun r u => Post r ∧ u = σ) (zBB g) (zA g)) 0 0 (zA g) :=
  zMet (by decide) (Nat.le_of_ble_eq_true rfl) (fun p e s m below meth c hr C => g_X9_state C (fun v pc lv hp hd => zr_iret C hr ⟨hp, rfl⟩ hd) h)
def wp_X9_behind (p1 : Int32) (p2 : Int32) (σ : zST) (Post : Int32 → zST → Prop) : Prop := wp_X9_isShip p1 σ (fun r1 => (if r1 = (0) then Post (-1 : Int32) σ else wp_X9_in (p2.toInt64) (0 : Int64) (2 : Int64) σ (fun r4 => (if r4 = (0) then Post (-2 : Int32) σ else wp_X9_faultOfSeason σ (fun r7 => (if r7 < (0) then wp_X9_keepNow σ (fun σ11 => wp_X9_goSeason σ11 (fun σ13 => wp_X9_stateOf p1 p2 σ13 (fun r14 => wp_X9_putBack σ13 (fun σ17 => ∀ z19 : Int32, z19 = (if (σ17.1 69 29) < (0) then r14 else (-5 : Int32)) → Post z19 σ17)))) else Post (-5 : Int32) σ))))))
set_option maxRecDepth 100000 in
set_option maxHeartbeats 4000000 in
theorem g_X9_behind {p : Program} {l : Launch} {e : Env} {R : Room} {s : State} {m : MethodId} {args : Array Value} {below : List Frame} {meth : Method} {c : Code} {Q : State → Prop} {g : zG} {n1 n2 : Nat} (C : zCX p R s m args meth c g n1 n2 cX9_behind 4 RX9 5 111) {p1 : Int32} {p2 : Int32} {σ : zST} {Post : Int32 → zST → Prop} (hret : ∀ (v : Int32) (σ : zST) (pc : Nat) (lv : List (Nat × Value)), Post v σ → decode cX9_behind pc = .ok (.ireturn, 1) → zGG p l e R s m args below meth c Q g n1 n2 4 pc lv [.int v] σ) (h : wp_X9_behind p1 p2 σ Post) : zGG p l e R s m args below meth c Q g n1 n2 4 0 [(0, .ref (g.2.1 69)), (1, .int p1), (2, .int p2)] [] σ := by
  unfold wp_X9_behind at h
  refine zr_aload_n C d_X9_behind_0 rfl ?_
  refine zr_iload_n C d_X9_behind_1 rfl ?_
  refine zr_cip (zr_runV (As := [.int p1]) (rest := []) C vw_X9_112 (c_X9_isShip l g p1 σ _ h) (sh_69) rfl (by decide) (by decide) rfl rfl (Nat.le_of_ble_eq_true rfl) d_X9_behind_2) (fun r1 h => ?_)
  refine zr_if_ne C 10 d_X9_behind_5 (by decide) (fun hc3 => ?_) (fun hc3 => ?_)
  · rw [if_neg hc3] at h
    refine zr_iload_n C d_X9_behind_10 rfl ?_
    refine zr_i2l C d_X9_behind_11 ?_
    refine zr_lconst C (0 : Int64) d_X9_behind_12 (by decide) ?_
    refine zr_ldc2 C (v := (2 : Int64)) cl_X9_102 d_X9_behind_13 ?_
    refine zr_cip (zr_runS (As := [.long (p2.toInt64), .long (0 : Int64), .long (2 : Int64)]) (rest := []) C sw_X9_89 (c_X9_in l g (p2.toInt64) (0 : Int64) (2 : Int64) σ _ h) (by decide) (by decide) rfl rfl (Nat.le_of_ble_eq_true rfl) d_X9_behind_16) (fun r4 h => ?_)
    refine zr_if_ne C 25 d_X9_behind_19 (by decide) (fun hc6 => ?_) (fun hc6 => ?_)
    · rw [if_neg hc6] at h
      refine zr_aload_n C d_X9_behind_25 rfl ?_
      refine zr_cip (zr_runV (As := []) (rest := []) C vw_X9_145 (c_X9_faultOfSeason l g σ _ h) (sh_69) rfl (by decide) (by decide) rfl rfl (Nat.le_of_ble_eq_true rfl) d_X9_behind_26) (fun r7 h => ?_)
      refine zr_if_lt C 35 d_X9_behind_29 (by decide) (fun hc9 => ?_) (fun hc9 => ?_)
      · rw [if_pos hc9] at h
        refine zr_aload_n C d_X9_behind_35 rfl ?_
        refine zr_cv (zr_runV (As := []) (rest := []) C vw_X9_193 (c_X9_keepNow l g σ _ h) (sh_69) rfl (by decide) (by decide) rfl rfl (Nat.le_of_ble_eq_true rfl) d_X9_behind_36) (fun σ11 h => ?_)
        refine zr_aload_n C d_X9_behind_39 rfl ?_
        refine zr_cv (zr_runV (As := []) (rest := []) C vw_X9_196 (c_X9_goSeason l g σ11 _ h) (sh_69) rfl (by decide) (by decide) rfl rfl (Nat.le_of_ble_eq_true rfl) d_X9_behind_40) (fun σ13 h => ?_)
        refine zr_aload_n C d_X9_behind_43 rfl ?_
        refine zr_iload_n C d_X9_behind_44 rfl ?_
        refine zr_iload_n C d_X9_behind_45 rfl ?_
        refine zr_cip (zr_runV (As := [.int p1, .int p2]) (rest := []) C vw_X9_202 (c_X9_stateOf l g p1 p2 σ13 _ h) (sh_69) rfl (by decide) (by decide) rfl rfl (Nat.le_of_ble_eq_true rfl) d_X9_behind_46) (fun r14 h => ?_)
        refine zr_istore_n C [(3, .int r14), (0, .ref (g.2.1 69)), (1, .int p1), (2, .int p2)] d_X9_behind_49 (by decide) rfl ?_
        refine zr_aload_n C d_X9_behind_50 rfl ?_
        refine zr_cv (zr_runV (As := []) (rest := []) C vw_X9_199 (c_X9_putBack l g σ13 _ h) (sh_69) rfl (by decide) (by decide) rfl rfl (Nat.le_of_ble_eq_true rfl) d_X9_behind_51) (fun σ17 h => ?_)
        refine zr_aload_n C d_X9_behind_54 rfl ?_
        refine zr_geti C fw_X9_175 (sh_69) rfl d_X9_behind_55 ?_
        have hJ20 : ∀ z19 : Int32, z19 = (if (σ17.1 69 29) < (0) then r14 else (-5 : Int32)) → zGG p l e R s m args below meth c Q g n1 n2 4 67 [(3, .int r14), (0, .ref (g.2.1 69)), (1, .int p1), (2, .int p2)] [.int z19] σ17 := by
          intro z19 hz19
          replace h := h z19 hz19
          exact hret _ _ _ _ h d_X9_behind_67
        refine zr_if_lt C 66 d_X9_behind_58 (by decide) (fun hc18 => ?_) (fun hc18 => ?_)
        · skip
          refine zr_iload_n C d_X9_behind_66 rfl ?_
          exact hJ20 _ (by rw [if_pos hc18])
        · skip
          refine zr_bipush C (-5 : Int32) d_X9_behind_61 (by decide) ?_
          refine zr_goto C 67 d_X9_behind_63 (by decide) ?_
          exact hJ20 _ (by rw [if_neg hc18])
      · rw [if_neg hc9] at h
        refine zr_bipush C (-5 : Int32) d_X9_behind_32 (by decide) ?_
        exact hret _ _ _ _ h d_X9_behind_34
    · rw [if_pos hc6] at h
      refine zr_bipush C (-2 : Int32) d_X9_behind_22 (by decide) ?_
      exact hret _ _ _ _ h d_X9_behind_24
  · rw [if_pos hc3] at h
    refine zr_iconst C (-1 : Int32) d_X9_behind_8 (by decide) ?_
    exact hret _ _ _ _ h d_X9_behind_9
set_option maxRecDepth 20000 in
theorem c_X9_behind (l : Launch) (g : zG) (p1 : Int32) (p2 : Int32) (σ : zST) (Post : Int32 → zST → Prop) (h : wp_X9_behind p1 p2 σ Post) : Met l yX9_behind (Cond.code yX9_behind cX9_behind 4 (some .int) :: zGW) (zRm 5 111) (va_Pc [.ref (g.2.1 69), .int p1, .int p2] (zPP g σ)) (va_Qi Post (zBB g) (zA g)) 0 0 (zA g) :=
  zMet (by decide) (Nat.le_of_ble_eq_true rfl) (fun p e s m below meth c hr C => g_X9_behind C (fun v σ pc lv hp hd => zr_iret C hr hp hd) h)
def wp_X9_done (σ : zST) (Post : Int32 → zST → Prop) : Prop := wp_X9_faultOfSeason σ (fun r1 => (if r1 < (0) then wp_X9_keepNow σ (fun σ5 => wp_X9_goSeason σ5 (fun σ7 => (if (σ7.1 69 29) < (0) then ∀ σ9 : zST, σ9 = (wI σ7 69 27 (0 : Int32)) → Post (σ9.1 69 31) σ9 else wp_X9_putBack σ7 (fun σ11 => Post (-5 : Int32) σ11)))) else Post (-5 : Int32) σ))
set_option maxRecDepth 100000 in
set_option maxHeartbeats 4000000 in
theorem g_X9_done {p : Program} {l : Launch} {e : Env} {R : Room} {s : State} {m : MethodId} {args : Array Value} {below : List Frame} {meth : Method} {c : Code} {Q : State → Prop} {g : zG} {n1 n2 : Nat} (C : zCX p R s m args meth c g n1 n2 cX9_done 1 RX9 5 111) {σ : zST} {Post : Int32 → zST → Prop} (hret : ∀ (v : Int32) (σ : zST) (pc : Nat) (lv : List (Nat × Value)), Post v σ → decode cX9_done pc = .ok (.ireturn, 1) → zGG p l e R s m args below meth c Q g n1 n2 1 pc lv [.int v] σ) (h : wp_X9_done σ Post) : zGG p l e R s m args below meth c Q g n1 n2 1 0 [(0, .ref (g.2.1 69))] [] σ := by
  unfold wp_X9_done at h
  refine zr_aload_n C d_X9_done_0 rfl ?_
  refine zr_cip (zr_runV (As := []) (rest := []) C vw_X9_145 (c_X9_faultOfSeason l g σ _ h) (sh_69) rfl (by decide) (by decide) rfl rfl (Nat.le_of_ble_eq_true rfl) d_X9_done_1) (fun r1 h => ?_)
  refine zr_if_lt C 10 d_X9_done_4 (by decide) (fun hc3 => ?_) (fun hc3 => ?_)
  · rw [if_pos hc3] at h
    refine zr_aload_n C d_X9_done_10 rfl ?_
    refine zr_cv (zr_runV (As := []) (rest := []) C vw_X9_193 (c_X9_keepNow l g σ _ h) (sh_69) rfl (by decide) (by decide) rfl rfl (Nat.le_of_ble_eq_true rfl) d_X9_done_11) (fun σ5 h => ?_)
    refine zr_aload_n C d_X9_done_14 rfl ?_
    refine zr_cv (zr_runV (As := []) (rest := []) C vw_X9_196 (c_X9_goSeason l g σ5 _ h) (sh_69) rfl (by decide) (by decide) rfl rfl (Nat.le_of_ble_eq_true rfl) d_X9_done_15) (fun σ7 h => ?_)
    refine zr_aload_n C d_X9_done_18 rfl ?_
    refine zr_geti C fw_X9_175 (sh_69) rfl d_X9_done_19 ?_
    refine zr_if_lt C 32 d_X9_done_22 (by decide) (fun hc8 => ?_) (fun hc8 => ?_)
    · rw [if_pos hc8] at h
      refine zr_aload_n C d_X9_done_32 rfl ?_
      refine zr_iconst C (0 : Int32) d_X9_done_33 (by decide) ?_
      refine zr_puti C fw_X9_130 pw_X9_27 (sh_69) rfl rfl rfl d_X9_done_34 ?_
      refine zr_aload_n C d_X9_done_37 rfl ?_
      refine zr_tops (fun σ9 hσ9 => ?_)
      replace h := h σ9 hσ9
      refine zr_geti C fw_X9_172 (sh_69) rfl d_X9_done_38 ?_
      exact hret _ _ _ _ h d_X9_done_41
    · rw [if_neg hc8] at h
      refine zr_aload_n C d_X9_done_25 rfl ?_
      refine zr_cv (zr_runV (As := []) (rest := []) C vw_X9_199 (c_X9_putBack l g σ7 _ h) (sh_69) rfl (by decide) (by decide) rfl rfl (Nat.le_of_ble_eq_true rfl) d_X9_done_26) (fun σ11 h => ?_)
      refine zr_bipush C (-5 : Int32) d_X9_done_29 (by decide) ?_
      exact hret _ _ _ _ h d_X9_done_31
  · rw [if_neg hc3] at h
    refine zr_bipush C (-5 : Int32) d_X9_done_7 (by decide) ?_
    exact hret _ _ _ _ h d_X9_done_9
set_option maxRecDepth 20000 in
theorem c_X9_done (l : Launch) (g : zG) (σ : zST) (Post : Int32 → zST → Prop) (h : wp_X9_done σ Post) : Met l yX9_done (Cond.code yX9_done cX9_done 1 (some .int) :: zGW) (zRm 5 111) (va_Pc [.ref (g.2.1 69)] (zPP g σ)) (va_Qi Post (zBB g) (zA g)) 0 0 (zA g) :=
  zMet (by decide) (Nat.le_of_ble_eq_true rfl) (fun p e s m below meth c hr C => g_X9_done C (fun v σ pc lv hp hd => zr_iret C hr hp hd) h)
def wp_X9_sum (p1 : Int32) (σ : zST) (Post : Int32 → Prop) : Prop := ∀ z2 : Int32, z2 = (if p1 = (0) then (σ.1 69 15) else (if p1 = (1 : Int32) then (σ.1 69 16) else (if p1 = (2 : Int32) then (σ.1 69 17) else (-2 : Int32)))) → Post z2
set_option maxRecDepth 100000 in
set_option maxHeartbeats 4000000 in
theorem g_X9_sum {p : Program} {l : Launch} {e : Env} {R : Room} {s : State} {m : MethodId} {args : Array Value} {below : List Frame} {meth : Method} {c : Code} {Q : State → Prop} {g : zG} {n1 n2 : Nat} (C : zCX p R s m args meth c g n1 n2 cX9_sum 2 RX9 0 0) {p1 : Int32} {σ : zST} {Post : Int32 → Prop} (hret : ∀ (v : Int32) (pc : Nat) (lv : List (Nat × Value)), Post v → decode cX9_sum pc = .ok (.ireturn, 1) → zGG p l e R s m args below meth c Q g n1 n2 2 pc lv [.int v] σ) (h : wp_X9_sum p1 σ Post) : zGG p l e R s m args below meth c Q g n1 n2 2 0 [(0, .ref (g.2.1 69)), (1, .int p1)] [] σ := by
  unfold wp_X9_sum at h
  refine zr_iload_n C d_X9_sum_0 rfl ?_
  have hJ3 : ∀ z2 : Int32, z2 = (if p1 = (0) then (σ.1 69 15) else (if p1 = (1 : Int32) then (σ.1 69 16) else (if p1 = (2 : Int32) then (σ.1 69 17) else (-2 : Int32)))) → zGG p l e R s m args below meth c Q g n1 n2 2 37 [(0, .ref (g.2.1 69)), (1, .int p1)] [.int z2] σ := by
    intro z2 hz2
    replace h := h z2 hz2
    exact hret _ _ _ h d_X9_sum_37
  refine zr_if_ne C 11 d_X9_sum_1 (by decide) (fun hc1 => ?_) (fun hc1 => ?_)
  · skip
    refine zr_iload_n C d_X9_sum_11 rfl ?_
    refine zr_iconst C (1 : Int32) d_X9_sum_12 (by decide) ?_
    refine zr_icmp_ne C 23 d_X9_sum_13 (by decide) (fun hc5 => ?_) (fun hc5 => ?_)
    · skip
      refine zr_iload_n C d_X9_sum_23 rfl ?_
      refine zr_iconst C (2 : Int32) d_X9_sum_24 (by decide) ?_
      refine zr_icmp_ne C 35 d_X9_sum_25 (by decide) (fun hc6 => ?_) (fun hc6 => ?_)
      · skip
        refine zr_bipush C (-2 : Int32) d_X9_sum_35 (by decide) ?_
        exact hJ3 _ (by rw [if_neg hc1, if_neg hc5, if_neg hc6])
      · skip
        refine zr_aload_n C d_X9_sum_28 rfl ?_
        refine zr_geti C fw_X9_166 (sh_69) rfl d_X9_sum_29 ?_
        refine zr_goto C 37 d_X9_sum_32 (by decide) ?_
        exact hJ3 _ (by rw [if_neg hc1, if_neg hc5, if_pos hc6])
    · skip
      refine zr_aload_n C d_X9_sum_16 rfl ?_
      refine zr_geti C fw_X9_154 (sh_69) rfl d_X9_sum_17 ?_
      refine zr_goto C 37 d_X9_sum_20 (by decide) ?_
      exact hJ3 _ (by rw [if_neg hc1, if_pos hc5])
  · skip
    refine zr_aload_n C d_X9_sum_4 rfl ?_
    refine zr_geti C fw_X9_151 (sh_69) rfl d_X9_sum_5 ?_
    refine zr_goto C 37 d_X9_sum_8 (by decide) ?_
    exact hJ3 _ (by rw [if_pos hc1])
set_option maxRecDepth 20000 in
theorem c_X9_sum (l : Launch) (g : zG) (p1 : Int32) (σ : zST) (Post : Int32 → Prop) (h : wp_X9_sum p1 σ Post) : Met l yX9_sum (Cond.code yX9_sum cX9_sum 2 (some .int) :: zGW) (zRm 0 0) (va_Pc [.ref (g.2.1 69), .int p1] (zPP g σ)) (va_Qi (fun r u => Post r ∧ u = σ) (zBB g) (zA g)) 0 0 (zA g) :=
  zMet (by decide) (Nat.le_of_ble_eq_true rfl) (fun p e s m below meth c hr C => g_X9_sum C (fun v pc lv hp hd => zr_iret C hr ⟨hp, rfl⟩ hd) h)
def wp_X9_allOf (p1 : Int32) (σ : zST) (Post : Int32 → Prop) : Prop := vp_in p1 6 ∧ vp_in p1 6 ∧ Post (((σ.1 69 6) * (σ.1 70 p1.toNatClampNeg)) + (σ.1 72 p1.toNatClampNeg))
set_option maxRecDepth 100000 in
set_option maxHeartbeats 4000000 in
theorem g_X9_allOf {p : Program} {l : Launch} {e : Env} {R : Room} {s : State} {m : MethodId} {args : Array Value} {below : List Frame} {meth : Method} {c : Code} {Q : State → Prop} {g : zG} {n1 n2 : Nat} (C : zCX p R s m args meth c g n1 n2 cX9_allOf 2 RX9 0 0) {p1 : Int32} {σ : zST} {Post : Int32 → Prop} (hret : ∀ (v : Int32) (pc : Nat) (lv : List (Nat × Value)), Post v → decode cX9_allOf pc = .ok (.ireturn, 1) → zGG p l e R s m args below meth c Q g n1 n2 2 pc lv [.int v] σ) (h : wp_X9_allOf p1 σ Post) : zGG p l e R s m args below meth c Q g n1 n2 2 0 [(0, .ref (g.2.1 69)), (1, .int p1)] [] σ := by
  unfold wp_X9_allOf at h
  refine zr_aload_n C d_X9_allOf_0 rfl ?_
  refine zr_geti C fw_X9_66 (sh_69) rfl d_X9_allOf_1 ?_
  refine zr_aload_n C d_X9_allOf_4 rfl ?_
  refine zr_getr (u := 70) C fw_X9_7 (sh_69) rfl d_X9_allOf_5 ?_
  refine zr_iload_n C d_X9_allOf_8 rfl ?_
  obtain ⟨ho1, h⟩ := h
  refine zr_iald C (sh_70) ho1 d_X9_allOf_9 ?_
  refine zr_imul C d_X9_allOf_10 ?_
  refine zr_aload_n C d_X9_allOf_11 rfl ?_
  refine zr_getr (u := 72) C fw_X9_16 (sh_69) rfl d_X9_allOf_12 ?_
  refine zr_iload_n C d_X9_allOf_15 rfl ?_
  obtain ⟨ho2, h⟩ := h
  refine zr_iald C (sh_72) ho2 d_X9_allOf_16 ?_
  refine zr_iadd C d_X9_allOf_17 ?_
  exact hret _ _ _ h d_X9_allOf_18
set_option maxRecDepth 20000 in
theorem c_X9_allOf (l : Launch) (g : zG) (p1 : Int32) (σ : zST) (Post : Int32 → Prop) (h : wp_X9_allOf p1 σ Post) : Met l yX9_allOf (Cond.code yX9_allOf cX9_allOf 2 (some .int) :: zGW) (zRm 0 0) (va_Pc [.ref (g.2.1 69), .int p1] (zPP g σ)) (va_Qi (fun r u => Post r ∧ u = σ) (zBB g) (zA g)) 0 0 (zA g) :=
  zMet (by decide) (Nat.le_of_ble_eq_true rfl) (fun p e s m below meth c hr C => g_X9_allOf C (fun v pc lv hp hd => zr_iret C hr ⟨hp, rfl⟩ hd) h)
def wp_X9_teethTake (p1 : Int32) (σ : zST) (Post : Int32 → Prop) : Prop := wp_X9_lostByTeeth p1 σ (fun r1 => vp_in p1 6 ∧ (if r1 = (σ.1 70 p1.toNatClampNeg) then vp_in p1 6 ∧ True else True) ∧ ∀ z5 : Int32, z5 = (if r1 = (σ.1 70 p1.toNatClampNeg) then (σ.1 72 p1.toNatClampNeg) else (0 : Int32)) → Post (((σ.1 69 6) * r1) + z5))
set_option maxRecDepth 100000 in
set_option maxHeartbeats 4000000 in
theorem g_X9_teethTake {p : Program} {l : Launch} {e : Env} {R : Room} {s : State} {m : MethodId} {args : Array Value} {below : List Frame} {meth : Method} {c : Code} {Q : State → Prop} {g : zG} {n1 n2 : Nat} (C : zCX p R s m args meth c g n1 n2 cX9_teethTake 3 RX9 1 22) {p1 : Int32} {σ : zST} {Post : Int32 → Prop} (hret : ∀ (v : Int32) (pc : Nat) (lv : List (Nat × Value)), Post v → decode cX9_teethTake pc = .ok (.ireturn, 1) → zGG p l e R s m args below meth c Q g n1 n2 3 pc lv [.int v] σ) (h : wp_X9_teethTake p1 σ Post) : zGG p l e R s m args below meth c Q g n1 n2 3 0 [(0, .ref (g.2.1 69)), (1, .int p1)] [] σ := by
  unfold wp_X9_teethTake at h
  refine zr_aload_n C d_X9_teethTake_0 rfl ?_
  refine zr_iload_n C d_X9_teethTake_1 rfl ?_
  refine zr_cip (zr_runV (As := [.int p1]) (rest := []) C vw_X9_148 (c_X9_lostByTeeth l g p1 σ _ h) (sh_69) rfl (by decide) (by decide) rfl rfl (Nat.le_of_ble_eq_true rfl) d_X9_teethTake_2) (fun r1 h => ?_)
  refine zr_istore_n C [(2, .int r1), (0, .ref (g.2.1 69)), (1, .int p1)] d_X9_teethTake_5 (by decide) rfl ?_
  refine zr_aload_n C d_X9_teethTake_6 rfl ?_
  refine zr_geti C fw_X9_66 (sh_69) rfl d_X9_teethTake_7 ?_
  refine zr_iload_n C d_X9_teethTake_10 rfl ?_
  refine zr_imul C d_X9_teethTake_11 ?_
  refine zr_iload_n C d_X9_teethTake_12 rfl ?_
  refine zr_aload_n C d_X9_teethTake_13 rfl ?_
  refine zr_getr (u := 70) C fw_X9_7 (sh_69) rfl d_X9_teethTake_14 ?_
  refine zr_iload_n C d_X9_teethTake_17 rfl ?_
  obtain ⟨ho3, h⟩ := h
  refine zr_iald C (sh_70) ho3 d_X9_teethTake_18 ?_
  obtain ⟨ho7, h⟩ := h
  have hJ6 : ∀ z5 : Int32, z5 = (if r1 = (σ.1 70 p1.toNatClampNeg) then (σ.1 72 p1.toNatClampNeg) else (0 : Int32)) → zGG p l e R s m args below meth c Q g n1 n2 3 32 [(2, .int r1), (0, .ref (g.2.1 69)), (1, .int p1)] [.int z5, .int ((σ.1 69 6) * r1)] σ := by
    intro z5 hz5
    replace h := h z5 hz5
    refine zr_iadd C d_X9_teethTake_32 ?_
    exact hret _ _ _ h d_X9_teethTake_33
  refine zr_icmp_ne C 31 d_X9_teethTake_19 (by decide) (fun hc4 => ?_) (fun hc4 => ?_)
  · skip
    rw [if_neg hc4] at ho7
    refine zr_iconst C (0 : Int32) d_X9_teethTake_31 (by decide) ?_
    exact hJ6 _ (by rw [if_neg hc4])
  · skip
    rw [if_pos hc4] at ho7
    refine zr_aload_n C d_X9_teethTake_22 rfl ?_
    refine zr_getr (u := 72) C fw_X9_16 (sh_69) rfl d_X9_teethTake_23 ?_
    refine zr_iload_n C d_X9_teethTake_26 rfl ?_
    obtain ⟨ho8, ho7⟩ := ho7
    refine zr_iald C (sh_72) ho8 d_X9_teethTake_27 ?_
    refine zr_goto C 32 d_X9_teethTake_28 (by decide) ?_
    exact hJ6 _ (by rw [if_pos hc4])
set_option maxRecDepth 20000 in
theorem c_X9_teethTake (l : Launch) (g : zG) (p1 : Int32) (σ : zST) (Post : Int32 → Prop) (h : wp_X9_teethTake p1 σ Post) : Met l yX9_teethTake (Cond.code yX9_teethTake cX9_teethTake 3 (some .int) :: zGW) (zRm 1 22) (va_Pc [.ref (g.2.1 69), .int p1] (zPP g σ)) (va_Qi (fun r u => Post r ∧ u = σ) (zBB g) (zA g)) 0 0 (zA g) :=
  zMet (by decide) (Nat.le_of_ble_eq_true rfl) (fun p e s m below meth c hr C => g_X9_teethTake C (fun v pc lv hp hd => zr_iret C hr ⟨hp, rfl⟩ hd) h)
def wp_X9_meanOf (p1 : Int32) (p2 : Int32) (p3 : Int32) (σ : zST) (Post : Int32 → Prop) : Prop := (if p2 = (0) then wp_X9_teethTake p1 σ (fun r8 => Post ((10 : Int32) * r8)) else (if p2 = (1 : Int32) then wp_X9_tenths p3 σ (fun r4 => wp_X9_allOf p1 σ (fun r6 => Post (r4 * r6))) else vp_in p1 6 ∧ Post ((((10 : Int32) * (σ.1 69 7)) * (σ.1 69 8)) * (σ.1 70 p1.toNatClampNeg))))
set_option maxRecDepth 100000 in
set_option maxHeartbeats 4000000 in
theorem g_X9_meanOf {p : Program} {l : Launch} {e : Env} {R : Room} {s : State} {m : MethodId} {args : Array Value} {below : List Frame} {meth : Method} {c : Code} {Q : State → Prop} {g : zG} {n1 n2 : Nat} (C : zCX p R s m args meth c g n1 n2 cX9_meanOf 4 RX9 2 44) {p1 : Int32} {p2 : Int32} {p3 : Int32} {σ : zST} {Post : Int32 → Prop} (hret : ∀ (v : Int32) (pc : Nat) (lv : List (Nat × Value)), Post v → decode cX9_meanOf pc = .ok (.ireturn, 1) → zGG p l e R s m args below meth c Q g n1 n2 4 pc lv [.int v] σ) (h : wp_X9_meanOf p1 p2 p3 σ Post) : zGG p l e R s m args below meth c Q g n1 n2 4 0 [(0, .ref (g.2.1 69)), (1, .int p1), (2, .int p2), (3, .int p3)] [] σ := by
  unfold wp_X9_meanOf at h
  refine zr_iload_n C d_X9_meanOf_0 rfl ?_
  refine zr_if_ne C 15 d_X9_meanOf_1 (by decide) (fun hc1 => ?_) (fun hc1 => ?_)
  · rw [if_neg hc1] at h
    refine zr_iload_n C d_X9_meanOf_15 rfl ?_
    refine zr_iconst C (1 : Int32) d_X9_meanOf_16 (by decide) ?_
    refine zr_icmp_ne C 34 d_X9_meanOf_17 (by decide) (fun hc2 => ?_) (fun hc2 => ?_)
    · rw [if_neg hc2] at h
      refine zr_bipush C (10 : Int32) d_X9_meanOf_34 (by decide) ?_
      refine zr_aload_n C d_X9_meanOf_36 rfl ?_
      refine zr_geti C fw_X9_69 (sh_69) rfl d_X9_meanOf_37 ?_
      refine zr_imul C d_X9_meanOf_40 ?_
      refine zr_aload_n C d_X9_meanOf_41 rfl ?_
      refine zr_geti C fw_X9_72 (sh_69) rfl d_X9_meanOf_42 ?_
      refine zr_imul C d_X9_meanOf_45 ?_
      refine zr_aload_n C d_X9_meanOf_46 rfl ?_
      refine zr_getr (u := 70) C fw_X9_7 (sh_69) rfl d_X9_meanOf_47 ?_
      refine zr_iload_n C d_X9_meanOf_50 rfl ?_
      obtain ⟨ho3, h⟩ := h
      refine zr_iald C (sh_70) ho3 d_X9_meanOf_51 ?_
      refine zr_imul C d_X9_meanOf_52 ?_
      exact hret _ _ _ h d_X9_meanOf_53
    · rw [if_pos hc2] at h
      refine zr_aload_n C d_X9_meanOf_20 rfl ?_
      refine zr_iload_n C d_X9_meanOf_21 rfl ?_
      refine zr_cip (zr_runV (As := [.int p3]) (rest := []) C vw_X9_163 (c_X9_tenths l g p3 σ _ h) (sh_69) rfl (by decide) (by decide) rfl rfl (Nat.le_of_ble_eq_true rfl) d_X9_meanOf_22) (fun r4 h => ?_)
      refine zr_aload_n C d_X9_meanOf_25 rfl ?_
      refine zr_iload_n C d_X9_meanOf_26 rfl ?_
      refine zr_cip (zr_runV (As := [.int p1]) (rest := [.int r4]) C vw_X9_209 (c_X9_allOf l g p1 σ _ h) (sh_69) rfl (by decide) (by decide) rfl rfl (Nat.le_of_ble_eq_true rfl) d_X9_meanOf_27) (fun r6 h => ?_)
      refine zr_imul C d_X9_meanOf_30 ?_
      refine zr_goto C 53 d_X9_meanOf_31 (by decide) ?_
      exact hret _ _ _ h d_X9_meanOf_53
  · rw [if_pos hc1] at h
    refine zr_bipush C (10 : Int32) d_X9_meanOf_4 (by decide) ?_
    refine zr_aload_n C d_X9_meanOf_6 rfl ?_
    refine zr_iload_n C d_X9_meanOf_7 rfl ?_
    refine zr_cip (zr_runV (As := [.int p1]) (rest := [.int (10 : Int32)]) C vw_X9_206 (c_X9_teethTake l g p1 σ _ h) (sh_69) rfl (by decide) (by decide) rfl rfl (Nat.le_of_ble_eq_true rfl) d_X9_meanOf_8) (fun r8 h => ?_)
    refine zr_imul C d_X9_meanOf_11 ?_
    refine zr_goto C 53 d_X9_meanOf_12 (by decide) ?_
    exact hret _ _ _ h d_X9_meanOf_53
set_option maxRecDepth 20000 in
theorem c_X9_meanOf (l : Launch) (g : zG) (p1 : Int32) (p2 : Int32) (p3 : Int32) (σ : zST) (Post : Int32 → Prop) (h : wp_X9_meanOf p1 p2 p3 σ Post) : Met l yX9_meanOf (Cond.code yX9_meanOf cX9_meanOf 4 (some .int) :: zGW) (zRm 2 44) (va_Pc [.ref (g.2.1 69), .int p1, .int p2, .int p3] (zPP g σ)) (va_Qi (fun r u => Post r ∧ u = σ) (zBB g) (zA g)) 0 0 (zA g) :=
  zMet (by decide) (Nat.le_of_ble_eq_true rfl) (fun p e s m below meth c hr C => g_X9_meanOf C (fun v pc lv hp hd => zr_iret C hr ⟨hp, rfl⟩ hd) h)
def wp_X9_worstOf (p1 : Int32) (p2 : Int32) (p3 : Int32) (σ : zST) (Post : Int32 → Prop) : Prop := (if p2 = (0) then wp_X9_teethTake p1 σ (fun r9 => Post r9) else (if p2 = (1 : Int32) then wp_X9_tenths p3 σ (fun r4 => (if r4 ≤ (0) then Post (0 : Int32) else wp_X9_allOf p1 σ (fun r7 => Post r7))) else vp_in p1 6 ∧ Post (((σ.1 69 7) * (σ.1 69 8)) * (σ.1 70 p1.toNatClampNeg))))
set_option maxRecDepth 100000 in
set_option maxHeartbeats 4000000 in
theorem g_X9_worstOf {p : Program} {l : Launch} {e : Env} {R : Room} {s : State} {m : MethodId} {args : Array Value} {below : List Frame} {meth : Method} {c : Code} {Q : State → Prop} {g : zG} {n1 n2 : Nat} (C : zCX p R s m args meth c g n1 n2 cX9_worstOf 4 RX9 2 44) {p1 : Int32} {p2 : Int32} {p3 : Int32} {σ : zST} {Post : Int32 → Prop} (hret : ∀ (v : Int32) (pc : Nat) (lv : List (Nat × Value)), Post v → decode cX9_worstOf pc = .ok (.ireturn, 1) → zGG p l e R s m args below meth c Q g n1 n2 4 pc lv [.int v] σ) (h : wp_X9_worstOf p1 p2 p3 σ Post) : zGG p l e R s m args below meth c Q g n1 n2 4 0 [(0, .ref (g.2.1 69)), (1, .int p1), (2, .int p2), (3, .int p3)] [] σ := by
  unfold wp_X9_worstOf at h
  refine zr_iload_n C d_X9_worstOf_0 rfl ?_
  refine zr_if_ne C 12 d_X9_worstOf_1 (by decide) (fun hc1 => ?_) (fun hc1 => ?_)
  · rw [if_neg hc1] at h
    refine zr_iload_n C d_X9_worstOf_12 rfl ?_
    refine zr_iconst C (1 : Int32) d_X9_worstOf_13 (by decide) ?_
    refine zr_icmp_ne C 37 d_X9_worstOf_14 (by decide) (fun hc2 => ?_) (fun hc2 => ?_)
    · rw [if_neg hc2] at h
      refine zr_aload_n C d_X9_worstOf_37 rfl ?_
      refine zr_geti C fw_X9_69 (sh_69) rfl d_X9_worstOf_38 ?_
      refine zr_aload_n C d_X9_worstOf_41 rfl ?_
      refine zr_geti C fw_X9_72 (sh_69) rfl d_X9_worstOf_42 ?_
      refine zr_imul C d_X9_worstOf_45 ?_
      refine zr_aload_n C d_X9_worstOf_46 rfl ?_
      refine zr_getr (u := 70) C fw_X9_7 (sh_69) rfl d_X9_worstOf_47 ?_
      refine zr_iload_n C d_X9_worstOf_50 rfl ?_
      obtain ⟨ho3, h⟩ := h
      refine zr_iald C (sh_70) ho3 d_X9_worstOf_51 ?_
      refine zr_imul C d_X9_worstOf_52 ?_
      exact hret _ _ _ h d_X9_worstOf_53
    · rw [if_pos hc2] at h
      refine zr_aload_n C d_X9_worstOf_17 rfl ?_
      refine zr_iload_n C d_X9_worstOf_18 rfl ?_
      refine zr_cip (zr_runV (As := [.int p3]) (rest := []) C vw_X9_163 (c_X9_tenths l g p3 σ _ h) (sh_69) rfl (by decide) (by decide) rfl rfl (Nat.le_of_ble_eq_true rfl) d_X9_worstOf_19) (fun r4 h => ?_)
      refine zr_if_le C 33 d_X9_worstOf_22 (by decide) (fun hc6 => ?_) (fun hc6 => ?_)
      · rw [if_pos hc6] at h
        refine zr_iconst C (0 : Int32) d_X9_worstOf_33 (by decide) ?_
        refine zr_goto C 53 d_X9_worstOf_34 (by decide) ?_
        exact hret _ _ _ h d_X9_worstOf_53
      · rw [if_neg hc6] at h
        refine zr_aload_n C d_X9_worstOf_25 rfl ?_
        refine zr_iload_n C d_X9_worstOf_26 rfl ?_
        refine zr_cip (zr_runV (As := [.int p1]) (rest := []) C vw_X9_209 (c_X9_allOf l g p1 σ _ h) (sh_69) rfl (by decide) (by decide) rfl rfl (Nat.le_of_ble_eq_true rfl) d_X9_worstOf_27) (fun r7 h => ?_)
        refine zr_goto C 53 d_X9_worstOf_30 (by decide) ?_
        exact hret _ _ _ h d_X9_worstOf_53
  · rw [if_pos hc1] at h
    refine zr_aload_n C d_X9_worstOf_4 rfl ?_
    refine zr_iload_n C d_X9_worstOf_5 rfl ?_
    refine zr_cip (zr_runV (As := [.int p1]) (rest := []) C vw_X9_206 (c_X9_teethTake l g p1 σ _ h) (sh_69) rfl (by decide) (by decide) rfl rfl (Nat.le_of_ble_eq_true rfl) d_X9_worstOf_6) (fun r9 h => ?_)
    refine zr_goto C 53 d_X9_worstOf_9 (by decide) ?_
    exact hret _ _ _ h d_X9_worstOf_53
set_option maxRecDepth 20000 in
theorem c_X9_worstOf (l : Launch) (g : zG) (p1 : Int32) (p2 : Int32) (p3 : Int32) (σ : zST) (Post : Int32 → Prop) (h : wp_X9_worstOf p1 p2 p3 σ Post) : Met l yX9_worstOf (Cond.code yX9_worstOf cX9_worstOf 4 (some .int) :: zGW) (zRm 2 44) (va_Pc [.ref (g.2.1 69), .int p1, .int p2, .int p3] (zPP g σ)) (va_Qi (fun r u => Post r ∧ u = σ) (zBB g) (zA g)) 0 0 (zA g) :=
  zMet (by decide) (Nat.le_of_ble_eq_true rfl) (fun p e s m below meth c hr C => g_X9_worstOf C (fun v pc lv hp hd => zr_iret C hr ⟨hp, rfl⟩ hd) h)
def wp_X9_choiceOf_L5 (v1 : Int32) (v2 : Int32) (σ : zST) (Post : Int32 → Prop) : Nat → Int32 → Int32 → Prop
  | 0, _, _ => False
  | N + 1, v3, v4 => (if (3 : Int32) ≤ v4 then Post v3 else wp_X9_meanOf v1 v4 v2 σ (fun r2 => wp_X9_meanOf v1 v3 v2 σ (fun r4 => ∀ z7 : Int32, z7 = (if r4 ≤ r2 then v3 else v4) → wp_X9_choiceOf_L5 v1 v2 σ Post N z7 (v4 + 1))))

set_option maxRecDepth 100000 in
set_option maxHeartbeats 4000000 in
theorem g_X9_choiceOf_L5 {p : Program} {l : Launch} {e : Env} {R : Room} {s : State} {m : MethodId} {args : Array Value} {below : List Frame} {meth : Method} {c : Code} {Q : State → Prop} {g : zG} {n1 n2 : Nat} (C : zCX p R s m args meth c g n1 n2 cX9_choiceOf 5 RX9 3 67) {v1 : Int32} {v2 : Int32} {σ : zST}  {Post : Int32 → Prop} (hret : ∀ (v : Int32) (pc : Nat) (lv : List (Nat × Value)), Post v → decode cX9_choiceOf pc = .ok (.ireturn, 1) → zGG p l e R s m args below meth c Q g n1 n2 5 pc lv [.int v] σ) : ∀ (N : Nat) (v3 : Int32) (v4 : Int32) , wp_X9_choiceOf_L5 v1 v2 σ Post N v3 v4 → zGG p l e R s m args below meth c Q g n1 n2 5 5 [(0, .ref (g.2.1 69)), (1, .int v1), (2, .int v2), (3, .int v3), (4, .int v4)] [] σ := by
  intro N
  induction N with
  | zero =>
    intro v3 v4 h
    exact h.elim
  | succ N ih =>
    intro v3 v4 h
    rw [wp_X9_choiceOf_L5] at h
    refine zr_iload C d_X9_choiceOf_5 rfl ?_
    refine zr_iconst C (3 : Int32) d_X9_choiceOf_7 (by decide) ?_
    refine zr_icmp_ge C 42 d_X9_choiceOf_8 (by decide) (fun hc1 => ?_) (fun hc1 => ?_)
    · rw [if_pos hc1] at h
      refine zr_iload_n C d_X9_choiceOf_42 rfl ?_
      exact hret _ _ _ h d_X9_choiceOf_43
    · rw [if_neg hc1] at h
      refine zr_aload_n C d_X9_choiceOf_11 rfl ?_
      refine zr_iload_n C d_X9_choiceOf_12 rfl ?_
      refine zr_iload C d_X9_choiceOf_13 rfl ?_
      refine zr_iload_n C d_X9_choiceOf_15 rfl ?_
      refine zr_cip (zr_runV (As := [.int v1, .int v4, .int v2]) (rest := []) C vw_X9_212 (c_X9_meanOf l g v1 v4 v2 σ _ h) (sh_69) rfl (by decide) (by decide) rfl rfl (Nat.le_of_ble_eq_true rfl) d_X9_choiceOf_16) (fun r2 h => ?_)
      refine zr_aload_n C d_X9_choiceOf_19 rfl ?_
      refine zr_iload_n C d_X9_choiceOf_20 rfl ?_
      refine zr_iload_n C d_X9_choiceOf_21 rfl ?_
      refine zr_iload_n C d_X9_choiceOf_22 rfl ?_
      refine zr_cip (zr_runV (As := [.int v1, .int v3, .int v2]) (rest := [.int r2]) C vw_X9_212 (c_X9_meanOf l g v1 v3 v2 σ _ h) (sh_69) rfl (by decide) (by decide) rfl rfl (Nat.le_of_ble_eq_true rfl) d_X9_choiceOf_23) (fun r4 h => ?_)
      have hJ8 : ∀ z7 : Int32, z7 = (if r4 ≤ r2 then v3 else v4) → zGG p l e R s m args below meth c Q g n1 n2 5 35 [(0, .ref (g.2.1 69)), (1, .int v1), (2, .int v2), (3, .int v3), (4, .int v4)] [.int z7] σ := by
        intro z7 hz7
        replace h := h z7 hz7
        refine zr_istore_n C [(3, .int z7), (0, .ref (g.2.1 69)), (1, .int v1), (2, .int v2), (4, .int v4)] d_X9_choiceOf_35 (by decide) rfl ?_
        refine zr_iinc C (v4 + 1) [(4, .int (v4 + 1)), (3, .int z7), (0, .ref (g.2.1 69)), (1, .int v1), (2, .int v2)] d_X9_choiceOf_36 rfl rfl (by decide) rfl ?_
        refine zr_goto C 5 d_X9_choiceOf_39 (by decide) ?_
        exact zr_pick [2, 3, 4, 1, 0] rfl (ih z7 (v4 + 1) h)
      refine zr_icmp_ge C 34 d_X9_choiceOf_26 (by decide) (fun hc6 => ?_) (fun hc6 => ?_)
      · skip
        refine zr_iload_n C d_X9_choiceOf_34 rfl ?_
        exact hJ8 _ (by rw [if_pos hc6])
      · skip
        refine zr_iload C d_X9_choiceOf_29 rfl ?_
        refine zr_goto C 35 d_X9_choiceOf_31 (by decide) ?_
        exact hJ8 _ (by rw [if_neg hc6])

def wp_X9_choiceOf (p1 : Int32) (p2 : Int32) (σ : zST) (Post : Int32 → Prop) : Prop := ∃ M10 : Nat, wp_X9_choiceOf_L5 p1 p2 σ Post M10 (0 : Int32) (1 : Int32)
set_option maxRecDepth 100000 in
set_option maxHeartbeats 4000000 in
theorem g_X9_choiceOf {p : Program} {l : Launch} {e : Env} {R : Room} {s : State} {m : MethodId} {args : Array Value} {below : List Frame} {meth : Method} {c : Code} {Q : State → Prop} {g : zG} {n1 n2 : Nat} (C : zCX p R s m args meth c g n1 n2 cX9_choiceOf 5 RX9 3 67) {p1 : Int32} {p2 : Int32} {σ : zST} {Post : Int32 → Prop} (hret : ∀ (v : Int32) (pc : Nat) (lv : List (Nat × Value)), Post v → decode cX9_choiceOf pc = .ok (.ireturn, 1) → zGG p l e R s m args below meth c Q g n1 n2 5 pc lv [.int v] σ) (h : wp_X9_choiceOf p1 p2 σ Post) : zGG p l e R s m args below meth c Q g n1 n2 5 0 [(0, .ref (g.2.1 69)), (1, .int p1), (2, .int p2)] [] σ := by
  unfold wp_X9_choiceOf at h
  refine zr_iconst C (0 : Int32) d_X9_choiceOf_0 (by decide) ?_
  refine zr_istore_n C [(3, .int (0 : Int32)), (0, .ref (g.2.1 69)), (1, .int p1), (2, .int p2)] d_X9_choiceOf_1 (by decide) rfl ?_
  refine zr_iconst C (1 : Int32) d_X9_choiceOf_2 (by decide) ?_
  refine zr_istore C [(4, .int (1 : Int32)), (3, .int (0 : Int32)), (0, .ref (g.2.1 69)), (1, .int p1), (2, .int p2)] d_X9_choiceOf_3 (by decide) rfl ?_
  obtain ⟨M10, h⟩ := h
  exact zr_pick [2, 3, 4, 1, 0] rfl (g_X9_choiceOf_L5 C hret M10 (0 : Int32) (1 : Int32) h)
set_option maxRecDepth 20000 in
theorem c_X9_choiceOf (l : Launch) (g : zG) (p1 : Int32) (p2 : Int32) (σ : zST) (Post : Int32 → Prop) (h : wp_X9_choiceOf p1 p2 σ Post) : Met l yX9_choiceOf (Cond.code yX9_choiceOf cX9_choiceOf 5 (some .int) :: zGW) (zRm 3 67) (va_Pc [.ref (g.2.1 69), .int p1, .int p2] (zPP g σ)) (va_Qi (fun r u => Post r ∧ u = σ) (zBB g) (zA g)) 0 0 (zA g) :=
  zMet (by decide) (Nat.le_of_ble_eq_true rfl) (fun p e s m below meth c hr C => g_X9_choiceOf C (fun v pc lv hp hd => zr_iret C hr ⟨hp, rfl⟩ hd) h)
def wp_X9_mean (p1 : Int32) (p2 : Int32) (p3 : Int32) (σ : zST) (Post : Int32 → Prop) : Prop := wp_X9_isShip p1 σ (fun r1 => (if r1 = (0) then Post (-1 : Int32) else wp_X9_isSide p2 σ (fun r4 => (if r4 = (0) then Post (-2 : Int32) else wp_X9_isHour p3 σ (fun r7 => (if r7 = (0) then Post (-2 : Int32) else wp_X9_meanOf p1 p2 p3 σ (fun r10 => Post r10)))))))
set_option maxRecDepth 100000 in
set_option maxHeartbeats 4000000 in
theorem g_X9_mean {p : Program} {l : Launch} {e : Env} {R : Room} {s : State} {m : MethodId} {args : Array Value} {below : List Frame} {meth : Method} {c : Code} {Q : State → Prop} {g : zG} {n1 n2 : Nat} (C : zCX p R s m args meth c g n1 n2 cX9_mean 4 RX9 3 67) {p1 : Int32} {p2 : Int32} {p3 : Int32} {σ : zST} {Post : Int32 → Prop} (hret : ∀ (v : Int32) (pc : Nat) (lv : List (Nat × Value)), Post v → decode cX9_mean pc = .ok (.ireturn, 1) → zGG p l e R s m args below meth c Q g n1 n2 4 pc lv [.int v] σ) (h : wp_X9_mean p1 p2 p3 σ Post) : zGG p l e R s m args below meth c Q g n1 n2 4 0 [(0, .ref (g.2.1 69)), (1, .int p1), (2, .int p2), (3, .int p3)] [] σ := by
  unfold wp_X9_mean at h
  refine zr_aload_n C d_X9_mean_0 rfl ?_
  refine zr_iload_n C d_X9_mean_1 rfl ?_
  refine zr_cip (zr_runV (As := [.int p1]) (rest := []) C vw_X9_112 (c_X9_isShip l g p1 σ _ h) (sh_69) rfl (by decide) (by decide) rfl rfl (Nat.le_of_ble_eq_true rfl) d_X9_mean_2) (fun r1 h => ?_)
  refine zr_if_ne C 10 d_X9_mean_5 (by decide) (fun hc3 => ?_) (fun hc3 => ?_)
  · rw [if_neg hc3] at h
    refine zr_iload_n C d_X9_mean_10 rfl ?_
    refine zr_cip (zr_runS (As := [.int p2]) (rest := []) C sw_X9_216 (c_X9_isSide l g p2 σ _ h) (by decide) (by decide) rfl rfl (Nat.le_of_ble_eq_true rfl) d_X9_mean_11) (fun r4 h => ?_)
    refine zr_if_eq C 34 d_X9_mean_14 (by decide) (fun hc6 => ?_) (fun hc6 => ?_)
    · rw [if_pos hc6] at h
      refine zr_bipush C (-2 : Int32) d_X9_mean_34 (by decide) ?_
      exact hret _ _ _ h d_X9_mean_36
    · rw [if_neg hc6] at h
      refine zr_iload_n C d_X9_mean_17 rfl ?_
      refine zr_cip (zr_runS (As := [.int p3]) (rest := []) C sw_X9_219 (c_X9_isHour l g p3 σ _ h) (by decide) (by decide) rfl rfl (Nat.le_of_ble_eq_true rfl) d_X9_mean_18) (fun r7 h => ?_)
      refine zr_if_eq C 34 d_X9_mean_21 (by decide) (fun hc9 => ?_) (fun hc9 => ?_)
      · rw [if_pos hc9] at h
        refine zr_bipush C (-2 : Int32) d_X9_mean_34 (by decide) ?_
        exact hret _ _ _ h d_X9_mean_36
      · rw [if_neg hc9] at h
        refine zr_aload_n C d_X9_mean_24 rfl ?_
        refine zr_iload_n C d_X9_mean_25 rfl ?_
        refine zr_iload_n C d_X9_mean_26 rfl ?_
        refine zr_iload_n C d_X9_mean_27 rfl ?_
        refine zr_cip (zr_runV (As := [.int p1, .int p2, .int p3]) (rest := []) C vw_X9_212 (c_X9_meanOf l g p1 p2 p3 σ _ h) (sh_69) rfl (by decide) (by decide) rfl rfl (Nat.le_of_ble_eq_true rfl) d_X9_mean_28) (fun r10 h => ?_)
        refine zr_goto C 36 d_X9_mean_31 (by decide) ?_
        exact hret _ _ _ h d_X9_mean_36
  · rw [if_pos hc3] at h
    refine zr_iconst C (-1 : Int32) d_X9_mean_8 (by decide) ?_
    exact hret _ _ _ h d_X9_mean_9
set_option maxRecDepth 20000 in
theorem c_X9_mean (l : Launch) (g : zG) (p1 : Int32) (p2 : Int32) (p3 : Int32) (σ : zST) (Post : Int32 → Prop) (h : wp_X9_mean p1 p2 p3 σ Post) : Met l yX9_mean (Cond.code yX9_mean cX9_mean 4 (some .int) :: zGW) (zRm 3 67) (va_Pc [.ref (g.2.1 69), .int p1, .int p2, .int p3] (zPP g σ)) (va_Qi (fun r u => Post r ∧ u = σ) (zBB g) (zA g)) 0 0 (zA g) :=
  zMet (by decide) (Nat.le_of_ble_eq_true rfl) (fun p e s m below meth c hr C => g_X9_mean C (fun v pc lv hp hd => zr_iret C hr ⟨hp, rfl⟩ hd) h)
def wp_X9_worst (p1 : Int32) (p2 : Int32) (p3 : Int32) (σ : zST) (Post : Int32 → Prop) : Prop := wp_X9_isShip p1 σ (fun r1 => (if r1 = (0) then Post (-1 : Int32) else wp_X9_isSide p2 σ (fun r4 => (if r4 = (0) then Post (-2 : Int32) else wp_X9_isHour p3 σ (fun r7 => (if r7 = (0) then Post (-2 : Int32) else wp_X9_worstOf p1 p2 p3 σ (fun r10 => Post r10)))))))
set_option maxRecDepth 100000 in
set_option maxHeartbeats 4000000 in
theorem g_X9_worst {p : Program} {l : Launch} {e : Env} {R : Room} {s : State} {m : MethodId} {args : Array Value} {below : List Frame} {meth : Method} {c : Code} {Q : State → Prop} {g : zG} {n1 n2 : Nat} (C : zCX p R s m args meth c g n1 n2 cX9_worst 4 RX9 3 67) {p1 : Int32} {p2 : Int32} {p3 : Int32} {σ : zST} {Post : Int32 → Prop} (hret : ∀ (v : Int32) (pc : Nat) (lv : List (Nat × Value)), Post v → decode cX9_worst pc = .ok (.ireturn, 1) → zGG p l e R s m args below meth c Q g n1 n2 4 pc lv [.int v] σ) (h : wp_X9_worst p1 p2 p3 σ Post) : zGG p l e R s m args below meth c Q g n1 n2 4 0 [(0, .ref (g.2.1 69)), (1, .int p1), (2, .int p2), (3, .int p3)] [] σ := by
  unfold wp_X9_worst at h
  refine zr_aload_n C d_X9_worst_0 rfl ?_
  refine zr_iload_n C d_X9_worst_1 rfl ?_
  refine zr_cip (zr_runV (As := [.int p1]) (rest := []) C vw_X9_112 (c_X9_isShip l g p1 σ _ h) (sh_69) rfl (by decide) (by decide) rfl rfl (Nat.le_of_ble_eq_true rfl) d_X9_worst_2) (fun r1 h => ?_)
  refine zr_if_ne C 10 d_X9_worst_5 (by decide) (fun hc3 => ?_) (fun hc3 => ?_)
  · rw [if_neg hc3] at h
    refine zr_iload_n C d_X9_worst_10 rfl ?_
    refine zr_cip (zr_runS (As := [.int p2]) (rest := []) C sw_X9_216 (c_X9_isSide l g p2 σ _ h) (by decide) (by decide) rfl rfl (Nat.le_of_ble_eq_true rfl) d_X9_worst_11) (fun r4 h => ?_)
    refine zr_if_eq C 34 d_X9_worst_14 (by decide) (fun hc6 => ?_) (fun hc6 => ?_)
    · rw [if_pos hc6] at h
      refine zr_bipush C (-2 : Int32) d_X9_worst_34 (by decide) ?_
      exact hret _ _ _ h d_X9_worst_36
    · rw [if_neg hc6] at h
      refine zr_iload_n C d_X9_worst_17 rfl ?_
      refine zr_cip (zr_runS (As := [.int p3]) (rest := []) C sw_X9_219 (c_X9_isHour l g p3 σ _ h) (by decide) (by decide) rfl rfl (Nat.le_of_ble_eq_true rfl) d_X9_worst_18) (fun r7 h => ?_)
      refine zr_if_eq C 34 d_X9_worst_21 (by decide) (fun hc9 => ?_) (fun hc9 => ?_)
      · rw [if_pos hc9] at h
        refine zr_bipush C (-2 : Int32) d_X9_worst_34 (by decide) ?_
        exact hret _ _ _ h d_X9_worst_36
      · rw [if_neg hc9] at h
        refine zr_aload_n C d_X9_worst_24 rfl ?_
        refine zr_iload_n C d_X9_worst_25 rfl ?_
        refine zr_iload_n C d_X9_worst_26 rfl ?_
        refine zr_iload_n C d_X9_worst_27 rfl ?_
        refine zr_cip (zr_runV (As := [.int p1, .int p2, .int p3]) (rest := []) C vw_X9_222 (c_X9_worstOf l g p1 p2 p3 σ _ h) (sh_69) rfl (by decide) (by decide) rfl rfl (Nat.le_of_ble_eq_true rfl) d_X9_worst_28) (fun r10 h => ?_)
        refine zr_goto C 36 d_X9_worst_31 (by decide) ?_
        exact hret _ _ _ h d_X9_worst_36
  · rw [if_pos hc3] at h
    refine zr_iconst C (-1 : Int32) d_X9_worst_8 (by decide) ?_
    exact hret _ _ _ h d_X9_worst_9
set_option maxRecDepth 20000 in
theorem c_X9_worst (l : Launch) (g : zG) (p1 : Int32) (p2 : Int32) (p3 : Int32) (σ : zST) (Post : Int32 → Prop) (h : wp_X9_worst p1 p2 p3 σ Post) : Met l yX9_worst (Cond.code yX9_worst cX9_worst 4 (some .int) :: zGW) (zRm 3 67) (va_Pc [.ref (g.2.1 69), .int p1, .int p2, .int p3] (zPP g σ)) (va_Qi (fun r u => Post r ∧ u = σ) (zBB g) (zA g)) 0 0 (zA g) :=
  zMet (by decide) (Nat.le_of_ble_eq_true rfl) (fun p e s m below meth c hr C => g_X9_worst C (fun v pc lv hp hd => zr_iret C hr ⟨hp, rfl⟩ hd) h)
def wp_X9_choice (p1 : Int32) (p2 : Int32) (σ : zST) (Post : Int32 → Prop) : Prop := wp_X9_isShip p1 σ (fun r1 => (if r1 = (0) then Post (-1 : Int32) else wp_X9_isHour p2 σ (fun r4 => (if r4 = (0) then Post (-2 : Int32) else wp_X9_choiceOf p1 p2 σ (fun r7 => Post r7)))))
set_option maxRecDepth 100000 in
set_option maxHeartbeats 4000000 in
theorem g_X9_choice {p : Program} {l : Launch} {e : Env} {R : Room} {s : State} {m : MethodId} {args : Array Value} {below : List Frame} {meth : Method} {c : Code} {Q : State → Prop} {g : zG} {n1 n2 : Nat} (C : zCX p R s m args meth c g n1 n2 cX9_choice 3 RX9 4 91) {p1 : Int32} {p2 : Int32} {σ : zST} {Post : Int32 → Prop} (hret : ∀ (v : Int32) (pc : Nat) (lv : List (Nat × Value)), Post v → decode cX9_choice pc = .ok (.ireturn, 1) → zGG p l e R s m args below meth c Q g n1 n2 3 pc lv [.int v] σ) (h : wp_X9_choice p1 p2 σ Post) : zGG p l e R s m args below meth c Q g n1 n2 3 0 [(0, .ref (g.2.1 69)), (1, .int p1), (2, .int p2)] [] σ := by
  unfold wp_X9_choice at h
  refine zr_aload_n C d_X9_choice_0 rfl ?_
  refine zr_iload_n C d_X9_choice_1 rfl ?_
  refine zr_cip (zr_runV (As := [.int p1]) (rest := []) C vw_X9_112 (c_X9_isShip l g p1 σ _ h) (sh_69) rfl (by decide) (by decide) rfl rfl (Nat.le_of_ble_eq_true rfl) d_X9_choice_2) (fun r1 h => ?_)
  refine zr_if_ne C 10 d_X9_choice_5 (by decide) (fun hc3 => ?_) (fun hc3 => ?_)
  · rw [if_neg hc3] at h
    refine zr_iload_n C d_X9_choice_10 rfl ?_
    refine zr_cip (zr_runS (As := [.int p2]) (rest := []) C sw_X9_219 (c_X9_isHour l g p2 σ _ h) (by decide) (by decide) rfl rfl (Nat.le_of_ble_eq_true rfl) d_X9_choice_11) (fun r4 h => ?_)
    refine zr_if_eq C 26 d_X9_choice_14 (by decide) (fun hc6 => ?_) (fun hc6 => ?_)
    · rw [if_pos hc6] at h
      refine zr_bipush C (-2 : Int32) d_X9_choice_26 (by decide) ?_
      exact hret _ _ _ h d_X9_choice_28
    · rw [if_neg hc6] at h
      refine zr_aload_n C d_X9_choice_17 rfl ?_
      refine zr_iload_n C d_X9_choice_18 rfl ?_
      refine zr_iload_n C d_X9_choice_19 rfl ?_
      refine zr_cip (zr_runV (As := [.int p1, .int p2]) (rest := []) C vw_X9_225 (c_X9_choiceOf l g p1 p2 σ _ h) (sh_69) rfl (by decide) (by decide) rfl rfl (Nat.le_of_ble_eq_true rfl) d_X9_choice_20) (fun r7 h => ?_)
      refine zr_goto C 28 d_X9_choice_23 (by decide) ?_
      exact hret _ _ _ h d_X9_choice_28
  · rw [if_pos hc3] at h
    refine zr_iconst C (-1 : Int32) d_X9_choice_8 (by decide) ?_
    exact hret _ _ _ h d_X9_choice_9
set_option maxRecDepth 20000 in
theorem c_X9_choice (l : Launch) (g : zG) (p1 : Int32) (p2 : Int32) (σ : zST) (Post : Int32 → Prop) (h : wp_X9_choice p1 p2 σ Post) : Met l yX9_choice (Cond.code yX9_choice cX9_choice 3 (some .int) :: zGW) (zRm 4 91) (va_Pc [.ref (g.2.1 69), .int p1, .int p2] (zPP g σ)) (va_Qi (fun r u => Post r ∧ u = σ) (zBB g) (zA g)) 0 0 (zA g) :=
  zMet (by decide) (Nat.le_of_ble_eq_true rfl) (fun p e s m below meth c hr C => g_X9_choice C (fun v pc lv hp hd => zr_iret C hr ⟨hp, rfl⟩ hd) h)
def wp_X9_held_J123 (v1 : Int32) (v3 : Int32) (v4 : Int32) (v5 : Int32) (σ : zST) (Post : Int32 → Prop) : Prop := (if v3 = (0) then Post v4 else (if v3 = (1 : Int32) then Post v5 else wp_X9_choiceOf v1 v4 σ (fun r13 => Post r13)))

set_option maxRecDepth 100000 in
set_option maxHeartbeats 4000000 in
theorem g_X9_held_J123 {p : Program} {l : Launch} {e : Env} {R : Room} {s : State} {m : MethodId} {args : Array Value} {below : List Frame} {meth : Method} {c : Code} {Q : State → Prop} {g : zG} {n1 n2 : Nat} (C : zCX p R s m args meth c g n1 n2 cX9_held 8 RX9 4 91) {v1 : Int32} {v3 : Int32} {v4 : Int32} {v5 : Int32} {σ : zST}  {Post : Int32 → Prop} (hret : ∀ (v : Int32) (pc : Nat) (lv : List (Nat × Value)), Post v → decode cX9_held pc = .ok (.ireturn, 1) → zGG p l e R s m args below meth c Q g n1 n2 8 pc lv [.int v] σ) (h : wp_X9_held_J123 v1 v3 v4 v5 σ Post) : zGG p l e R s m args below meth c Q g n1 n2 8 123 [(0, .ref (g.2.1 69)), (1, .int v1), (3, .int v3), (4, .int v4), (5, .int v5)] [] σ := by
  unfold wp_X9_held_J123 at h
  refine zr_iload_n C d_X9_held_123 rfl ?_
  refine zr_if_ne C 132 d_X9_held_124 (by decide) (fun hc11 => ?_) (fun hc11 => ?_)
  · rw [if_neg hc11] at h
    refine zr_iload_n C d_X9_held_132 rfl ?_
    refine zr_iconst C (1 : Int32) d_X9_held_133 (by decide) ?_
    refine zr_icmp_ne C 142 d_X9_held_134 (by decide) (fun hc12 => ?_) (fun hc12 => ?_)
    · rw [if_neg hc12] at h
      refine zr_aload_n C d_X9_held_142 rfl ?_
      refine zr_iload_n C d_X9_held_143 rfl ?_
      refine zr_iload C d_X9_held_144 rfl ?_
      refine zr_cip (zr_runV (As := [.int v1, .int v4]) (rest := []) C vw_X9_225 (c_X9_choiceOf l g v1 v4 σ _ h) (sh_69) rfl (by decide) (by decide) rfl rfl (Nat.le_of_ble_eq_true rfl) d_X9_held_146) (fun r13 h => ?_)
      exact hret _ _ _ h d_X9_held_149
    · rw [if_pos hc12] at h
      refine zr_iload C d_X9_held_137 rfl ?_
      refine zr_goto C 149 d_X9_held_139 (by decide) ?_
      exact hret _ _ _ h d_X9_held_149
  · rw [if_pos hc11] at h
    refine zr_iload C d_X9_held_127 rfl ?_
    refine zr_goto C 149 d_X9_held_129 (by decide) ?_
    exact hret _ _ _ h d_X9_held_149

def wp_X9_held_L47 (v1 : Int32) (v2 : Int32) (v3 : Int32) (σ : zST) (Post : Int32 → Prop) : Nat → Int32 → Int32 → Int32 → Prop
  | 0, _, _, _ => False
  | N + 1, v4, v5, v6 => (if (v2 + (24 : Int32)) ≤ v6 then wp_X9_held_J123 v1 v3 v4 v5 σ Post else wp_X9_choiceOf v1 v6 σ (fun r15 => wp_X9_meanOf v1 r15 v6 σ (fun r17 => ∀ x19 : Int32, x19 = (r17 + (((10 : Int32) * (σ.1 69 9)) * (v6 - v2))) → ∀ z21 : Int32, z21 = (if v5 ≤ x19 then v4 else v6) → ∀ z25 : Int32, z25 = (if v5 ≤ x19 then v5 else x19) → wp_X9_held_L47 v1 v2 v3 σ Post N z21 z25 (v6 + 1))))

set_option maxRecDepth 100000 in
set_option maxHeartbeats 4000000 in
theorem g_X9_held_L47 {p : Program} {l : Launch} {e : Env} {R : Room} {s : State} {m : MethodId} {args : Array Value} {below : List Frame} {meth : Method} {c : Code} {Q : State → Prop} {g : zG} {n1 n2 : Nat} (C : zCX p R s m args meth c g n1 n2 cX9_held 8 RX9 4 91) {v1 : Int32} {v2 : Int32} {v3 : Int32} {σ : zST}  {Post : Int32 → Prop} (hret : ∀ (v : Int32) (pc : Nat) (lv : List (Nat × Value)), Post v → decode cX9_held pc = .ok (.ireturn, 1) → zGG p l e R s m args below meth c Q g n1 n2 8 pc lv [.int v] σ) : ∀ (N : Nat) (v4 : Int32) (v5 : Int32) (v6 : Int32) , wp_X9_held_L47 v1 v2 v3 σ Post N v4 v5 v6 → zGG p l e R s m args below meth c Q g n1 n2 8 47 [(0, .ref (g.2.1 69)), (1, .int v1), (2, .int v2), (3, .int v3), (4, .int v4), (5, .int v5), (6, .int v6)] [] σ := by
  intro N
  induction N with
  | zero =>
    intro v4 v5 v6 h
    exact h.elim
  | succ N ih =>
    intro v4 v5 v6 h
    rw [wp_X9_held_L47] at h
    refine zr_iload C d_X9_held_47 rfl ?_
    refine zr_iload_n C d_X9_held_49 rfl ?_
    refine zr_bipush C (24 : Int32) d_X9_held_50 (by decide) ?_
    refine zr_iadd C d_X9_held_52 ?_
    refine zr_icmp_ge C 123 d_X9_held_53 (by decide) (fun hc10 => ?_) (fun hc10 => ?_)
    · rw [if_pos hc10] at h
      exact zr_pick [0, 1, 3, 4, 5] rfl (g_X9_held_J123 C hret h)
    · rw [if_neg hc10] at h
      refine zr_aload_n C d_X9_held_56 rfl ?_
      refine zr_iload_n C d_X9_held_57 rfl ?_
      refine zr_aload_n C d_X9_held_58 rfl ?_
      refine zr_iload_n C d_X9_held_59 rfl ?_
      refine zr_iload C d_X9_held_60 rfl ?_
      refine zr_cip (zr_runV (As := [.int v1, .int v6]) (rest := [.int v1, .ref (g.2.1 69)]) C vw_X9_225 (c_X9_choiceOf l g v1 v6 σ _ h) (sh_69) rfl (by decide) (by decide) rfl rfl (Nat.le_of_ble_eq_true rfl) d_X9_held_62) (fun r15 h => ?_)
      refine zr_iload C d_X9_held_65 rfl ?_
      refine zr_cip (zr_runV (As := [.int v1, .int r15, .int v6]) (rest := []) C vw_X9_212 (c_X9_meanOf l g v1 r15 v6 σ _ h) (sh_69) rfl (by decide) (by decide) rfl rfl (Nat.le_of_ble_eq_true rfl) d_X9_held_67) (fun r17 h => ?_)
      refine zr_bipush C (10 : Int32) d_X9_held_70 (by decide) ?_
      refine zr_aload_n C d_X9_held_72 rfl ?_
      refine zr_geti C fw_X9_75 (sh_69) rfl d_X9_held_73 ?_
      refine zr_imul C d_X9_held_76 ?_
      refine zr_iload C d_X9_held_77 rfl ?_
      refine zr_iload_n C d_X9_held_79 rfl ?_
      refine zr_isub C d_X9_held_80 ?_
      refine zr_imul C d_X9_held_81 ?_
      refine zr_iadd C d_X9_held_82 ?_
      refine zr_topi (fun x19 hx19 => ?_)
      replace h := h x19 hx19
      refine zr_istore C [(7, .int x19), (0, .ref (g.2.1 69)), (1, .int v1), (2, .int v2), (3, .int v3), (4, .int v4), (5, .int v5), (6, .int v6)] d_X9_held_83 (by decide) rfl ?_
      refine zr_iload C d_X9_held_85 rfl ?_
      refine zr_iload C d_X9_held_87 rfl ?_
      have hJ22 : ∀ z21 : Int32, z21 = (if v5 ≤ x19 then v4 else v6) → zGG p l e R s m args below meth c Q g n1 n2 8 99 [(7, .int x19), (0, .ref (g.2.1 69)), (1, .int v1), (2, .int v2), (3, .int v3), (4, .int v4), (5, .int v5), (6, .int v6)] [.int z21] σ := by
        intro z21 hz21
        replace h := h z21 hz21
        refine zr_istore C [(4, .int z21), (7, .int x19), (0, .ref (g.2.1 69)), (1, .int v1), (2, .int v2), (3, .int v3), (5, .int v5), (6, .int v6)] d_X9_held_99 (by decide) rfl ?_
        refine zr_iload C d_X9_held_101 rfl ?_
        refine zr_iload C d_X9_held_103 rfl ?_
        have hJ26 : ∀ z25 : Int32, z25 = (if v5 ≤ x19 then v5 else x19) → zGG p l e R s m args below meth c Q g n1 n2 8 115 [(4, .int z21), (7, .int x19), (0, .ref (g.2.1 69)), (1, .int v1), (2, .int v2), (3, .int v3), (5, .int v5), (6, .int v6)] [.int z25] σ := by
          intro z25 hz25
          replace h := h z25 hz25
          refine zr_istore C [(5, .int z25), (4, .int z21), (7, .int x19), (0, .ref (g.2.1 69)), (1, .int v1), (2, .int v2), (3, .int v3), (6, .int v6)] d_X9_held_115 (by decide) rfl ?_
          refine zr_iinc C (v6 + 1) [(6, .int (v6 + 1)), (5, .int z25), (4, .int z21), (7, .int x19), (0, .ref (g.2.1 69)), (1, .int v1), (2, .int v2), (3, .int v3)] d_X9_held_117 rfl rfl (by decide) rfl ?_
          refine zr_goto C 47 d_X9_held_120 (by decide) ?_
          exact zr_pick [4, 5, 6, 7, 2, 1, 0] rfl (ih z21 z25 (v6 + 1) h)
        refine zr_icmp_ge C 113 d_X9_held_105 (by decide) (fun hc24 => ?_) (fun hc24 => ?_)
        · skip
          refine zr_iload C d_X9_held_113 rfl ?_
          exact hJ26 _ (by rw [if_pos hc24])
        · skip
          refine zr_iload C d_X9_held_108 rfl ?_
          refine zr_goto C 115 d_X9_held_110 (by decide) ?_
          exact hJ26 _ (by rw [if_neg hc24])
      refine zr_icmp_ge C 97 d_X9_held_89 (by decide) (fun hc20 => ?_) (fun hc20 => ?_)
      · skip
        refine zr_iload C d_X9_held_97 rfl ?_
        exact hJ22 _ (by rw [if_pos hc20])
      · skip
        refine zr_iload C d_X9_held_92 rfl ?_
        refine zr_goto C 99 d_X9_held_94 (by decide) ?_
        exact hJ22 _ (by rw [if_neg hc20])

def wp_X9_held (p1 : Int32) (p2 : Int32) (p3 : Int32) (σ : zST) (Post : Int32 → Prop) : Prop := wp_X9_isShip p1 σ (fun r1 => (if r1 = (0) then Post (-1 : Int32) else wp_X9_in (p2.toInt64) (0 : Int64) (976 : Int64) σ (fun r4 => (if r4 = (0) then Post (-2 : Int32) else wp_X9_in (p3.toInt64) (0 : Int64) (2 : Int64) σ (fun r7 => (if r7 = (0) then Post (-2 : Int32) else ∃ M28 : Nat, wp_X9_held_L47 p1 p2 p3 σ Post M28 p2 (1000000000 : Int32) p2))))))
set_option maxRecDepth 100000 in
set_option maxHeartbeats 4000000 in
theorem g_X9_held {p : Program} {l : Launch} {e : Env} {R : Room} {s : State} {m : MethodId} {args : Array Value} {below : List Frame} {meth : Method} {c : Code} {Q : State → Prop} {g : zG} {n1 n2 : Nat} (C : zCX p R s m args meth c g n1 n2 cX9_held 8 RX9 4 91) {p1 : Int32} {p2 : Int32} {p3 : Int32} {σ : zST} {Post : Int32 → Prop} (hret : ∀ (v : Int32) (pc : Nat) (lv : List (Nat × Value)), Post v → decode cX9_held pc = .ok (.ireturn, 1) → zGG p l e R s m args below meth c Q g n1 n2 8 pc lv [.int v] σ) (h : wp_X9_held p1 p2 p3 σ Post) : zGG p l e R s m args below meth c Q g n1 n2 8 0 [(0, .ref (g.2.1 69)), (1, .int p1), (2, .int p2), (3, .int p3)] [] σ := by
  unfold wp_X9_held at h
  refine zr_aload_n C d_X9_held_0 rfl ?_
  refine zr_iload_n C d_X9_held_1 rfl ?_
  refine zr_cip (zr_runV (As := [.int p1]) (rest := []) C vw_X9_112 (c_X9_isShip l g p1 σ _ h) (sh_69) rfl (by decide) (by decide) rfl rfl (Nat.le_of_ble_eq_true rfl) d_X9_held_2) (fun r1 h => ?_)
  refine zr_if_ne C 10 d_X9_held_5 (by decide) (fun hc3 => ?_) (fun hc3 => ?_)
  · rw [if_neg hc3] at h
    refine zr_iload_n C d_X9_held_10 rfl ?_
    refine zr_i2l C d_X9_held_11 ?_
    refine zr_lconst C (0 : Int64) d_X9_held_12 (by decide) ?_
    refine zr_ldc2 C (v := (976 : Int64)) cl_X9_228 d_X9_held_13 ?_
    refine zr_cip (zr_runS (As := [.long (p2.toInt64), .long (0 : Int64), .long (976 : Int64)]) (rest := []) C sw_X9_89 (c_X9_in l g (p2.toInt64) (0 : Int64) (976 : Int64) σ _ h) (by decide) (by decide) rfl rfl (Nat.le_of_ble_eq_true rfl) d_X9_held_16) (fun r4 h => ?_)
    refine zr_if_eq C 34 d_X9_held_19 (by decide) (fun hc6 => ?_) (fun hc6 => ?_)
    · rw [if_pos hc6] at h
      refine zr_bipush C (-2 : Int32) d_X9_held_34 (by decide) ?_
      exact hret _ _ _ h d_X9_held_36
    · rw [if_neg hc6] at h
      refine zr_iload_n C d_X9_held_22 rfl ?_
      refine zr_i2l C d_X9_held_23 ?_
      refine zr_lconst C (0 : Int64) d_X9_held_24 (by decide) ?_
      refine zr_ldc2 C (v := (2 : Int64)) cl_X9_102 d_X9_held_25 ?_
      refine zr_cip (zr_runS (As := [.long (p3.toInt64), .long (0 : Int64), .long (2 : Int64)]) (rest := []) C sw_X9_89 (c_X9_in l g (p3.toInt64) (0 : Int64) (2 : Int64) σ _ h) (by decide) (by decide) rfl rfl (Nat.le_of_ble_eq_true rfl) d_X9_held_28) (fun r7 h => ?_)
      refine zr_if_ne C 37 d_X9_held_31 (by decide) (fun hc9 => ?_) (fun hc9 => ?_)
      · rw [if_neg hc9] at h
        refine zr_iload_n C d_X9_held_37 rfl ?_
        refine zr_istore C [(4, .int p2), (0, .ref (g.2.1 69)), (1, .int p1), (2, .int p2), (3, .int p3)] d_X9_held_38 (by decide) rfl ?_
        refine zr_ldc C (v := (1000000000 : Int32)) cw_X9_230 d_X9_held_40 ?_
        refine zr_istore C [(5, .int (1000000000 : Int32)), (4, .int p2), (0, .ref (g.2.1 69)), (1, .int p1), (2, .int p2), (3, .int p3)] d_X9_held_42 (by decide) rfl ?_
        refine zr_iload_n C d_X9_held_44 rfl ?_
        refine zr_istore C [(6, .int p2), (5, .int (1000000000 : Int32)), (4, .int p2), (0, .ref (g.2.1 69)), (1, .int p1), (2, .int p2), (3, .int p3)] d_X9_held_45 (by decide) rfl ?_
        obtain ⟨M28, h⟩ := h
        exact zr_pick [3, 4, 5, 6, 2, 1, 0] rfl (g_X9_held_L47 C hret M28 p2 (1000000000 : Int32) p2 h)
      · rw [if_pos hc9] at h
        refine zr_bipush C (-2 : Int32) d_X9_held_34 (by decide) ?_
        exact hret _ _ _ h d_X9_held_36
  · rw [if_pos hc3] at h
    refine zr_iconst C (-1 : Int32) d_X9_held_8 (by decide) ?_
    exact hret _ _ _ h d_X9_held_9
set_option maxRecDepth 20000 in
theorem c_X9_held (l : Launch) (g : zG) (p1 : Int32) (p2 : Int32) (p3 : Int32) (σ : zST) (Post : Int32 → Prop) (h : wp_X9_held p1 p2 p3 σ Post) : Met l yX9_held (Cond.code yX9_held cX9_held 8 (some .int) :: zGW) (zRm 4 91) (va_Pc [.ref (g.2.1 69), .int p1, .int p2, .int p3] (zPP g σ)) (va_Qi (fun r u => Post r ∧ u = σ) (zBB g) (zA g)) 0 0 (zA g) :=
  zMet (by decide) (Nat.le_of_ble_eq_true rfl) (fun p e s m below meth c hr C => g_X9_held C (fun v pc lv hp hd => zr_iret C hr ⟨hp, rfl⟩ hd) h)
def wp_X9_isInHarbour (p1 : Int32) (σ : zST) (Post : Int32 → Prop) : Prop := wp_X9_isShip p1 σ (fun r1 => (if r1 = (0) then True else vp_in p1 6 ∧ True) ∧ ∀ z4 : Int32, z4 = (if r1 = (0) then (0 : Int32) else (if (σ.1 73 p1.toNatClampNeg) = (0) then (1 : Int32) else (0 : Int32))) → zB z4 ∧ Post z4)
set_option maxRecDepth 100000 in
set_option maxHeartbeats 4000000 in
theorem g_X9_isInHarbour {p : Program} {l : Launch} {e : Env} {R : Room} {s : State} {m : MethodId} {args : Array Value} {below : List Frame} {meth : Method} {c : Code} {Q : State → Prop} {g : zG} {n1 n2 : Nat} (C : zCX p R s m args meth c g n1 n2 cX9_isInHarbour 2 RX9 3 66) {p1 : Int32} {σ : zST} {Post : Int32 → Prop} (hret : ∀ (v : Int32) (pc : Nat) (lv : List (Nat × Value)), zB v → Post v → decode cX9_isInHarbour pc = .ok (.ireturn, 1) → zGG p l e R s m args below meth c Q g n1 n2 2 pc lv [.int v] σ) (h : wp_X9_isInHarbour p1 σ Post) : zGG p l e R s m args below meth c Q g n1 n2 2 0 [(0, .ref (g.2.1 69)), (1, .int p1)] [] σ := by
  unfold wp_X9_isInHarbour at h
  refine zr_aload_n C d_X9_isInHarbour_0 rfl ?_
  refine zr_iload_n C d_X9_isInHarbour_1 rfl ?_
  refine zr_cip (zr_runV (As := [.int p1]) (rest := []) C vw_X9_112 (c_X9_isShip l g p1 σ _ h) (sh_69) rfl (by decide) (by decide) rfl rfl (Nat.le_of_ble_eq_true rfl) d_X9_isInHarbour_2) (fun r1 h => ?_)
  obtain ⟨ho6, h⟩ := h
  have hJ5 : ∀ z4 : Int32, z4 = (if r1 = (0) then (0 : Int32) else (if (σ.1 73 p1.toNatClampNeg) = (0) then (1 : Int32) else (0 : Int32))) → zGG p l e R s m args below meth c Q g n1 n2 2 22 [(0, .ref (g.2.1 69)), (1, .int p1)] [.int z4] σ := by
    intro z4 hz4
    replace h := h z4 hz4
    exact hret _ _ _ h.1 h.2 d_X9_isInHarbour_22
  refine zr_if_eq C 21 d_X9_isInHarbour_5 (by decide) (fun hc3 => ?_) (fun hc3 => ?_)
  · skip
    rw [if_pos hc3] at ho6
    refine zr_iconst C (0 : Int32) d_X9_isInHarbour_21 (by decide) ?_
    exact hJ5 _ (by rw [if_pos hc3])
  · skip
    rw [if_neg hc3] at ho6
    refine zr_aload_n C d_X9_isInHarbour_8 rfl ?_
    refine zr_getr (u := 73) C fw_X9_19 (sh_69) rfl d_X9_isInHarbour_9 ?_
    refine zr_iload_n C d_X9_isInHarbour_12 rfl ?_
    obtain ⟨ho7, ho6⟩ := ho6
    refine zr_iald C (sh_73) ho7 d_X9_isInHarbour_13 ?_
    refine zr_if_ne C 21 d_X9_isInHarbour_14 (by decide) (fun hc8 => ?_) (fun hc8 => ?_)
    · skip
      refine zr_iconst C (0 : Int32) d_X9_isInHarbour_21 (by decide) ?_
      exact hJ5 _ (by rw [if_neg hc3, if_neg hc8])
    · skip
      refine zr_iconst C (1 : Int32) d_X9_isInHarbour_17 (by decide) ?_
      refine zr_goto C 22 d_X9_isInHarbour_18 (by decide) ?_
      exact hJ5 _ (by rw [if_neg hc3, if_pos hc8])
set_option maxRecDepth 20000 in
theorem c_X9_isInHarbour (l : Launch) (g : zG) (p1 : Int32) (σ : zST) (Post : Int32 → Prop) (h : wp_X9_isInHarbour p1 σ Post) : Met l yX9_isInHarbour (Cond.code yX9_isInHarbour cX9_isInHarbour 2 (some .boolean) :: zGW) (zRm 3 66) (va_Pc [.ref (g.2.1 69), .int p1] (zPP g σ)) (va_Qi (fun r u => Post r ∧ u = σ) (zBB g) (zA g)) 0 0 (zA g) :=
  zMet (by decide) (Nat.le_of_ble_eq_true rfl) (fun p e s m below meth c hr C => g_X9_isInHarbour C (fun v pc lv hz hp hd => zr_zret C hr hz ⟨hp, rfl⟩ hd) h)
def wp_X9_layFleet_L42 (v1 : Int32) (v2 : Int32) (v3 : Int32) (K115 : zST → Prop) : Nat → Int32 → zST → Prop
  | 0, _, _ => False
  | N + 1, v4, σ => (if (σ.1 69 34) ≤ v4 then K115 σ else vp_in v4 729 ∧ wp_X9_meanOf v2 v3 v1 σ (fun r8 => vp_in ((v3 * (σ.1 69 34)) + v4) 729 ∧ ∀ σ11 : zST, σ11 = (wI σ 82 ((v3 * (σ.1 69 34)) + v4).toNatClampNeg ((σ.1 82 v4.toNatClampNeg) + r8)) → vp_in v4 729 ∧ wp_X9_worstOf v2 v3 v1 σ11 (fun r13 => vp_in ((v3 * (σ11.1 69 34)) + v4) 729 ∧ wp_X9_layFleet_L42 v1 v2 v3 K115 N (v4 + 1) (wI σ11 83 ((v3 * (σ11.1 69 34)) + v4).toNatClampNeg ((σ11.1 83 v4.toNatClampNeg) + r13)))))

set_option maxRecDepth 100000 in
set_option maxHeartbeats 4000000 in
theorem g_X9_layFleet_L42 {p : Program} {l : Launch} {e : Env} {R : Room} {s : State} {m : MethodId} {args : Array Value} {below : List Frame} {meth : Method} {c : Code} {Q : State → Prop} {g : zG} {n1 n2 : Nat} (C : zCX p R s m args meth c g n1 n2 cX9_layFleet 5 RX9 4 87) {v1 : Int32} {v2 : Int32} {v3 : Int32} {K115 : zST → Prop} (hK115 : ∀ (σ : zST), K115 σ → zGG p l e R s m args below meth c Q g n1 n2 5 115 [(0, .ref (g.2.1 69)), (1, .int v1), (2, .int v2), (3, .int v3)] [] σ) : ∀ (N : Nat) (v4 : Int32) (σ : zST) , wp_X9_layFleet_L42 v1 v2 v3 K115 N v4 σ → zGG p l e R s m args below meth c Q g n1 n2 5 42 [(0, .ref (g.2.1 69)), (1, .int v1), (2, .int v2), (3, .int v3), (4, .int v4)] [] σ := by
  intro N
  induction N with
  | zero =>
    intro v4 σ h
    exact h.elim
  | succ N ih =>
    intro v4 σ h
    rw [wp_X9_layFleet_L42] at h
    refine zr_iload C d_X9_layFleet_42 rfl ?_
    refine zr_aload_n C d_X9_layFleet_44 rfl ?_
    refine zr_geti C fw_X9_231 (sh_69) rfl d_X9_layFleet_45 ?_
    refine zr_icmp_ge C 115 d_X9_layFleet_48 (by decide) (fun hc6 => ?_) (fun hc6 => ?_)
    · rw [if_pos hc6] at h
      exact zr_pick [0, 1, 2, 3] rfl (hK115 σ h)
    · rw [if_neg hc6] at h
      refine zr_aload_n C d_X9_layFleet_51 rfl ?_
      refine zr_getr (u := 82) C fw_X9_46 (sh_69) rfl d_X9_layFleet_52 ?_
      refine zr_iload_n C d_X9_layFleet_55 rfl ?_
      refine zr_aload_n C d_X9_layFleet_56 rfl ?_
      refine zr_geti C fw_X9_231 (sh_69) rfl d_X9_layFleet_57 ?_
      refine zr_imul C d_X9_layFleet_60 ?_
      refine zr_iload C d_X9_layFleet_61 rfl ?_
      refine zr_iadd C d_X9_layFleet_63 ?_
      refine zr_aload_n C d_X9_layFleet_64 rfl ?_
      refine zr_getr (u := 82) C fw_X9_46 (sh_69) rfl d_X9_layFleet_65 ?_
      refine zr_iload C d_X9_layFleet_68 rfl ?_
      obtain ⟨ho7, h⟩ := h
      refine zr_iald C (sh_82) ho7 d_X9_layFleet_70 ?_
      refine zr_aload_n C d_X9_layFleet_71 rfl ?_
      refine zr_iload_n C d_X9_layFleet_72 rfl ?_
      refine zr_iload_n C d_X9_layFleet_73 rfl ?_
      refine zr_iload_n C d_X9_layFleet_74 rfl ?_
      refine zr_cip (zr_runV (As := [.int v2, .int v3, .int v1]) (rest := [.int (σ.1 82 v4.toNatClampNeg), .int ((v3 * (σ.1 69 34)) + v4), .ref (g.2.1 82)]) C vw_X9_212 (c_X9_meanOf l g v2 v3 v1 σ _ h) (sh_69) rfl (by decide) (by decide) rfl rfl (Nat.le_of_ble_eq_true rfl) d_X9_layFleet_75) (fun r8 h => ?_)
      refine zr_iadd C d_X9_layFleet_78 ?_
      obtain ⟨ho10, h⟩ := h
      refine zr_iast C (sh_82) ho10 d_X9_layFleet_79 ?_
      refine zr_aload_n C d_X9_layFleet_80 rfl ?_
      refine zr_getr (u := 83) C fw_X9_49 (sh_69) rfl d_X9_layFleet_81 ?_
      refine zr_iload_n C d_X9_layFleet_84 rfl ?_
      refine zr_aload_n C d_X9_layFleet_85 rfl ?_
      refine zr_tops (fun σ11 hσ11 => ?_)
      replace h := h σ11 hσ11
      refine zr_geti C fw_X9_231 (sh_69) rfl d_X9_layFleet_86 ?_
      refine zr_imul C d_X9_layFleet_89 ?_
      refine zr_iload C d_X9_layFleet_90 rfl ?_
      refine zr_iadd C d_X9_layFleet_92 ?_
      refine zr_aload_n C d_X9_layFleet_93 rfl ?_
      refine zr_getr (u := 83) C fw_X9_49 (sh_69) rfl d_X9_layFleet_94 ?_
      refine zr_iload C d_X9_layFleet_97 rfl ?_
      obtain ⟨ho12, h⟩ := h
      refine zr_iald C (sh_83) ho12 d_X9_layFleet_99 ?_
      refine zr_aload_n C d_X9_layFleet_100 rfl ?_
      refine zr_iload_n C d_X9_layFleet_101 rfl ?_
      refine zr_iload_n C d_X9_layFleet_102 rfl ?_
      refine zr_iload_n C d_X9_layFleet_103 rfl ?_
      refine zr_cip (zr_runV (As := [.int v2, .int v3, .int v1]) (rest := [.int (σ11.1 83 v4.toNatClampNeg), .int ((v3 * (σ11.1 69 34)) + v4), .ref (g.2.1 83)]) C vw_X9_222 (c_X9_worstOf l g v2 v3 v1 σ11 _ h) (sh_69) rfl (by decide) (by decide) rfl rfl (Nat.le_of_ble_eq_true rfl) d_X9_layFleet_104) (fun r13 h => ?_)
      refine zr_iadd C d_X9_layFleet_107 ?_
      obtain ⟨ho15, h⟩ := h
      refine zr_iast C (sh_83) ho15 d_X9_layFleet_108 ?_
      refine zr_iinc C (v4 + 1) [(4, .int (v4 + 1)), (0, .ref (g.2.1 69)), (1, .int v1), (2, .int v2), (3, .int v3)] d_X9_layFleet_109 rfl rfl (by decide) rfl ?_
      refine zr_goto C 42 d_X9_layFleet_112 (by decide) ?_
      exact zr_pick [1, 2, 3, 4, 0] rfl (ih (v4 + 1) (wI σ11 83 ((v3 * (σ11.1 69 34)) + v4).toNatClampNeg ((σ11.1 83 v4.toNatClampNeg) + r13)) h)

def wp_X9_layFleet_L35 (v1 : Int32) (v2 : Int32) (K121 : zST → Prop) : Nat → Int32 → zST → Prop
  | 0, _, _ => False
  | N + 1, v3, σ => (if v3 < (0) then K121 σ else ∃ M16 : Nat, wp_X9_layFleet_L42 v1 v2 v3 (fun σ => wp_X9_layFleet_L35 v1 v2 K121 N (v3 + (-1)) σ) M16 (0 : Int32) σ)

set_option maxRecDepth 100000 in
set_option maxHeartbeats 4000000 in
theorem g_X9_layFleet_L35 {p : Program} {l : Launch} {e : Env} {R : Room} {s : State} {m : MethodId} {args : Array Value} {below : List Frame} {meth : Method} {c : Code} {Q : State → Prop} {g : zG} {n1 n2 : Nat} (C : zCX p R s m args meth c g n1 n2 cX9_layFleet 5 RX9 4 87) {v1 : Int32} {v2 : Int32} {K121 : zST → Prop} (hK121 : ∀ (σ : zST), K121 σ → zGG p l e R s m args below meth c Q g n1 n2 5 121 [(0, .ref (g.2.1 69)), (1, .int v1), (2, .int v2)] [] σ) : ∀ (N : Nat) (v3 : Int32) (σ : zST) , wp_X9_layFleet_L35 v1 v2 K121 N v3 σ → zGG p l e R s m args below meth c Q g n1 n2 5 35 [(0, .ref (g.2.1 69)), (1, .int v1), (2, .int v2), (3, .int v3)] [] σ := by
  intro N
  induction N with
  | zero =>
    intro v3 σ h
    exact h.elim
  | succ N ih =>
    intro v3 σ h
    rw [wp_X9_layFleet_L35] at h
    refine zr_iload_n C d_X9_layFleet_35 rfl ?_
    refine zr_if_lt C 121 d_X9_layFleet_36 (by decide) (fun hc5 => ?_) (fun hc5 => ?_)
    · rw [if_pos hc5] at h
      exact zr_pick [0, 1, 2] rfl (hK121 σ h)
    · rw [if_neg hc5] at h
      refine zr_iconst C (0 : Int32) d_X9_layFleet_39 (by decide) ?_
      refine zr_istore C [(4, .int (0 : Int32)), (0, .ref (g.2.1 69)), (1, .int v1), (2, .int v2), (3, .int v3)] d_X9_layFleet_40 (by decide) rfl ?_
      obtain ⟨M16, h⟩ := h
      exact zr_pick [1, 2, 3, 4, 0] rfl (g_X9_layFleet_L42 C (fun σ h => by
          refine zr_iinc C (v3 + (-1)) [(3, .int (v3 + (-1))), (0, .ref (g.2.1 69)), (1, .int v1), (2, .int v2)] d_X9_layFleet_115 rfl rfl (by decide) rfl ?_
          refine zr_goto C 35 d_X9_layFleet_118 (by decide) ?_
          exact zr_pick [1, 2, 3, 0] rfl (ih (v3 + (-1)) σ h)) M16 (0 : Int32) σ h)

def wp_X9_layFleet_L21 (v1 : Int32) (Post : zST → Prop) : Nat → Int32 → zST → Prop
  | 0, _, _ => False
  | N + 1, v2, σ => (if v2 < (0) then Post σ else wp_X9_isInHarbour v2 σ (fun r2 => (if r2 = (0) then wp_X9_layFleet_L21 v1 Post N (v2 + (-1)) σ else ∃ M17 : Nat, wp_X9_layFleet_L35 v1 v2 (fun σ => wp_X9_layFleet_L21 v1 Post N (v2 + (-1)) (wI σ 69 34 ((σ.1 69 34) * (3 : Int32)))) M17 (2 : Int32) σ)))

set_option maxRecDepth 100000 in
set_option maxHeartbeats 4000000 in
theorem g_X9_layFleet_L21 {p : Program} {l : Launch} {e : Env} {R : Room} {s : State} {m : MethodId} {args : Array Value} {below : List Frame} {meth : Method} {c : Code} {Q : State → Prop} {g : zG} {n1 n2 : Nat} (C : zCX p R s m args meth c g n1 n2 cX9_layFleet 5 RX9 4 87) {v1 : Int32}  {Post : zST → Prop} (hret : ∀ (σ : zST) (pc : Nat) (lv : List (Nat × Value)), Post σ → decode cX9_layFleet pc = .ok (.return_, 1) → zGG p l e R s m args below meth c Q g n1 n2 5 pc lv [] σ) : ∀ (N : Nat) (v2 : Int32) (σ : zST) , wp_X9_layFleet_L21 v1 Post N v2 σ → zGG p l e R s m args below meth c Q g n1 n2 5 21 [(0, .ref (g.2.1 69)), (1, .int v1), (2, .int v2)] [] σ := by
  intro N
  induction N with
  | zero =>
    intro v2 σ h
    exact h.elim
  | succ N ih =>
    intro v2 σ h
    rw [wp_X9_layFleet_L21] at h
    refine zr_iload_n C d_X9_layFleet_21 rfl ?_
    refine zr_if_lt C 137 d_X9_layFleet_22 (by decide) (fun hc1 => ?_) (fun hc1 => ?_)
    · rw [if_pos hc1] at h
      exact hret _ _ _ h d_X9_layFleet_137
    · rw [if_neg hc1] at h
      refine zr_aload_n C d_X9_layFleet_25 rfl ?_
      refine zr_iload_n C d_X9_layFleet_26 rfl ?_
      refine zr_cip (zr_runV (As := [.int v2]) (rest := []) C vw_X9_234 (c_X9_isInHarbour l g v2 σ _ h) (sh_69) rfl (by decide) (by decide) rfl rfl (Nat.le_of_ble_eq_true rfl) d_X9_layFleet_27) (fun r2 h => ?_)
      refine zr_if_eq C 131 d_X9_layFleet_30 (by decide) (fun hc4 => ?_) (fun hc4 => ?_)
      · rw [if_pos hc4] at h
        refine zr_iinc C (v2 + (-1)) [(2, .int (v2 + (-1))), (0, .ref (g.2.1 69)), (1, .int v1)] d_X9_layFleet_131 rfl rfl (by decide) rfl ?_
        refine zr_goto C 21 d_X9_layFleet_134 (by decide) ?_
        exact zr_pick [1, 2, 0] rfl (ih (v2 + (-1)) σ h)
      · rw [if_neg hc4] at h
        refine zr_iconst C (2 : Int32) d_X9_layFleet_33 (by decide) ?_
        refine zr_istore_n C [(3, .int (2 : Int32)), (0, .ref (g.2.1 69)), (1, .int v1), (2, .int v2)] d_X9_layFleet_34 (by decide) rfl ?_
        obtain ⟨M17, h⟩ := h
        exact zr_pick [1, 2, 3, 0] rfl (g_X9_layFleet_L35 C (fun σ h => by
            refine zr_aload_n C d_X9_layFleet_121 rfl ?_
            refine zr_dup C d_X9_layFleet_122 rfl ?_
            refine zr_geti C fw_X9_231 (sh_69) rfl d_X9_layFleet_123 ?_
            refine zr_iconst C (3 : Int32) d_X9_layFleet_126 (by decide) ?_
            refine zr_imul C d_X9_layFleet_127 ?_
            refine zr_puti C fw_X9_231 pw_X9_34 (sh_69) rfl rfl rfl d_X9_layFleet_128 ?_
            refine zr_iinc C (v2 + (-1)) [(2, .int (v2 + (-1))), (0, .ref (g.2.1 69)), (1, .int v1)] d_X9_layFleet_131 rfl rfl (by decide) rfl ?_
            refine zr_goto C 21 d_X9_layFleet_134 (by decide) ?_
            exact zr_pick [1, 2, 0] rfl (ih (v2 + (-1)) (wI σ 69 34 ((σ.1 69 34) * (3 : Int32))) h)) M17 (2 : Int32) σ h)

def wp_X9_layFleet (p1 : Int32) (σ : zST) (Post : zST → Prop) : Prop := ∃ M18 : Nat, wp_X9_layFleet_L21 p1 Post M18 (5 : Int32) (wI (wI (wI σ 69 34 (1 : Int32)) 82 (0 : Int32).toNatClampNeg (0 : Int32)) 83 (0 : Int32).toNatClampNeg (0 : Int32))
set_option maxRecDepth 100000 in
set_option maxHeartbeats 4000000 in
theorem g_X9_layFleet {p : Program} {l : Launch} {e : Env} {R : Room} {s : State} {m : MethodId} {args : Array Value} {below : List Frame} {meth : Method} {c : Code} {Q : State → Prop} {g : zG} {n1 n2 : Nat} (C : zCX p R s m args meth c g n1 n2 cX9_layFleet 5 RX9 4 87) {p1 : Int32} {σ : zST} {Post : zST → Prop} (hret : ∀ (σ : zST) (pc : Nat) (lv : List (Nat × Value)), Post σ → decode cX9_layFleet pc = .ok (.return_, 1) → zGG p l e R s m args below meth c Q g n1 n2 5 pc lv [] σ) (h : wp_X9_layFleet p1 σ Post) : zGG p l e R s m args below meth c Q g n1 n2 5 0 [(0, .ref (g.2.1 69)), (1, .int p1)] [] σ := by
  unfold wp_X9_layFleet at h
  refine zr_aload_n C d_X9_layFleet_0 rfl ?_
  refine zr_iconst C (1 : Int32) d_X9_layFleet_1 (by decide) ?_
  refine zr_puti C fw_X9_231 pw_X9_34 (sh_69) rfl rfl rfl d_X9_layFleet_2 ?_
  refine zr_aload_n C d_X9_layFleet_5 rfl ?_
  refine zr_getr (u := 82) C fw_X9_46 (sh_69) rfl d_X9_layFleet_6 ?_
  refine zr_iconst C (0 : Int32) d_X9_layFleet_9 (by decide) ?_
  refine zr_iconst C (0 : Int32) d_X9_layFleet_10 (by decide) ?_
  refine zr_iast C (sh_82) (by unfold vp_in; decide) d_X9_layFleet_11 ?_
  refine zr_aload_n C d_X9_layFleet_12 rfl ?_
  refine zr_getr (u := 83) C fw_X9_49 (sh_69) rfl d_X9_layFleet_13 ?_
  refine zr_iconst C (0 : Int32) d_X9_layFleet_16 (by decide) ?_
  refine zr_iconst C (0 : Int32) d_X9_layFleet_17 (by decide) ?_
  refine zr_iast C (sh_83) (by unfold vp_in; decide) d_X9_layFleet_18 ?_
  refine zr_iconst C (5 : Int32) d_X9_layFleet_19 (by decide) ?_
  refine zr_istore_n C [(2, .int (5 : Int32)), (0, .ref (g.2.1 69)), (1, .int p1)] d_X9_layFleet_20 (by decide) rfl ?_
  obtain ⟨M18, h⟩ := h
  exact zr_pick [1, 2, 0] rfl (g_X9_layFleet_L21 C hret M18 (5 : Int32) (wI (wI (wI σ 69 34 (1 : Int32)) 82 (0 : Int32).toNatClampNeg (0 : Int32)) 83 (0 : Int32).toNatClampNeg (0 : Int32)) h)
set_option maxRecDepth 20000 in
theorem c_X9_layFleet (l : Launch) (g : zG) (p1 : Int32) (σ : zST) (Post : zST → Prop) (h : wp_X9_layFleet p1 σ Post) : Met l yX9_layFleet (Cond.code yX9_layFleet cX9_layFleet 5 none :: zGW) (zRm 4 87) (va_Pc [.ref (g.2.1 69), .int p1] (zPP g σ)) (va_Qv Post (zBB g) (zA g)) 0 0 (zA g) :=
  zMet (by decide) (Nat.le_of_ble_eq_true rfl) (fun p e s m below meth c hr C => g_X9_layFleet C (fun σ pc lv hp hd => zr_vret C hr hp hd) h)
def wp_X9_behindIt_L6 (σ : zST) (Post : Int32 → Prop) : Nat → Int32 → Int32 → Prop
  | 0, _, _ => False
  | N + 1, v2, v3 => (if (6 : Int32) ≤ v3 then Post v2 else wp_X9_isInHarbour v3 σ (fun r3 => ∀ z6 : Int32, z6 = (if r3 = (0) then (1 : Int32) else (3 : Int32)) → ∀ x9 : Int32, x9 = (v2 * z6) → wp_X9_behindIt_L6 σ Post N x9 (v3 + 1)))

set_option maxRecDepth 100000 in
set_option maxHeartbeats 4000000 in
theorem g_X9_behindIt_L6 {p : Program} {l : Launch} {e : Env} {R : Room} {s : State} {m : MethodId} {args : Array Value} {below : List Frame} {meth : Method} {c : Code} {Q : State → Prop} {g : zG} {n1 n2 : Nat} (C : zCX p R s m args meth c g n1 n2 cX9_behindIt 4 RX9 4 87) {σ : zST}  {Post : Int32 → Prop} (hret : ∀ (v : Int32) (pc : Nat) (lv : List (Nat × Value)), Post v → decode cX9_behindIt pc = .ok (.ireturn, 1) → zGG p l e R s m args below meth c Q g n1 n2 4 pc lv [.int v] σ) : ∀ (N : Nat) (v2 : Int32) (v3 : Int32) , wp_X9_behindIt_L6 σ Post N v2 v3 → zGG p l e R s m args below meth c Q g n1 n2 4 6 [(0, .ref (g.2.1 69)), (2, .int v2), (3, .int v3)] [] σ := by
  intro N
  induction N with
  | zero =>
    intro v2 v3 h
    exact h.elim
  | succ N ih =>
    intro v2 v3 h
    rw [wp_X9_behindIt_L6] at h
    refine zr_iload_n C d_X9_behindIt_6 rfl ?_
    refine zr_bipush C (6 : Int32) d_X9_behindIt_7 (by decide) ?_
    refine zr_icmp_ge C 34 d_X9_behindIt_9 (by decide) (fun hc2 => ?_) (fun hc2 => ?_)
    · rw [if_pos hc2] at h
      refine zr_iload_n C d_X9_behindIt_34 rfl ?_
      exact hret _ _ _ h d_X9_behindIt_35
    · rw [if_neg hc2] at h
      refine zr_iload_n C d_X9_behindIt_12 rfl ?_
      refine zr_aload_n C d_X9_behindIt_13 rfl ?_
      refine zr_iload_n C d_X9_behindIt_14 rfl ?_
      refine zr_cip (zr_runV (As := [.int v3]) (rest := [.int v2]) C vw_X9_234 (c_X9_isInHarbour l g v3 σ _ h) (sh_69) rfl (by decide) (by decide) rfl rfl (Nat.le_of_ble_eq_true rfl) d_X9_behindIt_15) (fun r3 h => ?_)
      have hJ7 : ∀ z6 : Int32, z6 = (if r3 = (0) then (1 : Int32) else (3 : Int32)) → zGG p l e R s m args below meth c Q g n1 n2 4 26 [(0, .ref (g.2.1 69)), (2, .int v2), (3, .int v3)] [.int z6, .int v2] σ := by
        intro z6 hz6
        replace h := h z6 hz6
        refine zr_imul C d_X9_behindIt_26 ?_
        refine zr_topi (fun x9 hx9 => ?_)
        replace h := h x9 hx9
        refine zr_istore_n C [(2, .int x9), (0, .ref (g.2.1 69)), (3, .int v3)] d_X9_behindIt_27 (by decide) rfl ?_
        refine zr_iinc C (v3 + 1) [(3, .int (v3 + 1)), (2, .int x9), (0, .ref (g.2.1 69))] d_X9_behindIt_28 rfl rfl (by decide) rfl ?_
        refine zr_goto C 6 d_X9_behindIt_31 (by decide) ?_
        exact zr_pick [2, 1, 0] rfl (ih x9 (v3 + 1) h)
      refine zr_if_eq C 25 d_X9_behindIt_18 (by decide) (fun hc5 => ?_) (fun hc5 => ?_)
      · skip
        refine zr_iconst C (1 : Int32) d_X9_behindIt_25 (by decide) ?_
        exact hJ7 _ (by rw [if_pos hc5])
      · skip
        refine zr_iconst C (3 : Int32) d_X9_behindIt_21 (by decide) ?_
        refine zr_goto C 26 d_X9_behindIt_22 (by decide) ?_
        exact hJ7 _ (by rw [if_neg hc5])

def wp_X9_behindIt (p1 : Int32) (σ : zST) (Post : Int32 → Prop) : Prop := ∀ x1 : Int32, x1 = (p1 + (1 : Int32)) → ∃ M10 : Nat, wp_X9_behindIt_L6 σ Post M10 (1 : Int32) x1
set_option maxRecDepth 100000 in
set_option maxHeartbeats 4000000 in
theorem g_X9_behindIt {p : Program} {l : Launch} {e : Env} {R : Room} {s : State} {m : MethodId} {args : Array Value} {below : List Frame} {meth : Method} {c : Code} {Q : State → Prop} {g : zG} {n1 n2 : Nat} (C : zCX p R s m args meth c g n1 n2 cX9_behindIt 4 RX9 4 87) {p1 : Int32} {σ : zST} {Post : Int32 → Prop} (hret : ∀ (v : Int32) (pc : Nat) (lv : List (Nat × Value)), Post v → decode cX9_behindIt pc = .ok (.ireturn, 1) → zGG p l e R s m args below meth c Q g n1 n2 4 pc lv [.int v] σ) (h : wp_X9_behindIt p1 σ Post) : zGG p l e R s m args below meth c Q g n1 n2 4 0 [(0, .ref (g.2.1 69)), (1, .int p1)] [] σ := by
  unfold wp_X9_behindIt at h
  refine zr_iconst C (1 : Int32) d_X9_behindIt_0 (by decide) ?_
  refine zr_istore_n C [(2, .int (1 : Int32)), (0, .ref (g.2.1 69)), (1, .int p1)] d_X9_behindIt_1 (by decide) rfl ?_
  refine zr_iload_n C d_X9_behindIt_2 rfl ?_
  refine zr_iconst C (1 : Int32) d_X9_behindIt_3 (by decide) ?_
  refine zr_iadd C d_X9_behindIt_4 ?_
  refine zr_topi (fun x1 hx1 => ?_)
  replace h := h x1 hx1
  refine zr_istore_n C [(3, .int x1), (2, .int (1 : Int32)), (0, .ref (g.2.1 69)), (1, .int p1)] d_X9_behindIt_5 (by decide) rfl ?_
  obtain ⟨M10, h⟩ := h
  exact zr_pick [2, 1, 0] rfl (g_X9_behindIt_L6 C hret M10 (1 : Int32) x1 h)
set_option maxRecDepth 20000 in
theorem c_X9_behindIt (l : Launch) (g : zG) (p1 : Int32) (σ : zST) (Post : Int32 → Prop) (h : wp_X9_behindIt p1 σ Post) : Met l yX9_behindIt (Cond.code yX9_behindIt cX9_behindIt 4 (some .int) :: zGW) (zRm 4 87) (va_Pc [.ref (g.2.1 69), .int p1] (zPP g σ)) (va_Qi (fun r u => Post r ∧ u = σ) (zBB g) (zA g)) 0 0 (zA g) :=
  zMet (by decide) (Nat.le_of_ble_eq_true rfl) (fun p e s m below meth c hr C => g_X9_behindIt C (fun v pc lv hp hd => zr_iret C hr ⟨hp, rfl⟩ hd) h)
def wp_X9_bound_L49 (v2 : Int32) (v3 : Int32) (K118 : Int32 → zST → Prop) : Nat → Int32 → Int32 → zST → Prop
  | 0, _, _, _ => False
  | N + 1, v4, v5, σ => (if (σ.1 69 34) ≤ v5 then K118 v4 σ else vp_in v5 729 ∧ (if v2 < (σ.1 83 v5.toNatClampNeg) then True else (if v4 < (0) then True else vp_in v5 729 ∧ vp_in v4 729 ∧ True)) ∧ ∀ z13 : Int32, z13 = (if v2 < (σ.1 83 v5.toNatClampNeg) then (0 : Int32) else (if v4 < (0) then (1 : Int32) else (if (σ.1 82 v4.toNatClampNeg) ≤ (σ.1 82 v5.toNatClampNeg) then (0 : Int32) else (1 : Int32)))) → ∀ z21 : Int32, z21 = (if z13 = (0) then v4 else v5) → wp_X9_bound_L49 v2 v3 K118 N z21 (v5 + 1) σ)

set_option maxRecDepth 100000 in
set_option maxHeartbeats 4000000 in
theorem g_X9_bound_L49 {p : Program} {l : Launch} {e : Env} {R : Room} {s : State} {m : MethodId} {args : Array Value} {below : List Frame} {meth : Method} {c : Code} {Q : State → Prop} {g : zG} {n1 n2 : Nat} (C : zCX p R s m args meth c g n1 n2 cX9_bound 7 RX9 5 111) {v2 : Int32} {v3 : Int32} {K118 : Int32 → zST → Prop} (hK118 : ∀ (w4 : Int32) (σ : zST), K118 w4 σ → zGG p l e R s m args below meth c Q g n1 n2 7 118 [(0, .ref (g.2.1 69)), (3, .int v3), (4, .int w4)] [] σ) : ∀ (N : Nat) (v4 : Int32) (v5 : Int32) (σ : zST) , wp_X9_bound_L49 v2 v3 K118 N v4 v5 σ → zGG p l e R s m args below meth c Q g n1 n2 7 49 [(0, .ref (g.2.1 69)), (2, .int v2), (3, .int v3), (4, .int v4), (5, .int v5)] [] σ := by
  intro N
  induction N with
  | zero =>
    intro v4 v5 σ h
    exact h.elim
  | succ N ih =>
    intro v4 v5 σ h
    rw [wp_X9_bound_L49] at h
    refine zr_iload C d_X9_bound_49 rfl ?_
    refine zr_aload_n C d_X9_bound_51 rfl ?_
    refine zr_geti C fw_X9_231 (sh_69) rfl d_X9_bound_52 ?_
    refine zr_icmp_ge C 118 d_X9_bound_55 (by decide) (fun hc10 => ?_) (fun hc10 => ?_)
    · rw [if_pos hc10] at h
      exact zr_pick [0, 2, 3] rfl (hK118 v4 σ h)
    · rw [if_neg hc10] at h
      refine zr_aload_n C d_X9_bound_58 rfl ?_
      refine zr_getr (u := 83) C fw_X9_49 (sh_69) rfl d_X9_bound_59 ?_
      refine zr_iload C d_X9_bound_62 rfl ?_
      obtain ⟨ho11, h⟩ := h
      refine zr_iald C (sh_83) ho11 d_X9_bound_64 ?_
      refine zr_iload_n C d_X9_bound_65 rfl ?_
      obtain ⟨ho15, h⟩ := h
      have hJ14 : ∀ z13 : Int32, z13 = (if v2 < (σ.1 83 v5.toNatClampNeg) then (0 : Int32) else (if v4 < (0) then (1 : Int32) else (if (σ.1 82 v4.toNatClampNeg) ≤ (σ.1 82 v5.toNatClampNeg) then (0 : Int32) else (1 : Int32)))) → zGG p l e R s m args below meth c Q g n1 n2 7 96 [(0, .ref (g.2.1 69)), (2, .int v2), (3, .int v3), (4, .int v4), (5, .int v5)] [.int z13] σ := by
        intro z13 hz13
        replace h := h z13 hz13
        refine zr_istore C [(6, .int z13), (0, .ref (g.2.1 69)), (2, .int v2), (3, .int v3), (4, .int v4), (5, .int v5)] d_X9_bound_96 (by decide) rfl ?_
        refine zr_iload C d_X9_bound_98 rfl ?_
        have hJ22 : ∀ z21 : Int32, z21 = (if z13 = (0) then v4 else v5) → zGG p l e R s m args below meth c Q g n1 n2 7 110 [(6, .int z13), (0, .ref (g.2.1 69)), (2, .int v2), (3, .int v3), (4, .int v4), (5, .int v5)] [.int z21] σ := by
          intro z21 hz21
          replace h := h z21 hz21
          refine zr_istore C [(4, .int z21), (6, .int z13), (0, .ref (g.2.1 69)), (2, .int v2), (3, .int v3), (5, .int v5)] d_X9_bound_110 (by decide) rfl ?_
          refine zr_iinc C (v5 + 1) [(5, .int (v5 + 1)), (4, .int z21), (6, .int z13), (0, .ref (g.2.1 69)), (2, .int v2), (3, .int v3)] d_X9_bound_112 rfl rfl (by decide) rfl ?_
          refine zr_goto C 49 d_X9_bound_115 (by decide) ?_
          exact zr_pick [3, 4, 5, 1, 0] rfl (ih z21 (v5 + 1) σ h)
        refine zr_if_eq C 108 d_X9_bound_100 (by decide) (fun hc20 => ?_) (fun hc20 => ?_)
        · skip
          refine zr_iload C d_X9_bound_108 rfl ?_
          exact hJ22 _ (by rw [if_pos hc20])
        · skip
          refine zr_iload C d_X9_bound_103 rfl ?_
          refine zr_goto C 110 d_X9_bound_105 (by decide) ?_
          exact hJ22 _ (by rw [if_neg hc20])
      refine zr_icmp_gt C 95 d_X9_bound_66 (by decide) (fun hc12 => ?_) (fun hc12 => ?_)
      · skip
        rw [if_pos hc12] at ho15
        refine zr_iconst C (0 : Int32) d_X9_bound_95 (by decide) ?_
        exact hJ14 _ (by rw [if_pos hc12])
      · skip
        rw [if_neg hc12] at ho15
        refine zr_iload C d_X9_bound_69 rfl ?_
        refine zr_if_lt C 91 d_X9_bound_71 (by decide) (fun hc16 => ?_) (fun hc16 => ?_)
        · skip
          rw [if_pos hc16] at ho15
          refine zr_iconst C (1 : Int32) d_X9_bound_91 (by decide) ?_
          refine zr_goto C 96 d_X9_bound_92 (by decide) ?_
          exact hJ14 _ (by rw [if_neg hc12, if_pos hc16])
        · skip
          rw [if_neg hc16] at ho15
          refine zr_aload_n C d_X9_bound_74 rfl ?_
          refine zr_getr (u := 82) C fw_X9_46 (sh_69) rfl d_X9_bound_75 ?_
          refine zr_iload C d_X9_bound_78 rfl ?_
          obtain ⟨ho17, ho15⟩ := ho15
          refine zr_iald C (sh_82) ho17 d_X9_bound_80 ?_
          refine zr_aload_n C d_X9_bound_81 rfl ?_
          refine zr_getr (u := 82) C fw_X9_46 (sh_69) rfl d_X9_bound_82 ?_
          refine zr_iload C d_X9_bound_85 rfl ?_
          obtain ⟨ho18, ho15⟩ := ho15
          refine zr_iald C (sh_82) ho18 d_X9_bound_87 ?_
          refine zr_icmp_ge C 95 d_X9_bound_88 (by decide) (fun hc19 => ?_) (fun hc19 => ?_)
          · skip
            refine zr_iconst C (0 : Int32) d_X9_bound_95 (by decide) ?_
            exact hJ14 _ (by rw [if_neg hc12, if_neg hc16, if_pos hc19])
          · skip
            refine zr_iconst C (1 : Int32) d_X9_bound_91 (by decide) ?_
            refine zr_goto C 96 d_X9_bound_92 (by decide) ?_
            exact hJ14 _ (by rw [if_neg hc12, if_neg hc16, if_neg hc19])

def wp_X9_bound (p1 : Int32) (p2 : Int32) (p3 : Int32) (σ : zST) (Post : Int32 → zST → Prop) : Prop := (if p3 = (-1 : Int32) then wp_X9_isHour p1 σ (fun r2 => (if r2 = (0) then Post (-2 : Int32) σ else wp_X9_in (p2.toInt64) (0 : Int64) (99999 : Int64) σ (fun r5 => (if r5 = (0) then Post (-2 : Int32) σ else wp_X9_layFleet p1 σ (fun σ9 => ∃ M30 : Nat, wp_X9_bound_L49 p2 p3 (fun w4 σ => (if (0) ≤ w4 then (if p3 = (-1 : Int32) then vp_in w4 729 ∧ Post (σ.1 82 w4.toNatClampNeg) σ else wp_X9_behindIt p3 σ (fun r26 => ¬ r26 = 0 ∧ Post ((w4 / r26) - (w4 / r26) / (3 : Int32) * (3 : Int32)) σ)) else Post (-6 : Int32) σ)) M30 (-6 : Int32) (0 : Int32) σ9))))) else wp_X9_isInHarbour p3 σ (fun r31 => (if r31 = (0) then Post (-1 : Int32) σ else wp_X9_isHour p1 σ (fun r34 => (if r34 = (0) then Post (-2 : Int32) σ else wp_X9_in (p2.toInt64) (0 : Int64) (99999 : Int64) σ (fun r37 => (if r37 = (0) then Post (-2 : Int32) σ else wp_X9_layFleet p1 σ (fun σ41 => ∃ M62 : Nat, wp_X9_bound_L49 p2 p3 (fun w4 σ => (if (0) ≤ w4 then (if p3 = (-1 : Int32) then vp_in w4 729 ∧ Post (σ.1 82 w4.toNatClampNeg) σ else wp_X9_behindIt p3 σ (fun r58 => ¬ r58 = 0 ∧ Post ((w4 / r58) - (w4 / r58) / (3 : Int32) * (3 : Int32)) σ)) else Post (-6 : Int32) σ)) M62 (-6 : Int32) (0 : Int32) σ41))))))))
set_option maxRecDepth 100000 in
set_option maxHeartbeats 4000000 in
theorem g_X9_bound {p : Program} {l : Launch} {e : Env} {R : Room} {s : State} {m : MethodId} {args : Array Value} {below : List Frame} {meth : Method} {c : Code} {Q : State → Prop} {g : zG} {n1 n2 : Nat} (C : zCX p R s m args meth c g n1 n2 cX9_bound 7 RX9 5 111) {p1 : Int32} {p2 : Int32} {p3 : Int32} {σ : zST} {Post : Int32 → zST → Prop} (hret : ∀ (v : Int32) (σ : zST) (pc : Nat) (lv : List (Nat × Value)), Post v σ → decode cX9_bound pc = .ok (.ireturn, 1) → zGG p l e R s m args below meth c Q g n1 n2 7 pc lv [.int v] σ) (h : wp_X9_bound p1 p2 p3 σ Post) : zGG p l e R s m args below meth c Q g n1 n2 7 0 [(0, .ref (g.2.1 69)), (1, .int p1), (2, .int p2), (3, .int p3)] [] σ := by
  unfold wp_X9_bound at h
  refine zr_iload_n C d_X9_bound_0 rfl ?_
  refine zr_iconst C (-1 : Int32) d_X9_bound_1 (by decide) ?_
  refine zr_icmp_eq C 15 d_X9_bound_2 (by decide) (fun hc1 => ?_) (fun hc1 => ?_)
  · rw [if_pos hc1] at h
    refine zr_iload_n C d_X9_bound_15 rfl ?_
    refine zr_cip (zr_runS (As := [.int p1]) (rest := []) C sw_X9_219 (c_X9_isHour l g p1 σ _ h) (by decide) (by decide) rfl rfl (Nat.le_of_ble_eq_true rfl) d_X9_bound_16) (fun r2 h => ?_)
    refine zr_if_eq C 34 d_X9_bound_19 (by decide) (fun hc4 => ?_) (fun hc4 => ?_)
    · rw [if_pos hc4] at h
      refine zr_bipush C (-2 : Int32) d_X9_bound_34 (by decide) ?_
      exact hret _ _ _ _ h d_X9_bound_36
    · rw [if_neg hc4] at h
      refine zr_iload_n C d_X9_bound_22 rfl ?_
      refine zr_i2l C d_X9_bound_23 ?_
      refine zr_lconst C (0 : Int64) d_X9_bound_24 (by decide) ?_
      refine zr_ldc2 C (v := (99999 : Int64)) cl_X9_237 d_X9_bound_25 ?_
      refine zr_cip (zr_runS (As := [.long (p2.toInt64), .long (0 : Int64), .long (99999 : Int64)]) (rest := []) C sw_X9_89 (c_X9_in l g (p2.toInt64) (0 : Int64) (99999 : Int64) σ _ h) (by decide) (by decide) rfl rfl (Nat.le_of_ble_eq_true rfl) d_X9_bound_28) (fun r5 h => ?_)
      refine zr_if_ne C 37 d_X9_bound_31 (by decide) (fun hc7 => ?_) (fun hc7 => ?_)
      · rw [if_neg hc7] at h
        refine zr_aload_n C d_X9_bound_37 rfl ?_
        refine zr_iload_n C d_X9_bound_38 rfl ?_
        refine zr_cv (zr_runV (As := [.int p1]) (rest := []) C vw_X9_239 (c_X9_layFleet l g p1 σ _ h) (sh_69) rfl (by decide) (by decide) rfl rfl (Nat.le_of_ble_eq_true rfl) d_X9_bound_39) (fun σ9 h => ?_)
        refine zr_bipush C (-6 : Int32) d_X9_bound_42 (by decide) ?_
        refine zr_istore C [(4, .int (-6 : Int32)), (0, .ref (g.2.1 69)), (1, .int p1), (2, .int p2), (3, .int p3)] d_X9_bound_44 (by decide) rfl ?_
        refine zr_iconst C (0 : Int32) d_X9_bound_46 (by decide) ?_
        refine zr_istore C [(5, .int (0 : Int32)), (4, .int (-6 : Int32)), (0, .ref (g.2.1 69)), (1, .int p1), (2, .int p2), (3, .int p3)] d_X9_bound_47 (by decide) rfl ?_
        obtain ⟨M30, h⟩ := h
        exact zr_pick [2, 4, 5, 1, 0] rfl (g_X9_bound_L49 C (fun w4 σ h => by
            refine zr_iload C d_X9_bound_118 rfl ?_
            refine zr_if_ge C 128 d_X9_bound_120 (by decide) (fun hc24 => ?_) (fun hc24 => ?_)
            · rw [if_pos hc24] at h
              refine zr_iload_n C d_X9_bound_128 rfl ?_
              refine zr_iconst C (-1 : Int32) d_X9_bound_129 (by decide) ?_
              refine zr_icmp_ne C 143 d_X9_bound_130 (by decide) (fun hc25 => ?_) (fun hc25 => ?_)
              · rw [if_neg hc25] at h
                refine zr_iload C d_X9_bound_143 rfl ?_
                refine zr_aload_n C d_X9_bound_145 rfl ?_
                refine zr_iload_n C d_X9_bound_146 rfl ?_
                refine zr_cip (zr_runV (As := [.int p3]) (rest := [.int w4]) C vw_X9_242 (c_X9_behindIt l g p3 σ _ h) (sh_69) rfl (by decide) (by decide) rfl rfl (Nat.le_of_ble_eq_true rfl) d_X9_bound_147) (fun r26 h => ?_)
                obtain ⟨ho28, h⟩ := h
                refine zr_idiv C d_X9_bound_150 ho28 ?_
                refine zr_iconst C (3 : Int32) d_X9_bound_151 (by decide) ?_
                refine zr_irem C d_X9_bound_152 (by decide) ?_
                exact hret _ _ _ _ h d_X9_bound_153
              · rw [if_pos hc25] at h
                refine zr_aload_n C d_X9_bound_133 rfl ?_
                refine zr_getr (u := 82) C fw_X9_46 (sh_69) rfl d_X9_bound_134 ?_
                refine zr_iload C d_X9_bound_137 rfl ?_
                obtain ⟨ho29, h⟩ := h
                refine zr_iald C (sh_82) ho29 d_X9_bound_139 ?_
                refine zr_goto C 153 d_X9_bound_140 (by decide) ?_
                exact hret _ _ _ _ h d_X9_bound_153
            · rw [if_neg hc24] at h
              refine zr_bipush C (-6 : Int32) d_X9_bound_123 (by decide) ?_
              refine zr_goto C 153 d_X9_bound_125 (by decide) ?_
              exact hret _ _ _ _ h d_X9_bound_153) M30 (-6 : Int32) (0 : Int32) σ9 h)
      · rw [if_pos hc7] at h
        refine zr_bipush C (-2 : Int32) d_X9_bound_34 (by decide) ?_
        exact hret _ _ _ _ h d_X9_bound_36
  · rw [if_neg hc1] at h
    refine zr_aload_n C d_X9_bound_5 rfl ?_
    refine zr_iload_n C d_X9_bound_6 rfl ?_
    refine zr_cip (zr_runV (As := [.int p3]) (rest := []) C vw_X9_234 (c_X9_isInHarbour l g p3 σ _ h) (sh_69) rfl (by decide) (by decide) rfl rfl (Nat.le_of_ble_eq_true rfl) d_X9_bound_7) (fun r31 h => ?_)
    refine zr_if_ne C 15 d_X9_bound_10 (by decide) (fun hc33 => ?_) (fun hc33 => ?_)
    · rw [if_neg hc33] at h
      refine zr_iload_n C d_X9_bound_15 rfl ?_
      refine zr_cip (zr_runS (As := [.int p1]) (rest := []) C sw_X9_219 (c_X9_isHour l g p1 σ _ h) (by decide) (by decide) rfl rfl (Nat.le_of_ble_eq_true rfl) d_X9_bound_16) (fun r34 h => ?_)
      refine zr_if_eq C 34 d_X9_bound_19 (by decide) (fun hc36 => ?_) (fun hc36 => ?_)
      · rw [if_pos hc36] at h
        refine zr_bipush C (-2 : Int32) d_X9_bound_34 (by decide) ?_
        exact hret _ _ _ _ h d_X9_bound_36
      · rw [if_neg hc36] at h
        refine zr_iload_n C d_X9_bound_22 rfl ?_
        refine zr_i2l C d_X9_bound_23 ?_
        refine zr_lconst C (0 : Int64) d_X9_bound_24 (by decide) ?_
        refine zr_ldc2 C (v := (99999 : Int64)) cl_X9_237 d_X9_bound_25 ?_
        refine zr_cip (zr_runS (As := [.long (p2.toInt64), .long (0 : Int64), .long (99999 : Int64)]) (rest := []) C sw_X9_89 (c_X9_in l g (p2.toInt64) (0 : Int64) (99999 : Int64) σ _ h) (by decide) (by decide) rfl rfl (Nat.le_of_ble_eq_true rfl) d_X9_bound_28) (fun r37 h => ?_)
        refine zr_if_ne C 37 d_X9_bound_31 (by decide) (fun hc39 => ?_) (fun hc39 => ?_)
        · rw [if_neg hc39] at h
          refine zr_aload_n C d_X9_bound_37 rfl ?_
          refine zr_iload_n C d_X9_bound_38 rfl ?_
          refine zr_cv (zr_runV (As := [.int p1]) (rest := []) C vw_X9_239 (c_X9_layFleet l g p1 σ _ h) (sh_69) rfl (by decide) (by decide) rfl rfl (Nat.le_of_ble_eq_true rfl) d_X9_bound_39) (fun σ41 h => ?_)
          refine zr_bipush C (-6 : Int32) d_X9_bound_42 (by decide) ?_
          refine zr_istore C [(4, .int (-6 : Int32)), (0, .ref (g.2.1 69)), (1, .int p1), (2, .int p2), (3, .int p3)] d_X9_bound_44 (by decide) rfl ?_
          refine zr_iconst C (0 : Int32) d_X9_bound_46 (by decide) ?_
          refine zr_istore C [(5, .int (0 : Int32)), (4, .int (-6 : Int32)), (0, .ref (g.2.1 69)), (1, .int p1), (2, .int p2), (3, .int p3)] d_X9_bound_47 (by decide) rfl ?_
          obtain ⟨M62, h⟩ := h
          exact zr_pick [2, 4, 5, 1, 0] rfl (g_X9_bound_L49 C (fun w4 σ h => by
              refine zr_iload C d_X9_bound_118 rfl ?_
              refine zr_if_ge C 128 d_X9_bound_120 (by decide) (fun hc56 => ?_) (fun hc56 => ?_)
              · rw [if_pos hc56] at h
                refine zr_iload_n C d_X9_bound_128 rfl ?_
                refine zr_iconst C (-1 : Int32) d_X9_bound_129 (by decide) ?_
                refine zr_icmp_ne C 143 d_X9_bound_130 (by decide) (fun hc57 => ?_) (fun hc57 => ?_)
                · rw [if_neg hc57] at h
                  refine zr_iload C d_X9_bound_143 rfl ?_
                  refine zr_aload_n C d_X9_bound_145 rfl ?_
                  refine zr_iload_n C d_X9_bound_146 rfl ?_
                  refine zr_cip (zr_runV (As := [.int p3]) (rest := [.int w4]) C vw_X9_242 (c_X9_behindIt l g p3 σ _ h) (sh_69) rfl (by decide) (by decide) rfl rfl (Nat.le_of_ble_eq_true rfl) d_X9_bound_147) (fun r58 h => ?_)
                  obtain ⟨ho60, h⟩ := h
                  refine zr_idiv C d_X9_bound_150 ho60 ?_
                  refine zr_iconst C (3 : Int32) d_X9_bound_151 (by decide) ?_
                  refine zr_irem C d_X9_bound_152 (by decide) ?_
                  exact hret _ _ _ _ h d_X9_bound_153
                · rw [if_pos hc57] at h
                  refine zr_aload_n C d_X9_bound_133 rfl ?_
                  refine zr_getr (u := 82) C fw_X9_46 (sh_69) rfl d_X9_bound_134 ?_
                  refine zr_iload C d_X9_bound_137 rfl ?_
                  obtain ⟨ho61, h⟩ := h
                  refine zr_iald C (sh_82) ho61 d_X9_bound_139 ?_
                  refine zr_goto C 153 d_X9_bound_140 (by decide) ?_
                  exact hret _ _ _ _ h d_X9_bound_153
              · rw [if_neg hc56] at h
                refine zr_bipush C (-6 : Int32) d_X9_bound_123 (by decide) ?_
                refine zr_goto C 153 d_X9_bound_125 (by decide) ?_
                exact hret _ _ _ _ h d_X9_bound_153) M62 (-6 : Int32) (0 : Int32) σ41 h)
        · rw [if_pos hc39] at h
          refine zr_bipush C (-2 : Int32) d_X9_bound_34 (by decide) ?_
          exact hret _ _ _ _ h d_X9_bound_36
    · rw [if_pos hc33] at h
      refine zr_iconst C (-1 : Int32) d_X9_bound_13 (by decide) ?_
      exact hret _ _ _ _ h d_X9_bound_14
set_option maxRecDepth 20000 in
theorem c_X9_bound (l : Launch) (g : zG) (p1 : Int32) (p2 : Int32) (p3 : Int32) (σ : zST) (Post : Int32 → zST → Prop) (h : wp_X9_bound p1 p2 p3 σ Post) : Met l yX9_bound (Cond.code yX9_bound cX9_bound 7 (some .int) :: zGW) (zRm 5 111) (va_Pc [.ref (g.2.1 69), .int p1, .int p2, .int p3] (zPP g σ)) (va_Qi Post (zBB g) (zA g)) 0 0 (zA g) :=
  zMet (by decide) (Nat.le_of_ble_eq_true rfl) (fun p e s m below meth c hr C => g_X9_bound C (fun v σ pc lv hp hd => zr_iret C hr hp hd) h)
def wp_X9_isOnLine_L4 (v1 : Int32) (σ : zST) (Post : Int32 → Prop) : Nat → Int32 → Int32 → Prop
  | 0, _, _ => False
  | N + 1, v2, v3 => (if (σ.1 69 34) ≤ v3 then zB v2 ∧ Post v2 else (if v2 = (0) then zB v2 ∧ Post v2 else vp_in v3 729 ∧ vp_in v1 729 ∧ (if (σ.1 82 v1.toNatClampNeg) < (σ.1 82 v3.toNatClampNeg) then True else vp_in v3 729 ∧ vp_in v1 729 ∧ True) ∧ ∀ z6 : Int32, z6 = (if (σ.1 82 v1.toNatClampNeg) < (σ.1 82 v3.toNatClampNeg) then (0 : Int32) else (if (σ.1 83 v1.toNatClampNeg) < (σ.1 83 v3.toNatClampNeg) then (0 : Int32) else (1 : Int32))) → vp_in v3 729 ∧ vp_in v1 729 ∧ (if (σ.1 82 v3.toNatClampNeg) < (σ.1 82 v1.toNatClampNeg) then True else vp_in v3 729 ∧ vp_in v1 729 ∧ True) ∧ ∀ z15 : Int32, z15 = (if (σ.1 82 v3.toNatClampNeg) < (σ.1 82 v1.toNatClampNeg) then (1 : Int32) else (if (σ.1 83 v1.toNatClampNeg) ≤ (σ.1 83 v3.toNatClampNeg) then (0 : Int32) else (1 : Int32))) → ∀ z22 : Int32, z22 = (if z6 = (0) then (1 : Int32) else (if z15 = (0) then (if v3 < v1 then (0 : Int32) else (1 : Int32)) else (0 : Int32))) → wp_X9_isOnLine_L4 v1 σ Post N z22 (v3 + 1)))

set_option maxRecDepth 100000 in
set_option maxHeartbeats 4000000 in
theorem g_X9_isOnLine_L4 {p : Program} {l : Launch} {e : Env} {R : Room} {s : State} {m : MethodId} {args : Array Value} {below : List Frame} {meth : Method} {c : Code} {Q : State → Prop} {g : zG} {n1 n2 : Nat} (C : zCX p R s m args meth c g n1 n2 cX9_isOnLine 6 RX9 0 0) {v1 : Int32} {σ : zST}  {Post : Int32 → Prop} (hret : ∀ (v : Int32) (pc : Nat) (lv : List (Nat × Value)), zB v → Post v → decode cX9_isOnLine pc = .ok (.ireturn, 1) → zGG p l e R s m args below meth c Q g n1 n2 6 pc lv [.int v] σ) : ∀ (N : Nat) (v2 : Int32) (v3 : Int32) , wp_X9_isOnLine_L4 v1 σ Post N v2 v3 → zGG p l e R s m args below meth c Q g n1 n2 6 4 [(0, .ref (g.2.1 69)), (1, .int v1), (2, .int v2), (3, .int v3)] [] σ := by
  intro N
  induction N with
  | zero =>
    intro v2 v3 h
    exact h.elim
  | succ N ih =>
    intro v2 v3 h
    rw [wp_X9_isOnLine_L4] at h
    refine zr_iload_n C d_X9_isOnLine_4 rfl ?_
    refine zr_aload_n C d_X9_isOnLine_5 rfl ?_
    refine zr_geti C fw_X9_231 (sh_69) rfl d_X9_isOnLine_6 ?_
    refine zr_icmp_ge C 117 d_X9_isOnLine_9 (by decide) (fun hc1 => ?_) (fun hc1 => ?_)
    · rw [if_pos hc1] at h
      refine zr_iload_n C d_X9_isOnLine_117 rfl ?_
      exact hret _ _ _ h.1 h.2 d_X9_isOnLine_118
    · rw [if_neg hc1] at h
      refine zr_iload_n C d_X9_isOnLine_12 rfl ?_
      refine zr_if_eq C 117 d_X9_isOnLine_13 (by decide) (fun hc2 => ?_) (fun hc2 => ?_)
      · rw [if_pos hc2] at h
        refine zr_iload_n C d_X9_isOnLine_117 rfl ?_
        exact hret _ _ _ h.1 h.2 d_X9_isOnLine_118
      · rw [if_neg hc2] at h
        refine zr_aload_n C d_X9_isOnLine_16 rfl ?_
        refine zr_getr (u := 82) C fw_X9_46 (sh_69) rfl d_X9_isOnLine_17 ?_
        refine zr_iload_n C d_X9_isOnLine_20 rfl ?_
        obtain ⟨ho3, h⟩ := h
        refine zr_iald C (sh_82) ho3 d_X9_isOnLine_21 ?_
        refine zr_aload_n C d_X9_isOnLine_22 rfl ?_
        refine zr_getr (u := 82) C fw_X9_46 (sh_69) rfl d_X9_isOnLine_23 ?_
        refine zr_iload_n C d_X9_isOnLine_26 rfl ?_
        obtain ⟨ho4, h⟩ := h
        refine zr_iald C (sh_82) ho4 d_X9_isOnLine_27 ?_
        obtain ⟨ho8, h⟩ := h
        have hJ7 : ∀ z6 : Int32, z6 = (if (σ.1 82 v1.toNatClampNeg) < (σ.1 82 v3.toNatClampNeg) then (0 : Int32) else (if (σ.1 83 v1.toNatClampNeg) < (σ.1 83 v3.toNatClampNeg) then (0 : Int32) else (1 : Int32))) → zGG p l e R s m args below meth c Q g n1 n2 6 51 [(0, .ref (g.2.1 69)), (1, .int v1), (2, .int v2), (3, .int v3)] [.int z6] σ := by
          intro z6 hz6
          replace h := h z6 hz6
          refine zr_istore C [(4, .int z6), (0, .ref (g.2.1 69)), (1, .int v1), (2, .int v2), (3, .int v3)] d_X9_isOnLine_51 (by decide) rfl ?_
          refine zr_aload_n C d_X9_isOnLine_53 rfl ?_
          refine zr_getr (u := 82) C fw_X9_46 (sh_69) rfl d_X9_isOnLine_54 ?_
          refine zr_iload_n C d_X9_isOnLine_57 rfl ?_
          obtain ⟨ho12, h⟩ := h
          refine zr_iald C (sh_82) ho12 d_X9_isOnLine_58 ?_
          refine zr_aload_n C d_X9_isOnLine_59 rfl ?_
          refine zr_getr (u := 82) C fw_X9_46 (sh_69) rfl d_X9_isOnLine_60 ?_
          refine zr_iload_n C d_X9_isOnLine_63 rfl ?_
          obtain ⟨ho13, h⟩ := h
          refine zr_iald C (sh_82) ho13 d_X9_isOnLine_64 ?_
          obtain ⟨ho17, h⟩ := h
          have hJ16 : ∀ z15 : Int32, z15 = (if (σ.1 82 v3.toNatClampNeg) < (σ.1 82 v1.toNatClampNeg) then (1 : Int32) else (if (σ.1 83 v1.toNatClampNeg) ≤ (σ.1 83 v3.toNatClampNeg) then (0 : Int32) else (1 : Int32))) → zGG p l e R s m args below meth c Q g n1 n2 6 88 [(4, .int z6), (0, .ref (g.2.1 69)), (1, .int v1), (2, .int v2), (3, .int v3)] [.int z15] σ := by
            intro z15 hz15
            replace h := h z15 hz15
            refine zr_istore C [(5, .int z15), (4, .int z6), (0, .ref (g.2.1 69)), (1, .int v1), (2, .int v2), (3, .int v3)] d_X9_isOnLine_88 (by decide) rfl ?_
            refine zr_iload C d_X9_isOnLine_90 rfl ?_
            have hJ23 : ∀ z22 : Int32, z22 = (if z6 = (0) then (1 : Int32) else (if z15 = (0) then (if v3 < v1 then (0 : Int32) else (1 : Int32)) else (0 : Int32))) → zGG p l e R s m args below meth c Q g n1 n2 6 110 [(5, .int z15), (4, .int z6), (0, .ref (g.2.1 69)), (1, .int v1), (2, .int v2), (3, .int v3)] [.int z22] σ := by
              intro z22 hz22
              replace h := h z22 hz22
              refine zr_istore_n C [(2, .int z22), (5, .int z15), (4, .int z6), (0, .ref (g.2.1 69)), (1, .int v1), (3, .int v3)] d_X9_isOnLine_110 (by decide) rfl ?_
              refine zr_iinc C (v3 + 1) [(3, .int (v3 + 1)), (2, .int z22), (5, .int z15), (4, .int z6), (0, .ref (g.2.1 69)), (1, .int v1)] d_X9_isOnLine_111 rfl rfl (by decide) rfl ?_
              refine zr_goto C 4 d_X9_isOnLine_114 (by decide) ?_
              exact zr_pick [4, 5, 1, 0] rfl (ih z22 (v3 + 1) h)
            refine zr_if_eq C 105 d_X9_isOnLine_92 (by decide) (fun hc21 => ?_) (fun hc21 => ?_)
            · skip
              refine zr_iconst C (1 : Int32) d_X9_isOnLine_105 (by decide) ?_
              refine zr_goto C 110 d_X9_isOnLine_106 (by decide) ?_
              exact hJ23 _ (by rw [if_pos hc21])
            · skip
              refine zr_iload C d_X9_isOnLine_95 rfl ?_
              refine zr_if_ne C 109 d_X9_isOnLine_97 (by decide) (fun hc25 => ?_) (fun hc25 => ?_)
              · skip
                refine zr_iconst C (0 : Int32) d_X9_isOnLine_109 (by decide) ?_
                exact hJ23 _ (by rw [if_neg hc21, if_neg hc25])
              · skip
                refine zr_iload_n C d_X9_isOnLine_100 rfl ?_
                refine zr_iload_n C d_X9_isOnLine_101 rfl ?_
                refine zr_icmp_lt C 109 d_X9_isOnLine_102 (by decide) (fun hc26 => ?_) (fun hc26 => ?_)
                · skip
                  refine zr_iconst C (0 : Int32) d_X9_isOnLine_109 (by decide) ?_
                  exact hJ23 _ (by rw [if_neg hc21, if_pos hc25, if_pos hc26])
                · skip
                  refine zr_iconst C (1 : Int32) d_X9_isOnLine_105 (by decide) ?_
                  refine zr_goto C 110 d_X9_isOnLine_106 (by decide) ?_
                  exact hJ23 _ (by rw [if_neg hc21, if_pos hc25, if_neg hc26])
          refine zr_icmp_lt C 83 d_X9_isOnLine_65 (by decide) (fun hc14 => ?_) (fun hc14 => ?_)
          · skip
            rw [if_pos hc14] at ho17
            refine zr_iconst C (1 : Int32) d_X9_isOnLine_83 (by decide) ?_
            refine zr_goto C 88 d_X9_isOnLine_84 (by decide) ?_
            exact hJ16 _ (by rw [if_pos hc14])
          · skip
            rw [if_neg hc14] at ho17
            refine zr_aload_n C d_X9_isOnLine_68 rfl ?_
            refine zr_getr (u := 83) C fw_X9_49 (sh_69) rfl d_X9_isOnLine_69 ?_
            refine zr_iload_n C d_X9_isOnLine_72 rfl ?_
            obtain ⟨ho18, ho17⟩ := ho17
            refine zr_iald C (sh_83) ho18 d_X9_isOnLine_73 ?_
            refine zr_aload_n C d_X9_isOnLine_74 rfl ?_
            refine zr_getr (u := 83) C fw_X9_49 (sh_69) rfl d_X9_isOnLine_75 ?_
            refine zr_iload_n C d_X9_isOnLine_78 rfl ?_
            obtain ⟨ho19, ho17⟩ := ho17
            refine zr_iald C (sh_83) ho19 d_X9_isOnLine_79 ?_
            refine zr_icmp_ge C 87 d_X9_isOnLine_80 (by decide) (fun hc20 => ?_) (fun hc20 => ?_)
            · skip
              refine zr_iconst C (0 : Int32) d_X9_isOnLine_87 (by decide) ?_
              exact hJ16 _ (by rw [if_neg hc14, if_pos hc20])
            · skip
              refine zr_iconst C (1 : Int32) d_X9_isOnLine_83 (by decide) ?_
              refine zr_goto C 88 d_X9_isOnLine_84 (by decide) ?_
              exact hJ16 _ (by rw [if_neg hc14, if_neg hc20])
        refine zr_icmp_gt C 50 d_X9_isOnLine_28 (by decide) (fun hc5 => ?_) (fun hc5 => ?_)
        · skip
          rw [if_pos hc5] at ho8
          refine zr_iconst C (0 : Int32) d_X9_isOnLine_50 (by decide) ?_
          exact hJ7 _ (by rw [if_pos hc5])
        · skip
          rw [if_neg hc5] at ho8
          refine zr_aload_n C d_X9_isOnLine_31 rfl ?_
          refine zr_getr (u := 83) C fw_X9_49 (sh_69) rfl d_X9_isOnLine_32 ?_
          refine zr_iload_n C d_X9_isOnLine_35 rfl ?_
          obtain ⟨ho9, ho8⟩ := ho8
          refine zr_iald C (sh_83) ho9 d_X9_isOnLine_36 ?_
          refine zr_aload_n C d_X9_isOnLine_37 rfl ?_
          refine zr_getr (u := 83) C fw_X9_49 (sh_69) rfl d_X9_isOnLine_38 ?_
          refine zr_iload_n C d_X9_isOnLine_41 rfl ?_
          obtain ⟨ho10, ho8⟩ := ho8
          refine zr_iald C (sh_83) ho10 d_X9_isOnLine_42 ?_
          refine zr_icmp_gt C 50 d_X9_isOnLine_43 (by decide) (fun hc11 => ?_) (fun hc11 => ?_)
          · skip
            refine zr_iconst C (0 : Int32) d_X9_isOnLine_50 (by decide) ?_
            exact hJ7 _ (by rw [if_neg hc5, if_pos hc11])
          · skip
            refine zr_iconst C (1 : Int32) d_X9_isOnLine_46 (by decide) ?_
            refine zr_goto C 51 d_X9_isOnLine_47 (by decide) ?_
            exact hJ7 _ (by rw [if_neg hc5, if_neg hc11])

def wp_X9_isOnLine (p1 : Int32) (σ : zST) (Post : Int32 → Prop) : Prop := ∃ M27 : Nat, wp_X9_isOnLine_L4 p1 σ Post M27 (1 : Int32) (0 : Int32)
set_option maxRecDepth 100000 in
set_option maxHeartbeats 4000000 in
theorem g_X9_isOnLine {p : Program} {l : Launch} {e : Env} {R : Room} {s : State} {m : MethodId} {args : Array Value} {below : List Frame} {meth : Method} {c : Code} {Q : State → Prop} {g : zG} {n1 n2 : Nat} (C : zCX p R s m args meth c g n1 n2 cX9_isOnLine 6 RX9 0 0) {p1 : Int32} {σ : zST} {Post : Int32 → Prop} (hret : ∀ (v : Int32) (pc : Nat) (lv : List (Nat × Value)), zB v → Post v → decode cX9_isOnLine pc = .ok (.ireturn, 1) → zGG p l e R s m args below meth c Q g n1 n2 6 pc lv [.int v] σ) (h : wp_X9_isOnLine p1 σ Post) : zGG p l e R s m args below meth c Q g n1 n2 6 0 [(0, .ref (g.2.1 69)), (1, .int p1)] [] σ := by
  unfold wp_X9_isOnLine at h
  refine zr_iconst C (1 : Int32) d_X9_isOnLine_0 (by decide) ?_
  refine zr_istore_n C [(2, .int (1 : Int32)), (0, .ref (g.2.1 69)), (1, .int p1)] d_X9_isOnLine_1 (by decide) rfl ?_
  refine zr_iconst C (0 : Int32) d_X9_isOnLine_2 (by decide) ?_
  refine zr_istore_n C [(3, .int (0 : Int32)), (2, .int (1 : Int32)), (0, .ref (g.2.1 69)), (1, .int p1)] d_X9_isOnLine_3 (by decide) rfl ?_
  obtain ⟨M27, h⟩ := h
  exact zr_pick [2, 3, 1, 0] rfl (g_X9_isOnLine_L4 C hret M27 (1 : Int32) (0 : Int32) h)
set_option maxRecDepth 20000 in
theorem c_X9_isOnLine (l : Launch) (g : zG) (p1 : Int32) (σ : zST) (Post : Int32 → Prop) (h : wp_X9_isOnLine p1 σ Post) : Met l yX9_isOnLine (Cond.code yX9_isOnLine cX9_isOnLine 6 (some .boolean) :: zGW) (zRm 0 0) (va_Pc [.ref (g.2.1 69), .int p1] (zPP g σ)) (va_Qi (fun r u => Post r ∧ u = σ) (zBB g) (zA g)) 0 0 (zA g) :=
  zMet (by decide) (Nat.le_of_ble_eq_true rfl) (fun p e s m below meth c hr C => g_X9_isOnLine C (fun v pc lv hz hp hd => zr_zret C hr hz ⟨hp, rfl⟩ hd) h)
def wp_X9_lessThan_L4 (v1 : Int32) (σ : zST) (Post : Int32 → Prop) : Nat → Int32 → Int32 → Prop
  | 0, _, _ => False
  | N + 1, v2, v3 => (if (σ.1 69 34) ≤ v3 then Post v2 else vp_in v3 729 ∧ (if (σ.1 84 v3.toNatClampNeg) = (1 : Int32) then vp_in v3 729 ∧ vp_in v1 729 ∧ True else True) ∧ ∀ z4 : Int32, z4 = (if (σ.1 84 v3.toNatClampNeg) = (1 : Int32) then (if (σ.1 82 v1.toNatClampNeg) ≤ (σ.1 82 v3.toNatClampNeg) then (0 : Int32) else (1 : Int32)) else (0 : Int32)) → ∀ x10 : Int32, x10 = (v2 + z4) → wp_X9_lessThan_L4 v1 σ Post N x10 (v3 + 1))

set_option maxRecDepth 100000 in
set_option maxHeartbeats 4000000 in
theorem g_X9_lessThan_L4 {p : Program} {l : Launch} {e : Env} {R : Room} {s : State} {m : MethodId} {args : Array Value} {below : List Frame} {meth : Method} {c : Code} {Q : State → Prop} {g : zG} {n1 n2 : Nat} (C : zCX p R s m args meth c g n1 n2 cX9_lessThan 4 RX9 0 0) {v1 : Int32} {σ : zST}  {Post : Int32 → Prop} (hret : ∀ (v : Int32) (pc : Nat) (lv : List (Nat × Value)), Post v → decode cX9_lessThan pc = .ok (.ireturn, 1) → zGG p l e R s m args below meth c Q g n1 n2 4 pc lv [.int v] σ) : ∀ (N : Nat) (v2 : Int32) (v3 : Int32) , wp_X9_lessThan_L4 v1 σ Post N v2 v3 → zGG p l e R s m args below meth c Q g n1 n2 4 4 [(0, .ref (g.2.1 69)), (1, .int v1), (2, .int v2), (3, .int v3)] [] σ := by
  intro N
  induction N with
  | zero =>
    intro v2 v3 h
    exact h.elim
  | succ N ih =>
    intro v2 v3 h
    rw [wp_X9_lessThan_L4] at h
    refine zr_iload_n C d_X9_lessThan_4 rfl ?_
    refine zr_aload_n C d_X9_lessThan_5 rfl ?_
    refine zr_geti C fw_X9_231 (sh_69) rfl d_X9_lessThan_6 ?_
    refine zr_icmp_ge C 51 d_X9_lessThan_9 (by decide) (fun hc1 => ?_) (fun hc1 => ?_)
    · rw [if_pos hc1] at h
      refine zr_iload_n C d_X9_lessThan_51 rfl ?_
      exact hret _ _ _ h d_X9_lessThan_52
    · rw [if_neg hc1] at h
      refine zr_iload_n C d_X9_lessThan_12 rfl ?_
      refine zr_aload_n C d_X9_lessThan_13 rfl ?_
      refine zr_getr (u := 84) C fw_X9_52 (sh_69) rfl d_X9_lessThan_14 ?_
      refine zr_iload_n C d_X9_lessThan_17 rfl ?_
      obtain ⟨ho2, h⟩ := h
      refine zr_iald C (sh_84) ho2 d_X9_lessThan_18 ?_
      refine zr_iconst C (1 : Int32) d_X9_lessThan_19 (by decide) ?_
      obtain ⟨ho6, h⟩ := h
      have hJ5 : ∀ z4 : Int32, z4 = (if (σ.1 84 v3.toNatClampNeg) = (1 : Int32) then (if (σ.1 82 v1.toNatClampNeg) ≤ (σ.1 82 v3.toNatClampNeg) then (0 : Int32) else (1 : Int32)) else (0 : Int32)) → zGG p l e R s m args below meth c Q g n1 n2 4 43 [(0, .ref (g.2.1 69)), (1, .int v1), (2, .int v2), (3, .int v3)] [.int z4, .int v2] σ := by
        intro z4 hz4
        replace h := h z4 hz4
        refine zr_iadd C d_X9_lessThan_43 ?_
        refine zr_topi (fun x10 hx10 => ?_)
        replace h := h x10 hx10
        refine zr_istore_n C [(2, .int x10), (0, .ref (g.2.1 69)), (1, .int v1), (3, .int v3)] d_X9_lessThan_44 (by decide) rfl ?_
        refine zr_iinc C (v3 + 1) [(3, .int (v3 + 1)), (2, .int x10), (0, .ref (g.2.1 69)), (1, .int v1)] d_X9_lessThan_45 rfl rfl (by decide) rfl ?_
        refine zr_goto C 4 d_X9_lessThan_48 (by decide) ?_
        exact zr_pick [2, 3, 1, 0] rfl (ih x10 (v3 + 1) h)
      refine zr_icmp_ne C 42 d_X9_lessThan_20 (by decide) (fun hc3 => ?_) (fun hc3 => ?_)
      · skip
        rw [if_neg hc3] at ho6
        refine zr_iconst C (0 : Int32) d_X9_lessThan_42 (by decide) ?_
        exact hJ5 _ (by rw [if_neg hc3])
      · skip
        rw [if_pos hc3] at ho6
        refine zr_aload_n C d_X9_lessThan_23 rfl ?_
        refine zr_getr (u := 82) C fw_X9_46 (sh_69) rfl d_X9_lessThan_24 ?_
        refine zr_iload_n C d_X9_lessThan_27 rfl ?_
        obtain ⟨ho7, ho6⟩ := ho6
        refine zr_iald C (sh_82) ho7 d_X9_lessThan_28 ?_
        refine zr_aload_n C d_X9_lessThan_29 rfl ?_
        refine zr_getr (u := 82) C fw_X9_46 (sh_69) rfl d_X9_lessThan_30 ?_
        refine zr_iload_n C d_X9_lessThan_33 rfl ?_
        obtain ⟨ho8, ho6⟩ := ho6
        refine zr_iald C (sh_82) ho8 d_X9_lessThan_34 ?_
        refine zr_icmp_ge C 42 d_X9_lessThan_35 (by decide) (fun hc9 => ?_) (fun hc9 => ?_)
        · skip
          refine zr_iconst C (0 : Int32) d_X9_lessThan_42 (by decide) ?_
          exact hJ5 _ (by rw [if_pos hc3, if_pos hc9])
        · skip
          refine zr_iconst C (1 : Int32) d_X9_lessThan_38 (by decide) ?_
          refine zr_goto C 43 d_X9_lessThan_39 (by decide) ?_
          exact hJ5 _ (by rw [if_pos hc3, if_neg hc9])

def wp_X9_lessThan (p1 : Int32) (σ : zST) (Post : Int32 → Prop) : Prop := ∃ M11 : Nat, wp_X9_lessThan_L4 p1 σ Post M11 (0 : Int32) (0 : Int32)
set_option maxRecDepth 100000 in
set_option maxHeartbeats 4000000 in
theorem g_X9_lessThan {p : Program} {l : Launch} {e : Env} {R : Room} {s : State} {m : MethodId} {args : Array Value} {below : List Frame} {meth : Method} {c : Code} {Q : State → Prop} {g : zG} {n1 n2 : Nat} (C : zCX p R s m args meth c g n1 n2 cX9_lessThan 4 RX9 0 0) {p1 : Int32} {σ : zST} {Post : Int32 → Prop} (hret : ∀ (v : Int32) (pc : Nat) (lv : List (Nat × Value)), Post v → decode cX9_lessThan pc = .ok (.ireturn, 1) → zGG p l e R s m args below meth c Q g n1 n2 4 pc lv [.int v] σ) (h : wp_X9_lessThan p1 σ Post) : zGG p l e R s m args below meth c Q g n1 n2 4 0 [(0, .ref (g.2.1 69)), (1, .int p1)] [] σ := by
  unfold wp_X9_lessThan at h
  refine zr_iconst C (0 : Int32) d_X9_lessThan_0 (by decide) ?_
  refine zr_istore_n C [(2, .int (0 : Int32)), (0, .ref (g.2.1 69)), (1, .int p1)] d_X9_lessThan_1 (by decide) rfl ?_
  refine zr_iconst C (0 : Int32) d_X9_lessThan_2 (by decide) ?_
  refine zr_istore_n C [(3, .int (0 : Int32)), (2, .int (0 : Int32)), (0, .ref (g.2.1 69)), (1, .int p1)] d_X9_lessThan_3 (by decide) rfl ?_
  obtain ⟨M11, h⟩ := h
  exact zr_pick [2, 3, 1, 0] rfl (g_X9_lessThan_L4 C hret M11 (0 : Int32) (0 : Int32) h)
set_option maxRecDepth 20000 in
theorem c_X9_lessThan (l : Launch) (g : zG) (p1 : Int32) (σ : zST) (Post : Int32 → Prop) (h : wp_X9_lessThan p1 σ Post) : Met l yX9_lessThan (Cond.code yX9_lessThan cX9_lessThan 4 (some .int) :: zGW) (zRm 0 0) (va_Pc [.ref (g.2.1 69), .int p1] (zPP g σ)) (va_Qi (fun r u => Post r ∧ u = σ) (zBB g) (zA g)) 0 0 (zA g) :=
  zMet (by decide) (Nat.le_of_ble_eq_true rfl) (fun p e s m below meth c hr C => g_X9_lessThan C (fun v pc lv hp hd => zr_iret C hr ⟨hp, rfl⟩ hd) h)
def wp_X9_line_L31 (v2 : Int32) (v3 : Int32) (K78 : Int32 → zST → Prop) : Nat → Int32 → Int32 → zST → Prop
  | 0, _, _, _ => False
  | N + 1, v4, v5, σ => (if (σ.1 69 34) ≤ v5 then K78 v4 σ else wp_X9_isOnLine v5 σ (fun r10 => ∀ z13 : Int32, z13 = (if r10 = (0) then (0 : Int32) else (1 : Int32)) → vp_in v5 729 ∧ ∀ x17 : Int32, x17 = (v4 + z13) → wp_X9_line_L31 v2 v3 K78 N x17 (v5 + 1) (wI σ 84 v5.toNatClampNeg z13)))

set_option maxRecDepth 100000 in
set_option maxHeartbeats 4000000 in
theorem g_X9_line_L31 {p : Program} {l : Launch} {e : Env} {R : Room} {s : State} {m : MethodId} {args : Array Value} {below : List Frame} {meth : Method} {c : Code} {Q : State → Prop} {g : zG} {n1 n2 : Nat} (C : zCX p R s m args meth c g n1 n2 cX9_line 7 RX9 5 111) {v2 : Int32} {v3 : Int32} {K78 : Int32 → zST → Prop} (hK78 : ∀ (w4 : Int32) (σ : zST), K78 w4 σ → zGG p l e R s m args below meth c Q g n1 n2 7 78 [(0, .ref (g.2.1 69)), (2, .int v2), (3, .int v3), (4, .int w4)] [] σ) : ∀ (N : Nat) (v4 : Int32) (v5 : Int32) (σ : zST) , wp_X9_line_L31 v2 v3 K78 N v4 v5 σ → zGG p l e R s m args below meth c Q g n1 n2 7 31 [(0, .ref (g.2.1 69)), (2, .int v2), (3, .int v3), (4, .int v4), (5, .int v5)] [] σ := by
  intro N
  induction N with
  | zero =>
    intro v4 v5 σ h
    exact h.elim
  | succ N ih =>
    intro v4 v5 σ h
    rw [wp_X9_line_L31] at h
    refine zr_iload C d_X9_line_31 rfl ?_
    refine zr_aload_n C d_X9_line_33 rfl ?_
    refine zr_geti C fw_X9_231 (sh_69) rfl d_X9_line_34 ?_
    refine zr_icmp_ge C 78 d_X9_line_37 (by decide) (fun hc9 => ?_) (fun hc9 => ?_)
    · rw [if_pos hc9] at h
      exact zr_pick [0, 1, 2, 3] rfl (hK78 v4 σ h)
    · rw [if_neg hc9] at h
      refine zr_aload_n C d_X9_line_40 rfl ?_
      refine zr_iload C d_X9_line_41 rfl ?_
      refine zr_cip (zr_runV (As := [.int v5]) (rest := []) C vw_X9_245 (c_X9_isOnLine l g v5 σ _ h) (sh_69) rfl (by decide) (by decide) rfl rfl (Nat.le_of_ble_eq_true rfl) d_X9_line_43) (fun r10 h => ?_)
      have hJ14 : ∀ z13 : Int32, z13 = (if r10 = (0) then (0 : Int32) else (1 : Int32)) → zGG p l e R s m args below meth c Q g n1 n2 7 54 [(0, .ref (g.2.1 69)), (2, .int v2), (3, .int v3), (4, .int v4), (5, .int v5)] [.int z13] σ := by
        intro z13 hz13
        replace h := h z13 hz13
        refine zr_istore C [(6, .int z13), (0, .ref (g.2.1 69)), (2, .int v2), (3, .int v3), (4, .int v4), (5, .int v5)] d_X9_line_54 (by decide) rfl ?_
        refine zr_aload_n C d_X9_line_56 rfl ?_
        refine zr_getr (u := 84) C fw_X9_52 (sh_69) rfl d_X9_line_57 ?_
        refine zr_iload C d_X9_line_60 rfl ?_
        refine zr_iload C d_X9_line_62 rfl ?_
        obtain ⟨ho16, h⟩ := h
        refine zr_iast C (sh_84) ho16 d_X9_line_64 ?_
        refine zr_iload C d_X9_line_65 rfl ?_
        refine zr_iload C d_X9_line_67 rfl ?_
        refine zr_iadd C d_X9_line_69 ?_
        refine zr_topi (fun x17 hx17 => ?_)
        replace h := h x17 hx17
        refine zr_istore C [(4, .int x17), (6, .int z13), (0, .ref (g.2.1 69)), (2, .int v2), (3, .int v3), (5, .int v5)] d_X9_line_70 (by decide) rfl ?_
        refine zr_iinc C (v5 + 1) [(5, .int (v5 + 1)), (4, .int x17), (6, .int z13), (0, .ref (g.2.1 69)), (2, .int v2), (3, .int v3)] d_X9_line_72 rfl rfl (by decide) rfl ?_
        refine zr_goto C 31 d_X9_line_75 (by decide) ?_
        exact zr_pick [3, 4, 5, 1, 0] rfl (ih x17 (v5 + 1) (wI σ 84 v5.toNatClampNeg z13) h)
      refine zr_if_eq C 53 d_X9_line_46 (by decide) (fun hc12 => ?_) (fun hc12 => ?_)
      · skip
        refine zr_iconst C (0 : Int32) d_X9_line_53 (by decide) ?_
        exact hJ14 _ (by rw [if_pos hc12])
      · skip
        refine zr_iconst C (1 : Int32) d_X9_line_49 (by decide) ?_
        refine zr_goto C 54 d_X9_line_50 (by decide) ?_
        exact hJ14 _ (by rw [if_neg hc12])

def wp_X9_line_L113 (v2 : Int32) (v3 : Int32) (Post : Int32 → zST → Prop) : Nat → Int32 → zST → Prop
  | 0, _, _ => False
  | N + 1, v5, σ => (if (σ.1 69 34) ≤ v5 then Post (-6 : Int32) σ else vp_in v5 729 ∧ (if (σ.1 84 v5.toNatClampNeg) = (1 : Int32) then wp_X9_lessThan v5 σ (fun r29 => (if r29 = v2 then (if v3 = (0) then vp_in v5 729 ∧ True else vp_in v5 729 ∧ True) ∧ ∀ z33 : Int32, z33 = (if v3 = (0) then (σ.1 82 v5.toNatClampNeg) else (σ.1 83 v5.toNatClampNeg)) → Post z33 σ else wp_X9_line_L113 v2 v3 Post N (v5 + 1) σ)) else wp_X9_line_L113 v2 v3 Post N (v5 + 1) σ))

set_option maxRecDepth 100000 in
set_option maxHeartbeats 4000000 in
theorem g_X9_line_L113 {p : Program} {l : Launch} {e : Env} {R : Room} {s : State} {m : MethodId} {args : Array Value} {below : List Frame} {meth : Method} {c : Code} {Q : State → Prop} {g : zG} {n1 n2 : Nat} (C : zCX p R s m args meth c g n1 n2 cX9_line 7 RX9 5 111) {v2 : Int32} {v3 : Int32}  {Post : Int32 → zST → Prop} (hret : ∀ (v : Int32) (σ : zST) (pc : Nat) (lv : List (Nat × Value)), Post v σ → decode cX9_line pc = .ok (.ireturn, 1) → zGG p l e R s m args below meth c Q g n1 n2 7 pc lv [.int v] σ) : ∀ (N : Nat) (v5 : Int32) (σ : zST) , wp_X9_line_L113 v2 v3 Post N v5 σ → zGG p l e R s m args below meth c Q g n1 n2 7 113 [(0, .ref (g.2.1 69)), (2, .int v2), (3, .int v3), (5, .int v5)] [] σ := by
  intro N
  induction N with
  | zero =>
    intro v5 σ h
    exact h.elim
  | succ N ih =>
    intro v5 σ h
    rw [wp_X9_line_L113] at h
    refine zr_iload C d_X9_line_113 rfl ?_
    refine zr_aload_n C d_X9_line_115 rfl ?_
    refine zr_geti C fw_X9_231 (sh_69) rfl d_X9_line_116 ?_
    refine zr_icmp_ge C 171 d_X9_line_119 (by decide) (fun hc26 => ?_) (fun hc26 => ?_)
    · rw [if_pos hc26] at h
      refine zr_bipush C (-6 : Int32) d_X9_line_171 (by decide) ?_
      exact hret _ _ _ _ h d_X9_line_173
    · rw [if_neg hc26] at h
      refine zr_aload_n C d_X9_line_122 rfl ?_
      refine zr_getr (u := 84) C fw_X9_52 (sh_69) rfl d_X9_line_123 ?_
      refine zr_iload C d_X9_line_126 rfl ?_
      obtain ⟨ho27, h⟩ := h
      refine zr_iald C (sh_84) ho27 d_X9_line_128 ?_
      refine zr_iconst C (1 : Int32) d_X9_line_129 (by decide) ?_
      refine zr_icmp_ne C 165 d_X9_line_130 (by decide) (fun hc28 => ?_) (fun hc28 => ?_)
      · rw [if_neg hc28] at h
        refine zr_iinc C (v5 + 1) [(5, .int (v5 + 1)), (0, .ref (g.2.1 69)), (2, .int v2), (3, .int v3)] d_X9_line_165 rfl rfl (by decide) rfl ?_
        refine zr_goto C 113 d_X9_line_168 (by decide) ?_
        exact zr_pick [1, 2, 3, 0] rfl (ih (v5 + 1) σ h)
      · rw [if_pos hc28] at h
        refine zr_aload_n C d_X9_line_133 rfl ?_
        refine zr_iload C d_X9_line_134 rfl ?_
        refine zr_cip (zr_runV (As := [.int v5]) (rest := []) C vw_X9_248 (c_X9_lessThan l g v5 σ _ h) (sh_69) rfl (by decide) (by decide) rfl rfl (Nat.le_of_ble_eq_true rfl) d_X9_line_136) (fun r29 h => ?_)
        refine zr_iload_n C d_X9_line_139 rfl ?_
        refine zr_icmp_ne C 165 d_X9_line_140 (by decide) (fun hc31 => ?_) (fun hc31 => ?_)
        · rw [if_neg hc31] at h
          refine zr_iinc C (v5 + 1) [(5, .int (v5 + 1)), (0, .ref (g.2.1 69)), (2, .int v2), (3, .int v3)] d_X9_line_165 rfl rfl (by decide) rfl ?_
          refine zr_goto C 113 d_X9_line_168 (by decide) ?_
          exact zr_pick [1, 2, 3, 0] rfl (ih (v5 + 1) σ h)
        · rw [if_pos hc31] at h
          refine zr_iload_n C d_X9_line_143 rfl ?_
          obtain ⟨ho35, h⟩ := h
          have hJ34 : ∀ z33 : Int32, z33 = (if v3 = (0) then (σ.1 82 v5.toNatClampNeg) else (σ.1 83 v5.toNatClampNeg)) → zGG p l e R s m args below meth c Q g n1 n2 7 164 [(0, .ref (g.2.1 69)), (2, .int v2), (3, .int v3), (5, .int v5)] [.int z33] σ := by
            intro z33 hz33
            replace h := h z33 hz33
            exact hret _ _ _ _ h d_X9_line_164
          refine zr_if_ne C 157 d_X9_line_144 (by decide) (fun hc32 => ?_) (fun hc32 => ?_)
          · skip
            rw [if_neg hc32] at ho35
            refine zr_aload_n C d_X9_line_157 rfl ?_
            refine zr_getr (u := 83) C fw_X9_49 (sh_69) rfl d_X9_line_158 ?_
            refine zr_iload C d_X9_line_161 rfl ?_
            obtain ⟨ho36, ho35⟩ := ho35
            refine zr_iald C (sh_83) ho36 d_X9_line_163 ?_
            exact hJ34 _ (by rw [if_neg hc32])
          · skip
            rw [if_pos hc32] at ho35
            refine zr_aload_n C d_X9_line_147 rfl ?_
            refine zr_getr (u := 82) C fw_X9_46 (sh_69) rfl d_X9_line_148 ?_
            refine zr_iload C d_X9_line_151 rfl ?_
            obtain ⟨ho37, ho35⟩ := ho35
            refine zr_iald C (sh_82) ho37 d_X9_line_153 ?_
            refine zr_goto C 164 d_X9_line_154 (by decide) ?_
            exact hJ34 _ (by rw [if_pos hc32])

def wp_X9_line (p1 : Int32) (p2 : Int32) (p3 : Int32) (σ : zST) (Post : Int32 → zST → Prop) : Prop := wp_X9_isHour p1 σ (fun r1 => (if r1 = (0) then Post (-2 : Int32) σ else wp_X9_in (p3.toInt64) (0 : Int64) (1 : Int64) σ (fun r4 => (if r4 = (0) then Post (-2 : Int32) σ else wp_X9_layFleet p1 σ (fun σ8 => ∃ M43 : Nat, wp_X9_line_L31 p2 p3 (fun w4 σ => (if p2 = (-1 : Int32) then ∀ z20 : Int32, z20 = (if p2 = (-1 : Int32) then w4 else (-6 : Int32)) → Post z20 σ else wp_X9_in (p2.toInt64) (0 : Int64) ((w4 - (1 : Int32)).toInt64) σ (fun r23 => (if r23 = (0) then ∀ z40 : Int32, z40 = (if p2 = (-1 : Int32) then w4 else (-6 : Int32)) → Post z40 σ else ∃ M38 : Nat, wp_X9_line_L113 p2 p3 Post M38 (0 : Int32) σ)))) M43 (0 : Int32) (0 : Int32) σ8)))))
set_option maxRecDepth 100000 in
set_option maxHeartbeats 4000000 in
theorem g_X9_line {p : Program} {l : Launch} {e : Env} {R : Room} {s : State} {m : MethodId} {args : Array Value} {below : List Frame} {meth : Method} {c : Code} {Q : State → Prop} {g : zG} {n1 n2 : Nat} (C : zCX p R s m args meth c g n1 n2 cX9_line 7 RX9 5 111) {p1 : Int32} {p2 : Int32} {p3 : Int32} {σ : zST} {Post : Int32 → zST → Prop} (hret : ∀ (v : Int32) (σ : zST) (pc : Nat) (lv : List (Nat × Value)), Post v σ → decode cX9_line pc = .ok (.ireturn, 1) → zGG p l e R s m args below meth c Q g n1 n2 7 pc lv [.int v] σ) (h : wp_X9_line p1 p2 p3 σ Post) : zGG p l e R s m args below meth c Q g n1 n2 7 0 [(0, .ref (g.2.1 69)), (1, .int p1), (2, .int p2), (3, .int p3)] [] σ := by
  unfold wp_X9_line at h
  refine zr_iload_n C d_X9_line_0 rfl ?_
  refine zr_cip (zr_runS (As := [.int p1]) (rest := []) C sw_X9_219 (c_X9_isHour l g p1 σ _ h) (by decide) (by decide) rfl rfl (Nat.le_of_ble_eq_true rfl) d_X9_line_1) (fun r1 h => ?_)
  refine zr_if_eq C 17 d_X9_line_4 (by decide) (fun hc3 => ?_) (fun hc3 => ?_)
  · rw [if_pos hc3] at h
    refine zr_bipush C (-2 : Int32) d_X9_line_17 (by decide) ?_
    exact hret _ _ _ _ h d_X9_line_19
  · rw [if_neg hc3] at h
    refine zr_iload_n C d_X9_line_7 rfl ?_
    refine zr_i2l C d_X9_line_8 ?_
    refine zr_lconst C (0 : Int64) d_X9_line_9 (by decide) ?_
    refine zr_lconst C (1 : Int64) d_X9_line_10 (by decide) ?_
    refine zr_cip (zr_runS (As := [.long (p3.toInt64), .long (0 : Int64), .long (1 : Int64)]) (rest := []) C sw_X9_89 (c_X9_in l g (p3.toInt64) (0 : Int64) (1 : Int64) σ _ h) (by decide) (by decide) rfl rfl (Nat.le_of_ble_eq_true rfl) d_X9_line_11) (fun r4 h => ?_)
    refine zr_if_ne C 20 d_X9_line_14 (by decide) (fun hc6 => ?_) (fun hc6 => ?_)
    · rw [if_neg hc6] at h
      refine zr_aload_n C d_X9_line_20 rfl ?_
      refine zr_iload_n C d_X9_line_21 rfl ?_
      refine zr_cv (zr_runV (As := [.int p1]) (rest := []) C vw_X9_239 (c_X9_layFleet l g p1 σ _ h) (sh_69) rfl (by decide) (by decide) rfl rfl (Nat.le_of_ble_eq_true rfl) d_X9_line_22) (fun σ8 h => ?_)
      refine zr_iconst C (0 : Int32) d_X9_line_25 (by decide) ?_
      refine zr_istore C [(4, .int (0 : Int32)), (0, .ref (g.2.1 69)), (1, .int p1), (2, .int p2), (3, .int p3)] d_X9_line_26 (by decide) rfl ?_
      refine zr_iconst C (0 : Int32) d_X9_line_28 (by decide) ?_
      refine zr_istore C [(5, .int (0 : Int32)), (4, .int (0 : Int32)), (0, .ref (g.2.1 69)), (1, .int p1), (2, .int p2), (3, .int p3)] d_X9_line_29 (by decide) rfl ?_
      obtain ⟨M43, h⟩ := h
      exact zr_pick [2, 4, 5, 1, 0] rfl (g_X9_line_L31 C (fun w4 σ h => by
          refine zr_iload_n C d_X9_line_78 rfl ?_
          refine zr_iconst C (-1 : Int32) d_X9_line_79 (by decide) ?_
          refine zr_icmp_eq C 97 d_X9_line_80 (by decide) (fun hc18 => ?_) (fun hc18 => ?_)
          · rw [if_pos hc18] at h
            refine zr_iload_n C d_X9_line_97 rfl ?_
            refine zr_iconst C (-1 : Int32) d_X9_line_98 (by decide) ?_
            have hJ21 : ∀ z20 : Int32, z20 = (if p2 = (-1 : Int32) then w4 else (-6 : Int32)) → zGG p l e R s m args below meth c Q g n1 n2 7 109 [(0, .ref (g.2.1 69)), (2, .int p2), (3, .int p3), (4, .int w4)] [.int z20] σ := by
              intro z20 hz20
              replace h := h z20 hz20
              exact hret _ _ _ _ h d_X9_line_109
            refine zr_icmp_ne C 107 d_X9_line_99 (by decide) (fun hc19 => ?_) (fun hc19 => ?_)
            · skip
              refine zr_bipush C (-6 : Int32) d_X9_line_107 (by decide) ?_
              exact hJ21 _ (by rw [if_neg hc19])
            · skip
              refine zr_iload C d_X9_line_102 rfl ?_
              refine zr_goto C 109 d_X9_line_104 (by decide) ?_
              exact hJ21 _ (by rw [if_pos hc19])
          · rw [if_neg hc18] at h
            refine zr_iload_n C d_X9_line_83 rfl ?_
            refine zr_i2l C d_X9_line_84 ?_
            refine zr_lconst C (0 : Int64) d_X9_line_85 (by decide) ?_
            refine zr_iload C d_X9_line_86 rfl ?_
            refine zr_iconst C (1 : Int32) d_X9_line_88 (by decide) ?_
            refine zr_isub C d_X9_line_89 ?_
            refine zr_i2l C d_X9_line_90 ?_
            refine zr_cip (zr_runS (As := [.long (p2.toInt64), .long (0 : Int64), .long ((w4 - (1 : Int32)).toInt64)]) (rest := []) C sw_X9_89 (c_X9_in l g (p2.toInt64) (0 : Int64) ((w4 - (1 : Int32)).toInt64) σ _ h) (by decide) (by decide) rfl rfl (Nat.le_of_ble_eq_true rfl) d_X9_line_91) (fun r23 h => ?_)
            refine zr_if_ne C 110 d_X9_line_94 (by decide) (fun hc25 => ?_) (fun hc25 => ?_)
            · rw [if_neg hc25] at h
              refine zr_iconst C (0 : Int32) d_X9_line_110 (by decide) ?_
              refine zr_istore C [(5, .int (0 : Int32)), (0, .ref (g.2.1 69)), (2, .int p2), (3, .int p3), (4, .int w4)] d_X9_line_111 (by decide) rfl ?_
              obtain ⟨M38, h⟩ := h
              exact zr_pick [1, 2, 3, 0] rfl (g_X9_line_L113 C hret M38 (0 : Int32) σ h)
            · rw [if_pos hc25] at h
              refine zr_iload_n C d_X9_line_97 rfl ?_
              refine zr_iconst C (-1 : Int32) d_X9_line_98 (by decide) ?_
              have hJ41 : ∀ z40 : Int32, z40 = (if p2 = (-1 : Int32) then w4 else (-6 : Int32)) → zGG p l e R s m args below meth c Q g n1 n2 7 109 [(0, .ref (g.2.1 69)), (2, .int p2), (3, .int p3), (4, .int w4)] [.int z40] σ := by
                intro z40 hz40
                replace h := h z40 hz40
                exact hret _ _ _ _ h d_X9_line_109
              refine zr_icmp_ne C 107 d_X9_line_99 (by decide) (fun hc39 => ?_) (fun hc39 => ?_)
              · skip
                refine zr_bipush C (-6 : Int32) d_X9_line_107 (by decide) ?_
                exact hJ41 _ (by rw [if_neg hc39])
              · skip
                refine zr_iload C d_X9_line_102 rfl ?_
                refine zr_goto C 109 d_X9_line_104 (by decide) ?_
                exact hJ41 _ (by rw [if_pos hc39])) M43 (0 : Int32) (0 : Int32) σ8 h)
    · rw [if_pos hc6] at h
      refine zr_bipush C (-2 : Int32) d_X9_line_17 (by decide) ?_
      exact hret _ _ _ _ h d_X9_line_19
set_option maxRecDepth 20000 in
theorem c_X9_line (l : Launch) (g : zG) (p1 : Int32) (p2 : Int32) (p3 : Int32) (σ : zST) (Post : Int32 → zST → Prop) (h : wp_X9_line p1 p2 p3 σ Post) : Met l yX9_line (Cond.code yX9_line cX9_line 7 (some .int) :: zGW) (zRm 5 111) (va_Pc [.ref (g.2.1 69), .int p1, .int p2, .int p3] (zPP g σ)) (va_Qi Post (zBB g) (zA g)) 0 0 (zA g) :=
  zMet (by decide) (Nat.le_of_ble_eq_true rfl) (fun p e s m below meth c hr C => g_X9_line C (fun v σ pc lv hp hd => zr_iret C hr hp hd) h)
