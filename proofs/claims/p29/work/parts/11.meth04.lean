def wp_X9_putBack_L2 (K71 : zST → Prop) : Nat → Int32 → zST → Prop
  | 0, _, _ => False
  | N + 1, v1, σ => (if (6 : Int32) ≤ v1 then K71 σ else vp_in v1 28 ∧ vp_in v1 6 ∧ vp_in ((6 : Int32) + v1) 28 ∧ ∀ σ5 : zST, σ5 = (wI σ 70 v1.toNatClampNeg (σ.1 81 v1.toNatClampNeg)) → vp_in v1 6 ∧ vp_in ((12 : Int32) + v1) 28 ∧ ∀ σ8 : zST, σ8 = (wI σ5 71 v1.toNatClampNeg (σ5.1 81 ((6 : Int32) + v1).toNatClampNeg)) → vp_in v1 6 ∧ vp_in ((18 : Int32) + v1) 28 ∧ ∀ σ11 : zST, σ11 = (wI σ8 72 v1.toNatClampNeg (σ8.1 81 ((12 : Int32) + v1).toNatClampNeg)) → vp_in v1 6 ∧ wp_X9_putBack_L2 K71 N (v1 + 1) (wI σ11 73 v1.toNatClampNeg (σ11.1 81 ((18 : Int32) + v1).toNatClampNeg)))

set_option maxRecDepth 100000 in
set_option maxHeartbeats 4000000 in
theorem g_X9_putBack_L2 {p : Program} {l : Launch} {e : Env} {R : Room} {s : State} {m : MethodId} {args : Array Value} {below : List Frame} {meth : Method} {c : Code} {Q : State → Prop} {g : zG} {n1 n2 : Nat} (C : zCX p R s m args meth c g n1 n2 cX9_putBack 2 RX9 0 0) {K71 : zST → Prop} (hK71 : ∀ (σ : zST), K71 σ → zGG p l e R s m args below meth c Q g n1 n2 2 71 [(0, .ref (g.2.1 69))] [] σ) : ∀ (N : Nat) (v1 : Int32) (σ : zST) , wp_X9_putBack_L2 K71 N v1 σ → zGG p l e R s m args below meth c Q g n1 n2 2 2 [(0, .ref (g.2.1 69)), (1, .int v1)] [] σ := by
  intro N
  induction N with
  | zero =>
    intro v1 σ h
    exact h.elim
  | succ N ih =>
    intro v1 σ h
    rw [wp_X9_putBack_L2] at h
    refine zr_iload_n C (zo_27 (p := 2) (zby_w zwX9_putBack_0 2 rfl)) rfl ?_
    refine zr_bipush C (6 : Int32) (zo_16 (p := 3) (k := 6) (a := 6) (zby_w zwX9_putBack_0 3 rfl) (zby_w zwX9_putBack_0 4 rfl) (by decide)) (by decide) ?_
    refine zr_icmp_ge C 71 (zo_162 (p := 5) (k := 66) (a := 0) (b := 66) (zby_w zwX9_putBack_0 5 rfl) (zby_w zwX9_putBack_0 6 rfl) (zby_w zwX9_putBack_0 7 rfl) (by decide)) (by decide) (fun hc1 => ?_) (fun hc1 => ?_)
    · rw [if_pos hc1] at h
      exact zr_pick [0] rfl (hK71 σ h)
    · rw [if_neg hc1] at h
      refine zr_aload_n C (zo_42 (p := 8) (zby_w zwX9_putBack_0 8 rfl)) rfl ?_
      refine zr_getr (u := 70) C fw_X9_7 (sh_69) rfl (zo_180 (p := 9) (k := 7) (a := 0) (b := 7) (zby_w zwX9_putBack_0 9 rfl) (zby_w zwX9_putBack_0 10 rfl) (zby_w zwX9_putBack_0 11 rfl) (by decide)) ?_
      refine zr_iload_n C (zo_27 (p := 12) (zby_w zwX9_putBack_0 12 rfl)) rfl ?_
      refine zr_aload_n C (zo_42 (p := 13) (zby_w zwX9_putBack_0 13 rfl)) rfl ?_
      refine zr_getr (u := 81) C fw_X9_43 (sh_69) rfl (zo_180 (p := 14) (k := 43) (a := 0) (b := 43) (zby_w zwX9_putBack_0 14 rfl) (zby_w zwX9_putBack_0 15 rfl) (zby_w zwX9_putBack_0 16 rfl) (by decide)) ?_
      refine zr_iload_n C (zo_27 (p := 17) (zby_w zwX9_putBack_0 17 rfl)) rfl ?_
      obtain ⟨ho2, h⟩ := h
      refine zr_iald C (sh_81) ho2 (zo_46 (p := 18) (zby_w zwX9_putBack_0 18 rfl)) ?_
      obtain ⟨ho3, h⟩ := h
      refine zr_iast C (sh_70) ho3 (zo_79 (p := 19) (zby_w zwX9_putBack_0 19 rfl)) ?_
      refine zr_aload_n C (zo_42 (p := 20) (zby_w zwX9_putBack_0 20 rfl)) rfl ?_
      refine zr_getr (u := 71) C fw_X9_13 (sh_69) rfl (zo_180 (p := 21) (k := 13) (a := 0) (b := 13) (zby_w zwX9_putBack_0 21 rfl) (zby_w zwX9_putBack_0 22 rfl) (zby_w zwX9_putBack_0 23 rfl) (by decide)) ?_
      refine zr_iload_n C (zo_27 (p := 24) (zby_w zwX9_putBack_0 24 rfl)) rfl ?_
      refine zr_aload_n C (zo_42 (p := 25) (zby_w zwX9_putBack_0 25 rfl)) rfl ?_
      refine zr_getr (u := 81) C fw_X9_43 (sh_69) rfl (zo_180 (p := 26) (k := 43) (a := 0) (b := 43) (zby_w zwX9_putBack_0 26 rfl) (zby_w zwX9_putBack_0 27 rfl) (zby_w zwX9_putBack_0 28 rfl) (by decide)) ?_
      refine zr_bipush C (6 : Int32) (zo_16 (p := 29) (k := 6) (a := 6) (zby_w zwX9_putBack_0 29 rfl) (zby_w zwX9_putBack_0 30 rfl) (by decide)) (by decide) ?_
      refine zr_iload_n C (zo_27 (p := 31) (zby_w zwX9_putBack_0 31 rfl)) rfl ?_
      refine zr_iadd C (zo_96 (p := 32) (zby_w zwX9_putBack_1 0 rfl)) ?_
      obtain ⟨ho4, h⟩ := h
      refine zr_tops (fun σ5 hσ5 => ?_)
      replace h := h σ5 hσ5
      refine zr_iald C (sh_81) ho4 (zo_46 (p := 33) (zby_w zwX9_putBack_1 1 rfl)) ?_
      obtain ⟨ho6, h⟩ := h
      refine zr_iast C (sh_71) ho6 (zo_79 (p := 34) (zby_w zwX9_putBack_1 2 rfl)) ?_
      refine zr_aload_n C (zo_42 (p := 35) (zby_w zwX9_putBack_1 3 rfl)) rfl ?_
      refine zr_getr (u := 72) C fw_X9_16 (sh_69) rfl (zo_180 (p := 36) (k := 16) (a := 0) (b := 16) (zby_w zwX9_putBack_1 4 rfl) (zby_w zwX9_putBack_1 5 rfl) (zby_w zwX9_putBack_1 6 rfl) (by decide)) ?_
      refine zr_iload_n C (zo_27 (p := 39) (zby_w zwX9_putBack_1 7 rfl)) rfl ?_
      refine zr_aload_n C (zo_42 (p := 40) (zby_w zwX9_putBack_1 8 rfl)) rfl ?_
      refine zr_getr (u := 81) C fw_X9_43 (sh_69) rfl (zo_180 (p := 41) (k := 43) (a := 0) (b := 43) (zby_w zwX9_putBack_1 9 rfl) (zby_w zwX9_putBack_1 10 rfl) (zby_w zwX9_putBack_1 11 rfl) (by decide)) ?_
      refine zr_bipush C (12 : Int32) (zo_16 (p := 44) (k := 12) (a := 12) (zby_w zwX9_putBack_1 12 rfl) (zby_w zwX9_putBack_1 13 rfl) (by decide)) (by decide) ?_
      refine zr_iload_n C (zo_27 (p := 46) (zby_w zwX9_putBack_1 14 rfl)) rfl ?_
      refine zr_iadd C (zo_96 (p := 47) (zby_w zwX9_putBack_1 15 rfl)) ?_
      obtain ⟨ho7, h⟩ := h
      refine zr_tops (fun σ8 hσ8 => ?_)
      replace h := h σ8 hσ8
      refine zr_iald C (sh_81) ho7 (zo_46 (p := 48) (zby_w zwX9_putBack_1 16 rfl)) ?_
      obtain ⟨ho9, h⟩ := h
      refine zr_iast C (sh_72) ho9 (zo_79 (p := 49) (zby_w zwX9_putBack_1 17 rfl)) ?_
      refine zr_aload_n C (zo_42 (p := 50) (zby_w zwX9_putBack_1 18 rfl)) rfl ?_
      refine zr_getr (u := 73) C fw_X9_19 (sh_69) rfl (zo_180 (p := 51) (k := 19) (a := 0) (b := 19) (zby_w zwX9_putBack_1 19 rfl) (zby_w zwX9_putBack_1 20 rfl) (zby_w zwX9_putBack_1 21 rfl) (by decide)) ?_
      refine zr_iload_n C (zo_27 (p := 54) (zby_w zwX9_putBack_1 22 rfl)) rfl ?_
      refine zr_aload_n C (zo_42 (p := 55) (zby_w zwX9_putBack_1 23 rfl)) rfl ?_
      refine zr_getr (u := 81) C fw_X9_43 (sh_69) rfl (zo_180 (p := 56) (k := 43) (a := 0) (b := 43) (zby_w zwX9_putBack_1 24 rfl) (zby_w zwX9_putBack_1 25 rfl) (zby_w zwX9_putBack_1 26 rfl) (by decide)) ?_
      refine zr_bipush C (18 : Int32) (zo_16 (p := 59) (k := 18) (a := 18) (zby_w zwX9_putBack_1 27 rfl) (zby_w zwX9_putBack_1 28 rfl) (by decide)) (by decide) ?_
      refine zr_iload_n C (zo_27 (p := 61) (zby_w zwX9_putBack_1 29 rfl)) rfl ?_
      refine zr_iadd C (zo_96 (p := 62) (zby_w zwX9_putBack_1 30 rfl)) ?_
      obtain ⟨ho10, h⟩ := h
      refine zr_tops (fun σ11 hσ11 => ?_)
      replace h := h σ11 hσ11
      refine zr_iald C (sh_81) ho10 (zo_46 (p := 63) (zby_w zwX9_putBack_1 31 rfl)) ?_
      obtain ⟨ho12, h⟩ := h
      refine zr_iast C (sh_73) ho12 (zo_79 (p := 64) (zby_w zwX9_putBack_2 0 rfl)) ?_
      refine zr_iinc C (v1 + 1) [(1, .int (v1 + 1)), (0, .ref (g.2.1 69))] d_X9_putBack_65 rfl rfl (by decide) rfl ?_
      refine zr_goto C 2 (zo_167 (p := 68) (k := (-66)) (a := 255) (b := 190) (zby_w zwX9_putBack_2 4 rfl) (zby_w zwX9_putBack_2 5 rfl) (zby_w zwX9_putBack_2 6 rfl) (by decide)) (by decide) ?_
      exact zr_pick [1, 0] rfl (ih (v1 + 1) (wI σ11 73 v1.toNatClampNeg (σ11.1 81 ((18 : Int32) + v1).toNatClampNeg)) h)

def wp_X9_putBack (σ : zST) (Post : zST → Prop) : Prop := ∃ M16 : Nat, wp_X9_putBack_L2 (fun σ => ∀ σ13 : zST, σ13 = (wI σ 69 12 (σ.1 81 (24 : Int32).toNatClampNeg)) → ∀ σ14 : zST, σ14 = (wI σ13 69 15 (σ13.1 81 (25 : Int32).toNatClampNeg)) → ∀ σ15 : zST, σ15 = (wI σ14 69 16 (σ14.1 81 (26 : Int32).toNatClampNeg)) → Post (wI σ15 69 17 (σ15.1 81 (27 : Int32).toNatClampNeg))) M16 (0 : Int32) σ
set_option maxRecDepth 100000 in
set_option maxHeartbeats 4000000 in
theorem g_X9_putBack {p : Program} {l : Launch} {e : Env} {R : Room} {s : State} {m : MethodId} {args : Array Value} {below : List Frame} {meth : Method} {c : Code} {Q : State → Prop} {g : zG} {n1 n2 : Nat} (C : zCX p R s m args meth c g n1 n2 cX9_putBack 2 RX9 0 0) {σ : zST} {Post : zST → Prop} (hret : ∀ (σ : zST) (pc : Nat) (lv : List (Nat × Value)), Post σ → decode cX9_putBack pc = .ok (.return_, 1) → zGG p l e R s m args below meth c Q g n1 n2 2 pc lv [] σ) (h : wp_X9_putBack σ Post) : zGG p l e R s m args below meth c Q g n1 n2 2 0 [(0, .ref (g.2.1 69))] [] σ := by
  unfold wp_X9_putBack at h
  refine zr_iconst C (0 : Int32) (zo_3 (p := 0) (zby_w zwX9_putBack_0 0 rfl)) (by decide) ?_
  refine zr_istore_n C [(1, .int (0 : Int32)), (0, .ref (g.2.1 69))] (zo_60 (p := 1) (zby_w zwX9_putBack_0 1 rfl)) (by decide) rfl ?_
  obtain ⟨M16, h⟩ := h
  exact zr_pick [1, 0] rfl (g_X9_putBack_L2 C (fun σ h => by
      refine zr_aload_n C (zo_42 (p := 71) (zby_w zwX9_putBack_2 7 rfl)) rfl ?_
      refine zr_aload_n C (zo_42 (p := 72) (zby_w zwX9_putBack_2 8 rfl)) rfl ?_
      refine zr_getr (u := 81) C fw_X9_43 (sh_69) rfl (zo_180 (p := 73) (k := 43) (a := 0) (b := 43) (zby_w zwX9_putBack_2 9 rfl) (zby_w zwX9_putBack_2 10 rfl) (zby_w zwX9_putBack_2 11 rfl) (by decide)) ?_
      refine zr_bipush C (24 : Int32) (zo_16 (p := 76) (k := 24) (a := 24) (zby_w zwX9_putBack_2 12 rfl) (zby_w zwX9_putBack_2 13 rfl) (by decide)) (by decide) ?_
      refine zr_iald C (sh_81) (by unfold vp_in; decide) (zo_46 (p := 78) (zby_w zwX9_putBack_2 14 rfl)) ?_
      refine zr_puti C fw_X9_81 pw_X9_12 (sh_69) rfl rfl rfl (zo_181 (p := 79) (k := 81) (a := 0) (b := 81) (zby_w zwX9_putBack_2 15 rfl) (zby_w zwX9_putBack_2 16 rfl) (zby_w zwX9_putBack_2 17 rfl) (by decide)) ?_
      refine zr_aload_n C (zo_42 (p := 82) (zby_w zwX9_putBack_2 18 rfl)) rfl ?_
      refine zr_aload_n C (zo_42 (p := 83) (zby_w zwX9_putBack_2 19 rfl)) rfl ?_
      refine zr_getr (u := 81) C fw_X9_43 (sh_69) rfl (zo_180 (p := 84) (k := 43) (a := 0) (b := 43) (zby_w zwX9_putBack_2 20 rfl) (zby_w zwX9_putBack_2 21 rfl) (zby_w zwX9_putBack_2 22 rfl) (by decide)) ?_
      refine zr_bipush C (25 : Int32) (zo_16 (p := 87) (k := 25) (a := 25) (zby_w zwX9_putBack_2 23 rfl) (zby_w zwX9_putBack_2 24 rfl) (by decide)) (by decide) ?_
      refine zr_tops (fun σ13 hσ13 => ?_)
      replace h := h σ13 hσ13
      refine zr_iald C (sh_81) (by unfold vp_in; decide) (zo_46 (p := 89) (zby_w zwX9_putBack_2 25 rfl)) ?_
      refine zr_puti C fw_X9_151 pw_X9_15 (sh_69) rfl rfl rfl (zo_181 (p := 90) (k := 151) (a := 0) (b := 151) (zby_w zwX9_putBack_2 26 rfl) (zby_w zwX9_putBack_2 27 rfl) (zby_w zwX9_putBack_2 28 rfl) (by decide)) ?_
      refine zr_aload_n C (zo_42 (p := 93) (zby_w zwX9_putBack_2 29 rfl)) rfl ?_
      refine zr_aload_n C (zo_42 (p := 94) (zby_w zwX9_putBack_2 30 rfl)) rfl ?_
      refine zr_getr (u := 81) C fw_X9_43 (sh_69) rfl (zo_180 (p := 95) (k := 43) (a := 0) (b := 43) (zby_w zwX9_putBack_2 31 rfl) (zby_w zwX9_putBack_2 32 rfl) (zby_w zwX9_putBack_2 33 rfl) (by decide)) ?_
      refine zr_bipush C (26 : Int32) (zo_16 (p := 98) (k := 26) (a := 26) (zby_w zwX9_putBack_3 2 rfl) (zby_w zwX9_putBack_3 3 rfl) (by decide)) (by decide) ?_
      refine zr_tops (fun σ14 hσ14 => ?_)
      replace h := h σ14 hσ14
      refine zr_iald C (sh_81) (by unfold vp_in; decide) (zo_46 (p := 100) (zby_w zwX9_putBack_3 4 rfl)) ?_
      refine zr_puti C fw_X9_154 pw_X9_16 (sh_69) rfl rfl rfl (zo_181 (p := 101) (k := 154) (a := 0) (b := 154) (zby_w zwX9_putBack_3 5 rfl) (zby_w zwX9_putBack_3 6 rfl) (zby_w zwX9_putBack_3 7 rfl) (by decide)) ?_
      refine zr_aload_n C (zo_42 (p := 104) (zby_w zwX9_putBack_3 8 rfl)) rfl ?_
      refine zr_aload_n C (zo_42 (p := 105) (zby_w zwX9_putBack_3 9 rfl)) rfl ?_
      refine zr_getr (u := 81) C fw_X9_43 (sh_69) rfl (zo_180 (p := 106) (k := 43) (a := 0) (b := 43) (zby_w zwX9_putBack_3 10 rfl) (zby_w zwX9_putBack_3 11 rfl) (zby_w zwX9_putBack_3 12 rfl) (by decide)) ?_
      refine zr_bipush C (27 : Int32) (zo_16 (p := 109) (k := 27) (a := 27) (zby_w zwX9_putBack_3 13 rfl) (zby_w zwX9_putBack_3 14 rfl) (by decide)) (by decide) ?_
      refine zr_tops (fun σ15 hσ15 => ?_)
      replace h := h σ15 hσ15
      refine zr_iald C (sh_81) (by unfold vp_in; decide) (zo_46 (p := 111) (zby_w zwX9_putBack_3 15 rfl)) ?_
      refine zr_puti C fw_X9_166 pw_X9_17 (sh_69) rfl rfl rfl (zo_181 (p := 112) (k := 166) (a := 0) (b := 166) (zby_w zwX9_putBack_3 16 rfl) (zby_w zwX9_putBack_3 17 rfl) (zby_w zwX9_putBack_3 18 rfl) (by decide)) ?_
      exact hret _ _ _ h (zo_177 (p := 115) (zby_w zwX9_putBack_3 19 rfl))) M16 (0 : Int32) σ h)
set_option maxRecDepth 20000 in
theorem c_X9_putBack (l : Launch) (g : zG) (σ : zST) (Post : zST → Prop) (h : wp_X9_putBack σ Post) : Met l yX9_putBack (Cond.code yX9_putBack cX9_putBack 2 none :: zGW) (zRm 0 0) (va_Pc [.ref (g.2.1 69)] (zPP g σ)) (va_Qv Post (zBB g) (zA g)) 0 0 (zA g) :=
  zMet (by decide) (Nat.le_of_ble_eq_true rfl) (fun p e s m below meth c hr C => g_X9_putBack C (fun σ pc lv hp hd => zr_vret C hr hp hd) h)
def wp_X9_order (p1 : Int32) (p2 : Int32) (p3 : Int32) (σ : zST) (Post : zST → Prop) : Prop := wp_X9_isShip p1 σ (fun r1 => (if r1 = (0) then True else vp_in p1 6 ∧ True) ∧ ∀ z4 : Int32, z4 = (if r1 = (0) then (1 : Int32) else (if (σ.1 73 p1.toNatClampNeg) = (0) then (-6 : Int32) else (2 : Int32))) → ∀ σ9 : zST, σ9 = (wI σ 69 30 z4) → (if (σ9.1 69 30) ≤ (0) then (if p2 = (84 : Int32) then wp_X9_goTeeth p1 σ9 (fun σ18 => Post σ18) else (if p2 = (87 : Int32) then wp_X9_goWhirl p1 p3 σ9 (fun σ16 => Post σ16) else wp_X9_goCape p1 σ9 (fun σ14 => Post σ14))) else Post (wI σ9 69 29 (σ9.1 69 31))))
set_option maxRecDepth 100000 in
set_option maxHeartbeats 4000000 in
theorem g_X9_order {p : Program} {l : Launch} {e : Env} {R : Room} {s : State} {m : MethodId} {args : Array Value} {below : List Frame} {meth : Method} {c : Code} {Q : State → Prop} {g : zG} {n1 n2 : Nat} (C : zCX p R s m args meth c g n1 n2 cX9_order 4 RX9 3 66) {p1 : Int32} {p2 : Int32} {p3 : Int32} {σ : zST} {Post : zST → Prop} (hret : ∀ (σ : zST) (pc : Nat) (lv : List (Nat × Value)), Post σ → decode cX9_order pc = .ok (.return_, 1) → zGG p l e R s m args below meth c Q g n1 n2 4 pc lv [] σ) (h : wp_X9_order p1 p2 p3 σ Post) : zGG p l e R s m args below meth c Q g n1 n2 4 0 [(0, .ref (g.2.1 69)), (1, .int p1), (2, .int p2), (3, .int p3)] [] σ := by
  unfold wp_X9_order at h
  refine zr_aload_n C (zo_42 (p := 0) (zby_w zwX9_order_0 0 rfl)) rfl ?_
  refine zr_aload_n C (zo_42 (p := 1) (zby_w zwX9_order_0 1 rfl)) rfl ?_
  refine zr_iload_n C (zo_27 (p := 2) (zby_w zwX9_order_0 2 rfl)) rfl ?_
  refine zr_cip (zr_runV (As := [.int p1]) (rest := [.ref (g.2.1 69)]) C vw_X9_112 (c_X9_isShip l g p1 σ _ h) (sh_69) rfl (by decide) (by decide) rfl rfl (Nat.le_of_ble_eq_true rfl) (zo_182 (p := 3) (k := 112) (a := 0) (b := 112) (zby_w zwX9_order_0 3 rfl) (zby_w zwX9_order_0 4 rfl) (zby_w zwX9_order_0 5 rfl) (by decide))) (fun r1 h => ?_)
  obtain ⟨ho6, h⟩ := h
  have hJ5 : ∀ z4 : Int32, z4 = (if r1 = (0) then (1 : Int32) else (if (σ.1 73 p1.toNatClampNeg) = (0) then (-6 : Int32) else (2 : Int32))) → zGG p l e R s m args below meth c Q g n1 n2 4 28 [(0, .ref (g.2.1 69)), (1, .int p1), (2, .int p2), (3, .int p3)] [.int z4, .ref (g.2.1 69)] σ := by
    intro z4 hz4
    replace h := h z4 hz4
    refine zr_puti C fw_X9_169 pw_X9_30 (sh_69) rfl rfl rfl (zo_181 (p := 28) (k := 169) (a := 0) (b := 169) (zby_w zwX9_order_0 28 rfl) (zby_w zwX9_order_0 29 rfl) (zby_w zwX9_order_0 30 rfl) (by decide)) ?_
    refine zr_aload_n C (zo_42 (p := 31) (zby_w zwX9_order_0 31 rfl)) rfl ?_
    refine zr_tops (fun σ9 hσ9 => ?_)
    replace h := h σ9 hσ9
    refine zr_geti C fw_X9_169 (sh_69) rfl (zo_180 (p := 32) (k := 169) (a := 0) (b := 169) (zby_w zwX9_order_1 0 rfl) (zby_w zwX9_order_1 1 rfl) (zby_w zwX9_order_1 2 rfl) (by decide)) ?_
    refine zr_if_le C 49 (zo_158 (p := 35) (k := 14) (a := 0) (b := 14) (zby_w zwX9_order_1 3 rfl) (zby_w zwX9_order_1 4 rfl) (zby_w zwX9_order_1 5 rfl) (by decide)) (by decide) (fun hc10 => ?_) (fun hc10 => ?_)
    · rw [if_pos hc10] at h
      refine zr_iload_n C (zo_28 (p := 49) (zby_w zwX9_order_1 17 rfl)) rfl ?_
      refine zr_bipush C (84 : Int32) (zo_16 (p := 50) (k := 84) (a := 84) (zby_w zwX9_order_1 18 rfl) (zby_w zwX9_order_1 19 rfl) (by decide)) (by decide) ?_
      refine zr_icmp_ne C 63 (zo_160 (p := 52) (k := 11) (a := 0) (b := 11) (zby_w zwX9_order_1 20 rfl) (zby_w zwX9_order_1 21 rfl) (zby_w zwX9_order_1 22 rfl) (by decide)) (by decide) (fun hc11 => ?_) (fun hc11 => ?_)
      · rw [if_neg hc11] at h
        refine zr_iload_n C (zo_28 (p := 63) (zby_w zwX9_order_1 31 rfl)) rfl ?_
        refine zr_bipush C (87 : Int32) (zo_16 (p := 64) (k := 87) (a := 87) (zby_w zwX9_order_2 0 rfl) (zby_w zwX9_order_2 1 rfl) (by decide)) (by decide) ?_
        refine zr_icmp_ne C 78 (zo_160 (p := 66) (k := 12) (a := 0) (b := 12) (zby_w zwX9_order_2 2 rfl) (zby_w zwX9_order_2 3 rfl) (zby_w zwX9_order_2 4 rfl) (by decide)) (by decide) (fun hc12 => ?_) (fun hc12 => ?_)
        · rw [if_neg hc12] at h
          refine zr_aload_n C (zo_42 (p := 78) (zby_w zwX9_order_2 14 rfl)) rfl ?_
          refine zr_iload_n C (zo_27 (p := 79) (zby_w zwX9_order_2 15 rfl)) rfl ?_
          refine zr_cv (zr_runV (As := [.int p1]) (rest := []) C vw_X9_186 (c_X9_goCape l g p1 σ9 _ h) (sh_69) rfl (by decide) (by decide) rfl rfl (Nat.le_of_ble_eq_true rfl) (zo_182 (p := 80) (k := 186) (a := 0) (b := 186) (zby_w zwX9_order_2 16 rfl) (zby_w zwX9_order_2 17 rfl) (zby_w zwX9_order_2 18 rfl) (by decide))) (fun σ14 h => ?_)
          exact hret _ _ _ h d_X9_order_83
        · rw [if_pos hc12] at h
          refine zr_aload_n C (zo_42 (p := 69) (zby_w zwX9_order_2 5 rfl)) rfl ?_
          refine zr_iload_n C (zo_27 (p := 70) (zby_w zwX9_order_2 6 rfl)) rfl ?_
          refine zr_iload_n C (zo_29 (p := 71) (zby_w zwX9_order_2 7 rfl)) rfl ?_
          refine zr_cv (zr_runV (As := [.int p1, .int p3]) (rest := []) C vw_X9_182 (c_X9_goWhirl l g p1 p3 σ9 _ h) (sh_69) rfl (by decide) (by decide) rfl rfl (Nat.le_of_ble_eq_true rfl) (zo_182 (p := 72) (k := 182) (a := 0) (b := 182) (zby_w zwX9_order_2 8 rfl) (zby_w zwX9_order_2 9 rfl) (zby_w zwX9_order_2 10 rfl) (by decide))) (fun σ16 h => ?_)
          refine zr_goto C 83 (zo_167 (p := 75) (k := 8) (a := 0) (b := 8) (zby_w zwX9_order_2 11 rfl) (zby_w zwX9_order_2 12 rfl) (zby_w zwX9_order_2 13 rfl) (by decide)) (by decide) ?_
          exact hret _ _ _ h d_X9_order_83
      · rw [if_pos hc11] at h
        refine zr_aload_n C (zo_42 (p := 55) (zby_w zwX9_order_1 23 rfl)) rfl ?_
        refine zr_iload_n C (zo_27 (p := 56) (zby_w zwX9_order_1 24 rfl)) rfl ?_
        refine zr_cv (zr_runV (As := [.int p1]) (rest := []) C vw_X9_178 (c_X9_goTeeth l g p1 σ9 _ h) (sh_69) rfl (by decide) (by decide) rfl rfl (Nat.le_of_ble_eq_true rfl) (zo_182 (p := 57) (k := 178) (a := 0) (b := 178) (zby_w zwX9_order_1 25 rfl) (zby_w zwX9_order_1 26 rfl) (zby_w zwX9_order_1 27 rfl) (by decide))) (fun σ18 h => ?_)
        refine zr_goto C 83 (zo_167 (p := 60) (k := 23) (a := 0) (b := 23) (zby_w zwX9_order_1 28 rfl) (zby_w zwX9_order_1 29 rfl) (zby_w zwX9_order_1 30 rfl) (by decide)) (by decide) ?_
        exact hret _ _ _ h d_X9_order_83
    · rw [if_neg hc10] at h
      refine zr_aload_n C (zo_42 (p := 38) (zby_w zwX9_order_1 6 rfl)) rfl ?_
      refine zr_aload_n C (zo_42 (p := 39) (zby_w zwX9_order_1 7 rfl)) rfl ?_
      refine zr_geti C fw_X9_172 (sh_69) rfl (zo_180 (p := 40) (k := 172) (a := 0) (b := 172) (zby_w zwX9_order_1 8 rfl) (zby_w zwX9_order_1 9 rfl) (zby_w zwX9_order_1 10 rfl) (by decide)) ?_
      refine zr_puti C fw_X9_175 pw_X9_29 (sh_69) rfl rfl rfl (zo_181 (p := 43) (k := 175) (a := 0) (b := 175) (zby_w zwX9_order_1 11 rfl) (zby_w zwX9_order_1 12 rfl) (zby_w zwX9_order_1 13 rfl) (by decide)) ?_
      refine zr_goto C 83 (zo_167 (p := 46) (k := 37) (a := 0) (b := 37) (zby_w zwX9_order_1 14 rfl) (zby_w zwX9_order_1 15 rfl) (zby_w zwX9_order_1 16 rfl) (by decide)) (by decide) ?_
      exact hret _ _ _ h d_X9_order_83
  refine zr_if_ne C 13 (zo_154 (p := 6) (k := 7) (a := 0) (b := 7) (zby_w zwX9_order_0 6 rfl) (zby_w zwX9_order_0 7 rfl) (zby_w zwX9_order_0 8 rfl) (by decide)) (by decide) (fun hc3 => ?_) (fun hc3 => ?_)
  · skip
    rw [if_neg hc3] at ho6
    refine zr_aload_n C (zo_42 (p := 13) (zby_w zwX9_order_0 13 rfl)) rfl ?_
    refine zr_getr (u := 73) C fw_X9_19 (sh_69) rfl (zo_180 (p := 14) (k := 19) (a := 0) (b := 19) (zby_w zwX9_order_0 14 rfl) (zby_w zwX9_order_0 15 rfl) (zby_w zwX9_order_0 16 rfl) (by decide)) ?_
    refine zr_iload_n C (zo_27 (p := 17) (zby_w zwX9_order_0 17 rfl)) rfl ?_
    obtain ⟨ho7, ho6⟩ := ho6
    refine zr_iald C (sh_73) ho7 (zo_46 (p := 18) (zby_w zwX9_order_0 18 rfl)) ?_
    refine zr_if_eq C 26 (zo_153 (p := 19) (k := 7) (a := 0) (b := 7) (zby_w zwX9_order_0 19 rfl) (zby_w zwX9_order_0 20 rfl) (zby_w zwX9_order_0 21 rfl) (by decide)) (by decide) (fun hc8 => ?_) (fun hc8 => ?_)
    · skip
      refine zr_bipush C (-6 : Int32) (zo_16 (p := 26) (k := (-6)) (a := 250) (zby_w zwX9_order_0 26 rfl) (zby_w zwX9_order_0 27 rfl) (by decide)) (by decide) ?_
      exact hJ5 _ (by rw [if_neg hc3, if_pos hc8])
    · skip
      refine zr_iconst C (2 : Int32) (zo_5 (p := 22) (zby_w zwX9_order_0 22 rfl)) (by decide) ?_
      refine zr_goto C 28 (zo_167 (p := 23) (k := 5) (a := 0) (b := 5) (zby_w zwX9_order_0 23 rfl) (zby_w zwX9_order_0 24 rfl) (zby_w zwX9_order_0 25 rfl) (by decide)) (by decide) ?_
      exact hJ5 _ (by rw [if_neg hc3, if_neg hc8])
  · skip
    rw [if_pos hc3] at ho6
    refine zr_iconst C (1 : Int32) (zo_4 (p := 9) (zby_w zwX9_order_0 9 rfl)) (by decide) ?_
    refine zr_goto C 28 (zo_167 (p := 10) (k := 18) (a := 0) (b := 18) (zby_w zwX9_order_0 10 rfl) (zby_w zwX9_order_0 11 rfl) (zby_w zwX9_order_0 12 rfl) (by decide)) (by decide) ?_
    exact hJ5 _ (by rw [if_pos hc3])
set_option maxRecDepth 20000 in
theorem c_X9_order (l : Launch) (g : zG) (p1 : Int32) (p2 : Int32) (p3 : Int32) (σ : zST) (Post : zST → Prop) (h : wp_X9_order p1 p2 p3 σ Post) : Met l yX9_order (Cond.code yX9_order cX9_order 4 none :: zGW) (zRm 3 66) (va_Pc [.ref (g.2.1 69), .int p1, .int p2, .int p3] (zPP g σ)) (va_Qv Post (zBB g) (zA g)) 0 0 (zA g) :=
  zMet (by decide) (Nat.le_of_ble_eq_true rfl) (fun p e s m below meth c hr C => g_X9_order C (fun σ pc lv hp hd => zr_vret C hr hp hd) h)
def wp_X9_goSeason_L21 (Post : zST → Prop) : Nat → Int32 → Int32 → zST → Prop
  | 0, _, _, _ => False
  | N + 1, v1, v2, σ => (if (σ.1 69 27) ≤ v2 then Post σ else (if (0) ≤ (σ.1 69 29) then Post σ else vp_in v2 60 ∧ (if (σ.1 80 v2.toNatClampNeg) = (46 : Int32) then wp_X9_goSeason_L21 Post N (v1 + 1) (v2 + 1) (wI σ 69 31 ((σ.1 69 31) + (1 : Int32))) else vp_in v2 60 ∧ vp_in (v2 + (1 : Int32)) 60 ∧ wp_X9_order ((σ.1 80 v2.toNatClampNeg) - (65 : Int32)) (σ.1 80 (v2 + (1 : Int32)).toNatClampNeg) v1 σ (fun σ8 => wp_X9_goSeason_L21 Post N v1 ((v2 + 1) + 1) (wI σ8 69 31 ((σ8.1 69 31) + (1 : Int32)))))))

set_option maxRecDepth 100000 in
set_option maxHeartbeats 4000000 in
theorem g_X9_goSeason_L21 {p : Program} {l : Launch} {e : Env} {R : Room} {s : State} {m : MethodId} {args : Array Value} {below : List Frame} {meth : Method} {c : Code} {Q : State → Prop} {g : zG} {n1 n2 : Nat} (C : zCX p R s m args meth c g n1 n2 cX9_goSeason 3 RX9 4 89)  {Post : zST → Prop} (hret : ∀ (σ : zST) (pc : Nat) (lv : List (Nat × Value)), Post σ → decode cX9_goSeason pc = .ok (.return_, 1) → zGG p l e R s m args below meth c Q g n1 n2 3 pc lv [] σ) : ∀ (N : Nat) (v1 : Int32) (v2 : Int32) (σ : zST) , wp_X9_goSeason_L21 Post N v1 v2 σ → zGG p l e R s m args below meth c Q g n1 n2 3 21 [(0, .ref (g.2.1 69)), (1, .int v1), (2, .int v2)] [] σ := by
  intro N
  induction N with
  | zero =>
    intro v1 v2 σ h
    exact h.elim
  | succ N ih =>
    intro v1 v2 σ h
    rw [wp_X9_goSeason_L21] at h
    refine zr_iload_n C (zo_28 (p := 21) (zby_w zwX9_goSeason_0 21 rfl)) rfl ?_
    refine zr_aload_n C (zo_42 (p := 22) (zby_w zwX9_goSeason_0 22 rfl)) rfl ?_
    refine zr_geti C fw_X9_130 (sh_69) rfl (zo_180 (p := 23) (k := 130) (a := 0) (b := 130) (zby_w zwX9_goSeason_0 23 rfl) (zby_w zwX9_goSeason_0 24 rfl) (zby_w zwX9_goSeason_0 25 rfl) (by decide)) ?_
    refine zr_icmp_ge C 94 (zo_162 (p := 26) (k := 68) (a := 0) (b := 68) (zby_w zwX9_goSeason_0 26 rfl) (zby_w zwX9_goSeason_0 27 rfl) (zby_w zwX9_goSeason_0 28 rfl) (by decide)) (by decide) (fun hc1 => ?_) (fun hc1 => ?_)
    · rw [if_pos hc1] at h
      exact hret _ _ _ h d_X9_goSeason_94
    · rw [if_neg hc1] at h
      refine zr_aload_n C (zo_42 (p := 29) (zby_w zwX9_goSeason_0 29 rfl)) rfl ?_
      refine zr_geti C fw_X9_175 (sh_69) rfl (zo_180 (p := 30) (k := 175) (a := 0) (b := 175) (zby_w zwX9_goSeason_0 30 rfl) (zby_w zwX9_goSeason_0 31 rfl) (zby_w zwX9_goSeason_0 32 rfl) (by decide)) ?_
      refine zr_if_ge C 94 (zo_156 (p := 33) (k := 61) (a := 0) (b := 61) (zby_w zwX9_goSeason_1 1 rfl) (zby_w zwX9_goSeason_1 2 rfl) (zby_w zwX9_goSeason_1 3 rfl) (by decide)) (by decide) (fun hc2 => ?_) (fun hc2 => ?_)
      · rw [if_pos hc2] at h
        exact hret _ _ _ h d_X9_goSeason_94
      · rw [if_neg hc2] at h
        refine zr_aload_n C (zo_42 (p := 36) (zby_w zwX9_goSeason_1 4 rfl)) rfl ?_
        refine zr_getr (u := 80) C fw_X9_40 (sh_69) rfl (zo_180 (p := 37) (k := 40) (a := 0) (b := 40) (zby_w zwX9_goSeason_1 5 rfl) (zby_w zwX9_goSeason_1 6 rfl) (zby_w zwX9_goSeason_1 7 rfl) (by decide)) ?_
        refine zr_iload_n C (zo_28 (p := 40) (zby_w zwX9_goSeason_1 8 rfl)) rfl ?_
        obtain ⟨ho3, h⟩ := h
        refine zr_iald C (sh_80) ho3 (zo_46 (p := 41) (zby_w zwX9_goSeason_1 9 rfl)) ?_
        refine zr_bipush C (46 : Int32) (zo_16 (p := 42) (k := 46) (a := 46) (zby_w zwX9_goSeason_1 10 rfl) (zby_w zwX9_goSeason_1 11 rfl) (by decide)) (by decide) ?_
        refine zr_icmp_ne C 53 (zo_160 (p := 44) (k := 9) (a := 0) (b := 9) (zby_w zwX9_goSeason_1 12 rfl) (zby_w zwX9_goSeason_1 13 rfl) (zby_w zwX9_goSeason_1 14 rfl) (by decide)) (by decide) (fun hc4 => ?_) (fun hc4 => ?_)
        · rw [if_neg hc4] at h
          refine zr_aload_n C (zo_42 (p := 53) (zby_w zwX9_goSeason_1 21 rfl)) rfl ?_
          refine zr_aload_n C (zo_42 (p := 54) (zby_w zwX9_goSeason_1 22 rfl)) rfl ?_
          refine zr_getr (u := 80) C fw_X9_40 (sh_69) rfl (zo_180 (p := 55) (k := 40) (a := 0) (b := 40) (zby_w zwX9_goSeason_1 23 rfl) (zby_w zwX9_goSeason_1 24 rfl) (zby_w zwX9_goSeason_1 25 rfl) (by decide)) ?_
          refine zr_iload_n C (zo_28 (p := 58) (zby_w zwX9_goSeason_1 26 rfl)) rfl ?_
          obtain ⟨ho5, h⟩ := h
          refine zr_iald C (sh_80) ho5 (zo_46 (p := 59) (zby_w zwX9_goSeason_1 27 rfl)) ?_
          refine zr_bipush C (65 : Int32) (zo_16 (p := 60) (k := 65) (a := 65) (zby_w zwX9_goSeason_1 28 rfl) (zby_w zwX9_goSeason_1 29 rfl) (by decide)) (by decide) ?_
          refine zr_isub C (zo_100 (p := 62) (zby_w zwX9_goSeason_1 30 rfl)) ?_
          refine zr_aload_n C (zo_42 (p := 63) (zby_w zwX9_goSeason_1 31 rfl)) rfl ?_
          refine zr_getr (u := 80) C fw_X9_40 (sh_69) rfl (zo_180 (p := 64) (k := 40) (a := 0) (b := 40) (zby_w zwX9_goSeason_2 0 rfl) (zby_w zwX9_goSeason_2 1 rfl) (zby_w zwX9_goSeason_2 2 rfl) (by decide)) ?_
          refine zr_iload_n C (zo_28 (p := 67) (zby_w zwX9_goSeason_2 3 rfl)) rfl ?_
          refine zr_iconst C (1 : Int32) (zo_4 (p := 68) (zby_w zwX9_goSeason_2 4 rfl)) (by decide) ?_
          refine zr_iadd C (zo_96 (p := 69) (zby_w zwX9_goSeason_2 5 rfl)) ?_
          obtain ⟨ho6, h⟩ := h
          refine zr_iald C (sh_80) ho6 (zo_46 (p := 70) (zby_w zwX9_goSeason_2 6 rfl)) ?_
          refine zr_iload_n C (zo_27 (p := 71) (zby_w zwX9_goSeason_2 7 rfl)) rfl ?_
          refine zr_cv (zr_runV (As := [.int ((σ.1 80 v2.toNatClampNeg) - (65 : Int32)), .int (σ.1 80 (v2 + (1 : Int32)).toNatClampNeg), .int v1]) (rest := []) C vw_X9_189 (c_X9_order l g ((σ.1 80 v2.toNatClampNeg) - (65 : Int32)) (σ.1 80 (v2 + (1 : Int32)).toNatClampNeg) v1 σ _ h) (sh_69) rfl (by decide) (by decide) rfl rfl (Nat.le_of_ble_eq_true rfl) (zo_182 (p := 72) (k := 189) (a := 0) (b := 189) (zby_w zwX9_goSeason_2 8 rfl) (zby_w zwX9_goSeason_2 9 rfl) (zby_w zwX9_goSeason_2 10 rfl) (by decide))) (fun σ8 h => ?_)
          refine zr_iinc C (v2 + 1) [(2, .int (v2 + 1)), (0, .ref (g.2.1 69)), (1, .int v1)] d_X9_goSeason_75 rfl rfl (by decide) rfl ?_
          refine zr_aload_n C d_X9_goSeason_78 rfl ?_
          refine zr_dup C d_X9_goSeason_79 rfl ?_
          refine zr_geti C fw_X9_172 (sh_69) rfl d_X9_goSeason_80 ?_
          refine zr_iconst C (1 : Int32) d_X9_goSeason_83 (by decide) ?_
          refine zr_iadd C d_X9_goSeason_84 ?_
          refine zr_puti C fw_X9_172 pw_X9_31 (sh_69) rfl rfl rfl d_X9_goSeason_85 ?_
          refine zr_iinc C ((v2 + 1) + 1) [(2, .int ((v2 + 1) + 1)), (0, .ref (g.2.1 69)), (1, .int v1)] d_X9_goSeason_88 rfl rfl (by decide) rfl ?_
          refine zr_goto C 21 d_X9_goSeason_91 (by decide) ?_
          exact zr_pick [1, 2, 0] rfl (ih v1 ((v2 + 1) + 1) (wI σ8 69 31 ((σ8.1 69 31) + (1 : Int32))) h)
        · rw [if_pos hc4] at h
          refine zr_iinc C (v1 + 1) [(1, .int (v1 + 1)), (0, .ref (g.2.1 69)), (2, .int v2)] d_X9_goSeason_47 rfl rfl (by decide) rfl ?_
          refine zr_goto C 78 (zo_167 (p := 50) (k := 28) (a := 0) (b := 28) (zby_w zwX9_goSeason_1 18 rfl) (zby_w zwX9_goSeason_1 19 rfl) (zby_w zwX9_goSeason_1 20 rfl) (by decide)) (by decide) ?_
          refine zr_aload_n C d_X9_goSeason_78 rfl ?_
          refine zr_dup C d_X9_goSeason_79 rfl ?_
          refine zr_geti C fw_X9_172 (sh_69) rfl d_X9_goSeason_80 ?_
          refine zr_iconst C (1 : Int32) d_X9_goSeason_83 (by decide) ?_
          refine zr_iadd C d_X9_goSeason_84 ?_
          refine zr_puti C fw_X9_172 pw_X9_31 (sh_69) rfl rfl rfl d_X9_goSeason_85 ?_
          refine zr_iinc C (v2 + 1) [(2, .int (v2 + 1)), (1, .int (v1 + 1)), (0, .ref (g.2.1 69))] d_X9_goSeason_88 rfl rfl (by decide) rfl ?_
          refine zr_goto C 21 d_X9_goSeason_91 (by decide) ?_
          exact zr_pick [2, 1, 0] rfl (ih (v1 + 1) (v2 + 1) (wI σ 69 31 ((σ.1 69 31) + (1 : Int32))) h)

def wp_X9_goSeason (σ : zST) (Post : zST → Prop) : Prop := ∃ M9 : Nat, wp_X9_goSeason_L21 Post M9 (0 : Int32) (0 : Int32) (wI (wI (wI σ 69 29 (-6 : Int32)) 69 30 (-6 : Int32)) 69 31 (0 : Int32))
set_option maxRecDepth 100000 in
set_option maxHeartbeats 4000000 in
theorem g_X9_goSeason {p : Program} {l : Launch} {e : Env} {R : Room} {s : State} {m : MethodId} {args : Array Value} {below : List Frame} {meth : Method} {c : Code} {Q : State → Prop} {g : zG} {n1 n2 : Nat} (C : zCX p R s m args meth c g n1 n2 cX9_goSeason 3 RX9 4 89) {σ : zST} {Post : zST → Prop} (hret : ∀ (σ : zST) (pc : Nat) (lv : List (Nat × Value)), Post σ → decode cX9_goSeason pc = .ok (.return_, 1) → zGG p l e R s m args below meth c Q g n1 n2 3 pc lv [] σ) (h : wp_X9_goSeason σ Post) : zGG p l e R s m args below meth c Q g n1 n2 3 0 [(0, .ref (g.2.1 69))] [] σ := by
  unfold wp_X9_goSeason at h
  refine zr_aload_n C (zo_42 (p := 0) (zby_w zwX9_goSeason_0 0 rfl)) rfl ?_
  refine zr_bipush C (-6 : Int32) (zo_16 (p := 1) (k := (-6)) (a := 250) (zby_w zwX9_goSeason_0 1 rfl) (zby_w zwX9_goSeason_0 2 rfl) (by decide)) (by decide) ?_
  refine zr_puti C fw_X9_175 pw_X9_29 (sh_69) rfl rfl rfl (zo_181 (p := 3) (k := 175) (a := 0) (b := 175) (zby_w zwX9_goSeason_0 3 rfl) (zby_w zwX9_goSeason_0 4 rfl) (zby_w zwX9_goSeason_0 5 rfl) (by decide)) ?_
  refine zr_aload_n C (zo_42 (p := 6) (zby_w zwX9_goSeason_0 6 rfl)) rfl ?_
  refine zr_bipush C (-6 : Int32) (zo_16 (p := 7) (k := (-6)) (a := 250) (zby_w zwX9_goSeason_0 7 rfl) (zby_w zwX9_goSeason_0 8 rfl) (by decide)) (by decide) ?_
  refine zr_puti C fw_X9_169 pw_X9_30 (sh_69) rfl rfl rfl (zo_181 (p := 9) (k := 169) (a := 0) (b := 169) (zby_w zwX9_goSeason_0 9 rfl) (zby_w zwX9_goSeason_0 10 rfl) (zby_w zwX9_goSeason_0 11 rfl) (by decide)) ?_
  refine zr_aload_n C (zo_42 (p := 12) (zby_w zwX9_goSeason_0 12 rfl)) rfl ?_
  refine zr_iconst C (0 : Int32) (zo_3 (p := 13) (zby_w zwX9_goSeason_0 13 rfl)) (by decide) ?_
  refine zr_puti C fw_X9_172 pw_X9_31 (sh_69) rfl rfl rfl (zo_181 (p := 14) (k := 172) (a := 0) (b := 172) (zby_w zwX9_goSeason_0 14 rfl) (zby_w zwX9_goSeason_0 15 rfl) (zby_w zwX9_goSeason_0 16 rfl) (by decide)) ?_
  refine zr_iconst C (0 : Int32) (zo_3 (p := 17) (zby_w zwX9_goSeason_0 17 rfl)) (by decide) ?_
  refine zr_istore_n C [(1, .int (0 : Int32)), (0, .ref (g.2.1 69))] (zo_60 (p := 18) (zby_w zwX9_goSeason_0 18 rfl)) (by decide) rfl ?_
  refine zr_iconst C (0 : Int32) (zo_3 (p := 19) (zby_w zwX9_goSeason_0 19 rfl)) (by decide) ?_
  refine zr_istore_n C [(2, .int (0 : Int32)), (1, .int (0 : Int32)), (0, .ref (g.2.1 69))] (zo_61 (p := 20) (zby_w zwX9_goSeason_0 20 rfl)) (by decide) rfl ?_
  obtain ⟨M9, h⟩ := h
  exact zr_pick [2, 1, 0] rfl (g_X9_goSeason_L21 C hret M9 (0 : Int32) (0 : Int32) (wI (wI (wI σ 69 29 (-6 : Int32)) 69 30 (-6 : Int32)) 69 31 (0 : Int32)) h)
set_option maxRecDepth 20000 in
theorem c_X9_goSeason (l : Launch) (g : zG) (σ : zST) (Post : zST → Prop) (h : wp_X9_goSeason σ Post) : Met l yX9_goSeason (Cond.code yX9_goSeason cX9_goSeason 3 none :: zGW) (zRm 4 89) (va_Pc [.ref (g.2.1 69)] (zPP g σ)) (va_Qv Post (zBB g) (zA g)) 0 0 (zA g) :=
  zMet (by decide) (Nat.le_of_ble_eq_true rfl) (fun p e s m below meth c hr C => g_X9_goSeason C (fun σ pc lv hp hd => zr_vret C hr hp hd) h)
def wp_X9_judge (p1 : Int32) (σ : zST) (Post : Int32 → zST → Prop) : Prop := wp_X9_in (p1.toInt64) (0 : Int64) (1 : Int64) σ (fun r1 => (if r1 = (0) then Post (-2 : Int32) σ else wp_X9_faultOfSeason σ (fun r4 => (if r4 < (0) then wp_X9_keepNow σ (fun σ8 => wp_X9_goSeason σ8 (fun σ10 => wp_X9_putBack σ10 (fun σ12 => ∀ z14 : Int32, z14 = (if p1 = (0) then (σ12.1 69 29) else (σ12.1 69 30)) → Post z14 σ12))) else Post (-5 : Int32) σ))))
set_option maxRecDepth 100000 in
set_option maxHeartbeats 4000000 in
theorem g_X9_judge {p : Program} {l : Launch} {e : Env} {R : Room} {s : State} {m : MethodId} {args : Array Value} {below : List Frame} {meth : Method} {c : Code} {Q : State → Prop} {g : zG} {n1 n2 : Nat} (C : zCX p R s m args meth c g n1 n2 cX9_judge 2 RX9 5 111) {p1 : Int32} {σ : zST} {Post : Int32 → zST → Prop} (hret : ∀ (v : Int32) (σ : zST) (pc : Nat) (lv : List (Nat × Value)), Post v σ → decode cX9_judge pc = .ok (.ireturn, 1) → zGG p l e R s m args below meth c Q g n1 n2 2 pc lv [.int v] σ) (h : wp_X9_judge p1 σ Post) : zGG p l e R s m args below meth c Q g n1 n2 2 0 [(0, .ref (g.2.1 69)), (1, .int p1)] [] σ := by
  unfold wp_X9_judge at h
  refine zr_iload_n C (zo_27 (p := 0) (zby_w zwX9_judge_0 0 rfl)) rfl ?_
  refine zr_i2l C (zo_133 (p := 1) (zby_w zwX9_judge_0 1 rfl)) ?_
  refine zr_lconst C (0 : Int64) (zo_9 (p := 2) (zby_w zwX9_judge_0 2 rfl)) (by decide) ?_
  refine zr_lconst C (1 : Int64) (zo_10 (p := 3) (zby_w zwX9_judge_0 3 rfl)) (by decide) ?_
  refine zr_cip (zr_runS (As := [.long (p1.toInt64), .long (0 : Int64), .long (1 : Int64)]) (rest := []) C sw_X9_89 (c_X9_in l g (p1.toInt64) (0 : Int64) (1 : Int64) σ _ h) (by decide) (by decide) rfl rfl (Nat.le_of_ble_eq_true rfl) (zo_184 (p := 4) (k := 89) (a := 0) (b := 89) (zby_w zwX9_judge_0 4 rfl) (zby_w zwX9_judge_0 5 rfl) (zby_w zwX9_judge_0 6 rfl) (by decide))) (fun r1 h => ?_)
  refine zr_if_ne C 13 (zo_154 (p := 7) (k := 6) (a := 0) (b := 6) (zby_w zwX9_judge_0 7 rfl) (zby_w zwX9_judge_0 8 rfl) (zby_w zwX9_judge_0 9 rfl) (by decide)) (by decide) (fun hc3 => ?_) (fun hc3 => ?_)
  · rw [if_neg hc3] at h
    refine zr_aload_n C (zo_42 (p := 13) (zby_w zwX9_judge_0 13 rfl)) rfl ?_
    refine zr_cip (zr_runV (As := []) (rest := []) C vw_X9_145 (c_X9_faultOfSeason l g σ _ h) (sh_69) rfl (by decide) (by decide) rfl rfl (Nat.le_of_ble_eq_true rfl) (zo_182 (p := 14) (k := 145) (a := 0) (b := 145) (zby_w zwX9_judge_0 14 rfl) (zby_w zwX9_judge_0 15 rfl) (zby_w zwX9_judge_0 16 rfl) (by decide))) (fun r4 h => ?_)
    refine zr_if_lt C 23 (zo_155 (p := 17) (k := 6) (a := 0) (b := 6) (zby_w zwX9_judge_0 17 rfl) (zby_w zwX9_judge_0 18 rfl) (zby_w zwX9_judge_0 19 rfl) (by decide)) (by decide) (fun hc6 => ?_) (fun hc6 => ?_)
    · rw [if_pos hc6] at h
      refine zr_aload_n C (zo_42 (p := 23) (zby_w zwX9_judge_0 23 rfl)) rfl ?_
      refine zr_cv (zr_runV (As := []) (rest := []) C vw_X9_193 (c_X9_keepNow l g σ _ h) (sh_69) rfl (by decide) (by decide) rfl rfl (Nat.le_of_ble_eq_true rfl) (zo_182 (p := 24) (k := 193) (a := 0) (b := 193) (zby_w zwX9_judge_0 24 rfl) (zby_w zwX9_judge_0 25 rfl) (zby_w zwX9_judge_0 26 rfl) (by decide))) (fun σ8 h => ?_)
      refine zr_aload_n C (zo_42 (p := 27) (zby_w zwX9_judge_0 27 rfl)) rfl ?_
      refine zr_cv (zr_runV (As := []) (rest := []) C vw_X9_196 (c_X9_goSeason l g σ8 _ h) (sh_69) rfl (by decide) (by decide) rfl rfl (Nat.le_of_ble_eq_true rfl) (zo_182 (p := 28) (k := 196) (a := 0) (b := 196) (zby_w zwX9_judge_0 28 rfl) (zby_w zwX9_judge_0 29 rfl) (zby_w zwX9_judge_0 30 rfl) (by decide))) (fun σ10 h => ?_)
      refine zr_aload_n C (zo_42 (p := 31) (zby_w zwX9_judge_0 31 rfl)) rfl ?_
      refine zr_cv (zr_runV (As := []) (rest := []) C vw_X9_199 (c_X9_putBack l g σ10 _ h) (sh_69) rfl (by decide) (by decide) rfl rfl (Nat.le_of_ble_eq_true rfl) (zo_182 (p := 32) (k := 199) (a := 0) (b := 199) (zby_w zwX9_judge_1 0 rfl) (zby_w zwX9_judge_1 1 rfl) (zby_w zwX9_judge_1 2 rfl) (by decide))) (fun σ12 h => ?_)
      refine zr_iload_n C (zo_27 (p := 35) (zby_w zwX9_judge_1 3 rfl)) rfl ?_
      have hJ15 : ∀ z14 : Int32, z14 = (if p1 = (0) then (σ12.1 69 29) else (σ12.1 69 30)) → zGG p l e R s m args below meth c Q g n1 n2 2 50 [(0, .ref (g.2.1 69)), (1, .int p1)] [.int z14] σ12 := by
        intro z14 hz14
        replace h := h z14 hz14
        exact hret _ _ _ _ h (zo_172 (p := 50) (zby_w zwX9_judge_1 18 rfl))
      refine zr_if_ne C 46 (zo_154 (p := 36) (k := 10) (a := 0) (b := 10) (zby_w zwX9_judge_1 4 rfl) (zby_w zwX9_judge_1 5 rfl) (zby_w zwX9_judge_1 6 rfl) (by decide)) (by decide) (fun hc13 => ?_) (fun hc13 => ?_)
      · skip
        refine zr_aload_n C (zo_42 (p := 46) (zby_w zwX9_judge_1 14 rfl)) rfl ?_
        refine zr_geti C fw_X9_169 (sh_69) rfl (zo_180 (p := 47) (k := 169) (a := 0) (b := 169) (zby_w zwX9_judge_1 15 rfl) (zby_w zwX9_judge_1 16 rfl) (zby_w zwX9_judge_1 17 rfl) (by decide)) ?_
        exact hJ15 _ (by rw [if_neg hc13])
      · skip
        refine zr_aload_n C (zo_42 (p := 39) (zby_w zwX9_judge_1 7 rfl)) rfl ?_
        refine zr_geti C fw_X9_175 (sh_69) rfl (zo_180 (p := 40) (k := 175) (a := 0) (b := 175) (zby_w zwX9_judge_1 8 rfl) (zby_w zwX9_judge_1 9 rfl) (zby_w zwX9_judge_1 10 rfl) (by decide)) ?_
        refine zr_goto C 50 (zo_167 (p := 43) (k := 7) (a := 0) (b := 7) (zby_w zwX9_judge_1 11 rfl) (zby_w zwX9_judge_1 12 rfl) (zby_w zwX9_judge_1 13 rfl) (by decide)) (by decide) ?_
        exact hJ15 _ (by rw [if_pos hc13])
    · rw [if_neg hc6] at h
      refine zr_bipush C (-5 : Int32) (zo_16 (p := 20) (k := (-5)) (a := 251) (zby_w zwX9_judge_0 20 rfl) (zby_w zwX9_judge_0 21 rfl) (by decide)) (by decide) ?_
      exact hret _ _ _ _ h (zo_172 (p := 22) (zby_w zwX9_judge_0 22 rfl))
  · rw [if_pos hc3] at h
    refine zr_bipush C (-2 : Int32) (zo_16 (p := 10) (k := (-2)) (a := 254) (zby_w zwX9_judge_0 10 rfl) (zby_w zwX9_judge_0 11 rfl) (by decide)) (by decide) ?_
    exact hret _ _ _ _ h (zo_172 (p := 12) (zby_w zwX9_judge_0 12 rfl))
set_option maxRecDepth 20000 in
theorem c_X9_judge (l : Launch) (g : zG) (p1 : Int32) (σ : zST) (Post : Int32 → zST → Prop) (h : wp_X9_judge p1 σ Post) : Met l yX9_judge (Cond.code yX9_judge cX9_judge 2 (some .int) :: zGW) (zRm 5 111) (va_Pc [.ref (g.2.1 69), .int p1] (zPP g σ)) (va_Qi Post (zBB g) (zA g)) 0 0 (zA g) :=
  zMet (by decide) (Nat.le_of_ble_eq_true rfl) (fun p e s m below meth c hr C => g_X9_judge C (fun v σ pc lv hp hd => zr_iret C hr hp hd) h)
def wp_X9_stateOf (p1 : Int32) (p2 : Int32) (σ : zST) (Post : Int32 → Prop) : Prop := (if p2 = (0) then vp_in p1 6 ∧ True else (if p2 = (1 : Int32) then vp_in p1 6 ∧ True else vp_in p1 6 ∧ True)) ∧ ∀ z2 : Int32, z2 = (if p2 = (0) then (σ.1 73 p1.toNatClampNeg) else (if p2 = (1 : Int32) then (σ.1 70 p1.toNatClampNeg) else (σ.1 71 p1.toNatClampNeg))) → Post z2
set_option maxRecDepth 100000 in
set_option maxHeartbeats 4000000 in
theorem g_X9_stateOf {p : Program} {l : Launch} {e : Env} {R : Room} {s : State} {m : MethodId} {args : Array Value} {below : List Frame} {meth : Method} {c : Code} {Q : State → Prop} {g : zG} {n1 n2 : Nat} (C : zCX p R s m args meth c g n1 n2 cX9_stateOf 3 RX9 0 0) {p1 : Int32} {p2 : Int32} {σ : zST} {Post : Int32 → Prop} (hret : ∀ (v : Int32) (pc : Nat) (lv : List (Nat × Value)), Post v → decode cX9_stateOf pc = .ok (.ireturn, 1) → zGG p l e R s m args below meth c Q g n1 n2 3 pc lv [.int v] σ) (h : wp_X9_stateOf p1 p2 σ Post) : zGG p l e R s m args below meth c Q g n1 n2 3 0 [(0, .ref (g.2.1 69)), (1, .int p1), (2, .int p2)] [] σ := by
  unfold wp_X9_stateOf at h
  refine zr_iload_n C (zo_28 (p := 0) (zby_w zwX9_stateOf_0 0 rfl)) rfl ?_
  obtain ⟨ho4, h⟩ := h
  have hJ3 : ∀ z2 : Int32, z2 = (if p2 = (0) then (σ.1 73 p1.toNatClampNeg) else (if p2 = (1 : Int32) then (σ.1 70 p1.toNatClampNeg) else (σ.1 71 p1.toNatClampNeg))) → zGG p l e R s m args below meth c Q g n1 n2 3 33 [(0, .ref (g.2.1 69)), (1, .int p1), (2, .int p2)] [.int z2] σ := by
    intro z2 hz2
    replace h := h z2 hz2
    exact hret _ _ _ h (zo_172 (p := 33) (zby_w zwX9_stateOf_1 1 rfl))
  refine zr_if_ne C 13 (zo_154 (p := 1) (k := 12) (a := 0) (b := 12) (zby_w zwX9_stateOf_0 1 rfl) (zby_w zwX9_stateOf_0 2 rfl) (zby_w zwX9_stateOf_0 3 rfl) (by decide)) (by decide) (fun hc1 => ?_) (fun hc1 => ?_)
  · skip
    rw [if_neg hc1] at ho4
    refine zr_iload_n C (zo_28 (p := 13) (zby_w zwX9_stateOf_0 13 rfl)) rfl ?_
    refine zr_iconst C (1 : Int32) (zo_4 (p := 14) (zby_w zwX9_stateOf_0 14 rfl)) (by decide) ?_
    refine zr_icmp_ne C 27 (zo_160 (p := 15) (k := 12) (a := 0) (b := 12) (zby_w zwX9_stateOf_0 15 rfl) (zby_w zwX9_stateOf_0 16 rfl) (zby_w zwX9_stateOf_0 17 rfl) (by decide)) (by decide) (fun hc5 => ?_) (fun hc5 => ?_)
    · skip
      rw [if_neg hc5] at ho4
      refine zr_aload_n C (zo_42 (p := 27) (zby_w zwX9_stateOf_0 27 rfl)) rfl ?_
      refine zr_getr (u := 71) C fw_X9_13 (sh_69) rfl (zo_180 (p := 28) (k := 13) (a := 0) (b := 13) (zby_w zwX9_stateOf_0 28 rfl) (zby_w zwX9_stateOf_0 29 rfl) (zby_w zwX9_stateOf_0 30 rfl) (by decide)) ?_
      refine zr_iload_n C (zo_27 (p := 31) (zby_w zwX9_stateOf_0 31 rfl)) rfl ?_
      obtain ⟨ho6, ho4⟩ := ho4
      refine zr_iald C (sh_71) ho6 (zo_46 (p := 32) (zby_w zwX9_stateOf_1 0 rfl)) ?_
      exact hJ3 _ (by rw [if_neg hc1, if_neg hc5])
    · skip
      rw [if_pos hc5] at ho4
      refine zr_aload_n C (zo_42 (p := 18) (zby_w zwX9_stateOf_0 18 rfl)) rfl ?_
      refine zr_getr (u := 70) C fw_X9_7 (sh_69) rfl (zo_180 (p := 19) (k := 7) (a := 0) (b := 7) (zby_w zwX9_stateOf_0 19 rfl) (zby_w zwX9_stateOf_0 20 rfl) (zby_w zwX9_stateOf_0 21 rfl) (by decide)) ?_
      refine zr_iload_n C (zo_27 (p := 22) (zby_w zwX9_stateOf_0 22 rfl)) rfl ?_
      obtain ⟨ho7, ho4⟩ := ho4
      refine zr_iald C (sh_70) ho7 (zo_46 (p := 23) (zby_w zwX9_stateOf_0 23 rfl)) ?_
      refine zr_goto C 33 (zo_167 (p := 24) (k := 9) (a := 0) (b := 9) (zby_w zwX9_stateOf_0 24 rfl) (zby_w zwX9_stateOf_0 25 rfl) (zby_w zwX9_stateOf_0 26 rfl) (by decide)) (by decide) ?_
      exact hJ3 _ (by rw [if_neg hc1, if_pos hc5])
  · skip
    rw [if_pos hc1] at ho4
    refine zr_aload_n C (zo_42 (p := 4) (zby_w zwX9_stateOf_0 4 rfl)) rfl ?_
    refine zr_getr (u := 73) C fw_X9_19 (sh_69) rfl (zo_180 (p := 5) (k := 19) (a := 0) (b := 19) (zby_w zwX9_stateOf_0 5 rfl) (zby_w zwX9_stateOf_0 6 rfl) (zby_w zwX9_stateOf_0 7 rfl) (by decide)) ?_
    refine zr_iload_n C (zo_27 (p := 8) (zby_w zwX9_stateOf_0 8 rfl)) rfl ?_
    obtain ⟨ho8, ho4⟩ := ho4
    refine zr_iald C (sh_73) ho8 (zo_46 (p := 9) (zby_w zwX9_stateOf_0 9 rfl)) ?_
    refine zr_goto C 33 (zo_167 (p := 10) (k := 23) (a := 0) (b := 23) (zby_w zwX9_stateOf_0 10 rfl) (zby_w zwX9_stateOf_0 11 rfl) (zby_w zwX9_stateOf_0 12 rfl) (by decide)) (by decide) ?_
    exact hJ3 _ (by rw [if_pos hc1])
set_option maxRecDepth 20000 in
theorem c_X9_stateOf (l : Launch) (g : zG) (p1 : Int32) (p2 : Int32) (σ : zST) (Post : Int32 → Prop) (h : wp_X9_stateOf p1 p2 σ Post) : Met l yX9_stateOf (Cond.code yX9_stateOf cX9_stateOf 3 (some .int) :: zGW) (zRm 0 0) (va_Pc [.ref (g.2.1 69), .int p1, .int p2] (zPP g σ)) (va_Qi (fun r u => Post r ∧ u = σ) (zBB g) (zA g)) 0 0 (zA g) :=
  zMet (by decide) (Nat.le_of_ble_eq_true rfl) (fun p e s m below meth c hr C => g_X9_stateOf C (fun v pc lv hp hd => zr_iret C hr ⟨hp, rfl⟩ hd) h)
def wp_X9_state (p1 : Int32) (p2 : Int32) (σ : zST) (Post : Int32 → Prop) : Prop := wp_X9_isShip p1 σ (fun r1 => (if r1 = (0) then Post (-1 : Int32) else wp_X9_in (p2.toInt64) (0 : Int64) (2 : Int64) σ (fun r4 => (if r4 = (0) then Post (-2 : Int32) else wp_X9_stateOf p1 p2 σ (fun r7 => Post r7)))))
set_option maxRecDepth 100000 in
set_option maxHeartbeats 4000000 in
theorem g_X9_state {p : Program} {l : Launch} {e : Env} {R : Room} {s : State} {m : MethodId} {args : Array Value} {below : List Frame} {meth : Method} {c : Code} {Q : State → Prop} {g : zG} {n1 n2 : Nat} (C : zCX p R s m args meth c g n1 n2 cX9_state 3 RX9 3 66) {p1 : Int32} {p2 : Int32} {σ : zST} {Post : Int32 → Prop} (hret : ∀ (v : Int32) (pc : Nat) (lv : List (Nat × Value)), Post v → decode cX9_state pc = .ok (.ireturn, 1) → zGG p l e R s m args below meth c Q g n1 n2 3 pc lv [.int v] σ) (h : wp_X9_state p1 p2 σ Post) : zGG p l e R s m args below meth c Q g n1 n2 3 0 [(0, .ref (g.2.1 69)), (1, .int p1), (2, .int p2)] [] σ := by
  unfold wp_X9_state at h
  refine zr_aload_n C (zo_42 (p := 0) (zby_w zwX9_state_0 0 rfl)) rfl ?_
  refine zr_iload_n C (zo_27 (p := 1) (zby_w zwX9_state_0 1 rfl)) rfl ?_
  refine zr_cip (zr_runV (As := [.int p1]) (rest := []) C vw_X9_112 (c_X9_isShip l g p1 σ _ h) (sh_69) rfl (by decide) (by decide) rfl rfl (Nat.le_of_ble_eq_true rfl) (zo_182 (p := 2) (k := 112) (a := 0) (b := 112) (zby_w zwX9_state_0 2 rfl) (zby_w zwX9_state_0 3 rfl) (zby_w zwX9_state_0 4 rfl) (by decide))) (fun r1 h => ?_)
  refine zr_if_ne C 10 (zo_154 (p := 5) (k := 5) (a := 0) (b := 5) (zby_w zwX9_state_0 5 rfl) (zby_w zwX9_state_0 6 rfl) (zby_w zwX9_state_0 7 rfl) (by decide)) (by decide) (fun hc3 => ?_) (fun hc3 => ?_)
  · rw [if_neg hc3] at h
    refine zr_iload_n C (zo_28 (p := 10) (zby_w zwX9_state_0 10 rfl)) rfl ?_
    refine zr_i2l C (zo_133 (p := 11) (zby_w zwX9_state_0 11 rfl)) ?_
    refine zr_lconst C (0 : Int64) (zo_9 (p := 12) (zby_w zwX9_state_0 12 rfl)) (by decide) ?_
    refine zr_ldc2 C (v := (2 : Int64)) cl_X9_102 (zo_20 (p := 13) (k := 102) (a := 0) (b := 102) (zby_w zwX9_state_0 13 rfl) (zby_w zwX9_state_0 14 rfl) (zby_w zwX9_state_0 15 rfl) (by decide)) ?_
    refine zr_cip (zr_runS (As := [.long (p2.toInt64), .long (0 : Int64), .long (2 : Int64)]) (rest := []) C sw_X9_89 (c_X9_in l g (p2.toInt64) (0 : Int64) (2 : Int64) σ _ h) (by decide) (by decide) rfl rfl (Nat.le_of_ble_eq_true rfl) (zo_184 (p := 16) (k := 89) (a := 0) (b := 89) (zby_w zwX9_state_0 16 rfl) (zby_w zwX9_state_0 17 rfl) (zby_w zwX9_state_0 18 rfl) (by decide))) (fun r4 h => ?_)
    refine zr_if_eq C 31 (zo_153 (p := 19) (k := 12) (a := 0) (b := 12) (zby_w zwX9_state_0 19 rfl) (zby_w zwX9_state_0 20 rfl) (zby_w zwX9_state_0 21 rfl) (by decide)) (by decide) (fun hc6 => ?_) (fun hc6 => ?_)
    · rw [if_pos hc6] at h
      refine zr_bipush C (-2 : Int32) (zo_16 (p := 31) (k := (-2)) (a := 254) (zby_w zwX9_state_0 31 rfl) (zby_w zwX9_state_0 32 rfl) (by decide)) (by decide) ?_
      exact hret _ _ _ h d_X9_state_33
    · rw [if_neg hc6] at h
      refine zr_aload_n C (zo_42 (p := 22) (zby_w zwX9_state_0 22 rfl)) rfl ?_
      refine zr_iload_n C (zo_27 (p := 23) (zby_w zwX9_state_0 23 rfl)) rfl ?_
      refine zr_iload_n C (zo_28 (p := 24) (zby_w zwX9_state_0 24 rfl)) rfl ?_
      refine zr_cip (zr_runV (As := [.int p1, .int p2]) (rest := []) C vw_X9_202 (c_X9_stateOf l g p1 p2 σ _ h) (sh_69) rfl (by decide) (by decide) rfl rfl (Nat.le_of_ble_eq_true rfl) (zo_182 (p := 25) (k := 202) (a := 0) (b := 202) (zby_w zwX9_state_0 25 rfl) (zby_w zwX9_state_0 26 rfl) (zby_w zwX9_state_0 27 rfl) (by decide))) (fun r7 h => ?_)
      refine zr_goto C 33 (zo_167 (p := 28) (k := 5) (a := 0) (b := 5) (zby_w zwX9_state_0 28 rfl) (zby_w zwX9_state_0 29 rfl) (zby_w zwX9_state_0 30 rfl) (by decide)) (by decide) ?_
      exact hret _ _ _ h d_X9_state_33
  · rw [if_pos hc3] at h
    refine zr_iconst C (-1 : Int32) (zo_2 (p := 8) (zby_w zwX9_state_0 8 rfl)) (by decide) ?_
    exact hret _ _ _ h (zo_172 (p := 9) (zby_w zwX9_state_0 9 rfl))
set_option maxRecDepth 20000 in
theorem c_X9_state (l : Launch) (g : zG) (p1 : Int32) (p2 : Int32) (σ : zST) (Post : Int32 → Prop) (h : wp_X9_state p1 p2 σ Post) : Met l yX9_state (Cond.code yX9_state cX9_state 3 (some .int) :: zGW) (zRm 3 66) (va_Pc [.ref (g.2.1 69), .int p1, .int p2] (zPP g σ)) (va_Qi (fun r u => Post r ∧ u = σ) (zBB g) (zA g)) 0 0 (zA g) :=
  zMet (by decide) (Nat.le_of_ble_eq_true rfl) (fun p e s m below meth c hr C => g_X9_state C (fun v pc lv hp hd => zr_iret C hr ⟨hp, rfl⟩ hd) h)
def wp_X9_behind (p1 : Int32) (p2 : Int32) (σ : zST) (Post : Int32 → zST → Prop) : Prop := wp_X9_isShip p1 σ (fun r1 => (if r1 = (0) then Post (-1 : Int32) σ else wp_X9_in (p2.toInt64) (0 : Int64) (2 : Int64) σ (fun r4 => (if r4 = (0) then Post (-2 : Int32) σ else wp_X9_faultOfSeason σ (fun r7 => (if r7 < (0) then wp_X9_keepNow σ (fun σ11 => wp_X9_goSeason σ11 (fun σ13 => wp_X9_stateOf p1 p2 σ13 (fun r14 => wp_X9_putBack σ13 (fun σ17 => ∀ z19 : Int32, z19 = (if (σ17.1 69 29) < (0) then r14 else (-5 : Int32)) → Post z19 σ17)))) else Post (-5 : Int32) σ))))))
set_option maxRecDepth 100000 in
set_option maxHeartbeats 4000000 in
theorem g_X9_behind {p : Program} {l : Launch} {e : Env} {R : Room} {s : State} {m : MethodId} {args : Array Value} {below : List Frame} {meth : Method} {c : Code} {Q : State → Prop} {g : zG} {n1 n2 : Nat} (C : zCX p R s m args meth c g n1 n2 cX9_behind 4 RX9 5 111) {p1 : Int32} {p2 : Int32} {σ : zST} {Post : Int32 → zST → Prop} (hret : ∀ (v : Int32) (σ : zST) (pc : Nat) (lv : List (Nat × Value)), Post v σ → decode cX9_behind pc = .ok (.ireturn, 1) → zGG p l e R s m args below meth c Q g n1 n2 4 pc lv [.int v] σ) (h : wp_X9_behind p1 p2 σ Post) : zGG p l e R s m args below meth c Q g n1 n2 4 0 [(0, .ref (g.2.1 69)), (1, .int p1), (2, .int p2)] [] σ := by
  unfold wp_X9_behind at h
  refine zr_aload_n C (zo_42 (p := 0) (zby_w zwX9_behind_0 0 rfl)) rfl ?_
  refine zr_iload_n C (zo_27 (p := 1) (zby_w zwX9_behind_0 1 rfl)) rfl ?_
  refine zr_cip (zr_runV (As := [.int p1]) (rest := []) C vw_X9_112 (c_X9_isShip l g p1 σ _ h) (sh_69) rfl (by decide) (by decide) rfl rfl (Nat.le_of_ble_eq_true rfl) (zo_182 (p := 2) (k := 112) (a := 0) (b := 112) (zby_w zwX9_behind_0 2 rfl) (zby_w zwX9_behind_0 3 rfl) (zby_w zwX9_behind_0 4 rfl) (by decide))) (fun r1 h => ?_)
  refine zr_if_ne C 10 (zo_154 (p := 5) (k := 5) (a := 0) (b := 5) (zby_w zwX9_behind_0 5 rfl) (zby_w zwX9_behind_0 6 rfl) (zby_w zwX9_behind_0 7 rfl) (by decide)) (by decide) (fun hc3 => ?_) (fun hc3 => ?_)
  · rw [if_neg hc3] at h
    refine zr_iload_n C (zo_28 (p := 10) (zby_w zwX9_behind_0 10 rfl)) rfl ?_
    refine zr_i2l C (zo_133 (p := 11) (zby_w zwX9_behind_0 11 rfl)) ?_
    refine zr_lconst C (0 : Int64) (zo_9 (p := 12) (zby_w zwX9_behind_0 12 rfl)) (by decide) ?_
    refine zr_ldc2 C (v := (2 : Int64)) cl_X9_102 (zo_20 (p := 13) (k := 102) (a := 0) (b := 102) (zby_w zwX9_behind_0 13 rfl) (zby_w zwX9_behind_0 14 rfl) (zby_w zwX9_behind_0 15 rfl) (by decide)) ?_
    refine zr_cip (zr_runS (As := [.long (p2.toInt64), .long (0 : Int64), .long (2 : Int64)]) (rest := []) C sw_X9_89 (c_X9_in l g (p2.toInt64) (0 : Int64) (2 : Int64) σ _ h) (by decide) (by decide) rfl rfl (Nat.le_of_ble_eq_true rfl) (zo_184 (p := 16) (k := 89) (a := 0) (b := 89) (zby_w zwX9_behind_0 16 rfl) (zby_w zwX9_behind_0 17 rfl) (zby_w zwX9_behind_0 18 rfl) (by decide))) (fun r4 h => ?_)
    refine zr_if_ne C 25 (zo_154 (p := 19) (k := 6) (a := 0) (b := 6) (zby_w zwX9_behind_0 19 rfl) (zby_w zwX9_behind_0 20 rfl) (zby_w zwX9_behind_0 21 rfl) (by decide)) (by decide) (fun hc6 => ?_) (fun hc6 => ?_)
    · rw [if_neg hc6] at h
      refine zr_aload_n C (zo_42 (p := 25) (zby_w zwX9_behind_0 25 rfl)) rfl ?_
      refine zr_cip (zr_runV (As := []) (rest := []) C vw_X9_145 (c_X9_faultOfSeason l g σ _ h) (sh_69) rfl (by decide) (by decide) rfl rfl (Nat.le_of_ble_eq_true rfl) (zo_182 (p := 26) (k := 145) (a := 0) (b := 145) (zby_w zwX9_behind_0 26 rfl) (zby_w zwX9_behind_0 27 rfl) (zby_w zwX9_behind_0 28 rfl) (by decide))) (fun r7 h => ?_)
      refine zr_if_lt C 35 (zo_155 (p := 29) (k := 6) (a := 0) (b := 6) (zby_w zwX9_behind_0 29 rfl) (zby_w zwX9_behind_0 30 rfl) (zby_w zwX9_behind_0 31 rfl) (by decide)) (by decide) (fun hc9 => ?_) (fun hc9 => ?_)
      · rw [if_pos hc9] at h
        refine zr_aload_n C (zo_42 (p := 35) (zby_w zwX9_behind_1 3 rfl)) rfl ?_
        refine zr_cv (zr_runV (As := []) (rest := []) C vw_X9_193 (c_X9_keepNow l g σ _ h) (sh_69) rfl (by decide) (by decide) rfl rfl (Nat.le_of_ble_eq_true rfl) (zo_182 (p := 36) (k := 193) (a := 0) (b := 193) (zby_w zwX9_behind_1 4 rfl) (zby_w zwX9_behind_1 5 rfl) (zby_w zwX9_behind_1 6 rfl) (by decide))) (fun σ11 h => ?_)
        refine zr_aload_n C (zo_42 (p := 39) (zby_w zwX9_behind_1 7 rfl)) rfl ?_
        refine zr_cv (zr_runV (As := []) (rest := []) C vw_X9_196 (c_X9_goSeason l g σ11 _ h) (sh_69) rfl (by decide) (by decide) rfl rfl (Nat.le_of_ble_eq_true rfl) (zo_182 (p := 40) (k := 196) (a := 0) (b := 196) (zby_w zwX9_behind_1 8 rfl) (zby_w zwX9_behind_1 9 rfl) (zby_w zwX9_behind_1 10 rfl) (by decide))) (fun σ13 h => ?_)
        refine zr_aload_n C (zo_42 (p := 43) (zby_w zwX9_behind_1 11 rfl)) rfl ?_
        refine zr_iload_n C (zo_27 (p := 44) (zby_w zwX9_behind_1 12 rfl)) rfl ?_
        refine zr_iload_n C (zo_28 (p := 45) (zby_w zwX9_behind_1 13 rfl)) rfl ?_
        refine zr_cip (zr_runV (As := [.int p1, .int p2]) (rest := []) C vw_X9_202 (c_X9_stateOf l g p1 p2 σ13 _ h) (sh_69) rfl (by decide) (by decide) rfl rfl (Nat.le_of_ble_eq_true rfl) (zo_182 (p := 46) (k := 202) (a := 0) (b := 202) (zby_w zwX9_behind_1 14 rfl) (zby_w zwX9_behind_1 15 rfl) (zby_w zwX9_behind_1 16 rfl) (by decide))) (fun r14 h => ?_)
        refine zr_istore_n C [(3, .int r14), (0, .ref (g.2.1 69)), (1, .int p1), (2, .int p2)] (zo_62 (p := 49) (zby_w zwX9_behind_1 17 rfl)) (by decide) rfl ?_
        refine zr_aload_n C (zo_42 (p := 50) (zby_w zwX9_behind_1 18 rfl)) rfl ?_
        refine zr_cv (zr_runV (As := []) (rest := []) C vw_X9_199 (c_X9_putBack l g σ13 _ h) (sh_69) rfl (by decide) (by decide) rfl rfl (Nat.le_of_ble_eq_true rfl) (zo_182 (p := 51) (k := 199) (a := 0) (b := 199) (zby_w zwX9_behind_1 19 rfl) (zby_w zwX9_behind_1 20 rfl) (zby_w zwX9_behind_1 21 rfl) (by decide))) (fun σ17 h => ?_)
        refine zr_aload_n C (zo_42 (p := 54) (zby_w zwX9_behind_1 22 rfl)) rfl ?_
        refine zr_geti C fw_X9_175 (sh_69) rfl (zo_180 (p := 55) (k := 175) (a := 0) (b := 175) (zby_w zwX9_behind_1 23 rfl) (zby_w zwX9_behind_1 24 rfl) (zby_w zwX9_behind_1 25 rfl) (by decide)) ?_
        have hJ20 : ∀ z19 : Int32, z19 = (if (σ17.1 69 29) < (0) then r14 else (-5 : Int32)) → zGG p l e R s m args below meth c Q g n1 n2 4 67 [(3, .int r14), (0, .ref (g.2.1 69)), (1, .int p1), (2, .int p2)] [.int z19] σ17 := by
          intro z19 hz19
          replace h := h z19 hz19
          exact hret _ _ _ _ h (zo_172 (p := 67) (zby_w zwX9_behind_2 3 rfl))
        refine zr_if_lt C 66 (zo_155 (p := 58) (k := 8) (a := 0) (b := 8) (zby_w zwX9_behind_1 26 rfl) (zby_w zwX9_behind_1 27 rfl) (zby_w zwX9_behind_1 28 rfl) (by decide)) (by decide) (fun hc18 => ?_) (fun hc18 => ?_)
        · skip
          refine zr_iload_n C (zo_29 (p := 66) (zby_w zwX9_behind_2 2 rfl)) rfl ?_
          exact hJ20 _ (by rw [if_pos hc18])
        · skip
          refine zr_bipush C (-5 : Int32) (zo_16 (p := 61) (k := (-5)) (a := 251) (zby_w zwX9_behind_1 29 rfl) (zby_w zwX9_behind_1 30 rfl) (by decide)) (by decide) ?_
          refine zr_goto C 67 (zo_167 (p := 63) (k := 4) (a := 0) (b := 4) (zby_w zwX9_behind_1 31 rfl) (zby_w zwX9_behind_1 32 rfl) (zby_w zwX9_behind_1 33 rfl) (by decide)) (by decide) ?_
          exact hJ20 _ (by rw [if_neg hc18])
      · rw [if_neg hc9] at h
        refine zr_bipush C (-5 : Int32) (zo_16 (p := 32) (k := (-5)) (a := 251) (zby_w zwX9_behind_1 0 rfl) (zby_w zwX9_behind_1 1 rfl) (by decide)) (by decide) ?_
        exact hret _ _ _ _ h (zo_172 (p := 34) (zby_w zwX9_behind_1 2 rfl))
    · rw [if_pos hc6] at h
      refine zr_bipush C (-2 : Int32) (zo_16 (p := 22) (k := (-2)) (a := 254) (zby_w zwX9_behind_0 22 rfl) (zby_w zwX9_behind_0 23 rfl) (by decide)) (by decide) ?_
      exact hret _ _ _ _ h (zo_172 (p := 24) (zby_w zwX9_behind_0 24 rfl))
  · rw [if_pos hc3] at h
    refine zr_iconst C (-1 : Int32) (zo_2 (p := 8) (zby_w zwX9_behind_0 8 rfl)) (by decide) ?_
    exact hret _ _ _ _ h (zo_172 (p := 9) (zby_w zwX9_behind_0 9 rfl))
set_option maxRecDepth 20000 in
theorem c_X9_behind (l : Launch) (g : zG) (p1 : Int32) (p2 : Int32) (σ : zST) (Post : Int32 → zST → Prop) (h : wp_X9_behind p1 p2 σ Post) : Met l yX9_behind (Cond.code yX9_behind cX9_behind 4 (some .int) :: zGW) (zRm 5 111) (va_Pc [.ref (g.2.1 69), .int p1, .int p2] (zPP g σ)) (va_Qi Post (zBB g) (zA g)) 0 0 (zA g) :=
  zMet (by decide) (Nat.le_of_ble_eq_true rfl) (fun p e s m below meth c hr C => g_X9_behind C (fun v σ pc lv hp hd => zr_iret C hr hp hd) h)
def wp_X9_done (σ : zST) (Post : Int32 → zST → Prop) : Prop := wp_X9_faultOfSeason σ (fun r1 => (if r1 < (0) then wp_X9_keepNow σ (fun σ5 => wp_X9_goSeason σ5 (fun σ7 => (if (σ7.1 69 29) < (0) then ∀ σ9 : zST, σ9 = (wI σ7 69 27 (0 : Int32)) → Post (σ9.1 69 31) σ9 else wp_X9_putBack σ7 (fun σ11 => Post (-5 : Int32) σ11)))) else Post (-5 : Int32) σ))
set_option maxRecDepth 100000 in
set_option maxHeartbeats 4000000 in
theorem g_X9_done {p : Program} {l : Launch} {e : Env} {R : Room} {s : State} {m : MethodId} {args : Array Value} {below : List Frame} {meth : Method} {c : Code} {Q : State → Prop} {g : zG} {n1 n2 : Nat} (C : zCX p R s m args meth c g n1 n2 cX9_done 1 RX9 5 111) {σ : zST} {Post : Int32 → zST → Prop} (hret : ∀ (v : Int32) (σ : zST) (pc : Nat) (lv : List (Nat × Value)), Post v σ → decode cX9_done pc = .ok (.ireturn, 1) → zGG p l e R s m args below meth c Q g n1 n2 1 pc lv [.int v] σ) (h : wp_X9_done σ Post) : zGG p l e R s m args below meth c Q g n1 n2 1 0 [(0, .ref (g.2.1 69))] [] σ := by
  unfold wp_X9_done at h
  refine zr_aload_n C (zo_42 (p := 0) (zby_w zwX9_done_0 0 rfl)) rfl ?_
  refine zr_cip (zr_runV (As := []) (rest := []) C vw_X9_145 (c_X9_faultOfSeason l g σ _ h) (sh_69) rfl (by decide) (by decide) rfl rfl (Nat.le_of_ble_eq_true rfl) (zo_182 (p := 1) (k := 145) (a := 0) (b := 145) (zby_w zwX9_done_0 1 rfl) (zby_w zwX9_done_0 2 rfl) (zby_w zwX9_done_0 3 rfl) (by decide))) (fun r1 h => ?_)
  refine zr_if_lt C 10 (zo_155 (p := 4) (k := 6) (a := 0) (b := 6) (zby_w zwX9_done_0 4 rfl) (zby_w zwX9_done_0 5 rfl) (zby_w zwX9_done_0 6 rfl) (by decide)) (by decide) (fun hc3 => ?_) (fun hc3 => ?_)
  · rw [if_pos hc3] at h
    refine zr_aload_n C (zo_42 (p := 10) (zby_w zwX9_done_0 10 rfl)) rfl ?_
    refine zr_cv (zr_runV (As := []) (rest := []) C vw_X9_193 (c_X9_keepNow l g σ _ h) (sh_69) rfl (by decide) (by decide) rfl rfl (Nat.le_of_ble_eq_true rfl) (zo_182 (p := 11) (k := 193) (a := 0) (b := 193) (zby_w zwX9_done_0 11 rfl) (zby_w zwX9_done_0 12 rfl) (zby_w zwX9_done_0 13 rfl) (by decide))) (fun σ5 h => ?_)
    refine zr_aload_n C (zo_42 (p := 14) (zby_w zwX9_done_0 14 rfl)) rfl ?_
    refine zr_cv (zr_runV (As := []) (rest := []) C vw_X9_196 (c_X9_goSeason l g σ5 _ h) (sh_69) rfl (by decide) (by decide) rfl rfl (Nat.le_of_ble_eq_true rfl) (zo_182 (p := 15) (k := 196) (a := 0) (b := 196) (zby_w zwX9_done_0 15 rfl) (zby_w zwX9_done_0 16 rfl) (zby_w zwX9_done_0 17 rfl) (by decide))) (fun σ7 h => ?_)
    refine zr_aload_n C (zo_42 (p := 18) (zby_w zwX9_done_0 18 rfl)) rfl ?_
    refine zr_geti C fw_X9_175 (sh_69) rfl (zo_180 (p := 19) (k := 175) (a := 0) (b := 175) (zby_w zwX9_done_0 19 rfl) (zby_w zwX9_done_0 20 rfl) (zby_w zwX9_done_0 21 rfl) (by decide)) ?_
    refine zr_if_lt C 32 (zo_155 (p := 22) (k := 10) (a := 0) (b := 10) (zby_w zwX9_done_0 22 rfl) (zby_w zwX9_done_0 23 rfl) (zby_w zwX9_done_0 24 rfl) (by decide)) (by decide) (fun hc8 => ?_) (fun hc8 => ?_)
    · rw [if_pos hc8] at h
      refine zr_aload_n C (zo_42 (p := 32) (zby_w zwX9_done_1 0 rfl)) rfl ?_
      refine zr_iconst C (0 : Int32) (zo_3 (p := 33) (zby_w zwX9_done_1 1 rfl)) (by decide) ?_
      refine zr_puti C fw_X9_130 pw_X9_27 (sh_69) rfl rfl rfl (zo_181 (p := 34) (k := 130) (a := 0) (b := 130) (zby_w zwX9_done_1 2 rfl) (zby_w zwX9_done_1 3 rfl) (zby_w zwX9_done_1 4 rfl) (by decide)) ?_
      refine zr_aload_n C (zo_42 (p := 37) (zby_w zwX9_done_1 5 rfl)) rfl ?_
      refine zr_tops (fun σ9 hσ9 => ?_)
      replace h := h σ9 hσ9
      refine zr_geti C fw_X9_172 (sh_69) rfl (zo_180 (p := 38) (k := 172) (a := 0) (b := 172) (zby_w zwX9_done_1 6 rfl) (zby_w zwX9_done_1 7 rfl) (zby_w zwX9_done_1 8 rfl) (by decide)) ?_
      exact hret _ _ _ _ h (zo_172 (p := 41) (zby_w zwX9_done_1 9 rfl))
    · rw [if_neg hc8] at h
      refine zr_aload_n C (zo_42 (p := 25) (zby_w zwX9_done_0 25 rfl)) rfl ?_
      refine zr_cv (zr_runV (As := []) (rest := []) C vw_X9_199 (c_X9_putBack l g σ7 _ h) (sh_69) rfl (by decide) (by decide) rfl rfl (Nat.le_of_ble_eq_true rfl) (zo_182 (p := 26) (k := 199) (a := 0) (b := 199) (zby_w zwX9_done_0 26 rfl) (zby_w zwX9_done_0 27 rfl) (zby_w zwX9_done_0 28 rfl) (by decide))) (fun σ11 h => ?_)
      refine zr_bipush C (-5 : Int32) (zo_16 (p := 29) (k := (-5)) (a := 251) (zby_w zwX9_done_0 29 rfl) (zby_w zwX9_done_0 30 rfl) (by decide)) (by decide) ?_
      exact hret _ _ _ _ h (zo_172 (p := 31) (zby_w zwX9_done_0 31 rfl))
  · rw [if_neg hc3] at h
    refine zr_bipush C (-5 : Int32) (zo_16 (p := 7) (k := (-5)) (a := 251) (zby_w zwX9_done_0 7 rfl) (zby_w zwX9_done_0 8 rfl) (by decide)) (by decide) ?_
    exact hret _ _ _ _ h (zo_172 (p := 9) (zby_w zwX9_done_0 9 rfl))
set_option maxRecDepth 20000 in
theorem c_X9_done (l : Launch) (g : zG) (σ : zST) (Post : Int32 → zST → Prop) (h : wp_X9_done σ Post) : Met l yX9_done (Cond.code yX9_done cX9_done 1 (some .int) :: zGW) (zRm 5 111) (va_Pc [.ref (g.2.1 69)] (zPP g σ)) (va_Qi Post (zBB g) (zA g)) 0 0 (zA g) :=
  zMet (by decide) (Nat.le_of_ble_eq_true rfl) (fun p e s m below meth c hr C => g_X9_done C (fun v σ pc lv hp hd => zr_iret C hr hp hd) h)
def wp_X9_sum (p1 : Int32) (σ : zST) (Post : Int32 → Prop) : Prop := ∀ z2 : Int32, z2 = (if p1 = (0) then (σ.1 69 15) else (if p1 = (1 : Int32) then (σ.1 69 16) else (if p1 = (2 : Int32) then (σ.1 69 17) else (-2 : Int32)))) → Post z2
set_option maxRecDepth 100000 in
set_option maxHeartbeats 4000000 in
theorem g_X9_sum {p : Program} {l : Launch} {e : Env} {R : Room} {s : State} {m : MethodId} {args : Array Value} {below : List Frame} {meth : Method} {c : Code} {Q : State → Prop} {g : zG} {n1 n2 : Nat} (C : zCX p R s m args meth c g n1 n2 cX9_sum 2 RX9 0 0) {p1 : Int32} {σ : zST} {Post : Int32 → Prop} (hret : ∀ (v : Int32) (pc : Nat) (lv : List (Nat × Value)), Post v → decode cX9_sum pc = .ok (.ireturn, 1) → zGG p l e R s m args below meth c Q g n1 n2 2 pc lv [.int v] σ) (h : wp_X9_sum p1 σ Post) : zGG p l e R s m args below meth c Q g n1 n2 2 0 [(0, .ref (g.2.1 69)), (1, .int p1)] [] σ := by
  unfold wp_X9_sum at h
  refine zr_iload_n C (zo_27 (p := 0) (zby_w zwX9_sum_0 0 rfl)) rfl ?_
  have hJ3 : ∀ z2 : Int32, z2 = (if p1 = (0) then (σ.1 69 15) else (if p1 = (1 : Int32) then (σ.1 69 16) else (if p1 = (2 : Int32) then (σ.1 69 17) else (-2 : Int32)))) → zGG p l e R s m args below meth c Q g n1 n2 2 37 [(0, .ref (g.2.1 69)), (1, .int p1)] [.int z2] σ := by
    intro z2 hz2
    replace h := h z2 hz2
    exact hret _ _ _ h (zo_172 (p := 37) (zby_w zwX9_sum_1 5 rfl))
  refine zr_if_ne C 11 (zo_154 (p := 1) (k := 10) (a := 0) (b := 10) (zby_w zwX9_sum_0 1 rfl) (zby_w zwX9_sum_0 2 rfl) (zby_w zwX9_sum_0 3 rfl) (by decide)) (by decide) (fun hc1 => ?_) (fun hc1 => ?_)
  · skip
    refine zr_iload_n C (zo_27 (p := 11) (zby_w zwX9_sum_0 11 rfl)) rfl ?_
    refine zr_iconst C (1 : Int32) (zo_4 (p := 12) (zby_w zwX9_sum_0 12 rfl)) (by decide) ?_
    refine zr_icmp_ne C 23 (zo_160 (p := 13) (k := 10) (a := 0) (b := 10) (zby_w zwX9_sum_0 13 rfl) (zby_w zwX9_sum_0 14 rfl) (zby_w zwX9_sum_0 15 rfl) (by decide)) (by decide) (fun hc5 => ?_) (fun hc5 => ?_)
    · skip
      refine zr_iload_n C (zo_27 (p := 23) (zby_w zwX9_sum_0 23 rfl)) rfl ?_
      refine zr_iconst C (2 : Int32) (zo_5 (p := 24) (zby_w zwX9_sum_0 24 rfl)) (by decide) ?_
      refine zr_icmp_ne C 35 (zo_160 (p := 25) (k := 10) (a := 0) (b := 10) (zby_w zwX9_sum_0 25 rfl) (zby_w zwX9_sum_0 26 rfl) (zby_w zwX9_sum_0 27 rfl) (by decide)) (by decide) (fun hc6 => ?_) (fun hc6 => ?_)
      · skip
        refine zr_bipush C (-2 : Int32) (zo_16 (p := 35) (k := (-2)) (a := 254) (zby_w zwX9_sum_1 3 rfl) (zby_w zwX9_sum_1 4 rfl) (by decide)) (by decide) ?_
        exact hJ3 _ (by rw [if_neg hc1, if_neg hc5, if_neg hc6])
      · skip
        refine zr_aload_n C (zo_42 (p := 28) (zby_w zwX9_sum_0 28 rfl)) rfl ?_
        refine zr_geti C fw_X9_166 (sh_69) rfl (zo_180 (p := 29) (k := 166) (a := 0) (b := 166) (zby_w zwX9_sum_0 29 rfl) (zby_w zwX9_sum_0 30 rfl) (zby_w zwX9_sum_0 31 rfl) (by decide)) ?_
        refine zr_goto C 37 (zo_167 (p := 32) (k := 5) (a := 0) (b := 5) (zby_w zwX9_sum_1 0 rfl) (zby_w zwX9_sum_1 1 rfl) (zby_w zwX9_sum_1 2 rfl) (by decide)) (by decide) ?_
        exact hJ3 _ (by rw [if_neg hc1, if_neg hc5, if_pos hc6])
    · skip
      refine zr_aload_n C (zo_42 (p := 16) (zby_w zwX9_sum_0 16 rfl)) rfl ?_
      refine zr_geti C fw_X9_154 (sh_69) rfl (zo_180 (p := 17) (k := 154) (a := 0) (b := 154) (zby_w zwX9_sum_0 17 rfl) (zby_w zwX9_sum_0 18 rfl) (zby_w zwX9_sum_0 19 rfl) (by decide)) ?_
      refine zr_goto C 37 (zo_167 (p := 20) (k := 17) (a := 0) (b := 17) (zby_w zwX9_sum_0 20 rfl) (zby_w zwX9_sum_0 21 rfl) (zby_w zwX9_sum_0 22 rfl) (by decide)) (by decide) ?_
      exact hJ3 _ (by rw [if_neg hc1, if_pos hc5])
  · skip
    refine zr_aload_n C (zo_42 (p := 4) (zby_w zwX9_sum_0 4 rfl)) rfl ?_
    refine zr_geti C fw_X9_151 (sh_69) rfl (zo_180 (p := 5) (k := 151) (a := 0) (b := 151) (zby_w zwX9_sum_0 5 rfl) (zby_w zwX9_sum_0 6 rfl) (zby_w zwX9_sum_0 7 rfl) (by decide)) ?_
    refine zr_goto C 37 (zo_167 (p := 8) (k := 29) (a := 0) (b := 29) (zby_w zwX9_sum_0 8 rfl) (zby_w zwX9_sum_0 9 rfl) (zby_w zwX9_sum_0 10 rfl) (by decide)) (by decide) ?_
    exact hJ3 _ (by rw [if_pos hc1])
set_option maxRecDepth 20000 in
theorem c_X9_sum (l : Launch) (g : zG) (p1 : Int32) (σ : zST) (Post : Int32 → Prop) (h : wp_X9_sum p1 σ Post) : Met l yX9_sum (Cond.code yX9_sum cX9_sum 2 (some .int) :: zGW) (zRm 0 0) (va_Pc [.ref (g.2.1 69), .int p1] (zPP g σ)) (va_Qi (fun r u => Post r ∧ u = σ) (zBB g) (zA g)) 0 0 (zA g) :=
  zMet (by decide) (Nat.le_of_ble_eq_true rfl) (fun p e s m below meth c hr C => g_X9_sum C (fun v pc lv hp hd => zr_iret C hr ⟨hp, rfl⟩ hd) h)
def wp_X9_allOf (p1 : Int32) (σ : zST) (Post : Int32 → Prop) : Prop := vp_in p1 6 ∧ vp_in p1 6 ∧ Post (((σ.1 69 6) * (σ.1 70 p1.toNatClampNeg)) + (σ.1 72 p1.toNatClampNeg))
set_option maxRecDepth 100000 in
set_option maxHeartbeats 4000000 in
theorem g_X9_allOf {p : Program} {l : Launch} {e : Env} {R : Room} {s : State} {m : MethodId} {args : Array Value} {below : List Frame} {meth : Method} {c : Code} {Q : State → Prop} {g : zG} {n1 n2 : Nat} (C : zCX p R s m args meth c g n1 n2 cX9_allOf 2 RX9 0 0) {p1 : Int32} {σ : zST} {Post : Int32 → Prop} (hret : ∀ (v : Int32) (pc : Nat) (lv : List (Nat × Value)), Post v → decode cX9_allOf pc = .ok (.ireturn, 1) → zGG p l e R s m args below meth c Q g n1 n2 2 pc lv [.int v] σ) (h : wp_X9_allOf p1 σ Post) : zGG p l e R s m args below meth c Q g n1 n2 2 0 [(0, .ref (g.2.1 69)), (1, .int p1)] [] σ := by
  unfold wp_X9_allOf at h
  refine zr_aload_n C (zo_42 (p := 0) (zby_w zwX9_allOf_0 0 rfl)) rfl ?_
  refine zr_geti C fw_X9_66 (sh_69) rfl (zo_180 (p := 1) (k := 66) (a := 0) (b := 66) (zby_w zwX9_allOf_0 1 rfl) (zby_w zwX9_allOf_0 2 rfl) (zby_w zwX9_allOf_0 3 rfl) (by decide)) ?_
  refine zr_aload_n C (zo_42 (p := 4) (zby_w zwX9_allOf_0 4 rfl)) rfl ?_
  refine zr_getr (u := 70) C fw_X9_7 (sh_69) rfl (zo_180 (p := 5) (k := 7) (a := 0) (b := 7) (zby_w zwX9_allOf_0 5 rfl) (zby_w zwX9_allOf_0 6 rfl) (zby_w zwX9_allOf_0 7 rfl) (by decide)) ?_
  refine zr_iload_n C (zo_27 (p := 8) (zby_w zwX9_allOf_0 8 rfl)) rfl ?_
  obtain ⟨ho1, h⟩ := h
  refine zr_iald C (sh_70) ho1 (zo_46 (p := 9) (zby_w zwX9_allOf_0 9 rfl)) ?_
  refine zr_imul C (zo_104 (p := 10) (zby_w zwX9_allOf_0 10 rfl)) ?_
  refine zr_aload_n C (zo_42 (p := 11) (zby_w zwX9_allOf_0 11 rfl)) rfl ?_
  refine zr_getr (u := 72) C fw_X9_16 (sh_69) rfl (zo_180 (p := 12) (k := 16) (a := 0) (b := 16) (zby_w zwX9_allOf_0 12 rfl) (zby_w zwX9_allOf_0 13 rfl) (zby_w zwX9_allOf_0 14 rfl) (by decide)) ?_
  refine zr_iload_n C (zo_27 (p := 15) (zby_w zwX9_allOf_0 15 rfl)) rfl ?_
  obtain ⟨ho2, h⟩ := h
  refine zr_iald C (sh_72) ho2 (zo_46 (p := 16) (zby_w zwX9_allOf_0 16 rfl)) ?_
  refine zr_iadd C (zo_96 (p := 17) (zby_w zwX9_allOf_0 17 rfl)) ?_
  exact hret _ _ _ h (zo_172 (p := 18) (zby_w zwX9_allOf_0 18 rfl))
set_option maxRecDepth 20000 in
theorem c_X9_allOf (l : Launch) (g : zG) (p1 : Int32) (σ : zST) (Post : Int32 → Prop) (h : wp_X9_allOf p1 σ Post) : Met l yX9_allOf (Cond.code yX9_allOf cX9_allOf 2 (some .int) :: zGW) (zRm 0 0) (va_Pc [.ref (g.2.1 69), .int p1] (zPP g σ)) (va_Qi (fun r u => Post r ∧ u = σ) (zBB g) (zA g)) 0 0 (zA g) :=
  zMet (by decide) (Nat.le_of_ble_eq_true rfl) (fun p e s m below meth c hr C => g_X9_allOf C (fun v pc lv hp hd => zr_iret C hr ⟨hp, rfl⟩ hd) h)
def wp_X9_teethTake (p1 : Int32) (σ : zST) (Post : Int32 → Prop) : Prop := wp_X9_lostByTeeth p1 σ (fun r1 => vp_in p1 6 ∧ (if r1 = (σ.1 70 p1.toNatClampNeg) then vp_in p1 6 ∧ True else True) ∧ ∀ z5 : Int32, z5 = (if r1 = (σ.1 70 p1.toNatClampNeg) then (σ.1 72 p1.toNatClampNeg) else (0 : Int32)) → Post (((σ.1 69 6) * r1) + z5))
set_option maxRecDepth 100000 in
set_option maxHeartbeats 4000000 in
theorem g_X9_teethTake {p : Program} {l : Launch} {e : Env} {R : Room} {s : State} {m : MethodId} {args : Array Value} {below : List Frame} {meth : Method} {c : Code} {Q : State → Prop} {g : zG} {n1 n2 : Nat} (C : zCX p R s m args meth c g n1 n2 cX9_teethTake 3 RX9 1 22) {p1 : Int32} {σ : zST} {Post : Int32 → Prop} (hret : ∀ (v : Int32) (pc : Nat) (lv : List (Nat × Value)), Post v → decode cX9_teethTake pc = .ok (.ireturn, 1) → zGG p l e R s m args below meth c Q g n1 n2 3 pc lv [.int v] σ) (h : wp_X9_teethTake p1 σ Post) : zGG p l e R s m args below meth c Q g n1 n2 3 0 [(0, .ref (g.2.1 69)), (1, .int p1)] [] σ := by
  unfold wp_X9_teethTake at h
  refine zr_aload_n C (zo_42 (p := 0) (zby_w zwX9_teethTake_0 0 rfl)) rfl ?_
  refine zr_iload_n C (zo_27 (p := 1) (zby_w zwX9_teethTake_0 1 rfl)) rfl ?_
  refine zr_cip (zr_runV (As := [.int p1]) (rest := []) C vw_X9_148 (c_X9_lostByTeeth l g p1 σ _ h) (sh_69) rfl (by decide) (by decide) rfl rfl (Nat.le_of_ble_eq_true rfl) (zo_182 (p := 2) (k := 148) (a := 0) (b := 148) (zby_w zwX9_teethTake_0 2 rfl) (zby_w zwX9_teethTake_0 3 rfl) (zby_w zwX9_teethTake_0 4 rfl) (by decide))) (fun r1 h => ?_)
  refine zr_istore_n C [(2, .int r1), (0, .ref (g.2.1 69)), (1, .int p1)] (zo_61 (p := 5) (zby_w zwX9_teethTake_0 5 rfl)) (by decide) rfl ?_
  refine zr_aload_n C (zo_42 (p := 6) (zby_w zwX9_teethTake_0 6 rfl)) rfl ?_
  refine zr_geti C fw_X9_66 (sh_69) rfl (zo_180 (p := 7) (k := 66) (a := 0) (b := 66) (zby_w zwX9_teethTake_0 7 rfl) (zby_w zwX9_teethTake_0 8 rfl) (zby_w zwX9_teethTake_0 9 rfl) (by decide)) ?_
  refine zr_iload_n C (zo_28 (p := 10) (zby_w zwX9_teethTake_0 10 rfl)) rfl ?_
  refine zr_imul C (zo_104 (p := 11) (zby_w zwX9_teethTake_0 11 rfl)) ?_
  refine zr_iload_n C (zo_28 (p := 12) (zby_w zwX9_teethTake_0 12 rfl)) rfl ?_
  refine zr_aload_n C (zo_42 (p := 13) (zby_w zwX9_teethTake_0 13 rfl)) rfl ?_
  refine zr_getr (u := 70) C fw_X9_7 (sh_69) rfl (zo_180 (p := 14) (k := 7) (a := 0) (b := 7) (zby_w zwX9_teethTake_0 14 rfl) (zby_w zwX9_teethTake_0 15 rfl) (zby_w zwX9_teethTake_0 16 rfl) (by decide)) ?_
  refine zr_iload_n C (zo_27 (p := 17) (zby_w zwX9_teethTake_0 17 rfl)) rfl ?_
  obtain ⟨ho3, h⟩ := h
  refine zr_iald C (sh_70) ho3 (zo_46 (p := 18) (zby_w zwX9_teethTake_0 18 rfl)) ?_
  obtain ⟨ho7, h⟩ := h
  have hJ6 : ∀ z5 : Int32, z5 = (if r1 = (σ.1 70 p1.toNatClampNeg) then (σ.1 72 p1.toNatClampNeg) else (0 : Int32)) → zGG p l e R s m args below meth c Q g n1 n2 3 32 [(2, .int r1), (0, .ref (g.2.1 69)), (1, .int p1)] [.int z5, .int ((σ.1 69 6) * r1)] σ := by
    intro z5 hz5
    replace h := h z5 hz5
    refine zr_iadd C (zo_96 (p := 32) (zby_w zwX9_teethTake_1 0 rfl)) ?_
    exact hret _ _ _ h (zo_172 (p := 33) (zby_w zwX9_teethTake_1 1 rfl))
  refine zr_icmp_ne C 31 (zo_160 (p := 19) (k := 12) (a := 0) (b := 12) (zby_w zwX9_teethTake_0 19 rfl) (zby_w zwX9_teethTake_0 20 rfl) (zby_w zwX9_teethTake_0 21 rfl) (by decide)) (by decide) (fun hc4 => ?_) (fun hc4 => ?_)
  · skip
    rw [if_neg hc4] at ho7
    refine zr_iconst C (0 : Int32) (zo_3 (p := 31) (zby_w zwX9_teethTake_0 31 rfl)) (by decide) ?_
    exact hJ6 _ (by rw [if_neg hc4])
  · skip
    rw [if_pos hc4] at ho7
    refine zr_aload_n C (zo_42 (p := 22) (zby_w zwX9_teethTake_0 22 rfl)) rfl ?_
    refine zr_getr (u := 72) C fw_X9_16 (sh_69) rfl (zo_180 (p := 23) (k := 16) (a := 0) (b := 16) (zby_w zwX9_teethTake_0 23 rfl) (zby_w zwX9_teethTake_0 24 rfl) (zby_w zwX9_teethTake_0 25 rfl) (by decide)) ?_
    refine zr_iload_n C (zo_27 (p := 26) (zby_w zwX9_teethTake_0 26 rfl)) rfl ?_
    obtain ⟨ho8, ho7⟩ := ho7
    refine zr_iald C (sh_72) ho8 (zo_46 (p := 27) (zby_w zwX9_teethTake_0 27 rfl)) ?_
    refine zr_goto C 32 (zo_167 (p := 28) (k := 4) (a := 0) (b := 4) (zby_w zwX9_teethTake_0 28 rfl) (zby_w zwX9_teethTake_0 29 rfl) (zby_w zwX9_teethTake_0 30 rfl) (by decide)) (by decide) ?_
    exact hJ6 _ (by rw [if_pos hc4])
set_option maxRecDepth 20000 in
theorem c_X9_teethTake (l : Launch) (g : zG) (p1 : Int32) (σ : zST) (Post : Int32 → Prop) (h : wp_X9_teethTake p1 σ Post) : Met l yX9_teethTake (Cond.code yX9_teethTake cX9_teethTake 3 (some .int) :: zGW) (zRm 1 22) (va_Pc [.ref (g.2.1 69), .int p1] (zPP g σ)) (va_Qi (fun r u => Post r ∧ u = σ) (zBB g) (zA g)) 0 0 (zA g) :=
  zMet (by decide) (Nat.le_of_ble_eq_true rfl) (fun p e s m below meth c hr C => g_X9_teethTake C (fun v pc lv hp hd => zr_iret C hr ⟨hp, rfl⟩ hd) h)
def wp_X9_meanOf (p1 : Int32) (p2 : Int32) (p3 : Int32) (σ : zST) (Post : Int32 → Prop) : Prop := (if p2 = (0) then wp_X9_teethTake p1 σ (fun r8 => Post ((10 : Int32) * r8)) else (if p2 = (1 : Int32) then wp_X9_tenths p3 σ (fun r4 => wp_X9_allOf p1 σ (fun r6 => Post (r4 * r6))) else vp_in p1 6 ∧ Post ((((10 : Int32) * (σ.1 69 7)) * (σ.1 69 8)) * (σ.1 70 p1.toNatClampNeg))))
set_option maxRecDepth 100000 in
set_option maxHeartbeats 4000000 in
theorem g_X9_meanOf {p : Program} {l : Launch} {e : Env} {R : Room} {s : State} {m : MethodId} {args : Array Value} {below : List Frame} {meth : Method} {c : Code} {Q : State → Prop} {g : zG} {n1 n2 : Nat} (C : zCX p R s m args meth c g n1 n2 cX9_meanOf 4 RX9 2 44) {p1 : Int32} {p2 : Int32} {p3 : Int32} {σ : zST} {Post : Int32 → Prop} (hret : ∀ (v : Int32) (pc : Nat) (lv : List (Nat × Value)), Post v → decode cX9_meanOf pc = .ok (.ireturn, 1) → zGG p l e R s m args below meth c Q g n1 n2 4 pc lv [.int v] σ) (h : wp_X9_meanOf p1 p2 p3 σ Post) : zGG p l e R s m args below meth c Q g n1 n2 4 0 [(0, .ref (g.2.1 69)), (1, .int p1), (2, .int p2), (3, .int p3)] [] σ := by
  unfold wp_X9_meanOf at h
  refine zr_iload_n C (zo_28 (p := 0) (zby_w zwX9_meanOf_0 0 rfl)) rfl ?_
  refine zr_if_ne C 15 (zo_154 (p := 1) (k := 14) (a := 0) (b := 14) (zby_w zwX9_meanOf_0 1 rfl) (zby_w zwX9_meanOf_0 2 rfl) (zby_w zwX9_meanOf_0 3 rfl) (by decide)) (by decide) (fun hc1 => ?_) (fun hc1 => ?_)
  · rw [if_neg hc1] at h
    refine zr_iload_n C (zo_28 (p := 15) (zby_w zwX9_meanOf_0 15 rfl)) rfl ?_
    refine zr_iconst C (1 : Int32) (zo_4 (p := 16) (zby_w zwX9_meanOf_0 16 rfl)) (by decide) ?_
    refine zr_icmp_ne C 34 (zo_160 (p := 17) (k := 17) (a := 0) (b := 17) (zby_w zwX9_meanOf_0 17 rfl) (zby_w zwX9_meanOf_0 18 rfl) (zby_w zwX9_meanOf_0 19 rfl) (by decide)) (by decide) (fun hc2 => ?_) (fun hc2 => ?_)
    · rw [if_neg hc2] at h
      refine zr_bipush C (10 : Int32) (zo_16 (p := 34) (k := 10) (a := 10) (zby_w zwX9_meanOf_1 2 rfl) (zby_w zwX9_meanOf_1 3 rfl) (by decide)) (by decide) ?_
      refine zr_aload_n C (zo_42 (p := 36) (zby_w zwX9_meanOf_1 4 rfl)) rfl ?_
      refine zr_geti C fw_X9_69 (sh_69) rfl (zo_180 (p := 37) (k := 69) (a := 0) (b := 69) (zby_w zwX9_meanOf_1 5 rfl) (zby_w zwX9_meanOf_1 6 rfl) (zby_w zwX9_meanOf_1 7 rfl) (by decide)) ?_
      refine zr_imul C (zo_104 (p := 40) (zby_w zwX9_meanOf_1 8 rfl)) ?_
      refine zr_aload_n C (zo_42 (p := 41) (zby_w zwX9_meanOf_1 9 rfl)) rfl ?_
      refine zr_geti C fw_X9_72 (sh_69) rfl (zo_180 (p := 42) (k := 72) (a := 0) (b := 72) (zby_w zwX9_meanOf_1 10 rfl) (zby_w zwX9_meanOf_1 11 rfl) (zby_w zwX9_meanOf_1 12 rfl) (by decide)) ?_
      refine zr_imul C (zo_104 (p := 45) (zby_w zwX9_meanOf_1 13 rfl)) ?_
      refine zr_aload_n C (zo_42 (p := 46) (zby_w zwX9_meanOf_1 14 rfl)) rfl ?_
      refine zr_getr (u := 70) C fw_X9_7 (sh_69) rfl (zo_180 (p := 47) (k := 7) (a := 0) (b := 7) (zby_w zwX9_meanOf_1 15 rfl) (zby_w zwX9_meanOf_1 16 rfl) (zby_w zwX9_meanOf_1 17 rfl) (by decide)) ?_
      refine zr_iload_n C (zo_27 (p := 50) (zby_w zwX9_meanOf_1 18 rfl)) rfl ?_
      obtain ⟨ho3, h⟩ := h
      refine zr_iald C (sh_70) ho3 (zo_46 (p := 51) (zby_w zwX9_meanOf_1 19 rfl)) ?_
      refine zr_imul C (zo_104 (p := 52) (zby_w zwX9_meanOf_1 20 rfl)) ?_
      exact hret _ _ _ h d_X9_meanOf_53
    · rw [if_pos hc2] at h
      refine zr_aload_n C (zo_42 (p := 20) (zby_w zwX9_meanOf_0 20 rfl)) rfl ?_
      refine zr_iload_n C (zo_29 (p := 21) (zby_w zwX9_meanOf_0 21 rfl)) rfl ?_
      refine zr_cip (zr_runV (As := [.int p3]) (rest := []) C vw_X9_163 (c_X9_tenths l g p3 σ _ h) (sh_69) rfl (by decide) (by decide) rfl rfl (Nat.le_of_ble_eq_true rfl) (zo_182 (p := 22) (k := 163) (a := 0) (b := 163) (zby_w zwX9_meanOf_0 22 rfl) (zby_w zwX9_meanOf_0 23 rfl) (zby_w zwX9_meanOf_0 24 rfl) (by decide))) (fun r4 h => ?_)
      refine zr_aload_n C (zo_42 (p := 25) (zby_w zwX9_meanOf_0 25 rfl)) rfl ?_
      refine zr_iload_n C (zo_27 (p := 26) (zby_w zwX9_meanOf_0 26 rfl)) rfl ?_
      refine zr_cip (zr_runV (As := [.int p1]) (rest := [.int r4]) C vw_X9_209 (c_X9_allOf l g p1 σ _ h) (sh_69) rfl (by decide) (by decide) rfl rfl (Nat.le_of_ble_eq_true rfl) (zo_182 (p := 27) (k := 209) (a := 0) (b := 209) (zby_w zwX9_meanOf_0 27 rfl) (zby_w zwX9_meanOf_0 28 rfl) (zby_w zwX9_meanOf_0 29 rfl) (by decide))) (fun r6 h => ?_)
      refine zr_imul C (zo_104 (p := 30) (zby_w zwX9_meanOf_0 30 rfl)) ?_
      refine zr_goto C 53 (zo_167 (p := 31) (k := 22) (a := 0) (b := 22) (zby_w zwX9_meanOf_0 31 rfl) (zby_w zwX9_meanOf_0 32 rfl) (zby_w zwX9_meanOf_0 33 rfl) (by decide)) (by decide) ?_
      exact hret _ _ _ h d_X9_meanOf_53
  · rw [if_pos hc1] at h
    refine zr_bipush C (10 : Int32) (zo_16 (p := 4) (k := 10) (a := 10) (zby_w zwX9_meanOf_0 4 rfl) (zby_w zwX9_meanOf_0 5 rfl) (by decide)) (by decide) ?_
    refine zr_aload_n C (zo_42 (p := 6) (zby_w zwX9_meanOf_0 6 rfl)) rfl ?_
    refine zr_iload_n C (zo_27 (p := 7) (zby_w zwX9_meanOf_0 7 rfl)) rfl ?_
    refine zr_cip (zr_runV (As := [.int p1]) (rest := [.int (10 : Int32)]) C vw_X9_206 (c_X9_teethTake l g p1 σ _ h) (sh_69) rfl (by decide) (by decide) rfl rfl (Nat.le_of_ble_eq_true rfl) (zo_182 (p := 8) (k := 206) (a := 0) (b := 206) (zby_w zwX9_meanOf_0 8 rfl) (zby_w zwX9_meanOf_0 9 rfl) (zby_w zwX9_meanOf_0 10 rfl) (by decide))) (fun r8 h => ?_)
    refine zr_imul C (zo_104 (p := 11) (zby_w zwX9_meanOf_0 11 rfl)) ?_
    refine zr_goto C 53 (zo_167 (p := 12) (k := 41) (a := 0) (b := 41) (zby_w zwX9_meanOf_0 12 rfl) (zby_w zwX9_meanOf_0 13 rfl) (zby_w zwX9_meanOf_0 14 rfl) (by decide)) (by decide) ?_
    exact hret _ _ _ h d_X9_meanOf_53
set_option maxRecDepth 20000 in
theorem c_X9_meanOf (l : Launch) (g : zG) (p1 : Int32) (p2 : Int32) (p3 : Int32) (σ : zST) (Post : Int32 → Prop) (h : wp_X9_meanOf p1 p2 p3 σ Post) : Met l yX9_meanOf (Cond.code yX9_meanOf cX9_meanOf 4 (some .int) :: zGW) (zRm 2 44) (va_Pc [.ref (g.2.1 69), .int p1, .int p2, .int p3] (zPP g σ)) (va_Qi (fun r u => Post r ∧ u = σ) (zBB g) (zA g)) 0 0 (zA g) :=
  zMet (by decide) (Nat.le_of_ble_eq_true rfl) (fun p e s m below meth c hr C => g_X9_meanOf C (fun v pc lv hp hd => zr_iret C hr ⟨hp, rfl⟩ hd) h)
def wp_X9_worstOf (p1 : Int32) (p2 : Int32) (p3 : Int32) (σ : zST) (Post : Int32 → Prop) : Prop := (if p2 = (0) then wp_X9_teethTake p1 σ (fun r9 => Post r9) else (if p2 = (1 : Int32) then wp_X9_tenths p3 σ (fun r4 => (if r4 ≤ (0) then Post (0 : Int32) else wp_X9_allOf p1 σ (fun r7 => Post r7))) else vp_in p1 6 ∧ Post (((σ.1 69 7) * (σ.1 69 8)) * (σ.1 70 p1.toNatClampNeg))))
set_option maxRecDepth 100000 in
set_option maxHeartbeats 4000000 in
theorem g_X9_worstOf {p : Program} {l : Launch} {e : Env} {R : Room} {s : State} {m : MethodId} {args : Array Value} {below : List Frame} {meth : Method} {c : Code} {Q : State → Prop} {g : zG} {n1 n2 : Nat} (C : zCX p R s m args meth c g n1 n2 cX9_worstOf 4 RX9 2 44) {p1 : Int32} {p2 : Int32} {p3 : Int32} {σ : zST} {Post : Int32 → Prop} (hret : ∀ (v : Int32) (pc : Nat) (lv : List (Nat × Value)), Post v → decode cX9_worstOf pc = .ok (.ireturn, 1) → zGG p l e R s m args below meth c Q g n1 n2 4 pc lv [.int v] σ) (h : wp_X9_worstOf p1 p2 p3 σ Post) : zGG p l e R s m args below meth c Q g n1 n2 4 0 [(0, .ref (g.2.1 69)), (1, .int p1), (2, .int p2), (3, .int p3)] [] σ := by
  unfold wp_X9_worstOf at h
  refine zr_iload_n C (zo_28 (p := 0) (zby_w zwX9_worstOf_0 0 rfl)) rfl ?_
  refine zr_if_ne C 12 (zo_154 (p := 1) (k := 11) (a := 0) (b := 11) (zby_w zwX9_worstOf_0 1 rfl) (zby_w zwX9_worstOf_0 2 rfl) (zby_w zwX9_worstOf_0 3 rfl) (by decide)) (by decide) (fun hc1 => ?_) (fun hc1 => ?_)
  · rw [if_neg hc1] at h
    refine zr_iload_n C (zo_28 (p := 12) (zby_w zwX9_worstOf_0 12 rfl)) rfl ?_
    refine zr_iconst C (1 : Int32) (zo_4 (p := 13) (zby_w zwX9_worstOf_0 13 rfl)) (by decide) ?_
    refine zr_icmp_ne C 37 (zo_160 (p := 14) (k := 23) (a := 0) (b := 23) (zby_w zwX9_worstOf_0 14 rfl) (zby_w zwX9_worstOf_0 15 rfl) (zby_w zwX9_worstOf_0 16 rfl) (by decide)) (by decide) (fun hc2 => ?_) (fun hc2 => ?_)
    · rw [if_neg hc2] at h
      refine zr_aload_n C (zo_42 (p := 37) (zby_w zwX9_worstOf_1 5 rfl)) rfl ?_
      refine zr_geti C fw_X9_69 (sh_69) rfl (zo_180 (p := 38) (k := 69) (a := 0) (b := 69) (zby_w zwX9_worstOf_1 6 rfl) (zby_w zwX9_worstOf_1 7 rfl) (zby_w zwX9_worstOf_1 8 rfl) (by decide)) ?_
      refine zr_aload_n C (zo_42 (p := 41) (zby_w zwX9_worstOf_1 9 rfl)) rfl ?_
      refine zr_geti C fw_X9_72 (sh_69) rfl (zo_180 (p := 42) (k := 72) (a := 0) (b := 72) (zby_w zwX9_worstOf_1 10 rfl) (zby_w zwX9_worstOf_1 11 rfl) (zby_w zwX9_worstOf_1 12 rfl) (by decide)) ?_
      refine zr_imul C (zo_104 (p := 45) (zby_w zwX9_worstOf_1 13 rfl)) ?_
      refine zr_aload_n C (zo_42 (p := 46) (zby_w zwX9_worstOf_1 14 rfl)) rfl ?_
      refine zr_getr (u := 70) C fw_X9_7 (sh_69) rfl (zo_180 (p := 47) (k := 7) (a := 0) (b := 7) (zby_w zwX9_worstOf_1 15 rfl) (zby_w zwX9_worstOf_1 16 rfl) (zby_w zwX9_worstOf_1 17 rfl) (by decide)) ?_
      refine zr_iload_n C (zo_27 (p := 50) (zby_w zwX9_worstOf_1 18 rfl)) rfl ?_
      obtain ⟨ho3, h⟩ := h
      refine zr_iald C (sh_70) ho3 (zo_46 (p := 51) (zby_w zwX9_worstOf_1 19 rfl)) ?_
      refine zr_imul C (zo_104 (p := 52) (zby_w zwX9_worstOf_1 20 rfl)) ?_
      exact hret _ _ _ h d_X9_worstOf_53
    · rw [if_pos hc2] at h
      refine zr_aload_n C (zo_42 (p := 17) (zby_w zwX9_worstOf_0 17 rfl)) rfl ?_
      refine zr_iload_n C (zo_29 (p := 18) (zby_w zwX9_worstOf_0 18 rfl)) rfl ?_
      refine zr_cip (zr_runV (As := [.int p3]) (rest := []) C vw_X9_163 (c_X9_tenths l g p3 σ _ h) (sh_69) rfl (by decide) (by decide) rfl rfl (Nat.le_of_ble_eq_true rfl) (zo_182 (p := 19) (k := 163) (a := 0) (b := 163) (zby_w zwX9_worstOf_0 19 rfl) (zby_w zwX9_worstOf_0 20 rfl) (zby_w zwX9_worstOf_0 21 rfl) (by decide))) (fun r4 h => ?_)
      refine zr_if_le C 33 (zo_158 (p := 22) (k := 11) (a := 0) (b := 11) (zby_w zwX9_worstOf_0 22 rfl) (zby_w zwX9_worstOf_0 23 rfl) (zby_w zwX9_worstOf_0 24 rfl) (by decide)) (by decide) (fun hc6 => ?_) (fun hc6 => ?_)
      · rw [if_pos hc6] at h
        refine zr_iconst C (0 : Int32) (zo_3 (p := 33) (zby_w zwX9_worstOf_1 1 rfl)) (by decide) ?_
        refine zr_goto C 53 (zo_167 (p := 34) (k := 19) (a := 0) (b := 19) (zby_w zwX9_worstOf_1 2 rfl) (zby_w zwX9_worstOf_1 3 rfl) (zby_w zwX9_worstOf_1 4 rfl) (by decide)) (by decide) ?_
        exact hret _ _ _ h d_X9_worstOf_53
      · rw [if_neg hc6] at h
        refine zr_aload_n C (zo_42 (p := 25) (zby_w zwX9_worstOf_0 25 rfl)) rfl ?_
        refine zr_iload_n C (zo_27 (p := 26) (zby_w zwX9_worstOf_0 26 rfl)) rfl ?_
        refine zr_cip (zr_runV (As := [.int p1]) (rest := []) C vw_X9_209 (c_X9_allOf l g p1 σ _ h) (sh_69) rfl (by decide) (by decide) rfl rfl (Nat.le_of_ble_eq_true rfl) (zo_182 (p := 27) (k := 209) (a := 0) (b := 209) (zby_w zwX9_worstOf_0 27 rfl) (zby_w zwX9_worstOf_0 28 rfl) (zby_w zwX9_worstOf_0 29 rfl) (by decide))) (fun r7 h => ?_)
        refine zr_goto C 53 (zo_167 (p := 30) (k := 23) (a := 0) (b := 23) (zby_w zwX9_worstOf_0 30 rfl) (zby_w zwX9_worstOf_0 31 rfl) (zby_w zwX9_worstOf_0 32 rfl) (by decide)) (by decide) ?_
        exact hret _ _ _ h d_X9_worstOf_53
  · rw [if_pos hc1] at h
    refine zr_aload_n C (zo_42 (p := 4) (zby_w zwX9_worstOf_0 4 rfl)) rfl ?_
    refine zr_iload_n C (zo_27 (p := 5) (zby_w zwX9_worstOf_0 5 rfl)) rfl ?_
    refine zr_cip (zr_runV (As := [.int p1]) (rest := []) C vw_X9_206 (c_X9_teethTake l g p1 σ _ h) (sh_69) rfl (by decide) (by decide) rfl rfl (Nat.le_of_ble_eq_true rfl) (zo_182 (p := 6) (k := 206) (a := 0) (b := 206) (zby_w zwX9_worstOf_0 6 rfl) (zby_w zwX9_worstOf_0 7 rfl) (zby_w zwX9_worstOf_0 8 rfl) (by decide))) (fun r9 h => ?_)
    refine zr_goto C 53 (zo_167 (p := 9) (k := 44) (a := 0) (b := 44) (zby_w zwX9_worstOf_0 9 rfl) (zby_w zwX9_worstOf_0 10 rfl) (zby_w zwX9_worstOf_0 11 rfl) (by decide)) (by decide) ?_
    exact hret _ _ _ h d_X9_worstOf_53
set_option maxRecDepth 20000 in
theorem c_X9_worstOf (l : Launch) (g : zG) (p1 : Int32) (p2 : Int32) (p3 : Int32) (σ : zST) (Post : Int32 → Prop) (h : wp_X9_worstOf p1 p2 p3 σ Post) : Met l yX9_worstOf (Cond.code yX9_worstOf cX9_worstOf 4 (some .int) :: zGW) (zRm 2 44) (va_Pc [.ref (g.2.1 69), .int p1, .int p2, .int p3] (zPP g σ)) (va_Qi (fun r u => Post r ∧ u = σ) (zBB g) (zA g)) 0 0 (zA g) :=
  zMet (by decide) (Nat.le_of_ble_eq_true rfl) (fun p e s m below meth c hr C => g_X9_worstOf C (fun v pc lv hp hd => zr_iret C hr ⟨hp, rfl⟩ hd) h)
def wp_X9_choiceOf_L5 (v1 : Int32) (v2 : Int32) (σ : zST) (Post : Int32 → Prop) : Nat → Int32 → Int32 → Prop
  | 0, _, _ => False
  | N + 1, v3, v4 => (if (3 : Int32) ≤ v4 then Post v3 else wp_X9_meanOf v1 v4 v2 σ (fun r2 => wp_X9_meanOf v1 v3 v2 σ (fun r4 => ∀ z7 : Int32, z7 = (if r4 ≤ r2 then v3 else v4) → wp_X9_choiceOf_L5 v1 v2 σ Post N z7 (v4 + 1))))

set_option maxRecDepth 100000 in
set_option maxHeartbeats 4000000 in
theorem g_X9_choiceOf_L5 {p : Program} {l : Launch} {e : Env} {R : Room} {s : State} {m : MethodId} {args : Array Value} {below : List Frame} {meth : Method} {c : Code} {Q : State → Prop} {g : zG} {n1 n2 : Nat} (C : zCX p R s m args meth c g n1 n2 cX9_choiceOf 5 RX9 3 67) {v1 : Int32} {v2 : Int32} {σ : zST}  {Post : Int32 → Prop} (hret : ∀ (v : Int32) (pc : Nat) (lv : List (Nat × Value)), Post v → decode cX9_choiceOf pc = .ok (.ireturn, 1) → zGG p l e R s m args below meth c Q g n1 n2 5 pc lv [.int v] σ) : ∀ (N : Nat) (v3 : Int32) (v4 : Int32) , wp_X9_choiceOf_L5 v1 v2 σ Post N v3 v4 → zGG p l e R s m args below meth c Q g n1 n2 5 5 [(0, .ref (g.2.1 69)), (1, .int v1), (2, .int v2), (3, .int v3), (4, .int v4)] [] σ := by
  intro N
  induction N with
  | zero =>
    intro v3 v4 h
    exact h.elim
  | succ N ih =>
    intro v3 v4 h
    rw [wp_X9_choiceOf_L5] at h
    refine zr_iload C (zo_21 (p := 5) (k := 4) (a := 4) (zby_w zwX9_choiceOf_0 5 rfl) (zby_w zwX9_choiceOf_0 6 rfl) (by decide)) rfl ?_
    refine zr_iconst C (3 : Int32) (zo_6 (p := 7) (zby_w zwX9_choiceOf_0 7 rfl)) (by decide) ?_
    refine zr_icmp_ge C 42 (zo_162 (p := 8) (k := 34) (a := 0) (b := 34) (zby_w zwX9_choiceOf_0 8 rfl) (zby_w zwX9_choiceOf_0 9 rfl) (zby_w zwX9_choiceOf_0 10 rfl) (by decide)) (by decide) (fun hc1 => ?_) (fun hc1 => ?_)
    · rw [if_pos hc1] at h
      refine zr_iload_n C (zo_29 (p := 42) (zby_w zwX9_choiceOf_1 10 rfl)) rfl ?_
      exact hret _ _ _ h (zo_172 (p := 43) (zby_w zwX9_choiceOf_1 11 rfl))
    · rw [if_neg hc1] at h
      refine zr_aload_n C (zo_42 (p := 11) (zby_w zwX9_choiceOf_0 11 rfl)) rfl ?_
      refine zr_iload_n C (zo_27 (p := 12) (zby_w zwX9_choiceOf_0 12 rfl)) rfl ?_
      refine zr_iload C (zo_21 (p := 13) (k := 4) (a := 4) (zby_w zwX9_choiceOf_0 13 rfl) (zby_w zwX9_choiceOf_0 14 rfl) (by decide)) rfl ?_
      refine zr_iload_n C (zo_28 (p := 15) (zby_w zwX9_choiceOf_0 15 rfl)) rfl ?_
      refine zr_cip (zr_runV (As := [.int v1, .int v4, .int v2]) (rest := []) C vw_X9_212 (c_X9_meanOf l g v1 v4 v2 σ _ h) (sh_69) rfl (by decide) (by decide) rfl rfl (Nat.le_of_ble_eq_true rfl) (zo_182 (p := 16) (k := 212) (a := 0) (b := 212) (zby_w zwX9_choiceOf_0 16 rfl) (zby_w zwX9_choiceOf_0 17 rfl) (zby_w zwX9_choiceOf_0 18 rfl) (by decide))) (fun r2 h => ?_)
      refine zr_aload_n C (zo_42 (p := 19) (zby_w zwX9_choiceOf_0 19 rfl)) rfl ?_
      refine zr_iload_n C (zo_27 (p := 20) (zby_w zwX9_choiceOf_0 20 rfl)) rfl ?_
      refine zr_iload_n C (zo_29 (p := 21) (zby_w zwX9_choiceOf_0 21 rfl)) rfl ?_
      refine zr_iload_n C (zo_28 (p := 22) (zby_w zwX9_choiceOf_0 22 rfl)) rfl ?_
      refine zr_cip (zr_runV (As := [.int v1, .int v3, .int v2]) (rest := [.int r2]) C vw_X9_212 (c_X9_meanOf l g v1 v3 v2 σ _ h) (sh_69) rfl (by decide) (by decide) rfl rfl (Nat.le_of_ble_eq_true rfl) (zo_182 (p := 23) (k := 212) (a := 0) (b := 212) (zby_w zwX9_choiceOf_0 23 rfl) (zby_w zwX9_choiceOf_0 24 rfl) (zby_w zwX9_choiceOf_0 25 rfl) (by decide))) (fun r4 h => ?_)
      have hJ8 : ∀ z7 : Int32, z7 = (if r4 ≤ r2 then v3 else v4) → zGG p l e R s m args below meth c Q g n1 n2 5 35 [(0, .ref (g.2.1 69)), (1, .int v1), (2, .int v2), (3, .int v3), (4, .int v4)] [.int z7] σ := by
        intro z7 hz7
        replace h := h z7 hz7
        refine zr_istore_n C [(3, .int z7), (0, .ref (g.2.1 69)), (1, .int v1), (2, .int v2), (4, .int v4)] (zo_62 (p := 35) (zby_w zwX9_choiceOf_1 3 rfl)) (by decide) rfl ?_
        refine zr_iinc C (v4 + 1) [(4, .int (v4 + 1)), (3, .int z7), (0, .ref (g.2.1 69)), (1, .int v1), (2, .int v2)] d_X9_choiceOf_36 rfl rfl (by decide) rfl ?_
        refine zr_goto C 5 (zo_167 (p := 39) (k := (-34)) (a := 255) (b := 222) (zby_w zwX9_choiceOf_1 7 rfl) (zby_w zwX9_choiceOf_1 8 rfl) (zby_w zwX9_choiceOf_1 9 rfl) (by decide)) (by decide) ?_
        exact zr_pick [2, 3, 4, 1, 0] rfl (ih z7 (v4 + 1) h)
      refine zr_icmp_ge C 34 (zo_162 (p := 26) (k := 8) (a := 0) (b := 8) (zby_w zwX9_choiceOf_0 26 rfl) (zby_w zwX9_choiceOf_0 27 rfl) (zby_w zwX9_choiceOf_0 28 rfl) (by decide)) (by decide) (fun hc6 => ?_) (fun hc6 => ?_)
      · skip
        refine zr_iload_n C (zo_29 (p := 34) (zby_w zwX9_choiceOf_1 2 rfl)) rfl ?_
        exact hJ8 _ (by rw [if_pos hc6])
      · skip
        refine zr_iload C (zo_21 (p := 29) (k := 4) (a := 4) (zby_w zwX9_choiceOf_0 29 rfl) (zby_w zwX9_choiceOf_0 30 rfl) (by decide)) rfl ?_
        refine zr_goto C 35 (zo_167 (p := 31) (k := 4) (a := 0) (b := 4) (zby_w zwX9_choiceOf_0 31 rfl) (zby_w zwX9_choiceOf_0 32 rfl) (zby_w zwX9_choiceOf_0 33 rfl) (by decide)) (by decide) ?_
        exact hJ8 _ (by rw [if_neg hc6])

def wp_X9_choiceOf (p1 : Int32) (p2 : Int32) (σ : zST) (Post : Int32 → Prop) : Prop := ∃ M10 : Nat, wp_X9_choiceOf_L5 p1 p2 σ Post M10 (0 : Int32) (1 : Int32)
set_option maxRecDepth 100000 in
set_option maxHeartbeats 4000000 in
theorem g_X9_choiceOf {p : Program} {l : Launch} {e : Env} {R : Room} {s : State} {m : MethodId} {args : Array Value} {below : List Frame} {meth : Method} {c : Code} {Q : State → Prop} {g : zG} {n1 n2 : Nat} (C : zCX p R s m args meth c g n1 n2 cX9_choiceOf 5 RX9 3 67) {p1 : Int32} {p2 : Int32} {σ : zST} {Post : Int32 → Prop} (hret : ∀ (v : Int32) (pc : Nat) (lv : List (Nat × Value)), Post v → decode cX9_choiceOf pc = .ok (.ireturn, 1) → zGG p l e R s m args below meth c Q g n1 n2 5 pc lv [.int v] σ) (h : wp_X9_choiceOf p1 p2 σ Post) : zGG p l e R s m args below meth c Q g n1 n2 5 0 [(0, .ref (g.2.1 69)), (1, .int p1), (2, .int p2)] [] σ := by
  unfold wp_X9_choiceOf at h
  refine zr_iconst C (0 : Int32) (zo_3 (p := 0) (zby_w zwX9_choiceOf_0 0 rfl)) (by decide) ?_
  refine zr_istore_n C [(3, .int (0 : Int32)), (0, .ref (g.2.1 69)), (1, .int p1), (2, .int p2)] (zo_62 (p := 1) (zby_w zwX9_choiceOf_0 1 rfl)) (by decide) rfl ?_
  refine zr_iconst C (1 : Int32) (zo_4 (p := 2) (zby_w zwX9_choiceOf_0 2 rfl)) (by decide) ?_
  refine zr_istore C [(4, .int (1 : Int32)), (3, .int (0 : Int32)), (0, .ref (g.2.1 69)), (1, .int p1), (2, .int p2)] (zo_54 (p := 3) (k := 4) (a := 4) (zby_w zwX9_choiceOf_0 3 rfl) (zby_w zwX9_choiceOf_0 4 rfl) (by decide)) (by decide) rfl ?_
  obtain ⟨M10, h⟩ := h
  exact zr_pick [2, 3, 4, 1, 0] rfl (g_X9_choiceOf_L5 C hret M10 (0 : Int32) (1 : Int32) h)
set_option maxRecDepth 20000 in
theorem c_X9_choiceOf (l : Launch) (g : zG) (p1 : Int32) (p2 : Int32) (σ : zST) (Post : Int32 → Prop) (h : wp_X9_choiceOf p1 p2 σ Post) : Met l yX9_choiceOf (Cond.code yX9_choiceOf cX9_choiceOf 5 (some .int) :: zGW) (zRm 3 67) (va_Pc [.ref (g.2.1 69), .int p1, .int p2] (zPP g σ)) (va_Qi (fun r u => Post r ∧ u = σ) (zBB g) (zA g)) 0 0 (zA g) :=
  zMet (by decide) (Nat.le_of_ble_eq_true rfl) (fun p e s m below meth c hr C => g_X9_choiceOf C (fun v pc lv hp hd => zr_iret C hr ⟨hp, rfl⟩ hd) h)
def wp_X9_mean (p1 : Int32) (p2 : Int32) (p3 : Int32) (σ : zST) (Post : Int32 → Prop) : Prop := wp_X9_isShip p1 σ (fun r1 => (if r1 = (0) then Post (-1 : Int32) else wp_X9_isSide p2 σ (fun r4 => (if r4 = (0) then Post (-2 : Int32) else wp_X9_isHour p3 σ (fun r7 => (if r7 = (0) then Post (-2 : Int32) else wp_X9_meanOf p1 p2 p3 σ (fun r10 => Post r10)))))))
set_option maxRecDepth 100000 in
set_option maxHeartbeats 4000000 in
theorem g_X9_mean {p : Program} {l : Launch} {e : Env} {R : Room} {s : State} {m : MethodId} {args : Array Value} {below : List Frame} {meth : Method} {c : Code} {Q : State → Prop} {g : zG} {n1 n2 : Nat} (C : zCX p R s m args meth c g n1 n2 cX9_mean 4 RX9 3 67) {p1 : Int32} {p2 : Int32} {p3 : Int32} {σ : zST} {Post : Int32 → Prop} (hret : ∀ (v : Int32) (pc : Nat) (lv : List (Nat × Value)), Post v → decode cX9_mean pc = .ok (.ireturn, 1) → zGG p l e R s m args below meth c Q g n1 n2 4 pc lv [.int v] σ) (h : wp_X9_mean p1 p2 p3 σ Post) : zGG p l e R s m args below meth c Q g n1 n2 4 0 [(0, .ref (g.2.1 69)), (1, .int p1), (2, .int p2), (3, .int p3)] [] σ := by
  unfold wp_X9_mean at h
  refine zr_aload_n C (zo_42 (p := 0) (zby_w zwX9_mean_0 0 rfl)) rfl ?_
  refine zr_iload_n C (zo_27 (p := 1) (zby_w zwX9_mean_0 1 rfl)) rfl ?_
  refine zr_cip (zr_runV (As := [.int p1]) (rest := []) C vw_X9_112 (c_X9_isShip l g p1 σ _ h) (sh_69) rfl (by decide) (by decide) rfl rfl (Nat.le_of_ble_eq_true rfl) (zo_182 (p := 2) (k := 112) (a := 0) (b := 112) (zby_w zwX9_mean_0 2 rfl) (zby_w zwX9_mean_0 3 rfl) (zby_w zwX9_mean_0 4 rfl) (by decide))) (fun r1 h => ?_)
  refine zr_if_ne C 10 (zo_154 (p := 5) (k := 5) (a := 0) (b := 5) (zby_w zwX9_mean_0 5 rfl) (zby_w zwX9_mean_0 6 rfl) (zby_w zwX9_mean_0 7 rfl) (by decide)) (by decide) (fun hc3 => ?_) (fun hc3 => ?_)
  · rw [if_neg hc3] at h
    refine zr_iload_n C (zo_28 (p := 10) (zby_w zwX9_mean_0 10 rfl)) rfl ?_
    refine zr_cip (zr_runS (As := [.int p2]) (rest := []) C sw_X9_216 (c_X9_isSide l g p2 σ _ h) (by decide) (by decide) rfl rfl (Nat.le_of_ble_eq_true rfl) (zo_184 (p := 11) (k := 216) (a := 0) (b := 216) (zby_w zwX9_mean_0 11 rfl) (zby_w zwX9_mean_0 12 rfl) (zby_w zwX9_mean_0 13 rfl) (by decide))) (fun r4 h => ?_)
    refine zr_if_eq C 34 (zo_153 (p := 14) (k := 20) (a := 0) (b := 20) (zby_w zwX9_mean_0 14 rfl) (zby_w zwX9_mean_0 15 rfl) (zby_w zwX9_mean_0 16 rfl) (by decide)) (by decide) (fun hc6 => ?_) (fun hc6 => ?_)
    · rw [if_pos hc6] at h
      refine zr_bipush C (-2 : Int32) d_X9_mean_34 (by decide) ?_
      exact hret _ _ _ h d_X9_mean_36
    · rw [if_neg hc6] at h
      refine zr_iload_n C (zo_29 (p := 17) (zby_w zwX9_mean_0 17 rfl)) rfl ?_
      refine zr_cip (zr_runS (As := [.int p3]) (rest := []) C sw_X9_219 (c_X9_isHour l g p3 σ _ h) (by decide) (by decide) rfl rfl (Nat.le_of_ble_eq_true rfl) (zo_184 (p := 18) (k := 219) (a := 0) (b := 219) (zby_w zwX9_mean_0 18 rfl) (zby_w zwX9_mean_0 19 rfl) (zby_w zwX9_mean_0 20 rfl) (by decide))) (fun r7 h => ?_)
      refine zr_if_eq C 34 (zo_153 (p := 21) (k := 13) (a := 0) (b := 13) (zby_w zwX9_mean_0 21 rfl) (zby_w zwX9_mean_0 22 rfl) (zby_w zwX9_mean_0 23 rfl) (by decide)) (by decide) (fun hc9 => ?_) (fun hc9 => ?_)
      · rw [if_pos hc9] at h
        refine zr_bipush C (-2 : Int32) d_X9_mean_34 (by decide) ?_
        exact hret _ _ _ h d_X9_mean_36
      · rw [if_neg hc9] at h
        refine zr_aload_n C (zo_42 (p := 24) (zby_w zwX9_mean_0 24 rfl)) rfl ?_
        refine zr_iload_n C (zo_27 (p := 25) (zby_w zwX9_mean_0 25 rfl)) rfl ?_
        refine zr_iload_n C (zo_28 (p := 26) (zby_w zwX9_mean_0 26 rfl)) rfl ?_
        refine zr_iload_n C (zo_29 (p := 27) (zby_w zwX9_mean_0 27 rfl)) rfl ?_
        refine zr_cip (zr_runV (As := [.int p1, .int p2, .int p3]) (rest := []) C vw_X9_212 (c_X9_meanOf l g p1 p2 p3 σ _ h) (sh_69) rfl (by decide) (by decide) rfl rfl (Nat.le_of_ble_eq_true rfl) (zo_182 (p := 28) (k := 212) (a := 0) (b := 212) (zby_w zwX9_mean_0 28 rfl) (zby_w zwX9_mean_0 29 rfl) (zby_w zwX9_mean_0 30 rfl) (by decide))) (fun r10 h => ?_)
        refine zr_goto C 36 (zo_167 (p := 31) (k := 5) (a := 0) (b := 5) (zby_w zwX9_mean_0 31 rfl) (zby_w zwX9_mean_0 32 rfl) (zby_w zwX9_mean_0 33 rfl) (by decide)) (by decide) ?_
        exact hret _ _ _ h d_X9_mean_36
  · rw [if_pos hc3] at h
    refine zr_iconst C (-1 : Int32) (zo_2 (p := 8) (zby_w zwX9_mean_0 8 rfl)) (by decide) ?_
    exact hret _ _ _ h (zo_172 (p := 9) (zby_w zwX9_mean_0 9 rfl))
set_option maxRecDepth 20000 in
theorem c_X9_mean (l : Launch) (g : zG) (p1 : Int32) (p2 : Int32) (p3 : Int32) (σ : zST) (Post : Int32 → Prop) (h : wp_X9_mean p1 p2 p3 σ Post) : Met l yX9_mean (Cond.code yX9_mean cX9_mean 4 (some .int) :: zGW) (zRm 3 67) (va_Pc [.ref (g.2.1 69), .int p1, .int p2, .int p3] (zPP g σ)) (va_Qi (fun r u => Post r ∧ u = σ) (zBB g) (zA g)) 0 0 (zA g) :=
  zMet (by decide) (Nat.le_of_ble_eq_true rfl) (fun p e s m below meth c hr C => g_X9_mean C (fun v pc lv hp hd => zr_iret C hr ⟨hp, rfl⟩ hd) h)
def wp_X9_worst (p1 : Int32) (p2 : Int32) (p3 : Int32) (σ : zST) (Post : Int32 → Prop) : Prop := wp_X9_isShip p1 σ (fun r1 => (if r1 = (0) then Post (-1 : Int32) else wp_X9_isSide p2 σ (fun r4 => (if r4 = (0) then Post (-2 : Int32) else wp_X9_isHour p3 σ (fun r7 => (if r7 = (0) then Post (-2 : Int32) else wp_X9_worstOf p1 p2 p3 σ (fun r10 => Post r10)))))))
set_option maxRecDepth 100000 in
set_option maxHeartbeats 4000000 in
theorem g_X9_worst {p : Program} {l : Launch} {e : Env} {R : Room} {s : State} {m : MethodId} {args : Array Value} {below : List Frame} {meth : Method} {c : Code} {Q : State → Prop} {g : zG} {n1 n2 : Nat} (C : zCX p R s m args meth c g n1 n2 cX9_worst 4 RX9 3 67) {p1 : Int32} {p2 : Int32} {p3 : Int32} {σ : zST} {Post : Int32 → Prop} (hret : ∀ (v : Int32) (pc : Nat) (lv : List (Nat × Value)), Post v → decode cX9_worst pc = .ok (.ireturn, 1) → zGG p l e R s m args below meth c Q g n1 n2 4 pc lv [.int v] σ) (h : wp_X9_worst p1 p2 p3 σ Post) : zGG p l e R s m args below meth c Q g n1 n2 4 0 [(0, .ref (g.2.1 69)), (1, .int p1), (2, .int p2), (3, .int p3)] [] σ := by
  unfold wp_X9_worst at h
  refine zr_aload_n C (zo_42 (p := 0) (zby_w zwX9_worst_0 0 rfl)) rfl ?_
  refine zr_iload_n C (zo_27 (p := 1) (zby_w zwX9_worst_0 1 rfl)) rfl ?_
  refine zr_cip (zr_runV (As := [.int p1]) (rest := []) C vw_X9_112 (c_X9_isShip l g p1 σ _ h) (sh_69) rfl (by decide) (by decide) rfl rfl (Nat.le_of_ble_eq_true rfl) (zo_182 (p := 2) (k := 112) (a := 0) (b := 112) (zby_w zwX9_worst_0 2 rfl) (zby_w zwX9_worst_0 3 rfl) (zby_w zwX9_worst_0 4 rfl) (by decide))) (fun r1 h => ?_)
  refine zr_if_ne C 10 (zo_154 (p := 5) (k := 5) (a := 0) (b := 5) (zby_w zwX9_worst_0 5 rfl) (zby_w zwX9_worst_0 6 rfl) (zby_w zwX9_worst_0 7 rfl) (by decide)) (by decide) (fun hc3 => ?_) (fun hc3 => ?_)
  · rw [if_neg hc3] at h
    refine zr_iload_n C (zo_28 (p := 10) (zby_w zwX9_worst_0 10 rfl)) rfl ?_
    refine zr_cip (zr_runS (As := [.int p2]) (rest := []) C sw_X9_216 (c_X9_isSide l g p2 σ _ h) (by decide) (by decide) rfl rfl (Nat.le_of_ble_eq_true rfl) (zo_184 (p := 11) (k := 216) (a := 0) (b := 216) (zby_w zwX9_worst_0 11 rfl) (zby_w zwX9_worst_0 12 rfl) (zby_w zwX9_worst_0 13 rfl) (by decide))) (fun r4 h => ?_)
    refine zr_if_eq C 34 (zo_153 (p := 14) (k := 20) (a := 0) (b := 20) (zby_w zwX9_worst_0 14 rfl) (zby_w zwX9_worst_0 15 rfl) (zby_w zwX9_worst_0 16 rfl) (by decide)) (by decide) (fun hc6 => ?_) (fun hc6 => ?_)
    · rw [if_pos hc6] at h
      refine zr_bipush C (-2 : Int32) d_X9_worst_34 (by decide) ?_
      exact hret _ _ _ h d_X9_worst_36
    · rw [if_neg hc6] at h
      refine zr_iload_n C (zo_29 (p := 17) (zby_w zwX9_worst_0 17 rfl)) rfl ?_
      refine zr_cip (zr_runS (As := [.int p3]) (rest := []) C sw_X9_219 (c_X9_isHour l g p3 σ _ h) (by decide) (by decide) rfl rfl (Nat.le_of_ble_eq_true rfl) (zo_184 (p := 18) (k := 219) (a := 0) (b := 219) (zby_w zwX9_worst_0 18 rfl) (zby_w zwX9_worst_0 19 rfl) (zby_w zwX9_worst_0 20 rfl) (by decide))) (fun r7 h => ?_)
      refine zr_if_eq C 34 (zo_153 (p := 21) (k := 13) (a := 0) (b := 13) (zby_w zwX9_worst_0 21 rfl) (zby_w zwX9_worst_0 22 rfl) (zby_w zwX9_worst_0 23 rfl) (by decide)) (by decide) (fun hc9 => ?_) (fun hc9 => ?_)
      · rw [if_pos hc9] at h
        refine zr_bipush C (-2 : Int32) d_X9_worst_34 (by decide) ?_
        exact hret _ _ _ h d_X9_worst_36
      · rw [if_neg hc9] at h
        refine zr_aload_n C (zo_42 (p := 24) (zby_w zwX9_worst_0 24 rfl)) rfl ?_
        refine zr_iload_n C (zo_27 (p := 25) (zby_w zwX9_worst_0 25 rfl)) rfl ?_
        refine zr_iload_n C (zo_28 (p := 26) (zby_w zwX9_worst_0 26 rfl)) rfl ?_
        refine zr_iload_n C (zo_29 (p := 27) (zby_w zwX9_worst_0 27 rfl)) rfl ?_
        refine zr_cip (zr_runV (As := [.int p1, .int p2, .int p3]) (rest := []) C vw_X9_222 (c_X9_worstOf l g p1 p2 p3 σ _ h) (sh_69) rfl (by decide) (by decide) rfl rfl (Nat.le_of_ble_eq_true rfl) (zo_182 (p := 28) (k := 222) (a := 0) (b := 222) (zby_w zwX9_worst_0 28 rfl) (zby_w zwX9_worst_0 29 rfl) (zby_w zwX9_worst_0 30 rfl) (by decide))) (fun r10 h => ?_)
        refine zr_goto C 36 (zo_167 (p := 31) (k := 5) (a := 0) (b := 5) (zby_w zwX9_worst_0 31 rfl) (zby_w zwX9_worst_0 32 rfl) (zby_w zwX9_worst_0 33 rfl) (by decide)) (by decide) ?_
        exact hret _ _ _ h d_X9_worst_36
  · rw [if_pos hc3] at h
    refine zr_iconst C (-1 : Int32) (zo_2 (p := 8) (zby_w zwX9_worst_0 8 rfl)) (by decide) ?_
    exact hret _ _ _ h (zo_172 (p := 9) (zby_w zwX9_worst_0 9 rfl))
set_option maxRecDepth 20000 in
theorem c_X9_worst (l : Launch) (g : zG) (p1 : Int32) (p2 : Int32) (p3 : Int32) (σ : zST) (Post : Int32 → Prop) (h : wp_X9_worst p1 p2 p3 σ Post) : Met l yX9_worst (Cond.code yX9_worst cX9_worst 4 (some .int) :: zGW) (zRm 3 67) (va_Pc [.ref (g.2.1 69), .int p1, .int p2, .int p3] (zPP g σ)) (va_Qi (fun r u => Post r ∧ u = σ) (zBB g) (zA g)) 0 0 (zA g) :=
  zMet (by decide) (Nat.le_of_ble_eq_true rfl) (fun p e s m below meth c hr C => g_X9_worst C (fun v pc lv hp hd => zr_iret C hr ⟨hp, rfl⟩ hd) h)
def wp_X9_choice (p1 : Int32) (p2 : Int32) (σ : zST) (Post : Int32 → Prop) : Prop := wp_X9_isShip p1 σ (fun r1 => (if r1 = (0) then Post (-1 : Int32) else wp_X9_isHour p2 σ (fun r4 => (if r4 = (0) then Post (-2 : Int32) else wp_X9_choiceOf p1 p2 σ (fun r7 => Post r7)))))
set_option maxRecDepth 100000 in
set_option maxHeartbeats 4000000 in
theorem g_X9_choice {p : Program} {l : Launch} {e : Env} {R : Room} {s : State} {m : MethodId} {args : Array Value} {below : List Frame} {meth : Method} {c : Code} {Q : State → Prop} {g : zG} {n1 n2 : Nat} (C : zCX p R s m args meth c g n1 n2 cX9_choice 3 RX9 4 91) {p1 : Int32} {p2 : Int32} {σ : zST} {Post : Int32 → Prop} (hret : ∀ (v : Int32) (pc : Nat) (lv : List (Nat × Value)), Post v → decode cX9_choice pc = .ok (.ireturn, 1) → zGG p l e R s m args below meth c Q g n1 n2 3 pc lv [.int v] σ) (h : wp_X9_choice p1 p2 σ Post) : zGG p l e R s m args below meth c Q g n1 n2 3 0 [(0, .ref (g.2.1 69)), (1, .int p1), (2, .int p2)] [] σ := by
  unfold wp_X9_choice at h
  refine zr_aload_n C (zo_42 (p := 0) (zby_w zwX9_choice_0 0 rfl)) rfl ?_
  refine zr_iload_n C (zo_27 (p := 1) (zby_w zwX9_choice_0 1 rfl)) rfl ?_
  refine zr_cip (zr_runV (As := [.int p1]) (rest := []) C vw_X9_112 (c_X9_isShip l g p1 σ _ h) (sh_69) rfl (by decide) (by decide) rfl rfl (Nat.le_of_ble_eq_true rfl) (zo_182 (p := 2) (k := 112) (a := 0) (b := 112) (zby_w zwX9_choice_0 2 rfl) (zby_w zwX9_choice_0 3 rfl) (zby_w zwX9_choice_0 4 rfl) (by decide))) (fun r1 h => ?_)
  refine zr_if_ne C 10 (zo_154 (p := 5) (k := 5) (a := 0) (b := 5) (zby_w zwX9_choice_0 5 rfl) (zby_w zwX9_choice_0 6 rfl) (zby_w zwX9_choice_0 7 rfl) (by decide)) (by decide) (fun hc3 => ?_) (fun hc3 => ?_)
  · rw [if_neg hc3] at h
    refine zr_iload_n C (zo_28 (p := 10) (zby_w zwX9_choice_0 10 rfl)) rfl ?_
    refine zr_cip (zr_runS (As := [.int p2]) (rest := []) C sw_X9_219 (c_X9_isHour l g p2 σ _ h) (by decide) (by decide) rfl rfl (Nat.le_of_ble_eq_true rfl) (zo_184 (p := 11) (k := 219) (a := 0) (b := 219) (zby_w zwX9_choice_0 11 rfl) (zby_w zwX9_choice_0 12 rfl) (zby_w zwX9_choice_0 13 rfl) (by decide))) (fun r4 h => ?_)
    refine zr_if_eq C 26 (zo_153 (p := 14) (k := 12) (a := 0) (b := 12) (zby_w zwX9_choice_0 14 rfl) (zby_w zwX9_choice_0 15 rfl) (zby_w zwX9_choice_0 16 rfl) (by decide)) (by decide) (fun hc6 => ?_) (fun hc6 => ?_)
    · rw [if_pos hc6] at h
      refine zr_bipush C (-2 : Int32) (zo_16 (p := 26) (k := (-2)) (a := 254) (zby_w zwX9_choice_0 26 rfl) (zby_w zwX9_choice_0 27 rfl) (by decide)) (by decide) ?_
      exact hret _ _ _ h d_X9_choice_28
    · rw [if_neg hc6] at h
      refine zr_aload_n C (zo_42 (p := 17) (zby_w zwX9_choice_0 17 rfl)) rfl ?_
      refine zr_iload_n C (zo_27 (p := 18) (zby_w zwX9_choice_0 18 rfl)) rfl ?_
      refine zr_iload_n C (zo_28 (p := 19) (zby_w zwX9_choice_0 19 rfl)) rfl ?_
      refine zr_cip (zr_runV (As := [.int p1, .int p2]) (rest := []) C vw_X9_225 (c_X9_choiceOf l g p1 p2 σ _ h) (sh_69) rfl (by decide) (by decide) rfl rfl (Nat.le_of_ble_eq_true rfl) (zo_182 (p := 20) (k := 225) (a := 0) (b := 225) (zby_w zwX9_choice_0 20 rfl) (zby_w zwX9_choice_0 21 rfl) (zby_w zwX9_choice_0 22 rfl) (by decide))) (fun r7 h => ?_)
      refine zr_goto C 28 (zo_167 (p := 23) (k := 5) (a := 0) (b := 5) (zby_w zwX9_choice_0 23 rfl) (zby_w zwX9_choice_0 24 rfl) (zby_w zwX9_choice_0 25 rfl) (by decide)) (by decide) ?_
      exact hret _ _ _ h d_X9_choice_28
  · rw [if_pos hc3] at h
    refine zr_iconst C (-1 : Int32) (zo_2 (p := 8) (zby_w zwX9_choice_0 8 rfl)) (by decide) ?_
    exact hret _ _ _ h (zo_172 (p := 9) (zby_w zwX9_choice_0 9 rfl))
set_option maxRecDepth 20000 in
theorem c_X9_choice (l : Launch) (g : zG) (p1 : Int32) (p2 : Int32) (σ : zST) (Post : Int32 → Prop) (h : wp_X9_choice p1 p2 σ Post) : Met l yX9_choice (Cond.code yX9_choice cX9_choice 3 (some .int) :: zGW) (zRm 4 91) (va_Pc [.ref (g.2.1 69), .int p1, .int p2] (zPP g σ)) (va_Qi (fun r u => Post r ∧ u = σ) (zBB g) (zA g)) 0 0 (zA g) :=
  zMet (by decide) (Nat.le_of_ble_eq_true rfl) (fun p e s m below meth c hr C => g_X9_choice C (fun v pc lv hp hd => zr_iret C hr ⟨hp, rfl⟩ hd) h)
def wp_X9_held_J123 (v1 : Int32) (v3 : Int32) (v4 : Int32) (v5 : Int32) (σ : zST) (Post : Int32 → Prop) : Prop := (if v3 = (0) then Post v4 else (if v3 = (1 : Int32) then Post v5 else wp_X9_choiceOf v1 v4 σ (fun r13 => Post r13)))

set_option maxRecDepth 100000 in
set_option maxHeartbeats 4000000 in
theorem g_X9_held_J123 {p : Program} {l : Launch} {e : Env} {R : Room} {s : State} {m : MethodId} {args : Array Value} {below : List Frame} {meth : Method} {c : Code} {Q : State → Prop} {g : zG} {n1 n2 : Nat} (C : zCX p R s m args meth c g n1 n2 cX9_held 8 RX9 4 91) {v1 : Int32} {v3 : Int32} {v4 : Int32} {v5 : Int32} {σ : zST}  {Post : Int32 → Prop} (hret : ∀ (v : Int32) (pc : Nat) (lv : List (Nat × Value)), Post v → decode cX9_held pc = .ok (.ireturn, 1) → zGG p l e R s m args below meth c Q g n1 n2 8 pc lv [.int v] σ) (h : wp_X9_held_J123 v1 v3 v4 v5 σ Post) : zGG p l e R s m args below meth c Q g n1 n2 8 123 [(0, .ref (g.2.1 69)), (1, .int v1), (3, .int v3), (4, .int v4), (5, .int v5)] [] σ := by
  unfold wp_X9_held_J123 at h
  refine zr_iload_n C (zo_29 (p := 123) (zby_w zwX9_held_3 27 rfl)) rfl ?_
  refine zr_if_ne C 132 (zo_154 (p := 124) (k := 8) (a := 0) (b := 8) (zby_w zwX9_held_3 28 rfl) (zby_w zwX9_held_3 29 rfl) (zby_w zwX9_held_3 30 rfl) (by decide)) (by decide) (fun hc11 => ?_) (fun hc11 => ?_)
  · rw [if_neg hc11] at h
    refine zr_iload_n C (zo_29 (p := 132) (zby_w zwX9_held_4 4 rfl)) rfl ?_
    refine zr_iconst C (1 : Int32) (zo_4 (p := 133) (zby_w zwX9_held_4 5 rfl)) (by decide) ?_
    refine zr_icmp_ne C 142 (zo_160 (p := 134) (k := 8) (a := 0) (b := 8) (zby_w zwX9_held_4 6 rfl) (zby_w zwX9_held_4 7 rfl) (zby_w zwX9_held_4 8 rfl) (by decide)) (by decide) (fun hc12 => ?_) (fun hc12 => ?_)
    · rw [if_neg hc12] at h
      refine zr_aload_n C (zo_42 (p := 142) (zby_w zwX9_held_4 14 rfl)) rfl ?_
      refine zr_iload_n C (zo_27 (p := 143) (zby_w zwX9_held_4 15 rfl)) rfl ?_
      refine zr_iload C (zo_21 (p := 144) (k := 4) (a := 4) (zby_w zwX9_held_4 16 rfl) (zby_w zwX9_held_4 17 rfl) (by decide)) rfl ?_
      refine zr_cip (zr_runV (As := [.int v1, .int v4]) (rest := []) C vw_X9_225 (c_X9_choiceOf l g v1 v4 σ _ h) (sh_69) rfl (by decide) (by decide) rfl rfl (Nat.le_of_ble_eq_true rfl) (zo_182 (p := 146) (k := 225) (a := 0) (b := 225) (zby_w zwX9_held_4 18 rfl) (zby_w zwX9_held_4 19 rfl) (zby_w zwX9_held_4 20 rfl) (by decide))) (fun r13 h => ?_)
      exact hret _ _ _ h d_X9_held_149
    · rw [if_pos hc12] at h
      refine zr_iload C (zo_21 (p := 137) (k := 5) (a := 5) (zby_w zwX9_held_4 9 rfl) (zby_w zwX9_held_4 10 rfl) (by decide)) rfl ?_
      refine zr_goto C 149 (zo_167 (p := 139) (k := 10) (a := 0) (b := 10) (zby_w zwX9_held_4 11 rfl) (zby_w zwX9_held_4 12 rfl) (zby_w zwX9_held_4 13 rfl) (by decide)) (by decide) ?_
      exact hret _ _ _ h d_X9_held_149
  · rw [if_pos hc11] at h
    refine zr_iload C (zo_21 (p := 127) (k := 4) (a := 4) (zby_w zwX9_held_3 31 rfl) (zby_w zwX9_held_3 32 rfl) (by decide)) rfl ?_
    refine zr_goto C 149 (zo_167 (p := 129) (k := 20) (a := 0) (b := 20) (zby_w zwX9_held_4 1 rfl) (zby_w zwX9_held_4 2 rfl) (zby_w zwX9_held_4 3 rfl) (by decide)) (by decide) ?_
    exact hret _ _ _ h d_X9_held_149

def wp_X9_held_L47 (v1 : Int32) (v2 : Int32) (v3 : Int32) (σ : zST) (Post : Int32 → Prop) : Nat → Int32 → Int32 → Int32 → Prop
  | 0, _, _, _ => False
  | N + 1, v4, v5, v6 => (if (v2 + (24 : Int32)) ≤ v6 then wp_X9_held_J123 v1 v3 v4 v5 σ Post else wp_X9_choiceOf v1 v6 σ (fun r15 => wp_X9_meanOf v1 r15 v6 σ (fun r17 => ∀ x19 : Int32, x19 = (r17 + (((10 : Int32) * (σ.1 69 9)) * (v6 - v2))) → ∀ z21 : Int32, z21 = (if v5 ≤ x19 then v4 else v6) → ∀ z25 : Int32, z25 = (if v5 ≤ x19 then v5 else x19) → wp_X9_held_L47 v1 v2 v3 σ Post N z21 z25 (v6 + 1))))

set_option maxRecDepth 100000 in
set_option maxHeartbeats 4000000 in
theorem g_X9_held_L47 {p : Program} {l : Launch} {e : Env} {R : Room} {s : State} {m : MethodId} {args : Array Value} {below : List Frame} {meth : Method} {c : Code} {Q : State → Prop} {g : zG} {n1 n2 : Nat} (C : zCX p R s m args meth c g n1 n2 cX9_held 8 RX9 4 91) {v1 : Int32} {v2 : Int32} {v3 : Int32} {σ : zST}  {Post : Int32 → Prop} (hret : ∀ (v : Int32) (pc : Nat) (lv : List (Nat × Value)), Post v → decode cX9_held pc = .ok (.ireturn, 1) → zGG p l e R s m args below meth c Q g n1 n2 8 pc lv [.int v] σ) : ∀ (N : Nat) (v4 : Int32) (v5 : Int32) (v6 : Int32) , wp_X9_held_L47 v1 v2 v3 σ Post N v4 v5 v6 → zGG p l e R s m args below meth c Q g n1 n2 8 47 [(0, .ref (g.2.1 69)), (1, .int v1), (2, .int v2), (3, .int v3), (4, .int v4), (5, .int v5), (6, .int v6)] [] σ := by
  intro N
  induction N with
  | zero =>
    intro v4 v5 v6 h
    exact h.elim
  | succ N ih =>
    intro v4 v5 v6 h
    rw [wp_X9_held_L47] at h
    refine zr_iload C (zo_21 (p := 47) (k := 6) (a := 6) (zby_w zwX9_held_1 15 rfl) (zby_w zwX9_held_1 16 rfl) (by decide)) rfl ?_
    refine zr_iload_n C (zo_28 (p := 49) (zby_w zwX9_held_1 17 rfl)) rfl ?_
    refine zr_bipush C (24 : Int32) (zo_16 (p := 50) (k := 24) (a := 24) (zby_w zwX9_held_1 18 rfl) (zby_w zwX9_held_1 19 rfl) (by decide)) (by decide) ?_
    refine zr_iadd C (zo_96 (p := 52) (zby_w zwX9_held_1 20 rfl)) ?_
    refine zr_icmp_ge C 123 (zo_162 (p := 53) (k := 70) (a := 0) (b := 70) (zby_w zwX9_held_1 21 rfl) (zby_w zwX9_held_1 22 rfl) (zby_w zwX9_held_1 23 rfl) (by decide)) (by decide) (fun hc10 => ?_) (fun hc10 => ?_)
    · rw [if_pos hc10] at h
      exact zr_pick [0, 1, 3, 4, 5] rfl (g_X9_held_J123 C hret h)
    · rw [if_neg hc10] at h
      refine zr_aload_n C (zo_42 (p := 56) (zby_w zwX9_held_1 24 rfl)) rfl ?_
      refine zr_iload_n C (zo_27 (p := 57) (zby_w zwX9_held_1 25 rfl)) rfl ?_
      refine zr_aload_n C (zo_42 (p := 58) (zby_w zwX9_held_1 26 rfl)) rfl ?_
      refine zr_iload_n C (zo_27 (p := 59) (zby_w zwX9_held_1 27 rfl)) rfl ?_
      refine zr_iload C (zo_21 (p := 60) (k := 6) (a := 6) (zby_w zwX9_held_1 28 rfl) (zby_w zwX9_held_1 29 rfl) (by decide)) rfl ?_
      refine zr_cip (zr_runV (As := [.int v1, .int v6]) (rest := [.int v1, .ref (g.2.1 69)]) C vw_X9_225 (c_X9_choiceOf l g v1 v6 σ _ h) (sh_69) rfl (by decide) (by decide) rfl rfl (Nat.le_of_ble_eq_true rfl) (zo_182 (p := 62) (k := 225) (a := 0) (b := 225) (zby_w zwX9_held_1 30 rfl) (zby_w zwX9_held_1 31 rfl) (zby_w zwX9_held_1 32 rfl) (by decide))) (fun r15 h => ?_)
      refine zr_iload C (zo_21 (p := 65) (k := 6) (a := 6) (zby_w zwX9_held_2 1 rfl) (zby_w zwX9_held_2 2 rfl) (by decide)) rfl ?_
      refine zr_cip (zr_runV (As := [.int v1, .int r15, .int v6]) (rest := []) C vw_X9_212 (c_X9_meanOf l g v1 r15 v6 σ _ h) (sh_69) rfl (by decide) (by decide) rfl rfl (Nat.le_of_ble_eq_true rfl) (zo_182 (p := 67) (k := 212) (a := 0) (b := 212) (zby_w zwX9_held_2 3 rfl) (zby_w zwX9_held_2 4 rfl) (zby_w zwX9_held_2 5 rfl) (by decide))) (fun r17 h => ?_)
      refine zr_bipush C (10 : Int32) (zo_16 (p := 70) (k := 10) (a := 10) (zby_w zwX9_held_2 6 rfl) (zby_w zwX9_held_2 7 rfl) (by decide)) (by decide) ?_
      refine zr_aload_n C (zo_42 (p := 72) (zby_w zwX9_held_2 8 rfl)) rfl ?_
      refine zr_geti C fw_X9_75 (sh_69) rfl (zo_180 (p := 73) (k := 75) (a := 0) (b := 75) (zby_w zwX9_held_2 9 rfl) (zby_w zwX9_held_2 10 rfl) (zby_w zwX9_held_2 11 rfl) (by decide)) ?_
      refine zr_imul C (zo_104 (p := 76) (zby_w zwX9_held_2 12 rfl)) ?_
      refine zr_iload C (zo_21 (p := 77) (k := 6) (a := 6) (zby_w zwX9_held_2 13 rfl) (zby_w zwX9_held_2 14 rfl) (by decide)) rfl ?_
      refine zr_iload_n C (zo_28 (p := 79) (zby_w zwX9_held_2 15 rfl)) rfl ?_
      refine zr_isub C (zo_100 (p := 80) (zby_w zwX9_held_2 16 rfl)) ?_
      refine zr_imul C (zo_104 (p := 81) (zby_w zwX9_held_2 17 rfl)) ?_
      refine zr_iadd C (zo_96 (p := 82) (zby_w zwX9_held_2 18 rfl)) ?_
      refine zr_topi (fun x19 hx19 => ?_)
      replace h := h x19 hx19
      refine zr_istore C [(7, .int x19), (0, .ref (g.2.1 69)), (1, .int v1), (2, .int v2), (3, .int v3), (4, .int v4), (5, .int v5), (6, .int v6)] (zo_54 (p := 83) (k := 7) (a := 7) (zby_w zwX9_held_2 19 rfl) (zby_w zwX9_held_2 20 rfl) (by decide)) (by decide) rfl ?_
      refine zr_iload C (zo_21 (p := 85) (k := 7) (a := 7) (zby_w zwX9_held_2 21 rfl) (zby_w zwX9_held_2 22 rfl) (by decide)) rfl ?_
      refine zr_iload C (zo_21 (p := 87) (k := 5) (a := 5) (zby_w zwX9_held_2 23 rfl) (zby_w zwX9_held_2 24 rfl) (by decide)) rfl ?_
      have hJ22 : ∀ z21 : Int32, z21 = (if v5 ≤ x19 then v4 else v6) → zGG p l e R s m args below meth c Q g n1 n2 8 99 [(7, .int x19), (0, .ref (g.2.1 69)), (1, .int v1), (2, .int v2), (3, .int v3), (4, .int v4), (5, .int v5), (6, .int v6)] [.int z21] σ := by
        intro z21 hz21
        replace h := h z21 hz21
        refine zr_istore C [(4, .int z21), (7, .int x19), (0, .ref (g.2.1 69)), (1, .int v1), (2, .int v2), (3, .int v3), (5, .int v5), (6, .int v6)] (zo_54 (p := 99) (k := 4) (a := 4) (zby_w zwX9_held_3 3 rfl) (zby_w zwX9_held_3 4 rfl) (by decide)) (by decide) rfl ?_
        refine zr_iload C (zo_21 (p := 101) (k := 7) (a := 7) (zby_w zwX9_held_3 5 rfl) (zby_w zwX9_held_3 6 rfl) (by decide)) rfl ?_
        refine zr_iload C (zo_21 (p := 103) (k := 5) (a := 5) (zby_w zwX9_held_3 7 rfl) (zby_w zwX9_held_3 8 rfl) (by decide)) rfl ?_
        have hJ26 : ∀ z25 : Int32, z25 = (if v5 ≤ x19 then v5 else x19) → zGG p l e R s m args below meth c Q g n1 n2 8 115 [(4, .int z21), (7, .int x19), (0, .ref (g.2.1 69)), (1, .int v1), (2, .int v2), (3, .int v3), (5, .int v5), (6, .int v6)] [.int z25] σ := by
          intro z25 hz25
          replace h := h z25 hz25
          refine zr_istore C [(5, .int z25), (4, .int z21), (7, .int x19), (0, .ref (g.2.1 69)), (1, .int v1), (2, .int v2), (3, .int v3), (6, .int v6)] (zo_54 (p := 115) (k := 5) (a := 5) (zby_w zwX9_held_3 19 rfl) (zby_w zwX9_held_3 20 rfl) (by decide)) (by decide) rfl ?_
          refine zr_iinc C (v6 + 1) [(6, .int (v6 + 1)), (5, .int z25), (4, .int z21), (7, .int x19), (0, .ref (g.2.1 69)), (1, .int v1), (2, .int v2), (3, .int v3)] d_X9_held_117 rfl rfl (by decide) rfl ?_
          refine zr_goto C 47 (zo_167 (p := 120) (k := (-73)) (a := 255) (b := 183) (zby_w zwX9_held_3 24 rfl) (zby_w zwX9_held_3 25 rfl) (zby_w zwX9_held_3 26 rfl) (by decide)) (by decide) ?_
          exact zr_pick [4, 5, 6, 7, 2, 1, 0] rfl (ih z21 z25 (v6 + 1) h)
        refine zr_icmp_ge C 113 (zo_162 (p := 105) (k := 8) (a := 0) (b := 8) (zby_w zwX9_held_3 9 rfl) (zby_w zwX9_held_3 10 rfl) (zby_w zwX9_held_3 11 rfl) (by decide)) (by decide) (fun hc24 => ?_) (fun hc24 => ?_)
        · skip
          refine zr_iload C (zo_21 (p := 113) (k := 5) (a := 5) (zby_w zwX9_held_3 17 rfl) (zby_w zwX9_held_3 18 rfl) (by decide)) rfl ?_
          exact hJ26 _ (by rw [if_pos hc24])
        · skip
          refine zr_iload C (zo_21 (p := 108) (k := 7) (a := 7) (zby_w zwX9_held_3 12 rfl) (zby_w zwX9_held_3 13 rfl) (by decide)) rfl ?_
          refine zr_goto C 115 (zo_167 (p := 110) (k := 5) (a := 0) (b := 5) (zby_w zwX9_held_3 14 rfl) (zby_w zwX9_held_3 15 rfl) (zby_w zwX9_held_3 16 rfl) (by decide)) (by decide) ?_
          exact hJ26 _ (by rw [if_neg hc24])
      refine zr_icmp_ge C 97 (zo_162 (p := 89) (k := 8) (a := 0) (b := 8) (zby_w zwX9_held_2 25 rfl) (zby_w zwX9_held_2 26 rfl) (zby_w zwX9_held_2 27 rfl) (by decide)) (by decide) (fun hc20 => ?_) (fun hc20 => ?_)
      · skip
        refine zr_iload C (zo_21 (p := 97) (k := 4) (a := 4) (zby_w zwX9_held_3 1 rfl) (zby_w zwX9_held_3 2 rfl) (by decide)) rfl ?_
        exact hJ22 _ (by rw [if_pos hc20])
      · skip
        refine zr_iload C (zo_21 (p := 92) (k := 6) (a := 6) (zby_w zwX9_held_2 28 rfl) (zby_w zwX9_held_2 29 rfl) (by decide)) rfl ?_
        refine zr_goto C 99 (zo_167 (p := 94) (k := 5) (a := 0) (b := 5) (zby_w zwX9_held_2 30 rfl) (zby_w zwX9_held_2 31 rfl) (zby_w zwX9_held_2 32 rfl) (by decide)) (by decide) ?_
        exact hJ22 _ (by rw [if_neg hc20])

def wp_X9_held (p1 : Int32) (p2 : Int32) (p3 : Int32) (σ : zST) (Post : Int32 → Prop) : Prop := wp_X9_isShip p1 σ (fun r1 => (if r1 = (0) then Post (-1 : Int32) else wp_X9_in (p2.toInt64) (0 : Int64) (976 : Int64) σ (fun r4 => (if r4 = (0) then Post (-2 : Int32) else wp_X9_in (p3.toInt64) (0 : Int64) (2 : Int64) σ (fun r7 => (if r7 = (0) then Post (-2 : Int32) else ∃ M28 : Nat, wp_X9_held_L47 p1 p2 p3 σ Post M28 p2 (1000000000 : Int32) p2))))))
set_option maxRecDepth 100000 in
set_option maxHeartbeats 4000000 in
theorem g_X9_held {p : Program} {l : Launch} {e : Env} {R : Room} {s : State} {m : MethodId} {args : Array Value} {below : List Frame} {meth : Method} {c : Code} {Q : State → Prop} {g : zG} {n1 n2 : Nat} (C : zCX p R s m args meth c g n1 n2 cX9_held 8 RX9 4 91) {p1 : Int32} {p2 : Int32} {p3 : Int32} {σ : zST} {Post : Int32 → Prop} (hret : ∀ (v : Int32) (pc : Nat) (lv : List (Nat × Value)), Post v → decode cX9_held pc = .ok (.ireturn, 1) → zGG p l e R s m args below meth c Q g n1 n2 8 pc lv [.int v] σ) (h : wp_X9_held p1 p2 p3 σ Post) : zGG p l e R s m args below meth c Q g n1 n2 8 0 [(0, .ref (g.2.1 69)), (1, .int p1), (2, .int p2), (3, .int p3)] [] σ := by
  unfold wp_X9_held at h
  refine zr_aload_n C (zo_42 (p := 0) (zby_w zwX9_held_0 0 rfl)) rfl ?_
  refine zr_iload_n C (zo_27 (p := 1) (zby_w zwX9_held_0 1 rfl)) rfl ?_
  refine zr_cip (zr_runV (As := [.int p1]) (rest := []) C vw_X9_112 (c_X9_isShip l g p1 σ _ h) (sh_69) rfl (by decide) (by decide) rfl rfl (Nat.le_of_ble_eq_true rfl) (zo_182 (p := 2) (k := 112) (a := 0) (b := 112) (zby_w zwX9_held_0 2 rfl) (zby_w zwX9_held_0 3 rfl) (zby_w zwX9_held_0 4 rfl) (by decide))) (fun r1 h => ?_)
  refine zr_if_ne C 10 (zo_154 (p := 5) (k := 5) (a := 0) (b := 5) (zby_w zwX9_held_0 5 rfl) (zby_w zwX9_held_0 6 rfl) (zby_w zwX9_held_0 7 rfl) (by decide)) (by decide) (fun hc3 => ?_) (fun hc3 => ?_)
  · rw [if_neg hc3] at h
    refine zr_iload_n C (zo_28 (p := 10) (zby_w zwX9_held_0 10 rfl)) rfl ?_
    refine zr_i2l C (zo_133 (p := 11) (zby_w zwX9_held_0 11 rfl)) ?_
    refine zr_lconst C (0 : Int64) (zo_9 (p := 12) (zby_w zwX9_held_0 12 rfl)) (by decide) ?_
    refine zr_ldc2 C (v := (976 : Int64)) cl_X9_228 (zo_20 (p := 13) (k := 228) (a := 0) (b := 228) (zby_w zwX9_held_0 13 rfl) (zby_w zwX9_held_0 14 rfl) (zby_w zwX9_held_0 15 rfl) (by decide)) ?_
    refine zr_cip (zr_runS (As := [.long (p2.toInt64), .long (0 : Int64), .long (976 : Int64)]) (rest := []) C sw_X9_89 (c_X9_in l g (p2.toInt64) (0 : Int64) (976 : Int64) σ _ h) (by decide) (by decide) rfl rfl (Nat.le_of_ble_eq_true rfl) (zo_184 (p := 16) (k := 89) (a := 0) (b := 89) (zby_w zwX9_held_0 16 rfl) (zby_w zwX9_held_0 17 rfl) (zby_w zwX9_held_0 18 rfl) (by decide))) (fun r4 h => ?_)
    refine zr_if_eq C 34 (zo_153 (p := 19) (k := 15) (a := 0) (b := 15) (zby_w zwX9_held_0 19 rfl) (zby_w zwX9_held_0 20 rfl) (zby_w zwX9_held_0 21 rfl) (by decide)) (by decide) (fun hc6 => ?_) (fun hc6 => ?_)
    · rw [if_pos hc6] at h
      refine zr_bipush C (-2 : Int32) d_X9_held_34 (by decide) ?_
      exact hret _ _ _ h d_X9_held_36
    · rw [if_neg hc6] at h
      refine zr_iload_n C (zo_29 (p := 22) (zby_w zwX9_held_0 22 rfl)) rfl ?_
      refine zr_i2l C (zo_133 (p := 23) (zby_w zwX9_held_0 23 rfl)) ?_
      refine zr_lconst C (0 : Int64) (zo_9 (p := 24) (zby_w zwX9_held_0 24 rfl)) (by decide) ?_
      refine zr_ldc2 C (v := (2 : Int64)) cl_X9_102 (zo_20 (p := 25) (k := 102) (a := 0) (b := 102) (zby_w zwX9_held_0 25 rfl) (zby_w zwX9_held_0 26 rfl) (zby_w zwX9_held_0 27 rfl) (by decide)) ?_
      refine zr_cip (zr_runS (As := [.long (p3.toInt64), .long (0 : Int64), .long (2 : Int64)]) (rest := []) C sw_X9_89 (c_X9_in l g (p3.toInt64) (0 : Int64) (2 : Int64) σ _ h) (by decide) (by decide) rfl rfl (Nat.le_of_ble_eq_true rfl) (zo_184 (p := 28) (k := 89) (a := 0) (b := 89) (zby_w zwX9_held_0 28 rfl) (zby_w zwX9_held_0 29 rfl) (zby_w zwX9_held_0 30 rfl) (by decide))) (fun r7 h => ?_)
      refine zr_if_ne C 37 (zo_154 (p := 31) (k := 6) (a := 0) (b := 6) (zby_w zwX9_held_0 31 rfl) (zby_w zwX9_held_0 32 rfl) (zby_w zwX9_held_0 33 rfl) (by decide)) (by decide) (fun hc9 => ?_) (fun hc9 => ?_)
      · rw [if_neg hc9] at h
        refine zr_iload_n C (zo_28 (p := 37) (zby_w zwX9_held_1 5 rfl)) rfl ?_
        refine zr_istore C [(4, .int p2), (0, .ref (g.2.1 69)), (1, .int p1), (2, .int p2), (3, .int p3)] (zo_54 (p := 38) (k := 4) (a := 4) (zby_w zwX9_held_1 6 rfl) (zby_w zwX9_held_1 7 rfl) (by decide)) (by decide) rfl ?_
        refine zr_ldc C (v := (1000000000 : Int32)) cw_X9_230 (zo_18 (p := 40) (k := 230) (a := 230) (zby_w zwX9_held_1 8 rfl) (zby_w zwX9_held_1 9 rfl) (by decide)) ?_
        refine zr_istore C [(5, .int (1000000000 : Int32)), (4, .int p2), (0, .ref (g.2.1 69)), (1, .int p1), (2, .int p2), (3, .int p3)] (zo_54 (p := 42) (k := 5) (a := 5) (zby_w zwX9_held_1 10 rfl) (zby_w zwX9_held_1 11 rfl) (by decide)) (by decide) rfl ?_
        refine zr_iload_n C (zo_28 (p := 44) (zby_w zwX9_held_1 12 rfl)) rfl ?_
        refine zr_istore C [(6, .int p2), (5, .int (1000000000 : Int32)), (4, .int p2), (0, .ref (g.2.1 69)), (1, .int p1), (2, .int p2), (3, .int p3)] (zo_54 (p := 45) (k := 6) (a := 6) (zby_w zwX9_held_1 13 rfl) (zby_w zwX9_held_1 14 rfl) (by decide)) (by decide) rfl ?_
        obtain ⟨M28, h⟩ := h
        exact zr_pick [3, 4, 5, 6, 2, 1, 0] rfl (g_X9_held_L47 C hret M28 p2 (1000000000 : Int32) p2 h)
      · rw [if_pos hc9] at h
        refine zr_bipush C (-2 : Int32) d_X9_held_34 (by decide) ?_
        exact hret _ _ _ h d_X9_held_36
  · rw [if_pos hc3] at h
    refine zr_iconst C (-1 : Int32) (zo_2 (p := 8) (zby_w zwX9_held_0 8 rfl)) (by decide) ?_
    exact hret _ _ _ h (zo_172 (p := 9) (zby_w zwX9_held_0 9 rfl))
set_option maxRecDepth 20000 in
theorem c_X9_held (l : Launch) (g : zG) (p1 : Int32) (p2 : Int32) (p3 : Int32) (σ : zST) (Post : Int32 → Prop) (h : wp_X9_held p1 p2 p3 σ Post) : Met l yX9_held (Cond.code yX9_held cX9_held 8 (some .int) :: zGW) (zRm 4 91) (va_Pc [.ref (g.2.1 69), .int p1, .int p2, .int p3] (zPP g σ)) (va_Qi (fun r u => Post r ∧ u = σ) (zBB g) (zA g)) 0 0 (zA g) :=
  zMet (by decide) (Nat.le_of_ble_eq_true rfl) (fun p e s m below meth c hr C => g_X9_held C (fun v pc lv hp hd => zr_iret C hr ⟨hp, rfl⟩ hd) h)
def wp_X9_isInHarbour (p1 : Int32) (σ : zST) (Post : Int32 → Prop) : Prop := wp_X9_isShip p1 σ (fun r1 => (if r1 = (0) then True else vp_in p1 6 ∧ True) ∧ ∀ z4 : Int32, z4 = (if r1 = (0) then (0 : Int32) else (if (σ.1 73 p1.toNatClampNeg) = (0) then (1 : Int32) else (0 : Int32))) → zB z4 ∧ Post z4)
set_option maxRecDepth 100000 in
set_option maxHeartbeats 4000000 in
theorem g_X9_isInHarbour {p : Program} {l : Launch} {e : Env} {R : Room} {s : State} {m : MethodId} {args : Array Value} {below : List Frame} {meth : Method} {c : Code} {Q : State → Prop} {g : zG} {n1 n2 : Nat} (C : zCX p R s m args meth c g n1 n2 cX9_isInHarbour 2 RX9 3 66) {p1 : Int32} {σ : zST} {Post : Int32 → Prop} (hret : ∀ (v : Int32) (pc : Nat) (lv : List (Nat × Value)), zB v → Post v → decode cX9_isInHarbour pc = .ok (.ireturn, 1) → zGG p l e R s m args below meth c Q g n1 n2 2 pc lv [.int v] σ) (h : wp_X9_isInHarbour p1 σ Post) : zGG p l e R s m args below meth c Q g n1 n2 2 0 [(0, .ref (g.2.1 69)), (1, .int p1)] [] σ := by
  unfold wp_X9_isInHarbour at h
  refine zr_aload_n C (zo_42 (p := 0) (zby_w zwX9_isInHarbour_0 0 rfl)) rfl ?_
  refine zr_iload_n C (zo_27 (p := 1) (zby_w zwX9_isInHarbour_0 1 rfl)) rfl ?_
  refine zr_cip (zr_runV (As := [.int p1]) (rest := []) C vw_X9_112 (c_X9_isShip l g p1 σ _ h) (sh_69) rfl (by decide) (by decide) rfl rfl (Nat.le_of_ble_eq_true rfl) (zo_182 (p := 2) (k := 112) (a := 0) (b := 112) (zby_w zwX9_isInHarbour_0 2 rfl) (zby_w zwX9_isInHarbour_0 3 rfl) (zby_w zwX9_isInHarbour_0 4 rfl) (by decide))) (fun r1 h => ?_)
  obtain ⟨ho6, h⟩ := h
  have hJ5 : ∀ z4 : Int32, z4 = (if r1 = (0) then (0 : Int32) else (if (σ.1 73 p1.toNatClampNeg) = (0) then (1 : Int32) else (0 : Int32))) → zGG p l e R s m args below meth c Q g n1 n2 2 22 [(0, .ref (g.2.1 69)), (1, .int p1)] [.int z4] σ := by
    intro z4 hz4
    replace h := h z4 hz4
    exact hret _ _ _ h.1 h.2 (zo_172 (p := 22) (zby_w zwX9_isInHarbour_0 22 rfl))
  refine zr_if_eq C 21 (zo_153 (p := 5) (k := 16) (a := 0) (b := 16) (zby_w zwX9_isInHarbour_0 5 rfl) (zby_w zwX9_isInHarbour_0 6 rfl) (zby_w zwX9_isInHarbour_0 7 rfl) (by decide)) (by decide) (fun hc3 => ?_) (fun hc3 => ?_)
  · skip
    rw [if_pos hc3] at ho6
    refine zr_iconst C (0 : Int32) d_X9_isInHarbour_21 (by decide) ?_
    exact hJ5 _ (by rw [if_pos hc3])
  · skip
    rw [if_neg hc3] at ho6
    refine zr_aload_n C (zo_42 (p := 8) (zby_w zwX9_isInHarbour_0 8 rfl)) rfl ?_
    refine zr_getr (u := 73) C fw_X9_19 (sh_69) rfl (zo_180 (p := 9) (k := 19) (a := 0) (b := 19) (zby_w zwX9_isInHarbour_0 9 rfl) (zby_w zwX9_isInHarbour_0 10 rfl) (zby_w zwX9_isInHarbour_0 11 rfl) (by decide)) ?_
    refine zr_iload_n C (zo_27 (p := 12) (zby_w zwX9_isInHarbour_0 12 rfl)) rfl ?_
    obtain ⟨ho7, ho6⟩ := ho6
    refine zr_iald C (sh_73) ho7 (zo_46 (p := 13) (zby_w zwX9_isInHarbour_0 13 rfl)) ?_
    refine zr_if_ne C 21 (zo_154 (p := 14) (k := 7) (a := 0) (b := 7) (zby_w zwX9_isInHarbour_0 14 rfl) (zby_w zwX9_isInHarbour_0 15 rfl) (zby_w zwX9_isInHarbour_0 16 rfl) (by decide)) (by decide) (fun hc8 => ?_) (fun hc8 => ?_)
    · skip
      refine zr_iconst C (0 : Int32) d_X9_isInHarbour_21 (by decide) ?_
      exact hJ5 _ (by rw [if_neg hc3, if_neg hc8])
    · skip
      refine zr_iconst C (1 : Int32) (zo_4 (p := 17) (zby_w zwX9_isInHarbour_0 17 rfl)) (by decide) ?_
      refine zr_goto C 22 (zo_167 (p := 18) (k := 4) (a := 0) (b := 4) (zby_w zwX9_isInHarbour_0 18 rfl) (zby_w zwX9_isInHarbour_0 19 rfl) (zby_w zwX9_isInHarbour_0 20 rfl) (by decide)) (by decide) ?_
      exact hJ5 _ (by rw [if_neg hc3, if_pos hc8])
set_option maxRecDepth 20000 in
theorem c_X9_isInHarbour (l : Launch) (g : zG) (p1 : Int32) (σ : zST) (Post : Int32 → Prop) (h : wp_X9_isInHarbour p1 σ Post) : Met l yX9_isInHarbour (Cond.code yX9_isInHarbour cX9_isInHarbour 2 (some .boolean) :: zGW) (zRm 3 66) (va_Pc [.ref (g.2.1 69), .int p1] (zPP g σ)) (va_Qi (fun r u => Post r ∧ u = σ) (zBB g) (zA g)) 0 0 (zA g) :=
  zMet (by decide) (Nat.le_of_ble_eq_true rfl) (fun p e s m below meth c hr C => g_X9_isInHarbour C (fun v pc lv hz hp hd => zr_zret C hr hz ⟨hp, rfl⟩ hd) h)
def wp_X9_layFleet_L42 (v1 : Int32) (v2 : Int32) (v3 : Int32) (K115 : zST → Prop) : Nat → Int32 → zST → Prop
  | 0, _, _ => False
  | N + 1, v4, σ => (if (σ.1 69 34) ≤ v4 then K115 σ else vp_in v4 729 ∧ wp_X9_meanOf v2 v3 v1 σ (fun r8 => vp_in ((v3 * (σ.1 69 34)) + v4) 729 ∧ ∀ σ11 : zST, σ11 = (wI σ 82 ((v3 * (σ.1 69 34)) + v4).toNatClampNeg ((σ.1 82 v4.toNatClampNeg) + r8)) → vp_in v4 729 ∧ wp_X9_worstOf v2 v3 v1 σ11 (fun r13 => vp_in ((v3 * (σ11.1 69 34)) + v4) 729 ∧ wp_X9_layFleet_L42 v1 v2 v3 K115 N (v4 + 1) (wI σ11 83 ((v3 * (σ11.1 69 34)) + v4).toNatClampNeg ((σ11.1 83 v4.toNatClampNeg) + r13)))))

set_option maxRecDepth 100000 in
set_option maxHeartbeats 4000000 in
theorem g_X9_layFleet_L42 {p : Program} {l : Launch} {e : Env} {R : Room} {s : State} {m : MethodId} {args : Array Value} {below : List Frame} {meth : Method} {c : Code} {Q : State → Prop} {g : zG} {n1 n2 : Nat} (C : zCX p R s m args meth c g n1 n2 cX9_layFleet 5 RX9 4 87) {v1 : Int32} {v2 : Int32} {v3 : Int32} {K115 : zST → Prop} (hK115 : ∀ (σ : zST), K115 σ → zGG p l e R s m args below meth c Q g n1 n2 5 115 [(0, .ref (g.2.1 69)), (1, .int v1), (2, .int v2), (3, .int v3)] [] σ) : ∀ (N : Nat) (v4 : Int32) (σ : zST) , wp_X9_layFleet_L42 v1 v2 v3 K115 N v4 σ → zGG p l e R s m args below meth c Q g n1 n2 5 42 [(0, .ref (g.2.1 69)), (1, .int v1), (2, .int v2), (3, .int v3), (4, .int v4)] [] σ := by
  intro N
  induction N with
  | zero =>
    intro v4 σ h
    exact h.elim
  | succ N ih =>
    intro v4 σ h
    rw [wp_X9_layFleet_L42] at h
    refine zr_iload C (zo_21 (p := 42) (k := 4) (a := 4) (zby_w zwX9_layFleet_1 10 rfl) (zby_w zwX9_layFleet_1 11 rfl) (by decide)) rfl ?_
    refine zr_aload_n C (zo_42 (p := 44) (zby_w zwX9_layFleet_1 12 rfl)) rfl ?_
    refine zr_geti C fw_X9_231 (sh_69) rfl (zo_180 (p := 45) (k := 231) (a := 0) (b := 231) (zby_w zwX9_layFleet_1 13 rfl) (zby_w zwX9_layFleet_1 14 rfl) (zby_w zwX9_layFleet_1 15 rfl) (by decide)) ?_
    refine zr_icmp_ge C 115 (zo_162 (p := 48) (k := 67) (a := 0) (b := 67) (zby_w zwX9_layFleet_1 16 rfl) (zby_w zwX9_layFleet_1 17 rfl) (zby_w zwX9_layFleet_1 18 rfl) (by decide)) (by decide) (fun hc6 => ?_) (fun hc6 => ?_)
    · rw [if_pos hc6] at h
      exact zr_pick [0, 1, 2, 3] rfl (hK115 σ h)
    · rw [if_neg hc6] at h
      refine zr_aload_n C (zo_42 (p := 51) (zby_w zwX9_layFleet_1 19 rfl)) rfl ?_
      refine zr_getr (u := 82) C fw_X9_46 (sh_69) rfl (zo_180 (p := 52) (k := 46) (a := 0) (b := 46) (zby_w zwX9_layFleet_1 20 rfl) (zby_w zwX9_layFleet_1 21 rfl) (zby_w zwX9_layFleet_1 22 rfl) (by decide)) ?_
      refine zr_iload_n C (zo_29 (p := 55) (zby_w zwX9_layFleet_1 23 rfl)) rfl ?_
      refine zr_aload_n C (zo_42 (p := 56) (zby_w zwX9_layFleet_1 24 rfl)) rfl ?_
      refine zr_geti C fw_X9_231 (sh_69) rfl (zo_180 (p := 57) (k := 231) (a := 0) (b := 231) (zby_w zwX9_layFleet_1 25 rfl) (zby_w zwX9_layFleet_1 26 rfl) (zby_w zwX9_layFleet_1 27 rfl) (by decide)) ?_
      refine zr_imul C (zo_104 (p := 60) (zby_w zwX9_layFleet_1 28 rfl)) ?_
      refine zr_iload C (zo_21 (p := 61) (k := 4) (a := 4) (zby_w zwX9_layFleet_1 29 rfl) (zby_w zwX9_layFleet_1 30 rfl) (by decide)) rfl ?_
      refine zr_iadd C (zo_96 (p := 63) (zby_w zwX9_layFleet_1 31 rfl)) ?_
      refine zr_aload_n C (zo_42 (p := 64) (zby_w zwX9_layFleet_2 0 rfl)) rfl ?_
      refine zr_getr (u := 82) C fw_X9_46 (sh_69) rfl (zo_180 (p := 65) (k := 46) (a := 0) (b := 46) (zby_w zwX9_layFleet_2 1 rfl) (zby_w zwX9_layFleet_2 2 rfl) (zby_w zwX9_layFleet_2 3 rfl) (by decide)) ?_
      refine zr_iload C (zo_21 (p := 68) (k := 4) (a := 4) (zby_w zwX9_layFleet_2 4 rfl) (zby_w zwX9_layFleet_2 5 rfl) (by decide)) rfl ?_
      obtain ⟨ho7, h⟩ := h
      refine zr_iald C (sh_82) ho7 (zo_46 (p := 70) (zby_w zwX9_layFleet_2 6 rfl)) ?_
      refine zr_aload_n C (zo_42 (p := 71) (zby_w zwX9_layFleet_2 7 rfl)) rfl ?_
      refine zr_iload_n C (zo_28 (p := 72) (zby_w zwX9_layFleet_2 8 rfl)) rfl ?_
      refine zr_iload_n C (zo_29 (p := 73) (zby_w zwX9_layFleet_2 9 rfl)) rfl ?_
      refine zr_iload_n C (zo_27 (p := 74) (zby_w zwX9_layFleet_2 10 rfl)) rfl ?_
      refine zr_cip (zr_runV (As := [.int v2, .int v3, .int v1]) (rest := [.int (σ.1 82 v4.toNatClampNeg), .int ((v3 * (σ.1 69 34)) + v4), .ref (g.2.1 82)]) C vw_X9_212 (c_X9_meanOf l g v2 v3 v1 σ _ h) (sh_69) rfl (by decide) (by decide) rfl rfl (Nat.le_of_ble_eq_true rfl) (zo_182 (p := 75) (k := 212) (a := 0) (b := 212) (zby_w zwX9_layFleet_2 11 rfl) (zby_w zwX9_layFleet_2 12 rfl) (zby_w zwX9_layFleet_2 13 rfl) (by decide))) (fun r8 h => ?_)
      refine zr_iadd C (zo_96 (p := 78) (zby_w zwX9_layFleet_2 14 rfl)) ?_
      obtain ⟨ho10, h⟩ := h
      refine zr_iast C (sh_82) ho10 (zo_79 (p := 79) (zby_w zwX9_layFleet_2 15 rfl)) ?_
      refine zr_aload_n C (zo_42 (p := 80) (zby_w zwX9_layFleet_2 16 rfl)) rfl ?_
      refine zr_getr (u := 83) C fw_X9_49 (sh_69) rfl (zo_180 (p := 81) (k := 49) (a := 0) (b := 49) (zby_w zwX9_layFleet_2 17 rfl) (zby_w zwX9_layFleet_2 18 rfl) (zby_w zwX9_layFleet_2 19 rfl) (by decide)) ?_
      refine zr_iload_n C (zo_29 (p := 84) (zby_w zwX9_layFleet_2 20 rfl)) rfl ?_
      refine zr_aload_n C (zo_42 (p := 85) (zby_w zwX9_layFleet_2 21 rfl)) rfl ?_
      refine zr_tops (fun σ11 hσ11 => ?_)
      replace h := h σ11 hσ11
      refine zr_geti C fw_X9_231 (sh_69) rfl (zo_180 (p := 86) (k := 231) (a := 0) (b := 231) (zby_w zwX9_layFleet_2 22 rfl) (zby_w zwX9_layFleet_2 23 rfl) (zby_w zwX9_layFleet_2 24 rfl) (by decide)) ?_
      refine zr_imul C (zo_104 (p := 89) (zby_w zwX9_layFleet_2 25 rfl)) ?_
      refine zr_iload C (zo_21 (p := 90) (k := 4) (a := 4) (zby_w zwX9_layFleet_2 26 rfl) (zby_w zwX9_layFleet_2 27 rfl) (by decide)) rfl ?_
      refine zr_iadd C (zo_96 (p := 92) (zby_w zwX9_layFleet_2 28 rfl)) ?_
      refine zr_aload_n C (zo_42 (p := 93) (zby_w zwX9_layFleet_2 29 rfl)) rfl ?_
      refine zr_getr (u := 83) C fw_X9_49 (sh_69) rfl (zo_180 (p := 94) (k := 49) (a := 0) (b := 49) (zby_w zwX9_layFleet_2 30 rfl) (zby_w zwX9_layFleet_2 31 rfl) (zby_w zwX9_layFleet_2 32 rfl) (by decide)) ?_
      refine zr_iload C (zo_21 (p := 97) (k := 4) (a := 4) (zby_w zwX9_layFleet_3 1 rfl) (zby_w zwX9_layFleet_3 2 rfl) (by decide)) rfl ?_
      obtain ⟨ho12, h⟩ := h
      refine zr_iald C (sh_83) ho12 (zo_46 (p := 99) (zby_w zwX9_layFleet_3 3 rfl)) ?_
      refine zr_aload_n C (zo_42 (p := 100) (zby_w zwX9_layFleet_3 4 rfl)) rfl ?_
      refine zr_iload_n C (zo_28 (p := 101) (zby_w zwX9_layFleet_3 5 rfl)) rfl ?_
      refine zr_iload_n C (zo_29 (p := 102) (zby_w zwX9_layFleet_3 6 rfl)) rfl ?_
      refine zr_iload_n C (zo_27 (p := 103) (zby_w zwX9_layFleet_3 7 rfl)) rfl ?_
      refine zr_cip (zr_runV (As := [.int v2, .int v3, .int v1]) (rest := [.int (σ11.1 83 v4.toNatClampNeg), .int ((v3 * (σ11.1 69 34)) + v4), .ref (g.2.1 83)]) C vw_X9_222 (c_X9_worstOf l g v2 v3 v1 σ11 _ h) (sh_69) rfl (by decide) (by decide) rfl rfl (Nat.le_of_ble_eq_true rfl) (zo_182 (p := 104) (k := 222) (a := 0) (b := 222) (zby_w zwX9_layFleet_3 8 rfl) (zby_w zwX9_layFleet_3 9 rfl) (zby_w zwX9_layFleet_3 10 rfl) (by decide))) (fun r13 h => ?_)
      refine zr_iadd C (zo_96 (p := 107) (zby_w zwX9_layFleet_3 11 rfl)) ?_
      obtain ⟨ho15, h⟩ := h
      refine zr_iast C (sh_83) ho15 (zo_79 (p := 108) (zby_w zwX9_layFleet_3 12 rfl)) ?_
      refine zr_iinc C (v4 + 1) [(4, .int (v4 + 1)), (0, .ref (g.2.1 69)), (1, .int v1), (2, .int v2), (3, .int v3)] d_X9_layFleet_109 rfl rfl (by decide) rfl ?_
      refine zr_goto C 42 (zo_167 (p := 112) (k := (-70)) (a := 255) (b := 186) (zby_w zwX9_layFleet_3 16 rfl) (zby_w zwX9_layFleet_3 17 rfl) (zby_w zwX9_layFleet_3 18 rfl) (by decide)) (by decide) ?_
      exact zr_pick [1, 2, 3, 4, 0] rfl (ih (v4 + 1) (wI σ11 83 ((v3 * (σ11.1 69 34)) + v4).toNatClampNeg ((σ11.1 83 v4.toNatClampNeg) + r13)) h)

def wp_X9_layFleet_L35 (v1 : Int32) (v2 : Int32) (K121 : zST → Prop) : Nat → Int32 → zST → Prop
  | 0, _, _ => False
  | N + 1, v3, σ => (if v3 < (0) then K121 σ else ∃ M16 : Nat, wp_X9_layFleet_L42 v1 v2 v3 (fun σ => wp_X9_layFleet_L35 v1 v2 K121 N (v3 + (-1)) σ) M16 (0 : Int32) σ)

set_option maxRecDepth 100000 in
set_option maxHeartbeats 4000000 in
theorem g_X9_layFleet_L35 {p : Program} {l : Launch} {e : Env} {R : Room} {s : State} {m : MethodId} {args : Array Value} {below : List Frame} {meth : Method} {c : Code} {Q : State → Prop} {g : zG} {n1 n2 : Nat} (C : zCX p R s m args meth c g n1 n2 cX9_layFleet 5 RX9 4 87) {v1 : Int32} {v2 : Int32} {K121 : zST → Prop} (hK121 : ∀ (σ : zST), K121 σ → zGG p l e R s m args below meth c Q g n1 n2 5 121 [(0, .ref (g.2.1 69)), (1, .int v1), (2, .int v2)] [] σ) : ∀ (N : Nat) (v3 : Int32) (σ : zST) , wp_X9_layFleet_L35 v1 v2 K121 N v3 σ → zGG p l e R s m args below meth c Q g n1 n2 5 35 [(0, .ref (g.2.1 69)), (1, .int v1), (2, .int v2), (3, .int v3)] [] σ := by
  intro N
  induction N with
  | zero =>
    intro v3 σ h
    exact h.elim
  | succ N ih =>
    intro v3 σ h
    rw [wp_X9_layFleet_L35] at h
    refine zr_iload_n C (zo_29 (p := 35) (zby_w zwX9_layFleet_1 3 rfl)) rfl ?_
    refine zr_if_lt C 121 (zo_155 (p := 36) (k := 85) (a := 0) (b := 85) (zby_w zwX9_layFleet_1 4 rfl) (zby_w zwX9_layFleet_1 5 rfl) (zby_w zwX9_layFleet_1 6 rfl) (by decide)) (by decide) (fun hc5 => ?_) (fun hc5 => ?_)
    · rw [if_pos hc5] at h
      exact zr_pick [0, 1, 2] rfl (hK121 σ h)
    · rw [if_neg hc5] at h
      refine zr_iconst C (0 : Int32) (zo_3 (p := 39) (zby_w zwX9_layFleet_1 7 rfl)) (by decide) ?_
      refine zr_istore C [(4, .int (0 : Int32)), (0, .ref (g.2.1 69)), (1, .int v1), (2, .int v2), (3, .int v3)] (zo_54 (p := 40) (k := 4) (a := 4) (zby_w zwX9_layFleet_1 8 rfl) (zby_w zwX9_layFleet_1 9 rfl) (by decide)) (by decide) rfl ?_
      obtain ⟨M16, h⟩ := h
      exact zr_pick [1, 2, 3, 4, 0] rfl (g_X9_layFleet_L42 C (fun σ h => by
          refine zr_iinc C (v3 + (-1)) [(3, .int (v3 + (-1))), (0, .ref (g.2.1 69)), (1, .int v1), (2, .int v2)] d_X9_layFleet_115 rfl rfl (by decide) rfl ?_
          refine zr_goto C 35 (zo_167 (p := 118) (k := (-83)) (a := 255) (b := 173) (zby_w zwX9_layFleet_3 22 rfl) (zby_w zwX9_layFleet_3 23 rfl) (zby_w zwX9_layFleet_3 24 rfl) (by decide)) (by decide) ?_
          exact zr_pick [1, 2, 3, 0] rfl (ih (v3 + (-1)) σ h)) M16 (0 : Int32) σ h)

def wp_X9_layFleet_L21 (v1 : Int32) (Post : zST → Prop) : Nat → Int32 → zST → Prop
  | 0, _, _ => False
  | N + 1, v2, σ => (if v2 < (0) then Post σ else wp_X9_isInHarbour v2 σ (fun r2 => (if r2 = (0) then wp_X9_layFleet_L21 v1 Post N (v2 + (-1)) σ else ∃ M17 : Nat, wp_X9_layFleet_L35 v1 v2 (fun σ => wp_X9_layFleet_L21 v1 Post N (v2 + (-1)) (wI σ 69 34 ((σ.1 69 34) * (3 : Int32)))) M17 (2 : Int32) σ)))

set_option maxRecDepth 100000 in
set_option maxHeartbeats 4000000 in
theorem g_X9_layFleet_L21 {p : Program} {l : Launch} {e : Env} {R : Room} {s : State} {m : MethodId} {args : Array Value} {below : List Frame} {meth : Method} {c : Code} {Q : State → Prop} {g : zG} {n1 n2 : Nat} (C : zCX p R s m args meth c g n1 n2 cX9_layFleet 5 RX9 4 87) {v1 : Int32}  {Post : zST → Prop} (hret : ∀ (σ : zST) (pc : Nat) (lv : List (Nat × Value)), Post σ → decode cX9_layFleet pc = .ok (.return_, 1) → zGG p l e R s m args below meth c Q g n1 n2 5 pc lv [] σ) : ∀ (N : Nat) (v2 : Int32) (σ : zST) , wp_X9_layFleet_L21 v1 Post N v2 σ → zGG p l e R s m args below meth c Q g n1 n2 5 21 [(0, .ref (g.2.1 69)), (1, .int v1), (2, .int v2)] [] σ := by
  intro N
  induction N with
  | zero =>
    intro v2 σ h
    exact h.elim
  | succ N ih =>
    intro v2 σ h
    rw [wp_X9_layFleet_L21] at h
    refine zr_iload_n C (zo_28 (p := 21) (zby_w zwX9_layFleet_0 21 rfl)) rfl ?_
    refine zr_if_lt C 137 (zo_155 (p := 22) (k := 115) (a := 0) (b := 115) (zby_w zwX9_layFleet_0 22 rfl) (zby_w zwX9_layFleet_0 23 rfl) (zby_w zwX9_layFleet_0 24 rfl) (by decide)) (by decide) (fun hc1 => ?_) (fun hc1 => ?_)
    · rw [if_pos hc1] at h
      exact hret _ _ _ h (zo_177 (p := 137) (zby_w zwX9_layFleet_4 9 rfl))
    · rw [if_neg hc1] at h
      refine zr_aload_n C (zo_42 (p := 25) (zby_w zwX9_layFleet_0 25 rfl)) rfl ?_
      refine zr_iload_n C (zo_28 (p := 26) (zby_w zwX9_layFleet_0 26 rfl)) rfl ?_
      refine zr_cip (zr_runV (As := [.int v2]) (rest := []) C vw_X9_234 (c_X9_isInHarbour l g v2 σ _ h) (sh_69) rfl (by decide) (by decide) rfl rfl (Nat.le_of_ble_eq_true rfl) (zo_182 (p := 27) (k := 234) (a := 0) (b := 234) (zby_w zwX9_layFleet_0 27 rfl) (zby_w zwX9_layFleet_0 28 rfl) (zby_w zwX9_layFleet_0 29 rfl) (by decide))) (fun r2 h => ?_)
      refine zr_if_eq C 131 (zo_153 (p := 30) (k := 101) (a := 0) (b := 101) (zby_w zwX9_layFleet_0 30 rfl) (zby_w zwX9_layFleet_0 31 rfl) (zby_w zwX9_layFleet_0 32 rfl) (by decide)) (by decide) (fun hc4 => ?_) (fun hc4 => ?_)
      · rw [if_pos hc4] at h
        refine zr_iinc C (v2 + (-1)) [(2, .int (v2 + (-1))), (0, .ref (g.2.1 69)), (1, .int v1)] d_X9_layFleet_131 rfl rfl (by decide) rfl ?_
        refine zr_goto C 21 d_X9_layFleet_134 (by decide) ?_
        exact zr_pick [1, 2, 0] rfl (ih (v2 + (-1)) σ h)
      · rw [if_neg hc4] at h
        refine zr_iconst C (2 : Int32) (zo_5 (p := 33) (zby_w zwX9_layFleet_1 1 rfl)) (by decide) ?_
        refine zr_istore_n C [(3, .int (2 : Int32)), (0, .ref (g.2.1 69)), (1, .int v1), (2, .int v2)] (zo_62 (p := 34) (zby_w zwX9_layFleet_1 2 rfl)) (by decide) rfl ?_
        obtain ⟨M17, h⟩ := h
        exact zr_pick [1, 2, 3, 0] rfl (g_X9_layFleet_L35 C (fun σ h => by
            refine zr_aload_n C (zo_42 (p := 121) (zby_w zwX9_layFleet_3 25 rfl)) rfl ?_
            refine zr_dup C (zo_89 (p := 122) (zby_w zwX9_layFleet_3 26 rfl)) rfl ?_
            refine zr_geti C fw_X9_231 (sh_69) rfl (zo_180 (p := 123) (k := 231) (a := 0) (b := 231) (zby_w zwX9_layFleet_3 27 rfl) (zby_w zwX9_layFleet_3 28 rfl) (zby_w zwX9_layFleet_3 29 rfl) (by decide)) ?_
            refine zr_iconst C (3 : Int32) (zo_6 (p := 126) (zby_w zwX9_layFleet_3 30 rfl)) (by decide) ?_
            refine zr_imul C (zo_104 (p := 127) (zby_w zwX9_layFleet_3 31 rfl)) ?_
            refine zr_puti C fw_X9_231 pw_X9_34 (sh_69) rfl rfl rfl (zo_181 (p := 128) (k := 231) (a := 0) (b := 231) (zby_w zwX9_layFleet_4 0 rfl) (zby_w zwX9_layFleet_4 1 rfl) (zby_w zwX9_layFleet_4 2 rfl) (by decide)) ?_
            refine zr_iinc C (v2 + (-1)) [(2, .int (v2 + (-1))), (0, .ref (g.2.1 69)), (1, .int v1)] d_X9_layFleet_131 rfl rfl (by decide) rfl ?_
            refine zr_goto C 21 d_X9_layFleet_134 (by decide) ?_
            exact zr_pick [1, 2, 0] rfl (ih (v2 + (-1)) (wI σ 69 34 ((σ.1 69 34) * (3 : Int32))) h)) M17 (2 : Int32) σ h)

def wp_X9_layFleet (p1 : Int32) (σ : zST) (Post : zST → Prop) : Prop := ∃ M18 : Nat, wp_X9_layFleet_L21 p1 Post M18 (5 : Int32) (wI (wI (wI σ 69 34 (1 : Int32)) 82 (0 : Int32).toNatClampNeg (0 : Int32)) 83 (0 : Int32).toNatClampNeg (0 : Int32))
set_option maxRecDepth 100000 in
set_option maxHeartbeats 4000000 in
theorem g_X9_layFleet {p : Program} {l : Launch} {e : Env} {R : Room} {s : State} {m : MethodId} {args : Array Value} {below : List Frame} {meth : Method} {c : Code} {Q : State → Prop} {g : zG} {n1 n2 : Nat} (C : zCX p R s m args meth c g n1 n2 cX9_layFleet 5 RX9 4 87) {p1 : Int32} {σ : zST} {Post : zST → Prop} (hret : ∀ (σ : zST) (pc : Nat) (lv : List (Nat × Value)), Post σ → decode cX9_layFleet pc = .ok (.return_, 1) → zGG p l e R s m args below meth c Q g n1 n2 5 pc lv [] σ) (h : wp_X9_layFleet p1 σ Post) : zGG p l e R s m args below meth c Q g n1 n2 5 0 [(0, .ref (g.2.1 69)), (1, .int p1)] [] σ := by
  unfold wp_X9_layFleet at h
  refine zr_aload_n C (zo_42 (p := 0) (zby_w zwX9_layFleet_0 0 rfl)) rfl ?_
  refine zr_iconst C (1 : Int32) (zo_4 (p := 1) (zby_w zwX9_layFleet_0 1 rfl)) (by decide) ?_
  refine zr_puti C fw_X9_231 pw_X9_34 (sh_69) rfl rfl rfl (zo_181 (p := 2) (k := 231) (a := 0) (b := 231) (zby_w zwX9_layFleet_0 2 rfl) (zby_w zwX9_layFleet_0 3 rfl) (zby_w zwX9_layFleet_0 4 rfl) (by decide)) ?_
  refine zr_aload_n C (zo_42 (p := 5) (zby_w zwX9_layFleet_0 5 rfl)) rfl ?_
  refine zr_getr (u := 82) C fw_X9_46 (sh_69) rfl (zo_180 (p := 6) (k := 46) (a := 0) (b := 46) (zby_w zwX9_layFleet_0 6 rfl) (zby_w zwX9_layFleet_0 7 rfl) (zby_w zwX9_layFleet_0 8 rfl) (by decide)) ?_
  refine zr_iconst C (0 : Int32) (zo_3 (p := 9) (zby_w zwX9_layFleet_0 9 rfl)) (by decide) ?_
  refine zr_iconst C (0 : Int32) (zo_3 (p := 10) (zby_w zwX9_layFleet_0 10 rfl)) (by decide) ?_
  refine zr_iast C (sh_82) (by unfold vp_in; decide) (zo_79 (p := 11) (zby_w zwX9_layFleet_0 11 rfl)) ?_
  refine zr_aload_n C (zo_42 (p := 12) (zby_w zwX9_layFleet_0 12 rfl)) rfl ?_
  refine zr_getr (u := 83) C fw_X9_49 (sh_69) rfl (zo_180 (p := 13) (k := 49) (a := 0) (b := 49) (zby_w zwX9_layFleet_0 13 rfl) (zby_w zwX9_layFleet_0 14 rfl) (zby_w zwX9_layFleet_0 15 rfl) (by decide)) ?_
  refine zr_iconst C (0 : Int32) (zo_3 (p := 16) (zby_w zwX9_layFleet_0 16 rfl)) (by decide) ?_
  refine zr_iconst C (0 : Int32) (zo_3 (p := 17) (zby_w zwX9_layFleet_0 17 rfl)) (by decide) ?_
  refine zr_iast C (sh_83) (by unfold vp_in; decide) (zo_79 (p := 18) (zby_w zwX9_layFleet_0 18 rfl)) ?_
  refine zr_iconst C (5 : Int32) (zo_8 (p := 19) (zby_w zwX9_layFleet_0 19 rfl)) (by decide) ?_
  refine zr_istore_n C [(2, .int (5 : Int32)), (0, .ref (g.2.1 69)), (1, .int p1)] (zo_61 (p := 20) (zby_w zwX9_layFleet_0 20 rfl)) (by decide) rfl ?_
  obtain ⟨M18, h⟩ := h
  exact zr_pick [1, 2, 0] rfl (g_X9_layFleet_L21 C hret M18 (5 : Int32) (wI (wI (wI σ 69 34 (1 : Int32)) 82 (0 : Int32).toNatClampNeg (0 : Int32)) 83 (0 : Int32).toNatClampNeg (0 : Int32)) h)
set_option maxRecDepth 20000 in
theorem c_X9_layFleet (l : Launch) (g : zG) (p1 : Int32) (σ : zST) (Post : zST → Prop) (h : wp_X9_layFleet p1 σ Post) : Met l yX9_layFleet (Cond.code yX9_layFleet cX9_layFleet 5 none :: zGW) (zRm 4 87) (va_Pc [.ref (g.2.1 69), .int p1] (zPP g σ)) (va_Qv Post (zBB g) (zA g)) 0 0 (zA g) :=
  zMet (by decide) (Nat.le_of_ble_eq_true rfl) (fun p e s m below meth c hr C => g_X9_layFleet C (fun σ pc lv hp hd => zr_vret C hr hp hd) h)
def wp_X9_behindIt_L6 (σ : zST) (Post : Int32 → Prop) : Nat → Int32 → Int32 → Prop
  | 0, _, _ => False
  | N + 1, v2, v3 => (if (6 : Int32) ≤ v3 then Post v2 else wp_X9_isInHarbour v3 σ (fun r3 => ∀ z6 : Int32, z6 = (if r3 = (0) then (1 : Int32) else (3 : Int32)) → ∀ x9 : Int32, x9 = (v2 * z6) → wp_X9_behindIt_L6 σ Post N x9 (v3 + 1)))

set_option maxRecDepth 100000 in
set_option maxHeartbeats 4000000 in
theorem g_X9_behindIt_L6 {p : Program} {l : Launch} {e : Env} {R : Room} {s : State} {m : MethodId} {args : Array Value} {below : List Frame} {meth : Method} {c : Code} {Q : State → Prop} {g : zG} {n1 n2 : Nat} (C : zCX p R s m args meth c g n1 n2 cX9_behindIt 4 RX9 4 87) {σ : zST}  {Post : Int32 → Prop} (hret : ∀ (v : Int32) (pc : Nat) (lv : List (Nat × Value)), Post v → decode cX9_behindIt pc = .ok (.ireturn, 1) → zGG p l e R s m args below meth c Q g n1 n2 4 pc lv [.int v] σ) : ∀ (N : Nat) (v2 : Int32) (v3 : Int32) , wp_X9_behindIt_L6 σ Post N v2 v3 → zGG p l e R s m args below meth c Q g n1 n2 4 6 [(0, .ref (g.2.1 69)), (2, .int v2), (3, .int v3)] [] σ := by
  intro N
  induction N with
  | zero =>
    intro v2 v3 h
    exact h.elim
  | succ N ih =>
    intro v2 v3 h
    rw [wp_X9_behindIt_L6] at h
    refine zr_iload_n C (zo_29 (p := 6) (zby_w zwX9_behindIt_0 6 rfl)) rfl ?_
    refine zr_bipush C (6 : Int32) (zo_16 (p := 7) (k := 6) (a := 6) (zby_w zwX9_behindIt_0 7 rfl) (zby_w zwX9_behindIt_0 8 rfl) (by decide)) (by decide) ?_
    refine zr_icmp_ge C 34 (zo_162 (p := 9) (k := 25) (a := 0) (b := 25) (zby_w zwX9_behindIt_0 9 rfl) (zby_w zwX9_behindIt_0 10 rfl) (zby_w zwX9_behindIt_0 11 rfl) (by decide)) (by decide) (fun hc2 => ?_) (fun hc2 => ?_)
    · rw [if_pos hc2] at h
      refine zr_iload_n C (zo_28 (p := 34) (zby_w zwX9_behindIt_1 2 rfl)) rfl ?_
      exact hret _ _ _ h (zo_172 (p := 35) (zby_w zwX9_behindIt_1 3 rfl))
    · rw [if_neg hc2] at h
      refine zr_iload_n C (zo_28 (p := 12) (zby_w zwX9_behindIt_0 12 rfl)) rfl ?_
      refine zr_aload_n C (zo_42 (p := 13) (zby_w zwX9_behindIt_0 13 rfl)) rfl ?_
      refine zr_iload_n C (zo_29 (p := 14) (zby_w zwX9_behindIt_0 14 rfl)) rfl ?_
      refine zr_cip (zr_runV (As := [.int v3]) (rest := [.int v2]) C vw_X9_234 (c_X9_isInHarbour l g v3 σ _ h) (sh_69) rfl (by decide) (by decide) rfl rfl (Nat.le_of_ble_eq_true rfl) (zo_182 (p := 15) (k := 234) (a := 0) (b := 234) (zby_w zwX9_behindIt_0 15 rfl) (zby_w zwX9_behindIt_0 16 rfl) (zby_w zwX9_behindIt_0 17 rfl) (by decide))) (fun r3 h => ?_)
      have hJ7 : ∀ z6 : Int32, z6 = (if r3 = (0) then (1 : Int32) else (3 : Int32)) → zGG p l e R s m args below meth c Q g n1 n2 4 26 [(0, .ref (g.2.1 69)), (2, .int v2), (3, .int v3)] [.int z6, .int v2] σ := by
        intro z6 hz6
        replace h := h z6 hz6
        refine zr_imul C (zo_104 (p := 26) (zby_w zwX9_behindIt_0 26 rfl)) ?_
        refine zr_topi (fun x9 hx9 => ?_)
        replace h := h x9 hx9
        refine zr_istore_n C [(2, .int x9), (0, .ref (g.2.1 69)), (3, .int v3)] (zo_61 (p := 27) (zby_w zwX9_behindIt_0 27 rfl)) (by decide) rfl ?_
        refine zr_iinc C (v3 + 1) [(3, .int (v3 + 1)), (2, .int x9), (0, .ref (g.2.1 69))] d_X9_behindIt_28 rfl rfl (by decide) rfl ?_
        refine zr_goto C 6 (zo_167 (p := 31) (k := (-25)) (a := 255) (b := 231) (zby_w zwX9_behindIt_0 31 rfl) (zby_w zwX9_behindIt_0 32 rfl) (zby_w zwX9_behindIt_0 33 rfl) (by decide)) (by decide) ?_
        exact zr_pick [2, 1, 0] rfl (ih x9 (v3 + 1) h)
      refine zr_if_eq C 25 (zo_153 (p := 18) (k := 7) (a := 0) (b := 7) (zby_w zwX9_behindIt_0 18 rfl) (zby_w zwX9_behindIt_0 19 rfl) (zby_w zwX9_behindIt_0 20 rfl) (by decide)) (by decide) (fun hc5 => ?_) (fun hc5 => ?_)
      · skip
        refine zr_iconst C (1 : Int32) (zo_4 (p := 25) (zby_w zwX9_behindIt_0 25 rfl)) (by decide) ?_
        exact hJ7 _ (by rw [if_pos hc5])
      · skip
        refine zr_iconst C (3 : Int32) (zo_6 (p := 21) (zby_w zwX9_behindIt_0 21 rfl)) (by decide) ?_
        refine zr_goto C 26 (zo_167 (p := 22) (k := 4) (a := 0) (b := 4) (zby_w zwX9_behindIt_0 22 rfl) (zby_w zwX9_behindIt_0 23 rfl) (zby_w zwX9_behindIt_0 24 rfl) (by decide)) (by decide) ?_
        exact hJ7 _ (by rw [if_neg hc5])

def wp_X9_behindIt (p1 : Int32) (σ : zST) (Post : Int32 → Prop) : Prop := ∀ x1 : Int32, x1 = (p1 + (1 : Int32)) → ∃ M10 : Nat, wp_X9_behindIt_L6 σ Post M10 (1 : Int32) x1
set_option maxRecDepth 100000 in
set_option maxHeartbeats 4000000 in
theorem g_X9_behindIt {p : Program} {l : Launch} {e : Env} {R : Room} {s : State} {m : MethodId} {args : Array Value} {below : List Frame} {meth : Method} {c : Code} {Q : State → Prop} {g : zG} {n1 n2 : Nat} (C : zCX p R s m args meth c g n1 n2 cX9_behindIt 4 RX9 4 87) {p1 : Int32} {σ : zST} {Post : Int32 → Prop} (hret : ∀ (v : Int32) (pc : Nat) (lv : List (Nat × Value)), Post v → decode cX9_behindIt pc = .ok (.ireturn, 1) → zGG p l e R s m args below meth c Q g n1 n2 4 pc lv [.int v] σ) (h : wp_X9_behindIt p1 σ Post) : zGG p l e R s m args below meth c Q g n1 n2 4 0 [(0, .ref (g.2.1 69)), (1, .int p1)] [] σ := by
  unfold wp_X9_behindIt at h
  refine zr_iconst C (1 : Int32) (zo_4 (p := 0) (zby_w zwX9_behindIt_0 0 rfl)) (by decide) ?_
  refine zr_istore_n C [(2, .int (1 : Int32)), (0, .ref (g.2.1 69)), (1, .int p1)] (zo_61 (p := 1) (zby_w zwX9_behindIt_0 1 rfl)) (by decide) rfl ?_
  refine zr_iload_n C (zo_27 (p := 2) (zby_w zwX9_behindIt_0 2 rfl)) rfl ?_
  refine zr_iconst C (1 : Int32) (zo_4 (p := 3) (zby_w zwX9_behindIt_0 3 rfl)) (by decide) ?_
  refine zr_iadd C (zo_96 (p := 4) (zby_w zwX9_behindIt_0 4 rfl)) ?_
  refine zr_topi (fun x1 hx1 => ?_)
  replace h := h x1 hx1
  refine zr_istore_n C [(3, .int x1), (2, .int (1 : Int32)), (0, .ref (g.2.1 69)), (1, .int p1)] (zo_62 (p := 5) (zby_w zwX9_behindIt_0 5 rfl)) (by decide) rfl ?_
  obtain ⟨M10, h⟩ := h
  exact zr_pick [2, 1, 0] rfl (g_X9_behindIt_L6 C hret M10 (1 : Int32) x1 h)
set_option maxRecDepth 20000 in
theorem c_X9_behindIt (l : Launch) (g : zG) (p1 : Int32) (σ : zST) (Post : Int32 → Prop) (h : wp_X9_behindIt p1 σ Post) : Met l yX9_behindIt (Cond.code yX9_behindIt cX9_behindIt 4 (some .int) :: zGW) (zRm 4 87) (va_Pc [.ref (g.2.1 69), .int p1] (zPP g σ)) (va_Qi (fun r u => Post r ∧ u = σ) (zBB g) (zA g)) 0 0 (zA g) :=
  zMet (by decide) (Nat.le_of_ble_eq_true rfl) (fun p e s m below meth c hr C => g_X9_behindIt C (fun v pc lv hp hd => zr_iret C hr ⟨hp, rfl⟩ hd) h)
def wp_X9_bound_L49 (v2 : Int32) (v3 : Int32) (K118 : Int32 → zST → Prop) : Nat → Int32 → Int32 → zST → Prop
  | 0, _, _, _ => False
  | N + 1, v4, v5, σ => (if (σ.1 69 34) ≤ v5 then K118 v4 σ else vp_in v5 729 ∧ (if v2 < (σ.1 83 v5.toNatClampNeg) then True else (if v4 < (0) then True else vp_in v5 729 ∧ vp_in v4 729 ∧ True)) ∧ ∀ z13 : Int32, z13 = (if v2 < (σ.1 83 v5.toNatClampNeg) then (0 : Int32) else (if v4 < (0) then (1 : Int32) else (if (σ.1 82 v4.toNatClampNeg) ≤ (σ.1 82 v5.toNatClampNeg) then (0 : Int32) else (1 : Int32)))) → ∀ z21 : Int32, z21 = (if z13 = (0) then v4 else v5) → wp_X9_bound_L49 v2 v3 K118 N z21 (v5 + 1) σ)

set_option maxRecDepth 100000 in
set_option maxHeartbeats 4000000 in
theorem g_X9_bound_L49 {p : Program} {l : Launch} {e : Env} {R : Room} {s : State} {m : MethodId} {args : Array Value} {below : List Frame} {meth : Method} {c : Code} {Q : State → Prop} {g : zG} {n1 n2 : Nat} (C : zCX p R s m args meth c g n1 n2 cX9_bound 7 RX9 5 111) {v2 : Int32} {v3 : Int32} {K118 : Int32 → zST → Prop} (hK118 : ∀ (w4 : Int32) (σ : zST), K118 w4 σ → zGG p l e R s m args below meth c Q g n1 n2 7 118 [(0, .ref (g.2.1 69)), (3, .int v3), (4, .int w4)] [] σ) : ∀ (N : Nat) (v4 : Int32) (v5 : Int32) (σ : zST) , wp_X9_bound_L49 v2 v3 K118 N v4 v5 σ → zGG p l e R s m args below meth c Q g n1 n2 7 49 [(0, .ref (g.2.1 69)), (2, .int v2), (3, .int v3), (4, .int v4), (5, .int v5)] [] σ := by
  intro N
  induction N with
  | zero =>
    intro v4 v5 σ h
    exact h.elim
  | succ N ih =>
    intro v4 v5 σ h
    rw [wp_X9_bound_L49] at h
    refine zr_iload C (zo_21 (p := 49) (k := 5) (a := 5) (zby_w zwX9_bound_1 17 rfl) (zby_w zwX9_bound_1 18 rfl) (by decide)) rfl ?_
    refine zr_aload_n C (zo_42 (p := 51) (zby_w zwX9_bound_1 19 rfl)) rfl ?_
    refine zr_geti C fw_X9_231 (sh_69) rfl (zo_180 (p := 52) (k := 231) (a := 0) (b := 231) (zby_w zwX9_bound_1 20 rfl) (zby_w zwX9_bound_1 21 rfl) (zby_w zwX9_bound_1 22 rfl) (by decide)) ?_
    refine zr_icmp_ge C 118 (zo_162 (p := 55) (k := 63) (a := 0) (b := 63) (zby_w zwX9_bound_1 23 rfl) (zby_w zwX9_bound_1 24 rfl) (zby_w zwX9_bound_1 25 rfl) (by decide)) (by decide) (fun hc10 => ?_) (fun hc10 => ?_)
    · rw [if_pos hc10] at h
      exact zr_pick [0, 2, 3] rfl (hK118 v4 σ h)
    · rw [if_neg hc10] at h
      refine zr_aload_n C (zo_42 (p := 58) (zby_w zwX9_bound_1 26 rfl)) rfl ?_
      refine zr_getr (u := 83) C fw_X9_49 (sh_69) rfl (zo_180 (p := 59) (k := 49) (a := 0) (b := 49) (zby_w zwX9_bound_1 27 rfl) (zby_w zwX9_bound_1 28 rfl) (zby_w zwX9_bound_1 29 rfl) (by decide)) ?_
      refine zr_iload C (zo_21 (p := 62) (k := 5) (a := 5) (zby_w zwX9_bound_1 30 rfl) (zby_w zwX9_bound_1 31 rfl) (by decide)) rfl ?_
      obtain ⟨ho11, h⟩ := h
      refine zr_iald C (sh_83) ho11 (zo_46 (p := 64) (zby_w zwX9_bound_2 0 rfl)) ?_
      refine zr_iload_n C (zo_28 (p := 65) (zby_w zwX9_bound_2 1 rfl)) rfl ?_
      obtain ⟨ho15, h⟩ := h
      have hJ14 : ∀ z13 : Int32, z13 = (if v2 < (σ.1 83 v5.toNatClampNeg) then (0 : Int32) else (if v4 < (0) then (1 : Int32) else (if (σ.1 82 v4.toNatClampNeg) ≤ (σ.1 82 v5.toNatClampNeg) then (0 : Int32) else (1 : Int32)))) → zGG p l e R s m args below meth c Q g n1 n2 7 96 [(0, .ref (g.2.1 69)), (2, .int v2), (3, .int v3), (4, .int v4), (5, .int v5)] [.int z13] σ := by
        intro z13 hz13
        replace h := h z13 hz13
        refine zr_istore C [(6, .int z13), (0, .ref (g.2.1 69)), (2, .int v2), (3, .int v3), (4, .int v4), (5, .int v5)] (zo_54 (p := 96) (k := 6) (a := 6) (zby_w zwX9_bound_3 0 rfl) (zby_w zwX9_bound_3 1 rfl) (by decide)) (by decide) rfl ?_
        refine zr_iload C (zo_21 (p := 98) (k := 6) (a := 6) (zby_w zwX9_bound_3 2 rfl) (zby_w zwX9_bound_3 3 rfl) (by decide)) rfl ?_
        have hJ22 : ∀ z21 : Int32, z21 = (if z13 = (0) then v4 else v5) → zGG p l e R s m args below meth c Q g n1 n2 7 110 [(6, .int z13), (0, .ref (g.2.1 69)), (2, .int v2), (3, .int v3), (4, .int v4), (5, .int v5)] [.int z21] σ := by
          intro z21 hz21
          replace h := h z21 hz21
          refine zr_istore C [(4, .int z21), (6, .int z13), (0, .ref (g.2.1 69)), (2, .int v2), (3, .int v3), (5, .int v5)] (zo_54 (p := 110) (k := 4) (a := 4) (zby_w zwX9_bound_3 14 rfl) (zby_w zwX9_bound_3 15 rfl) (by decide)) (by decide) rfl ?_
          refine zr_iinc C (v5 + 1) [(5, .int (v5 + 1)), (4, .int z21), (6, .int z13), (0, .ref (g.2.1 69)), (2, .int v2), (3, .int v3)] d_X9_bound_112 rfl rfl (by decide) rfl ?_
          refine zr_goto C 49 (zo_167 (p := 115) (k := (-66)) (a := 255) (b := 190) (zby_w zwX9_bound_3 19 rfl) (zby_w zwX9_bound_3 20 rfl) (zby_w zwX9_bound_3 21 rfl) (by decide)) (by decide) ?_
          exact zr_pick [3, 4, 5, 1, 0] rfl (ih z21 (v5 + 1) σ h)
        refine zr_if_eq C 108 (zo_153 (p := 100) (k := 8) (a := 0) (b := 8) (zby_w zwX9_bound_3 4 rfl) (zby_w zwX9_bound_3 5 rfl) (zby_w zwX9_bound_3 6 rfl) (by decide)) (by decide) (fun hc20 => ?_) (fun hc20 => ?_)
        · skip
          refine zr_iload C (zo_21 (p := 108) (k := 4) (a := 4) (zby_w zwX9_bound_3 12 rfl) (zby_w zwX9_bound_3 13 rfl) (by decide)) rfl ?_
          exact hJ22 _ (by rw [if_pos hc20])
        · skip
          refine zr_iload C (zo_21 (p := 103) (k := 5) (a := 5) (zby_w zwX9_bound_3 7 rfl) (zby_w zwX9_bound_3 8 rfl) (by decide)) rfl ?_
          refine zr_goto C 110 (zo_167 (p := 105) (k := 5) (a := 0) (b := 5) (zby_w zwX9_bound_3 9 rfl) (zby_w zwX9_bound_3 10 rfl) (zby_w zwX9_bound_3 11 rfl) (by decide)) (by decide) ?_
          exact hJ22 _ (by rw [if_neg hc20])
      refine zr_icmp_gt C 95 (zo_163 (p := 66) (k := 29) (a := 0) (b := 29) (zby_w zwX9_bound_2 2 rfl) (zby_w zwX9_bound_2 3 rfl) (zby_w zwX9_bound_2 4 rfl) (by decide)) (by decide) (fun hc12 => ?_) (fun hc12 => ?_)
      · skip
        rw [if_pos hc12] at ho15
        refine zr_iconst C (0 : Int32) d_X9_bound_95 (by decide) ?_
        exact hJ14 _ (by rw [if_pos hc12])
      · skip
        rw [if_neg hc12] at ho15
        refine zr_iload C (zo_21 (p := 69) (k := 4) (a := 4) (zby_w zwX9_bound_2 5 rfl) (zby_w zwX9_bound_2 6 rfl) (by decide)) rfl ?_
        refine zr_if_lt C 91 (zo_155 (p := 71) (k := 20) (a := 0) (b := 20) (zby_w zwX9_bound_2 7 rfl) (zby_w zwX9_bound_2 8 rfl) (zby_w zwX9_bound_2 9 rfl) (by decide)) (by decide) (fun hc16 => ?_) (fun hc16 => ?_)
        · skip
          rw [if_pos hc16] at ho15
          refine zr_iconst C (1 : Int32) d_X9_bound_91 (by decide) ?_
          refine zr_goto C 96 d_X9_bound_92 (by decide) ?_
          exact hJ14 _ (by rw [if_neg hc12, if_pos hc16])
        · skip
          rw [if_neg hc16] at ho15
          refine zr_aload_n C (zo_42 (p := 74) (zby_w zwX9_bound_2 10 rfl)) rfl ?_
          refine zr_getr (u := 82) C fw_X9_46 (sh_69) rfl (zo_180 (p := 75) (k := 46) (a := 0) (b := 46) (zby_w zwX9_bound_2 11 rfl) (zby_w zwX9_bound_2 12 rfl) (zby_w zwX9_bound_2 13 rfl) (by decide)) ?_
          refine zr_iload C (zo_21 (p := 78) (k := 5) (a := 5) (zby_w zwX9_bound_2 14 rfl) (zby_w zwX9_bound_2 15 rfl) (by decide)) rfl ?_
          obtain ⟨ho17, ho15⟩ := ho15
          refine zr_iald C (sh_82) ho17 (zo_46 (p := 80) (zby_w zwX9_bound_2 16 rfl)) ?_
          refine zr_aload_n C (zo_42 (p := 81) (zby_w zwX9_bound_2 17 rfl)) rfl ?_
          refine zr_getr (u := 82) C fw_X9_46 (sh_69) rfl (zo_180 (p := 82) (k := 46) (a := 0) (b := 46) (zby_w zwX9_bound_2 18 rfl) (zby_w zwX9_bound_2 19 rfl) (zby_w zwX9_bound_2 20 rfl) (by decide)) ?_
          refine zr_iload C (zo_21 (p := 85) (k := 4) (a := 4) (zby_w zwX9_bound_2 21 rfl) (zby_w zwX9_bound_2 22 rfl) (by decide)) rfl ?_
          obtain ⟨ho18, ho15⟩ := ho15
          refine zr_iald C (sh_82) ho18 (zo_46 (p := 87) (zby_w zwX9_bound_2 23 rfl)) ?_
          refine zr_icmp_ge C 95 (zo_162 (p := 88) (k := 7) (a := 0) (b := 7) (zby_w zwX9_bound_2 24 rfl) (zby_w zwX9_bound_2 25 rfl) (zby_w zwX9_bound_2 26 rfl) (by decide)) (by decide) (fun hc19 => ?_) (fun hc19 => ?_)
          · skip
            refine zr_iconst C (0 : Int32) d_X9_bound_95 (by decide) ?_
            exact hJ14 _ (by rw [if_neg hc12, if_neg hc16, if_pos hc19])
          · skip
            refine zr_iconst C (1 : Int32) d_X9_bound_91 (by decide) ?_
            refine zr_goto C 96 d_X9_bound_92 (by decide) ?_
            exact hJ14 _ (by rw [if_neg hc12, if_neg hc16, if_neg hc19])

def wp_X9_bound (p1 : Int32) (p2 : Int32) (p3 : Int32) (σ : zST) (Post : Int32 → zST → Prop) : Prop := (if p3 = (-1 : Int32) then wp_X9_isHour p1 σ (fun r2 => (if r2 = (0) then Post (-2 : Int32) σ else wp_X9_in (p2.toInt64) (0 : Int64) (99999 : Int64) σ (fun r5 => (if r5 = (0) then Post (-2 : Int32) σ else wp_X9_layFleet p1 σ (fun σ9 => ∃ M30 : Nat, wp_X9_bound_L49 p2 p3 (fun w4 σ => (if (0) ≤ w4 then (if p3 = (-1 : Int32) then vp_in w4 729 ∧ Post (σ.1 82 w4.toNatClampNeg) σ else wp_X9_behindIt p3 σ (fun r26 => ¬ r26 = 0 ∧ Post ((w4 / r26) - (w4 / r26) / (3 : Int32) * (3 : Int32)) σ)) else Post (-6 : Int32) σ)) M30 (-6 : Int32) (0 : Int32) σ9))))) else wp_X9_isInHarbour p3 σ (fun r31 => (if r31 = (0) then Post (-1 : Int32) σ else wp_X9_isHour p1 σ (fun r34 => (if r34 = (0) then Post (-2 : Int32) σ else wp_X9_in (p2.toInt64) (0 : Int64) (99999 : Int64) σ (fun r37 => (if r37 = (0) then Post (-2 : Int32) σ else wp_X9_layFleet p1 σ (fun σ41 => ∃ M62 : Nat, wp_X9_bound_L49 p2 p3 (fun w4 σ => (if (0) ≤ w4 then (if p3 = (-1 : Int32) then vp_in w4 729 ∧ Post (σ.1 82 w4.toNatClampNeg) σ else wp_X9_behindIt p3 σ (fun r58 => ¬ r58 = 0 ∧ Post ((w4 / r58) - (w4 / r58) / (3 : Int32) * (3 : Int32)) σ)) else Post (-6 : Int32) σ)) M62 (-6 : Int32) (0 : Int32) σ41))))))))
set_option maxRecDepth 100000 in
set_option maxHeartbeats 4000000 in
theorem g_X9_bound {p : Program} {l : Launch} {e : Env} {R : Room} {s : State} {m : MethodId} {args : Array Value} {below : List Frame} {meth : Method} {c : Code} {Q : State → Prop} {g : zG} {n1 n2 : Nat} (C : zCX p R s m args meth c g n1 n2 cX9_bound 7 RX9 5 111) {p1 : Int32} {p2 : Int32} {p3 : Int32} {σ : zST} {Post : Int32 → zST → Prop} (hret : ∀ (v : Int32) (σ : zST) (pc : Nat) (lv : List (Nat × Value)), Post v σ → decode cX9_bound pc = .ok (.ireturn, 1) → zGG p l e R s m args below meth c Q g n1 n2 7 pc lv [.int v] σ) (h : wp_X9_bound p1 p2 p3 σ Post) : zGG p l e R s m args below meth c Q g n1 n2 7 0 [(0, .ref (g.2.1 69)), (1, .int p1), (2, .int p2), (3, .int p3)] [] σ := by
  unfold wp_X9_bound at h
  refine zr_iload_n C (zo_29 (p := 0) (zby_w zwX9_bound_0 0 rfl)) rfl ?_
  refine zr_iconst C (-1 : Int32) (zo_2 (p := 1) (zby_w zwX9_bound_0 1 rfl)) (by decide) ?_
  refine zr_icmp_eq C 15 (zo_159 (p := 2) (k := 13) (a := 0) (b := 13) (zby_w zwX9_bound_0 2 rfl) (zby_w zwX9_bound_0 3 rfl) (zby_w zwX9_bound_0 4 rfl) (by decide)) (by decide) (fun hc1 => ?_) (fun hc1 => ?_)
  · rw [if_pos hc1] at h
    refine zr_iload_n C d_X9_bound_15 rfl ?_
    refine zr_cip (zr_runS (As := [.int p1]) (rest := []) C sw_X9_219 (c_X9_isHour l g p1 σ _ h) (by decide) (by decide) rfl rfl (Nat.le_of_ble_eq_true rfl) d_X9_bound_16) (fun r2 h => ?_)
    refine zr_if_eq C 34 d_X9_bound_19 (by decide) (fun hc4 => ?_) (fun hc4 => ?_)
    · rw [if_pos hc4] at h
      refine zr_bipush C (-2 : Int32) d_X9_bound_34 (by decide) ?_
      exact hret _ _ _ _ h d_X9_bound_36
    · rw [if_neg hc4] at h
      refine zr_iload_n C d_X9_bound_22 rfl ?_
      refine zr_i2l C d_X9_bound_23 ?_
      refine zr_lconst C (0 : Int64) d_X9_bound_24 (by decide) ?_
      refine zr_ldc2 C (v := (99999 : Int64)) cl_X9_237 d_X9_bound_25 ?_
      refine zr_cip (zr_runS (As := [.long (p2.toInt64), .long (0 : Int64), .long (99999 : Int64)]) (rest := []) C sw_X9_89 (c_X9_in l g (p2.toInt64) (0 : Int64) (99999 : Int64) σ _ h) (by decide) (by decide) rfl rfl (Nat.le_of_ble_eq_true rfl) d_X9_bound_28) (fun r5 h => ?_)
      refine zr_if_ne C 37 d_X9_bound_31 (by decide) (fun hc7 => ?_) (fun hc7 => ?_)
      · rw [if_neg hc7] at h
        refine zr_aload_n C d_X9_bound_37 rfl ?_
        refine zr_iload_n C d_X9_bound_38 rfl ?_
        refine zr_cv (zr_runV (As := [.int p1]) (rest := []) C vw_X9_239 (c_X9_layFleet l g p1 σ _ h) (sh_69) rfl (by decide) (by decide) rfl rfl (Nat.le_of_ble_eq_true rfl) d_X9_bound_39) (fun σ9 h => ?_)
        refine zr_bipush C (-6 : Int32) d_X9_bound_42 (by decide) ?_
        refine zr_istore C [(4, .int (-6 : Int32)), (0, .ref (g.2.1 69)), (1, .int p1), (2, .int p2), (3, .int p3)] d_X9_bound_44 (by decide) rfl ?_
        refine zr_iconst C (0 : Int32) d_X9_bound_46 (by decide) ?_
        refine zr_istore C [(5, .int (0 : Int32)), (4, .int (-6 : Int32)), (0, .ref (g.2.1 69)), (1, .int p1), (2, .int p2), (3, .int p3)] d_X9_bound_47 (by decide) rfl ?_
        obtain ⟨M30, h⟩ := h
        exact zr_pick [2, 4, 5, 1, 0] rfl (g_X9_bound_L49 C (fun w4 σ h => by
            refine zr_iload C d_X9_bound_118 rfl ?_
            refine zr_if_ge C 128 d_X9_bound_120 (by decide) (fun hc24 => ?_) (fun hc24 => ?_)
            · rw [if_pos hc24] at h
              refine zr_iload_n C d_X9_bound_128 rfl ?_
              refine zr_iconst C (-1 : Int32) d_X9_bound_129 (by decide) ?_
              refine zr_icmp_ne C 143 d_X9_bound_130 (by decide) (fun hc25 => ?_) (fun hc25 => ?_)
              · rw [if_neg hc25] at h
                refine zr_iload C d_X9_bound_143 rfl ?_
                refine zr_aload_n C d_X9_bound_145 rfl ?_
                refine zr_iload_n C d_X9_bound_146 rfl ?_
                refine zr_cip (zr_runV (As := [.int p3]) (rest := [.int w4]) C vw_X9_242 (c_X9_behindIt l g p3 σ _ h) (sh_69) rfl (by decide) (by decide) rfl rfl (Nat.le_of_ble_eq_true rfl) d_X9_bound_147) (fun r26 h => ?_)
                obtain ⟨ho28, h⟩ := h
                refine zr_idiv C d_X9_bound_150 ho28 ?_
                refine zr_iconst C (3 : Int32) d_X9_bound_151 (by decide) ?_
                refine zr_irem C d_X9_bound_152 (by decide) ?_
                exact hret _ _ _ _ h d_X9_bound_153
              · rw [if_pos hc25] at h
                refine zr_aload_n C d_X9_bound_133 rfl ?_
                refine zr_getr (u := 82) C fw_X9_46 (sh_69) rfl d_X9_bound_134 ?_
                refine zr_iload C d_X9_bound_137 rfl ?_
                obtain ⟨ho29, h⟩ := h
                refine zr_iald C (sh_82) ho29 d_X9_bound_139 ?_
                refine zr_goto C 153 d_X9_bound_140 (by decide) ?_
                exact hret _ _ _ _ h d_X9_bound_153
            · rw [if_neg hc24] at h
              refine zr_bipush C (-6 : Int32) d_X9_bound_123 (by decide) ?_
              refine zr_goto C 153 d_X9_bound_125 (by decide) ?_
              exact hret _ _ _ _ h d_X9_bound_153) M30 (-6 : Int32) (0 : Int32) σ9 h)
      · rw [if_pos hc7] at h
        refine zr_bipush C (-2 : Int32) d_X9_bound_34 (by decide) ?_
        exact hret _ _ _ _ h d_X9_bound_36
  · rw [if_neg hc1] at h
    refine zr_aload_n C (zo_42 (p := 5) (zby_w zwX9_bound_0 5 rfl)) rfl ?_
    refine zr_iload_n C (zo_29 (p := 6) (zby_w zwX9_bound_0 6 rfl)) rfl ?_
    refine zr_cip (zr_runV (As := [.int p3]) (rest := []) C vw_X9_234 (c_X9_isInHarbour l g p3 σ _ h) (sh_69) rfl (by decide) (by decide) rfl rfl (Nat.le_of_ble_eq_true rfl) (zo_182 (p := 7) (k := 234) (a := 0) (b := 234) (zby_w zwX9_bound_0 7 rfl) (zby_w zwX9_bound_0 8 rfl) (zby_w zwX9_bound_0 9 rfl) (by decide))) (fun r31 h => ?_)
    refine zr_if_ne C 15 (zo_154 (p := 10) (k := 5) (a := 0) (b := 5) (zby_w zwX9_bound_0 10 rfl) (zby_w zwX9_bound_0 11 rfl) (zby_w zwX9_bound_0 12 rfl) (by decide)) (by decide) (fun hc33 => ?_) (fun hc33 => ?_)
    · rw [if_neg hc33] at h
      refine zr_iload_n C d_X9_bound_15 rfl ?_
      refine zr_cip (zr_runS (As := [.int p1]) (rest := []) C sw_X9_219 (c_X9_isHour l g p1 σ _ h) (by decide) (by decide) rfl rfl (Nat.le_of_ble_eq_true rfl) d_X9_bound_16) (fun r34 h => ?_)
      refine zr_if_eq C 34 d_X9_bound_19 (by decide) (fun hc36 => ?_) (fun hc36 => ?_)
      · rw [if_pos hc36] at h
        refine zr_bipush C (-2 : Int32) d_X9_bound_34 (by decide) ?_
        exact hret _ _ _ _ h d_X9_bound_36
      · rw [if_neg hc36] at h
        refine zr_iload_n C d_X9_bound_22 rfl ?_
        refine zr_i2l C d_X9_bound_23 ?_
        refine zr_lconst C (0 : Int64) d_X9_bound_24 (by decide) ?_
        refine zr_ldc2 C (v := (99999 : Int64)) cl_X9_237 d_X9_bound_25 ?_
        refine zr_cip (zr_runS (As := [.long (p2.toInt64), .long (0 : Int64), .long (99999 : Int64)]) (rest := []) C sw_X9_89 (c_X9_in l g (p2.toInt64) (0 : Int64) (99999 : Int64) σ _ h) (by decide) (by decide) rfl rfl (Nat.le_of_ble_eq_true rfl) d_X9_bound_28) (fun r37 h => ?_)
        refine zr_if_ne C 37 d_X9_bound_31 (by decide) (fun hc39 => ?_) (fun hc39 => ?_)
        · rw [if_neg hc39] at h
          refine zr_aload_n C d_X9_bound_37 rfl ?_
          refine zr_iload_n C d_X9_bound_38 rfl ?_
          refine zr_cv (zr_runV (As := [.int p1]) (rest := []) C vw_X9_239 (c_X9_layFleet l g p1 σ _ h) (sh_69) rfl (by decide) (by decide) rfl rfl (Nat.le_of_ble_eq_true rfl) d_X9_bound_39) (fun σ41 h => ?_)
          refine zr_bipush C (-6 : Int32) d_X9_bound_42 (by decide) ?_
          refine zr_istore C [(4, .int (-6 : Int32)), (0, .ref (g.2.1 69)), (1, .int p1), (2, .int p2), (3, .int p3)] d_X9_bound_44 (by decide) rfl ?_
          refine zr_iconst C (0 : Int32) d_X9_bound_46 (by decide) ?_
          refine zr_istore C [(5, .int (0 : Int32)), (4, .int (-6 : Int32)), (0, .ref (g.2.1 69)), (1, .int p1), (2, .int p2), (3, .int p3)] d_X9_bound_47 (by decide) rfl ?_
          obtain ⟨M62, h⟩ := h
          exact zr_pick [2, 4, 5, 1, 0] rfl (g_X9_bound_L49 C (fun w4 σ h => by
              refine zr_iload C d_X9_bound_118 rfl ?_
              refine zr_if_ge C 128 d_X9_bound_120 (by decide) (fun hc56 => ?_) (fun hc56 => ?_)
              · rw [if_pos hc56] at h
                refine zr_iload_n C d_X9_bound_128 rfl ?_
                refine zr_iconst C (-1 : Int32) d_X9_bound_129 (by decide) ?_
                refine zr_icmp_ne C 143 d_X9_bound_130 (by decide) (fun hc57 => ?_) (fun hc57 => ?_)
                · rw [if_neg hc57] at h
                  refine zr_iload C d_X9_bound_143 rfl ?_
                  refine zr_aload_n C d_X9_bound_145 rfl ?_
                  refine zr_iload_n C d_X9_bound_146 rfl ?_
                  refine zr_cip (zr_runV (As := [.int p3]) (rest := [.int w4]) C vw_X9_242 (c_X9_behindIt l g p3 σ _ h) (sh_69) rfl (by decide) (by decide) rfl rfl (Nat.le_of_ble_eq_true rfl) d_X9_bound_147) (fun r58 h => ?_)
                  obtain ⟨ho60, h⟩ := h
                  refine zr_idiv C d_X9_bound_150 ho60 ?_
                  refine zr_iconst C (3 : Int32) d_X9_bound_151 (by decide) ?_
                  refine zr_irem C d_X9_bound_152 (by decide) ?_
                  exact hret _ _ _ _ h d_X9_bound_153
                · rw [if_pos hc57] at h
                  refine zr_aload_n C d_X9_bound_133 rfl ?_
                  refine zr_getr (u := 82) C fw_X9_46 (sh_69) rfl d_X9_bound_134 ?_
                  refine zr_iload C d_X9_bound_137 rfl ?_
                  obtain ⟨ho61, h⟩ := h
                  refine zr_iald C (sh_82) ho61 d_X9_bound_139 ?_
                  refine zr_goto C 153 d_X9_bound_140 (by decide) ?_
                  exact hret _ _ _ _ h d_X9_bound_153
              · rw [if_neg hc56] at h
                refine zr_bipush C (-6 : Int32) d_X9_bound_123 (by decide) ?_
                refine zr_goto C 153 d_X9_bound_125 (by decide) ?_
                exact hret _ _ _ _ h d_X9_bound_153) M62 (-6 : Int32) (0 : Int32) σ41 h)
        · rw [if_pos hc39] at h
          refine zr_bipush C (-2 : Int32) d_X9_bound_34 (by decide) ?_
          exact hret _ _ _ _ h d_X9_bound_36
    · rw [if_pos hc33] at h
      refine zr_iconst C (-1 : Int32) (zo_2 (p := 13) (zby_w zwX9_bound_0 13 rfl)) (by decide) ?_
      exact hret _ _ _ _ h (zo_172 (p := 14) (zby_w zwX9_bound_0 14 rfl))
set_option maxRecDepth 20000 in
theorem c_X9_bound (l : Launch) (g : zG) (p1 : Int32) (p2 : Int32) (p3 : Int32) (σ : zST) (Post : Int32 → zST → Prop) (h : wp_X9_bound p1 p2 p3 σ Post) : Met l yX9_bound (Cond.code yX9_bound cX9_bound 7 (some .int) :: zGW) (zRm 5 111) (va_Pc [.ref (g.2.1 69), .int p1, .int p2, .int p3] (zPP g σ)) (va_Qi Post (zBB g) (zA g)) 0 0 (zA g) :=
  zMet (by decide) (Nat.le_of_ble_eq_true rfl) (fun p e s m below meth c hr C => g_X9_bound C (fun v σ pc lv hp hd => zr_iret C hr hp hd) h)
def wp_X9_isOnLine_L4 (v1 : Int32) (σ : zST) (Post : Int32 → Prop) : Nat → Int32 → Int32 → Prop
  | 0, _, _ => False
  | N + 1, v2, v3 => (if (σ.1 69 34) ≤ v3 then zB v2 ∧ Post v2 else (if v2 = (0) then zB v2 ∧ Post v2 else vp_in v3 729 ∧ vp_in v1 729 ∧ (if (σ.1 82 v1.toNatClampNeg) < (σ.1 82 v3.toNatClampNeg) then True else vp_in v3 729 ∧ vp_in v1 729 ∧ True) ∧ ∀ z6 : Int32, z6 = (if (σ.1 82 v1.toNatClampNeg) < (σ.1 82 v3.toNatClampNeg) then (0 : Int32) else (if (σ.1 83 v1.toNatClampNeg) < (σ.1 83 v3.toNatClampNeg) then (0 : Int32) else (1 : Int32))) → vp_in v3 729 ∧ vp_in v1 729 ∧ (if (σ.1 82 v3.toNatClampNeg) < (σ.1 82 v1.toNatClampNeg) then True else vp_in v3 729 ∧ vp_in v1 729 ∧ True) ∧ ∀ z15 : Int32, z15 = (if (σ.1 82 v3.toNatClampNeg) < (σ.1 82 v1.toNatClampNeg) then (1 : Int32) else (if (σ.1 83 v1.toNatClampNeg) ≤ (σ.1 83 v3.toNatClampNeg) then (0 : Int32) else (1 : Int32))) → ∀ z22 : Int32, z22 = (if z6 = (0) then (1 : Int32) else (if z15 = (0) then (if v3 < v1 then (0 : Int32) else (1 : Int32)) else (0 : Int32))) → wp_X9_isOnLine_L4 v1 σ Post N z22 (v3 + 1)))

set_option maxRecDepth 100000 in
set_option maxHeartbeats 4000000 in
theorem g_X9_isOnLine_L4 {p : Program} {l : Launch} {e : Env} {R : Room} {s : State} {m : MethodId} {args : Array Value} {below : List Frame} {meth : Method} {c : Code} {Q : State → Prop} {g : zG} {n1 n2 : Nat} (C : zCX p R s m args meth c g n1 n2 cX9_isOnLine 6 RX9 0 0) {v1 : Int32} {σ : zST}  {Post : Int32 → Prop} (hret : ∀ (v : Int32) (pc : Nat) (lv : List (Nat × Value)), zB v → Post v → decode cX9_isOnLine pc = .ok (.ireturn, 1) → zGG p l e R s m args below meth c Q g n1 n2 6 pc lv [.int v] σ) : ∀ (N : Nat) (v2 : Int32) (v3 : Int32) , wp_X9_isOnLine_L4 v1 σ Post N v2 v3 → zGG p l e R s m args below meth c Q g n1 n2 6 4 [(0, .ref (g.2.1 69)), (1, .int v1), (2, .int v2), (3, .int v3)] [] σ := by
  intro N
  induction N with
  | zero =>
    intro v2 v3 h
    exact h.elim
  | succ N ih =>
    intro v2 v3 h
    rw [wp_X9_isOnLine_L4] at h
    refine zr_iload_n C (zo_29 (p := 4) (zby_w zwX9_isOnLine_0 4 rfl)) rfl ?_
    refine zr_aload_n C (zo_42 (p := 5) (zby_w zwX9_isOnLine_0 5 rfl)) rfl ?_
    refine zr_geti C fw_X9_231 (sh_69) rfl (zo_180 (p := 6) (k := 231) (a := 0) (b := 231) (zby_w zwX9_isOnLine_0 6 rfl) (zby_w zwX9_isOnLine_0 7 rfl) (zby_w zwX9_isOnLine_0 8 rfl) (by decide)) ?_
    refine zr_icmp_ge C 117 (zo_162 (p := 9) (k := 108) (a := 0) (b := 108) (zby_w zwX9_isOnLine_0 9 rfl) (zby_w zwX9_isOnLine_0 10 rfl) (zby_w zwX9_isOnLine_0 11 rfl) (by decide)) (by decide) (fun hc1 => ?_) (fun hc1 => ?_)
    · rw [if_pos hc1] at h
      refine zr_iload_n C d_X9_isOnLine_117 rfl ?_
      exact hret _ _ _ h.1 h.2 d_X9_isOnLine_118
    · rw [if_neg hc1] at h
      refine zr_iload_n C (zo_28 (p := 12) (zby_w zwX9_isOnLine_0 12 rfl)) rfl ?_
      refine zr_if_eq C 117 (zo_153 (p := 13) (k := 104) (a := 0) (b := 104) (zby_w zwX9_isOnLine_0 13 rfl) (zby_w zwX9_isOnLine_0 14 rfl) (zby_w zwX9_isOnLine_0 15 rfl) (by decide)) (by decide) (fun hc2 => ?_) (fun hc2 => ?_)
      · rw [if_pos hc2] at h
        refine zr_iload_n C d_X9_isOnLine_117 rfl ?_
        exact hret _ _ _ h.1 h.2 d_X9_isOnLine_118
      · rw [if_neg hc2] at h
        refine zr_aload_n C (zo_42 (p := 16) (zby_w zwX9_isOnLine_0 16 rfl)) rfl ?_
        refine zr_getr (u := 82) C fw_X9_46 (sh_69) rfl (zo_180 (p := 17) (k := 46) (a := 0) (b := 46) (zby_w zwX9_isOnLine_0 17 rfl) (zby_w zwX9_isOnLine_0 18 rfl) (zby_w zwX9_isOnLine_0 19 rfl) (by decide)) ?_
        refine zr_iload_n C (zo_29 (p := 20) (zby_w zwX9_isOnLine_0 20 rfl)) rfl ?_
        obtain ⟨ho3, h⟩ := h
        refine zr_iald C (sh_82) ho3 (zo_46 (p := 21) (zby_w zwX9_isOnLine_0 21 rfl)) ?_
        refine zr_aload_n C (zo_42 (p := 22) (zby_w zwX9_isOnLine_0 22 rfl)) rfl ?_
        refine zr_getr (u := 82) C fw_X9_46 (sh_69) rfl (zo_180 (p := 23) (k := 46) (a := 0) (b := 46) (zby_w zwX9_isOnLine_0 23 rfl) (zby_w zwX9_isOnLine_0 24 rfl) (zby_w zwX9_isOnLine_0 25 rfl) (by decide)) ?_
        refine zr_iload_n C (zo_27 (p := 26) (zby_w zwX9_isOnLine_0 26 rfl)) rfl ?_
        obtain ⟨ho4, h⟩ := h
        refine zr_iald C (sh_82) ho4 (zo_46 (p := 27) (zby_w zwX9_isOnLine_0 27 rfl)) ?_
        obtain ⟨ho8, h⟩ := h
        have hJ7 : ∀ z6 : Int32, z6 = (if (σ.1 82 v1.toNatClampNeg) < (σ.1 82 v3.toNatClampNeg) then (0 : Int32) else (if (σ.1 83 v1.toNatClampNeg) < (σ.1 83 v3.toNatClampNeg) then (0 : Int32) else (1 : Int32))) → zGG p l e R s m args below meth c Q g n1 n2 6 51 [(0, .ref (g.2.1 69)), (1, .int v1), (2, .int v2), (3, .int v3)] [.int z6] σ := by
          intro z6 hz6
          replace h := h z6 hz6
          refine zr_istore C [(4, .int z6), (0, .ref (g.2.1 69)), (1, .int v1), (2, .int v2), (3, .int v3)] (zo_54 (p := 51) (k := 4) (a := 4) (zby_w zwX9_isOnLine_1 19 rfl) (zby_w zwX9_isOnLine_1 20 rfl) (by decide)) (by decide) rfl ?_
          refine zr_aload_n C (zo_42 (p := 53) (zby_w zwX9_isOnLine_1 21 rfl)) rfl ?_
          refine zr_getr (u := 82) C fw_X9_46 (sh_69) rfl (zo_180 (p := 54) (k := 46) (a := 0) (b := 46) (zby_w zwX9_isOnLine_1 22 rfl) (zby_w zwX9_isOnLine_1 23 rfl) (zby_w zwX9_isOnLine_1 24 rfl) (by decide)) ?_
          refine zr_iload_n C (zo_29 (p := 57) (zby_w zwX9_isOnLine_1 25 rfl)) rfl ?_
          obtain ⟨ho12, h⟩ := h
          refine zr_iald C (sh_82) ho12 (zo_46 (p := 58) (zby_w zwX9_isOnLine_1 26 rfl)) ?_
          refine zr_aload_n C (zo_42 (p := 59) (zby_w zwX9_isOnLine_1 27 rfl)) rfl ?_
          refine zr_getr (u := 82) C fw_X9_46 (sh_69) rfl (zo_180 (p := 60) (k := 46) (a := 0) (b := 46) (zby_w zwX9_isOnLine_1 28 rfl) (zby_w zwX9_isOnLine_1 29 rfl) (zby_w zwX9_isOnLine_1 30 rfl) (by decide)) ?_
          refine zr_iload_n C (zo_27 (p := 63) (zby_w zwX9_isOnLine_1 31 rfl)) rfl ?_
          obtain ⟨ho13, h⟩ := h
          refine zr_iald C (sh_82) ho13 (zo_46 (p := 64) (zby_w zwX9_isOnLine_2 0 rfl)) ?_
          obtain ⟨ho17, h⟩ := h
          have hJ16 : ∀ z15 : Int32, z15 = (if (σ.1 82 v3.toNatClampNeg) < (σ.1 82 v1.toNatClampNeg) then (1 : Int32) else (if (σ.1 83 v1.toNatClampNeg) ≤ (σ.1 83 v3.toNatClampNeg) then (0 : Int32) else (1 : Int32))) → zGG p l e R s m args below meth c Q g n1 n2 6 88 [(4, .int z6), (0, .ref (g.2.1 69)), (1, .int v1), (2, .int v2), (3, .int v3)] [.int z15] σ := by
            intro z15 hz15
            replace h := h z15 hz15
            refine zr_istore C [(5, .int z15), (4, .int z6), (0, .ref (g.2.1 69)), (1, .int v1), (2, .int v2), (3, .int v3)] (zo_54 (p := 88) (k := 5) (a := 5) (zby_w zwX9_isOnLine_2 24 rfl) (zby_w zwX9_isOnLine_2 25 rfl) (by decide)) (by decide) rfl ?_
            refine zr_iload C (zo_21 (p := 90) (k := 4) (a := 4) (zby_w zwX9_isOnLine_2 26 rfl) (zby_w zwX9_isOnLine_2 27 rfl) (by decide)) rfl ?_
            have hJ23 : ∀ z22 : Int32, z22 = (if z6 = (0) then (1 : Int32) else (if z15 = (0) then (if v3 < v1 then (0 : Int32) else (1 : Int32)) else (0 : Int32))) → zGG p l e R s m args below meth c Q g n1 n2 6 110 [(5, .int z15), (4, .int z6), (0, .ref (g.2.1 69)), (1, .int v1), (2, .int v2), (3, .int v3)] [.int z22] σ := by
              intro z22 hz22
              replace h := h z22 hz22
              refine zr_istore_n C [(2, .int z22), (5, .int z15), (4, .int z6), (0, .ref (g.2.1 69)), (1, .int v1), (3, .int v3)] (zo_61 (p := 110) (zby_w zwX9_isOnLine_3 14 rfl)) (by decide) rfl ?_
              refine zr_iinc C (v3 + 1) [(3, .int (v3 + 1)), (2, .int z22), (5, .int z15), (4, .int z6), (0, .ref (g.2.1 69)), (1, .int v1)] d_X9_isOnLine_111 rfl rfl (by decide) rfl ?_
              refine zr_goto C 4 (zo_167 (p := 114) (k := (-110)) (a := 255) (b := 146) (zby_w zwX9_isOnLine_3 18 rfl) (zby_w zwX9_isOnLine_3 19 rfl) (zby_w zwX9_isOnLine_3 20 rfl) (by decide)) (by decide) ?_
              exact zr_pick [4, 5, 1, 0] rfl (ih z22 (v3 + 1) h)
            refine zr_if_eq C 105 (zo_153 (p := 92) (k := 13) (a := 0) (b := 13) (zby_w zwX9_isOnLine_2 28 rfl) (zby_w zwX9_isOnLine_2 29 rfl) (zby_w zwX9_isOnLine_2 30 rfl) (by decide)) (by decide) (fun hc21 => ?_) (fun hc21 => ?_)
            · skip
              refine zr_iconst C (1 : Int32) d_X9_isOnLine_105 (by decide) ?_
              refine zr_goto C 110 d_X9_isOnLine_106 (by decide) ?_
              exact hJ23 _ (by rw [if_pos hc21])
            · skip
              refine zr_iload C (zo_21 (p := 95) (k := 5) (a := 5) (zby_w zwX9_isOnLine_2 31 rfl) (zby_w zwX9_isOnLine_2 32 rfl) (by decide)) rfl ?_
              refine zr_if_ne C 109 (zo_154 (p := 97) (k := 12) (a := 0) (b := 12) (zby_w zwX9_isOnLine_3 1 rfl) (zby_w zwX9_isOnLine_3 2 rfl) (zby_w zwX9_isOnLine_3 3 rfl) (by decide)) (by decide) (fun hc25 => ?_) (fun hc25 => ?_)
              · skip
                refine zr_iconst C (0 : Int32) d_X9_isOnLine_109 (by decide) ?_
                exact hJ23 _ (by rw [if_neg hc21, if_neg hc25])
              · skip
                refine zr_iload_n C (zo_29 (p := 100) (zby_w zwX9_isOnLine_3 4 rfl)) rfl ?_
                refine zr_iload_n C (zo_27 (p := 101) (zby_w zwX9_isOnLine_3 5 rfl)) rfl ?_
                refine zr_icmp_lt C 109 (zo_161 (p := 102) (k := 7) (a := 0) (b := 7) (zby_w zwX9_isOnLine_3 6 rfl) (zby_w zwX9_isOnLine_3 7 rfl) (zby_w zwX9_isOnLine_3 8 rfl) (by decide)) (by decide) (fun hc26 => ?_) (fun hc26 => ?_)
                · skip
                  refine zr_iconst C (0 : Int32) d_X9_isOnLine_109 (by decide) ?_
                  exact hJ23 _ (by rw [if_neg hc21, if_pos hc25, if_pos hc26])
                · skip
                  refine zr_iconst C (1 : Int32) d_X9_isOnLine_105 (by decide) ?_
                  refine zr_goto C 110 d_X9_isOnLine_106 (by decide) ?_
                  exact hJ23 _ (by rw [if_neg hc21, if_pos hc25, if_neg hc26])
          refine zr_icmp_lt C 83 (zo_161 (p := 65) (k := 18) (a := 0) (b := 18) (zby_w zwX9_isOnLine_2 1 rfl) (zby_w zwX9_isOnLine_2 2 rfl) (zby_w zwX9_isOnLine_2 3 rfl) (by decide)) (by decide) (fun hc14 => ?_) (fun hc14 => ?_)
          · skip
            rw [if_pos hc14] at ho17
            refine zr_iconst C (1 : Int32) d_X9_isOnLine_83 (by decide) ?_
            refine zr_goto C 88 d_X9_isOnLine_84 (by decide) ?_
            exact hJ16 _ (by rw [if_pos hc14])
          · skip
            rw [if_neg hc14] at ho17
            refine zr_aload_n C (zo_42 (p := 68) (zby_w zwX9_isOnLine_2 4 rfl)) rfl ?_
            refine zr_getr (u := 83) C fw_X9_49 (sh_69) rfl (zo_180 (p := 69) (k := 49) (a := 0) (b := 49) (zby_w zwX9_isOnLine_2 5 rfl) (zby_w zwX9_isOnLine_2 6 rfl) (zby_w zwX9_isOnLine_2 7 rfl) (by decide)) ?_
            refine zr_iload_n C (zo_29 (p := 72) (zby_w zwX9_isOnLine_2 8 rfl)) rfl ?_
            obtain ⟨ho18, ho17⟩ := ho17
            refine zr_iald C (sh_83) ho18 (zo_46 (p := 73) (zby_w zwX9_isOnLine_2 9 rfl)) ?_
            refine zr_aload_n C (zo_42 (p := 74) (zby_w zwX9_isOnLine_2 10 rfl)) rfl ?_
            refine zr_getr (u := 83) C fw_X9_49 (sh_69) rfl (zo_180 (p := 75) (k := 49) (a := 0) (b := 49) (zby_w zwX9_isOnLine_2 11 rfl) (zby_w zwX9_isOnLine_2 12 rfl) (zby_w zwX9_isOnLine_2 13 rfl) (by decide)) ?_
            refine zr_iload_n C (zo_27 (p := 78) (zby_w zwX9_isOnLine_2 14 rfl)) rfl ?_
            obtain ⟨ho19, ho17⟩ := ho17
            refine zr_iald C (sh_83) ho19 (zo_46 (p := 79) (zby_w zwX9_isOnLine_2 15 rfl)) ?_
            refine zr_icmp_ge C 87 (zo_162 (p := 80) (k := 7) (a := 0) (b := 7) (zby_w zwX9_isOnLine_2 16 rfl) (zby_w zwX9_isOnLine_2 17 rfl) (zby_w zwX9_isOnLine_2 18 rfl) (by decide)) (by decide) (fun hc20 => ?_) (fun hc20 => ?_)
            · skip
              refine zr_iconst C (0 : Int32) (zo_3 (p := 87) (zby_w zwX9_isOnLine_2 23 rfl)) (by decide) ?_
              exact hJ16 _ (by rw [if_neg hc14, if_pos hc20])
            · skip
              refine zr_iconst C (1 : Int32) d_X9_isOnLine_83 (by decide) ?_
              refine zr_goto C 88 d_X9_isOnLine_84 (by decide) ?_
              exact hJ16 _ (by rw [if_neg hc14, if_neg hc20])
        refine zr_icmp_gt C 50 (zo_163 (p := 28) (k := 22) (a := 0) (b := 22) (zby_w zwX9_isOnLine_0 28 rfl) (zby_w zwX9_isOnLine_0 29 rfl) (zby_w zwX9_isOnLine_0 30 rfl) (by decide)) (by decide) (fun hc5 => ?_) (fun hc5 => ?_)
        · skip
          rw [if_pos hc5] at ho8
          refine zr_iconst C (0 : Int32) d_X9_isOnLine_50 (by decide) ?_
          exact hJ7 _ (by rw [if_pos hc5])
        · skip
          rw [if_neg hc5] at ho8
          refine zr_aload_n C (zo_42 (p := 31) (zby_w zwX9_isOnLine_0 31 rfl)) rfl ?_
          refine zr_getr (u := 83) C fw_X9_49 (sh_69) rfl (zo_180 (p := 32) (k := 49) (a := 0) (b := 49) (zby_w zwX9_isOnLine_1 0 rfl) (zby_w zwX9_isOnLine_1 1 rfl) (zby_w zwX9_isOnLine_1 2 rfl) (by decide)) ?_
          refine zr_iload_n C (zo_29 (p := 35) (zby_w zwX9_isOnLine_1 3 rfl)) rfl ?_
          obtain ⟨ho9, ho8⟩ := ho8
          refine zr_iald C (sh_83) ho9 (zo_46 (p := 36) (zby_w zwX9_isOnLine_1 4 rfl)) ?_
          refine zr_aload_n C (zo_42 (p := 37) (zby_w zwX9_isOnLine_1 5 rfl)) rfl ?_
          refine zr_getr (u := 83) C fw_X9_49 (sh_69) rfl (zo_180 (p := 38) (k := 49) (a := 0) (b := 49) (zby_w zwX9_isOnLine_1 6 rfl) (zby_w zwX9_isOnLine_1 7 rfl) (zby_w zwX9_isOnLine_1 8 rfl) (by decide)) ?_
          refine zr_iload_n C (zo_27 (p := 41) (zby_w zwX9_isOnLine_1 9 rfl)) rfl ?_
          obtain ⟨ho10, ho8⟩ := ho8
          refine zr_iald C (sh_83) ho10 (zo_46 (p := 42) (zby_w zwX9_isOnLine_1 10 rfl)) ?_
          refine zr_icmp_gt C 50 (zo_163 (p := 43) (k := 7) (a := 0) (b := 7) (zby_w zwX9_isOnLine_1 11 rfl) (zby_w zwX9_isOnLine_1 12 rfl) (zby_w zwX9_isOnLine_1 13 rfl) (by decide)) (by decide) (fun hc11 => ?_) (fun hc11 => ?_)
          · skip
            refine zr_iconst C (0 : Int32) d_X9_isOnLine_50 (by decide) ?_
            exact hJ7 _ (by rw [if_neg hc5, if_pos hc11])
          · skip
            refine zr_iconst C (1 : Int32) (zo_4 (p := 46) (zby_w zwX9_isOnLine_1 14 rfl)) (by decide) ?_
            refine zr_goto C 51 (zo_167 (p := 47) (k := 4) (a := 0) (b := 4) (zby_w zwX9_isOnLine_1 15 rfl) (zby_w zwX9_isOnLine_1 16 rfl) (zby_w zwX9_isOnLine_1 17 rfl) (by decide)) (by decide) ?_
            exact hJ7 _ (by rw [if_neg hc5, if_neg hc11])

def wp_X9_isOnLine (p1 : Int32) (σ : zST) (Post : Int32 → Prop) : Prop := ∃ M27 : Nat, wp_X9_isOnLine_L4 p1 σ Post M27 (1 : Int32) (0 : Int32)
set_option maxRecDepth 100000 in
set_option maxHeartbeats 4000000 in
theorem g_X9_isOnLine {p : Program} {l : Launch} {e : Env} {R : Room} {s : State} {m : MethodId} {args : Array Value} {below : List Frame} {meth : Method} {c : Code} {Q : State → Prop} {g : zG} {n1 n2 : Nat} (C : zCX p R s m args meth c g n1 n2 cX9_isOnLine 6 RX9 0 0) {p1 : Int32} {σ : zST} {Post : Int32 → Prop} (hret : ∀ (v : Int32) (pc : Nat) (lv : List (Nat × Value)), zB v → Post v → decode cX9_isOnLine pc = .ok (.ireturn, 1) → zGG p l e R s m args below meth c Q g n1 n2 6 pc lv [.int v] σ) (h : wp_X9_isOnLine p1 σ Post) : zGG p l e R s m args below meth c Q g n1 n2 6 0 [(0, .ref (g.2.1 69)), (1, .int p1)] [] σ := by
  unfold wp_X9_isOnLine at h
  refine zr_iconst C (1 : Int32) (zo_4 (p := 0) (zby_w zwX9_isOnLine_0 0 rfl)) (by decide) ?_
  refine zr_istore_n C [(2, .int (1 : Int32)), (0, .ref (g.2.1 69)), (1, .int p1)] (zo_61 (p := 1) (zby_w zwX9_isOnLine_0 1 rfl)) (by decide) rfl ?_
  refine zr_iconst C (0 : Int32) (zo_3 (p := 2) (zby_w zwX9_isOnLine_0 2 rfl)) (by decide) ?_
  refine zr_istore_n C [(3, .int (0 : Int32)), (2, .int (1 : Int32)), (0, .ref (g.2.1 69)), (1, .int p1)] (zo_62 (p := 3) (zby_w zwX9_isOnLine_0 3 rfl)) (by decide) rfl ?_
  obtain ⟨M27, h⟩ := h
  exact zr_pick [2, 3, 1, 0] rfl (g_X9_isOnLine_L4 C hret M27 (1 : Int32) (0 : Int32) h)
set_option maxRecDepth 20000 in
theorem c_X9_isOnLine (l : Launch) (g : zG) (p1 : Int32) (σ : zST) (Post : Int32 → Prop) (h : wp_X9_isOnLine p1 σ Post) : Met l yX9_isOnLine (Cond.code yX9_isOnLine cX9_isOnLine 6 (some .boolean) :: zGW) (zRm 0 0) (va_Pc [.ref (g.2.1 69), .int p1] (zPP g σ)) (va_Qi (fun r u => Post r ∧ u = σ) (zBB g) (zA g)) 0 0 (zA g) :=
  zMet (by decide) (Nat.le_of_ble_eq_true rfl) (fun p e s m below meth c hr C => g_X9_isOnLine C (fun v pc lv hz hp hd => zr_zret C hr hz ⟨hp, rfl⟩ hd) h)
def wp_X9_lessThan_L4 (v1 : Int32) (σ : zST) (Post : Int32 → Prop) : Nat → Int32 → Int32 → Prop
  | 0, _, _ => False
  | N + 1, v2, v3 => (if (σ.1 69 34) ≤ v3 then Post v2 else vp_in v3 729 ∧ (if (σ.1 84 v3.toNatClampNeg) = (1 : Int32) then vp_in v3 729 ∧ vp_in v1 729 ∧ True else True) ∧ ∀ z4 : Int32, z4 = (if (σ.1 84 v3.toNatClampNeg) = (1 : Int32) then (if (σ.1 82 v1.toNatClampNeg) ≤ (σ.1 82 v3.toNatClampNeg) then (0 : Int32) else (1 : Int32)) else (0 : Int32)) → ∀ x10 : Int32, x10 = (v2 + z4) → wp_X9_lessThan_L4 v1 σ Post N x10 (v3 + 1))

set_option maxRecDepth 100000 in
set_option maxHeartbeats 4000000 in
theorem g_X9_lessThan_L4 {p : Program} {l : Launch} {e : Env} {R : Room} {s : State} {m : MethodId} {args : Array Value} {below : List Frame} {meth : Method} {c : Code} {Q : State → Prop} {g : zG} {n1 n2 : Nat} (C : zCX p R s m args meth c g n1 n2 cX9_lessThan 4 RX9 0 0) {v1 : Int32} {σ : zST}  {Post : Int32 → Prop} (hret : ∀ (v : Int32) (pc : Nat) (lv : List (Nat × Value)), Post v → decode cX9_lessThan pc = .ok (.ireturn, 1) → zGG p l e R s m args below meth c Q g n1 n2 4 pc lv [.int v] σ) : ∀ (N : Nat) (v2 : Int32) (v3 : Int32) , wp_X9_lessThan_L4 v1 σ Post N v2 v3 → zGG p l e R s m args below meth c Q g n1 n2 4 4 [(0, .ref (g.2.1 69)), (1, .int v1), (2, .int v2), (3, .int v3)] [] σ := by
  intro N
  induction N with
  | zero =>
    intro v2 v3 h
    exact h.elim
  | succ N ih =>
    intro v2 v3 h
    rw [wp_X9_lessThan_L4] at h
    refine zr_iload_n C (zo_29 (p := 4) (zby_w zwX9_lessThan_0 4 rfl)) rfl ?_
    refine zr_aload_n C (zo_42 (p := 5) (zby_w zwX9_lessThan_0 5 rfl)) rfl ?_
    refine zr_geti C fw_X9_231 (sh_69) rfl (zo_180 (p := 6) (k := 231) (a := 0) (b := 231) (zby_w zwX9_lessThan_0 6 rfl) (zby_w zwX9_lessThan_0 7 rfl) (zby_w zwX9_lessThan_0 8 rfl) (by decide)) ?_
    refine zr_icmp_ge C 51 (zo_162 (p := 9) (k := 42) (a := 0) (b := 42) (zby_w zwX9_lessThan_0 9 rfl) (zby_w zwX9_lessThan_0 10 rfl) (zby_w zwX9_lessThan_0 11 rfl) (by decide)) (by decide) (fun hc1 => ?_) (fun hc1 => ?_)
    · rw [if_pos hc1] at h
      refine zr_iload_n C (zo_28 (p := 51) (zby_w zwX9_lessThan_1 19 rfl)) rfl ?_
      exact hret _ _ _ h (zo_172 (p := 52) (zby_w zwX9_lessThan_1 20 rfl))
    · rw [if_neg hc1] at h
      refine zr_iload_n C (zo_28 (p := 12) (zby_w zwX9_lessThan_0 12 rfl)) rfl ?_
      refine zr_aload_n C (zo_42 (p := 13) (zby_w zwX9_lessThan_0 13 rfl)) rfl ?_
      refine zr_getr (u := 84) C fw_X9_52 (sh_69) rfl (zo_180 (p := 14) (k := 52) (a := 0) (b := 52) (zby_w zwX9_lessThan_0 14 rfl) (zby_w zwX9_lessThan_0 15 rfl) (zby_w zwX9_lessThan_0 16 rfl) (by decide)) ?_
      refine zr_iload_n C (zo_29 (p := 17) (zby_w zwX9_lessThan_0 17 rfl)) rfl ?_
      obtain ⟨ho2, h⟩ := h
      refine zr_iald C (sh_84) ho2 (zo_46 (p := 18) (zby_w zwX9_lessThan_0 18 rfl)) ?_
      refine zr_iconst C (1 : Int32) (zo_4 (p := 19) (zby_w zwX9_lessThan_0 19 rfl)) (by decide) ?_
      obtain ⟨ho6, h⟩ := h
      have hJ5 : ∀ z4 : Int32, z4 = (if (σ.1 84 v3.toNatClampNeg) = (1 : Int32) then (if (σ.1 82 v1.toNatClampNeg) ≤ (σ.1 82 v3.toNatClampNeg) then (0 : Int32) else (1 : Int32)) else (0 : Int32)) → zGG p l e R s m args below meth c Q g n1 n2 4 43 [(0, .ref (g.2.1 69)), (1, .int v1), (2, .int v2), (3, .int v3)] [.int z4, .int v2] σ := by
        intro z4 hz4
        replace h := h z4 hz4
        refine zr_iadd C (zo_96 (p := 43) (zby_w zwX9_lessThan_1 11 rfl)) ?_
        refine zr_topi (fun x10 hx10 => ?_)
        replace h := h x10 hx10
        refine zr_istore_n C [(2, .int x10), (0, .ref (g.2.1 69)), (1, .int v1), (3, .int v3)] (zo_61 (p := 44) (zby_w zwX9_lessThan_1 12 rfl)) (by decide) rfl ?_
        refine zr_iinc C (v3 + 1) [(3, .int (v3 + 1)), (2, .int x10), (0, .ref (g.2.1 69)), (1, .int v1)] d_X9_lessThan_45 rfl rfl (by decide) rfl ?_
        refine zr_goto C 4 (zo_167 (p := 48) (k := (-44)) (a := 255) (b := 212) (zby_w zwX9_lessThan_1 16 rfl) (zby_w zwX9_lessThan_1 17 rfl) (zby_w zwX9_lessThan_1 18 rfl) (by decide)) (by decide) ?_
        exact zr_pick [2, 3, 1, 0] rfl (ih x10 (v3 + 1) h)
      refine zr_icmp_ne C 42 (zo_160 (p := 20) (k := 22) (a := 0) (b := 22) (zby_w zwX9_lessThan_0 20 rfl) (zby_w zwX9_lessThan_0 21 rfl) (zby_w zwX9_lessThan_0 22 rfl) (by decide)) (by decide) (fun hc3 => ?_) (fun hc3 => ?_)
      · skip
        rw [if_neg hc3] at ho6
        refine zr_iconst C (0 : Int32) d_X9_lessThan_42 (by decide) ?_
        exact hJ5 _ (by rw [if_neg hc3])
      · skip
        rw [if_pos hc3] at ho6
        refine zr_aload_n C (zo_42 (p := 23) (zby_w zwX9_lessThan_0 23 rfl)) rfl ?_
        refine zr_getr (u := 82) C fw_X9_46 (sh_69) rfl (zo_180 (p := 24) (k := 46) (a := 0) (b := 46) (zby_w zwX9_lessThan_0 24 rfl) (zby_w zwX9_lessThan_0 25 rfl) (zby_w zwX9_lessThan_0 26 rfl) (by decide)) ?_
        refine zr_iload_n C (zo_29 (p := 27) (zby_w zwX9_lessThan_0 27 rfl)) rfl ?_
        obtain ⟨ho7, ho6⟩ := ho6
        refine zr_iald C (sh_82) ho7 (zo_46 (p := 28) (zby_w zwX9_lessThan_0 28 rfl)) ?_
        refine zr_aload_n C (zo_42 (p := 29) (zby_w zwX9_lessThan_0 29 rfl)) rfl ?_
        refine zr_getr (u := 82) C fw_X9_46 (sh_69) rfl (zo_180 (p := 30) (k := 46) (a := 0) (b := 46) (zby_w zwX9_lessThan_0 30 rfl) (zby_w zwX9_lessThan_0 31 rfl) (zby_w zwX9_lessThan_0 32 rfl) (by decide)) ?_
        refine zr_iload_n C (zo_27 (p := 33) (zby_w zwX9_lessThan_1 1 rfl)) rfl ?_
        obtain ⟨ho8, ho6⟩ := ho6
        refine zr_iald C (sh_82) ho8 (zo_46 (p := 34) (zby_w zwX9_lessThan_1 2 rfl)) ?_
        refine zr_icmp_ge C 42 (zo_162 (p := 35) (k := 7) (a := 0) (b := 7) (zby_w zwX9_lessThan_1 3 rfl) (zby_w zwX9_lessThan_1 4 rfl) (zby_w zwX9_lessThan_1 5 rfl) (by decide)) (by decide) (fun hc9 => ?_) (fun hc9 => ?_)
        · skip
          refine zr_iconst C (0 : Int32) d_X9_lessThan_42 (by decide) ?_
          exact hJ5 _ (by rw [if_pos hc3, if_pos hc9])
        · skip
          refine zr_iconst C (1 : Int32) (zo_4 (p := 38) (zby_w zwX9_lessThan_1 6 rfl)) (by decide) ?_
          refine zr_goto C 43 (zo_167 (p := 39) (k := 4) (a := 0) (b := 4) (zby_w zwX9_lessThan_1 7 rfl) (zby_w zwX9_lessThan_1 8 rfl) (zby_w zwX9_lessThan_1 9 rfl) (by decide)) (by decide) ?_
          exact hJ5 _ (by rw [if_pos hc3, if_neg hc9])

def wp_X9_lessThan (p1 : Int32) (σ : zST) (Post : Int32 → Prop) : Prop := ∃ M11 : Nat, wp_X9_lessThan_L4 p1 σ Post M11 (0 : Int32) (0 : Int32)
set_option maxRecDepth 100000 in
set_option maxHeartbeats 4000000 in
theorem g_X9_lessThan {p : Program} {l : Launch} {e : Env} {R : Room} {s : State} {m : MethodId} {args : Array Value} {below : List Frame} {meth : Method} {c : Code} {Q : State → Prop} {g : zG} {n1 n2 : Nat} (C : zCX p R s m args meth c g n1 n2 cX9_lessThan 4 RX9 0 0) {p1 : Int32} {σ : zST} {Post : Int32 → Prop} (hret : ∀ (v : Int32) (pc : Nat) (lv : List (Nat × Value)), Post v → decode cX9_lessThan pc = .ok (.ireturn, 1) → zGG p l e R s m args below meth c Q g n1 n2 4 pc lv [.int v] σ) (h : wp_X9_lessThan p1 σ Post) : zGG p l e R s m args below meth c Q g n1 n2 4 0 [(0, .ref (g.2.1 69)), (1, .int p1)] [] σ := by
  unfold wp_X9_lessThan at h
  refine zr_iconst C (0 : Int32) (zo_3 (p := 0) (zby_w zwX9_lessThan_0 0 rfl)) (by decide) ?_
  refine zr_istore_n C [(2, .int (0 : Int32)), (0, .ref (g.2.1 69)), (1, .int p1)] (zo_61 (p := 1) (zby_w zwX9_lessThan_0 1 rfl)) (by decide) rfl ?_
  refine zr_iconst C (0 : Int32) (zo_3 (p := 2) (zby_w zwX9_lessThan_0 2 rfl)) (by decide) ?_
  refine zr_istore_n C [(3, .int (0 : Int32)), (2, .int (0 : Int32)), (0, .ref (g.2.1 69)), (1, .int p1)] (zo_62 (p := 3) (zby_w zwX9_lessThan_0 3 rfl)) (by decide) rfl ?_
  obtain ⟨M11, h⟩ := h
  exact zr_pick [2, 3, 1, 0] rfl (g_X9_lessThan_L4 C hret M11 (0 : Int32) (0 : Int32) h)
set_option maxRecDepth 20000 in
theorem c_X9_lessThan (l : Launch) (g : zG) (p1 : Int32) (σ : zST) (Post : Int32 → Prop) (h : wp_X9_lessThan p1 σ Post) : Met l yX9_lessThan (Cond.code yX9_lessThan cX9_lessThan 4 (some .int) :: zGW) (zRm 0 0) (va_Pc [.ref (g.2.1 69), .int p1] (zPP g σ)) (va_Qi (fun r u => Post r ∧ u = σ) (zBB g) (zA g)) 0 0 (zA g) :=
  zMet (by decide) (Nat.le_of_ble_eq_true rfl) (fun p e s m below meth c hr C => g_X9_lessThan C (fun v pc lv hp hd => zr_iret C hr ⟨hp, rfl⟩ hd) h)
def wp_X9_line_L31 (v2 : Int32) (v3 : Int32) (K78 : Int32 → zST → Prop) : Nat → Int32 → Int32 → zST → Prop
  | 0, _, _, _ => False
  | N + 1, v4, v5, σ => (if (σ.1 69 34) ≤ v5 then K78 v4 σ else wp_X9_isOnLine v5 σ (fun r10 => ∀ z13 : Int32, z13 = (if r10 = (0) then (0 : Int32) else (1 : Int32)) → vp_in v5 729 ∧ ∀ x17 : Int32, x17 = (v4 + z13) → wp_X9_line_L31 v2 v3 K78 N x17 (v5 + 1) (wI σ 84 v5.toNatClampNeg z13)))

set_option maxRecDepth 100000 in
set_option maxHeartbeats 4000000 in
theorem g_X9_line_L31 {p : Program} {l : Launch} {e : Env} {R : Room} {s : State} {m : MethodId} {args : Array Value} {below : List Frame} {meth : Method} {c : Code} {Q : State → Prop} {g : zG} {n1 n2 : Nat} (C : zCX p R s m args meth c g n1 n2 cX9_line 7 RX9 5 111) {v2 : Int32} {v3 : Int32} {K78 : Int32 → zST → Prop} (hK78 : ∀ (w4 : Int32) (σ : zST), K78 w4 σ → zGG p l e R s m args below meth c Q g n1 n2 7 78 [(0, .ref (g.2.1 69)), (2, .int v2), (3, .int v3), (4, .int w4)] [] σ) : ∀ (N : Nat) (v4 : Int32) (v5 : Int32) (σ : zST) , wp_X9_line_L31 v2 v3 K78 N v4 v5 σ → zGG p l e R s m args below meth c Q g n1 n2 7 31 [(0, .ref (g.2.1 69)), (2, .int v2), (3, .int v3), (4, .int v4), (5, .int v5)] [] σ := by
  intro N
  induction N with
  | zero =>
    intro v4 v5 σ h
    exact h.elim
  | succ N ih =>
    intro v4 v5 σ h
    rw [wp_X9_line_L31] at h
    refine zr_iload C (zo_21 (p := 31) (k := 5) (a := 5) (zby_w zwX9_line_0 31 rfl) (zby_w zwX9_line_0 32 rfl) (by decide)) rfl ?_
    refine zr_aload_n C (zo_42 (p := 33) (zby_w zwX9_line_1 1 rfl)) rfl ?_
    refine zr_geti C fw_X9_231 (sh_69) rfl (zo_180 (p := 34) (k := 231) (a := 0) (b := 231) (zby_w zwX9_line_1 2 rfl) (zby_w zwX9_line_1 3 rfl) (zby_w zwX9_line_1 4 rfl) (by decide)) ?_
    refine zr_icmp_ge C 78 (zo_162 (p := 37) (k := 41) (a := 0) (b := 41) (zby_w zwX9_line_1 5 rfl) (zby_w zwX9_line_1 6 rfl) (zby_w zwX9_line_1 7 rfl) (by decide)) (by decide) (fun hc9 => ?_) (fun hc9 => ?_)
    · rw [if_pos hc9] at h
      exact zr_pick [0, 1, 2, 3] rfl (hK78 v4 σ h)
    · rw [if_neg hc9] at h
      refine zr_aload_n C (zo_42 (p := 40) (zby_w zwX9_line_1 8 rfl)) rfl ?_
      refine zr_iload C (zo_21 (p := 41) (k := 5) (a := 5) (zby_w zwX9_line_1 9 rfl) (zby_w zwX9_line_1 10 rfl) (by decide)) rfl ?_
      refine zr_cip (zr_runV (As := [.int v5]) (rest := []) C vw_X9_245 (c_X9_isOnLine l g v5 σ _ h) (sh_69) rfl (by decide) (by decide) rfl rfl (Nat.le_of_ble_eq_true rfl) (zo_182 (p := 43) (k := 245) (a := 0) (b := 245) (zby_w zwX9_line_1 11 rfl) (zby_w zwX9_line_1 12 rfl) (zby_w zwX9_line_1 13 rfl) (by decide))) (fun r10 h => ?_)
      have hJ14 : ∀ z13 : Int32, z13 = (if r10 = (0) then (0 : Int32) else (1 : Int32)) → zGG p l e R s m args below meth c Q g n1 n2 7 54 [(0, .ref (g.2.1 69)), (2, .int v2), (3, .int v3), (4, .int v4), (5, .int v5)] [.int z13] σ := by
        intro z13 hz13
        replace h := h z13 hz13
        refine zr_istore C [(6, .int z13), (0, .ref (g.2.1 69)), (2, .int v2), (3, .int v3), (4, .int v4), (5, .int v5)] (zo_54 (p := 54) (k := 6) (a := 6) (zby_w zwX9_line_1 22 rfl) (zby_w zwX9_line_1 23 rfl) (by decide)) (by decide) rfl ?_
        refine zr_aload_n C (zo_42 (p := 56) (zby_w zwX9_line_1 24 rfl)) rfl ?_
        refine zr_getr (u := 84) C fw_X9_52 (sh_69) rfl (zo_180 (p := 57) (k := 52) (a := 0) (b := 52) (zby_w zwX9_line_1 25 rfl) (zby_w zwX9_line_1 26 rfl) (zby_w zwX9_line_1 27 rfl) (by decide)) ?_
        refine zr_iload C (zo_21 (p := 60) (k := 5) (a := 5) (zby_w zwX9_line_1 28 rfl) (zby_w zwX9_line_1 29 rfl) (by decide)) rfl ?_
        refine zr_iload C (zo_21 (p := 62) (k := 6) (a := 6) (zby_w zwX9_line_1 30 rfl) (zby_w zwX9_line_1 31 rfl) (by decide)) rfl ?_
        obtain ⟨ho16, h⟩ := h
        refine zr_iast C (sh_84) ho16 (zo_79 (p := 64) (zby_w zwX9_line_2 0 rfl)) ?_
        refine zr_iload C (zo_21 (p := 65) (k := 4) (a := 4) (zby_w zwX9_line_2 1 rfl) (zby_w zwX9_line_2 2 rfl) (by decide)) rfl ?_
        refine zr_iload C (zo_21 (p := 67) (k := 6) (a := 6) (zby_w zwX9_line_2 3 rfl) (zby_w zwX9_line_2 4 rfl) (by decide)) rfl ?_
        refine zr_iadd C (zo_96 (p := 69) (zby_w zwX9_line_2 5 rfl)) ?_
        refine zr_topi (fun x17 hx17 => ?_)
        replace h := h x17 hx17
        refine zr_istore C [(4, .int x17), (6, .int z13), (0, .ref (g.2.1 69)), (2, .int v2), (3, .int v3), (5, .int v5)] (zo_54 (p := 70) (k := 4) (a := 4) (zby_w zwX9_line_2 6 rfl) (zby_w zwX9_line_2 7 rfl) (by decide)) (by decide) rfl ?_
        refine zr_iinc C (v5 + 1) [(5, .int (v5 + 1)), (4, .int x17), (6, .int z13), (0, .ref (g.2.1 69)), (2, .int v2), (3, .int v3)] d_X9_line_72 rfl rfl (by decide) rfl ?_
        refine zr_goto C 31 (zo_167 (p := 75) (k := (-44)) (a := 255) (b := 212) (zby_w zwX9_line_2 11 rfl) (zby_w zwX9_line_2 12 rfl) (zby_w zwX9_line_2 13 rfl) (by decide)) (by decide) ?_
        exact zr_pick [3, 4, 5, 1, 0] rfl (ih x17 (v5 + 1) (wI σ 84 v5.toNatClampNeg z13) h)
      refine zr_if_eq C 53 (zo_153 (p := 46) (k := 7) (a := 0) (b := 7) (zby_w zwX9_line_1 14 rfl) (zby_w zwX9_line_1 15 rfl) (zby_w zwX9_line_1 16 rfl) (by decide)) (by decide) (fun hc12 => ?_) (fun hc12 => ?_)
      · skip
        refine zr_iconst C (0 : Int32) (zo_3 (p := 53) (zby_w zwX9_line_1 21 rfl)) (by decide) ?_
        exact hJ14 _ (by rw [if_pos hc12])
      · skip
        refine zr_iconst C (1 : Int32) (zo_4 (p := 49) (zby_w zwX9_line_1 17 rfl)) (by decide) ?_
        refine zr_goto C 54 (zo_167 (p := 50) (k := 4) (a := 0) (b := 4) (zby_w zwX9_line_1 18 rfl) (zby_w zwX9_line_1 19 rfl) (zby_w zwX9_line_1 20 rfl) (by decide)) (by decide) ?_
        exact hJ14 _ (by rw [if_neg hc12])

def wp_X9_line_L113 (v2 : Int32) (v3 : Int32) (Post : Int32 → zST → Prop) : Nat → Int32 → zST → Prop
  | 0, _, _ => False
  | N + 1, v5, σ => (if (σ.1 69 34) ≤ v5 then Post (-6 : Int32) σ else vp_in v5 729 ∧ (if (σ.1 84 v5.toNatClampNeg) = (1 : Int32) then wp_X9_lessThan v5 σ (fun r29 => (if r29 = v2 then (if v3 = (0) then vp_in v5 729 ∧ True else vp_in v5 729 ∧ True) ∧ ∀ z33 : Int32, z33 = (if v3 = (0) then (σ.1 82 v5.toNatClampNeg) else (σ.1 83 v5.toNatClampNeg)) → Post z33 σ else wp_X9_line_L113 v2 v3 Post N (v5 + 1) σ)) else wp_X9_line_L113 v2 v3 Post N (v5 + 1) σ))

set_option maxRecDepth 100000 in
set_option maxHeartbeats 4000000 in
theorem g_X9_line_L113 {p : Program} {l : Launch} {e : Env} {R : Room} {s : State} {m : MethodId} {args : Array Value} {below : List Frame} {meth : Method} {c : Code} {Q : State → Prop} {g : zG} {n1 n2 : Nat} (C : zCX p R s m args meth c g n1 n2 cX9_line 7 RX9 5 111) {v2 : Int32} {v3 : Int32}  {Post : Int32 → zST → Prop} (hret : ∀ (v : Int32) (σ : zST) (pc : Nat) (lv : List (Nat × Value)), Post v σ → decode cX9_line pc = .ok (.ireturn, 1) → zGG p l e R s m args below meth c Q g n1 n2 7 pc lv [.int v] σ) : ∀ (N : Nat) (v5 : Int32) (σ : zST) , wp_X9_line_L113 v2 v3 Post N v5 σ → zGG p l e R s m args below meth c Q g n1 n2 7 113 [(0, .ref (g.2.1 69)), (2, .int v2), (3, .int v3), (5, .int v5)] [] σ := by
  intro N
  induction N with
  | zero =>
    intro v5 σ h
    exact h.elim
  | succ N ih =>
    intro v5 σ h
    rw [wp_X9_line_L113] at h
    refine zr_iload C (zo_21 (p := 113) (k := 5) (a := 5) (zby_w zwX9_line_3 17 rfl) (zby_w zwX9_line_3 18 rfl) (by decide)) rfl ?_
    refine zr_aload_n C (zo_42 (p := 115) (zby_w zwX9_line_3 19 rfl)) rfl ?_
    refine zr_geti C fw_X9_231 (sh_69) rfl (zo_180 (p := 116) (k := 231) (a := 0) (b := 231) (zby_w zwX9_line_3 20 rfl) (zby_w zwX9_line_3 21 rfl) (zby_w zwX9_line_3 22 rfl) (by decide)) ?_
    refine zr_icmp_ge C 171 (zo_162 (p := 119) (k := 52) (a := 0) (b := 52) (zby_w zwX9_line_3 23 rfl) (zby_w zwX9_line_3 24 rfl) (zby_w zwX9_line_3 25 rfl) (by decide)) (by decide) (fun hc26 => ?_) (fun hc26 => ?_)
    · rw [if_pos hc26] at h
      refine zr_bipush C (-6 : Int32) (zo_16 (p := 171) (k := (-6)) (a := 250) (zby_w zwX9_line_5 11 rfl) (zby_w zwX9_line_5 12 rfl) (by decide)) (by decide) ?_
      exact hret _ _ _ _ h (zo_172 (p := 173) (zby_w zwX9_line_5 13 rfl))
    · rw [if_neg hc26] at h
      refine zr_aload_n C (zo_42 (p := 122) (zby_w zwX9_line_3 26 rfl)) rfl ?_
      refine zr_getr (u := 84) C fw_X9_52 (sh_69) rfl (zo_180 (p := 123) (k := 52) (a := 0) (b := 52) (zby_w zwX9_line_3 27 rfl) (zby_w zwX9_line_3 28 rfl) (zby_w zwX9_line_3 29 rfl) (by decide)) ?_
      refine zr_iload C (zo_21 (p := 126) (k := 5) (a := 5) (zby_w zwX9_line_3 30 rfl) (zby_w zwX9_line_3 31 rfl) (by decide)) rfl ?_
      obtain ⟨ho27, h⟩ := h
      refine zr_iald C (sh_84) ho27 (zo_46 (p := 128) (zby_w zwX9_line_4 0 rfl)) ?_
      refine zr_iconst C (1 : Int32) (zo_4 (p := 129) (zby_w zwX9_line_4 1 rfl)) (by decide) ?_
      refine zr_icmp_ne C 165 (zo_160 (p := 130) (k := 35) (a := 0) (b := 35) (zby_w zwX9_line_4 2 rfl) (zby_w zwX9_line_4 3 rfl) (zby_w zwX9_line_4 4 rfl) (by decide)) (by decide) (fun hc28 => ?_) (fun hc28 => ?_)
      · rw [if_neg hc28] at h
        refine zr_iinc C (v5 + 1) [(5, .int (v5 + 1)), (0, .ref (g.2.1 69)), (2, .int v2), (3, .int v3)] d_X9_line_165 rfl rfl (by decide) rfl ?_
        refine zr_goto C 113 d_X9_line_168 (by decide) ?_
        exact zr_pick [1, 2, 3, 0] rfl (ih (v5 + 1) σ h)
      · rw [if_pos hc28] at h
        refine zr_aload_n C (zo_42 (p := 133) (zby_w zwX9_line_4 5 rfl)) rfl ?_
        refine zr_iload C (zo_21 (p := 134) (k := 5) (a := 5) (zby_w zwX9_line_4 6 rfl) (zby_w zwX9_line_4 7 rfl) (by decide)) rfl ?_
        refine zr_cip (zr_runV (As := [.int v5]) (rest := []) C vw_X9_248 (c_X9_lessThan l g v5 σ _ h) (sh_69) rfl (by decide) (by decide) rfl rfl (Nat.le_of_ble_eq_true rfl) (zo_182 (p := 136) (k := 248) (a := 0) (b := 248) (zby_w zwX9_line_4 8 rfl) (zby_w zwX9_line_4 9 rfl) (zby_w zwX9_line_4 10 rfl) (by decide))) (fun r29 h => ?_)
        refine zr_iload_n C (zo_28 (p := 139) (zby_w zwX9_line_4 11 rfl)) rfl ?_
        refine zr_icmp_ne C 165 (zo_160 (p := 140) (k := 25) (a := 0) (b := 25) (zby_w zwX9_line_4 12 rfl) (zby_w zwX9_line_4 13 rfl) (zby_w zwX9_line_4 14 rfl) (by decide)) (by decide) (fun hc31 => ?_) (fun hc31 => ?_)
        · rw [if_neg hc31] at h
          refine zr_iinc C (v5 + 1) [(5, .int (v5 + 1)), (0, .ref (g.2.1 69)), (2, .int v2), (3, .int v3)] d_X9_line_165 rfl rfl (by decide) rfl ?_
          refine zr_goto C 113 d_X9_line_168 (by decide) ?_
          exact zr_pick [1, 2, 3, 0] rfl (ih (v5 + 1) σ h)
        · rw [if_pos hc31] at h
          refine zr_iload_n C (zo_29 (p := 143) (zby_w zwX9_line_4 15 rfl)) rfl ?_
          obtain ⟨ho35, h⟩ := h
          have hJ34 : ∀ z33 : Int32, z33 = (if v3 = (0) then (σ.1 82 v5.toNatClampNeg) else (σ.1 83 v5.toNatClampNeg)) → zGG p l e R s m args below meth c Q g n1 n2 7 164 [(0, .ref (g.2.1 69)), (2, .int v2), (3, .int v3), (5, .int v5)] [.int z33] σ := by
            intro z33 hz33
            replace h := h z33 hz33
            exact hret _ _ _ _ h (zo_172 (p := 164) (zby_w zwX9_line_5 4 rfl))
          refine zr_if_ne C 157 (zo_154 (p := 144) (k := 13) (a := 0) (b := 13) (zby_w zwX9_line_4 16 rfl) (zby_w zwX9_line_4 17 rfl) (zby_w zwX9_line_4 18 rfl) (by decide)) (by decide) (fun hc32 => ?_) (fun hc32 => ?_)
          · skip
            rw [if_neg hc32] at ho35
            refine zr_aload_n C (zo_42 (p := 157) (zby_w zwX9_line_4 29 rfl)) rfl ?_
            refine zr_getr (u := 83) C fw_X9_49 (sh_69) rfl (zo_180 (p := 158) (k := 49) (a := 0) (b := 49) (zby_w zwX9_line_4 30 rfl) (zby_w zwX9_line_4 31 rfl) (zby_w zwX9_line_4 32 rfl) (by decide)) ?_
            refine zr_iload C (zo_21 (p := 161) (k := 5) (a := 5) (zby_w zwX9_line_5 1 rfl) (zby_w zwX9_line_5 2 rfl) (by decide)) rfl ?_
            obtain ⟨ho36, ho35⟩ := ho35
            refine zr_iald C (sh_83) ho36 (zo_46 (p := 163) (zby_w zwX9_line_5 3 rfl)) ?_
            exact hJ34 _ (by rw [if_neg hc32])
          · skip
            rw [if_pos hc32] at ho35
            refine zr_aload_n C (zo_42 (p := 147) (zby_w zwX9_line_4 19 rfl)) rfl ?_
            refine zr_getr (u := 82) C fw_X9_46 (sh_69) rfl (zo_180 (p := 148) (k := 46) (a := 0) (b := 46) (zby_w zwX9_line_4 20 rfl) (zby_w zwX9_line_4 21 rfl) (zby_w zwX9_line_4 22 rfl) (by decide)) ?_
            refine zr_iload C (zo_21 (p := 151) (k := 5) (a := 5) (zby_w zwX9_line_4 23 rfl) (zby_w zwX9_line_4 24 rfl) (by decide)) rfl ?_
            obtain ⟨ho37, ho35⟩ := ho35
            refine zr_iald C (sh_82) ho37 (zo_46 (p := 153) (zby_w zwX9_line_4 25 rfl)) ?_
            refine zr_goto C 164 (zo_167 (p := 154) (k := 10) (a := 0) (b := 10) (zby_w zwX9_line_4 26 rfl) (zby_w zwX9_line_4 27 rfl) (zby_w zwX9_line_4 28 rfl) (by decide)) (by decide) ?_
            exact hJ34 _ (by rw [if_pos hc32])

def wp_X9_line (p1 : Int32) (p2 : Int32) (p3 : Int32) (σ : zST) (Post : Int32 → zST → Prop) : Prop := wp_X9_isHour p1 σ (fun r1 => (if r1 = (0) then Post (-2 : Int32) σ else wp_X9_in (p3.toInt64) (0 : Int64) (1 : Int64) σ (fun r4 => (if r4 = (0) then Post (-2 : Int32) σ else wp_X9_layFleet p1 σ (fun σ8 => ∃ M43 : Nat, wp_X9_line_L31 p2 p3 (fun w4 σ => (if p2 = (-1 : Int32) then ∀ z20 : Int32, z20 = (if p2 = (-1 : Int32) then w4 else (-6 : Int32)) → Post z20 σ else wp_X9_in (p2.toInt64) (0 : Int64) ((w4 - (1 : Int32)).toInt64) σ (fun r23 => (if r23 = (0) then ∀ z40 : Int32, z40 = (if p2 = (-1 : Int32) then w4 else (-6 : Int32)) → Post z40 σ else ∃ M38 : Nat, wp_X9_line_L113 p2 p3 Post M38 (0 : Int32) σ)))) M43 (0 : Int32) (0 : Int32) σ8)))))
set_option maxRecDepth 100000 in
set_option maxHeartbeats 4000000 in
theorem g_X9_line {p : Program} {l : Launch} {e : Env} {R : Room} {s : State} {m : MethodId} {args : Array Value} {below : List Frame} {meth : Method} {c : Code} {Q : State → Prop} {g : zG} {n1 n2 : Nat} (C : zCX p R s m args meth c g n1 n2 cX9_line 7 RX9 5 111) {p1 : Int32} {p2 : Int32} {p3 : Int32} {σ : zST} {Post : Int32 → zST → Prop} (hret : ∀ (v : Int32) (σ : zST) (pc : Nat) (lv : List (Nat × Value)), Post v σ → decode cX9_line pc = .ok (.ireturn, 1) → zGG p l e R s m args below meth c Q g n1 n2 7 pc lv [.int v] σ) (h : wp_X9_line p1 p2 p3 σ Post) : zGG p l e R s m args below meth c Q g n1 n2 7 0 [(0, .ref (g.2.1 69)), (1, .int p1), (2, .int p2), (3, .int p3)] [] σ := by
  unfold wp_X9_line at h
  refine zr_iload_n C (zo_27 (p := 0) (zby_w zwX9_line_0 0 rfl)) rfl ?_
  refine zr_cip (zr_runS (As := [.int p1]) (rest := []) C sw_X9_219 (c_X9_isHour l g p1 σ _ h) (by decide) (by decide) rfl rfl (Nat.le_of_ble_eq_true rfl) (zo_184 (p := 1) (k := 219) (a := 0) (b := 219) (zby_w zwX9_line_0 1 rfl) (zby_w zwX9_line_0 2 rfl) (zby_w zwX9_line_0 3 rfl) (by decide))) (fun r1 h => ?_)
  refine zr_if_eq C 17 (zo_153 (p := 4) (k := 13) (a := 0) (b := 13) (zby_w zwX9_line_0 4 rfl) (zby_w zwX9_line_0 5 rfl) (zby_w zwX9_line_0 6 rfl) (by decide)) (by decide) (fun hc3 => ?_) (fun hc3 => ?_)
  · rw [if_pos hc3] at h
    refine zr_bipush C (-2 : Int32) d_X9_line_17 (by decide) ?_
    exact hret _ _ _ _ h d_X9_line_19
  · rw [if_neg hc3] at h
    refine zr_iload_n C (zo_29 (p := 7) (zby_w zwX9_line_0 7 rfl)) rfl ?_
    refine zr_i2l C (zo_133 (p := 8) (zby_w zwX9_line_0 8 rfl)) ?_
    refine zr_lconst C (0 : Int64) (zo_9 (p := 9) (zby_w zwX9_line_0 9 rfl)) (by decide) ?_
    refine zr_lconst C (1 : Int64) (zo_10 (p := 10) (zby_w zwX9_line_0 10 rfl)) (by decide) ?_
    refine zr_cip (zr_runS (As := [.long (p3.toInt64), .long (0 : Int64), .long (1 : Int64)]) (rest := []) C sw_X9_89 (c_X9_in l g (p3.toInt64) (0 : Int64) (1 : Int64) σ _ h) (by decide) (by decide) rfl rfl (Nat.le_of_ble_eq_true rfl) (zo_184 (p := 11) (k := 89) (a := 0) (b := 89) (zby_w zwX9_line_0 11 rfl) (zby_w zwX9_line_0 12 rfl) (zby_w zwX9_line_0 13 rfl) (by decide))) (fun r4 h => ?_)
    refine zr_if_ne C 20 (zo_154 (p := 14) (k := 6) (a := 0) (b := 6) (zby_w zwX9_line_0 14 rfl) (zby_w zwX9_line_0 15 rfl) (zby_w zwX9_line_0 16 rfl) (by decide)) (by decide) (fun hc6 => ?_) (fun hc6 => ?_)
    · rw [if_neg hc6] at h
      refine zr_aload_n C (zo_42 (p := 20) (zby_w zwX9_line_0 20 rfl)) rfl ?_
      refine zr_iload_n C (zo_27 (p := 21) (zby_w zwX9_line_0 21 rfl)) rfl ?_
      refine zr_cv (zr_runV (As := [.int p1]) (rest := []) C vw_X9_239 (c_X9_layFleet l g p1 σ _ h) (sh_69) rfl (by decide) (by decide) rfl rfl (Nat.le_of_ble_eq_true rfl) (zo_182 (p := 22) (k := 239) (a := 0) (b := 239) (zby_w zwX9_line_0 22 rfl) (zby_w zwX9_line_0 23 rfl) (zby_w zwX9_line_0 24 rfl) (by decide))) (fun σ8 h => ?_)
      refine zr_iconst C (0 : Int32) (zo_3 (p := 25) (zby_w zwX9_line_0 25 rfl)) (by decide) ?_
      refine zr_istore C [(4, .int (0 : Int32)), (0, .ref (g.2.1 69)), (1, .int p1), (2, .int p2), (3, .int p3)] (zo_54 (p := 26) (k := 4) (a := 4) (zby_w zwX9_line_0 26 rfl) (zby_w zwX9_line_0 27 rfl) (by decide)) (by decide) rfl ?_
      refine zr_iconst C (0 : Int32) (zo_3 (p := 28) (zby_w zwX9_line_0 28 rfl)) (by decide) ?_
      refine zr_istore C [(5, .int (0 : Int32)), (4, .int (0 : Int32)), (0, .ref (g.2.1 69)), (1, .int p1), (2, .int p2), (3, .int p3)] (zo_54 (p := 29) (k := 5) (a := 5) (zby_w zwX9_line_0 29 rfl) (zby_w zwX9_line_0 30 rfl) (by decide)) (by decide) rfl ?_
      obtain ⟨M43, h⟩ := h
      exact zr_pick [2, 4, 5, 1, 0] rfl (g_X9_line_L31 C (fun w4 σ h => by
          refine zr_iload_n C (zo_28 (p := 78) (zby_w zwX9_line_2 14 rfl)) rfl ?_
          refine zr_iconst C (-1 : Int32) (zo_2 (p := 79) (zby_w zwX9_line_2 15 rfl)) (by decide) ?_
          refine zr_icmp_eq C 97 (zo_159 (p := 80) (k := 17) (a := 0) (b := 17) (zby_w zwX9_line_2 16 rfl) (zby_w zwX9_line_2 17 rfl) (zby_w zwX9_line_2 18 rfl) (by decide)) (by decide) (fun hc18 => ?_) (fun hc18 => ?_)
          · rw [if_pos hc18] at h
            refine zr_iload_n C d_X9_line_97 rfl ?_
            refine zr_iconst C (-1 : Int32) d_X9_line_98 (by decide) ?_
            have hJ21 : ∀ z20 : Int32, z20 = (if p2 = (-1 : Int32) then w4 else (-6 : Int32)) → zGG p l e R s m args below meth c Q g n1 n2 7 109 [(0, .ref (g.2.1 69)), (2, .int p2), (3, .int p3), (4, .int w4)] [.int z20] σ := by
              intro z20 hz20
              replace h := h z20 hz20
              exact hret _ _ _ _ h d_X9_line_109
            refine zr_icmp_ne C 107 d_X9_line_99 (by decide) (fun hc19 => ?_) (fun hc19 => ?_)
            · skip
              refine zr_bipush C (-6 : Int32) d_X9_line_107 (by decide) ?_
              exact hJ21 _ (by rw [if_neg hc19])
            · skip
              refine zr_iload C d_X9_line_102 rfl ?_
              refine zr_goto C 109 d_X9_line_104 (by decide) ?_
              exact hJ21 _ (by rw [if_pos hc19])
          · rw [if_neg hc18] at h
            refine zr_iload_n C (zo_28 (p := 83) (zby_w zwX9_line_2 19 rfl)) rfl ?_
            refine zr_i2l C (zo_133 (p := 84) (zby_w zwX9_line_2 20 rfl)) ?_
            refine zr_lconst C (0 : Int64) (zo_9 (p := 85) (zby_w zwX9_line_2 21 rfl)) (by decide) ?_
            refine zr_iload C (zo_21 (p := 86) (k := 4) (a := 4) (zby_w zwX9_line_2 22 rfl) (zby_w zwX9_line_2 23 rfl) (by decide)) rfl ?_
            refine zr_iconst C (1 : Int32) (zo_4 (p := 88) (zby_w zwX9_line_2 24 rfl)) (by decide) ?_
            refine zr_isub C (zo_100 (p := 89) (zby_w zwX9_line_2 25 rfl)) ?_
            refine zr_i2l C (zo_133 (p := 90) (zby_w zwX9_line_2 26 rfl)) ?_
            refine zr_cip (zr_runS (As := [.long (p2.toInt64), .long (0 : Int64), .long ((w4 - (1 : Int32)).toInt64)]) (rest := []) C sw_X9_89 (c_X9_in l g (p2.toInt64) (0 : Int64) ((w4 - (1 : Int32)).toInt64) σ _ h) (by decide) (by decide) rfl rfl (Nat.le_of_ble_eq_true rfl) (zo_184 (p := 91) (k := 89) (a := 0) (b := 89) (zby_w zwX9_line_2 27 rfl) (zby_w zwX9_line_2 28 rfl) (zby_w zwX9_line_2 29 rfl) (by decide))) (fun r23 h => ?_)
            refine zr_if_ne C 110 (zo_154 (p := 94) (k := 16) (a := 0) (b := 16) (zby_w zwX9_line_2 30 rfl) (zby_w zwX9_line_2 31 rfl) (zby_w zwX9_line_2 32 rfl) (by decide)) (by decide) (fun hc25 => ?_) (fun hc25 => ?_)
            · rw [if_neg hc25] at h
              refine zr_iconst C (0 : Int32) (zo_3 (p := 110) (zby_w zwX9_line_3 14 rfl)) (by decide) ?_
              refine zr_istore C [(5, .int (0 : Int32)), (0, .ref (g.2.1 69)), (2, .int p2), (3, .int p3), (4, .int w4)] (zo_54 (p := 111) (k := 5) (a := 5) (zby_w zwX9_line_3 15 rfl) (zby_w zwX9_line_3 16 rfl) (by decide)) (by decide) rfl ?_
              obtain ⟨M38, h⟩ := h
              exact zr_pick [1, 2, 3, 0] rfl (g_X9_line_L113 C hret M38 (0 : Int32) σ h)
            · rw [if_pos hc25] at h
              refine zr_iload_n C d_X9_line_97 rfl ?_
              refine zr_iconst C (-1 : Int32) d_X9_line_98 (by decide) ?_
              have hJ41 : ∀ z40 : Int32, z40 = (if p2 = (-1 : Int32) then w4 else (-6 : Int32)) → zGG p l e R s m args below meth c Q g n1 n2 7 109 [(0, .ref (g.2.1 69)), (2, .int p2), (3, .int p3), (4, .int w4)] [.int z40] σ := by
                intro z40 hz40
                replace h := h z40 hz40
                exact hret _ _ _ _ h d_X9_line_109
              refine zr_icmp_ne C 107 d_X9_line_99 (by decide) (fun hc39 => ?_) (fun hc39 => ?_)
              · skip
                refine zr_bipush C (-6 : Int32) d_X9_line_107 (by decide) ?_
                exact hJ41 _ (by rw [if_neg hc39])
              · skip
                refine zr_iload C d_X9_line_102 rfl ?_
                refine zr_goto C 109 d_X9_line_104 (by decide) ?_
                exact hJ41 _ (by rw [if_pos hc39])) M43 (0 : Int32) (0 : Int32) σ8 h)
    · rw [if_pos hc6] at h
      refine zr_bipush C (-2 : Int32) d_X9_line_17 (by decide) ?_
      exact hret _ _ _ _ h d_X9_line_19
set_option maxRecDepth 20000 in
theorem c_X9_line (l : Launch) (g : zG) (p1 : Int32) (p2 : Int32) (p3 : Int32) (σ : zST) (Post : Int32 → zST → Prop) (h : wp_X9_line p1 p2 p3 σ Post) : Met l yX9_line (Cond.code yX9_line cX9_line 7 (some .int) :: zGW) (zRm 5 111) (va_Pc [.ref (g.2.1 69), .int p1, .int p2, .int p3] (zPP g σ)) (va_Qi Post (zBB g) (zA g)) 0 0 (zA g) :=
  zMet (by decide) (Nat.le_of_ble_eq_true rfl) (fun p e s m below meth c hr C => g_X9_line C (fun v σ pc lv hp hd => zr_iret C hr hp hd) h)
