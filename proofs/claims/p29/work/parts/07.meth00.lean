def wp_J6_bitCount_0f7a4 (p0 : Int32) (σ : zST) (Post : Int32 → Prop) : Prop := ∀ x1 : Int32, x1 = (p0 - (((p0.toUInt32 >>> ((1 : Int32).toUInt32 &&& Int32.toUInt32 31)).toInt32) &&& (1431655765 : Int32))) → ∀ x2 : Int32, x2 = ((x1 &&& (858993459 : Int32)) + (((x1.toUInt32 >>> ((2 : Int32).toUInt32 &&& Int32.toUInt32 31)).toInt32) &&& (858993459 : Int32))) → ∀ x3 : Int32, x3 = ((x2 + ((x2.toUInt32 >>> ((4 : Int32).toUInt32 &&& Int32.toUInt32 31)).toInt32)) &&& (252645135 : Int32)) → ∀ x4 : Int32, x4 = (x3 + ((x3.toUInt32 >>> ((8 : Int32).toUInt32 &&& Int32.toUInt32 31)).toInt32)) → ∀ x5 : Int32, x5 = (x4 + ((x4.toUInt32 >>> ((16 : Int32).toUInt32 &&& Int32.toUInt32 31)).toInt32)) → Post (x5 &&& (63 : Int32))
set_option maxRecDepth 100000 in
set_option maxHeartbeats 4000000 in
theorem g_J6_bitCount_0f7a4 {p : Program} {l : Launch} {e : Env} {R : Room} {s : State} {m : MethodId} {args : Array Value} {below : List Frame} {meth : Method} {c : Code} {Q : State → Prop} {g : zG} {n1 n2 : Nat} (C : zCX p R s m args meth c g n1 n2 cJ6_bitCount_0f7a4 1 "java/lang/Integer" 0 0) {p0 : Int32} {σ : zST} {Post : Int32 → Prop} (hret : ∀ (v : Int32) (pc : Nat) (lv : List (Nat × Value)), Post v → decode cJ6_bitCount_0f7a4 pc = .ok (.ireturn, 1) → zGG p l e R s m args below meth c Q g n1 n2 1 pc lv [.int v] σ) (h : wp_J6_bitCount_0f7a4 p0 σ Post) : zGG p l e R s m args below meth c Q g n1 n2 1 0 [(0, .int p0)] [] σ := by
  unfold wp_J6_bitCount_0f7a4 at h
  refine zr_iload_n C (zo_26 (p := 0) (zby_w zwJ6_bitCount_0f7a4_0 0 rfl)) rfl ?_
  refine zr_iload_n C (zo_26 (p := 1) (zby_w zwJ6_bitCount_0f7a4_0 1 rfl)) rfl ?_
  refine zr_iconst C (1 : Int32) (zo_4 (p := 2) (zby_w zwJ6_bitCount_0f7a4_0 2 rfl)) (by decide) ?_
  refine zr_iushr C (zo_124 (p := 3) (zby_w zwJ6_bitCount_0f7a4_0 3 rfl)) ?_
  refine zr_ldcw C (v := (1431655765 : Int32)) cw_J6_265 (zo_19 (p := 4) (k := 265) (a := 1) (b := 9) (zby_w zwJ6_bitCount_0f7a4_0 4 rfl) (zby_w zwJ6_bitCount_0f7a4_0 5 rfl) (zby_w zwJ6_bitCount_0f7a4_0 6 rfl) (by decide)) ?_
  refine zr_iand C (zo_126 (p := 7) (zby_w zwJ6_bitCount_0f7a4_0 7 rfl)) ?_
  refine zr_isub C (zo_100 (p := 8) (zby_w zwJ6_bitCount_0f7a4_0 8 rfl)) ?_
  refine zr_topi (fun x1 hx1 => ?_)
  replace h := h x1 hx1
  refine zr_istore_n C [(0, .int x1)] (zo_59 (p := 9) (zby_w zwJ6_bitCount_0f7a4_0 9 rfl)) (by decide) rfl ?_
  refine zr_iload_n C (zo_26 (p := 10) (zby_w zwJ6_bitCount_0f7a4_0 10 rfl)) rfl ?_
  refine zr_ldcw C (v := (858993459 : Int32)) cw_J6_266 (zo_19 (p := 11) (k := 266) (a := 1) (b := 10) (zby_w zwJ6_bitCount_0f7a4_0 11 rfl) (zby_w zwJ6_bitCount_0f7a4_0 12 rfl) (zby_w zwJ6_bitCount_0f7a4_0 13 rfl) (by decide)) ?_
  refine zr_iand C (zo_126 (p := 14) (zby_w zwJ6_bitCount_0f7a4_0 14 rfl)) ?_
  refine zr_iload_n C (zo_26 (p := 15) (zby_w zwJ6_bitCount_0f7a4_0 15 rfl)) rfl ?_
  refine zr_iconst C (2 : Int32) (zo_5 (p := 16) (zby_w zwJ6_bitCount_0f7a4_0 16 rfl)) (by decide) ?_
  refine zr_iushr C (zo_124 (p := 17) (zby_w zwJ6_bitCount_0f7a4_0 17 rfl)) ?_
  refine zr_ldcw C (v := (858993459 : Int32)) cw_J6_266 (zo_19 (p := 18) (k := 266) (a := 1) (b := 10) (zby_w zwJ6_bitCount_0f7a4_0 18 rfl) (zby_w zwJ6_bitCount_0f7a4_0 19 rfl) (zby_w zwJ6_bitCount_0f7a4_0 20 rfl) (by decide)) ?_
  refine zr_iand C (zo_126 (p := 21) (zby_w zwJ6_bitCount_0f7a4_0 21 rfl)) ?_
  refine zr_iadd C (zo_96 (p := 22) (zby_w zwJ6_bitCount_0f7a4_0 22 rfl)) ?_
  refine zr_topi (fun x2 hx2 => ?_)
  replace h := h x2 hx2
  refine zr_istore_n C [(0, .int x2)] (zo_59 (p := 23) (zby_w zwJ6_bitCount_0f7a4_0 23 rfl)) (by decide) rfl ?_
  refine zr_iload_n C (zo_26 (p := 24) (zby_w zwJ6_bitCount_0f7a4_0 24 rfl)) rfl ?_
  refine zr_iload_n C (zo_26 (p := 25) (zby_w zwJ6_bitCount_0f7a4_0 25 rfl)) rfl ?_
  refine zr_iconst C (4 : Int32) (zo_7 (p := 26) (zby_w zwJ6_bitCount_0f7a4_0 26 rfl)) (by decide) ?_
  refine zr_iushr C (zo_124 (p := 27) (zby_w zwJ6_bitCount_0f7a4_0 27 rfl)) ?_
  refine zr_iadd C (zo_96 (p := 28) (zby_w zwJ6_bitCount_0f7a4_0 28 rfl)) ?_
  refine zr_ldcw C (v := (252645135 : Int32)) cw_J6_267 (zo_19 (p := 29) (k := 267) (a := 1) (b := 11) (zby_w zwJ6_bitCount_0f7a4_0 29 rfl) (zby_w zwJ6_bitCount_0f7a4_0 30 rfl) (zby_w zwJ6_bitCount_0f7a4_0 31 rfl) (by decide)) ?_
  refine zr_iand C (zo_126 (p := 32) (zby_w zwJ6_bitCount_0f7a4_1 0 rfl)) ?_
  refine zr_topi (fun x3 hx3 => ?_)
  replace h := h x3 hx3
  refine zr_istore_n C [(0, .int x3)] (zo_59 (p := 33) (zby_w zwJ6_bitCount_0f7a4_1 1 rfl)) (by decide) rfl ?_
  refine zr_iload_n C (zo_26 (p := 34) (zby_w zwJ6_bitCount_0f7a4_1 2 rfl)) rfl ?_
  refine zr_iload_n C (zo_26 (p := 35) (zby_w zwJ6_bitCount_0f7a4_1 3 rfl)) rfl ?_
  refine zr_bipush C (8 : Int32) (zo_16 (p := 36) (k := 8) (a := 8) (zby_w zwJ6_bitCount_0f7a4_1 4 rfl) (zby_w zwJ6_bitCount_0f7a4_1 5 rfl) (by decide)) (by decide) ?_
  refine zr_iushr C (zo_124 (p := 38) (zby_w zwJ6_bitCount_0f7a4_1 6 rfl)) ?_
  refine zr_iadd C (zo_96 (p := 39) (zby_w zwJ6_bitCount_0f7a4_1 7 rfl)) ?_
  refine zr_topi (fun x4 hx4 => ?_)
  replace h := h x4 hx4
  refine zr_istore_n C [(0, .int x4)] (zo_59 (p := 40) (zby_w zwJ6_bitCount_0f7a4_1 8 rfl)) (by decide) rfl ?_
  refine zr_iload_n C (zo_26 (p := 41) (zby_w zwJ6_bitCount_0f7a4_1 9 rfl)) rfl ?_
  refine zr_iload_n C (zo_26 (p := 42) (zby_w zwJ6_bitCount_0f7a4_1 10 rfl)) rfl ?_
  refine zr_bipush C (16 : Int32) (zo_16 (p := 43) (k := 16) (a := 16) (zby_w zwJ6_bitCount_0f7a4_1 11 rfl) (zby_w zwJ6_bitCount_0f7a4_1 12 rfl) (by decide)) (by decide) ?_
  refine zr_iushr C (zo_124 (p := 45) (zby_w zwJ6_bitCount_0f7a4_1 13 rfl)) ?_
  refine zr_iadd C (zo_96 (p := 46) (zby_w zwJ6_bitCount_0f7a4_1 14 rfl)) ?_
  refine zr_topi (fun x5 hx5 => ?_)
  replace h := h x5 hx5
  refine zr_istore_n C [(0, .int x5)] (zo_59 (p := 47) (zby_w zwJ6_bitCount_0f7a4_1 15 rfl)) (by decide) rfl ?_
  refine zr_iload_n C (zo_26 (p := 48) (zby_w zwJ6_bitCount_0f7a4_1 16 rfl)) rfl ?_
  refine zr_bipush C (63 : Int32) (zo_16 (p := 49) (k := 63) (a := 63) (zby_w zwJ6_bitCount_0f7a4_1 17 rfl) (zby_w zwJ6_bitCount_0f7a4_1 18 rfl) (by decide)) (by decide) ?_
  refine zr_iand C (zo_126 (p := 51) (zby_w zwJ6_bitCount_0f7a4_1 19 rfl)) ?_
  exact hret _ _ _ h (zo_172 (p := 52) (zby_w zwJ6_bitCount_0f7a4_1 20 rfl))
set_option maxRecDepth 20000 in
theorem c_J6_bitCount_0f7a4 (l : Launch) (g : zG) (p0 : Int32) (σ : zST) (Post : Int32 → Prop) (h : wp_J6_bitCount_0f7a4 p0 σ Post) : Met l yJ6_bitCount_0f7a4 (Cond.code yJ6_bitCount_0f7a4 cJ6_bitCount_0f7a4 1 (some .int) :: zGW) (zRm 0 0) (va_Pc [.int p0] (zPP g σ)) (va_Qi (fun r u => Post r ∧ u = σ) (zBB g) (zA g)) 0 0 (zA g) :=
  zMet (by decide) (Nat.le_of_ble_eq_true rfl) (fun p e s m below meth c hr C => g_J6_bitCount_0f7a4 C (fun v pc lv hp hd => zr_iret C hr ⟨hp, rfl⟩ hd) h)
def wp_X3_become (a : Nat) (b : Nat) (σ : zST) (Post : zST → Prop) : Prop := ∀ σ1 : zST, σ1 = (wI σ a 0 (σ.1 b 0)) → ∀ σ2 : zST, σ2 = (wRI σ1 (a + 1) (va_cpy (σ1.1 (b + 1)) (σ1.1 (a + 1)) (0 : Int32).toNatClampNeg (0 : Int32).toNatClampNeg (4 : Int32).toNatClampNeg)) → Post (wRI σ2 (a + 2) (va_cpy (σ2.1 (b + 2)) (σ2.1 (a + 2)) (0 : Int32).toNatClampNeg (0 : Int32).toNatClampNeg (4 : Int32).toNatClampNeg))
set_option maxRecDepth 100000 in
set_option maxHeartbeats 4000000 in
theorem g_X3_become {p : Program} {l : Launch} {e : Env} {R : Room} {s : State} {m : MethodId} {args : Array Value} {below : List Frame} {meth : Method} {c : Code} {Q : State → Prop} {g : zG} {n1 n2 : Nat} (C : zCX p R s m args meth c g n1 n2 cX3_become 2 RX3 1 48) {a : Nat} (ha : isX3 a) {b : Nat} (hb : isX3 b) {σ : zST} {Post : zST → Prop} (hret : ∀ (σ : zST) (pc : Nat) (lv : List (Nat × Value)), Post σ → decode cX3_become pc = .ok (.return_, 1) → zGG p l e R s m args below meth c Q g n1 n2 2 pc lv [] σ) (h : wp_X3_become a b σ Post) : zGG p l e R s m args below meth c Q g n1 n2 2 0 [(0, .ref (g.2.1 a)), (1, .ref (g.2.1 b))] [] σ := by
  unfold wp_X3_become at h
  refine zr_aload_n C (zo_42 (p := 0) (zby_w zwX3_become_0 0 rfl)) rfl ?_
  refine zr_aload_n C (zo_43 (p := 1) (zby_w zwX3_become_0 1 rfl)) rfl ?_
  refine zr_geti C fw_X3_9 (shX3_0 hb) rfl (zo_180 (p := 2) (k := 9) (a := 0) (b := 9) (zby_w zwX3_become_0 2 rfl) (zby_w zwX3_become_0 3 rfl) (zby_w zwX3_become_0 4 rfl) (by decide)) ?_
  refine zr_puti C fw_X3_9 pw_X3_0 (shX3_0 ha) rfl rfl rfl (zo_181 (p := 5) (k := 9) (a := 0) (b := 9) (zby_w zwX3_become_0 5 rfl) (zby_w zwX3_become_0 6 rfl) (zby_w zwX3_become_0 7 rfl) (by decide)) ?_
  refine zr_aload_n C (zo_43 (p := 8) (zby_w zwX3_become_0 8 rfl)) rfl ?_
  refine zr_getr (u := (b + 1)) C fw_X3_15 (shX3_0 hb) rfl (zo_180 (p := 9) (k := 15) (a := 0) (b := 15) (zby_w zwX3_become_0 9 rfl) (zby_w zwX3_become_0 10 rfl) (zby_w zwX3_become_0 11 rfl) (by decide)) ?_
  refine zr_iconst C (0 : Int32) (zo_3 (p := 12) (zby_w zwX3_become_0 12 rfl)) (by decide) ?_
  refine zr_aload_n C (zo_42 (p := 13) (zby_w zwX3_become_0 13 rfl)) rfl ?_
  refine zr_getr (u := (a + 1)) C fw_X3_15 (shX3_0 ha) rfl (zo_180 (p := 14) (k := 15) (a := 0) (b := 15) (zby_w zwX3_become_0 14 rfl) (zby_w zwX3_become_0 15 rfl) (zby_w zwX3_become_0 16 rfl) (by decide)) ?_
  refine zr_iconst C (0 : Int32) (zo_3 (p := 17) (zby_w zwX3_become_0 17 rfl)) (by decide) ?_
  refine zr_iconst C (4 : Int32) (zo_7 (p := 18) (zby_w zwX3_become_0 18 rfl)) (by decide) ?_
  refine zr_tops (fun σ1 hσ1 => ?_)
  replace h := h σ1 hσ1
  refine zr_copyi C aw_X3_22 ((shX3_1 hb)) ((shX3_1 ha)) (by unfold zCp; decide) (by decide) (Nat.le_of_ble_eq_true rfl) (zo_184 (p := 19) (k := 22) (a := 0) (b := 22) (zby_w zwX3_become_0 19 rfl) (zby_w zwX3_become_0 20 rfl) (zby_w zwX3_become_0 21 rfl) (by decide)) ?_
  refine zr_aload_n C (zo_43 (p := 22) (zby_w zwX3_become_0 22 rfl)) rfl ?_
  refine zr_getr (u := (b + 2)) C fw_X3_19 (shX3_0 hb) rfl (zo_180 (p := 23) (k := 19) (a := 0) (b := 19) (zby_w zwX3_become_0 23 rfl) (zby_w zwX3_become_0 24 rfl) (zby_w zwX3_become_0 25 rfl) (by decide)) ?_
  refine zr_iconst C (0 : Int32) (zo_3 (p := 26) (zby_w zwX3_become_0 26 rfl)) (by decide) ?_
  refine zr_aload_n C (zo_42 (p := 27) (zby_w zwX3_become_0 27 rfl)) rfl ?_
  refine zr_getr (u := (a + 2)) C fw_X3_19 (shX3_0 ha) rfl (zo_180 (p := 28) (k := 19) (a := 0) (b := 19) (zby_w zwX3_become_0 28 rfl) (zby_w zwX3_become_0 29 rfl) (zby_w zwX3_become_0 30 rfl) (by decide)) ?_
  refine zr_iconst C (0 : Int32) (zo_3 (p := 31) (zby_w zwX3_become_0 31 rfl)) (by decide) ?_
  refine zr_iconst C (4 : Int32) (zo_7 (p := 32) (zby_w zwX3_become_1 0 rfl)) (by decide) ?_
  refine zr_tops (fun σ2 hσ2 => ?_)
  replace h := h σ2 hσ2
  refine zr_copyi C aw_X3_22 ((shX3_2 hb)) ((shX3_2 ha)) (by unfold zCp; decide) (by decide) (Nat.le_of_ble_eq_true rfl) (zo_184 (p := 33) (k := 22) (a := 0) (b := 22) (zby_w zwX3_become_1 1 rfl) (zby_w zwX3_become_1 2 rfl) (zby_w zwX3_become_1 3 rfl) (by decide)) ?_
  exact hret _ _ _ h (zo_177 (p := 36) (zby_w zwX3_become_1 4 rfl))
set_option maxRecDepth 20000 in
theorem c_X3_become (l : Launch) (g : zG) (a : Nat) (ha : isX3 a) (b : Nat) (hb : isX3 b) (σ : zST) (Post : zST → Prop) (h : wp_X3_become a b σ Post) : Met l yX3_become (Cond.code yX3_become cX3_become 2 none :: zGW) (zRm 1 48) (va_Pc [.ref (g.2.1 a), .ref (g.2.1 b)] (zPP g σ)) (va_Qv Post (zBB g) (zA g)) 0 0 (zA g) :=
  zMet (by decide) (Nat.le_of_ble_eq_true rfl) (fun p e s m below meth c hr C => g_X3_become C ha hb (fun σ pc lv hp hd => zr_vret C hr hp hd) h)
def wp_X3_worthTaking_L4 (a : Nat) (v1 : Int32) (σ : zST) (Post : Int32 → Prop) : Nat → Int32 → Int32 → Prop
  | 0, _, _ => False
  | N + 1, v2, v3 => (if (4 : Int32) ≤ v3 then Post v2 else (if (((σ.1 a 0) >>> (v3 &&& 31)) &&& (1 : Int32)) = (1 : Int32) then vp_in v3 4 ∧ vp_in v3 4 ∧ (if (v1 * (σ.1 (a + 2) v3.toNatClampNeg)) ≤ ((10 : Int32) * (σ.1 (a + 1) v3.toNatClampNeg)) then wp_X3_worthTaking_L4 a v1 σ Post N v2 (v3 + 1) else ∀ x6 : Int32, x6 = (v2 ||| ((1 : Int32) <<< (v3 &&& 31))) → wp_X3_worthTaking_L4 a v1 σ Post N x6 (v3 + 1)) else wp_X3_worthTaking_L4 a v1 σ Post N v2 (v3 + 1)))

set_option maxRecDepth 100000 in
set_option maxHeartbeats 4000000 in
theorem g_X3_worthTaking_L4 {p : Program} {l : Launch} {e : Env} {R : Room} {s : State} {m : MethodId} {args : Array Value} {below : List Frame} {meth : Method} {c : Code} {Q : State → Prop} {g : zG} {n1 n2 : Nat} (C : zCX p R s m args meth c g n1 n2 cX3_worthTaking 4 RX3 0 0) {a : Nat} (ha : isX3 a) {v1 : Int32} {σ : zST}  {Post : Int32 → Prop} (hret : ∀ (v : Int32) (pc : Nat) (lv : List (Nat × Value)), Post v → decode cX3_worthTaking pc = .ok (.ireturn, 1) → zGG p l e R s m args below meth c Q g n1 n2 4 pc lv [.int v] σ) : ∀ (N : Nat) (v2 : Int32) (v3 : Int32) , wp_X3_worthTaking_L4 a v1 σ Post N v2 v3 → zGG p l e R s m args below meth c Q g n1 n2 4 4 [(0, .ref (g.2.1 a)), (1, .int v1), (2, .int v2), (3, .int v3)] [] σ := by
  intro N
  induction N with
  | zero =>
    intro v2 v3 h
    exact h.elim
  | succ N ih =>
    intro v2 v3 h
    rw [wp_X3_worthTaking_L4] at h
    refine zr_iload_n C (zo_29 (p := 4) (zby_w zwX3_worthTaking_0 4 rfl)) rfl ?_
    refine zr_iconst C (4 : Int32) (zo_7 (p := 5) (zby_w zwX3_worthTaking_0 5 rfl)) (by decide) ?_
    refine zr_icmp_ge C 53 (zo_162 (p := 6) (k := 47) (a := 0) (b := 47) (zby_w zwX3_worthTaking_0 6 rfl) (zby_w zwX3_worthTaking_0 7 rfl) (zby_w zwX3_worthTaking_0 8 rfl) (by decide)) (by decide) (fun hc1 => ?_) (fun hc1 => ?_)
    · rw [if_pos hc1] at h
      refine zr_iload_n C (zo_28 (p := 53) (zby_w zwX3_worthTaking_1 21 rfl)) rfl ?_
      exact hret _ _ _ h (zo_172 (p := 54) (zby_w zwX3_worthTaking_1 22 rfl))
    · rw [if_neg hc1] at h
      refine zr_aload_n C (zo_42 (p := 9) (zby_w zwX3_worthTaking_0 9 rfl)) rfl ?_
      refine zr_geti C fw_X3_9 (shX3_0 ha) rfl (zo_180 (p := 10) (k := 9) (a := 0) (b := 9) (zby_w zwX3_worthTaking_0 10 rfl) (zby_w zwX3_worthTaking_0 11 rfl) (zby_w zwX3_worthTaking_0 12 rfl) (by decide)) ?_
      refine zr_iload_n C (zo_29 (p := 13) (zby_w zwX3_worthTaking_0 13 rfl)) rfl ?_
      refine zr_ishr C (zo_122 (p := 14) (zby_w zwX3_worthTaking_0 14 rfl)) ?_
      refine zr_iconst C (1 : Int32) (zo_4 (p := 15) (zby_w zwX3_worthTaking_0 15 rfl)) (by decide) ?_
      refine zr_iand C (zo_126 (p := 16) (zby_w zwX3_worthTaking_0 16 rfl)) ?_
      refine zr_iconst C (1 : Int32) (zo_4 (p := 17) (zby_w zwX3_worthTaking_0 17 rfl)) (by decide) ?_
      refine zr_icmp_ne C 47 (zo_160 (p := 18) (k := 29) (a := 0) (b := 29) (zby_w zwX3_worthTaking_0 18 rfl) (zby_w zwX3_worthTaking_0 19 rfl) (zby_w zwX3_worthTaking_0 20 rfl) (by decide)) (by decide) (fun hc2 => ?_) (fun hc2 => ?_)
      · rw [if_neg hc2] at h
        refine zr_iinc C (v3 + 1) [(3, .int (v3 + 1)), (0, .ref (g.2.1 a)), (1, .int v1), (2, .int v2)] d_X3_worthTaking_47 rfl rfl (by decide) rfl ?_
        refine zr_goto C 4 d_X3_worthTaking_50 (by decide) ?_
        exact zr_pick [1, 2, 3, 0] rfl (ih v2 (v3 + 1) h)
      · rw [if_pos hc2] at h
        refine zr_bipush C (10 : Int32) (zo_16 (p := 21) (k := 10) (a := 10) (zby_w zwX3_worthTaking_0 21 rfl) (zby_w zwX3_worthTaking_0 22 rfl) (by decide)) (by decide) ?_
        refine zr_aload_n C (zo_42 (p := 23) (zby_w zwX3_worthTaking_0 23 rfl)) rfl ?_
        refine zr_getr (u := (a + 1)) C fw_X3_15 (shX3_0 ha) rfl (zo_180 (p := 24) (k := 15) (a := 0) (b := 15) (zby_w zwX3_worthTaking_0 24 rfl) (zby_w zwX3_worthTaking_0 25 rfl) (zby_w zwX3_worthTaking_0 26 rfl) (by decide)) ?_
        refine zr_iload_n C (zo_29 (p := 27) (zby_w zwX3_worthTaking_0 27 rfl)) rfl ?_
        obtain ⟨ho3, h⟩ := h
        refine zr_iald C ((shX3_1 ha)) ho3 (zo_46 (p := 28) (zby_w zwX3_worthTaking_0 28 rfl)) ?_
        refine zr_imul C (zo_104 (p := 29) (zby_w zwX3_worthTaking_0 29 rfl)) ?_
        refine zr_iload_n C (zo_27 (p := 30) (zby_w zwX3_worthTaking_0 30 rfl)) rfl ?_
        refine zr_aload_n C (zo_42 (p := 31) (zby_w zwX3_worthTaking_0 31 rfl)) rfl ?_
        refine zr_getr (u := (a + 2)) C fw_X3_19 (shX3_0 ha) rfl (zo_180 (p := 32) (k := 19) (a := 0) (b := 19) (zby_w zwX3_worthTaking_1 0 rfl) (zby_w zwX3_worthTaking_1 1 rfl) (zby_w zwX3_worthTaking_1 2 rfl) (by decide)) ?_
        refine zr_iload_n C (zo_29 (p := 35) (zby_w zwX3_worthTaking_1 3 rfl)) rfl ?_
        obtain ⟨ho4, h⟩ := h
        refine zr_iald C ((shX3_2 ha)) ho4 (zo_46 (p := 36) (zby_w zwX3_worthTaking_1 4 rfl)) ?_
        refine zr_imul C (zo_104 (p := 37) (zby_w zwX3_worthTaking_1 5 rfl)) ?_
        refine zr_icmp_ge C 47 (zo_162 (p := 38) (k := 9) (a := 0) (b := 9) (zby_w zwX3_worthTaking_1 6 rfl) (zby_w zwX3_worthTaking_1 7 rfl) (zby_w zwX3_worthTaking_1 8 rfl) (by decide)) (by decide) (fun hc5 => ?_) (fun hc5 => ?_)
        · rw [if_pos hc5] at h
          refine zr_iinc C (v3 + 1) [(3, .int (v3 + 1)), (0, .ref (g.2.1 a)), (1, .int v1), (2, .int v2)] d_X3_worthTaking_47 rfl rfl (by decide) rfl ?_
          refine zr_goto C 4 d_X3_worthTaking_50 (by decide) ?_
          exact zr_pick [1, 2, 3, 0] rfl (ih v2 (v3 + 1) h)
        · rw [if_neg hc5] at h
          refine zr_iload_n C (zo_28 (p := 41) (zby_w zwX3_worthTaking_1 9 rfl)) rfl ?_
          refine zr_iconst C (1 : Int32) (zo_4 (p := 42) (zby_w zwX3_worthTaking_1 10 rfl)) (by decide) ?_
          refine zr_iload_n C (zo_29 (p := 43) (zby_w zwX3_worthTaking_1 11 rfl)) rfl ?_
          refine zr_ishl C (zo_120 (p := 44) (zby_w zwX3_worthTaking_1 12 rfl)) ?_
          refine zr_ior C (zo_128 (p := 45) (zby_w zwX3_worthTaking_1 13 rfl)) ?_
          refine zr_topi (fun x6 hx6 => ?_)
          replace h := h x6 hx6
          refine zr_istore_n C [(2, .int x6), (0, .ref (g.2.1 a)), (1, .int v1), (3, .int v3)] (zo_61 (p := 46) (zby_w zwX3_worthTaking_1 14 rfl)) (by decide) rfl ?_
          refine zr_iinc C (v3 + 1) [(3, .int (v3 + 1)), (2, .int x6), (0, .ref (g.2.1 a)), (1, .int v1)] d_X3_worthTaking_47 rfl rfl (by decide) rfl ?_
          refine zr_goto C 4 d_X3_worthTaking_50 (by decide) ?_
          exact zr_pick [2, 3, 1, 0] rfl (ih x6 (v3 + 1) h)

def wp_X3_worthTaking (a : Nat) (p1 : Int32) (σ : zST) (Post : Int32 → Prop) : Prop := ∃ M7 : Nat, wp_X3_worthTaking_L4 a p1 σ Post M7 (0 : Int32) (0 : Int32)
set_option maxRecDepth 100000 in
set_option maxHeartbeats 4000000 in
theorem g_X3_worthTaking {p : Program} {l : Launch} {e : Env} {R : Room} {s : State} {m : MethodId} {args : Array Value} {below : List Frame} {meth : Method} {c : Code} {Q : State → Prop} {g : zG} {n1 n2 : Nat} (C : zCX p R s m args meth c g n1 n2 cX3_worthTaking 4 RX3 0 0) {a : Nat} (ha : isX3 a) {p1 : Int32} {σ : zST} {Post : Int32 → Prop} (hret : ∀ (v : Int32) (pc : Nat) (lv : List (Nat × Value)), Post v → decode cX3_worthTaking pc = .ok (.ireturn, 1) → zGG p l e R s m args below meth c Q g n1 n2 4 pc lv [.int v] σ) (h : wp_X3_worthTaking a p1 σ Post) : zGG p l e R s m args below meth c Q g n1 n2 4 0 [(0, .ref (g.2.1 a)), (1, .int p1)] [] σ := by
  unfold wp_X3_worthTaking at h
  refine zr_iconst C (0 : Int32) (zo_3 (p := 0) (zby_w zwX3_worthTaking_0 0 rfl)) (by decide) ?_
  refine zr_istore_n C [(2, .int (0 : Int32)), (0, .ref (g.2.1 a)), (1, .int p1)] (zo_61 (p := 1) (zby_w zwX3_worthTaking_0 1 rfl)) (by decide) rfl ?_
  refine zr_iconst C (0 : Int32) (zo_3 (p := 2) (zby_w zwX3_worthTaking_0 2 rfl)) (by decide) ?_
  refine zr_istore_n C [(3, .int (0 : Int32)), (2, .int (0 : Int32)), (0, .ref (g.2.1 a)), (1, .int p1)] (zo_62 (p := 3) (zby_w zwX3_worthTaking_0 3 rfl)) (by decide) rfl ?_
  obtain ⟨M7, h⟩ := h
  exact zr_pick [2, 3, 1, 0] rfl (g_X3_worthTaking_L4 C ha hret M7 (0 : Int32) (0 : Int32) h)
set_option maxRecDepth 20000 in
theorem c_X3_worthTaking (l : Launch) (g : zG) (a : Nat) (ha : isX3 a) (p1 : Int32) (σ : zST) (Post : Int32 → Prop) (h : wp_X3_worthTaking a p1 σ Post) : Met l yX3_worthTaking (Cond.code yX3_worthTaking cX3_worthTaking 4 (some .int) :: zGW) (zRm 0 0) (va_Pc [.ref (g.2.1 a), .int p1] (zPP g σ)) (va_Qi (fun r u => Post r ∧ u = σ) (zBB g) (zA g)) 0 0 (zA g) :=
  zMet (by decide) (Nat.le_of_ble_eq_true rfl) (fun p e s m below meth c hr C => g_X3_worthTaking C ha (fun v pc lv hp hd => zr_iret C hr ⟨hp, rfl⟩ hd) h)
def wp_X3_sumOver_L4 (b : Nat) (v0 : Int32) (σ : zST) (Post : Int32 → Prop) : Nat → Int32 → Int32 → Prop
  | 0, _, _ => False
  | N + 1, v2, v3 => (if (4 : Int32) ≤ v3 then Post v2 else (if (Int32.ofNat 4) ≤ v3 then Post v2 else (if ((v0 >>> (v3 &&& 31)) &&& (1 : Int32)) = (1 : Int32) then vp_in v3 4 ∧ ∀ x5 : Int32, x5 = (v2 + (σ.1 b v3.toNatClampNeg)) → wp_X3_sumOver_L4 b v0 σ Post N x5 (v3 + 1) else wp_X3_sumOver_L4 b v0 σ Post N v2 (v3 + 1))))

set_option maxRecDepth 100000 in
set_option maxHeartbeats 4000000 in
theorem g_X3_sumOver_L4 {p : Program} {l : Launch} {e : Env} {R : Room} {s : State} {m : MethodId} {args : Array Value} {below : List Frame} {meth : Method} {c : Code} {Q : State → Prop} {g : zG} {n1 n2 : Nat} (C : zCX p R s m args meth c g n1 n2 cX3_sumOver 4 RX3 0 0) {b : Nat} (hb : zT[b]? = some (0, 4, [])) {v0 : Int32} {σ : zST}  {Post : Int32 → Prop} (hret : ∀ (v : Int32) (pc : Nat) (lv : List (Nat × Value)), Post v → decode cX3_sumOver pc = .ok (.ireturn, 1) → zGG p l e R s m args below meth c Q g n1 n2 4 pc lv [.int v] σ) : ∀ (N : Nat) (v2 : Int32) (v3 : Int32) , wp_X3_sumOver_L4 b v0 σ Post N v2 v3 → zGG p l e R s m args below meth c Q g n1 n2 4 4 [(0, .int v0), (1, .ref (g.2.1 b)), (2, .int v2), (3, .int v3)] [] σ := by
  intro N
  induction N with
  | zero =>
    intro v2 v3 h
    exact h.elim
  | succ N ih =>
    intro v2 v3 h
    rw [wp_X3_sumOver_L4] at h
    refine zr_iload_n C (zo_29 (p := 4) (zby_w zwX3_sumOver_0 4 rfl)) rfl ?_
    refine zr_iconst C (4 : Int32) (zo_7 (p := 5) (zby_w zwX3_sumOver_0 5 rfl)) (by decide) ?_
    refine zr_icmp_ge C 36 (zo_162 (p := 6) (k := 30) (a := 0) (b := 30) (zby_w zwX3_sumOver_0 6 rfl) (zby_w zwX3_sumOver_0 7 rfl) (zby_w zwX3_sumOver_0 8 rfl) (by decide)) (by decide) (fun hc1 => ?_) (fun hc1 => ?_)
    · rw [if_pos hc1] at h
      refine zr_iload_n C d_X3_sumOver_36 rfl ?_
      exact hret _ _ _ h d_X3_sumOver_37
    · rw [if_neg hc1] at h
      refine zr_iload_n C (zo_29 (p := 9) (zby_w zwX3_sumOver_0 9 rfl)) rfl ?_
      refine zr_aload_n C (zo_43 (p := 10) (zby_w zwX3_sumOver_0 10 rfl)) rfl ?_
      refine zr_alen C (hb) (zo_190 (p := 11) (zby_w zwX3_sumOver_0 11 rfl)) ?_
      refine zr_icmp_ge C 36 (zo_162 (p := 12) (k := 24) (a := 0) (b := 24) (zby_w zwX3_sumOver_0 12 rfl) (zby_w zwX3_sumOver_0 13 rfl) (zby_w zwX3_sumOver_0 14 rfl) (by decide)) (by decide) (fun hc2 => ?_) (fun hc2 => ?_)
      · rw [if_pos hc2] at h
        refine zr_iload_n C d_X3_sumOver_36 rfl ?_
        exact hret _ _ _ h d_X3_sumOver_37
      · rw [if_neg hc2] at h
        refine zr_iload_n C (zo_26 (p := 15) (zby_w zwX3_sumOver_0 15 rfl)) rfl ?_
        refine zr_iload_n C (zo_29 (p := 16) (zby_w zwX3_sumOver_0 16 rfl)) rfl ?_
        refine zr_ishr C (zo_122 (p := 17) (zby_w zwX3_sumOver_0 17 rfl)) ?_
        refine zr_iconst C (1 : Int32) (zo_4 (p := 18) (zby_w zwX3_sumOver_0 18 rfl)) (by decide) ?_
        refine zr_iand C (zo_126 (p := 19) (zby_w zwX3_sumOver_0 19 rfl)) ?_
        refine zr_iconst C (1 : Int32) (zo_4 (p := 20) (zby_w zwX3_sumOver_0 20 rfl)) (by decide) ?_
        refine zr_icmp_ne C 30 (zo_160 (p := 21) (k := 9) (a := 0) (b := 9) (zby_w zwX3_sumOver_0 21 rfl) (zby_w zwX3_sumOver_0 22 rfl) (zby_w zwX3_sumOver_0 23 rfl) (by decide)) (by decide) (fun hc3 => ?_) (fun hc3 => ?_)
        · rw [if_neg hc3] at h
          refine zr_iinc C (v3 + 1) [(3, .int (v3 + 1)), (0, .int v0), (1, .ref (g.2.1 b)), (2, .int v2)] d_X3_sumOver_30 rfl rfl (by decide) rfl ?_
          refine zr_goto C 4 d_X3_sumOver_33 (by decide) ?_
          exact zr_pick [1, 2, 3, 0] rfl (ih v2 (v3 + 1) h)
        · rw [if_pos hc3] at h
          refine zr_iload_n C (zo_28 (p := 24) (zby_w zwX3_sumOver_0 24 rfl)) rfl ?_
          refine zr_aload_n C (zo_43 (p := 25) (zby_w zwX3_sumOver_0 25 rfl)) rfl ?_
          refine zr_iload_n C (zo_29 (p := 26) (zby_w zwX3_sumOver_0 26 rfl)) rfl ?_
          obtain ⟨ho4, h⟩ := h
          refine zr_iald C (hb) ho4 (zo_46 (p := 27) (zby_w zwX3_sumOver_0 27 rfl)) ?_
          refine zr_iadd C (zo_96 (p := 28) (zby_w zwX3_sumOver_0 28 rfl)) ?_
          refine zr_topi (fun x5 hx5 => ?_)
          replace h := h x5 hx5
          refine zr_istore_n C [(2, .int x5), (0, .int v0), (1, .ref (g.2.1 b)), (3, .int v3)] (zo_61 (p := 29) (zby_w zwX3_sumOver_0 29 rfl)) (by decide) rfl ?_
          refine zr_iinc C (v3 + 1) [(3, .int (v3 + 1)), (2, .int x5), (0, .int v0), (1, .ref (g.2.1 b))] d_X3_sumOver_30 rfl rfl (by decide) rfl ?_
          refine zr_goto C 4 d_X3_sumOver_33 (by decide) ?_
          exact zr_pick [2, 3, 1, 0] rfl (ih x5 (v3 + 1) h)

def wp_X3_sumOver (b : Nat) (p0 : Int32) (σ : zST) (Post : Int32 → Prop) : Prop := ∃ M6 : Nat, wp_X3_sumOver_L4 b p0 σ Post M6 (0 : Int32) (0 : Int32)
set_option maxRecDepth 100000 in
set_option maxHeartbeats 4000000 in
theorem g_X3_sumOver {p : Program} {l : Launch} {e : Env} {R : Room} {s : State} {m : MethodId} {args : Array Value} {below : List Frame} {meth : Method} {c : Code} {Q : State → Prop} {g : zG} {n1 n2 : Nat} (C : zCX p R s m args meth c g n1 n2 cX3_sumOver 4 RX3 0 0) {b : Nat} (hb : zT[b]? = some (0, 4, [])) {p0 : Int32} {σ : zST} {Post : Int32 → Prop} (hret : ∀ (v : Int32) (pc : Nat) (lv : List (Nat × Value)), Post v → decode cX3_sumOver pc = .ok (.ireturn, 1) → zGG p l e R s m args below meth c Q g n1 n2 4 pc lv [.int v] σ) (h : wp_X3_sumOver b p0 σ Post) : zGG p l e R s m args below meth c Q g n1 n2 4 0 [(0, .int p0), (1, .ref (g.2.1 b))] [] σ := by
  unfold wp_X3_sumOver at h
  refine zr_iconst C (0 : Int32) (zo_3 (p := 0) (zby_w zwX3_sumOver_0 0 rfl)) (by decide) ?_
  refine zr_istore_n C [(2, .int (0 : Int32)), (0, .int p0), (1, .ref (g.2.1 b))] (zo_61 (p := 1) (zby_w zwX3_sumOver_0 1 rfl)) (by decide) rfl ?_
  refine zr_iconst C (0 : Int32) (zo_3 (p := 2) (zby_w zwX3_sumOver_0 2 rfl)) (by decide) ?_
  refine zr_istore_n C [(3, .int (0 : Int32)), (2, .int (0 : Int32)), (0, .int p0), (1, .ref (g.2.1 b))] (zo_62 (p := 3) (zby_w zwX3_sumOver_0 3 rfl)) (by decide) rfl ?_
  obtain ⟨M6, h⟩ := h
  exact zr_pick [2, 3, 1, 0] rfl (g_X3_sumOver_L4 C hb hret M6 (0 : Int32) (0 : Int32) h)
set_option maxRecDepth 20000 in
theorem c_X3_sumOver (l : Launch) (g : zG) (b : Nat) (hb : zT[b]? = some (0, 4, [])) (p0 : Int32) (σ : zST) (Post : Int32 → Prop) (h : wp_X3_sumOver b p0 σ Post) : Met l yX3_sumOver (Cond.code yX3_sumOver cX3_sumOver 4 (some .int) :: zGW) (zRm 0 0) (va_Pc [.int p0, .ref (g.2.1 b)] (zPP g σ)) (va_Qi (fun r u => Post r ∧ u = σ) (zBB g) (zA g)) 0 0 (zA g) :=
  zMet (by decide) (Nat.le_of_ble_eq_true rfl) (fun p e s m below meth c hr C => g_X3_sumOver C hb (fun v pc lv hp hd => zr_iret C hr ⟨hp, rfl⟩ hd) h)
def wp_X3_premiumsOf (a : Nat) (p1 : Int32) (σ : zST) (Post : Int32 → Prop) : Prop := wp_X3_sumOver (a + 1) p1 σ (fun r1 => Post r1)
set_option maxRecDepth 100000 in
set_option maxHeartbeats 4000000 in
theorem g_X3_premiumsOf {p : Program} {l : Launch} {e : Env} {R : Room} {s : State} {m : MethodId} {args : Array Value} {below : List Frame} {meth : Method} {c : Code} {Q : State → Prop} {g : zG} {n1 n2 : Nat} (C : zCX p R s m args meth c g n1 n2 cX3_premiumsOf 2 RX3 1 23) {a : Nat} (ha : isX3 a) {p1 : Int32} {σ : zST} {Post : Int32 → Prop} (hret : ∀ (v : Int32) (pc : Nat) (lv : List (Nat × Value)), Post v → decode cX3_premiumsOf pc = .ok (.ireturn, 1) → zGG p l e R s m args below meth c Q g n1 n2 2 pc lv [.int v] σ) (h : wp_X3_premiumsOf a p1 σ Post) : zGG p l e R s m args below meth c Q g n1 n2 2 0 [(0, .ref (g.2.1 a)), (1, .int p1)] [] σ := by
  unfold wp_X3_premiumsOf at h
  refine zr_iload_n C (zo_27 (p := 0) (zby_w zwX3_premiumsOf_0 0 rfl)) rfl ?_
  refine zr_aload_n C (zo_42 (p := 1) (zby_w zwX3_premiumsOf_0 1 rfl)) rfl ?_
  refine zr_getr (u := (a + 1)) C fw_X3_15 (shX3_0 ha) rfl (zo_180 (p := 2) (k := 15) (a := 0) (b := 15) (zby_w zwX3_premiumsOf_0 2 rfl) (zby_w zwX3_premiumsOf_0 3 rfl) (zby_w zwX3_premiumsOf_0 4 rfl) (by decide)) ?_
  refine zr_cip (zr_runS (As := [.int p1, .ref (g.2.1 (a + 1))]) (rest := []) C sw_X3_28 (c_X3_sumOver l g (a + 1) (shX3_1 ha) p1 σ _ h) (by decide) (by decide) rfl rfl (Nat.le_of_ble_eq_true rfl) (zo_184 (p := 5) (k := 28) (a := 0) (b := 28) (zby_w zwX3_premiumsOf_0 5 rfl) (zby_w zwX3_premiumsOf_0 6 rfl) (zby_w zwX3_premiumsOf_0 7 rfl) (by decide))) (fun r1 h => ?_)
  exact hret _ _ _ h (zo_172 (p := 8) (zby_w zwX3_premiumsOf_0 8 rfl))
set_option maxRecDepth 20000 in
theorem c_X3_premiumsOf (l : Launch) (g : zG) (a : Nat) (ha : isX3 a) (p1 : Int32) (σ : zST) (Post : Int32 → Prop) (h : wp_X3_premiumsOf a p1 σ Post) : Met l yX3_premiumsOf (Cond.code yX3_premiumsOf cX3_premiumsOf 2 (some .int) :: zGW) (zRm 1 23) (va_Pc [.ref (g.2.1 a), .int p1] (zPP g σ)) (va_Qi (fun r u => Post r ∧ u = σ) (zBB g) (zA g)) 0 0 (zA g) :=
  zMet (by decide) (Nat.le_of_ble_eq_true rfl) (fun p e s m below meth c hr C => g_X3_premiumsOf C ha (fun v pc lv hp hd => zr_iret C hr ⟨hp, rfl⟩ hd) h)
def wp_X3_paysOf (a : Nat) (p1 : Int32) (σ : zST) (Post : Int32 → Prop) : Prop := wp_X3_sumOver (a + 2) p1 σ (fun r1 => Post r1)
set_option maxRecDepth 100000 in
set_option maxHeartbeats 4000000 in
theorem g_X3_paysOf {p : Program} {l : Launch} {e : Env} {R : Room} {s : State} {m : MethodId} {args : Array Value} {below : List Frame} {meth : Method} {c : Code} {Q : State → Prop} {g : zG} {n1 n2 : Nat} (C : zCX p R s m args meth c g n1 n2 cX3_paysOf 2 RX3 1 23) {a : Nat} (ha : isX3 a) {p1 : Int32} {σ : zST} {Post : Int32 → Prop} (hret : ∀ (v : Int32) (pc : Nat) (lv : List (Nat × Value)), Post v → decode cX3_paysOf pc = .ok (.ireturn, 1) → zGG p l e R s m args below meth c Q g n1 n2 2 pc lv [.int v] σ) (h : wp_X3_paysOf a p1 σ Post) : zGG p l e R s m args below meth c Q g n1 n2 2 0 [(0, .ref (g.2.1 a)), (1, .int p1)] [] σ := by
  unfold wp_X3_paysOf at h
  refine zr_iload_n C (zo_27 (p := 0) (zby_w zwX3_paysOf_0 0 rfl)) rfl ?_
  refine zr_aload_n C (zo_42 (p := 1) (zby_w zwX3_paysOf_0 1 rfl)) rfl ?_
  refine zr_getr (u := (a + 2)) C fw_X3_19 (shX3_0 ha) rfl (zo_180 (p := 2) (k := 19) (a := 0) (b := 19) (zby_w zwX3_paysOf_0 2 rfl) (zby_w zwX3_paysOf_0 3 rfl) (zby_w zwX3_paysOf_0 4 rfl) (by decide)) ?_
  refine zr_cip (zr_runS (As := [.int p1, .ref (g.2.1 (a + 2))]) (rest := []) C sw_X3_28 (c_X3_sumOver l g (a + 2) (shX3_2 ha) p1 σ _ h) (by decide) (by decide) rfl rfl (Nat.le_of_ble_eq_true rfl) (zo_184 (p := 5) (k := 28) (a := 0) (b := 28) (zby_w zwX3_paysOf_0 5 rfl) (zby_w zwX3_paysOf_0 6 rfl) (zby_w zwX3_paysOf_0 7 rfl) (by decide))) (fun r1 h => ?_)
  exact hret _ _ _ h (zo_172 (p := 8) (zby_w zwX3_paysOf_0 8 rfl))
set_option maxRecDepth 20000 in
theorem c_X3_paysOf (l : Launch) (g : zG) (a : Nat) (ha : isX3 a) (p1 : Int32) (σ : zST) (Post : Int32 → Prop) (h : wp_X3_paysOf a p1 σ Post) : Met l yX3_paysOf (Cond.code yX3_paysOf cX3_paysOf 2 (some .int) :: zGW) (zRm 1 23) (va_Pc [.ref (g.2.1 a), .int p1] (zPP g σ)) (va_Qi (fun r u => Post r ∧ u = σ) (zBB g) (zA g)) 0 0 (zA g) :=
  zMet (by decide) (Nat.le_of_ble_eq_true rfl) (fun p e s m below meth c hr C => g_X3_paysOf C ha (fun v pc lv hp hd => zr_iret C hr ⟨hp, rfl⟩ hd) h)
def wp_X5_become (a : Nat) (b : Nat) (σ : zST) (Post : zST → Prop) : Prop := ∀ σ1 : zST, σ1 = (wI σ a 0 (σ.1 b 0)) → ∀ σ2 : zST, σ2 = (wRI σ1 (a + 1) (va_cpy (σ1.1 (b + 1)) (σ1.1 (a + 1)) (0 : Int32).toNatClampNeg (0 : Int32).toNatClampNeg (6 : Int32).toNatClampNeg)) → Post (wRI σ2 (a + 2) (va_cpy (σ2.1 (b + 2)) (σ2.1 (a + 2)) (0 : Int32).toNatClampNeg (0 : Int32).toNatClampNeg (6 : Int32).toNatClampNeg))
set_option maxRecDepth 100000 in
set_option maxHeartbeats 4000000 in
theorem g_X5_become {p : Program} {l : Launch} {e : Env} {R : Room} {s : State} {m : MethodId} {args : Array Value} {below : List Frame} {meth : Method} {c : Code} {Q : State → Prop} {g : zG} {n1 n2 : Nat} (C : zCX p R s m args meth c g n1 n2 cX5_become 2 RX5 1 48) {a : Nat} (ha : isX5 a) {b : Nat} (hb : isX5 b) {σ : zST} {Post : zST → Prop} (hret : ∀ (σ : zST) (pc : Nat) (lv : List (Nat × Value)), Post σ → decode cX5_become pc = .ok (.return_, 1) → zGG p l e R s m args below meth c Q g n1 n2 2 pc lv [] σ) (h : wp_X5_become a b σ Post) : zGG p l e R s m args below meth c Q g n1 n2 2 0 [(0, .ref (g.2.1 a)), (1, .ref (g.2.1 b))] [] σ := by
  unfold wp_X5_become at h
  refine zr_aload_n C (zo_42 (p := 0) (zby_w zwX5_become_0 0 rfl)) rfl ?_
  refine zr_aload_n C (zo_43 (p := 1) (zby_w zwX5_become_0 1 rfl)) rfl ?_
  refine zr_geti C fw_X5_9 (shX5_0 hb) rfl (zo_180 (p := 2) (k := 9) (a := 0) (b := 9) (zby_w zwX5_become_0 2 rfl) (zby_w zwX5_become_0 3 rfl) (zby_w zwX5_become_0 4 rfl) (by decide)) ?_
  refine zr_puti C fw_X5_9 pw_X5_0 (shX5_0 ha) rfl rfl rfl (zo_181 (p := 5) (k := 9) (a := 0) (b := 9) (zby_w zwX5_become_0 5 rfl) (zby_w zwX5_become_0 6 rfl) (zby_w zwX5_become_0 7 rfl) (by decide)) ?_
  refine zr_aload_n C (zo_43 (p := 8) (zby_w zwX5_become_0 8 rfl)) rfl ?_
  refine zr_getr (u := (b + 1)) C fw_X5_15 (shX5_0 hb) rfl (zo_180 (p := 9) (k := 15) (a := 0) (b := 15) (zby_w zwX5_become_0 9 rfl) (zby_w zwX5_become_0 10 rfl) (zby_w zwX5_become_0 11 rfl) (by decide)) ?_
  refine zr_iconst C (0 : Int32) (zo_3 (p := 12) (zby_w zwX5_become_0 12 rfl)) (by decide) ?_
  refine zr_aload_n C (zo_42 (p := 13) (zby_w zwX5_become_0 13 rfl)) rfl ?_
  refine zr_getr (u := (a + 1)) C fw_X5_15 (shX5_0 ha) rfl (zo_180 (p := 14) (k := 15) (a := 0) (b := 15) (zby_w zwX5_become_0 14 rfl) (zby_w zwX5_become_0 15 rfl) (zby_w zwX5_become_0 16 rfl) (by decide)) ?_
  refine zr_iconst C (0 : Int32) (zo_3 (p := 17) (zby_w zwX5_become_0 17 rfl)) (by decide) ?_
  refine zr_bipush C (6 : Int32) (zo_16 (p := 18) (k := 6) (a := 6) (zby_w zwX5_become_0 18 rfl) (zby_w zwX5_become_0 19 rfl) (by decide)) (by decide) ?_
  refine zr_tops (fun σ1 hσ1 => ?_)
  replace h := h σ1 hσ1
  refine zr_copyi C aw_X5_22 ((shX5_1 hb)) ((shX5_1 ha)) (by unfold zCp; decide) (by decide) (Nat.le_of_ble_eq_true rfl) (zo_184 (p := 20) (k := 22) (a := 0) (b := 22) (zby_w zwX5_become_0 20 rfl) (zby_w zwX5_become_0 21 rfl) (zby_w zwX5_become_0 22 rfl) (by decide)) ?_
  refine zr_aload_n C (zo_43 (p := 23) (zby_w zwX5_become_0 23 rfl)) rfl ?_
  refine zr_getr (u := (b + 2)) C fw_X5_19 (shX5_0 hb) rfl (zo_180 (p := 24) (k := 19) (a := 0) (b := 19) (zby_w zwX5_become_0 24 rfl) (zby_w zwX5_become_0 25 rfl) (zby_w zwX5_become_0 26 rfl) (by decide)) ?_
  refine zr_iconst C (0 : Int32) (zo_3 (p := 27) (zby_w zwX5_become_0 27 rfl)) (by decide) ?_
  refine zr_aload_n C (zo_42 (p := 28) (zby_w zwX5_become_0 28 rfl)) rfl ?_
  refine zr_getr (u := (a + 2)) C fw_X5_19 (shX5_0 ha) rfl (zo_180 (p := 29) (k := 19) (a := 0) (b := 19) (zby_w zwX5_become_0 29 rfl) (zby_w zwX5_become_0 30 rfl) (zby_w zwX5_become_0 31 rfl) (by decide)) ?_
  refine zr_iconst C (0 : Int32) (zo_3 (p := 32) (zby_w zwX5_become_1 0 rfl)) (by decide) ?_
  refine zr_bipush C (6 : Int32) (zo_16 (p := 33) (k := 6) (a := 6) (zby_w zwX5_become_1 1 rfl) (zby_w zwX5_become_1 2 rfl) (by decide)) (by decide) ?_
  refine zr_tops (fun σ2 hσ2 => ?_)
  replace h := h σ2 hσ2
  refine zr_copyi C aw_X5_22 ((shX5_2 hb)) ((shX5_2 ha)) (by unfold zCp; decide) (by decide) (Nat.le_of_ble_eq_true rfl) (zo_184 (p := 35) (k := 22) (a := 0) (b := 22) (zby_w zwX5_become_1 3 rfl) (zby_w zwX5_become_1 4 rfl) (zby_w zwX5_become_1 5 rfl) (by decide)) ?_
  exact hret _ _ _ h (zo_177 (p := 38) (zby_w zwX5_become_1 6 rfl))
set_option maxRecDepth 20000 in
theorem c_X5_become (l : Launch) (g : zG) (a : Nat) (ha : isX5 a) (b : Nat) (hb : isX5 b) (σ : zST) (Post : zST → Prop) (h : wp_X5_become a b σ Post) : Met l yX5_become (Cond.code yX5_become cX5_become 2 none :: zGW) (zRm 1 48) (va_Pc [.ref (g.2.1 a), .ref (g.2.1 b)] (zPP g σ)) (va_Qv Post (zBB g) (zA g)) 0 0 (zA g) :=
  zMet (by decide) (Nat.le_of_ble_eq_true rfl) (fun p e s m below meth c hr C => g_X5_become C ha hb (fun σ pc lv hp hd => zr_vret C hr hp hd) h)
def wp_X5_rollsWith_L5 (a : Nat) (v1 : Int32) (v2 : Int32) (σ : zST) (Post : Int32 → Prop) : Nat → Int32 → Int32 → Prop
  | 0, _, _ => False
  | N + 1, v3, v4 => (if (σ.1 a 0) ≤ v4 then Post v3 else (if (6 : Int32) ≤ v4 then Post v3 else vp_in v4 6 ∧ (if (((σ.1 (a + 1) v4.toNatClampNeg) >>> (v1 &&& 31)) &&& (1 : Int32)) = (1 : Int32) then wp_X5_rollsWith_L5 a v1 v2 σ Post N (v3 + 1) (v4 + 1) else (if v2 = (0) then wp_X5_rollsWith_L5 a v1 v2 σ Post N v3 (v4 + 1) else vp_in v4 6 ∧ (if (σ.1 (a + 2) v4.toNatClampNeg) ≤ (0) then wp_X5_rollsWith_L5 a v1 v2 σ Post N v3 (v4 + 1) else wp_X5_rollsWith_L5 a v1 v2 σ Post N (v3 + 1) (v4 + 1))))))

set_option maxRecDepth 100000 in
set_option maxHeartbeats 4000000 in
theorem g_X5_rollsWith_L5 {p : Program} {l : Launch} {e : Env} {R : Room} {s : State} {m : MethodId} {args : Array Value} {below : List Frame} {meth : Method} {c : Code} {Q : State → Prop} {g : zG} {n1 n2 : Nat} (C : zCX p R s m args meth c g n1 n2 cX5_rollsWith 5 RX5 0 0) {a : Nat} (ha : isX5 a) {v1 : Int32} {v2 : Int32} {σ : zST}  {Post : Int32 → Prop} (hret : ∀ (v : Int32) (pc : Nat) (lv : List (Nat × Value)), Post v → decode cX5_rollsWith pc = .ok (.ireturn, 1) → zGG p l e R s m args below meth c Q g n1 n2 5 pc lv [.int v] σ) : ∀ (N : Nat) (v3 : Int32) (v4 : Int32) , wp_X5_rollsWith_L5 a v1 v2 σ Post N v3 v4 → zGG p l e R s m args below meth c Q g n1 n2 5 5 [(0, .ref (g.2.1 a)), (1, .int v1), (2, .int v2), (3, .int v3), (4, .int v4)] [] σ := by
  intro N
  induction N with
  | zero =>
    intro v3 v4 h
    exact h.elim
  | succ N ih =>
    intro v3 v4 h
    rw [wp_X5_rollsWith_L5] at h
    refine zr_iload C (zo_21 (p := 5) (k := 4) (a := 4) (zby_w zwX5_rollsWith_0 5 rfl) (zby_w zwX5_rollsWith_0 6 rfl) (by decide)) rfl ?_
    refine zr_aload_n C (zo_42 (p := 7) (zby_w zwX5_rollsWith_0 7 rfl)) rfl ?_
    refine zr_geti C fw_X5_9 (shX5_0 ha) rfl (zo_180 (p := 8) (k := 9) (a := 0) (b := 9) (zby_w zwX5_rollsWith_0 8 rfl) (zby_w zwX5_rollsWith_0 9 rfl) (zby_w zwX5_rollsWith_0 10 rfl) (by decide)) ?_
    refine zr_icmp_ge C 59 (zo_162 (p := 11) (k := 48) (a := 0) (b := 48) (zby_w zwX5_rollsWith_0 11 rfl) (zby_w zwX5_rollsWith_0 12 rfl) (zby_w zwX5_rollsWith_0 13 rfl) (by decide)) (by decide) (fun hc1 => ?_) (fun hc1 => ?_)
    · rw [if_pos hc1] at h
      refine zr_iload_n C d_X5_rollsWith_59 rfl ?_
      exact hret _ _ _ h d_X5_rollsWith_60
    · rw [if_neg hc1] at h
      refine zr_iload C (zo_21 (p := 14) (k := 4) (a := 4) (zby_w zwX5_rollsWith_0 14 rfl) (zby_w zwX5_rollsWith_0 15 rfl) (by decide)) rfl ?_
      refine zr_bipush C (6 : Int32) (zo_16 (p := 16) (k := 6) (a := 6) (zby_w zwX5_rollsWith_0 16 rfl) (zby_w zwX5_rollsWith_0 17 rfl) (by decide)) (by decide) ?_
      refine zr_icmp_ge C 59 (zo_162 (p := 18) (k := 41) (a := 0) (b := 41) (zby_w zwX5_rollsWith_0 18 rfl) (zby_w zwX5_rollsWith_0 19 rfl) (zby_w zwX5_rollsWith_0 20 rfl) (by decide)) (by decide) (fun hc2 => ?_) (fun hc2 => ?_)
      · rw [if_pos hc2] at h
        refine zr_iload_n C d_X5_rollsWith_59 rfl ?_
        exact hret _ _ _ h d_X5_rollsWith_60
      · rw [if_neg hc2] at h
        refine zr_aload_n C (zo_42 (p := 21) (zby_w zwX5_rollsWith_0 21 rfl)) rfl ?_
        refine zr_getr (u := (a + 1)) C fw_X5_15 (shX5_0 ha) rfl (zo_180 (p := 22) (k := 15) (a := 0) (b := 15) (zby_w zwX5_rollsWith_0 22 rfl) (zby_w zwX5_rollsWith_0 23 rfl) (zby_w zwX5_rollsWith_0 24 rfl) (by decide)) ?_
        refine zr_iload C (zo_21 (p := 25) (k := 4) (a := 4) (zby_w zwX5_rollsWith_0 25 rfl) (zby_w zwX5_rollsWith_0 26 rfl) (by decide)) rfl ?_
        obtain ⟨ho3, h⟩ := h
        refine zr_iald C ((shX5_1 ha)) ho3 (zo_46 (p := 27) (zby_w zwX5_rollsWith_0 27 rfl)) ?_
        refine zr_iload_n C (zo_27 (p := 28) (zby_w zwX5_rollsWith_0 28 rfl)) rfl ?_
        refine zr_ishr C (zo_122 (p := 29) (zby_w zwX5_rollsWith_0 29 rfl)) ?_
        refine zr_iconst C (1 : Int32) (zo_4 (p := 30) (zby_w zwX5_rollsWith_0 30 rfl)) (by decide) ?_
        refine zr_iand C (zo_126 (p := 31) (zby_w zwX5_rollsWith_0 31 rfl)) ?_
        refine zr_iconst C (1 : Int32) (zo_4 (p := 32) (zby_w zwX5_rollsWith_1 0 rfl)) (by decide) ?_
        refine zr_icmp_eq C 50 (zo_159 (p := 33) (k := 17) (a := 0) (b := 17) (zby_w zwX5_rollsWith_1 1 rfl) (zby_w zwX5_rollsWith_1 2 rfl) (zby_w zwX5_rollsWith_1 3 rfl) (by decide)) (by decide) (fun hc4 => ?_) (fun hc4 => ?_)
        · rw [if_pos hc4] at h
          refine zr_iinc C (v3 + 1) [(3, .int (v3 + 1)), (0, .ref (g.2.1 a)), (1, .int v1), (2, .int v2), (4, .int v4)] d_X5_rollsWith_50 rfl rfl (by decide) rfl ?_
          refine zr_iinc C (v4 + 1) [(4, .int (v4 + 1)), (3, .int (v3 + 1)), (0, .ref (g.2.1 a)), (1, .int v1), (2, .int v2)] d_X5_rollsWith_53 rfl rfl (by decide) rfl ?_
          refine zr_goto C 5 d_X5_rollsWith_56 (by decide) ?_
          exact zr_pick [2, 3, 4, 1, 0] rfl (ih (v3 + 1) (v4 + 1) h)
        · rw [if_neg hc4] at h
          refine zr_iload_n C (zo_28 (p := 36) (zby_w zwX5_rollsWith_1 4 rfl)) rfl ?_
          refine zr_if_eq C 53 (zo_153 (p := 37) (k := 16) (a := 0) (b := 16) (zby_w zwX5_rollsWith_1 5 rfl) (zby_w zwX5_rollsWith_1 6 rfl) (zby_w zwX5_rollsWith_1 7 rfl) (by decide)) (by decide) (fun hc5 => ?_) (fun hc5 => ?_)
          · rw [if_pos hc5] at h
            refine zr_iinc C (v4 + 1) [(4, .int (v4 + 1)), (0, .ref (g.2.1 a)), (1, .int v1), (2, .int v2), (3, .int v3)] d_X5_rollsWith_53 rfl rfl (by decide) rfl ?_
            refine zr_goto C 5 d_X5_rollsWith_56 (by decide) ?_
            exact zr_pick [1, 2, 3, 4, 0] rfl (ih v3 (v4 + 1) h)
          · rw [if_neg hc5] at h
            refine zr_aload_n C (zo_42 (p := 40) (zby_w zwX5_rollsWith_1 8 rfl)) rfl ?_
            refine zr_getr (u := (a + 2)) C fw_X5_19 (shX5_0 ha) rfl (zo_180 (p := 41) (k := 19) (a := 0) (b := 19) (zby_w zwX5_rollsWith_1 9 rfl) (zby_w zwX5_rollsWith_1 10 rfl) (zby_w zwX5_rollsWith_1 11 rfl) (by decide)) ?_
            refine zr_iload C (zo_21 (p := 44) (k := 4) (a := 4) (zby_w zwX5_rollsWith_1 12 rfl) (zby_w zwX5_rollsWith_1 13 rfl) (by decide)) rfl ?_
            obtain ⟨ho6, h⟩ := h
            refine zr_iald C ((shX5_2 ha)) ho6 (zo_46 (p := 46) (zby_w zwX5_rollsWith_1 14 rfl)) ?_
            refine zr_if_le C 53 (zo_158 (p := 47) (k := 6) (a := 0) (b := 6) (zby_w zwX5_rollsWith_1 15 rfl) (zby_w zwX5_rollsWith_1 16 rfl) (zby_w zwX5_rollsWith_1 17 rfl) (by decide)) (by decide) (fun hc7 => ?_) (fun hc7 => ?_)
            · rw [if_pos hc7] at h
              refine zr_iinc C (v4 + 1) [(4, .int (v4 + 1)), (0, .ref (g.2.1 a)), (1, .int v1), (2, .int v2), (3, .int v3)] d_X5_rollsWith_53 rfl rfl (by decide) rfl ?_
              refine zr_goto C 5 d_X5_rollsWith_56 (by decide) ?_
              exact zr_pick [1, 2, 3, 4, 0] rfl (ih v3 (v4 + 1) h)
            · rw [if_neg hc7] at h
              refine zr_iinc C (v3 + 1) [(3, .int (v3 + 1)), (0, .ref (g.2.1 a)), (1, .int v1), (2, .int v2), (4, .int v4)] d_X5_rollsWith_50 rfl rfl (by decide) rfl ?_
              refine zr_iinc C (v4 + 1) [(4, .int (v4 + 1)), (3, .int (v3 + 1)), (0, .ref (g.2.1 a)), (1, .int v1), (2, .int v2)] d_X5_rollsWith_53 rfl rfl (by decide) rfl ?_
              refine zr_goto C 5 d_X5_rollsWith_56 (by decide) ?_
              exact zr_pick [2, 3, 4, 1, 0] rfl (ih (v3 + 1) (v4 + 1) h)

def wp_X5_rollsWith (a : Nat) (p1 : Int32) (p2 : Int32) (σ : zST) (Post : Int32 → Prop) : Prop := ∃ M8 : Nat, wp_X5_rollsWith_L5 a p1 p2 σ Post M8 (0 : Int32) (0 : Int32)
set_option maxRecDepth 100000 in
set_option maxHeartbeats 4000000 in
theorem g_X5_rollsWith {p : Program} {l : Launch} {e : Env} {R : Room} {s : State} {m : MethodId} {args : Array Value} {below : List Frame} {meth : Method} {c : Code} {Q : State → Prop} {g : zG} {n1 n2 : Nat} (C : zCX p R s m args meth c g n1 n2 cX5_rollsWith 5 RX5 0 0) {a : Nat} (ha : isX5 a) {p1 : Int32} {p2 : Int32} {σ : zST} {Post : Int32 → Prop} (hret : ∀ (v : Int32) (pc : Nat) (lv : List (Nat × Value)), Post v → decode cX5_rollsWith pc = .ok (.ireturn, 1) → zGG p l e R s m args below meth c Q g n1 n2 5 pc lv [.int v] σ) (h : wp_X5_rollsWith a p1 p2 σ Post) : zGG p l e R s m args below meth c Q g n1 n2 5 0 [(0, .ref (g.2.1 a)), (1, .int p1), (2, .int p2)] [] σ := by
  unfold wp_X5_rollsWith at h
  refine zr_iconst C (0 : Int32) (zo_3 (p := 0) (zby_w zwX5_rollsWith_0 0 rfl)) (by decide) ?_
  refine zr_istore_n C [(3, .int (0 : Int32)), (0, .ref (g.2.1 a)), (1, .int p1), (2, .int p2)] (zo_62 (p := 1) (zby_w zwX5_rollsWith_0 1 rfl)) (by decide) rfl ?_
  refine zr_iconst C (0 : Int32) (zo_3 (p := 2) (zby_w zwX5_rollsWith_0 2 rfl)) (by decide) ?_
  refine zr_istore C [(4, .int (0 : Int32)), (3, .int (0 : Int32)), (0, .ref (g.2.1 a)), (1, .int p1), (2, .int p2)] (zo_54 (p := 3) (k := 4) (a := 4) (zby_w zwX5_rollsWith_0 3 rfl) (zby_w zwX5_rollsWith_0 4 rfl) (by decide)) (by decide) rfl ?_
  obtain ⟨M8, h⟩ := h
  exact zr_pick [2, 3, 4, 1, 0] rfl (g_X5_rollsWith_L5 C ha hret M8 (0 : Int32) (0 : Int32) h)
set_option maxRecDepth 20000 in
theorem c_X5_rollsWith (l : Launch) (g : zG) (a : Nat) (ha : isX5 a) (p1 : Int32) (p2 : Int32) (σ : zST) (Post : Int32 → Prop) (h : wp_X5_rollsWith a p1 p2 σ Post) : Met l yX5_rollsWith (Cond.code yX5_rollsWith cX5_rollsWith 5 (some .int) :: zGW) (zRm 0 0) (va_Pc [.ref (g.2.1 a), .int p1, .int p2] (zPP g σ)) (va_Qi (fun r u => Post r ∧ u = σ) (zBB g) (zA g)) 0 0 (zA g) :=
  zMet (by decide) (Nat.le_of_ble_eq_true rfl) (fun p e s m below meth c hr C => g_X5_rollsWith C ha (fun v pc lv hp hd => zr_iret C hr ⟨hp, rfl⟩ hd) h)
def wp_X5_namesOnTwo_L4 (a : Nat) (v1 : Int32) (σ : zST) (Post : Int32 → Prop) : Nat → Int32 → Int32 → Prop
  | 0, _, _ => False
  | N + 1, v2, v3 => (if (8 : Int32) ≤ v3 then Post v2 else wp_X5_rollsWith a v3 v1 σ (fun r2 => (if r2 < (2 : Int32) then wp_X5_namesOnTwo_L4 a v1 σ Post N v2 (v3 + 1) else ∀ x5 : Int32, x5 = (v2 ||| ((1 : Int32) <<< (v3 &&& 31))) → wp_X5_namesOnTwo_L4 a v1 σ Post N x5 (v3 + 1))))

set_option maxRecDepth 100000 in
set_option maxHeartbeats 4000000 in
theorem g_X5_namesOnTwo_L4 {p : Program} {l : Launch} {e : Env} {R : Room} {s : State} {m : MethodId} {args : Array Value} {below : List Frame} {meth : Method} {c : Code} {Q : State → Prop} {g : zG} {n1 n2 : Nat} (C : zCX p R s m args meth c g n1 n2 cX5_namesOnTwo 4 RX5 1 24) {a : Nat} (ha : isX5 a) {v1 : Int32} {σ : zST}  {Post : Int32 → Prop} (hret : ∀ (v : Int32) (pc : Nat) (lv : List (Nat × Value)), Post v → decode cX5_namesOnTwo pc = .ok (.ireturn, 1) → zGG p l e R s m args below meth c Q g n1 n2 4 pc lv [.int v] σ) : ∀ (N : Nat) (v2 : Int32) (v3 : Int32) , wp_X5_namesOnTwo_L4 a v1 σ Post N v2 v3 → zGG p l e R s m args below meth c Q g n1 n2 4 4 [(0, .ref (g.2.1 a)), (1, .int v1), (2, .int v2), (3, .int v3)] [] σ := by
  intro N
  induction N with
  | zero =>
    intro v2 v3 h
    exact h.elim
  | succ N ih =>
    intro v2 v3 h
    rw [wp_X5_namesOnTwo_L4] at h
    refine zr_iload_n C (zo_29 (p := 4) (zby_w zwX5_namesOnTwo_0 4 rfl)) rfl ?_
    refine zr_bipush C (8 : Int32) (zo_16 (p := 5) (k := 8) (a := 8) (zby_w zwX5_namesOnTwo_0 5 rfl) (zby_w zwX5_namesOnTwo_0 6 rfl) (by decide)) (by decide) ?_
    refine zr_icmp_ge C 32 (zo_162 (p := 7) (k := 25) (a := 0) (b := 25) (zby_w zwX5_namesOnTwo_0 7 rfl) (zby_w zwX5_namesOnTwo_0 8 rfl) (zby_w zwX5_namesOnTwo_0 9 rfl) (by decide)) (by decide) (fun hc1 => ?_) (fun hc1 => ?_)
    · rw [if_pos hc1] at h
      refine zr_iload_n C (zo_28 (p := 32) (zby_w zwX5_namesOnTwo_1 0 rfl)) rfl ?_
      exact hret _ _ _ h (zo_172 (p := 33) (zby_w zwX5_namesOnTwo_1 1 rfl))
    · rw [if_neg hc1] at h
      refine zr_aload_n C (zo_42 (p := 10) (zby_w zwX5_namesOnTwo_0 10 rfl)) rfl ?_
      refine zr_iload_n C (zo_29 (p := 11) (zby_w zwX5_namesOnTwo_0 11 rfl)) rfl ?_
      refine zr_iload_n C (zo_27 (p := 12) (zby_w zwX5_namesOnTwo_0 12 rfl)) rfl ?_
      refine zr_cip (zr_runV (As := [.int v3, .int v1]) (rest := []) C vw_X5_28 (c_X5_rollsWith l g a ha v3 v1 σ _ h) (shX5_0 ha) rfl (by decide) (by decide) rfl rfl (Nat.le_of_ble_eq_true rfl) (zo_182 (p := 13) (k := 28) (a := 0) (b := 28) (zby_w zwX5_namesOnTwo_0 13 rfl) (zby_w zwX5_namesOnTwo_0 14 rfl) (zby_w zwX5_namesOnTwo_0 15 rfl) (by decide))) (fun r2 h => ?_)
      refine zr_iconst C (2 : Int32) (zo_5 (p := 16) (zby_w zwX5_namesOnTwo_0 16 rfl)) (by decide) ?_
      refine zr_icmp_lt C 26 (zo_161 (p := 17) (k := 9) (a := 0) (b := 9) (zby_w zwX5_namesOnTwo_0 17 rfl) (zby_w zwX5_namesOnTwo_0 18 rfl) (zby_w zwX5_namesOnTwo_0 19 rfl) (by decide)) (by decide) (fun hc4 => ?_) (fun hc4 => ?_)
      · rw [if_pos hc4] at h
        refine zr_iinc C (v3 + 1) [(3, .int (v3 + 1)), (0, .ref (g.2.1 a)), (1, .int v1), (2, .int v2)] d_X5_namesOnTwo_26 rfl rfl (by decide) rfl ?_
        refine zr_goto C 4 d_X5_namesOnTwo_29 (by decide) ?_
        exact zr_pick [1, 2, 3, 0] rfl (ih v2 (v3 + 1) h)
      · rw [if_neg hc4] at h
        refine zr_iload_n C (zo_28 (p := 20) (zby_w zwX5_namesOnTwo_0 20 rfl)) rfl ?_
        refine zr_iconst C (1 : Int32) (zo_4 (p := 21) (zby_w zwX5_namesOnTwo_0 21 rfl)) (by decide) ?_
        refine zr_iload_n C (zo_29 (p := 22) (zby_w zwX5_namesOnTwo_0 22 rfl)) rfl ?_
        refine zr_ishl C (zo_120 (p := 23) (zby_w zwX5_namesOnTwo_0 23 rfl)) ?_
        refine zr_ior C (zo_128 (p := 24) (zby_w zwX5_namesOnTwo_0 24 rfl)) ?_
        refine zr_topi (fun x5 hx5 => ?_)
        replace h := h x5 hx5
        refine zr_istore_n C [(2, .int x5), (0, .ref (g.2.1 a)), (1, .int v1), (3, .int v3)] (zo_61 (p := 25) (zby_w zwX5_namesOnTwo_0 25 rfl)) (by decide) rfl ?_
        refine zr_iinc C (v3 + 1) [(3, .int (v3 + 1)), (2, .int x5), (0, .ref (g.2.1 a)), (1, .int v1)] d_X5_namesOnTwo_26 rfl rfl (by decide) rfl ?_
        refine zr_goto C 4 d_X5_namesOnTwo_29 (by decide) ?_
        exact zr_pick [2, 3, 1, 0] rfl (ih x5 (v3 + 1) h)

def wp_X5_namesOnTwo (a : Nat) (p1 : Int32) (σ : zST) (Post : Int32 → Prop) : Prop := ∃ M6 : Nat, wp_X5_namesOnTwo_L4 a p1 σ Post M6 (0 : Int32) (0 : Int32)
set_option maxRecDepth 100000 in
set_option maxHeartbeats 4000000 in
theorem g_X5_namesOnTwo {p : Program} {l : Launch} {e : Env} {R : Room} {s : State} {m : MethodId} {args : Array Value} {below : List Frame} {meth : Method} {c : Code} {Q : State → Prop} {g : zG} {n1 n2 : Nat} (C : zCX p R s m args meth c g n1 n2 cX5_namesOnTwo 4 RX5 1 24) {a : Nat} (ha : isX5 a) {p1 : Int32} {σ : zST} {Post : Int32 → Prop} (hret : ∀ (v : Int32) (pc : Nat) (lv : List (Nat × Value)), Post v → decode cX5_namesOnTwo pc = .ok (.ireturn, 1) → zGG p l e R s m args below meth c Q g n1 n2 4 pc lv [.int v] σ) (h : wp_X5_namesOnTwo a p1 σ Post) : zGG p l e R s m args below meth c Q g n1 n2 4 0 [(0, .ref (g.2.1 a)), (1, .int p1)] [] σ := by
  unfold wp_X5_namesOnTwo at h
  refine zr_iconst C (0 : Int32) (zo_3 (p := 0) (zby_w zwX5_namesOnTwo_0 0 rfl)) (by decide) ?_
  refine zr_istore_n C [(2, .int (0 : Int32)), (0, .ref (g.2.1 a)), (1, .int p1)] (zo_61 (p := 1) (zby_w zwX5_namesOnTwo_0 1 rfl)) (by decide) rfl ?_
  refine zr_iconst C (0 : Int32) (zo_3 (p := 2) (zby_w zwX5_namesOnTwo_0 2 rfl)) (by decide) ?_
  refine zr_istore_n C [(3, .int (0 : Int32)), (2, .int (0 : Int32)), (0, .ref (g.2.1 a)), (1, .int p1)] (zo_62 (p := 3) (zby_w zwX5_namesOnTwo_0 3 rfl)) (by decide) rfl ?_
  obtain ⟨M6, h⟩ := h
  exact zr_pick [2, 3, 1, 0] rfl (g_X5_namesOnTwo_L4 C ha hret M6 (0 : Int32) (0 : Int32) h)
set_option maxRecDepth 20000 in
theorem c_X5_namesOnTwo (l : Launch) (g : zG) (a : Nat) (ha : isX5 a) (p1 : Int32) (σ : zST) (Post : Int32 → Prop) (h : wp_X5_namesOnTwo a p1 σ Post) : Met l yX5_namesOnTwo (Cond.code yX5_namesOnTwo cX5_namesOnTwo 4 (some .int) :: zGW) (zRm 1 24) (va_Pc [.ref (g.2.1 a), .int p1] (zPP g σ)) (va_Qi (fun r u => Post r ∧ u = σ) (zBB g) (zA g)) 0 0 (zA g) :=
  zMet (by decide) (Nat.le_of_ble_eq_true rfl) (fun p e s m below meth c hr C => g_X5_namesOnTwo C ha (fun v pc lv hp hd => zr_iret C hr ⟨hp, rfl⟩ hd) h)
def wp_X1_become (a : Nat) (b : Nat) (σ : zST) (Post : zST → Prop) : Prop := ∀ σ1 : zST, σ1 = (wI σ a 0 (σ.1 b 0)) → Post (wRI σ1 (a + 1) (va_cpy (σ1.1 (b + 1)) (σ1.1 (a + 1)) (0 : Int32).toNatClampNeg (0 : Int32).toNatClampNeg (8 : Int32).toNatClampNeg))
set_option maxRecDepth 100000 in
set_option maxHeartbeats 4000000 in
theorem g_X1_become {p : Program} {l : Launch} {e : Env} {R : Room} {s : State} {m : MethodId} {args : Array Value} {below : List Frame} {meth : Method} {c : Code} {Q : State → Prop} {g : zG} {n1 n2 : Nat} (C : zCX p R s m args meth c g n1 n2 cX1_become 2 RX1 1 48) {a : Nat} (ha : isX1 a) {b : Nat} (hb : isX1 b) {σ : zST} {Post : zST → Prop} (hret : ∀ (σ : zST) (pc : Nat) (lv : List (Nat × Value)), Post σ → decode cX1_become pc = .ok (.return_, 1) → zGG p l e R s m args below meth c Q g n1 n2 2 pc lv [] σ) (h : wp_X1_become a b σ Post) : zGG p l e R s m args below meth c Q g n1 n2 2 0 [(0, .ref (g.2.1 a)), (1, .ref (g.2.1 b))] [] σ := by
  unfold wp_X1_become at h
  refine zr_aload_n C (zo_42 (p := 0) (zby_w zwX1_become_0 0 rfl)) rfl ?_
  refine zr_aload_n C (zo_43 (p := 1) (zby_w zwX1_become_0 1 rfl)) rfl ?_
  refine zr_geti C fw_X1_9 (shX1_0 hb) rfl (zo_180 (p := 2) (k := 9) (a := 0) (b := 9) (zby_w zwX1_become_0 2 rfl) (zby_w zwX1_become_0 3 rfl) (zby_w zwX1_become_0 4 rfl) (by decide)) ?_
  refine zr_puti C fw_X1_9 pw_X1_0 (shX1_0 ha) rfl rfl rfl (zo_181 (p := 5) (k := 9) (a := 0) (b := 9) (zby_w zwX1_become_0 5 rfl) (zby_w zwX1_become_0 6 rfl) (zby_w zwX1_become_0 7 rfl) (by decide)) ?_
  refine zr_aload_n C (zo_43 (p := 8) (zby_w zwX1_become_0 8 rfl)) rfl ?_
  refine zr_getr (u := (b + 1)) C fw_X1_15 (shX1_0 hb) rfl (zo_180 (p := 9) (k := 15) (a := 0) (b := 15) (zby_w zwX1_become_0 9 rfl) (zby_w zwX1_become_0 10 rfl) (zby_w zwX1_become_0 11 rfl) (by decide)) ?_
  refine zr_iconst C (0 : Int32) (zo_3 (p := 12) (zby_w zwX1_become_0 12 rfl)) (by decide) ?_
  refine zr_aload_n C (zo_42 (p := 13) (zby_w zwX1_become_0 13 rfl)) rfl ?_
  refine zr_getr (u := (a + 1)) C fw_X1_15 (shX1_0 ha) rfl (zo_180 (p := 14) (k := 15) (a := 0) (b := 15) (zby_w zwX1_become_0 14 rfl) (zby_w zwX1_become_0 15 rfl) (zby_w zwX1_become_0 16 rfl) (by decide)) ?_
  refine zr_iconst C (0 : Int32) (zo_3 (p := 17) (zby_w zwX1_become_0 17 rfl)) (by decide) ?_
  refine zr_bipush C (8 : Int32) (zo_16 (p := 18) (k := 8) (a := 8) (zby_w zwX1_become_0 18 rfl) (zby_w zwX1_become_0 19 rfl) (by decide)) (by decide) ?_
  refine zr_tops (fun σ1 hσ1 => ?_)
  replace h := h σ1 hσ1
  refine zr_copyi C aw_X1_19 ((shX1_1 hb)) ((shX1_1 ha)) (by unfold zCp; decide) (by decide) (Nat.le_of_ble_eq_true rfl) (zo_184 (p := 20) (k := 19) (a := 0) (b := 19) (zby_w zwX1_become_0 20 rfl) (zby_w zwX1_become_0 21 rfl) (zby_w zwX1_become_0 22 rfl) (by decide)) ?_
  exact hret _ _ _ h (zo_177 (p := 23) (zby_w zwX1_become_0 23 rfl))
set_option maxRecDepth 20000 in
theorem c_X1_become (l : Launch) (g : zG) (a : Nat) (ha : isX1 a) (b : Nat) (hb : isX1 b) (σ : zST) (Post : zST → Prop) (h : wp_X1_become a b σ Post) : Met l yX1_become (Cond.code yX1_become cX1_become 2 none :: zGW) (zRm 1 48) (va_Pc [.ref (g.2.1 a), .ref (g.2.1 b)] (zPP g σ)) (va_Qv Post (zBB g) (zA g)) 0 0 (zA g) :=
  zMet (by decide) (Nat.le_of_ble_eq_true rfl) (fun p e s m below meth c hr C => g_X1_become C ha hb (fun σ pc lv hp hd => zr_vret C hr hp hd) h)
def wp_X8_within (p0 : Int32) (p1 : Int32) (p2 : Int32) (σ : zST) (Post : Int32 → Prop) : Prop := ∀ z2 : Int32, z2 = (if p0 < p1 then (0 : Int32) else (if p2 < p0 then (0 : Int32) else (1 : Int32))) → zB z2 ∧ Post z2
set_option maxRecDepth 100000 in
set_option maxHeartbeats 4000000 in
theorem g_X8_within {p : Program} {l : Launch} {e : Env} {R : Room} {s : State} {m : MethodId} {args : Array Value} {below : List Frame} {meth : Method} {c : Code} {Q : State → Prop} {g : zG} {n1 n2 : Nat} (C : zCX p R s m args meth c g n1 n2 cX8_within 3 RX8 0 0) {p0 : Int32} {p1 : Int32} {p2 : Int32} {σ : zST} {Post : Int32 → Prop} (hret : ∀ (v : Int32) (pc : Nat) (lv : List (Nat × Value)), zB v → Post v → decode cX8_within pc = .ok (.ireturn, 1) → zGG p l e R s m args below meth c Q g n1 n2 3 pc lv [.int v] σ) (h : wp_X8_within p0 p1 p2 σ Post) : zGG p l e R s m args below meth c Q g n1 n2 3 0 [(0, .int p0), (1, .int p1), (2, .int p2)] [] σ := by
  unfold wp_X8_within at h
  refine zr_iload_n C (zo_26 (p := 0) (zby_w zwX8_within_0 0 rfl)) rfl ?_
  refine zr_iload_n C (zo_27 (p := 1) (zby_w zwX8_within_0 1 rfl)) rfl ?_
  have hJ3 : ∀ z2 : Int32, z2 = (if p0 < p1 then (0 : Int32) else (if p2 < p0 then (0 : Int32) else (1 : Int32))) → zGG p l e R s m args below meth c Q g n1 n2 3 15 [(0, .int p0), (1, .int p1), (2, .int p2)] [.int z2] σ := by
    intro z2 hz2
    replace h := h z2 hz2
    exact hret _ _ _ h.1 h.2 (zo_172 (p := 15) (zby_w zwX8_within_0 15 rfl))
  refine zr_icmp_lt C 14 (zo_161 (p := 2) (k := 12) (a := 0) (b := 12) (zby_w zwX8_within_0 2 rfl) (zby_w zwX8_within_0 3 rfl) (zby_w zwX8_within_0 4 rfl) (by decide)) (by decide) (fun hc1 => ?_) (fun hc1 => ?_)
  · skip
    refine zr_iconst C (0 : Int32) d_X8_within_14 (by decide) ?_
    exact hJ3 _ (by rw [if_pos hc1])
  · skip
    refine zr_iload_n C (zo_26 (p := 5) (zby_w zwX8_within_0 5 rfl)) rfl ?_
    refine zr_iload_n C (zo_28 (p := 6) (zby_w zwX8_within_0 6 rfl)) rfl ?_
    refine zr_icmp_gt C 14 (zo_163 (p := 7) (k := 7) (a := 0) (b := 7) (zby_w zwX8_within_0 7 rfl) (zby_w zwX8_within_0 8 rfl) (zby_w zwX8_within_0 9 rfl) (by decide)) (by decide) (fun hc5 => ?_) (fun hc5 => ?_)
    · skip
      refine zr_iconst C (0 : Int32) d_X8_within_14 (by decide) ?_
      exact hJ3 _ (by rw [if_neg hc1, if_pos hc5])
    · skip
      refine zr_iconst C (1 : Int32) (zo_4 (p := 10) (zby_w zwX8_within_0 10 rfl)) (by decide) ?_
      refine zr_goto C 15 (zo_167 (p := 11) (k := 4) (a := 0) (b := 4) (zby_w zwX8_within_0 11 rfl) (zby_w zwX8_within_0 12 rfl) (zby_w zwX8_within_0 13 rfl) (by decide)) (by decide) ?_
      exact hJ3 _ (by rw [if_neg hc1, if_neg hc5])
set_option maxRecDepth 20000 in
theorem c_X8_within (l : Launch) (g : zG) (p0 : Int32) (p1 : Int32) (p2 : Int32) (σ : zST) (Post : Int32 → Prop) (h : wp_X8_within p0 p1 p2 σ Post) : Met l yX8_within (Cond.code yX8_within cX8_within 3 (some .boolean) :: zGW) (zRm 0 0) (va_Pc [.int p0, .int p1, .int p2] (zPP g σ)) (va_Qi (fun r u => Post r ∧ u = σ) (zBB g) (zA g)) 0 0 (zA g) :=
  zMet (by decide) (Nat.le_of_ble_eq_true rfl) (fun p e s m below meth c hr C => g_X8_within C (fun v pc lv hz hp hd => zr_zret C hr hz ⟨hp, rfl⟩ hd) h)
def wp_X1_has (a : Nat) (p1 : Int32) (σ : zST) (Post : Int32 → Prop) : Prop := wp_X8_within p1 (0 : Int32) (7 : Int32) σ (fun r1 => ∀ z4 : Int32, z4 = (if r1 = (0) then (0 : Int32) else (if (((σ.1 a 0) >>> (p1 &&& 31)) &&& (1 : Int32)) = (1 : Int32) then (1 : Int32) else (0 : Int32))) → zB z4 ∧ Post z4)
set_option maxRecDepth 100000 in
set_option maxHeartbeats 4000000 in
theorem g_X1_has {p : Program} {l : Launch} {e : Env} {R : Room} {s : State} {m : MethodId} {args : Array Value} {below : List Frame} {meth : Method} {c : Code} {Q : State → Prop} {g : zG} {n1 n2 : Nat} (C : zCX p R s m args meth c g n1 n2 cX1_has 2 RX1 1 22) {a : Nat} (ha : isX1 a) {p1 : Int32} {σ : zST} {Post : Int32 → Prop} (hret : ∀ (v : Int32) (pc : Nat) (lv : List (Nat × Value)), zB v → Post v → decode cX1_has pc = .ok (.ireturn, 1) → zGG p l e R s m args below meth c Q g n1 n2 2 pc lv [.int v] σ) (h : wp_X1_has a p1 σ Post) : zGG p l e R s m args below meth c Q g n1 n2 2 0 [(0, .ref (g.2.1 a)), (1, .int p1)] [] σ := by
  unfold wp_X1_has at h
  refine zr_iload_n C (zo_27 (p := 0) (zby_w zwX1_has_0 0 rfl)) rfl ?_
  refine zr_iconst C (0 : Int32) (zo_3 (p := 1) (zby_w zwX1_has_0 1 rfl)) (by decide) ?_
  refine zr_bipush C (7 : Int32) (zo_16 (p := 2) (k := 7) (a := 7) (zby_w zwX1_has_0 2 rfl) (zby_w zwX1_has_0 3 rfl) (by decide)) (by decide) ?_
  refine zr_cip (zr_runN (As := [.int p1, .int (0 : Int32), .int (7 : Int32)]) (rest := []) C nw_X1_25 (c_X8_within l g p1 (0 : Int32) (7 : Int32) σ _ h) (by decide) (by decide) rfl rfl (Nat.le_of_ble_eq_true rfl) (zo_184 (p := 4) (k := 25) (a := 0) (b := 25) (zby_w zwX1_has_0 4 rfl) (zby_w zwX1_has_0 5 rfl) (zby_w zwX1_has_0 6 rfl) (by decide))) (fun r1 h => ?_)
  have hJ5 : ∀ z4 : Int32, z4 = (if r1 = (0) then (0 : Int32) else (if (((σ.1 a 0) >>> (p1 &&& 31)) &&& (1 : Int32)) = (1 : Int32) then (1 : Int32) else (0 : Int32))) → zGG p l e R s m args below meth c Q g n1 n2 2 27 [(0, .ref (g.2.1 a)), (1, .int p1)] [.int z4] σ := by
    intro z4 hz4
    replace h := h z4 hz4
    exact hret _ _ _ h.1 h.2 (zo_172 (p := 27) (zby_w zwX1_has_0 27 rfl))
  refine zr_if_eq C 26 (zo_153 (p := 7) (k := 19) (a := 0) (b := 19) (zby_w zwX1_has_0 7 rfl) (zby_w zwX1_has_0 8 rfl) (zby_w zwX1_has_0 9 rfl) (by decide)) (by decide) (fun hc3 => ?_) (fun hc3 => ?_)
  · skip
    refine zr_iconst C (0 : Int32) d_X1_has_26 (by decide) ?_
    exact hJ5 _ (by rw [if_pos hc3])
  · skip
    refine zr_aload_n C (zo_42 (p := 10) (zby_w zwX1_has_0 10 rfl)) rfl ?_
    refine zr_geti C fw_X1_9 (shX1_0 ha) rfl (zo_180 (p := 11) (k := 9) (a := 0) (b := 9) (zby_w zwX1_has_0 11 rfl) (zby_w zwX1_has_0 12 rfl) (zby_w zwX1_has_0 13 rfl) (by decide)) ?_
    refine zr_iload_n C (zo_27 (p := 14) (zby_w zwX1_has_0 14 rfl)) rfl ?_
    refine zr_ishr C (zo_122 (p := 15) (zby_w zwX1_has_0 15 rfl)) ?_
    refine zr_iconst C (1 : Int32) (zo_4 (p := 16) (zby_w zwX1_has_0 16 rfl)) (by decide) ?_
    refine zr_iand C (zo_126 (p := 17) (zby_w zwX1_has_0 17 rfl)) ?_
    refine zr_iconst C (1 : Int32) (zo_4 (p := 18) (zby_w zwX1_has_0 18 rfl)) (by decide) ?_
    refine zr_icmp_ne C 26 (zo_160 (p := 19) (k := 7) (a := 0) (b := 7) (zby_w zwX1_has_0 19 rfl) (zby_w zwX1_has_0 20 rfl) (zby_w zwX1_has_0 21 rfl) (by decide)) (by decide) (fun hc7 => ?_) (fun hc7 => ?_)
    · skip
      refine zr_iconst C (0 : Int32) d_X1_has_26 (by decide) ?_
      exact hJ5 _ (by rw [if_neg hc3, if_neg hc7])
    · skip
      refine zr_iconst C (1 : Int32) (zo_4 (p := 22) (zby_w zwX1_has_0 22 rfl)) (by decide) ?_
      refine zr_goto C 27 (zo_167 (p := 23) (k := 4) (a := 0) (b := 4) (zby_w zwX1_has_0 23 rfl) (zby_w zwX1_has_0 24 rfl) (zby_w zwX1_has_0 25 rfl) (by decide)) (by decide) ?_
      exact hJ5 _ (by rw [if_neg hc3, if_pos hc7])
set_option maxRecDepth 20000 in
theorem c_X1_has (l : Launch) (g : zG) (a : Nat) (ha : isX1 a) (p1 : Int32) (σ : zST) (Post : Int32 → Prop) (h : wp_X1_has a p1 σ Post) : Met l yX1_has (Cond.code yX1_has cX1_has 2 (some .boolean) :: zGW) (zRm 1 22) (va_Pc [.ref (g.2.1 a), .int p1] (zPP g σ)) (va_Qi (fun r u => Post r ∧ u = σ) (zBB g) (zA g)) 0 0 (zA g) :=
  zMet (by decide) (Nat.le_of_ble_eq_true rfl) (fun p e s m below meth c hr C => g_X1_has C ha (fun v pc lv hz hp hd => zr_zret C hr hz ⟨hp, rfl⟩ hd) h)
def wp_X1_countDrawn_L5 (a : Nat) (v1 : Int32) (v2 : Int32) (σ : zST) (Post : Int32 → Prop) : Nat → Int32 → Int32 → Prop
  | 0, _, _ => False
  | N + 1, v3, v4 => (if (8 : Int32) ≤ v4 then Post v3 else wp_X1_has a v4 σ (fun r2 => (if r2 = (0) then wp_X1_countDrawn_L5 a v1 v2 σ Post N v3 (v4 + 1) else vp_in v4 8 ∧ wp_X8_within (σ.1 (a + 1) v4.toNatClampNeg) v1 v2 σ (fun r6 => (if r6 = (0) then wp_X1_countDrawn_L5 a v1 v2 σ Post N v3 (v4 + 1) else wp_X1_countDrawn_L5 a v1 v2 σ Post N (v3 + 1) (v4 + 1))))))

set_option maxRecDepth 100000 in
set_option maxHeartbeats 4000000 in
theorem g_X1_countDrawn_L5 {p : Program} {l : Launch} {e : Env} {R : Room} {s : State} {m : MethodId} {args : Array Value} {below : List Frame} {meth : Method} {c : Code} {Q : State → Prop} {g : zG} {n1 n2 : Nat} (C : zCX p R s m args meth c g n1 n2 cX1_countDrawn 5 RX1 2 43) {a : Nat} (ha : isX1 a) {v1 : Int32} {v2 : Int32} {σ : zST}  {Post : Int32 → Prop} (hret : ∀ (v : Int32) (pc : Nat) (lv : List (Nat × Value)), Post v → decode cX1_countDrawn pc = .ok (.ireturn, 1) → zGG p l e R s m args below meth c Q g n1 n2 5 pc lv [.int v] σ) : ∀ (N : Nat) (v3 : Int32) (v4 : Int32) , wp_X1_countDrawn_L5 a v1 v2 σ Post N v3 v4 → zGG p l e R s m args below meth c Q g n1 n2 5 5 [(0, .ref (g.2.1 a)), (1, .int v1), (2, .int v2), (3, .int v3), (4, .int v4)] [] σ := by
  intro N
  induction N with
  | zero =>
    intro v3 v4 h
    exact h.elim
  | succ N ih =>
    intro v3 v4 h
    rw [wp_X1_countDrawn_L5] at h
    refine zr_iload C (zo_21 (p := 5) (k := 4) (a := 4) (zby_w zwX1_countDrawn_0 5 rfl) (zby_w zwX1_countDrawn_0 6 rfl) (by decide)) rfl ?_
    refine zr_bipush C (8 : Int32) (zo_16 (p := 7) (k := 8) (a := 8) (zby_w zwX1_countDrawn_0 7 rfl) (zby_w zwX1_countDrawn_0 8 rfl) (by decide)) (by decide) ?_
    refine zr_icmp_ge C 45 (zo_162 (p := 9) (k := 36) (a := 0) (b := 36) (zby_w zwX1_countDrawn_0 9 rfl) (zby_w zwX1_countDrawn_0 10 rfl) (zby_w zwX1_countDrawn_0 11 rfl) (by decide)) (by decide) (fun hc1 => ?_) (fun hc1 => ?_)
    · rw [if_pos hc1] at h
      refine zr_iload_n C (zo_29 (p := 45) (zby_w zwX1_countDrawn_1 13 rfl)) rfl ?_
      exact hret _ _ _ h (zo_172 (p := 46) (zby_w zwX1_countDrawn_1 14 rfl))
    · rw [if_neg hc1] at h
      refine zr_aload_n C (zo_42 (p := 12) (zby_w zwX1_countDrawn_0 12 rfl)) rfl ?_
      refine zr_iload C (zo_21 (p := 13) (k := 4) (a := 4) (zby_w zwX1_countDrawn_0 13 rfl) (zby_w zwX1_countDrawn_0 14 rfl) (by decide)) rfl ?_
      refine zr_cip (zr_runV (As := [.int v4]) (rest := []) C vw_X1_29 (c_X1_has l g a ha v4 σ _ h) (shX1_0 ha) rfl (by decide) (by decide) rfl rfl (Nat.le_of_ble_eq_true rfl) (zo_182 (p := 15) (k := 29) (a := 0) (b := 29) (zby_w zwX1_countDrawn_0 15 rfl) (zby_w zwX1_countDrawn_0 16 rfl) (zby_w zwX1_countDrawn_0 17 rfl) (by decide))) (fun r2 h => ?_)
      refine zr_if_eq C 39 (zo_153 (p := 18) (k := 21) (a := 0) (b := 21) (zby_w zwX1_countDrawn_0 18 rfl) (zby_w zwX1_countDrawn_0 19 rfl) (zby_w zwX1_countDrawn_0 20 rfl) (by decide)) (by decide) (fun hc4 => ?_) (fun hc4 => ?_)
      · rw [if_pos hc4] at h
        refine zr_iinc C (v4 + 1) [(4, .int (v4 + 1)), (0, .ref (g.2.1 a)), (1, .int v1), (2, .int v2), (3, .int v3)] d_X1_countDrawn_39 rfl rfl (by decide) rfl ?_
        refine zr_goto C 5 d_X1_countDrawn_42 (by decide) ?_
        exact zr_pick [1, 2, 3, 4, 0] rfl (ih v3 (v4 + 1) h)
      · rw [if_neg hc4] at h
        refine zr_aload_n C (zo_42 (p := 21) (zby_w zwX1_countDrawn_0 21 rfl)) rfl ?_
        refine zr_getr (u := (a + 1)) C fw_X1_15 (shX1_0 ha) rfl (zo_180 (p := 22) (k := 15) (a := 0) (b := 15) (zby_w zwX1_countDrawn_0 22 rfl) (zby_w zwX1_countDrawn_0 23 rfl) (zby_w zwX1_countDrawn_0 24 rfl) (by decide)) ?_
        refine zr_iload C (zo_21 (p := 25) (k := 4) (a := 4) (zby_w zwX1_countDrawn_0 25 rfl) (zby_w zwX1_countDrawn_0 26 rfl) (by decide)) rfl ?_
        obtain ⟨ho5, h⟩ := h
        refine zr_iald C ((shX1_1 ha)) ho5 (zo_46 (p := 27) (zby_w zwX1_countDrawn_0 27 rfl)) ?_
        refine zr_iload_n C (zo_27 (p := 28) (zby_w zwX1_countDrawn_0 28 rfl)) rfl ?_
        refine zr_iload_n C (zo_28 (p := 29) (zby_w zwX1_countDrawn_0 29 rfl)) rfl ?_
        refine zr_cip (zr_runN (As := [.int (σ.1 (a + 1) v4.toNatClampNeg), .int v1, .int v2]) (rest := []) C nw_X1_25 (c_X8_within l g (σ.1 (a + 1) v4.toNatClampNeg) v1 v2 σ _ h) (by decide) (by decide) rfl rfl (Nat.le_of_ble_eq_true rfl) (zo_184 (p := 30) (k := 25) (a := 0) (b := 25) (zby_w zwX1_countDrawn_0 30 rfl) (zby_w zwX1_countDrawn_0 31 rfl) (zby_w zwX1_countDrawn_0 32 rfl) (by decide))) (fun r6 h => ?_)
        refine zr_if_eq C 39 (zo_153 (p := 33) (k := 6) (a := 0) (b := 6) (zby_w zwX1_countDrawn_1 1 rfl) (zby_w zwX1_countDrawn_1 2 rfl) (zby_w zwX1_countDrawn_1 3 rfl) (by decide)) (by decide) (fun hc8 => ?_) (fun hc8 => ?_)
        · rw [if_pos hc8] at h
          refine zr_iinc C (v4 + 1) [(4, .int (v4 + 1)), (0, .ref (g.2.1 a)), (1, .int v1), (2, .int v2), (3, .int v3)] d_X1_countDrawn_39 rfl rfl (by decide) rfl ?_
          refine zr_goto C 5 d_X1_countDrawn_42 (by decide) ?_
          exact zr_pick [1, 2, 3, 4, 0] rfl (ih v3 (v4 + 1) h)
        · rw [if_neg hc8] at h
          refine zr_iinc C (v3 + 1) [(3, .int (v3 + 1)), (0, .ref (g.2.1 a)), (1, .int v1), (2, .int v2), (4, .int v4)] d_X1_countDrawn_36 rfl rfl (by decide) rfl ?_
          refine zr_iinc C (v4 + 1) [(4, .int (v4 + 1)), (3, .int (v3 + 1)), (0, .ref (g.2.1 a)), (1, .int v1), (2, .int v2)] d_X1_countDrawn_39 rfl rfl (by decide) rfl ?_
          refine zr_goto C 5 d_X1_countDrawn_42 (by decide) ?_
          exact zr_pick [2, 3, 4, 1, 0] rfl (ih (v3 + 1) (v4 + 1) h)

def wp_X1_countDrawn (a : Nat) (p1 : Int32) (p2 : Int32) (σ : zST) (Post : Int32 → Prop) : Prop := ∃ M9 : Nat, wp_X1_countDrawn_L5 a p1 p2 σ Post M9 (0 : Int32) (0 : Int32)
set_option maxRecDepth 100000 in
set_option maxHeartbeats 4000000 in
theorem g_X1_countDrawn {p : Program} {l : Launch} {e : Env} {R : Room} {s : State} {m : MethodId} {args : Array Value} {below : List Frame} {meth : Method} {c : Code} {Q : State → Prop} {g : zG} {n1 n2 : Nat} (C : zCX p R s m args meth c g n1 n2 cX1_countDrawn 5 RX1 2 43) {a : Nat} (ha : isX1 a) {p1 : Int32} {p2 : Int32} {σ : zST} {Post : Int32 → Prop} (hret : ∀ (v : Int32) (pc : Nat) (lv : List (Nat × Value)), Post v → decode cX1_countDrawn pc = .ok (.ireturn, 1) → zGG p l e R s m args below meth c Q g n1 n2 5 pc lv [.int v] σ) (h : wp_X1_countDrawn a p1 p2 σ Post) : zGG p l e R s m args below meth c Q g n1 n2 5 0 [(0, .ref (g.2.1 a)), (1, .int p1), (2, .int p2)] [] σ := by
  unfold wp_X1_countDrawn at h
  refine zr_iconst C (0 : Int32) (zo_3 (p := 0) (zby_w zwX1_countDrawn_0 0 rfl)) (by decide) ?_
  refine zr_istore_n C [(3, .int (0 : Int32)), (0, .ref (g.2.1 a)), (1, .int p1), (2, .int p2)] (zo_62 (p := 1) (zby_w zwX1_countDrawn_0 1 rfl)) (by decide) rfl ?_
  refine zr_iconst C (0 : Int32) (zo_3 (p := 2) (zby_w zwX1_countDrawn_0 2 rfl)) (by decide) ?_
  refine zr_istore C [(4, .int (0 : Int32)), (3, .int (0 : Int32)), (0, .ref (g.2.1 a)), (1, .int p1), (2, .int p2)] (zo_54 (p := 3) (k := 4) (a := 4) (zby_w zwX1_countDrawn_0 3 rfl) (zby_w zwX1_countDrawn_0 4 rfl) (by decide)) (by decide) rfl ?_
  obtain ⟨M9, h⟩ := h
  exact zr_pick [2, 3, 4, 1, 0] rfl (g_X1_countDrawn_L5 C ha hret M9 (0 : Int32) (0 : Int32) h)
set_option maxRecDepth 20000 in
theorem c_X1_countDrawn (l : Launch) (g : zG) (a : Nat) (ha : isX1 a) (p1 : Int32) (p2 : Int32) (σ : zST) (Post : Int32 → Prop) (h : wp_X1_countDrawn a p1 p2 σ Post) : Met l yX1_countDrawn (Cond.code yX1_countDrawn cX1_countDrawn 5 (some .int) :: zGW) (zRm 2 43) (va_Pc [.ref (g.2.1 a), .int p1, .int p2] (zPP g σ)) (va_Qi (fun r u => Post r ∧ u = σ) (zBB g) (zA g)) 0 0 (zA g) :=
  zMet (by decide) (Nat.le_of_ble_eq_true rfl) (fun p e s m below meth c hr C => g_X1_countDrawn C ha (fun v pc lv hp hd => zr_iret C hr ⟨hp, rfl⟩ hd) h)
def wp_X4_clear (σ : zST) (Post : Int32 → zST → Prop) : Prop := ∀ x1 : Int32, x1 = σ.1 52 1 → Post x1 (wI σ 52 1 (0 : Int32))
set_option maxRecDepth 100000 in
set_option maxHeartbeats 4000000 in
theorem g_X4_clear {p : Program} {l : Launch} {e : Env} {R : Room} {s : State} {m : MethodId} {args : Array Value} {below : List Frame} {meth : Method} {c : Code} {Q : State → Prop} {g : zG} {n1 n2 : Nat} (C : zCX p R s m args meth c g n1 n2 cX4_clear 2 RX4 0 0) {σ : zST} {Post : Int32 → zST → Prop} (hret : ∀ (v : Int32) (σ : zST) (pc : Nat) (lv : List (Nat × Value)), Post v σ → decode cX4_clear pc = .ok (.ireturn, 1) → zGG p l e R s m args below meth c Q g n1 n2 2 pc lv [.int v] σ) (h : wp_X4_clear σ Post) : zGG p l e R s m args below meth c Q g n1 n2 2 0 [(0, .ref (g.2.1 52))] [] σ := by
  unfold wp_X4_clear at h
  refine zr_aload_n C (zo_42 (p := 0) (zby_w zwX4_clear_0 0 rfl)) rfl ?_
  refine zr_geti C fw_X4_15 (sh_52) rfl (zo_180 (p := 1) (k := 15) (a := 0) (b := 15) (zby_w zwX4_clear_0 1 rfl) (zby_w zwX4_clear_0 2 rfl) (zby_w zwX4_clear_0 3 rfl) (by decide)) ?_
  refine zr_topi (fun x1 hx1 => ?_)
  replace h := h x1 hx1
  refine zr_istore_n C [(1, .int x1), (0, .ref (g.2.1 52))] (zo_60 (p := 4) (zby_w zwX4_clear_0 4 rfl)) (by decide) rfl ?_
  refine zr_aload_n C (zo_42 (p := 5) (zby_w zwX4_clear_0 5 rfl)) rfl ?_
  refine zr_iconst C (0 : Int32) (zo_3 (p := 6) (zby_w zwX4_clear_0 6 rfl)) (by decide) ?_
  refine zr_puti C fw_X4_15 pw_X4_1 (sh_52) rfl rfl rfl (zo_181 (p := 7) (k := 15) (a := 0) (b := 15) (zby_w zwX4_clear_0 7 rfl) (zby_w zwX4_clear_0 8 rfl) (zby_w zwX4_clear_0 9 rfl) (by decide)) ?_
  refine zr_iload_n C (zo_27 (p := 10) (zby_w zwX4_clear_0 10 rfl)) rfl ?_
  exact hret _ _ _ _ h (zo_172 (p := 11) (zby_w zwX4_clear_0 11 rfl))
set_option maxRecDepth 20000 in
theorem c_X4_clear (l : Launch) (g : zG) (σ : zST) (Post : Int32 → zST → Prop) (h : wp_X4_clear σ Post) : Met l yX4_clear (Cond.code yX4_clear cX4_clear 2 (some .int) :: zGW) (zRm 0 0) (va_Pc [.ref (g.2.1 52)] (zPP g σ)) (va_Qi Post (zBB g) (zA g)) 0 0 (zA g) :=
  zMet (by decide) (Nat.le_of_ble_eq_true rfl) (fun p e s m below meth c hr C => g_X4_clear C (fun v σ pc lv hp hd => zr_iret C hr hp hd) h)
def wp_X4_faultAsTide_L2 (σ : zST) (Post : Int32 → Prop) : Nat → Int32 → Prop
  | 0, _ => False
  | N + 1, v1 => (if (σ.1 52 1) ≤ v1 then ∀ z3 : Int32, z3 = (if (σ.1 52 1) = (0) then (0 : Int32) else (-6 : Int32)) → Post z3 else (if (60 : Int32) ≤ v1 then ∀ z8 : Int32, z8 = (if (σ.1 52 1) = (0) then (0 : Int32) else (-6 : Int32)) → Post z8 else (if (24 : Int32) ≤ v1 then Post v1 else vp_in v1 60 ∧ wp_X8_within (σ.1 53 v1.toNatClampNeg) (48 : Int32) (57 : Int32) σ (fun r13 => (if r13 = (0) then Post v1 else wp_X4_faultAsTide_L2 σ Post N (v1 + 1))))))

set_option maxRecDepth 100000 in
set_option maxHeartbeats 4000000 in
theorem g_X4_faultAsTide_L2 {p : Program} {l : Launch} {e : Env} {R : Room} {s : State} {m : MethodId} {args : Array Value} {below : List Frame} {meth : Method} {c : Code} {Q : State → Prop} {g : zG} {n1 n2 : Nat} (C : zCX p R s m args meth c g n1 n2 cX4_faultAsTide 2 RX4 1 22) {σ : zST}  {Post : Int32 → Prop} (hret : ∀ (v : Int32) (pc : Nat) (lv : List (Nat × Value)), Post v → decode cX4_faultAsTide pc = .ok (.ireturn, 1) → zGG p l e R s m args below meth c Q g n1 n2 2 pc lv [.int v] σ) : ∀ (N : Nat) (v1 : Int32) , wp_X4_faultAsTide_L2 σ Post N v1 → zGG p l e R s m args below meth c Q g n1 n2 2 2 [(0, .ref (g.2.1 52)), (1, .int v1)] [] σ := by
  intro N
  induction N with
  | zero =>
    intro v1 h
    exact h.elim
  | succ N ih =>
    intro v1 h
    rw [wp_X4_faultAsTide_L2] at h
    refine zr_iload_n C (zo_27 (p := 2) (zby_w zwX4_faultAsTide_0 2 rfl)) rfl ?_
    refine zr_aload_n C (zo_42 (p := 3) (zby_w zwX4_faultAsTide_0 3 rfl)) rfl ?_
    refine zr_geti C fw_X4_15 (sh_52) rfl (zo_180 (p := 4) (k := 15) (a := 0) (b := 15) (zby_w zwX4_faultAsTide_0 4 rfl) (zby_w zwX4_faultAsTide_0 5 rfl) (zby_w zwX4_faultAsTide_0 6 rfl) (by decide)) ?_
    refine zr_icmp_ge C 46 (zo_162 (p := 7) (k := 39) (a := 0) (b := 39) (zby_w zwX4_faultAsTide_0 7 rfl) (zby_w zwX4_faultAsTide_0 8 rfl) (zby_w zwX4_faultAsTide_0 9 rfl) (by decide)) (by decide) (fun hc1 => ?_) (fun hc1 => ?_)
    · rw [if_pos hc1] at h
      refine zr_aload_n C d_X4_faultAsTide_46 rfl ?_
      refine zr_geti C fw_X4_15 (sh_52) rfl d_X4_faultAsTide_47 ?_
      have hJ4 : ∀ z3 : Int32, z3 = (if (σ.1 52 1) = (0) then (0 : Int32) else (-6 : Int32)) → zGG p l e R s m args below meth c Q g n1 n2 2 59 [(0, .ref (g.2.1 52)), (1, .int v1)] [.int z3] σ := by
        intro z3 hz3
        replace h := h z3 hz3
        exact hret _ _ _ h d_X4_faultAsTide_59
      refine zr_if_ne C 57 d_X4_faultAsTide_50 (by decide) (fun hc2 => ?_) (fun hc2 => ?_)
      · skip
        refine zr_bipush C (-6 : Int32) d_X4_faultAsTide_57 (by decide) ?_
        exact hJ4 _ (by rw [if_neg hc2])
      · skip
        refine zr_iconst C (0 : Int32) d_X4_faultAsTide_53 (by decide) ?_
        refine zr_goto C 59 d_X4_faultAsTide_54 (by decide) ?_
        exact hJ4 _ (by rw [if_pos hc2])
    · rw [if_neg hc1] at h
      refine zr_iload_n C (zo_27 (p := 10) (zby_w zwX4_faultAsTide_0 10 rfl)) rfl ?_
      refine zr_bipush C (60 : Int32) (zo_16 (p := 11) (k := 60) (a := 60) (zby_w zwX4_faultAsTide_0 11 rfl) (zby_w zwX4_faultAsTide_0 12 rfl) (by decide)) (by decide) ?_
      refine zr_icmp_ge C 46 (zo_162 (p := 13) (k := 33) (a := 0) (b := 33) (zby_w zwX4_faultAsTide_0 13 rfl) (zby_w zwX4_faultAsTide_0 14 rfl) (zby_w zwX4_faultAsTide_0 15 rfl) (by decide)) (by decide) (fun hc6 => ?_) (fun hc6 => ?_)
      · rw [if_pos hc6] at h
        refine zr_aload_n C d_X4_faultAsTide_46 rfl ?_
        refine zr_geti C fw_X4_15 (sh_52) rfl d_X4_faultAsTide_47 ?_
        have hJ9 : ∀ z8 : Int32, z8 = (if (σ.1 52 1) = (0) then (0 : Int32) else (-6 : Int32)) → zGG p l e R s m args below meth c Q g n1 n2 2 59 [(0, .ref (g.2.1 52)), (1, .int v1)] [.int z8] σ := by
          intro z8 hz8
          replace h := h z8 hz8
          exact hret _ _ _ h d_X4_faultAsTide_59
        refine zr_if_ne C 57 d_X4_faultAsTide_50 (by decide) (fun hc7 => ?_) (fun hc7 => ?_)
        · skip
          refine zr_bipush C (-6 : Int32) d_X4_faultAsTide_57 (by decide) ?_
          exact hJ9 _ (by rw [if_neg hc7])
        · skip
          refine zr_iconst C (0 : Int32) d_X4_faultAsTide_53 (by decide) ?_
          refine zr_goto C 59 d_X4_faultAsTide_54 (by decide) ?_
          exact hJ9 _ (by rw [if_pos hc7])
      · rw [if_neg hc6] at h
        refine zr_iload_n C (zo_27 (p := 16) (zby_w zwX4_faultAsTide_0 16 rfl)) rfl ?_
        refine zr_bipush C (24 : Int32) (zo_16 (p := 17) (k := 24) (a := 24) (zby_w zwX4_faultAsTide_0 17 rfl) (zby_w zwX4_faultAsTide_0 18 rfl) (by decide)) (by decide) ?_
        refine zr_icmp_ge C 38 (zo_162 (p := 19) (k := 19) (a := 0) (b := 19) (zby_w zwX4_faultAsTide_0 19 rfl) (zby_w zwX4_faultAsTide_0 20 rfl) (zby_w zwX4_faultAsTide_0 21 rfl) (by decide)) (by decide) (fun hc11 => ?_) (fun hc11 => ?_)
        · rw [if_pos hc11] at h
          refine zr_iload_n C d_X4_faultAsTide_38 rfl ?_
          exact hret _ _ _ h d_X4_faultAsTide_39
        · rw [if_neg hc11] at h
          refine zr_aload_n C (zo_42 (p := 22) (zby_w zwX4_faultAsTide_0 22 rfl)) rfl ?_
          refine zr_getr (u := 53) C fw_X4_9 (sh_52) rfl (zo_180 (p := 23) (k := 9) (a := 0) (b := 9) (zby_w zwX4_faultAsTide_0 23 rfl) (zby_w zwX4_faultAsTide_0 24 rfl) (zby_w zwX4_faultAsTide_0 25 rfl) (by decide)) ?_
          refine zr_iload_n C (zo_27 (p := 26) (zby_w zwX4_faultAsTide_0 26 rfl)) rfl ?_
          obtain ⟨ho12, h⟩ := h
          refine zr_iald C (sh_53) ho12 (zo_46 (p := 27) (zby_w zwX4_faultAsTide_0 27 rfl)) ?_
          refine zr_bipush C (48 : Int32) (zo_16 (p := 28) (k := 48) (a := 48) (zby_w zwX4_faultAsTide_0 28 rfl) (zby_w zwX4_faultAsTide_0 29 rfl) (by decide)) (by decide) ?_
          refine zr_bipush C (57 : Int32) (zo_16 (p := 30) (k := 57) (a := 57) (zby_w zwX4_faultAsTide_0 30 rfl) (zby_w zwX4_faultAsTide_0 31 rfl) (by decide)) (by decide) ?_
          refine zr_cip (zr_runN (As := [.int (σ.1 53 v1.toNatClampNeg), .int (48 : Int32), .int (57 : Int32)]) (rest := []) C nw_X4_19 (c_X8_within l g (σ.1 53 v1.toNatClampNeg) (48 : Int32) (57 : Int32) σ _ h) (by decide) (by decide) rfl rfl (Nat.le_of_ble_eq_true rfl) (zo_184 (p := 32) (k := 19) (a := 0) (b := 19) (zby_w zwX4_faultAsTide_1 0 rfl) (zby_w zwX4_faultAsTide_1 1 rfl) (zby_w zwX4_faultAsTide_1 2 rfl) (by decide))) (fun r13 h => ?_)
          refine zr_if_ne C 40 (zo_154 (p := 35) (k := 5) (a := 0) (b := 5) (zby_w zwX4_faultAsTide_1 3 rfl) (zby_w zwX4_faultAsTide_1 4 rfl) (zby_w zwX4_faultAsTide_1 5 rfl) (by decide)) (by decide) (fun hc15 => ?_) (fun hc15 => ?_)
          · rw [if_neg hc15] at h
            refine zr_iinc C (v1 + 1) [(1, .int (v1 + 1)), (0, .ref (g.2.1 52))] d_X4_faultAsTide_40 rfl rfl (by decide) rfl ?_
            refine zr_goto C 2 (zo_167 (p := 43) (k := (-41)) (a := 255) (b := 215) (zby_w zwX4_faultAsTide_1 11 rfl) (zby_w zwX4_faultAsTide_1 12 rfl) (zby_w zwX4_faultAsTide_1 13 rfl) (by decide)) (by decide) ?_
            exact zr_pick [1, 0] rfl (ih (v1 + 1) h)
          · rw [if_pos hc15] at h
            refine zr_iload_n C d_X4_faultAsTide_38 rfl ?_
            exact hret _ _ _ h d_X4_faultAsTide_39

def wp_X4_faultAsTide (σ : zST) (Post : Int32 → Prop) : Prop := ∃ M16 : Nat, wp_X4_faultAsTide_L2 σ Post M16 (0 : Int32)
set_option maxRecDepth 100000 in
set_option maxHeartbeats 4000000 in
theorem g_X4_faultAsTide {p : Program} {l : Launch} {e : Env} {R : Room} {s : State} {m : MethodId} {args : Array Value} {below : List Frame} {meth : Method} {c : Code} {Q : State → Prop} {g : zG} {n1 n2 : Nat} (C : zCX p R s m args meth c g n1 n2 cX4_faultAsTide 2 RX4 1 22) {σ : zST} {Post : Int32 → Prop} (hret : ∀ (v : Int32) (pc : Nat) (lv : List (Nat × Value)), Post v → decode cX4_faultAsTide pc = .ok (.ireturn, 1) → zGG p l e R s m args below meth c Q g n1 n2 2 pc lv [.int v] σ) (h : wp_X4_faultAsTide σ Post) : zGG p l e R s m args below meth c Q g n1 n2 2 0 [(0, .ref (g.2.1 52))] [] σ := by
  unfold wp_X4_faultAsTide at h
  refine zr_iconst C (0 : Int32) (zo_3 (p := 0) (zby_w zwX4_faultAsTide_0 0 rfl)) (by decide) ?_
  refine zr_istore_n C [(1, .int (0 : Int32)), (0, .ref (g.2.1 52))] (zo_60 (p := 1) (zby_w zwX4_faultAsTide_0 1 rfl)) (by decide) rfl ?_
  obtain ⟨M16, h⟩ := h
  exact zr_pick [1, 0] rfl (g_X4_faultAsTide_L2 C hret M16 (0 : Int32) h)
set_option maxRecDepth 20000 in
theorem c_X4_faultAsTide (l : Launch) (g : zG) (σ : zST) (Post : Int32 → Prop) (h : wp_X4_faultAsTide σ Post) : Met l yX4_faultAsTide (Cond.code yX4_faultAsTide cX4_faultAsTide 2 (some .int) :: zGW) (zRm 1 22) (va_Pc [.ref (g.2.1 52)] (zPP g σ)) (va_Qi (fun r u => Post r ∧ u = σ) (zBB g) (zA g)) 0 0 (zA g) :=
  zMet (by decide) (Nat.le_of_ble_eq_true rfl) (fun p e s m below meth c hr C => g_X4_faultAsTide C (fun v pc lv hp hd => zr_iret C hr ⟨hp, rfl⟩ hd) h)
def wp_X4_holds (p1 : Int32) (σ : zST) (Post : Int32 → Prop) : Prop := ∀ z2 : Int32, z2 = (if p1 < (0) then (0 : Int32) else (if (σ.1 52 1) ≤ p1 then (0 : Int32) else (if (60 : Int32) ≤ p1 then (0 : Int32) else (1 : Int32)))) → zB z2 ∧ Post z2
set_option maxRecDepth 100000 in
set_option maxHeartbeats 4000000 in
theorem g_X4_holds {p : Program} {l : Launch} {e : Env} {R : Room} {s : State} {m : MethodId} {args : Array Value} {below : List Frame} {meth : Method} {c : Code} {Q : State → Prop} {g : zG} {n1 n2 : Nat} (C : zCX p R s m args meth c g n1 n2 cX4_holds 2 RX4 0 0) {p1 : Int32} {σ : zST} {Post : Int32 → Prop} (hret : ∀ (v : Int32) (pc : Nat) (lv : List (Nat × Value)), zB v → Post v → decode cX4_holds pc = .ok (.ireturn, 1) → zGG p l e R s m args below meth c Q g n1 n2 2 pc lv [.int v] σ) (h : wp_X4_holds p1 σ Post) : zGG p l e R s m args below meth c Q g n1 n2 2 0 [(0, .ref (g.2.1 52)), (1, .int p1)] [] σ := by
  unfold wp_X4_holds at h
  refine zr_iload_n C (zo_27 (p := 0) (zby_w zwX4_holds_0 0 rfl)) rfl ?_
  have hJ3 : ∀ z2 : Int32, z2 = (if p1 < (0) then (0 : Int32) else (if (σ.1 52 1) ≤ p1 then (0 : Int32) else (if (60 : Int32) ≤ p1 then (0 : Int32) else (1 : Int32)))) → zGG p l e R s m args below meth c Q g n1 n2 2 23 [(0, .ref (g.2.1 52)), (1, .int p1)] [.int z2] σ := by
    intro z2 hz2
    replace h := h z2 hz2
    exact hret _ _ _ h.1 h.2 (zo_172 (p := 23) (zby_w zwX4_holds_0 23 rfl))
  refine zr_if_lt C 22 (zo_155 (p := 1) (k := 21) (a := 0) (b := 21) (zby_w zwX4_holds_0 1 rfl) (zby_w zwX4_holds_0 2 rfl) (zby_w zwX4_holds_0 3 rfl) (by decide)) (by decide) (fun hc1 => ?_) (fun hc1 => ?_)
  · skip
    refine zr_iconst C (0 : Int32) d_X4_holds_22 (by decide) ?_
    exact hJ3 _ (by rw [if_pos hc1])
  · skip
    refine zr_iload_n C (zo_27 (p := 4) (zby_w zwX4_holds_0 4 rfl)) rfl ?_
    refine zr_aload_n C (zo_42 (p := 5) (zby_w zwX4_holds_0 5 rfl)) rfl ?_
    refine zr_geti C fw_X4_15 (sh_52) rfl (zo_180 (p := 6) (k := 15) (a := 0) (b := 15) (zby_w zwX4_holds_0 6 rfl) (zby_w zwX4_holds_0 7 rfl) (zby_w zwX4_holds_0 8 rfl) (by decide)) ?_
    refine zr_icmp_ge C 22 (zo_162 (p := 9) (k := 13) (a := 0) (b := 13) (zby_w zwX4_holds_0 9 rfl) (zby_w zwX4_holds_0 10 rfl) (zby_w zwX4_holds_0 11 rfl) (by decide)) (by decide) (fun hc5 => ?_) (fun hc5 => ?_)
    · skip
      refine zr_iconst C (0 : Int32) d_X4_holds_22 (by decide) ?_
      exact hJ3 _ (by rw [if_neg hc1, if_pos hc5])
    · skip
      refine zr_iload_n C (zo_27 (p := 12) (zby_w zwX4_holds_0 12 rfl)) rfl ?_
      refine zr_bipush C (60 : Int32) (zo_16 (p := 13) (k := 60) (a := 60) (zby_w zwX4_holds_0 13 rfl) (zby_w zwX4_holds_0 14 rfl) (by decide)) (by decide) ?_
      refine zr_icmp_ge C 22 (zo_162 (p := 15) (k := 7) (a := 0) (b := 7) (zby_w zwX4_holds_0 15 rfl) (zby_w zwX4_holds_0 16 rfl) (zby_w zwX4_holds_0 17 rfl) (by decide)) (by decide) (fun hc6 => ?_) (fun hc6 => ?_)
      · skip
        refine zr_iconst C (0 : Int32) d_X4_holds_22 (by decide) ?_
        exact hJ3 _ (by rw [if_neg hc1, if_neg hc5, if_pos hc6])
      · skip
        refine zr_iconst C (1 : Int32) (zo_4 (p := 18) (zby_w zwX4_holds_0 18 rfl)) (by decide) ?_
        refine zr_goto C 23 (zo_167 (p := 19) (k := 4) (a := 0) (b := 4) (zby_w zwX4_holds_0 19 rfl) (zby_w zwX4_holds_0 20 rfl) (zby_w zwX4_holds_0 21 rfl) (by decide)) (by decide) ?_
        exact hJ3 _ (by rw [if_neg hc1, if_neg hc5, if_neg hc6])
set_option maxRecDepth 20000 in
theorem c_X4_holds (l : Launch) (g : zG) (p1 : Int32) (σ : zST) (Post : Int32 → Prop) (h : wp_X4_holds p1 σ Post) : Met l yX4_holds (Cond.code yX4_holds cX4_holds 2 (some .boolean) :: zGW) (zRm 0 0) (va_Pc [.ref (g.2.1 52), .int p1] (zPP g σ)) (va_Qi (fun r u => Post r ∧ u = σ) (zBB g) (zA g)) 0 0 (zA g) :=
  zMet (by decide) (Nat.le_of_ble_eq_true rfl) (fun p e s m below meth c hr C => g_X4_holds C (fun v pc lv hz hp hd => zr_zret C hr hz ⟨hp, rfl⟩ hd) h)
def wp_X4_sideAt (p1 : Int32) (σ : zST) (Post : Int32 → Prop) : Prop := wp_X4_holds p1 σ (fun r1 => (if r1 = (0) then Post (-6 : Int32) else vp_in p1 60 ∧ (if (σ.1 53 p1.toNatClampNeg) = 67 then Post (2 : Int32) else (if (σ.1 53 p1.toNatClampNeg) = 84 then Post (0 : Int32) else (if (σ.1 53 p1.toNatClampNeg) = 87 then Post (1 : Int32) else Post (-6 : Int32))))))
set_option maxRecDepth 100000 in
set_option maxHeartbeats 4000000 in
theorem g_X4_sideAt {p : Program} {l : Launch} {e : Env} {R : Room} {s : State} {m : MethodId} {args : Array Value} {below : List Frame} {meth : Method} {c : Code} {Q : State → Prop} {g : zG} {n1 n2 : Nat} (C : zCX p R s m args meth c g n1 n2 cX4_sideAt 2 RX4 1 21) {p1 : Int32} {σ : zST} {Post : Int32 → Prop} (hret : ∀ (v : Int32) (pc : Nat) (lv : List (Nat × Value)), Post v → decode cX4_sideAt pc = .ok (.ireturn, 1) → zGG p l e R s m args below meth c Q g n1 n2 2 pc lv [.int v] σ) (h : wp_X4_sideAt p1 σ Post) : zGG p l e R s m args below meth c Q g n1 n2 2 0 [(0, .ref (g.2.1 52)), (1, .int p1)] [] σ := by
  unfold wp_X4_sideAt at h
  refine zr_aload_n C (zo_42 (p := 0) (zby_w zwX4_sideAt_0 0 rfl)) rfl ?_
  refine zr_iload_n C (zo_27 (p := 1) (zby_w zwX4_sideAt_0 1 rfl)) rfl ?_
  refine zr_cip (zr_runV (As := [.int p1]) (rest := []) C vw_X4_34 (c_X4_holds l g p1 σ _ h) (sh_52) rfl (by decide) (by decide) rfl rfl (Nat.le_of_ble_eq_true rfl) (zo_182 (p := 2) (k := 34) (a := 0) (b := 34) (zby_w zwX4_sideAt_0 2 rfl) (zby_w zwX4_sideAt_0 3 rfl) (zby_w zwX4_sideAt_0 4 rfl) (by decide))) (fun r1 h => ?_)
  refine zr_if_ne C 11 (zo_154 (p := 5) (k := 6) (a := 0) (b := 6) (zby_w zwX4_sideAt_0 5 rfl) (zby_w zwX4_sideAt_0 6 rfl) (zby_w zwX4_sideAt_0 7 rfl) (by decide)) (by decide) (fun hc3 => ?_) (fun hc3 => ?_)
  · rw [if_neg hc3] at h
    refine zr_aload_n C (zo_42 (p := 11) (zby_w zwX4_sideAt_0 11 rfl)) rfl ?_
    refine zr_getr (u := 53) C fw_X4_9 (sh_52) rfl (zo_180 (p := 12) (k := 9) (a := 0) (b := 9) (zby_w zwX4_sideAt_0 12 rfl) (zby_w zwX4_sideAt_0 13 rfl) (zby_w zwX4_sideAt_0 14 rfl) (by decide)) ?_
    refine zr_iload_n C (zo_27 (p := 15) (zby_w zwX4_sideAt_0 15 rfl)) rfl ?_
    obtain ⟨ho4, h⟩ := h
    refine zr_iald C (sh_53) ho4 (zo_46 (p := 16) (zby_w zwX4_sideAt_0 16 rfl)) ?_
    by_cases hc5 : (σ.1 53 p1.toNatClampNeg) = 67
    · rw [if_pos hc5] at h
      refine zr_lookup C (off := 39) 56 d_X4_sideAt_17 (by decide) (by rw [hc5]; decide) (by decide) ?_
      refine zr_iconst C (2 : Int32) (zo_5 (p := 56) (zby_w zwX4_sideAt_1 24 rfl)) (by decide) ?_
      exact hret _ _ _ h (zo_172 (p := 57) (zby_w zwX4_sideAt_1 25 rfl))
    rw [if_neg hc5] at h
    by_cases hc6 : (σ.1 53 p1.toNatClampNeg) = 84
    · rw [if_pos hc6] at h
      refine zr_lookup C (off := 35) 52 d_X4_sideAt_17 (by decide) (by rw [hc6]; decide) (by decide) ?_
      refine zr_iconst C (0 : Int32) (zo_3 (p := 52) (zby_w zwX4_sideAt_1 20 rfl)) (by decide) ?_
      exact hret _ _ _ h (zo_172 (p := 53) (zby_w zwX4_sideAt_1 21 rfl))
    rw [if_neg hc6] at h
    by_cases hc7 : (σ.1 53 p1.toNatClampNeg) = 87
    · rw [if_pos hc7] at h
      refine zr_lookup C (off := 37) 54 d_X4_sideAt_17 (by decide) (by rw [hc7]; decide) (by decide) ?_
      refine zr_iconst C (1 : Int32) (zo_4 (p := 54) (zby_w zwX4_sideAt_1 22 rfl)) (by decide) ?_
      exact hret _ _ _ h (zo_172 (p := 55) (zby_w zwX4_sideAt_1 23 rfl))
    rw [if_neg hc7] at h
    refine zr_lookup C (off := 41) 58 d_X4_sideAt_17 (by decide) (by show Op.lookupswitch.offset [(67, 39), (84, 35), (87, 37)] _ _ = _; rw [lv_osw hc5 (by decide), lv_osw hc6 (by decide), lv_osw hc7 (by decide)]; rfl) (by decide) ?_
    refine zr_bipush C (-6 : Int32) (zo_16 (p := 58) (k := (-6)) (a := 250) (zby_w zwX4_sideAt_1 26 rfl) (zby_w zwX4_sideAt_1 27 rfl) (by decide)) (by decide) ?_
    exact hret _ _ _ h (zo_172 (p := 60) (zby_w zwX4_sideAt_1 28 rfl))
  · rw [if_pos hc3] at h
    refine zr_bipush C (-6 : Int32) (zo_16 (p := 8) (k := (-6)) (a := 250) (zby_w zwX4_sideAt_0 8 rfl) (zby_w zwX4_sideAt_0 9 rfl) (by decide)) (by decide) ?_
    exact hret _ _ _ h (zo_172 (p := 10) (zby_w zwX4_sideAt_0 10 rfl))
set_option maxRecDepth 20000 in
theorem c_X4_sideAt (l : Launch) (g : zG) (p1 : Int32) (σ : zST) (Post : Int32 → Prop) (h : wp_X4_sideAt p1 σ Post) : Met l yX4_sideAt (Cond.code yX4_sideAt cX4_sideAt 2 (some .int) :: zGW) (zRm 1 21) (va_Pc [.ref (g.2.1 52), .int p1] (zPP g σ)) (va_Qi (fun r u => Post r ∧ u = σ) (zBB g) (zA g)) 0 0 (zA g) :=
  zMet (by decide) (Nat.le_of_ble_eq_true rfl) (fun p e s m below meth c hr C => g_X4_sideAt C (fun v pc lv hp hd => zr_iret C hr ⟨hp, rfl⟩ hd) h)
def wp_X4_hourPassesAt (p1 : Int32) (σ : zST) (Post : Int32 → Prop) : Prop := wp_X4_holds p1 σ (fun r1 => (if r1 = (0) then True else vp_in p1 60 ∧ True) ∧ ∀ z4 : Int32, z4 = (if r1 = (0) then (0 : Int32) else (if (σ.1 53 p1.toNatClampNeg) = (46 : Int32) then (1 : Int32) else (0 : Int32))) → zB z4 ∧ Post z4)
set_option maxRecDepth 100000 in
set_option maxHeartbeats 4000000 in
theorem g_X4_hourPassesAt {p : Program} {l : Launch} {e : Env} {R : Room} {s : State} {m : MethodId} {args : Array Value} {below : List Frame} {meth : Method} {c : Code} {Q : State → Prop} {g : zG} {n1 n2 : Nat} (C : zCX p R s m args meth c g n1 n2 cX4_hourPassesAt 2 RX4 1 21) {p1 : Int32} {σ : zST} {Post : Int32 → Prop} (hret : ∀ (v : Int32) (pc : Nat) (lv : List (Nat × Value)), zB v → Post v → decode cX4_hourPassesAt pc = .ok (.ireturn, 1) → zGG p l e R s m args below meth c Q g n1 n2 2 pc lv [.int v] σ) (h : wp_X4_hourPassesAt p1 σ Post) : zGG p l e R s m args below meth c Q g n1 n2 2 0 [(0, .ref (g.2.1 52)), (1, .int p1)] [] σ := by
  unfold wp_X4_hourPassesAt at h
  refine zr_aload_n C (zo_42 (p := 0) (zby_w zwX4_hourPassesAt_0 0 rfl)) rfl ?_
  refine zr_iload_n C (zo_27 (p := 1) (zby_w zwX4_hourPassesAt_0 1 rfl)) rfl ?_
  refine zr_cip (zr_runV (As := [.int p1]) (rest := []) C vw_X4_34 (c_X4_holds l g p1 σ _ h) (sh_52) rfl (by decide) (by decide) rfl rfl (Nat.le_of_ble_eq_true rfl) (zo_182 (p := 2) (k := 34) (a := 0) (b := 34) (zby_w zwX4_hourPassesAt_0 2 rfl) (zby_w zwX4_hourPassesAt_0 3 rfl) (zby_w zwX4_hourPassesAt_0 4 rfl) (by decide))) (fun r1 h => ?_)
  obtain ⟨ho6, h⟩ := h
  have hJ5 : ∀ z4 : Int32, z4 = (if r1 = (0) then (0 : Int32) else (if (σ.1 53 p1.toNatClampNeg) = (46 : Int32) then (1 : Int32) else (0 : Int32))) → zGG p l e R s m args below meth c Q g n1 n2 2 24 [(0, .ref (g.2.1 52)), (1, .int p1)] [.int z4] σ := by
    intro z4 hz4
    replace h := h z4 hz4
    exact hret _ _ _ h.1 h.2 (zo_172 (p := 24) (zby_w zwX4_hourPassesAt_0 24 rfl))
  refine zr_if_eq C 23 (zo_153 (p := 5) (k := 18) (a := 0) (b := 18) (zby_w zwX4_hourPassesAt_0 5 rfl) (zby_w zwX4_hourPassesAt_0 6 rfl) (zby_w zwX4_hourPassesAt_0 7 rfl) (by decide)) (by decide) (fun hc3 => ?_) (fun hc3 => ?_)
  · skip
    rw [if_pos hc3] at ho6
    refine zr_iconst C (0 : Int32) d_X4_hourPassesAt_23 (by decide) ?_
    exact hJ5 _ (by rw [if_pos hc3])
  · skip
    rw [if_neg hc3] at ho6
    refine zr_aload_n C (zo_42 (p := 8) (zby_w zwX4_hourPassesAt_0 8 rfl)) rfl ?_
    refine zr_getr (u := 53) C fw_X4_9 (sh_52) rfl (zo_180 (p := 9) (k := 9) (a := 0) (b := 9) (zby_w zwX4_hourPassesAt_0 9 rfl) (zby_w zwX4_hourPassesAt_0 10 rfl) (zby_w zwX4_hourPassesAt_0 11 rfl) (by decide)) ?_
    refine zr_iload_n C (zo_27 (p := 12) (zby_w zwX4_hourPassesAt_0 12 rfl)) rfl ?_
    obtain ⟨ho7, ho6⟩ := ho6
    refine zr_iald C (sh_53) ho7 (zo_46 (p := 13) (zby_w zwX4_hourPassesAt_0 13 rfl)) ?_
    refine zr_bipush C (46 : Int32) (zo_16 (p := 14) (k := 46) (a := 46) (zby_w zwX4_hourPassesAt_0 14 rfl) (zby_w zwX4_hourPassesAt_0 15 rfl) (by decide)) (by decide) ?_
    refine zr_icmp_ne C 23 (zo_160 (p := 16) (k := 7) (a := 0) (b := 7) (zby_w zwX4_hourPassesAt_0 16 rfl) (zby_w zwX4_hourPassesAt_0 17 rfl) (zby_w zwX4_hourPassesAt_0 18 rfl) (by decide)) (by decide) (fun hc8 => ?_) (fun hc8 => ?_)
    · skip
      refine zr_iconst C (0 : Int32) d_X4_hourPassesAt_23 (by decide) ?_
      exact hJ5 _ (by rw [if_neg hc3, if_neg hc8])
    · skip
      refine zr_iconst C (1 : Int32) (zo_4 (p := 19) (zby_w zwX4_hourPassesAt_0 19 rfl)) (by decide) ?_
      refine zr_goto C 24 (zo_167 (p := 20) (k := 4) (a := 0) (b := 4) (zby_w zwX4_hourPassesAt_0 20 rfl) (zby_w zwX4_hourPassesAt_0 21 rfl) (zby_w zwX4_hourPassesAt_0 22 rfl) (by decide)) (by decide) ?_
      exact hJ5 _ (by rw [if_neg hc3, if_pos hc8])
set_option maxRecDepth 20000 in
theorem c_X4_hourPassesAt (l : Launch) (g : zG) (p1 : Int32) (σ : zST) (Post : Int32 → Prop) (h : wp_X4_hourPassesAt p1 σ Post) : Met l yX4_hourPassesAt (Cond.code yX4_hourPassesAt cX4_hourPassesAt 2 (some .boolean) :: zGW) (zRm 1 21) (va_Pc [.ref (g.2.1 52), .int p1] (zPP g σ)) (va_Qi (fun r u => Post r ∧ u = σ) (zBB g) (zA g)) 0 0 (zA g) :=
  zMet (by decide) (Nat.le_of_ble_eq_true rfl) (fun p e s m below meth c hr C => g_X4_hourPassesAt C (fun v pc lv hz hp hd => zr_zret C hr hz ⟨hp, rfl⟩ hd) h)
def wp_X4_shipAt (p1 : Int32) (σ : zST) (Post : Int32 → Prop) : Prop := wp_X4_holds p1 σ (fun r1 => (if r1 = (0) then Post (-6 : Int32) else vp_in p1 60 ∧ wp_X8_within (σ.1 53 p1.toNatClampNeg) (65 : Int32) (70 : Int32) σ (fun r5 => (if r5 = (0) then True else vp_in p1 60 ∧ True) ∧ ∀ z8 : Int32, z8 = (if r5 = (0) then (-6 : Int32) else ((σ.1 53 p1.toNatClampNeg) - (65 : Int32))) → Post z8)))
set_option maxRecDepth 100000 in
set_option maxHeartbeats 4000000 in
theorem g_X4_shipAt {p : Program} {l : Launch} {e : Env} {R : Room} {s : State} {m : MethodId} {args : Array Value} {below : List Frame} {meth : Method} {c : Code} {Q : State → Prop} {g : zG} {n1 n2 : Nat} (C : zCX p R s m args meth c g n1 n2 cX4_shipAt 2 RX4 1 22) {p1 : Int32} {σ : zST} {Post : Int32 → Prop} (hret : ∀ (v : Int32) (pc : Nat) (lv : List (Nat × Value)), Post v → decode cX4_shipAt pc = .ok (.ireturn, 1) → zGG p l e R s m args below meth c Q g n1 n2 2 pc lv [.int v] σ) (h : wp_X4_shipAt p1 σ Post) : zGG p l e R s m args below meth c Q g n1 n2 2 0 [(0, .ref (g.2.1 52)), (1, .int p1)] [] σ := by
  unfold wp_X4_shipAt at h
  refine zr_aload_n C (zo_42 (p := 0) (zby_w zwX4_shipAt_0 0 rfl)) rfl ?_
  refine zr_iload_n C (zo_27 (p := 1) (zby_w zwX4_shipAt_0 1 rfl)) rfl ?_
  refine zr_cip (zr_runV (As := [.int p1]) (rest := []) C vw_X4_34 (c_X4_holds l g p1 σ _ h) (sh_52) rfl (by decide) (by decide) rfl rfl (Nat.le_of_ble_eq_true rfl) (zo_182 (p := 2) (k := 34) (a := 0) (b := 34) (zby_w zwX4_shipAt_0 2 rfl) (zby_w zwX4_shipAt_0 3 rfl) (zby_w zwX4_shipAt_0 4 rfl) (by decide))) (fun r1 h => ?_)
  refine zr_if_eq C 36 (zo_153 (p := 5) (k := 31) (a := 0) (b := 31) (zby_w zwX4_shipAt_0 5 rfl) (zby_w zwX4_shipAt_0 6 rfl) (zby_w zwX4_shipAt_0 7 rfl) (by decide)) (by decide) (fun hc3 => ?_) (fun hc3 => ?_)
  · rw [if_pos hc3] at h
    refine zr_bipush C (-6 : Int32) d_X4_shipAt_36 (by decide) ?_
    exact hret _ _ _ h d_X4_shipAt_38
  · rw [if_neg hc3] at h
    refine zr_aload_n C (zo_42 (p := 8) (zby_w zwX4_shipAt_0 8 rfl)) rfl ?_
    refine zr_getr (u := 53) C fw_X4_9 (sh_52) rfl (zo_180 (p := 9) (k := 9) (a := 0) (b := 9) (zby_w zwX4_shipAt_0 9 rfl) (zby_w zwX4_shipAt_0 10 rfl) (zby_w zwX4_shipAt_0 11 rfl) (by decide)) ?_
    refine zr_iload_n C (zo_27 (p := 12) (zby_w zwX4_shipAt_0 12 rfl)) rfl ?_
    obtain ⟨ho4, h⟩ := h
    refine zr_iald C (sh_53) ho4 (zo_46 (p := 13) (zby_w zwX4_shipAt_0 13 rfl)) ?_
    refine zr_bipush C (65 : Int32) (zo_16 (p := 14) (k := 65) (a := 65) (zby_w zwX4_shipAt_0 14 rfl) (zby_w zwX4_shipAt_0 15 rfl) (by decide)) (by decide) ?_
    refine zr_bipush C (70 : Int32) (zo_16 (p := 16) (k := 70) (a := 70) (zby_w zwX4_shipAt_0 16 rfl) (zby_w zwX4_shipAt_0 17 rfl) (by decide)) (by decide) ?_
    refine zr_cip (zr_runN (As := [.int (σ.1 53 p1.toNatClampNeg), .int (65 : Int32), .int (70 : Int32)]) (rest := []) C nw_X4_19 (c_X8_within l g (σ.1 53 p1.toNatClampNeg) (65 : Int32) (70 : Int32) σ _ h) (by decide) (by decide) rfl rfl (Nat.le_of_ble_eq_true rfl) (zo_184 (p := 18) (k := 19) (a := 0) (b := 19) (zby_w zwX4_shipAt_0 18 rfl) (zby_w zwX4_shipAt_0 19 rfl) (zby_w zwX4_shipAt_0 20 rfl) (by decide))) (fun r5 h => ?_)
    obtain ⟨ho10, h⟩ := h
    have hJ9 : ∀ z8 : Int32, z8 = (if r5 = (0) then (-6 : Int32) else ((σ.1 53 p1.toNatClampNeg) - (65 : Int32))) → zGG p l e R s m args below meth c Q g n1 n2 2 38 [(0, .ref (g.2.1 52)), (1, .int p1)] [.int z8] σ := by
      intro z8 hz8
      replace h := h z8 hz8
      exact hret _ _ _ h d_X4_shipAt_38
    refine zr_if_eq C 36 (zo_153 (p := 21) (k := 15) (a := 0) (b := 15) (zby_w zwX4_shipAt_0 21 rfl) (zby_w zwX4_shipAt_0 22 rfl) (zby_w zwX4_shipAt_0 23 rfl) (by decide)) (by decide) (fun hc7 => ?_) (fun hc7 => ?_)
    · skip
      rw [if_pos hc7] at ho10
      refine zr_bipush C (-6 : Int32) d_X4_shipAt_36 (by decide) ?_
      exact hJ9 _ (by rw [if_pos hc7])
    · skip
      rw [if_neg hc7] at ho10
      refine zr_aload_n C (zo_42 (p := 24) (zby_w zwX4_shipAt_0 24 rfl)) rfl ?_
      refine zr_getr (u := 53) C fw_X4_9 (sh_52) rfl (zo_180 (p := 25) (k := 9) (a := 0) (b := 9) (zby_w zwX4_shipAt_0 25 rfl) (zby_w zwX4_shipAt_0 26 rfl) (zby_w zwX4_shipAt_0 27 rfl) (by decide)) ?_
      refine zr_iload_n C (zo_27 (p := 28) (zby_w zwX4_shipAt_0 28 rfl)) rfl ?_
      obtain ⟨ho11, ho10⟩ := ho10
      refine zr_iald C (sh_53) ho11 (zo_46 (p := 29) (zby_w zwX4_shipAt_0 29 rfl)) ?_
      refine zr_bipush C (65 : Int32) (zo_16 (p := 30) (k := 65) (a := 65) (zby_w zwX4_shipAt_0 30 rfl) (zby_w zwX4_shipAt_0 31 rfl) (by decide)) (by decide) ?_
      refine zr_isub C (zo_100 (p := 32) (zby_w zwX4_shipAt_1 0 rfl)) ?_
      refine zr_goto C 38 (zo_167 (p := 33) (k := 5) (a := 0) (b := 5) (zby_w zwX4_shipAt_1 1 rfl) (zby_w zwX4_shipAt_1 2 rfl) (zby_w zwX4_shipAt_1 3 rfl) (by decide)) (by decide) ?_
      exact hJ9 _ (by rw [if_neg hc7])
set_option maxRecDepth 20000 in
theorem c_X4_shipAt (l : Launch) (g : zG) (p1 : Int32) (σ : zST) (Post : Int32 → Prop) (h : wp_X4_shipAt p1 σ Post) : Met l yX4_shipAt (Cond.code yX4_shipAt cX4_shipAt 2 (some .int) :: zGW) (zRm 1 22) (va_Pc [.ref (g.2.1 52), .int p1] (zPP g σ)) (va_Qi (fun r u => Post r ∧ u = σ) (zBB g) (zA g)) 0 0 (zA g) :=
  zMet (by decide) (Nat.le_of_ble_eq_true rfl) (fun p e s m below meth c hr C => g_X4_shipAt C (fun v pc lv hp hd => zr_iret C hr ⟨hp, rfl⟩ hd) h)
def wp_X4_faultAsSeason_J63 (v1 : Int32) (v2 : Int32) (s0 : Int32) (σ : zST) (K4 : Int32 → Int32 → Prop) (Post : Int32 → Prop) : Prop := (if s0 = (0) then Post v2 else (if v1 = (0) then wp_X4_hourPassesAt v2 σ (fun r17 => ∀ z20 : Int32, z20 = (if r17 = (0) then (1 : Int32) else (0 : Int32)) → K4 z20 (v2 + 1)) else K4 (0 : Int32) (v2 + 1)))

set_option maxRecDepth 100000 in
set_option maxHeartbeats 4000000 in
theorem g_X4_faultAsSeason_J63 {p : Program} {l : Launch} {e : Env} {R : Room} {s : State} {m : MethodId} {args : Array Value} {below : List Frame} {meth : Method} {c : Code} {Q : State → Prop} {g : zG} {n1 n2 : Nat} (C : zCX p R s m args meth c g n1 n2 cX4_faultAsSeason 4 RX4 2 43) {v1 : Int32} {v2 : Int32} {s0 : Int32} {σ : zST} {K4 : Int32 → Int32 → Prop} {Post : Int32 → Prop} (hK4 : ∀ (w1 : Int32) (w2 : Int32), K4 w1 w2 → zGG p l e R s m args below meth c Q g n1 n2 4 4 [(0, .ref (g.2.1 52)), (1, .int w1), (2, .int w2)] [] σ) (hret : ∀ (v : Int32) (pc : Nat) (lv : List (Nat × Value)), Post v → decode cX4_faultAsSeason pc = .ok (.ireturn, 1) → zGG p l e R s m args below meth c Q g n1 n2 4 pc lv [.int v] σ) (h : wp_X4_faultAsSeason_J63 v1 v2 s0 σ K4 Post) : zGG p l e R s m args below meth c Q g n1 n2 4 63 [(0, .ref (g.2.1 52)), (1, .int v1), (2, .int v2)] [.int s0] σ := by
  unfold wp_X4_faultAsSeason_J63 at h
  refine zr_istore_n C [(3, .int s0), (0, .ref (g.2.1 52)), (1, .int v1), (2, .int v2)] (zo_62 (p := 63) (zby_w zwX4_faultAsSeason_1 31 rfl)) (by decide) rfl ?_
  refine zr_iload_n C (zo_29 (p := 64) (zby_w zwX4_faultAsSeason_2 0 rfl)) rfl ?_
  refine zr_if_ne C 70 (zo_154 (p := 65) (k := 5) (a := 0) (b := 5) (zby_w zwX4_faultAsSeason_2 1 rfl) (zby_w zwX4_faultAsSeason_2 2 rfl) (zby_w zwX4_faultAsSeason_2 3 rfl) (by decide)) (by decide) (fun hc15 => ?_) (fun hc15 => ?_)
  · rw [if_neg hc15] at h
    refine zr_iload_n C (zo_27 (p := 70) (zby_w zwX4_faultAsSeason_2 6 rfl)) rfl ?_
    refine zr_if_ne C 86 (zo_154 (p := 71) (k := 15) (a := 0) (b := 15) (zby_w zwX4_faultAsSeason_2 7 rfl) (zby_w zwX4_faultAsSeason_2 8 rfl) (zby_w zwX4_faultAsSeason_2 9 rfl) (by decide)) (by decide) (fun hc16 => ?_) (fun hc16 => ?_)
    · rw [if_neg hc16] at h
      refine zr_iconst C (0 : Int32) d_X4_faultAsSeason_86 (by decide) ?_
      refine zr_istore_n C [(1, .int (0 : Int32)), (3, .int s0), (0, .ref (g.2.1 52)), (2, .int v2)] d_X4_faultAsSeason_87 (by decide) rfl ?_
      refine zr_iinc C (v2 + 1) [(2, .int (v2 + 1)), (1, .int (0 : Int32)), (3, .int s0), (0, .ref (g.2.1 52))] d_X4_faultAsSeason_88 rfl rfl (by decide) rfl ?_
      refine zr_goto C 4 d_X4_faultAsSeason_91 (by decide) ?_
      exact zr_pick [3, 1, 0] rfl (hK4 (0 : Int32) (v2 + 1) h)
    · rw [if_pos hc16] at h
      refine zr_aload_n C (zo_42 (p := 74) (zby_w zwX4_faultAsSeason_2 10 rfl)) rfl ?_
      refine zr_iload_n C (zo_28 (p := 75) (zby_w zwX4_faultAsSeason_2 11 rfl)) rfl ?_
      refine zr_cip (zr_runV (As := [.int v2]) (rest := []) C vw_X4_27 (c_X4_hourPassesAt l g v2 σ _ h) (sh_52) rfl (by decide) (by decide) rfl rfl (Nat.le_of_ble_eq_true rfl) (zo_182 (p := 76) (k := 27) (a := 0) (b := 27) (zby_w zwX4_faultAsSeason_2 12 rfl) (zby_w zwX4_faultAsSeason_2 13 rfl) (zby_w zwX4_faultAsSeason_2 14 rfl) (by decide))) (fun r17 h => ?_)
      have hJ21 : ∀ z20 : Int32, z20 = (if r17 = (0) then (1 : Int32) else (0 : Int32)) → zGG p l e R s m args below meth c Q g n1 n2 4 87 [(3, .int s0), (0, .ref (g.2.1 52)), (1, .int v1), (2, .int v2)] [.int z20] σ := by
        intro z20 hz20
        replace h := h z20 hz20
        refine zr_istore_n C [(1, .int z20), (3, .int s0), (0, .ref (g.2.1 52)), (2, .int v2)] d_X4_faultAsSeason_87 (by decide) rfl ?_
        refine zr_iinc C (v2 + 1) [(2, .int (v2 + 1)), (1, .int z20), (3, .int s0), (0, .ref (g.2.1 52))] d_X4_faultAsSeason_88 rfl rfl (by decide) rfl ?_
        refine zr_goto C 4 d_X4_faultAsSeason_91 (by decide) ?_
        exact zr_pick [3, 1, 0] rfl (hK4 z20 (v2 + 1) h)
      refine zr_if_ne C 86 (zo_154 (p := 79) (k := 7) (a := 0) (b := 7) (zby_w zwX4_faultAsSeason_2 15 rfl) (zby_w zwX4_faultAsSeason_2 16 rfl) (zby_w zwX4_faultAsSeason_2 17 rfl) (by decide)) (by decide) (fun hc19 => ?_) (fun hc19 => ?_)
      · skip
        refine zr_iconst C (0 : Int32) d_X4_faultAsSeason_86 (by decide) ?_
        exact hJ21 _ (by rw [if_neg hc19])
      · skip
        refine zr_iconst C (1 : Int32) (zo_4 (p := 82) (zby_w zwX4_faultAsSeason_2 18 rfl)) (by decide) ?_
        refine zr_goto C 87 (zo_167 (p := 83) (k := 4) (a := 0) (b := 4) (zby_w zwX4_faultAsSeason_2 19 rfl) (zby_w zwX4_faultAsSeason_2 20 rfl) (zby_w zwX4_faultAsSeason_2 21 rfl) (by decide)) (by decide) ?_
        exact hJ21 _ (by rw [if_pos hc19])
  · rw [if_pos hc15] at h
    refine zr_iload_n C (zo_28 (p := 68) (zby_w zwX4_faultAsSeason_2 4 rfl)) rfl ?_
    exact hret _ _ _ h (zo_172 (p := 69) (zby_w zwX4_faultAsSeason_2 5 rfl))

def wp_X4_faultAsSeason_L4 (σ : zST) (Post : Int32 → Prop) : Nat → Int32 → Int32 → Prop
  | 0, _, _ => False
  | N + 1, v1, v2 => (if (σ.1 52 1) ≤ v2 then ∀ z3 : Int32, z3 = (if v1 = (0) then (-6 : Int32) else (σ.1 52 1)) → Post z3 else (if (60 : Int32) ≤ v2 then ∀ z8 : Int32, z8 = (if v1 = (0) then (-6 : Int32) else (σ.1 52 1)) → Post z8 else (if v1 = (0) then wp_X4_hourPassesAt v2 σ (fun r12 => (if r12 = (0) then wp_X4_shipAt v2 σ (fun r23 => ∀ z26 : Int32, z26 = (if r23 = (-6 : Int32) then (0 : Int32) else (1 : Int32)) → wp_X4_faultAsSeason_J63 v1 v2 z26 σ (fun v1 v2 => wp_X4_faultAsSeason_L4 σ Post N v1 v2) Post) else wp_X4_faultAsSeason_J63 v1 v2 (1 : Int32) σ (fun v1 v2 => wp_X4_faultAsSeason_L4 σ Post N v1 v2) Post)) else wp_X4_sideAt v2 σ (fun r37 => ∀ z40 : Int32, z40 = (if r37 = (-6 : Int32) then (0 : Int32) else (1 : Int32)) → wp_X4_faultAsSeason_J63 v1 v2 z40 σ (fun v1 v2 => wp_X4_faultAsSeason_L4 σ Post N v1 v2) Post))))

set_option maxRecDepth 100000 in
set_option maxHeartbeats 4000000 in
theorem g_X4_faultAsSeason_L4 {p : Program} {l : Launch} {e : Env} {R : Room} {s : State} {m : MethodId} {args : Array Value} {below : List Frame} {meth : Method} {c : Code} {Q : State → Prop} {g : zG} {n1 n2 : Nat} (C : zCX p R s m args meth c g n1 n2 cX4_faultAsSeason 4 RX4 2 43) {σ : zST}  {Post : Int32 → Prop} (hret : ∀ (v : Int32) (pc : Nat) (lv : List (Nat × Value)), Post v → decode cX4_faultAsSeason pc = .ok (.ireturn, 1) → zGG p l e R s m args below meth c Q g n1 n2 4 pc lv [.int v] σ) : ∀ (N : Nat) (v1 : Int32) (v2 : Int32) , wp_X4_faultAsSeason_L4 σ Post N v1 v2 → zGG p l e R s m args below meth c Q g n1 n2 4 4 [(0, .ref (g.2.1 52)), (1, .int v1), (2, .int v2)] [] σ := by
  intro N
  induction N with
  | zero =>
    intro v1 v2 h
    exact h.elim
  | succ N ih =>
    intro v1 v2 h
    rw [wp_X4_faultAsSeason_L4] at h
    refine zr_iload_n C (zo_28 (p := 4) (zby_w zwX4_faultAsSeason_0 4 rfl)) rfl ?_
    refine zr_aload_n C (zo_42 (p := 5) (zby_w zwX4_faultAsSeason_0 5 rfl)) rfl ?_
    refine zr_geti C fw_X4_15 (sh_52) rfl (zo_180 (p := 6) (k := 15) (a := 0) (b := 15) (zby_w zwX4_faultAsSeason_0 6 rfl) (zby_w zwX4_faultAsSeason_0 7 rfl) (zby_w zwX4_faultAsSeason_0 8 rfl) (by decide)) ?_
    refine zr_icmp_ge C 94 (zo_162 (p := 9) (k := 85) (a := 0) (b := 85) (zby_w zwX4_faultAsSeason_0 9 rfl) (zby_w zwX4_faultAsSeason_0 10 rfl) (zby_w zwX4_faultAsSeason_0 11 rfl) (by decide)) (by decide) (fun hc1 => ?_) (fun hc1 => ?_)
    · rw [if_pos hc1] at h
      refine zr_iload_n C d_X4_faultAsSeason_94 rfl ?_
      have hJ4 : ∀ z3 : Int32, z3 = (if v1 = (0) then (-6 : Int32) else (σ.1 52 1)) → zGG p l e R s m args below meth c Q g n1 n2 4 107 [(0, .ref (g.2.1 52)), (1, .int v1), (2, .int v2)] [.int z3] σ := by
        intro z3 hz3
        replace h := h z3 hz3
        exact hret _ _ _ h d_X4_faultAsSeason_107
      refine zr_if_eq C 105 d_X4_faultAsSeason_95 (by decide) (fun hc2 => ?_) (fun hc2 => ?_)
      · skip
        refine zr_bipush C (-6 : Int32) d_X4_faultAsSeason_105 (by decide) ?_
        exact hJ4 _ (by rw [if_pos hc2])
      · skip
        refine zr_aload_n C d_X4_faultAsSeason_98 rfl ?_
        refine zr_geti C fw_X4_15 (sh_52) rfl d_X4_faultAsSeason_99 ?_
        refine zr_goto C 107 d_X4_faultAsSeason_102 (by decide) ?_
        exact hJ4 _ (by rw [if_neg hc2])
    · rw [if_neg hc1] at h
      refine zr_iload_n C (zo_28 (p := 12) (zby_w zwX4_faultAsSeason_0 12 rfl)) rfl ?_
      refine zr_bipush C (60 : Int32) (zo_16 (p := 13) (k := 60) (a := 60) (zby_w zwX4_faultAsSeason_0 13 rfl) (zby_w zwX4_faultAsSeason_0 14 rfl) (by decide)) (by decide) ?_
      refine zr_icmp_ge C 94 (zo_162 (p := 15) (k := 79) (a := 0) (b := 79) (zby_w zwX4_faultAsSeason_0 15 rfl) (zby_w zwX4_faultAsSeason_0 16 rfl) (zby_w zwX4_faultAsSeason_0 17 rfl) (by decide)) (by decide) (fun hc6 => ?_) (fun hc6 => ?_)
      · rw [if_pos hc6] at h
        refine zr_iload_n C d_X4_faultAsSeason_94 rfl ?_
        have hJ9 : ∀ z8 : Int32, z8 = (if v1 = (0) then (-6 : Int32) else (σ.1 52 1)) → zGG p l e R s m args below meth c Q g n1 n2 4 107 [(0, .ref (g.2.1 52)), (1, .int v1), (2, .int v2)] [.int z8] σ := by
          intro z8 hz8
          replace h := h z8 hz8
          exact hret _ _ _ h d_X4_faultAsSeason_107
        refine zr_if_eq C 105 d_X4_faultAsSeason_95 (by decide) (fun hc7 => ?_) (fun hc7 => ?_)
        · skip
          refine zr_bipush C (-6 : Int32) d_X4_faultAsSeason_105 (by decide) ?_
          exact hJ9 _ (by rw [if_pos hc7])
        · skip
          refine zr_aload_n C d_X4_faultAsSeason_98 rfl ?_
          refine zr_geti C fw_X4_15 (sh_52) rfl d_X4_faultAsSeason_99 ?_
          refine zr_goto C 107 d_X4_faultAsSeason_102 (by decide) ?_
          exact hJ9 _ (by rw [if_neg hc7])
      · rw [if_neg hc6] at h
        refine zr_iload_n C (zo_27 (p := 18) (zby_w zwX4_faultAsSeason_0 18 rfl)) rfl ?_
        refine zr_if_eq C 40 (zo_153 (p := 19) (k := 21) (a := 0) (b := 21) (zby_w zwX4_faultAsSeason_0 19 rfl) (zby_w zwX4_faultAsSeason_0 20 rfl) (zby_w zwX4_faultAsSeason_0 21 rfl) (by decide)) (by decide) (fun hc11 => ?_) (fun hc11 => ?_)
        · rw [if_pos hc11] at h
          refine zr_aload_n C (zo_42 (p := 40) (zby_w zwX4_faultAsSeason_1 8 rfl)) rfl ?_
          refine zr_iload_n C (zo_28 (p := 41) (zby_w zwX4_faultAsSeason_1 9 rfl)) rfl ?_
          refine zr_cip (zr_runV (As := [.int v2]) (rest := []) C vw_X4_27 (c_X4_hourPassesAt l g v2 σ _ h) (sh_52) rfl (by decide) (by decide) rfl rfl (Nat.le_of_ble_eq_true rfl) (zo_182 (p := 42) (k := 27) (a := 0) (b := 27) (zby_w zwX4_faultAsSeason_1 10 rfl) (zby_w zwX4_faultAsSeason_1 11 rfl) (zby_w zwX4_faultAsSeason_1 12 rfl) (by decide))) (fun r12 h => ?_)
          refine zr_if_ne C 58 (zo_154 (p := 45) (k := 13) (a := 0) (b := 13) (zby_w zwX4_faultAsSeason_1 13 rfl) (zby_w zwX4_faultAsSeason_1 14 rfl) (zby_w zwX4_faultAsSeason_1 15 rfl) (by decide)) (by decide) (fun hc14 => ?_) (fun hc14 => ?_)
          · rw [if_neg hc14] at h
            refine zr_iconst C (1 : Int32) d_X4_faultAsSeason_58 (by decide) ?_
            refine zr_goto C 63 d_X4_faultAsSeason_59 (by decide) ?_
            exact zr_pick [0, 1, 2] rfl (g_X4_faultAsSeason_J63 C ih hret h)
          · rw [if_pos hc14] at h
            refine zr_aload_n C (zo_42 (p := 48) (zby_w zwX4_faultAsSeason_1 16 rfl)) rfl ?_
            refine zr_iload_n C (zo_28 (p := 49) (zby_w zwX4_faultAsSeason_1 17 rfl)) rfl ?_
            refine zr_cip (zr_runV (As := [.int v2]) (rest := []) C vw_X4_31 (c_X4_shipAt l g v2 σ _ h) (sh_52) rfl (by decide) (by decide) rfl rfl (Nat.le_of_ble_eq_true rfl) (zo_182 (p := 50) (k := 31) (a := 0) (b := 31) (zby_w zwX4_faultAsSeason_1 18 rfl) (zby_w zwX4_faultAsSeason_1 19 rfl) (zby_w zwX4_faultAsSeason_1 20 rfl) (by decide))) (fun r23 h => ?_)
            refine zr_bipush C (-6 : Int32) (zo_16 (p := 53) (k := (-6)) (a := 250) (zby_w zwX4_faultAsSeason_1 21 rfl) (zby_w zwX4_faultAsSeason_1 22 rfl) (by decide)) (by decide) ?_
            have hJ27 : ∀ z26 : Int32, z26 = (if r23 = (-6 : Int32) then (0 : Int32) else (1 : Int32)) → zGG p l e R s m args below meth c Q g n1 n2 4 63 [(0, .ref (g.2.1 52)), (1, .int v1), (2, .int v2)] [.int z26] σ := by
              intro z26 hz26
              replace h := h z26 hz26
              exact zr_pick [0, 1, 2] rfl (g_X4_faultAsSeason_J63 C ih hret h)
            refine zr_icmp_eq C 62 (zo_159 (p := 55) (k := 7) (a := 0) (b := 7) (zby_w zwX4_faultAsSeason_1 23 rfl) (zby_w zwX4_faultAsSeason_1 24 rfl) (zby_w zwX4_faultAsSeason_1 25 rfl) (by decide)) (by decide) (fun hc25 => ?_) (fun hc25 => ?_)
            · skip
              refine zr_iconst C (0 : Int32) (zo_3 (p := 62) (zby_w zwX4_faultAsSeason_1 30 rfl)) (by decide) ?_
              exact hJ27 _ (by rw [if_pos hc25])
            · skip
              refine zr_iconst C (1 : Int32) d_X4_faultAsSeason_58 (by decide) ?_
              refine zr_goto C 63 d_X4_faultAsSeason_59 (by decide) ?_
              exact hJ27 _ (by rw [if_neg hc25])
        · rw [if_neg hc11] at h
          refine zr_aload_n C (zo_42 (p := 22) (zby_w zwX4_faultAsSeason_0 22 rfl)) rfl ?_
          refine zr_iload_n C (zo_28 (p := 23) (zby_w zwX4_faultAsSeason_0 23 rfl)) rfl ?_
          refine zr_cip (zr_runV (As := [.int v2]) (rest := []) C vw_X4_23 (c_X4_sideAt l g v2 σ _ h) (sh_52) rfl (by decide) (by decide) rfl rfl (Nat.le_of_ble_eq_true rfl) (zo_182 (p := 24) (k := 23) (a := 0) (b := 23) (zby_w zwX4_faultAsSeason_0 24 rfl) (zby_w zwX4_faultAsSeason_0 25 rfl) (zby_w zwX4_faultAsSeason_0 26 rfl) (by decide))) (fun r37 h => ?_)
          refine zr_bipush C (-6 : Int32) (zo_16 (p := 27) (k := (-6)) (a := 250) (zby_w zwX4_faultAsSeason_0 27 rfl) (zby_w zwX4_faultAsSeason_0 28 rfl) (by decide)) (by decide) ?_
          have hJ41 : ∀ z40 : Int32, z40 = (if r37 = (-6 : Int32) then (0 : Int32) else (1 : Int32)) → zGG p l e R s m args below meth c Q g n1 n2 4 63 [(0, .ref (g.2.1 52)), (1, .int v1), (2, .int v2)] [.int z40] σ := by
            intro z40 hz40
            replace h := h z40 hz40
            exact zr_pick [0, 1, 2] rfl (g_X4_faultAsSeason_J63 C ih hret h)
          refine zr_icmp_eq C 36 (zo_159 (p := 29) (k := 7) (a := 0) (b := 7) (zby_w zwX4_faultAsSeason_0 29 rfl) (zby_w zwX4_faultAsSeason_0 30 rfl) (zby_w zwX4_faultAsSeason_0 31 rfl) (by decide)) (by decide) (fun hc39 => ?_) (fun hc39 => ?_)
          · skip
            refine zr_iconst C (0 : Int32) (zo_3 (p := 36) (zby_w zwX4_faultAsSeason_1 4 rfl)) (by decide) ?_
            refine zr_goto C 63 (zo_167 (p := 37) (k := 26) (a := 0) (b := 26) (zby_w zwX4_faultAsSeason_1 5 rfl) (zby_w zwX4_faultAsSeason_1 6 rfl) (zby_w zwX4_faultAsSeason_1 7 rfl) (by decide)) (by decide) ?_
            exact hJ41 _ (by rw [if_pos hc39])
          · skip
            refine zr_iconst C (1 : Int32) (zo_4 (p := 32) (zby_w zwX4_faultAsSeason_1 0 rfl)) (by decide) ?_
            refine zr_goto C 63 (zo_167 (p := 33) (k := 30) (a := 0) (b := 30) (zby_w zwX4_faultAsSeason_1 1 rfl) (zby_w zwX4_faultAsSeason_1 2 rfl) (zby_w zwX4_faultAsSeason_1 3 rfl) (by decide)) (by decide) ?_
            exact hJ41 _ (by rw [if_neg hc39])

def wp_X4_faultAsSeason (σ : zST) (Post : Int32 → Prop) : Prop := ∃ M51 : Nat, wp_X4_faultAsSeason_L4 σ Post M51 (0 : Int32) (0 : Int32)
set_option maxRecDepth 100000 in
set_option maxHeartbeats 4000000 in
theorem g_X4_faultAsSeason {p : Program} {l : Launch} {e : Env} {R : Room} {s : State} {m : MethodId} {args : Array Value} {below : List Frame} {meth : Method} {c : Code} {Q : State → Prop} {g : zG} {n1 n2 : Nat} (C : zCX p R s m args meth c g n1 n2 cX4_faultAsSeason 4 RX4 2 43) {σ : zST} {Post : Int32 → Prop} (hret : ∀ (v : Int32) (pc : Nat) (lv : List (Nat × Value)), Post v → decode cX4_faultAsSeason pc = .ok (.ireturn, 1) → zGG p l e R s m args below meth c Q g n1 n2 4 pc lv [.int v] σ) (h : wp_X4_faultAsSeason σ Post) : zGG p l e R s m args below meth c Q g n1 n2 4 0 [(0, .ref (g.2.1 52))] [] σ := by
  unfold wp_X4_faultAsSeason at h
  refine zr_iconst C (0 : Int32) (zo_3 (p := 0) (zby_w zwX4_faultAsSeason_0 0 rfl)) (by decide) ?_
  refine zr_istore_n C [(1, .int (0 : Int32)), (0, .ref (g.2.1 52))] (zo_60 (p := 1) (zby_w zwX4_faultAsSeason_0 1 rfl)) (by decide) rfl ?_
  refine zr_iconst C (0 : Int32) (zo_3 (p := 2) (zby_w zwX4_faultAsSeason_0 2 rfl)) (by decide) ?_
  refine zr_istore_n C [(2, .int (0 : Int32)), (1, .int (0 : Int32)), (0, .ref (g.2.1 52))] (zo_61 (p := 3) (zby_w zwX4_faultAsSeason_0 3 rfl)) (by decide) rfl ?_
  obtain ⟨M51, h⟩ := h
  exact zr_pick [2, 1, 0] rfl (g_X4_faultAsSeason_L4 C hret M51 (0 : Int32) (0 : Int32) h)
set_option maxRecDepth 20000 in
theorem c_X4_faultAsSeason (l : Launch) (g : zG) (σ : zST) (Post : Int32 → Prop) (h : wp_X4_faultAsSeason σ Post) : Met l yX4_faultAsSeason (Cond.code yX4_faultAsSeason cX4_faultAsSeason 4 (some .int) :: zGW) (zRm 2 43) (va_Pc [.ref (g.2.1 52)] (zPP g σ)) (va_Qi (fun r u => Post r ∧ u = σ) (zBB g) (zA g)) 0 0 (zA g) :=
  zMet (by decide) (Nat.le_of_ble_eq_true rfl) (fun p e s m below meth c hr C => g_X4_faultAsSeason C (fun v pc lv hp hd => zr_iret C hr ⟨hp, rfl⟩ hd) h)
def wp_X6_become (a : Nat) (b : Nat) (σ : zST) (Post : zST → Prop) : Prop := ∀ σ1 : zST, σ1 = (wI σ a 0 (σ.1 b 0)) → ∀ σ2 : zST, σ2 = (wRI σ1 (a + 1) (va_cpy (σ1.1 (b + 1)) (σ1.1 (a + 1)) (0 : Int32).toNatClampNeg (0 : Int32).toNatClampNeg (6 : Int32).toNatClampNeg)) → ∀ σ3 : zST, σ3 = (wRI σ2 (a + 2) (va_cpy (σ2.1 (b + 2)) (σ2.1 (a + 2)) (0 : Int32).toNatClampNeg (0 : Int32).toNatClampNeg (6 : Int32).toNatClampNeg)) → ∀ σ4 : zST, σ4 = (wRI σ3 (a + 3) (va_cpy (σ3.1 (b + 3)) (σ3.1 (a + 3)) (0 : Int32).toNatClampNeg (0 : Int32).toNatClampNeg (6 : Int32).toNatClampNeg)) → ∀ σ5 : zST, σ5 = (wRI σ4 (a + 4) (va_cpy (σ4.1 (b + 4)) (σ4.1 (a + 4)) (0 : Int32).toNatClampNeg (0 : Int32).toNatClampNeg (6 : Int32).toNatClampNeg)) → ∀ σ6 : zST, σ6 = (wRI σ5 (a + 5) (va_cpy (σ5.1 (b + 5)) (σ5.1 (a + 5)) (0 : Int32).toNatClampNeg (0 : Int32).toNatClampNeg (8 : Int32).toNatClampNeg)) → ∀ σ7 : zST, σ7 = (wRI σ6 (a + 6) (va_cpy (σ6.1 (b + 6)) (σ6.1 (a + 6)) (0 : Int32).toNatClampNeg (0 : Int32).toNatClampNeg (24 : Int32).toNatClampNeg)) → ∀ σ8 : zST, σ8 = (wI σ7 a 7 (σ7.1 b 7)) → Post (wRI σ8 (a + 7) (va_cpy (σ8.1 (b + 7)) (σ8.1 (a + 7)) (0 : Int32).toNatClampNeg (0 : Int32).toNatClampNeg (3 : Int32).toNatClampNeg))
set_option maxRecDepth 100000 in
set_option maxHeartbeats 4000000 in
theorem g_X6_become {p : Program} {l : Launch} {e : Env} {R : Room} {s : State} {m : MethodId} {args : Array Value} {below : List Frame} {meth : Method} {c : Code} {Q : State → Prop} {g : zG} {n1 n2 : Nat} (C : zCX p R s m args meth c g n1 n2 cX6_become 2 RX6 1 48) {a : Nat} (ha : isX6 a) {b : Nat} (hb : isX6 b) {σ : zST} {Post : zST → Prop} (hret : ∀ (σ : zST) (pc : Nat) (lv : List (Nat × Value)), Post σ → decode cX6_become pc = .ok (.return_, 1) → zGG p l e R s m args below meth c Q g n1 n2 2 pc lv [] σ) (h : wp_X6_become a b σ Post) : zGG p l e R s m args below meth c Q g n1 n2 2 0 [(0, .ref (g.2.1 a)), (1, .ref (g.2.1 b))] [] σ := by
  unfold wp_X6_become at h
  refine zr_aload_n C (zo_42 (p := 0) (zby_w zwX6_become_0 0 rfl)) rfl ?_
  refine zr_aload_n C (zo_43 (p := 1) (zby_w zwX6_become_0 1 rfl)) rfl ?_
  refine zr_geti C fw_X6_9 (shX6_0 hb) rfl (zo_180 (p := 2) (k := 9) (a := 0) (b := 9) (zby_w zwX6_become_0 2 rfl) (zby_w zwX6_become_0 3 rfl) (zby_w zwX6_become_0 4 rfl) (by decide)) ?_
  refine zr_puti C fw_X6_9 pw_X6_0 (shX6_0 ha) rfl rfl rfl (zo_181 (p := 5) (k := 9) (a := 0) (b := 9) (zby_w zwX6_become_0 5 rfl) (zby_w zwX6_become_0 6 rfl) (zby_w zwX6_become_0 7 rfl) (by decide)) ?_
  refine zr_aload_n C (zo_43 (p := 8) (zby_w zwX6_become_0 8 rfl)) rfl ?_
  refine zr_getr (u := (b + 1)) C fw_X6_15 (shX6_0 hb) rfl (zo_180 (p := 9) (k := 15) (a := 0) (b := 15) (zby_w zwX6_become_0 9 rfl) (zby_w zwX6_become_0 10 rfl) (zby_w zwX6_become_0 11 rfl) (by decide)) ?_
  refine zr_iconst C (0 : Int32) (zo_3 (p := 12) (zby_w zwX6_become_0 12 rfl)) (by decide) ?_
  refine zr_aload_n C (zo_42 (p := 13) (zby_w zwX6_become_0 13 rfl)) rfl ?_
  refine zr_getr (u := (a + 1)) C fw_X6_15 (shX6_0 ha) rfl (zo_180 (p := 14) (k := 15) (a := 0) (b := 15) (zby_w zwX6_become_0 14 rfl) (zby_w zwX6_become_0 15 rfl) (zby_w zwX6_become_0 16 rfl) (by decide)) ?_
  refine zr_iconst C (0 : Int32) (zo_3 (p := 17) (zby_w zwX6_become_0 17 rfl)) (by decide) ?_
  refine zr_bipush C (6 : Int32) (zo_16 (p := 18) (k := 6) (a := 6) (zby_w zwX6_become_0 18 rfl) (zby_w zwX6_become_0 19 rfl) (by decide)) (by decide) ?_
  refine zr_tops (fun σ1 hσ1 => ?_)
  replace h := h σ1 hσ1
  refine zr_copyi C aw_X6_48 ((shX6_1 hb)) ((shX6_1 ha)) (by unfold zCp; decide) (by decide) (Nat.le_of_ble_eq_true rfl) (zo_184 (p := 20) (k := 48) (a := 0) (b := 48) (zby_w zwX6_become_0 20 rfl) (zby_w zwX6_become_0 21 rfl) (zby_w zwX6_become_0 22 rfl) (by decide)) ?_
  refine zr_aload_n C (zo_43 (p := 23) (zby_w zwX6_become_0 23 rfl)) rfl ?_
  refine zr_getr (u := (b + 2)) C fw_X6_19 (shX6_0 hb) rfl (zo_180 (p := 24) (k := 19) (a := 0) (b := 19) (zby_w zwX6_become_0 24 rfl) (zby_w zwX6_become_0 25 rfl) (zby_w zwX6_become_0 26 rfl) (by decide)) ?_
  refine zr_iconst C (0 : Int32) (zo_3 (p := 27) (zby_w zwX6_become_0 27 rfl)) (by decide) ?_
  refine zr_aload_n C (zo_42 (p := 28) (zby_w zwX6_become_0 28 rfl)) rfl ?_
  refine zr_getr (u := (a + 2)) C fw_X6_19 (shX6_0 ha) rfl (zo_180 (p := 29) (k := 19) (a := 0) (b := 19) (zby_w zwX6_become_0 29 rfl) (zby_w zwX6_become_0 30 rfl) (zby_w zwX6_become_0 31 rfl) (by decide)) ?_
  refine zr_iconst C (0 : Int32) (zo_3 (p := 32) (zby_w zwX6_become_1 0 rfl)) (by decide) ?_
  refine zr_bipush C (6 : Int32) (zo_16 (p := 33) (k := 6) (a := 6) (zby_w zwX6_become_1 1 rfl) (zby_w zwX6_become_1 2 rfl) (by decide)) (by decide) ?_
  refine zr_tops (fun σ2 hσ2 => ?_)
  replace h := h σ2 hσ2
  refine zr_copyi C aw_X6_48 ((shX6_2 hb)) ((shX6_2 ha)) (by unfold zCp; decide) (by decide) (Nat.le_of_ble_eq_true rfl) (zo_184 (p := 35) (k := 48) (a := 0) (b := 48) (zby_w zwX6_become_1 3 rfl) (zby_w zwX6_become_1 4 rfl) (zby_w zwX6_become_1 5 rfl) (by decide)) ?_
  refine zr_aload_n C (zo_43 (p := 38) (zby_w zwX6_become_1 6 rfl)) rfl ?_
  refine zr_getr (u := (b + 3)) C fw_X6_22 (shX6_0 hb) rfl (zo_180 (p := 39) (k := 22) (a := 0) (b := 22) (zby_w zwX6_become_1 7 rfl) (zby_w zwX6_become_1 8 rfl) (zby_w zwX6_become_1 9 rfl) (by decide)) ?_
  refine zr_iconst C (0 : Int32) (zo_3 (p := 42) (zby_w zwX6_become_1 10 rfl)) (by decide) ?_
  refine zr_aload_n C (zo_42 (p := 43) (zby_w zwX6_become_1 11 rfl)) rfl ?_
  refine zr_getr (u := (a + 3)) C fw_X6_22 (shX6_0 ha) rfl (zo_180 (p := 44) (k := 22) (a := 0) (b := 22) (zby_w zwX6_become_1 12 rfl) (zby_w zwX6_become_1 13 rfl) (zby_w zwX6_become_1 14 rfl) (by decide)) ?_
  refine zr_iconst C (0 : Int32) (zo_3 (p := 47) (zby_w zwX6_become_1 15 rfl)) (by decide) ?_
  refine zr_bipush C (6 : Int32) (zo_16 (p := 48) (k := 6) (a := 6) (zby_w zwX6_become_1 16 rfl) (zby_w zwX6_become_1 17 rfl) (by decide)) (by decide) ?_
  refine zr_tops (fun σ3 hσ3 => ?_)
  replace h := h σ3 hσ3
  refine zr_copyi C aw_X6_48 ((shX6_3 hb)) ((shX6_3 ha)) (by unfold zCp; decide) (by decide) (Nat.le_of_ble_eq_true rfl) (zo_184 (p := 50) (k := 48) (a := 0) (b := 48) (zby_w zwX6_become_1 18 rfl) (zby_w zwX6_become_1 19 rfl) (zby_w zwX6_become_1 20 rfl) (by decide)) ?_
  refine zr_aload_n C (zo_43 (p := 53) (zby_w zwX6_become_1 21 rfl)) rfl ?_
  refine zr_getr (u := (b + 4)) C fw_X6_25 (shX6_0 hb) rfl (zo_180 (p := 54) (k := 25) (a := 0) (b := 25) (zby_w zwX6_become_1 22 rfl) (zby_w zwX6_become_1 23 rfl) (zby_w zwX6_become_1 24 rfl) (by decide)) ?_
  refine zr_iconst C (0 : Int32) (zo_3 (p := 57) (zby_w zwX6_become_1 25 rfl)) (by decide) ?_
  refine zr_aload_n C (zo_42 (p := 58) (zby_w zwX6_become_1 26 rfl)) rfl ?_
  refine zr_getr (u := (a + 4)) C fw_X6_25 (shX6_0 ha) rfl (zo_180 (p := 59) (k := 25) (a := 0) (b := 25) (zby_w zwX6_become_1 27 rfl) (zby_w zwX6_become_1 28 rfl) (zby_w zwX6_become_1 29 rfl) (by decide)) ?_
  refine zr_iconst C (0 : Int32) (zo_3 (p := 62) (zby_w zwX6_become_1 30 rfl)) (by decide) ?_
  refine zr_bipush C (6 : Int32) (zo_16 (p := 63) (k := 6) (a := 6) (zby_w zwX6_become_1 31 rfl) (zby_w zwX6_become_1 32 rfl) (by decide)) (by decide) ?_
  refine zr_tops (fun σ4 hσ4 => ?_)
  replace h := h σ4 hσ4
  refine zr_copyi C aw_X6_48 ((shX6_4 hb)) ((shX6_4 ha)) (by unfold zCp; decide) (by decide) (Nat.le_of_ble_eq_true rfl) (zo_184 (p := 65) (k := 48) (a := 0) (b := 48) (zby_w zwX6_become_2 1 rfl) (zby_w zwX6_become_2 2 rfl) (zby_w zwX6_become_2 3 rfl) (by decide)) ?_
  refine zr_aload_n C (zo_43 (p := 68) (zby_w zwX6_become_2 4 rfl)) rfl ?_
  refine zr_getr (u := (b + 5)) C fw_X6_36 (shX6_0 hb) rfl (zo_180 (p := 69) (k := 36) (a := 0) (b := 36) (zby_w zwX6_become_2 5 rfl) (zby_w zwX6_become_2 6 rfl) (zby_w zwX6_become_2 7 rfl) (by decide)) ?_
  refine zr_iconst C (0 : Int32) (zo_3 (p := 72) (zby_w zwX6_become_2 8 rfl)) (by decide) ?_
  refine zr_aload_n C (zo_42 (p := 73) (zby_w zwX6_become_2 9 rfl)) rfl ?_
  refine zr_getr (u := (a + 5)) C fw_X6_36 (shX6_0 ha) rfl (zo_180 (p := 74) (k := 36) (a := 0) (b := 36) (zby_w zwX6_become_2 10 rfl) (zby_w zwX6_become_2 11 rfl) (zby_w zwX6_become_2 12 rfl) (by decide)) ?_
  refine zr_iconst C (0 : Int32) (zo_3 (p := 77) (zby_w zwX6_become_2 13 rfl)) (by decide) ?_
  refine zr_bipush C (8 : Int32) (zo_16 (p := 78) (k := 8) (a := 8) (zby_w zwX6_become_2 14 rfl) (zby_w zwX6_become_2 15 rfl) (by decide)) (by decide) ?_
  refine zr_tops (fun σ5 hσ5 => ?_)
  replace h := h σ5 hσ5
  refine zr_copyi C aw_X6_48 ((shX6_5 hb)) ((shX6_5 ha)) (by unfold zCp; decide) (by decide) (Nat.le_of_ble_eq_true rfl) (zo_184 (p := 80) (k := 48) (a := 0) (b := 48) (zby_w zwX6_become_2 16 rfl) (zby_w zwX6_become_2 17 rfl) (zby_w zwX6_become_2 18 rfl) (by decide)) ?_
  refine zr_aload_n C (zo_43 (p := 83) (zby_w zwX6_become_2 19 rfl)) rfl ?_
  refine zr_getr (u := (b + 6)) C fw_X6_39 (shX6_0 hb) rfl (zo_180 (p := 84) (k := 39) (a := 0) (b := 39) (zby_w zwX6_become_2 20 rfl) (zby_w zwX6_become_2 21 rfl) (zby_w zwX6_become_2 22 rfl) (by decide)) ?_
  refine zr_iconst C (0 : Int32) (zo_3 (p := 87) (zby_w zwX6_become_2 23 rfl)) (by decide) ?_
  refine zr_aload_n C (zo_42 (p := 88) (zby_w zwX6_become_2 24 rfl)) rfl ?_
  refine zr_getr (u := (a + 6)) C fw_X6_39 (shX6_0 ha) rfl (zo_180 (p := 89) (k := 39) (a := 0) (b := 39) (zby_w zwX6_become_2 25 rfl) (zby_w zwX6_become_2 26 rfl) (zby_w zwX6_become_2 27 rfl) (by decide)) ?_
  refine zr_iconst C (0 : Int32) (zo_3 (p := 92) (zby_w zwX6_become_2 28 rfl)) (by decide) ?_
  refine zr_bipush C (24 : Int32) (zo_16 (p := 93) (k := 24) (a := 24) (zby_w zwX6_become_2 29 rfl) (zby_w zwX6_become_2 30 rfl) (by decide)) (by decide) ?_
  refine zr_tops (fun σ6 hσ6 => ?_)
  replace h := h σ6 hσ6
  refine zr_copyi C aw_X6_48 ((shX6_6 hb)) ((shX6_6 ha)) (by unfold zCp; decide) (by decide) (Nat.le_of_ble_eq_true rfl) (zo_184 (p := 95) (k := 48) (a := 0) (b := 48) (zby_w zwX6_become_2 31 rfl) (zby_w zwX6_become_2 32 rfl) (zby_w zwX6_become_2 33 rfl) (by decide)) ?_
  refine zr_aload_n C (zo_42 (p := 98) (zby_w zwX6_become_3 2 rfl)) rfl ?_
  refine zr_aload_n C (zo_43 (p := 99) (zby_w zwX6_become_3 3 rfl)) rfl ?_
  refine zr_tops (fun σ7 hσ7 => ?_)
  replace h := h σ7 hσ7
  refine zr_geti C fw_X6_42 (shX6_0 hb) rfl (zo_180 (p := 100) (k := 42) (a := 0) (b := 42) (zby_w zwX6_become_3 4 rfl) (zby_w zwX6_become_3 5 rfl) (zby_w zwX6_become_3 6 rfl) (by decide)) ?_
  refine zr_puti C fw_X6_42 pw_X6_7 (shX6_0 ha) rfl rfl rfl (zo_181 (p := 103) (k := 42) (a := 0) (b := 42) (zby_w zwX6_become_3 7 rfl) (zby_w zwX6_become_3 8 rfl) (zby_w zwX6_become_3 9 rfl) (by decide)) ?_
  refine zr_aload_n C (zo_43 (p := 106) (zby_w zwX6_become_3 10 rfl)) rfl ?_
  refine zr_getr (u := (b + 7)) C fw_X6_45 (shX6_0 hb) rfl (zo_180 (p := 107) (k := 45) (a := 0) (b := 45) (zby_w zwX6_become_3 11 rfl) (zby_w zwX6_become_3 12 rfl) (zby_w zwX6_become_3 13 rfl) (by decide)) ?_
  refine zr_iconst C (0 : Int32) (zo_3 (p := 110) (zby_w zwX6_become_3 14 rfl)) (by decide) ?_
  refine zr_aload_n C (zo_42 (p := 111) (zby_w zwX6_become_3 15 rfl)) rfl ?_
  refine zr_getr (u := (a + 7)) C fw_X6_45 (shX6_0 ha) rfl (zo_180 (p := 112) (k := 45) (a := 0) (b := 45) (zby_w zwX6_become_3 16 rfl) (zby_w zwX6_become_3 17 rfl) (zby_w zwX6_become_3 18 rfl) (by decide)) ?_
  refine zr_iconst C (0 : Int32) (zo_3 (p := 115) (zby_w zwX6_become_3 19 rfl)) (by decide) ?_
  refine zr_iconst C (3 : Int32) (zo_6 (p := 116) (zby_w zwX6_become_3 20 rfl)) (by decide) ?_
  refine zr_tops (fun σ8 hσ8 => ?_)
  replace h := h σ8 hσ8
  refine zr_copyi C aw_X6_48 ((shX6_7 hb)) ((shX6_7 ha)) (by unfold zCp; decide) (by decide) (Nat.le_of_ble_eq_true rfl) (zo_184 (p := 117) (k := 48) (a := 0) (b := 48) (zby_w zwX6_become_3 21 rfl) (zby_w zwX6_become_3 22 rfl) (zby_w zwX6_become_3 23 rfl) (by decide)) ?_
  exact hret _ _ _ h (zo_177 (p := 120) (zby_w zwX6_become_3 24 rfl))
set_option maxRecDepth 20000 in
theorem c_X6_become (l : Launch) (g : zG) (a : Nat) (ha : isX6 a) (b : Nat) (hb : isX6 b) (σ : zST) (Post : zST → Prop) (h : wp_X6_become a b σ Post) : Met l yX6_become (Cond.code yX6_become cX6_become 2 none :: zGW) (zRm 1 48) (va_Pc [.ref (g.2.1 a), .ref (g.2.1 b)] (zPP g σ)) (va_Qv Post (zBB g) (zA g)) 0 0 (zA g) :=
  zMet (by decide) (Nat.le_of_ble_eq_true rfl) (fun p e s m below meth c hr C => g_X6_become C ha hb (fun σ pc lv hp hd => zr_vret C hr hp hd) h)
def wp_X6_has (a : Nat) (p1 : Int32) (σ : zST) (Post : Int32 → Prop) : Prop := wp_X8_within p1 (0 : Int32) (5 : Int32) σ (fun r1 => ∀ z4 : Int32, z4 = (if r1 = (0) then (0 : Int32) else (if (((σ.1 a 0) >>> (p1 &&& 31)) &&& (1 : Int32)) = (1 : Int32) then (1 : Int32) else (0 : Int32))) → zB z4 ∧ Post z4)
set_option maxRecDepth 100000 in
set_option maxHeartbeats 4000000 in
theorem g_X6_has {p : Program} {l : Launch} {e : Env} {R : Room} {s : State} {m : MethodId} {args : Array Value} {below : List Frame} {meth : Method} {c : Code} {Q : State → Prop} {g : zG} {n1 n2 : Nat} (C : zCX p R s m args meth c g n1 n2 cX6_has 2 RX6 1 22) {a : Nat} (ha : isX6 a) {p1 : Int32} {σ : zST} {Post : Int32 → Prop} (hret : ∀ (v : Int32) (pc : Nat) (lv : List (Nat × Value)), zB v → Post v → decode cX6_has pc = .ok (.ireturn, 1) → zGG p l e R s m args below meth c Q g n1 n2 2 pc lv [.int v] σ) (h : wp_X6_has a p1 σ Post) : zGG p l e R s m args below meth c Q g n1 n2 2 0 [(0, .ref (g.2.1 a)), (1, .int p1)] [] σ := by
  unfold wp_X6_has at h
  refine zr_iload_n C (zo_27 (p := 0) (zby_w zwX6_has_0 0 rfl)) rfl ?_
  refine zr_iconst C (0 : Int32) (zo_3 (p := 1) (zby_w zwX6_has_0 1 rfl)) (by decide) ?_
  refine zr_iconst C (5 : Int32) (zo_8 (p := 2) (zby_w zwX6_has_0 2 rfl)) (by decide) ?_
  refine zr_cip (zr_runN (As := [.int p1, .int (0 : Int32), .int (5 : Int32)]) (rest := []) C nw_X6_54 (c_X8_within l g p1 (0 : Int32) (5 : Int32) σ _ h) (by decide) (by decide) rfl rfl (Nat.le_of_ble_eq_true rfl) (zo_184 (p := 3) (k := 54) (a := 0) (b := 54) (zby_w zwX6_has_0 3 rfl) (zby_w zwX6_has_0 4 rfl) (zby_w zwX6_has_0 5 rfl) (by decide))) (fun r1 h => ?_)
  have hJ5 : ∀ z4 : Int32, z4 = (if r1 = (0) then (0 : Int32) else (if (((σ.1 a 0) >>> (p1 &&& 31)) &&& (1 : Int32)) = (1 : Int32) then (1 : Int32) else (0 : Int32))) → zGG p l e R s m args below meth c Q g n1 n2 2 26 [(0, .ref (g.2.1 a)), (1, .int p1)] [.int z4] σ := by
    intro z4 hz4
    replace h := h z4 hz4
    exact hret _ _ _ h.1 h.2 (zo_172 (p := 26) (zby_w zwX6_has_0 26 rfl))
  refine zr_if_eq C 25 (zo_153 (p := 6) (k := 19) (a := 0) (b := 19) (zby_w zwX6_has_0 6 rfl) (zby_w zwX6_has_0 7 rfl) (zby_w zwX6_has_0 8 rfl) (by decide)) (by decide) (fun hc3 => ?_) (fun hc3 => ?_)
  · skip
    refine zr_iconst C (0 : Int32) d_X6_has_25 (by decide) ?_
    exact hJ5 _ (by rw [if_pos hc3])
  · skip
    refine zr_aload_n C (zo_42 (p := 9) (zby_w zwX6_has_0 9 rfl)) rfl ?_
    refine zr_geti C fw_X6_9 (shX6_0 ha) rfl (zo_180 (p := 10) (k := 9) (a := 0) (b := 9) (zby_w zwX6_has_0 10 rfl) (zby_w zwX6_has_0 11 rfl) (zby_w zwX6_has_0 12 rfl) (by decide)) ?_
    refine zr_iload_n C (zo_27 (p := 13) (zby_w zwX6_has_0 13 rfl)) rfl ?_
    refine zr_ishr C (zo_122 (p := 14) (zby_w zwX6_has_0 14 rfl)) ?_
    refine zr_iconst C (1 : Int32) (zo_4 (p := 15) (zby_w zwX6_has_0 15 rfl)) (by decide) ?_
    refine zr_iand C (zo_126 (p := 16) (zby_w zwX6_has_0 16 rfl)) ?_
    refine zr_iconst C (1 : Int32) (zo_4 (p := 17) (zby_w zwX6_has_0 17 rfl)) (by decide) ?_
    refine zr_icmp_ne C 25 (zo_160 (p := 18) (k := 7) (a := 0) (b := 7) (zby_w zwX6_has_0 18 rfl) (zby_w zwX6_has_0 19 rfl) (zby_w zwX6_has_0 20 rfl) (by decide)) (by decide) (fun hc7 => ?_) (fun hc7 => ?_)
    · skip
      refine zr_iconst C (0 : Int32) d_X6_has_25 (by decide) ?_
      exact hJ5 _ (by rw [if_neg hc3, if_neg hc7])
    · skip
      refine zr_iconst C (1 : Int32) (zo_4 (p := 21) (zby_w zwX6_has_0 21 rfl)) (by decide) ?_
      refine zr_goto C 26 (zo_167 (p := 22) (k := 4) (a := 0) (b := 4) (zby_w zwX6_has_0 22 rfl) (zby_w zwX6_has_0 23 rfl) (zby_w zwX6_has_0 24 rfl) (by decide)) (by decide) ?_
      exact hJ5 _ (by rw [if_neg hc3, if_pos hc7])
set_option maxRecDepth 20000 in
theorem c_X6_has (l : Launch) (g : zG) (a : Nat) (ha : isX6 a) (p1 : Int32) (σ : zST) (Post : Int32 → Prop) (h : wp_X6_has a p1 σ Post) : Met l yX6_has (Cond.code yX6_has cX6_has 2 (some .boolean) :: zGW) (zRm 1 22) (va_Pc [.ref (g.2.1 a), .int p1] (zPP g σ)) (va_Qi (fun r u => Post r ∧ u = σ) (zBB g) (zA g)) 0 0 (zA g) :=
  zMet (by decide) (Nat.le_of_ble_eq_true rfl) (fun p e s m below meth c hr C => g_X6_has C ha (fun v pc lv hz hp hd => zr_zret C hr hz ⟨hp, rfl⟩ hd) h)
def wp_X6_moored (a : Nat) (p1 : Int32) (σ : zST) (Post : Int32 → Prop) : Prop := wp_X6_has a p1 σ (fun r1 => (if r1 = (0) then True else vp_in p1 6 ∧ True) ∧ ∀ z4 : Int32, z4 = (if r1 = (0) then (0 : Int32) else (if (σ.1 (a + 1) p1.toNatClampNeg) = (0) then (1 : Int32) else (0 : Int32))) → zB z4 ∧ Post z4)
set_option maxRecDepth 100000 in
set_option maxHeartbeats 4000000 in
theorem g_X6_moored {p : Program} {l : Launch} {e : Env} {R : Room} {s : State} {m : MethodId} {args : Array Value} {below : List Frame} {meth : Method} {c : Code} {Q : State → Prop} {g : zG} {n1 n2 : Nat} (C : zCX p R s m args meth c g n1 n2 cX6_moored 2 RX6 2 43) {a : Nat} (ha : isX6 a) {p1 : Int32} {σ : zST} {Post : Int32 → Prop} (hret : ∀ (v : Int32) (pc : Nat) (lv : List (Nat × Value)), zB v → Post v → decode cX6_moored pc = .ok (.ireturn, 1) → zGG p l e R s m args below meth c Q g n1 n2 2 pc lv [.int v] σ) (h : wp_X6_moored a p1 σ Post) : zGG p l e R s m args below meth c Q g n1 n2 2 0 [(0, .ref (g.2.1 a)), (1, .int p1)] [] σ := by
  unfold wp_X6_moored at h
  refine zr_aload_n C (zo_42 (p := 0) (zby_w zwX6_moored_0 0 rfl)) rfl ?_
  refine zr_iload_n C (zo_27 (p := 1) (zby_w zwX6_moored_0 1 rfl)) rfl ?_
  refine zr_cip (zr_runV (As := [.int p1]) (rest := []) C vw_X6_58 (c_X6_has l g a ha p1 σ _ h) (shX6_0 ha) rfl (by decide) (by decide) rfl rfl (Nat.le_of_ble_eq_true rfl) (zo_182 (p := 2) (k := 58) (a := 0) (b := 58) (zby_w zwX6_moored_0 2 rfl) (zby_w zwX6_moored_0 3 rfl) (zby_w zwX6_moored_0 4 rfl) (by decide))) (fun r1 h => ?_)
  obtain ⟨ho6, h⟩ := h
  have hJ5 : ∀ z4 : Int32, z4 = (if r1 = (0) then (0 : Int32) else (if (σ.1 (a + 1) p1.toNatClampNeg) = (0) then (1 : Int32) else (0 : Int32))) → zGG p l e R s m args below meth c Q g n1 n2 2 22 [(0, .ref (g.2.1 a)), (1, .int p1)] [.int z4] σ := by
    intro z4 hz4
    replace h := h z4 hz4
    exact hret _ _ _ h.1 h.2 (zo_172 (p := 22) (zby_w zwX6_moored_0 22 rfl))
  refine zr_if_eq C 21 (zo_153 (p := 5) (k := 16) (a := 0) (b := 16) (zby_w zwX6_moored_0 5 rfl) (zby_w zwX6_moored_0 6 rfl) (zby_w zwX6_moored_0 7 rfl) (by decide)) (by decide) (fun hc3 => ?_) (fun hc3 => ?_)
  · skip
    rw [if_pos hc3] at ho6
    refine zr_iconst C (0 : Int32) d_X6_moored_21 (by decide) ?_
    exact hJ5 _ (by rw [if_pos hc3])
  · skip
    rw [if_neg hc3] at ho6
    refine zr_aload_n C (zo_42 (p := 8) (zby_w zwX6_moored_0 8 rfl)) rfl ?_
    refine zr_getr (u := (a + 1)) C fw_X6_15 (shX6_0 ha) rfl (zo_180 (p := 9) (k := 15) (a := 0) (b := 15) (zby_w zwX6_moored_0 9 rfl) (zby_w zwX6_moored_0 10 rfl) (zby_w zwX6_moored_0 11 rfl) (by decide)) ?_
    refine zr_iload_n C (zo_27 (p := 12) (zby_w zwX6_moored_0 12 rfl)) rfl ?_
    obtain ⟨ho7, ho6⟩ := ho6
    refine zr_iald C ((shX6_1 ha)) ho7 (zo_46 (p := 13) (zby_w zwX6_moored_0 13 rfl)) ?_
    refine zr_if_ne C 21 (zo_154 (p := 14) (k := 7) (a := 0) (b := 7) (zby_w zwX6_moored_0 14 rfl) (zby_w zwX6_moored_0 15 rfl) (zby_w zwX6_moored_0 16 rfl) (by decide)) (by decide) (fun hc8 => ?_) (fun hc8 => ?_)
    · skip
      refine zr_iconst C (0 : Int32) d_X6_moored_21 (by decide) ?_
      exact hJ5 _ (by rw [if_neg hc3, if_neg hc8])
    · skip
      refine zr_iconst C (1 : Int32) (zo_4 (p := 17) (zby_w zwX6_moored_0 17 rfl)) (by decide) ?_
      refine zr_goto C 22 (zo_167 (p := 18) (k := 4) (a := 0) (b := 4) (zby_w zwX6_moored_0 18 rfl) (zby_w zwX6_moored_0 19 rfl) (zby_w zwX6_moored_0 20 rfl) (by decide)) (by decide) ?_
      exact hJ5 _ (by rw [if_neg hc3, if_pos hc8])
set_option maxRecDepth 20000 in
theorem c_X6_moored (l : Launch) (g : zG) (a : Nat) (ha : isX6 a) (p1 : Int32) (σ : zST) (Post : Int32 → Prop) (h : wp_X6_moored a p1 σ Post) : Met l yX6_moored (Cond.code yX6_moored cX6_moored 2 (some .boolean) :: zGW) (zRm 2 43) (va_Pc [.ref (g.2.1 a), .int p1] (zPP g σ)) (va_Qi (fun r u => Post r ∧ u = σ) (zBB g) (zA g)) 0 0 (zA g) :=
  zMet (by decide) (Nat.le_of_ble_eq_true rfl) (fun p e s m below meth c hr C => g_X6_moored C ha (fun v pc lv hz hp hd => zr_zret C hr hz ⟨hp, rfl⟩ hd) h)
def wp_X6_whyNot (a : Nat) (p1 : Int32) (σ : zST) (Post : Int32 → Prop) : Prop := wp_X6_has a p1 σ (fun r1 => (if r1 = (0) then Post (1 : Int32) else wp_X6_moored a p1 σ (fun r4 => ∀ z7 : Int32, z7 = (if r4 = (0) then (2 : Int32) else (-6 : Int32)) → Post z7)))
set_option maxRecDepth 100000 in
set_option maxHeartbeats 4000000 in
theorem g_X6_whyNot {p : Program} {l : Launch} {e : Env} {R : Room} {s : State} {m : MethodId} {args : Array Value} {below : List Frame} {meth : Method} {c : Code} {Q : State → Prop} {g : zG} {n1 n2 : Nat} (C : zCX p R s m args meth c g n1 n2 cX6_whyNot 2 RX6 3 64) {a : Nat} (ha : isX6 a) {p1 : Int32} {σ : zST} {Post : Int32 → Prop} (hret : ∀ (v : Int32) (pc : Nat) (lv : List (Nat × Value)), Post v → decode cX6_whyNot pc = .ok (.ireturn, 1) → zGG p l e R s m args below meth c Q g n1 n2 2 pc lv [.int v] σ) (h : wp_X6_whyNot a p1 σ Post) : zGG p l e R s m args below meth c Q g n1 n2 2 0 [(0, .ref (g.2.1 a)), (1, .int p1)] [] σ := by
  unfold wp_X6_whyNot at h
  refine zr_aload_n C (zo_42 (p := 0) (zby_w zwX6_whyNot_0 0 rfl)) rfl ?_
  refine zr_iload_n C (zo_27 (p := 1) (zby_w zwX6_whyNot_0 1 rfl)) rfl ?_
  refine zr_cip (zr_runV (As := [.int p1]) (rest := []) C vw_X6_58 (c_X6_has l g a ha p1 σ _ h) (shX6_0 ha) rfl (by decide) (by decide) rfl rfl (Nat.le_of_ble_eq_true rfl) (zo_182 (p := 2) (k := 58) (a := 0) (b := 58) (zby_w zwX6_whyNot_0 2 rfl) (zby_w zwX6_whyNot_0 3 rfl) (zby_w zwX6_whyNot_0 4 rfl) (by decide))) (fun r1 h => ?_)
  refine zr_if_ne C 10 (zo_154 (p := 5) (k := 5) (a := 0) (b := 5) (zby_w zwX6_whyNot_0 5 rfl) (zby_w zwX6_whyNot_0 6 rfl) (zby_w zwX6_whyNot_0 7 rfl) (by decide)) (by decide) (fun hc3 => ?_) (fun hc3 => ?_)
  · rw [if_neg hc3] at h
    refine zr_aload_n C (zo_42 (p := 10) (zby_w zwX6_whyNot_0 10 rfl)) rfl ?_
    refine zr_iload_n C (zo_27 (p := 11) (zby_w zwX6_whyNot_0 11 rfl)) rfl ?_
    refine zr_cip (zr_runV (As := [.int p1]) (rest := []) C vw_X6_62 (c_X6_moored l g a ha p1 σ _ h) (shX6_0 ha) rfl (by decide) (by decide) rfl rfl (Nat.le_of_ble_eq_true rfl) (zo_182 (p := 12) (k := 62) (a := 0) (b := 62) (zby_w zwX6_whyNot_0 12 rfl) (zby_w zwX6_whyNot_0 13 rfl) (zby_w zwX6_whyNot_0 14 rfl) (by decide))) (fun r4 h => ?_)
    have hJ8 : ∀ z7 : Int32, z7 = (if r4 = (0) then (2 : Int32) else (-6 : Int32)) → zGG p l e R s m args below meth c Q g n1 n2 2 24 [(0, .ref (g.2.1 a)), (1, .int p1)] [.int z7] σ := by
      intro z7 hz7
      replace h := h z7 hz7
      exact hret _ _ _ h (zo_172 (p := 24) (zby_w zwX6_whyNot_0 24 rfl))
    refine zr_if_eq C 23 (zo_153 (p := 15) (k := 8) (a := 0) (b := 8) (zby_w zwX6_whyNot_0 15 rfl) (zby_w zwX6_whyNot_0 16 rfl) (zby_w zwX6_whyNot_0 17 rfl) (by decide)) (by decide) (fun hc6 => ?_) (fun hc6 => ?_)
    · skip
      refine zr_iconst C (2 : Int32) (zo_5 (p := 23) (zby_w zwX6_whyNot_0 23 rfl)) (by decide) ?_
      exact hJ8 _ (by rw [if_pos hc6])
    · skip
      refine zr_bipush C (-6 : Int32) (zo_16 (p := 18) (k := (-6)) (a := 250) (zby_w zwX6_whyNot_0 18 rfl) (zby_w zwX6_whyNot_0 19 rfl) (by decide)) (by decide) ?_
      refine zr_goto C 24 (zo_167 (p := 20) (k := 4) (a := 0) (b := 4) (zby_w zwX6_whyNot_0 20 rfl) (zby_w zwX6_whyNot_0 21 rfl) (zby_w zwX6_whyNot_0 22 rfl) (by decide)) (by decide) ?_
      exact hJ8 _ (by rw [if_neg hc6])
  · rw [if_pos hc3] at h
    refine zr_iconst C (1 : Int32) (zo_4 (p := 8) (zby_w zwX6_whyNot_0 8 rfl)) (by decide) ?_
    exact hret _ _ _ h (zo_172 (p := 9) (zby_w zwX6_whyNot_0 9 rfl))
set_option maxRecDepth 20000 in
theorem c_X6_whyNot (l : Launch) (g : zG) (a : Nat) (ha : isX6 a) (p1 : Int32) (σ : zST) (Post : Int32 → Prop) (h : wp_X6_whyNot a p1 σ Post) : Met l yX6_whyNot (Cond.code yX6_whyNot cX6_whyNot 2 (some .int) :: zGW) (zRm 3 64) (va_Pc [.ref (g.2.1 a), .int p1] (zPP g σ)) (va_Qi (fun r u => Post r ∧ u = σ) (zBB g) (zA g)) 0 0 (zA g) :=
  zMet (by decide) (Nat.le_of_ble_eq_true rfl) (fun p e s m below meth c hr C => g_X6_whyNot C ha (fun v pc lv hp hd => zr_iret C hr ⟨hp, rfl⟩ hd) h)
def wp_X6_look (a : Nat) (p1 : Int32) (p2 : Int32) (σ : zST) (Post : Int32 → Prop) : Prop := (if p2 = (0) then vp_in p1 6 ∧ Post (σ.1 (a + 1) p1.toNatClampNeg) else (if p2 = (1 : Int32) then vp_in p1 6 ∧ True else vp_in p1 6 ∧ True) ∧ ∀ z3 : Int32, z3 = (if p2 = (1 : Int32) then (σ.1 (a + 2) p1.toNatClampNeg) else (σ.1 (a + 3) p1.toNatClampNeg)) → Post z3)
set_option maxRecDepth 100000 in
set_option maxHeartbeats 4000000 in
theorem g_X6_look {p : Program} {l : Launch} {e : Env} {R : Room} {s : State} {m : MethodId} {args : Array Value} {below : List Frame} {meth : Method} {c : Code} {Q : State → Prop} {g : zG} {n1 n2 : Nat} (C : zCX p R s m args meth c g n1 n2 cX6_look 3 RX6 0 0) {a : Nat} (ha : isX6 a) {p1 : Int32} {p2 : Int32} {σ : zST} {Post : Int32 → Prop} (hret : ∀ (v : Int32) (pc : Nat) (lv : List (Nat × Value)), Post v → decode cX6_look pc = .ok (.ireturn, 1) → zGG p l e R s m args below meth c Q g n1 n2 3 pc lv [.int v] σ) (h : wp_X6_look a p1 p2 σ Post) : zGG p l e R s m args below meth c Q g n1 n2 3 0 [(0, .ref (g.2.1 a)), (1, .int p1), (2, .int p2)] [] σ := by
  unfold wp_X6_look at h
  refine zr_iload_n C (zo_28 (p := 0) (zby_w zwX6_look_0 0 rfl)) rfl ?_
  refine zr_if_ne C 11 (zo_154 (p := 1) (k := 10) (a := 0) (b := 10) (zby_w zwX6_look_0 1 rfl) (zby_w zwX6_look_0 2 rfl) (zby_w zwX6_look_0 3 rfl) (by decide)) (by decide) (fun hc1 => ?_) (fun hc1 => ?_)
  · rw [if_neg hc1] at h
    refine zr_iload_n C (zo_28 (p := 11) (zby_w zwX6_look_0 11 rfl)) rfl ?_
    refine zr_iconst C (1 : Int32) (zo_4 (p := 12) (zby_w zwX6_look_0 12 rfl)) (by decide) ?_
    obtain ⟨ho5, h⟩ := h
    have hJ4 : ∀ z3 : Int32, z3 = (if p2 = (1 : Int32) then (σ.1 (a + 2) p1.toNatClampNeg) else (σ.1 (a + 3) p1.toNatClampNeg)) → zGG p l e R s m args below meth c Q g n1 n2 3 31 [(0, .ref (g.2.1 a)), (1, .int p1), (2, .int p2)] [.int z3] σ := by
      intro z3 hz3
      replace h := h z3 hz3
      exact hret _ _ _ h (zo_172 (p := 31) (zby_w zwX6_look_0 31 rfl))
    refine zr_icmp_ne C 25 (zo_160 (p := 13) (k := 12) (a := 0) (b := 12) (zby_w zwX6_look_0 13 rfl) (zby_w zwX6_look_0 14 rfl) (zby_w zwX6_look_0 15 rfl) (by decide)) (by decide) (fun hc2 => ?_) (fun hc2 => ?_)
    · skip
      rw [if_neg hc2] at ho5
      refine zr_aload_n C (zo_42 (p := 25) (zby_w zwX6_look_0 25 rfl)) rfl ?_
      refine zr_getr (u := (a + 3)) C fw_X6_22 (shX6_0 ha) rfl (zo_180 (p := 26) (k := 22) (a := 0) (b := 22) (zby_w zwX6_look_0 26 rfl) (zby_w zwX6_look_0 27 rfl) (zby_w zwX6_look_0 28 rfl) (by decide)) ?_
      refine zr_iload_n C (zo_27 (p := 29) (zby_w zwX6_look_0 29 rfl)) rfl ?_
      obtain ⟨ho6, ho5⟩ := ho5
      refine zr_iald C ((shX6_3 ha)) ho6 (zo_46 (p := 30) (zby_w zwX6_look_0 30 rfl)) ?_
      exact hJ4 _ (by rw [if_neg hc2])
    · skip
      rw [if_pos hc2] at ho5
      refine zr_aload_n C (zo_42 (p := 16) (zby_w zwX6_look_0 16 rfl)) rfl ?_
      refine zr_getr (u := (a + 2)) C fw_X6_19 (shX6_0 ha) rfl (zo_180 (p := 17) (k := 19) (a := 0) (b := 19) (zby_w zwX6_look_0 17 rfl) (zby_w zwX6_look_0 18 rfl) (zby_w zwX6_look_0 19 rfl) (by decide)) ?_
      refine zr_iload_n C (zo_27 (p := 20) (zby_w zwX6_look_0 20 rfl)) rfl ?_
      obtain ⟨ho7, ho5⟩ := ho5
      refine zr_iald C ((shX6_2 ha)) ho7 (zo_46 (p := 21) (zby_w zwX6_look_0 21 rfl)) ?_
      refine zr_goto C 31 (zo_167 (p := 22) (k := 9) (a := 0) (b := 9) (zby_w zwX6_look_0 22 rfl) (zby_w zwX6_look_0 23 rfl) (zby_w zwX6_look_0 24 rfl) (by decide)) (by decide) ?_
      exact hJ4 _ (by rw [if_pos hc2])
  · rw [if_pos hc1] at h
    refine zr_aload_n C (zo_42 (p := 4) (zby_w zwX6_look_0 4 rfl)) rfl ?_
    refine zr_getr (u := (a + 1)) C fw_X6_15 (shX6_0 ha) rfl (zo_180 (p := 5) (k := 15) (a := 0) (b := 15) (zby_w zwX6_look_0 5 rfl) (zby_w zwX6_look_0 6 rfl) (zby_w zwX6_look_0 7 rfl) (by decide)) ?_
    refine zr_iload_n C (zo_27 (p := 8) (zby_w zwX6_look_0 8 rfl)) rfl ?_
    obtain ⟨ho8, h⟩ := h
    refine zr_iald C ((shX6_1 ha)) ho8 (zo_46 (p := 9) (zby_w zwX6_look_0 9 rfl)) ?_
    exact hret _ _ _ h (zo_172 (p := 10) (zby_w zwX6_look_0 10 rfl))
set_option maxRecDepth 20000 in
theorem c_X6_look (l : Launch) (g : zG) (a : Nat) (ha : isX6 a) (p1 : Int32) (p2 : Int32) (σ : zST) (Post : Int32 → Prop) (h : wp_X6_look a p1 p2 σ Post) : Met l yX6_look (Cond.code yX6_look cX6_look 3 (some .int) :: zGW) (zRm 0 0) (va_Pc [.ref (g.2.1 a), .int p1, .int p2] (zPP g σ)) (va_Qi (fun r u => Post r ∧ u = σ) (zBB g) (zA g)) 0 0 (zA g) :=
  zMet (by decide) (Nat.le_of_ble_eq_true rfl) (fun p e s m below meth c hr C => g_X6_look C ha (fun v pc lv hp hd => zr_iret C hr ⟨hp, rfl⟩ hd) h)
def wp_X6_digitAt (a : Nat) (p1 : Int32) (σ : zST) (Post : Int32 → Prop) : Prop := (if p1 < (0) then Post (0 : Int32) else wp_X8_within (σ.1 a 7) (1 : Int32) (24 : Int32) σ (fun r2 => (if r2 = (0) then Post (0 : Int32) else ¬ (σ.1 a 7) = 0 ∧ vp_in (p1 - p1 / (σ.1 a 7) * (σ.1 a 7)) 24 ∧ Post (σ.1 (a + 6) (p1 - p1 / (σ.1 a 7) * (σ.1 a 7)).toNatClampNeg))))
set_option maxRecDepth 100000 in
set_option maxHeartbeats 4000000 in
theorem g_X6_digitAt {p : Program} {l : Launch} {e : Env} {R : Room} {s : State} {m : MethodId} {args : Array Value} {below : List Frame} {meth : Method} {c : Code} {Q : State → Prop} {g : zG} {n1 n2 : Nat} (C : zCX p R s m args meth c g n1 n2 cX6_digitAt 2 RX6 1 22) {a : Nat} (ha : isX6 a) {p1 : Int32} {σ : zST} {Post : Int32 → Prop} (hret : ∀ (v : Int32) (pc : Nat) (lv : List (Nat × Value)), Post v → decode cX6_digitAt pc = .ok (.ireturn, 1) → zGG p l e R s m args below meth c Q g n1 n2 2 pc lv [.int v] σ) (h : wp_X6_digitAt a p1 σ Post) : zGG p l e R s m args below meth c Q g n1 n2 2 0 [(0, .ref (g.2.1 a)), (1, .int p1)] [] σ := by
  unfold wp_X6_digitAt at h
  refine zr_iload_n C (zo_27 (p := 0) (zby_w zwX6_digitAt_0 0 rfl)) rfl ?_
  refine zr_if_lt C 17 (zo_155 (p := 1) (k := 16) (a := 0) (b := 16) (zby_w zwX6_digitAt_0 1 rfl) (zby_w zwX6_digitAt_0 2 rfl) (zby_w zwX6_digitAt_0 3 rfl) (by decide)) (by decide) (fun hc1 => ?_) (fun hc1 => ?_)
  · rw [if_pos hc1] at h
    refine zr_iconst C (0 : Int32) d_X6_digitAt_17 (by decide) ?_
    exact hret _ _ _ h d_X6_digitAt_18
  · rw [if_neg hc1] at h
    refine zr_aload_n C (zo_42 (p := 4) (zby_w zwX6_digitAt_0 4 rfl)) rfl ?_
    refine zr_geti C fw_X6_42 (shX6_0 ha) rfl (zo_180 (p := 5) (k := 42) (a := 0) (b := 42) (zby_w zwX6_digitAt_0 5 rfl) (zby_w zwX6_digitAt_0 6 rfl) (zby_w zwX6_digitAt_0 7 rfl) (by decide)) ?_
    refine zr_iconst C (1 : Int32) (zo_4 (p := 8) (zby_w zwX6_digitAt_0 8 rfl)) (by decide) ?_
    refine zr_bipush C (24 : Int32) (zo_16 (p := 9) (k := 24) (a := 24) (zby_w zwX6_digitAt_0 9 rfl) (zby_w zwX6_digitAt_0 10 rfl) (by decide)) (by decide) ?_
    refine zr_cip (zr_runN (As := [.int (σ.1 a 7), .int (1 : Int32), .int (24 : Int32)]) (rest := []) C nw_X6_54 (c_X8_within l g (σ.1 a 7) (1 : Int32) (24 : Int32) σ _ h) (by decide) (by decide) rfl rfl (Nat.le_of_ble_eq_true rfl) (zo_184 (p := 11) (k := 54) (a := 0) (b := 54) (zby_w zwX6_digitAt_0 11 rfl) (zby_w zwX6_digitAt_0 12 rfl) (zby_w zwX6_digitAt_0 13 rfl) (by decide))) (fun r2 h => ?_)
    refine zr_if_ne C 19 (zo_154 (p := 14) (k := 5) (a := 0) (b := 5) (zby_w zwX6_digitAt_0 14 rfl) (zby_w zwX6_digitAt_0 15 rfl) (zby_w zwX6_digitAt_0 16 rfl) (by decide)) (by decide) (fun hc4 => ?_) (fun hc4 => ?_)
    · rw [if_neg hc4] at h
      refine zr_aload_n C (zo_42 (p := 19) (zby_w zwX6_digitAt_0 19 rfl)) rfl ?_
      refine zr_getr (u := (a + 6)) C fw_X6_39 (shX6_0 ha) rfl (zo_180 (p := 20) (k := 39) (a := 0) (b := 39) (zby_w zwX6_digitAt_0 20 rfl) (zby_w zwX6_digitAt_0 21 rfl) (zby_w zwX6_digitAt_0 22 rfl) (by decide)) ?_
      refine zr_iload_n C (zo_27 (p := 23) (zby_w zwX6_digitAt_0 23 rfl)) rfl ?_
      refine zr_aload_n C (zo_42 (p := 24) (zby_w zwX6_digitAt_0 24 rfl)) rfl ?_
      refine zr_geti C fw_X6_42 (shX6_0 ha) rfl (zo_180 (p := 25) (k := 42) (a := 0) (b := 42) (zby_w zwX6_digitAt_0 25 rfl) (zby_w zwX6_digitAt_0 26 rfl) (zby_w zwX6_digitAt_0 27 rfl) (by decide)) ?_
      obtain ⟨ho5, h⟩ := h
      refine zr_irem C (zo_112 (p := 28) (zby_w zwX6_digitAt_0 28 rfl)) ho5 ?_
      obtain ⟨ho6, h⟩ := h
      refine zr_iald C ((shX6_6 ha)) ho6 (zo_46 (p := 29) (zby_w zwX6_digitAt_0 29 rfl)) ?_
      exact hret _ _ _ h (zo_172 (p := 30) (zby_w zwX6_digitAt_0 30 rfl))
    · rw [if_pos hc4] at h
      refine zr_iconst C (0 : Int32) d_X6_digitAt_17 (by decide) ?_
      exact hret _ _ _ h d_X6_digitAt_18
set_option maxRecDepth 20000 in
theorem c_X6_digitAt (l : Launch) (g : zG) (a : Nat) (ha : isX6 a) (p1 : Int32) (σ : zST) (Post : Int32 → Prop) (h : wp_X6_digitAt a p1 σ Post) : Met l yX6_digitAt (Cond.code yX6_digitAt cX6_digitAt 2 (some .int) :: zGW) (zRm 1 22) (va_Pc [.ref (g.2.1 a), .int p1] (zPP g σ)) (va_Qi (fun r u => Post r ∧ u = σ) (zBB g) (zA g)) 0 0 (zA g) :=
  zMet (by decide) (Nat.le_of_ble_eq_true rfl) (fun p e s m below meth c hr C => g_X6_digitAt C ha (fun v pc lv hp hd => zr_iret C hr ⟨hp, rfl⟩ hd) h)
def wp_X6_menToTeeth (a : Nat) (p1 : Int32) (σ : zST) (Post : Int32 → Prop) : Prop := vp_in p1 6 ∧ vp_in p1 6 ∧ Post (if (if (0 : Int32) < ((σ.1 (a + 5) (0 : Int32).toNatClampNeg) - (σ.1 (a + 3) p1.toNatClampNeg)) then ((σ.1 (a + 5) (0 : Int32).toNatClampNeg) - (σ.1 (a + 3) p1.toNatClampNeg)) else (0 : Int32)) < (σ.1 (a + 2) p1.toNatClampNeg) then (if (0 : Int32) < ((σ.1 (a + 5) (0 : Int32).toNatClampNeg) - (σ.1 (a + 3) p1.toNatClampNeg)) then ((σ.1 (a + 5) (0 : Int32).toNatClampNeg) - (σ.1 (a + 3) p1.toNatClampNeg)) else (0 : Int32)) else (σ.1 (a + 2) p1.toNatClampNeg))
set_option maxRecDepth 100000 in
set_option maxHeartbeats 4000000 in
theorem g_X6_menToTeeth {p : Program} {l : Launch} {e : Env} {R : Room} {s : State} {m : MethodId} {args : Array Value} {below : List Frame} {meth : Method} {c : Code} {Q : State → Prop} {g : zG} {n1 n2 : Nat} (C : zCX p R s m args meth c g n1 n2 cX6_menToTeeth 2 RX6 1 24) {a : Nat} (ha : isX6 a) {p1 : Int32} {σ : zST} {Post : Int32 → Prop} (hret : ∀ (v : Int32) (pc : Nat) (lv : List (Nat × Value)), Post v → decode cX6_menToTeeth pc = .ok (.ireturn, 1) → zGG p l e R s m args below meth c Q g n1 n2 2 pc lv [.int v] σ) (h : wp_X6_menToTeeth a p1 σ Post) : zGG p l e R s m args below meth c Q g n1 n2 2 0 [(0, .ref (g.2.1 a)), (1, .int p1)] [] σ := by
  unfold wp_X6_menToTeeth at h
  refine zr_aload_n C (zo_42 (p := 0) (zby_w zwX6_menToTeeth_0 0 rfl)) rfl ?_
  refine zr_getr (u := (a + 2)) C fw_X6_19 (shX6_0 ha) rfl (zo_180 (p := 1) (k := 19) (a := 0) (b := 19) (zby_w zwX6_menToTeeth_0 1 rfl) (zby_w zwX6_menToTeeth_0 2 rfl) (zby_w zwX6_menToTeeth_0 3 rfl) (by decide)) ?_
  refine zr_iload_n C (zo_27 (p := 4) (zby_w zwX6_menToTeeth_0 4 rfl)) rfl ?_
  obtain ⟨ho1, h⟩ := h
  refine zr_iald C ((shX6_2 ha)) ho1 (zo_46 (p := 5) (zby_w zwX6_menToTeeth_0 5 rfl)) ?_
  refine zr_iconst C (0 : Int32) (zo_3 (p := 6) (zby_w zwX6_menToTeeth_0 6 rfl)) (by decide) ?_
  refine zr_aload_n C (zo_42 (p := 7) (zby_w zwX6_menToTeeth_0 7 rfl)) rfl ?_
  refine zr_getr (u := (a + 5)) C fw_X6_36 (shX6_0 ha) rfl (zo_180 (p := 8) (k := 36) (a := 0) (b := 36) (zby_w zwX6_menToTeeth_0 8 rfl) (zby_w zwX6_menToTeeth_0 9 rfl) (zby_w zwX6_menToTeeth_0 10 rfl) (by decide)) ?_
  refine zr_iconst C (0 : Int32) (zo_3 (p := 11) (zby_w zwX6_menToTeeth_0 11 rfl)) (by decide) ?_
  refine zr_iald C ((shX6_5 ha)) (by unfold vp_in; decide) (zo_46 (p := 12) (zby_w zwX6_menToTeeth_0 12 rfl)) ?_
  refine zr_aload_n C (zo_42 (p := 13) (zby_w zwX6_menToTeeth_0 13 rfl)) rfl ?_
  refine zr_getr (u := (a + 3)) C fw_X6_22 (shX6_0 ha) rfl (zo_180 (p := 14) (k := 22) (a := 0) (b := 22) (zby_w zwX6_menToTeeth_0 14 rfl) (zby_w zwX6_menToTeeth_0 15 rfl) (zby_w zwX6_menToTeeth_0 16 rfl) (by decide)) ?_
  refine zr_iload_n C (zo_27 (p := 17) (zby_w zwX6_menToTeeth_0 17 rfl)) rfl ?_
  obtain ⟨ho2, h⟩ := h
  refine zr_iald C ((shX6_3 ha)) ho2 (zo_46 (p := 18) (zby_w zwX6_menToTeeth_0 18 rfl)) ?_
  refine zr_isub C (zo_100 (p := 19) (zby_w zwX6_menToTeeth_0 19 rfl)) ?_
  refine zr_mmax C mw_X6_80 (by decide) (Nat.le_of_ble_eq_true rfl) (zo_184 (p := 20) (k := 80) (a := 0) (b := 80) (zby_w zwX6_menToTeeth_0 20 rfl) (zby_w zwX6_menToTeeth_0 21 rfl) (zby_w zwX6_menToTeeth_0 22 rfl) (by decide)) ?_
  refine zr_mmin C mw_X6_95 (by decide) (Nat.le_of_ble_eq_true rfl) (zo_184 (p := 23) (k := 95) (a := 0) (b := 95) (zby_w zwX6_menToTeeth_0 23 rfl) (zby_w zwX6_menToTeeth_0 24 rfl) (zby_w zwX6_menToTeeth_0 25 rfl) (by decide)) ?_
  exact hret _ _ _ h (zo_172 (p := 26) (zby_w zwX6_menToTeeth_0 26 rfl))
set_option maxRecDepth 20000 in
theorem c_X6_menToTeeth (l : Launch) (g : zG) (a : Nat) (ha : isX6 a) (p1 : Int32) (σ : zST) (Post : Int32 → Prop) (h : wp_X6_menToTeeth a p1 σ Post) : Met l yX6_menToTeeth (Cond.code yX6_menToTeeth cX6_menToTeeth 2 (some .int) :: zGW) (zRm 1 24) (va_Pc [.ref (g.2.1 a), .int p1] (zPP g σ)) (va_Qi (fun r u => Post r ∧ u = σ) (zBB g) (zA g)) 0 0 (zA g) :=
  zMet (by decide) (Nat.le_of_ble_eq_true rfl) (fun p e s m below meth c hr C => g_X6_menToTeeth C ha (fun v pc lv hp hd => zr_iret C hr ⟨hp, rfl⟩ hd) h)
def wp_X6_lose (a : Nat) (p1 : Int32) (σ : zST) (Post : zST → Prop) : Prop := vp_in p1 6 ∧ ∀ σ2 : zST, σ2 = (wI σ (a + 7) (0 : Int32).toNatClampNeg ((σ.1 (a + 7) (0 : Int32).toNatClampNeg) + (σ.1 (a + 2) p1.toNatClampNeg))) → vp_in p1 6 ∧ vp_in p1 6 ∧ vp_in p1 6 ∧ vp_in p1 6 ∧ vp_in p1 6 ∧ Post (wI (wI (wI (wI (wI σ2 (a + 7) (1 : Int32).toNatClampNeg ((σ2.1 (a + 7) (1 : Int32).toNatClampNeg) + (σ2.1 (a + 4) p1.toNatClampNeg))) (a + 1) p1.toNatClampNeg (2 : Int32)) (a + 2) p1.toNatClampNeg (0 : Int32)) (a + 3) p1.toNatClampNeg (0 : Int32)) (a + 4) p1.toNatClampNeg (0 : Int32))
set_option maxRecDepth 100000 in
set_option maxHeartbeats 4000000 in
theorem g_X6_lose {p : Program} {l : Launch} {e : Env} {R : Room} {s : State} {m : MethodId} {args : Array Value} {below : List Frame} {meth : Method} {c : Code} {Q : State → Prop} {g : zG} {n1 n2 : Nat} (C : zCX p R s m args meth c g n1 n2 cX6_lose 2 RX6 0 0) {a : Nat} (ha : isX6 a) {p1 : Int32} {σ : zST} {Post : zST → Prop} (hret : ∀ (σ : zST) (pc : Nat) (lv : List (Nat × Value)), Post σ → decode cX6_lose pc = .ok (.return_, 1) → zGG p l e R s m args below meth c Q g n1 n2 2 pc lv [] σ) (h : wp_X6_lose a p1 σ Post) : zGG p l e R s m args below meth c Q g n1 n2 2 0 [(0, .ref (g.2.1 a)), (1, .int p1)] [] σ := by
  unfold wp_X6_lose at h
  refine zr_aload_n C (zo_42 (p := 0) (zby_w zwX6_lose_0 0 rfl)) rfl ?_
  refine zr_getr (u := (a + 7)) C fw_X6_45 (shX6_0 ha) rfl (zo_180 (p := 1) (k := 45) (a := 0) (b := 45) (zby_w zwX6_lose_0 1 rfl) (zby_w zwX6_lose_0 2 rfl) (zby_w zwX6_lose_0 3 rfl) (by decide)) ?_
  refine zr_iconst C (0 : Int32) (zo_3 (p := 4) (zby_w zwX6_lose_0 4 rfl)) (by decide) ?_
  refine zr_dup2 C (zo_92 (p := 5) (zby_w zwX6_lose_0 5 rfl)) rfl rfl ?_
  refine zr_iald C ((shX6_7 ha)) (by unfold vp_in; decide) (zo_46 (p := 6) (zby_w zwX6_lose_0 6 rfl)) ?_
  refine zr_aload_n C (zo_42 (p := 7) (zby_w zwX6_lose_0 7 rfl)) rfl ?_
  refine zr_getr (u := (a + 2)) C fw_X6_19 (shX6_0 ha) rfl (zo_180 (p := 8) (k := 19) (a := 0) (b := 19) (zby_w zwX6_lose_0 8 rfl) (zby_w zwX6_lose_0 9 rfl) (zby_w zwX6_lose_0 10 rfl) (by decide)) ?_
  refine zr_iload_n C (zo_27 (p := 11) (zby_w zwX6_lose_0 11 rfl)) rfl ?_
  obtain ⟨ho1, h⟩ := h
  refine zr_iald C ((shX6_2 ha)) ho1 (zo_46 (p := 12) (zby_w zwX6_lose_0 12 rfl)) ?_
  refine zr_iadd C (zo_96 (p := 13) (zby_w zwX6_lose_0 13 rfl)) ?_
  refine zr_iast C ((shX6_7 ha)) (by unfold vp_in; decide) (zo_79 (p := 14) (zby_w zwX6_lose_0 14 rfl)) ?_
  refine zr_aload_n C (zo_42 (p := 15) (zby_w zwX6_lose_0 15 rfl)) rfl ?_
  refine zr_getr (u := (a + 7)) C fw_X6_45 (shX6_0 ha) rfl (zo_180 (p := 16) (k := 45) (a := 0) (b := 45) (zby_w zwX6_lose_0 16 rfl) (zby_w zwX6_lose_0 17 rfl) (zby_w zwX6_lose_0 18 rfl) (by decide)) ?_
  refine zr_iconst C (1 : Int32) (zo_4 (p := 19) (zby_w zwX6_lose_0 19 rfl)) (by decide) ?_
  refine zr_dup2 C (zo_92 (p := 20) (zby_w zwX6_lose_0 20 rfl)) rfl rfl ?_
  refine zr_tops (fun σ2 hσ2 => ?_)
  replace h := h σ2 hσ2
  refine zr_iald C ((shX6_7 ha)) (by unfold vp_in; decide) (zo_46 (p := 21) (zby_w zwX6_lose_0 21 rfl)) ?_
  refine zr_aload_n C (zo_42 (p := 22) (zby_w zwX6_lose_0 22 rfl)) rfl ?_
  refine zr_getr (u := (a + 4)) C fw_X6_25 (shX6_0 ha) rfl (zo_180 (p := 23) (k := 25) (a := 0) (b := 25) (zby_w zwX6_lose_0 23 rfl) (zby_w zwX6_lose_0 24 rfl) (zby_w zwX6_lose_0 25 rfl) (by decide)) ?_
  refine zr_iload_n C (zo_27 (p := 26) (zby_w zwX6_lose_0 26 rfl)) rfl ?_
  obtain ⟨ho3, h⟩ := h
  refine zr_iald C ((shX6_4 ha)) ho3 (zo_46 (p := 27) (zby_w zwX6_lose_0 27 rfl)) ?_
  refine zr_iadd C (zo_96 (p := 28) (zby_w zwX6_lose_0 28 rfl)) ?_
  refine zr_iast C ((shX6_7 ha)) (by unfold vp_in; decide) (zo_79 (p := 29) (zby_w zwX6_lose_0 29 rfl)) ?_
  refine zr_aload_n C (zo_42 (p := 30) (zby_w zwX6_lose_0 30 rfl)) rfl ?_
  refine zr_getr (u := (a + 1)) C fw_X6_15 (shX6_0 ha) rfl (zo_180 (p := 31) (k := 15) (a := 0) (b := 15) (zby_w zwX6_lose_0 31 rfl) (zby_w zwX6_lose_0 32 rfl) (zby_w zwX6_lose_0 33 rfl) (by decide)) ?_
  refine zr_iload_n C (zo_27 (p := 34) (zby_w zwX6_lose_1 2 rfl)) rfl ?_
  refine zr_iconst C (2 : Int32) (zo_5 (p := 35) (zby_w zwX6_lose_1 3 rfl)) (by decide) ?_
  obtain ⟨ho4, h⟩ := h
  refine zr_iast C ((shX6_1 ha)) ho4 (zo_79 (p := 36) (zby_w zwX6_lose_1 4 rfl)) ?_
  refine zr_aload_n C (zo_42 (p := 37) (zby_w zwX6_lose_1 5 rfl)) rfl ?_
  refine zr_getr (u := (a + 2)) C fw_X6_19 (shX6_0 ha) rfl (zo_180 (p := 38) (k := 19) (a := 0) (b := 19) (zby_w zwX6_lose_1 6 rfl) (zby_w zwX6_lose_1 7 rfl) (zby_w zwX6_lose_1 8 rfl) (by decide)) ?_
  refine zr_iload_n C (zo_27 (p := 41) (zby_w zwX6_lose_1 9 rfl)) rfl ?_
  refine zr_iconst C (0 : Int32) (zo_3 (p := 42) (zby_w zwX6_lose_1 10 rfl)) (by decide) ?_
  obtain ⟨ho5, h⟩ := h
  refine zr_iast C ((shX6_2 ha)) ho5 (zo_79 (p := 43) (zby_w zwX6_lose_1 11 rfl)) ?_
  refine zr_aload_n C (zo_42 (p := 44) (zby_w zwX6_lose_1 12 rfl)) rfl ?_
  refine zr_getr (u := (a + 3)) C fw_X6_22 (shX6_0 ha) rfl (zo_180 (p := 45) (k := 22) (a := 0) (b := 22) (zby_w zwX6_lose_1 13 rfl) (zby_w zwX6_lose_1 14 rfl) (zby_w zwX6_lose_1 15 rfl) (by decide)) ?_
  refine zr_iload_n C (zo_27 (p := 48) (zby_w zwX6_lose_1 16 rfl)) rfl ?_
  refine zr_iconst C (0 : Int32) (zo_3 (p := 49) (zby_w zwX6_lose_1 17 rfl)) (by decide) ?_
  obtain ⟨ho6, h⟩ := h
  refine zr_iast C ((shX6_3 ha)) ho6 (zo_79 (p := 50) (zby_w zwX6_lose_1 18 rfl)) ?_
  refine zr_aload_n C (zo_42 (p := 51) (zby_w zwX6_lose_1 19 rfl)) rfl ?_
  refine zr_getr (u := (a + 4)) C fw_X6_25 (shX6_0 ha) rfl (zo_180 (p := 52) (k := 25) (a := 0) (b := 25) (zby_w zwX6_lose_1 20 rfl) (zby_w zwX6_lose_1 21 rfl) (zby_w zwX6_lose_1 22 rfl) (by decide)) ?_
  refine zr_iload_n C (zo_27 (p := 55) (zby_w zwX6_lose_1 23 rfl)) rfl ?_
  refine zr_iconst C (0 : Int32) (zo_3 (p := 56) (zby_w zwX6_lose_1 24 rfl)) (by decide) ?_
  obtain ⟨ho7, h⟩ := h
  refine zr_iast C ((shX6_4 ha)) ho7 (zo_79 (p := 57) (zby_w zwX6_lose_1 25 rfl)) ?_
  exact hret _ _ _ h (zo_177 (p := 58) (zby_w zwX6_lose_1 26 rfl))
set_option maxRecDepth 20000 in
theorem c_X6_lose (l : Launch) (g : zG) (a : Nat) (ha : isX6 a) (p1 : Int32) (σ : zST) (Post : zST → Prop) (h : wp_X6_lose a p1 σ Post) : Met l yX6_lose (Cond.code yX6_lose cX6_lose 2 none :: zGW) (zRm 0 0) (va_Pc [.ref (g.2.1 a), .int p1] (zPP g σ)) (va_Qv Post (zBB g) (zA g)) 0 0 (zA g) :=
  zMet (by decide) (Nat.le_of_ble_eq_true rfl) (fun p e s m below meth c hr C => g_X6_lose C ha (fun σ pc lv hp hd => zr_vret C hr hp hd) h)
def wp_X6_sendByTeeth (a : Nat) (p1 : Int32) (σ : zST) (Post : zST → Prop) : Prop := wp_X6_menToTeeth a p1 σ (fun r1 => vp_in p1 6 ∧ vp_in p1 6 ∧ vp_in p1 6 ∧ ∀ σ6 : zST, σ6 = (wI σ (a + 3) p1.toNatClampNeg (if (0 : Int32) < ((σ.1 (a + 3) p1.toNatClampNeg) - (σ.1 (a + 5) (0 : Int32).toNatClampNeg)) then ((σ.1 (a + 3) p1.toNatClampNeg) - (σ.1 (a + 5) (0 : Int32).toNatClampNeg)) else (0 : Int32))) → vp_in p1 6 ∧ ∀ σ8 : zST, σ8 = (wI σ6 (a + 2) p1.toNatClampNeg ((σ6.1 (a + 2) p1.toNatClampNeg) - r1)) → vp_in p1 6 ∧ ∀ σ10 : zST, σ10 = (wI σ8 (a + 7) (0 : Int32).toNatClampNeg ((σ8.1 (a + 7) (0 : Int32).toNatClampNeg) + r1)) → (if (σ10.1 (a + 2) p1.toNatClampNeg) = (0) then wp_X6_lose a p1 σ10 (fun σ13 => Post σ13) else Post σ10))
set_option maxRecDepth 100000 in
set_option maxHeartbeats 4000000 in
theorem g_X6_sendByTeeth {p : Program} {l : Launch} {e : Env} {R : Room} {s : State} {m : MethodId} {args : Array Value} {below : List Frame} {meth : Method} {c : Code} {Q : State → Prop} {g : zG} {n1 n2 : Nat} (C : zCX p R s m args meth c g n1 n2 cX6_sendByTeeth 3 RX6 2 45) {a : Nat} (ha : isX6 a) {p1 : Int32} {σ : zST} {Post : zST → Prop} (hret : ∀ (σ : zST) (pc : Nat) (lv : List (Nat × Value)), Post σ → decode cX6_sendByTeeth pc = .ok (.return_, 1) → zGG p l e R s m args below meth c Q g n1 n2 3 pc lv [] σ) (h : wp_X6_sendByTeeth a p1 σ Post) : zGG p l e R s m args below meth c Q g n1 n2 3 0 [(0, .ref (g.2.1 a)), (1, .int p1)] [] σ := by
  unfold wp_X6_sendByTeeth at h
  refine zr_aload_n C (zo_42 (p := 0) (zby_w zwX6_sendByTeeth_0 0 rfl)) rfl ?_
  refine zr_iload_n C (zo_27 (p := 1) (zby_w zwX6_sendByTeeth_0 1 rfl)) rfl ?_
  refine zr_cip (zr_runV (As := [.int p1]) (rest := []) C vw_X6_77 (c_X6_menToTeeth l g a ha p1 σ _ h) (shX6_0 ha) rfl (by decide) (by decide) rfl rfl (Nat.le_of_ble_eq_true rfl) (zo_182 (p := 2) (k := 77) (a := 0) (b := 77) (zby_w zwX6_sendByTeeth_0 2 rfl) (zby_w zwX6_sendByTeeth_0 3 rfl) (zby_w zwX6_sendByTeeth_0 4 rfl) (by decide))) (fun r1 h => ?_)
  refine zr_istore_n C [(2, .int r1), (0, .ref (g.2.1 a)), (1, .int p1)] (zo_61 (p := 5) (zby_w zwX6_sendByTeeth_0 5 rfl)) (by decide) rfl ?_
  refine zr_aload_n C (zo_42 (p := 6) (zby_w zwX6_sendByTeeth_0 6 rfl)) rfl ?_
  refine zr_getr (u := (a + 3)) C fw_X6_22 (shX6_0 ha) rfl (zo_180 (p := 7) (k := 22) (a := 0) (b := 22) (zby_w zwX6_sendByTeeth_0 7 rfl) (zby_w zwX6_sendByTeeth_0 8 rfl) (zby_w zwX6_sendByTeeth_0 9 rfl) (by decide)) ?_
  refine zr_iload_n C (zo_27 (p := 10) (zby_w zwX6_sendByTeeth_0 10 rfl)) rfl ?_
  refine zr_iconst C (0 : Int32) (zo_3 (p := 11) (zby_w zwX6_sendByTeeth_0 11 rfl)) (by decide) ?_
  refine zr_aload_n C (zo_42 (p := 12) (zby_w zwX6_sendByTeeth_0 12 rfl)) rfl ?_
  refine zr_getr (u := (a + 3)) C fw_X6_22 (shX6_0 ha) rfl (zo_180 (p := 13) (k := 22) (a := 0) (b := 22) (zby_w zwX6_sendByTeeth_0 13 rfl) (zby_w zwX6_sendByTeeth_0 14 rfl) (zby_w zwX6_sendByTeeth_0 15 rfl) (by decide)) ?_
  refine zr_iload_n C (zo_27 (p := 16) (zby_w zwX6_sendByTeeth_0 16 rfl)) rfl ?_
  obtain ⟨ho3, h⟩ := h
  refine zr_iald C ((shX6_3 ha)) ho3 (zo_46 (p := 17) (zby_w zwX6_sendByTeeth_0 17 rfl)) ?_
  refine zr_aload_n C (zo_42 (p := 18) (zby_w zwX6_sendByTeeth_0 18 rfl)) rfl ?_
  refine zr_getr (u := (a + 5)) C fw_X6_36 (shX6_0 ha) rfl (zo_180 (p := 19) (k := 36) (a := 0) (b := 36) (zby_w zwX6_sendByTeeth_0 19 rfl) (zby_w zwX6_sendByTeeth_0 20 rfl) (zby_w zwX6_sendByTeeth_0 21 rfl) (by decide)) ?_
  refine zr_iconst C (0 : Int32) (zo_3 (p := 22) (zby_w zwX6_sendByTeeth_0 22 rfl)) (by decide) ?_
  refine zr_iald C ((shX6_5 ha)) (by unfold vp_in; decide) (zo_46 (p := 23) (zby_w zwX6_sendByTeeth_0 23 rfl)) ?_
  refine zr_isub C (zo_100 (p := 24) (zby_w zwX6_sendByTeeth_0 24 rfl)) ?_
  refine zr_mmax C mw_X6_80 (by decide) (Nat.le_of_ble_eq_true rfl) (zo_184 (p := 25) (k := 80) (a := 0) (b := 80) (zby_w zwX6_sendByTeeth_0 25 rfl) (zby_w zwX6_sendByTeeth_0 26 rfl) (zby_w zwX6_sendByTeeth_0 27 rfl) (by decide)) ?_
  obtain ⟨ho4, h⟩ := h
  refine zr_iast C ((shX6_3 ha)) ho4 (zo_79 (p := 28) (zby_w zwX6_sendByTeeth_0 28 rfl)) ?_
  refine zr_aload_n C (zo_42 (p := 29) (zby_w zwX6_sendByTeeth_0 29 rfl)) rfl ?_
  refine zr_getr (u := (a + 2)) C fw_X6_19 (shX6_0 ha) rfl (zo_180 (p := 30) (k := 19) (a := 0) (b := 19) (zby_w zwX6_sendByTeeth_0 30 rfl) (zby_w zwX6_sendByTeeth_0 31 rfl) (zby_w zwX6_sendByTeeth_0 32 rfl) (by decide)) ?_
  refine zr_iload_n C (zo_27 (p := 33) (zby_w zwX6_sendByTeeth_1 1 rfl)) rfl ?_
  refine zr_dup2 C (zo_92 (p := 34) (zby_w zwX6_sendByTeeth_1 2 rfl)) rfl rfl ?_
  obtain ⟨ho5, h⟩ := h
  refine zr_tops (fun σ6 hσ6 => ?_)
  replace h := h σ6 hσ6
  refine zr_iald C ((shX6_2 ha)) ho5 (zo_46 (p := 35) (zby_w zwX6_sendByTeeth_1 3 rfl)) ?_
  refine zr_iload_n C (zo_28 (p := 36) (zby_w zwX6_sendByTeeth_1 4 rfl)) rfl ?_
  refine zr_isub C (zo_100 (p := 37) (zby_w zwX6_sendByTeeth_1 5 rfl)) ?_
  obtain ⟨ho7, h⟩ := h
  refine zr_iast C ((shX6_2 ha)) ho7 (zo_79 (p := 38) (zby_w zwX6_sendByTeeth_1 6 rfl)) ?_
  refine zr_aload_n C (zo_42 (p := 39) (zby_w zwX6_sendByTeeth_1 7 rfl)) rfl ?_
  refine zr_getr (u := (a + 7)) C fw_X6_45 (shX6_0 ha) rfl (zo_180 (p := 40) (k := 45) (a := 0) (b := 45) (zby_w zwX6_sendByTeeth_1 8 rfl) (zby_w zwX6_sendByTeeth_1 9 rfl) (zby_w zwX6_sendByTeeth_1 10 rfl) (by decide)) ?_
  refine zr_iconst C (0 : Int32) (zo_3 (p := 43) (zby_w zwX6_sendByTeeth_1 11 rfl)) (by decide) ?_
  refine zr_dup2 C (zo_92 (p := 44) (zby_w zwX6_sendByTeeth_1 12 rfl)) rfl rfl ?_
  refine zr_tops (fun σ8 hσ8 => ?_)
  replace h := h σ8 hσ8
  refine zr_iald C ((shX6_7 ha)) (by unfold vp_in; decide) (zo_46 (p := 45) (zby_w zwX6_sendByTeeth_1 13 rfl)) ?_
  refine zr_iload_n C (zo_28 (p := 46) (zby_w zwX6_sendByTeeth_1 14 rfl)) rfl ?_
  refine zr_iadd C (zo_96 (p := 47) (zby_w zwX6_sendByTeeth_1 15 rfl)) ?_
  refine zr_iast C ((shX6_7 ha)) (by unfold vp_in; decide) (zo_79 (p := 48) (zby_w zwX6_sendByTeeth_1 16 rfl)) ?_
  refine zr_aload_n C (zo_42 (p := 49) (zby_w zwX6_sendByTeeth_1 17 rfl)) rfl ?_
  refine zr_getr (u := (a + 2)) C fw_X6_19 (shX6_0 ha) rfl (zo_180 (p := 50) (k := 19) (a := 0) (b := 19) (zby_w zwX6_sendByTeeth_1 18 rfl) (zby_w zwX6_sendByTeeth_1 19 rfl) (zby_w zwX6_sendByTeeth_1 20 rfl) (by decide)) ?_
  refine zr_iload_n C (zo_27 (p := 53) (zby_w zwX6_sendByTeeth_1 21 rfl)) rfl ?_
  obtain ⟨ho9, h⟩ := h
  refine zr_tops (fun σ10 hσ10 => ?_)
  replace h := h σ10 hσ10
  refine zr_iald C ((shX6_2 ha)) ho9 (zo_46 (p := 54) (zby_w zwX6_sendByTeeth_1 22 rfl)) ?_
  refine zr_if_ne C 63 (zo_154 (p := 55) (k := 8) (a := 0) (b := 8) (zby_w zwX6_sendByTeeth_1 23 rfl) (zby_w zwX6_sendByTeeth_1 24 rfl) (zby_w zwX6_sendByTeeth_1 25 rfl) (by decide)) (by decide) (fun hc11 => ?_) (fun hc11 => ?_)
  · rw [if_neg hc11] at h
    exact hret _ _ _ h d_X6_sendByTeeth_63
  · rw [if_pos hc11] at h
    refine zr_aload_n C (zo_42 (p := 58) (zby_w zwX6_sendByTeeth_1 26 rfl)) rfl ?_
    refine zr_iload_n C (zo_27 (p := 59) (zby_w zwX6_sendByTeeth_1 27 rfl)) rfl ?_
    refine zr_cv (zr_runV (As := [.int p1]) (rest := []) C vw_X6_86 (c_X6_lose l g a ha p1 σ10 _ h) (shX6_0 ha) rfl (by decide) (by decide) rfl rfl (Nat.le_of_ble_eq_true rfl) (zo_182 (p := 60) (k := 86) (a := 0) (b := 86) (zby_w zwX6_sendByTeeth_1 28 rfl) (zby_w zwX6_sendByTeeth_1 29 rfl) (zby_w zwX6_sendByTeeth_1 30 rfl) (by decide))) (fun σ13 h => ?_)
    exact hret _ _ _ h d_X6_sendByTeeth_63
set_option maxRecDepth 20000 in
theorem c_X6_sendByTeeth (l : Launch) (g : zG) (a : Nat) (ha : isX6 a) (p1 : Int32) (σ : zST) (Post : zST → Prop) (h : wp_X6_sendByTeeth a p1 σ Post) : Met l yX6_sendByTeeth (Cond.code yX6_sendByTeeth cX6_sendByTeeth 3 none :: zGW) (zRm 2 45) (va_Pc [.ref (g.2.1 a), .int p1] (zPP g σ)) (va_Qv Post (zBB g) (zA g)) 0 0 (zA g) :=
  zMet (by decide) (Nat.le_of_ble_eq_true rfl) (fun p e s m below meth c hr C => g_X6_sendByTeeth C ha (fun σ pc lv hp hd => zr_vret C hr hp hd) h)
def wp_X8_drawAfter (p0 : Int32) (σ : zST) (Post : Int32 → Prop) : Prop := Post ((((75 : Int32) * p0) + (74 : Int32)) - (((75 : Int32) * p0) + (74 : Int32)) / (65537 : Int32) * (65537 : Int32))
set_option maxRecDepth 100000 in
set_option maxHeartbeats 4000000 in
theorem g_X8_drawAfter {p : Program} {l : Launch} {e : Env} {R : Room} {s : State} {m : MethodId} {args : Array Value} {below : List Frame} {meth : Method} {c : Code} {Q : State → Prop} {g : zG} {n1 n2 : Nat} (C : zCX p R s m args meth c g n1 n2 cX8_drawAfter 1 RX8 0 0) {p0 : Int32} {σ : zST} {Post : Int32 → Prop} (hret : ∀ (v : Int32) (pc : Nat) (lv : List (Nat × Value)), Post v → decode cX8_drawAfter pc = .ok (.ireturn, 1) → zGG p l e R s m args below meth c Q g n1 n2 1 pc lv [.int v] σ) (h : wp_X8_drawAfter p0 σ Post) : zGG p l e R s m args below meth c Q g n1 n2 1 0 [(0, .int p0)] [] σ := by
  unfold wp_X8_drawAfter at h
  refine zr_bipush C (75 : Int32) (zo_16 (p := 0) (k := 75) (a := 75) (zby_w zwX8_drawAfter_0 0 rfl) (zby_w zwX8_drawAfter_0 1 rfl) (by decide)) (by decide) ?_
  refine zr_iload_n C (zo_26 (p := 2) (zby_w zwX8_drawAfter_0 2 rfl)) rfl ?_
  refine zr_imul C (zo_104 (p := 3) (zby_w zwX8_drawAfter_0 3 rfl)) ?_
  refine zr_bipush C (74 : Int32) (zo_16 (p := 4) (k := 74) (a := 74) (zby_w zwX8_drawAfter_0 4 rfl) (zby_w zwX8_drawAfter_0 5 rfl) (by decide)) (by decide) ?_
  refine zr_iadd C (zo_96 (p := 6) (zby_w zwX8_drawAfter_0 6 rfl)) ?_
  refine zr_ldcw C (v := (65537 : Int32)) cw_X8_287 (zo_19 (p := 7) (k := 287) (a := 1) (b := 31) (zby_w zwX8_drawAfter_0 7 rfl) (zby_w zwX8_drawAfter_0 8 rfl) (zby_w zwX8_drawAfter_0 9 rfl) (by decide)) ?_
  refine zr_irem C (zo_112 (p := 10) (zby_w zwX8_drawAfter_0 10 rfl)) (by decide) ?_
  exact hret _ _ _ h (zo_172 (p := 11) (zby_w zwX8_drawAfter_0 11 rfl))
set_option maxRecDepth 20000 in
theorem c_X8_drawAfter (l : Launch) (g : zG) (p0 : Int32) (σ : zST) (Post : Int32 → Prop) (h : wp_X8_drawAfter p0 σ Post) : Met l yX8_drawAfter (Cond.code yX8_drawAfter cX8_drawAfter 1 (some .int) :: zGW) (zRm 0 0) (va_Pc [.int p0] (zPP g σ)) (va_Qi (fun r u => Post r ∧ u = σ) (zBB g) (zA g)) 0 0 (zA g) :=
  zMet (by decide) (Nat.le_of_ble_eq_true rfl) (fun p e s m below meth c hr C => g_X8_drawAfter C (fun v pc lv hp hd => zr_iret C hr ⟨hp, rfl⟩ hd) h)
def wp_X6_sendByWhirl (a : Nat) (p1 : Int32) (p2 : Int32) (σ : zST) (Post : zST → Prop) : Prop := wp_X8_drawAfter (σ.1 (a + 5) (7 : Int32).toNatClampNeg) σ (fun r1 => ∀ σ3 : zST, σ3 = (wI σ (a + 5) (7 : Int32).toNatClampNeg r1) → wp_X6_digitAt a p2 σ3 (fun r4 => (if r4 ≤ ((σ3.1 (a + 5) (7 : Int32).toNatClampNeg) - (σ3.1 (a + 5) (7 : Int32).toNatClampNeg) / (10 : Int32) * (10 : Int32)) then Post σ3 else wp_X6_lose a p1 σ3 (fun σ8 => Post σ8))))
set_option maxRecDepth 100000 in
set_option maxHeartbeats 4000000 in
theorem g_X6_sendByWhirl {p : Program} {l : Launch} {e : Env} {R : Room} {s : State} {m : MethodId} {args : Array Value} {below : List Frame} {meth : Method} {c : Code} {Q : State → Prop} {g : zG} {n1 n2 : Nat} (C : zCX p R s m args meth c g n1 n2 cX6_sendByWhirl 3 RX6 2 43) {a : Nat} (ha : isX6 a) {p1 : Int32} {p2 : Int32} {σ : zST} {Post : zST → Prop} (hret : ∀ (σ : zST) (pc : Nat) (lv : List (Nat × Value)), Post σ → decode cX6_sendByWhirl pc = .ok (.return_, 1) → zGG p l e R s m args below meth c Q g n1 n2 3 pc lv [] σ) (h : wp_X6_sendByWhirl a p1 p2 σ Post) : zGG p l e R s m args below meth c Q g n1 n2 3 0 [(0, .ref (g.2.1 a)), (1, .int p1), (2, .int p2)] [] σ := by
  unfold wp_X6_sendByWhirl at h
  refine zr_aload_n C (zo_42 (p := 0) (zby_w zwX6_sendByWhirl_0 0 rfl)) rfl ?_
  refine zr_getr (u := (a + 5)) C fw_X6_36 (shX6_0 ha) rfl (zo_180 (p := 1) (k := 36) (a := 0) (b := 36) (zby_w zwX6_sendByWhirl_0 1 rfl) (zby_w zwX6_sendByWhirl_0 2 rfl) (zby_w zwX6_sendByWhirl_0 3 rfl) (by decide)) ?_
  refine zr_bipush C (7 : Int32) (zo_16 (p := 4) (k := 7) (a := 7) (zby_w zwX6_sendByWhirl_0 4 rfl) (zby_w zwX6_sendByWhirl_0 5 rfl) (by decide)) (by decide) ?_
  refine zr_aload_n C (zo_42 (p := 6) (zby_w zwX6_sendByWhirl_0 6 rfl)) rfl ?_
  refine zr_getr (u := (a + 5)) C fw_X6_36 (shX6_0 ha) rfl (zo_180 (p := 7) (k := 36) (a := 0) (b := 36) (zby_w zwX6_sendByWhirl_0 7 rfl) (zby_w zwX6_sendByWhirl_0 8 rfl) (zby_w zwX6_sendByWhirl_0 9 rfl) (by decide)) ?_
  refine zr_bipush C (7 : Int32) (zo_16 (p := 10) (k := 7) (a := 7) (zby_w zwX6_sendByWhirl_0 10 rfl) (zby_w zwX6_sendByWhirl_0 11 rfl) (by decide)) (by decide) ?_
  refine zr_iald C ((shX6_5 ha)) (by unfold vp_in; decide) (zo_46 (p := 12) (zby_w zwX6_sendByWhirl_0 12 rfl)) ?_
  refine zr_cip (zr_runN (As := [.int (σ.1 (a + 5) (7 : Int32).toNatClampNeg)]) (rest := [.int (7 : Int32), .ref (g.2.1 (a + 5))]) C nw_X6_89 (c_X8_drawAfter l g (σ.1 (a + 5) (7 : Int32).toNatClampNeg) σ _ h) (by decide) (by decide) rfl rfl (Nat.le_of_ble_eq_true rfl) (zo_184 (p := 13) (k := 89) (a := 0) (b := 89) (zby_w zwX6_sendByWhirl_0 13 rfl) (zby_w zwX6_sendByWhirl_0 14 rfl) (zby_w zwX6_sendByWhirl_0 15 rfl) (by decide))) (fun r1 h => ?_)
  refine zr_iast C ((shX6_5 ha)) (by unfold vp_in; decide) (zo_79 (p := 16) (zby_w zwX6_sendByWhirl_0 16 rfl)) ?_
  refine zr_aload_n C (zo_42 (p := 17) (zby_w zwX6_sendByWhirl_0 17 rfl)) rfl ?_
  refine zr_getr (u := (a + 5)) C fw_X6_36 (shX6_0 ha) rfl (zo_180 (p := 18) (k := 36) (a := 0) (b := 36) (zby_w zwX6_sendByWhirl_0 18 rfl) (zby_w zwX6_sendByWhirl_0 19 rfl) (zby_w zwX6_sendByWhirl_0 20 rfl) (by decide)) ?_
  refine zr_bipush C (7 : Int32) (zo_16 (p := 21) (k := 7) (a := 7) (zby_w zwX6_sendByWhirl_0 21 rfl) (zby_w zwX6_sendByWhirl_0 22 rfl) (by decide)) (by decide) ?_
  refine zr_tops (fun σ3 hσ3 => ?_)
  replace h := h σ3 hσ3
  refine zr_iald C ((shX6_5 ha)) (by unfold vp_in; decide) (zo_46 (p := 23) (zby_w zwX6_sendByWhirl_0 23 rfl)) ?_
  refine zr_bipush C (10 : Int32) (zo_16 (p := 24) (k := 10) (a := 10) (zby_w zwX6_sendByWhirl_0 24 rfl) (zby_w zwX6_sendByWhirl_0 25 rfl) (by decide)) (by decide) ?_
  refine zr_irem C (zo_112 (p := 26) (zby_w zwX6_sendByWhirl_0 26 rfl)) (by decide) ?_
  refine zr_aload_n C (zo_42 (p := 27) (zby_w zwX6_sendByWhirl_0 27 rfl)) rfl ?_
  refine zr_iload_n C (zo_28 (p := 28) (zby_w zwX6_sendByWhirl_0 28 rfl)) rfl ?_
  refine zr_cip (zr_runV (As := [.int p2]) (rest := [.int ((σ3.1 (a + 5) (7 : Int32).toNatClampNeg) - (σ3.1 (a + 5) (7 : Int32).toNatClampNeg) / (10 : Int32) * (10 : Int32))]) C vw_X6_92 (c_X6_digitAt l g a ha p2 σ3 _ h) (shX6_0 ha) rfl (by decide) (by decide) rfl rfl (Nat.le_of_ble_eq_true rfl) (zo_182 (p := 29) (k := 92) (a := 0) (b := 92) (zby_w zwX6_sendByWhirl_0 29 rfl) (zby_w zwX6_sendByWhirl_0 30 rfl) (zby_w zwX6_sendByWhirl_0 31 rfl) (by decide))) (fun r4 h => ?_)
  refine zr_icmp_ge C 40 (zo_162 (p := 32) (k := 8) (a := 0) (b := 8) (zby_w zwX6_sendByWhirl_1 0 rfl) (zby_w zwX6_sendByWhirl_1 1 rfl) (zby_w zwX6_sendByWhirl_1 2 rfl) (by decide)) (by decide) (fun hc6 => ?_) (fun hc6 => ?_)
  · rw [if_pos hc6] at h
    exact hret _ _ _ h d_X6_sendByWhirl_40
  · rw [if_neg hc6] at h
    refine zr_aload_n C (zo_42 (p := 35) (zby_w zwX6_sendByWhirl_1 3 rfl)) rfl ?_
    refine zr_iload_n C (zo_27 (p := 36) (zby_w zwX6_sendByWhirl_1 4 rfl)) rfl ?_
    refine zr_cv (zr_runV (As := [.int p1]) (rest := []) C vw_X6_86 (c_X6_lose l g a ha p1 σ3 _ h) (shX6_0 ha) rfl (by decide) (by decide) rfl rfl (Nat.le_of_ble_eq_true rfl) (zo_182 (p := 37) (k := 86) (a := 0) (b := 86) (zby_w zwX6_sendByWhirl_1 5 rfl) (zby_w zwX6_sendByWhirl_1 6 rfl) (zby_w zwX6_sendByWhirl_1 7 rfl) (by decide))) (fun σ8 h => ?_)
    exact hret _ _ _ h d_X6_sendByWhirl_40
set_option maxRecDepth 20000 in
theorem c_X6_sendByWhirl (l : Launch) (g : zG) (a : Nat) (ha : isX6 a) (p1 : Int32) (p2 : Int32) (σ : zST) (Post : zST → Prop) (h : wp_X6_sendByWhirl a p1 p2 σ Post) : Met l yX6_sendByWhirl (Cond.code yX6_sendByWhirl cX6_sendByWhirl 3 none :: zGW) (zRm 2 43) (va_Pc [.ref (g.2.1 a), .int p1, .int p2] (zPP g σ)) (va_Qv Post (zBB g) (zA g)) 0 0 (zA g) :=
  zMet (by decide) (Nat.le_of_ble_eq_true rfl) (fun p e s m below meth c hr C => g_X6_sendByWhirl C ha (fun σ pc lv hp hd => zr_vret C hr hp hd) h)
def wp_X6_fare (a : Nat) (p1 : Int32) (σ : zST) (Post : Int32 → Prop) : Prop := vp_in p1 6 ∧ Post (((σ.1 (a + 5) (2 : Int32).toNatClampNeg) * (σ.1 (a + 5) (3 : Int32).toNatClampNeg)) * (σ.1 (a + 2) p1.toNatClampNeg))
set_option maxRecDepth 100000 in
set_option maxHeartbeats 4000000 in
theorem g_X6_fare {p : Program} {l : Launch} {e : Env} {R : Room} {s : State} {m : MethodId} {args : Array Value} {below : List Frame} {meth : Method} {c : Code} {Q : State → Prop} {g : zG} {n1 n2 : Nat} (C : zCX p R s m args meth c g n1 n2 cX6_fare 2 RX6 0 0) {a : Nat} (ha : isX6 a) {p1 : Int32} {σ : zST} {Post : Int32 → Prop} (hret : ∀ (v : Int32) (pc : Nat) (lv : List (Nat × Value)), Post v → decode cX6_fare pc = .ok (.ireturn, 1) → zGG p l e R s m args below meth c Q g n1 n2 2 pc lv [.int v] σ) (h : wp_X6_fare a p1 σ Post) : zGG p l e R s m args below meth c Q g n1 n2 2 0 [(0, .ref (g.2.1 a)), (1, .int p1)] [] σ := by
  unfold wp_X6_fare at h
  refine zr_aload_n C (zo_42 (p := 0) (zby_w zwX6_fare_0 0 rfl)) rfl ?_
  refine zr_getr (u := (a + 5)) C fw_X6_36 (shX6_0 ha) rfl (zo_180 (p := 1) (k := 36) (a := 0) (b := 36) (zby_w zwX6_fare_0 1 rfl) (zby_w zwX6_fare_0 2 rfl) (zby_w zwX6_fare_0 3 rfl) (by decide)) ?_
  refine zr_iconst C (2 : Int32) (zo_5 (p := 4) (zby_w zwX6_fare_0 4 rfl)) (by decide) ?_
  refine zr_iald C ((shX6_5 ha)) (by unfold vp_in; decide) (zo_46 (p := 5) (zby_w zwX6_fare_0 5 rfl)) ?_
  refine zr_aload_n C (zo_42 (p := 6) (zby_w zwX6_fare_0 6 rfl)) rfl ?_
  refine zr_getr (u := (a + 5)) C fw_X6_36 (shX6_0 ha) rfl (zo_180 (p := 7) (k := 36) (a := 0) (b := 36) (zby_w zwX6_fare_0 7 rfl) (zby_w zwX6_fare_0 8 rfl) (zby_w zwX6_fare_0 9 rfl) (by decide)) ?_
  refine zr_iconst C (3 : Int32) (zo_6 (p := 10) (zby_w zwX6_fare_0 10 rfl)) (by decide) ?_
  refine zr_iald C ((shX6_5 ha)) (by unfold vp_in; decide) (zo_46 (p := 11) (zby_w zwX6_fare_0 11 rfl)) ?_
  refine zr_imul C (zo_104 (p := 12) (zby_w zwX6_fare_0 12 rfl)) ?_
  refine zr_aload_n C (zo_42 (p := 13) (zby_w zwX6_fare_0 13 rfl)) rfl ?_
  refine zr_getr (u := (a + 2)) C fw_X6_19 (shX6_0 ha) rfl (zo_180 (p := 14) (k := 19) (a := 0) (b := 19) (zby_w zwX6_fare_0 14 rfl) (zby_w zwX6_fare_0 15 rfl) (zby_w zwX6_fare_0 16 rfl) (by decide)) ?_
  refine zr_iload_n C (zo_27 (p := 17) (zby_w zwX6_fare_0 17 rfl)) rfl ?_
  obtain ⟨ho1, h⟩ := h
  refine zr_iald C ((shX6_2 ha)) ho1 (zo_46 (p := 18) (zby_w zwX6_fare_0 18 rfl)) ?_
  refine zr_imul C (zo_104 (p := 19) (zby_w zwX6_fare_0 19 rfl)) ?_
  exact hret _ _ _ h (zo_172 (p := 20) (zby_w zwX6_fare_0 20 rfl))
set_option maxRecDepth 20000 in
theorem c_X6_fare (l : Launch) (g : zG) (a : Nat) (ha : isX6 a) (p1 : Int32) (σ : zST) (Post : Int32 → Prop) (h : wp_X6_fare a p1 σ Post) : Met l yX6_fare (Cond.code yX6_fare cX6_fare 2 (some .int) :: zGW) (zRm 0 0) (va_Pc [.ref (g.2.1 a), .int p1] (zPP g σ)) (va_Qi (fun r u => Post r ∧ u = σ) (zBB g) (zA g)) 0 0 (zA g) :=
  zMet (by decide) (Nat.le_of_ble_eq_true rfl) (fun p e s m below meth c hr C => g_X6_fare C ha (fun v pc lv hp hd => zr_iret C hr ⟨hp, rfl⟩ hd) h)
def wp_X6_send (a : Nat) (p1 : Int32) (p2 : Int32) (p3 : Int32) (σ : zST) (Post : zST → Prop) : Prop := wp_X6_moored a p1 σ (fun r1 => (if r1 = (0) then Post σ else vp_in p1 6 ∧ (if p2 = (0) then ∀ σ13 : zST, σ13 = (wI σ (a + 1) p1.toNatClampNeg (1 : Int32)) → wp_X6_sendByTeeth a p1 σ13 (fun σ15 => Post σ15) else (if p2 = (1 : Int32) then ∀ σ10 : zST, σ10 = (wI σ (a + 1) p1.toNatClampNeg (1 : Int32)) → wp_X6_sendByWhirl a p1 p3 σ10 (fun σ12 => Post σ12) else ∀ σ7 : zST, σ7 = (wI σ (a + 1) p1.toNatClampNeg (1 : Int32)) → wp_X6_fare a p1 σ7 (fun r8 => Post (wI σ7 (a + 7) (2 : Int32).toNatClampNeg ((σ7.1 (a + 7) (2 : Int32).toNatClampNeg) + r8)))))))
set_option maxRecDepth 100000 in
set_option maxHeartbeats 4000000 in
theorem g_X6_send {p : Program} {l : Launch} {e : Env} {R : Room} {s : State} {m : MethodId} {args : Array Value} {below : List Frame} {meth : Method} {c : Code} {Q : State → Prop} {g : zG} {n1 n2 : Nat} (C : zCX p R s m args meth c g n1 n2 cX6_send 4 RX6 3 67) {a : Nat} (ha : isX6 a) {p1 : Int32} {p2 : Int32} {p3 : Int32} {σ : zST} {Post : zST → Prop} (hret : ∀ (σ : zST) (pc : Nat) (lv : List (Nat × Value)), Post σ → decode cX6_send pc = .ok (.return_, 1) → zGG p l e R s m args below meth c Q g n1 n2 4 pc lv [] σ) (h : wp_X6_send a p1 p2 p3 σ Post) : zGG p l e R s m args below meth c Q g n1 n2 4 0 [(0, .ref (g.2.1 a)), (1, .int p1), (2, .int p2), (3, .int p3)] [] σ := by
  unfold wp_X6_send at h
  refine zr_aload_n C (zo_42 (p := 0) (zby_w zwX6_send_0 0 rfl)) rfl ?_
  refine zr_iload_n C (zo_27 (p := 1) (zby_w zwX6_send_0 1 rfl)) rfl ?_
  refine zr_cip (zr_runV (As := [.int p1]) (rest := []) C vw_X6_62 (c_X6_moored l g a ha p1 σ _ h) (shX6_0 ha) rfl (by decide) (by decide) rfl rfl (Nat.le_of_ble_eq_true rfl) (zo_182 (p := 2) (k := 62) (a := 0) (b := 62) (zby_w zwX6_send_0 2 rfl) (zby_w zwX6_send_0 3 rfl) (zby_w zwX6_send_0 4 rfl) (by decide))) (fun r1 h => ?_)
  refine zr_if_ne C 9 (zo_154 (p := 5) (k := 4) (a := 0) (b := 4) (zby_w zwX6_send_0 5 rfl) (zby_w zwX6_send_0 6 rfl) (zby_w zwX6_send_0 7 rfl) (by decide)) (by decide) (fun hc3 => ?_) (fun hc3 => ?_)
  · rw [if_neg hc3] at h
    refine zr_aload_n C (zo_42 (p := 9) (zby_w zwX6_send_0 9 rfl)) rfl ?_
    refine zr_getr (u := (a + 1)) C fw_X6_15 (shX6_0 ha) rfl (zo_180 (p := 10) (k := 15) (a := 0) (b := 15) (zby_w zwX6_send_0 10 rfl) (zby_w zwX6_send_0 11 rfl) (zby_w zwX6_send_0 12 rfl) (by decide)) ?_
    refine zr_iload_n C (zo_27 (p := 13) (zby_w zwX6_send_0 13 rfl)) rfl ?_
    refine zr_iconst C (1 : Int32) (zo_4 (p := 14) (zby_w zwX6_send_0 14 rfl)) (by decide) ?_
    obtain ⟨ho4, h⟩ := h
    refine zr_iast C ((shX6_1 ha)) ho4 (zo_79 (p := 15) (zby_w zwX6_send_0 15 rfl)) ?_
    refine zr_iload_n C (zo_28 (p := 16) (zby_w zwX6_send_0 16 rfl)) rfl ?_
    refine zr_if_ne C 28 (zo_154 (p := 17) (k := 11) (a := 0) (b := 11) (zby_w zwX6_send_0 17 rfl) (zby_w zwX6_send_0 18 rfl) (zby_w zwX6_send_0 19 rfl) (by decide)) (by decide) (fun hc5 => ?_) (fun hc5 => ?_)
    · rw [if_neg hc5] at h
      refine zr_iload_n C (zo_28 (p := 28) (zby_w zwX6_send_0 28 rfl)) rfl ?_
      refine zr_iconst C (1 : Int32) (zo_4 (p := 29) (zby_w zwX6_send_0 29 rfl)) (by decide) ?_
      refine zr_icmp_ne C 42 (zo_160 (p := 30) (k := 12) (a := 0) (b := 12) (zby_w zwX6_send_0 30 rfl) (zby_w zwX6_send_0 31 rfl) (zby_w zwX6_send_0 32 rfl) (by decide)) (by decide) (fun hc6 => ?_) (fun hc6 => ?_)
      · rw [if_neg hc6] at h
        refine zr_aload_n C (zo_42 (p := 42) (zby_w zwX6_send_1 10 rfl)) rfl ?_
        refine zr_getr (u := (a + 7)) C fw_X6_45 (shX6_0 ha) rfl (zo_180 (p := 43) (k := 45) (a := 0) (b := 45) (zby_w zwX6_send_1 11 rfl) (zby_w zwX6_send_1 12 rfl) (zby_w zwX6_send_1 13 rfl) (by decide)) ?_
        refine zr_iconst C (2 : Int32) (zo_5 (p := 46) (zby_w zwX6_send_1 14 rfl)) (by decide) ?_
        refine zr_dup2 C (zo_92 (p := 47) (zby_w zwX6_send_1 15 rfl)) rfl rfl ?_
        refine zr_tops (fun σ7 hσ7 => ?_)
        replace h := h σ7 hσ7
        refine zr_iald C ((shX6_7 ha)) (by unfold vp_in; decide) (zo_46 (p := 48) (zby_w zwX6_send_1 16 rfl)) ?_
        refine zr_aload_n C (zo_42 (p := 49) (zby_w zwX6_send_1 17 rfl)) rfl ?_
        refine zr_iload_n C (zo_27 (p := 50) (zby_w zwX6_send_1 18 rfl)) rfl ?_
        refine zr_cip (zr_runV (As := [.int p1]) (rest := [.int (σ7.1 (a + 7) (2 : Int32).toNatClampNeg), .int (2 : Int32), .ref (g.2.1 (a + 7))]) C vw_X6_73 (c_X6_fare l g a ha p1 σ7 _ h) (shX6_0 ha) rfl (by decide) (by decide) rfl rfl (Nat.le_of_ble_eq_true rfl) (zo_182 (p := 51) (k := 73) (a := 0) (b := 73) (zby_w zwX6_send_1 19 rfl) (zby_w zwX6_send_1 20 rfl) (zby_w zwX6_send_1 21 rfl) (by decide))) (fun r8 h => ?_)
        refine zr_iadd C (zo_96 (p := 54) (zby_w zwX6_send_1 22 rfl)) ?_
        refine zr_iast C ((shX6_7 ha)) (by unfold vp_in; decide) (zo_79 (p := 55) (zby_w zwX6_send_1 23 rfl)) ?_
        exact hret _ _ _ h d_X6_send_56
      · rw [if_pos hc6] at h
        refine zr_aload_n C (zo_42 (p := 33) (zby_w zwX6_send_1 1 rfl)) rfl ?_
        refine zr_iload_n C (zo_27 (p := 34) (zby_w zwX6_send_1 2 rfl)) rfl ?_
        refine zr_iload_n C (zo_29 (p := 35) (zby_w zwX6_send_1 3 rfl)) rfl ?_
        refine zr_tops (fun σ10 hσ10 => ?_)
        replace h := h σ10 hσ10
        refine zr_cv (zr_runV (As := [.int p1, .int p3]) (rest := []) C vw_X6_69 (c_X6_sendByWhirl l g a ha p1 p3 σ10 _ h) (shX6_0 ha) rfl (by decide) (by decide) rfl rfl (Nat.le_of_ble_eq_true rfl) (zo_182 (p := 36) (k := 69) (a := 0) (b := 69) (zby_w zwX6_send_1 4 rfl) (zby_w zwX6_send_1 5 rfl) (zby_w zwX6_send_1 6 rfl) (by decide))) (fun σ12 h => ?_)
        refine zr_goto C 56 (zo_167 (p := 39) (k := 17) (a := 0) (b := 17) (zby_w zwX6_send_1 7 rfl) (zby_w zwX6_send_1 8 rfl) (zby_w zwX6_send_1 9 rfl) (by decide)) (by decide) ?_
        exact hret _ _ _ h d_X6_send_56
    · rw [if_pos hc5] at h
      refine zr_aload_n C (zo_42 (p := 20) (zby_w zwX6_send_0 20 rfl)) rfl ?_
      refine zr_iload_n C (zo_27 (p := 21) (zby_w zwX6_send_0 21 rfl)) rfl ?_
      refine zr_tops (fun σ13 hσ13 => ?_)
      replace h := h σ13 hσ13
      refine zr_cv (zr_runV (As := [.int p1]) (rest := []) C vw_X6_65 (c_X6_sendByTeeth l g a ha p1 σ13 _ h) (shX6_0 ha) rfl (by decide) (by decide) rfl rfl (Nat.le_of_ble_eq_true rfl) (zo_182 (p := 22) (k := 65) (a := 0) (b := 65) (zby_w zwX6_send_0 22 rfl) (zby_w zwX6_send_0 23 rfl) (zby_w zwX6_send_0 24 rfl) (by decide))) (fun σ15 h => ?_)
      refine zr_goto C 56 (zo_167 (p := 25) (k := 31) (a := 0) (b := 31) (zby_w zwX6_send_0 25 rfl) (zby_w zwX6_send_0 26 rfl) (zby_w zwX6_send_0 27 rfl) (by decide)) (by decide) ?_
      exact hret _ _ _ h d_X6_send_56
  · rw [if_pos hc3] at h
    exact hret _ _ _ h (zo_177 (p := 8) (zby_w zwX6_send_0 8 rfl))
set_option maxRecDepth 20000 in
theorem c_X6_send (l : Launch) (g : zG) (a : Nat) (ha : isX6 a) (p1 : Int32) (p2 : Int32) (p3 : Int32) (σ : zST) (Post : zST → Prop) (h : wp_X6_send a p1 p2 p3 σ Post) : Met l yX6_send (Cond.code yX6_send cX6_send 4 none :: zGW) (zRm 3 67) (va_Pc [.ref (g.2.1 a), .int p1, .int p2, .int p3] (zPP g σ)) (va_Qv Post (zBB g) (zA g)) 0 0 (zA g) :=
  zMet (by decide) (Nat.le_of_ble_eq_true rfl) (fun p e s m below meth c hr C => g_X6_send C ha (fun σ pc lv hp hd => zr_vret C hr hp hd) h)
def wp_X6_lostToTeeth (a : Nat) (p1 : Int32) (σ : zST) (Post : Int32 → Prop) : Prop := wp_X6_menToTeeth a p1 σ (fun r1 => vp_in p1 6 ∧ (if r1 = (σ.1 (a + 2) p1.toNatClampNeg) then vp_in p1 6 ∧ True else True) ∧ ∀ z5 : Int32, z5 = (if r1 = (σ.1 (a + 2) p1.toNatClampNeg) then (σ.1 (a + 4) p1.toNatClampNeg) else (0 : Int32)) → Post (((σ.1 (a + 5) (1 : Int32).toNatClampNeg) * r1) + z5))
set_option maxRecDepth 100000 in
set_option maxHeartbeats 4000000 in
theorem g_X6_lostToTeeth {p : Program} {l : Launch} {e : Env} {R : Room} {s : State} {m : MethodId} {args : Array Value} {below : List Frame} {meth : Method} {c : Code} {Q : State → Prop} {g : zG} {n1 n2 : Nat} (C : zCX p R s m args meth c g n1 n2 cX6_lostToTeeth 3 RX6 2 45) {a : Nat} (ha : isX6 a) {p1 : Int32} {σ : zST} {Post : Int32 → Prop} (hret : ∀ (v : Int32) (pc : Nat) (lv : List (Nat × Value)), Post v → decode cX6_lostToTeeth pc = .ok (.ireturn, 1) → zGG p l e R s m args below meth c Q g n1 n2 3 pc lv [.int v] σ) (h : wp_X6_lostToTeeth a p1 σ Post) : zGG p l e R s m args below meth c Q g n1 n2 3 0 [(0, .ref (g.2.1 a)), (1, .int p1)] [] σ := by
  unfold wp_X6_lostToTeeth at h
  refine zr_aload_n C (zo_42 (p := 0) (zby_w zwX6_lostToTeeth_0 0 rfl)) rfl ?_
  refine zr_iload_n C (zo_27 (p := 1) (zby_w zwX6_lostToTeeth_0 1 rfl)) rfl ?_
  refine zr_cip (zr_runV (As := [.int p1]) (rest := []) C vw_X6_77 (c_X6_menToTeeth l g a ha p1 σ _ h) (shX6_0 ha) rfl (by decide) (by decide) rfl rfl (Nat.le_of_ble_eq_true rfl) (zo_182 (p := 2) (k := 77) (a := 0) (b := 77) (zby_w zwX6_lostToTeeth_0 2 rfl) (zby_w zwX6_lostToTeeth_0 3 rfl) (zby_w zwX6_lostToTeeth_0 4 rfl) (by decide))) (fun r1 h => ?_)
  refine zr_istore_n C [(2, .int r1), (0, .ref (g.2.1 a)), (1, .int p1)] (zo_61 (p := 5) (zby_w zwX6_lostToTeeth_0 5 rfl)) (by decide) rfl ?_
  refine zr_aload_n C (zo_42 (p := 6) (zby_w zwX6_lostToTeeth_0 6 rfl)) rfl ?_
  refine zr_getr (u := (a + 5)) C fw_X6_36 (shX6_0 ha) rfl (zo_180 (p := 7) (k := 36) (a := 0) (b := 36) (zby_w zwX6_lostToTeeth_0 7 rfl) (zby_w zwX6_lostToTeeth_0 8 rfl) (zby_w zwX6_lostToTeeth_0 9 rfl) (by decide)) ?_
  refine zr_iconst C (1 : Int32) (zo_4 (p := 10) (zby_w zwX6_lostToTeeth_0 10 rfl)) (by decide) ?_
  refine zr_iald C ((shX6_5 ha)) (by unfold vp_in; decide) (zo_46 (p := 11) (zby_w zwX6_lostToTeeth_0 11 rfl)) ?_
  refine zr_iload_n C (zo_28 (p := 12) (zby_w zwX6_lostToTeeth_0 12 rfl)) rfl ?_
  refine zr_imul C (zo_104 (p := 13) (zby_w zwX6_lostToTeeth_0 13 rfl)) ?_
  refine zr_iload_n C (zo_28 (p := 14) (zby_w zwX6_lostToTeeth_0 14 rfl)) rfl ?_
  refine zr_aload_n C (zo_42 (p := 15) (zby_w zwX6_lostToTeeth_0 15 rfl)) rfl ?_
  refine zr_getr (u := (a + 2)) C fw_X6_19 (shX6_0 ha) rfl (zo_180 (p := 16) (k := 19) (a := 0) (b := 19) (zby_w zwX6_lostToTeeth_0 16 rfl) (zby_w zwX6_lostToTeeth_0 17 rfl) (zby_w zwX6_lostToTeeth_0 18 rfl) (by decide)) ?_
  refine zr_iload_n C (zo_27 (p := 19) (zby_w zwX6_lostToTeeth_0 19 rfl)) rfl ?_
  obtain ⟨ho3, h⟩ := h
  refine zr_iald C ((shX6_2 ha)) ho3 (zo_46 (p := 20) (zby_w zwX6_lostToTeeth_0 20 rfl)) ?_
  obtain ⟨ho7, h⟩ := h
  have hJ6 : ∀ z5 : Int32, z5 = (if r1 = (σ.1 (a + 2) p1.toNatClampNeg) then (σ.1 (a + 4) p1.toNatClampNeg) else (0 : Int32)) → zGG p l e R s m args below meth c Q g n1 n2 3 34 [(2, .int r1), (0, .ref (g.2.1 a)), (1, .int p1)] [.int z5, .int ((σ.1 (a + 5) (1 : Int32).toNatClampNeg) * r1)] σ := by
    intro z5 hz5
    replace h := h z5 hz5
    refine zr_iadd C (zo_96 (p := 34) (zby_w zwX6_lostToTeeth_1 2 rfl)) ?_
    exact hret _ _ _ h (zo_172 (p := 35) (zby_w zwX6_lostToTeeth_1 3 rfl))
  refine zr_icmp_ne C 33 (zo_160 (p := 21) (k := 12) (a := 0) (b := 12) (zby_w zwX6_lostToTeeth_0 21 rfl) (zby_w zwX6_lostToTeeth_0 22 rfl) (zby_w zwX6_lostToTeeth_0 23 rfl) (by decide)) (by decide) (fun hc4 => ?_) (fun hc4 => ?_)
  · skip
    rw [if_neg hc4] at ho7
    refine zr_iconst C (0 : Int32) (zo_3 (p := 33) (zby_w zwX6_lostToTeeth_1 1 rfl)) (by decide) ?_
    exact hJ6 _ (by rw [if_neg hc4])
  · skip
    rw [if_pos hc4] at ho7
    refine zr_aload_n C (zo_42 (p := 24) (zby_w zwX6_lostToTeeth_0 24 rfl)) rfl ?_
    refine zr_getr (u := (a + 4)) C fw_X6_25 (shX6_0 ha) rfl (zo_180 (p := 25) (k := 25) (a := 0) (b := 25) (zby_w zwX6_lostToTeeth_0 25 rfl) (zby_w zwX6_lostToTeeth_0 26 rfl) (zby_w zwX6_lostToTeeth_0 27 rfl) (by decide)) ?_
    refine zr_iload_n C (zo_27 (p := 28) (zby_w zwX6_lostToTeeth_0 28 rfl)) rfl ?_
    obtain ⟨ho8, ho7⟩ := ho7
    refine zr_iald C ((shX6_4 ha)) ho8 (zo_46 (p := 29) (zby_w zwX6_lostToTeeth_0 29 rfl)) ?_
    refine zr_goto C 34 (zo_167 (p := 30) (k := 4) (a := 0) (b := 4) (zby_w zwX6_lostToTeeth_0 30 rfl) (zby_w zwX6_lostToTeeth_0 31 rfl) (zby_w zwX6_lostToTeeth_0 32 rfl) (by decide)) (by decide) ?_
    exact hJ6 _ (by rw [if_pos hc4])
set_option maxRecDepth 20000 in
theorem c_X6_lostToTeeth (l : Launch) (g : zG) (a : Nat) (ha : isX6 a) (p1 : Int32) (σ : zST) (Post : Int32 → Prop) (h : wp_X6_lostToTeeth a p1 σ Post) : Met l yX6_lostToTeeth (Cond.code yX6_lostToTeeth cX6_lostToTeeth 3 (some .int) :: zGW) (zRm 2 45) (va_Pc [.ref (g.2.1 a), .int p1] (zPP g σ)) (va_Qi (fun r u => Post r ∧ u = σ) (zBB g) (zA g)) 0 0 (zA g) :=
  zMet (by decide) (Nat.le_of_ble_eq_true rfl) (fun p e s m below meth c hr C => g_X6_lostToTeeth C ha (fun v pc lv hp hd => zr_iret C hr ⟨hp, rfl⟩ hd) h)
def wp_X6_whole (a : Nat) (p1 : Int32) (σ : zST) (Post : Int32 → Prop) : Prop := vp_in p1 6 ∧ vp_in p1 6 ∧ Post (((σ.1 (a + 5) (1 : Int32).toNatClampNeg) * (σ.1 (a + 2) p1.toNatClampNeg)) + (σ.1 (a + 4) p1.toNatClampNeg))
set_option maxRecDepth 100000 in
set_option maxHeartbeats 4000000 in
theorem g_X6_whole {p : Program} {l : Launch} {e : Env} {R : Room} {s : State} {m : MethodId} {args : Array Value} {below : List Frame} {meth : Method} {c : Code} {Q : State → Prop} {g : zG} {n1 n2 : Nat} (C : zCX p R s m args meth c g n1 n2 cX6_whole 2 RX6 0 0) {a : Nat} (ha : isX6 a) {p1 : Int32} {σ : zST} {Post : Int32 → Prop} (hret : ∀ (v : Int32) (pc : Nat) (lv : List (Nat × Value)), Post v → decode cX6_whole pc = .ok (.ireturn, 1) → zGG p l e R s m args below meth c Q g n1 n2 2 pc lv [.int v] σ) (h : wp_X6_whole a p1 σ Post) : zGG p l e R s m args below meth c Q g n1 n2 2 0 [(0, .ref (g.2.1 a)), (1, .int p1)] [] σ := by
  unfold wp_X6_whole at h
  refine zr_aload_n C (zo_42 (p := 0) (zby_w zwX6_whole_0 0 rfl)) rfl ?_
  refine zr_getr (u := (a + 5)) C fw_X6_36 (shX6_0 ha) rfl (zo_180 (p := 1) (k := 36) (a := 0) (b := 36) (zby_w zwX6_whole_0 1 rfl) (zby_w zwX6_whole_0 2 rfl) (zby_w zwX6_whole_0 3 rfl) (by decide)) ?_
  refine zr_iconst C (1 : Int32) (zo_4 (p := 4) (zby_w zwX6_whole_0 4 rfl)) (by decide) ?_
  refine zr_iald C ((shX6_5 ha)) (by unfold vp_in; decide) (zo_46 (p := 5) (zby_w zwX6_whole_0 5 rfl)) ?_
  refine zr_aload_n C (zo_42 (p := 6) (zby_w zwX6_whole_0 6 rfl)) rfl ?_
  refine zr_getr (u := (a + 2)) C fw_X6_19 (shX6_0 ha) rfl (zo_180 (p := 7) (k := 19) (a := 0) (b := 19) (zby_w zwX6_whole_0 7 rfl) (zby_w zwX6_whole_0 8 rfl) (zby_w zwX6_whole_0 9 rfl) (by decide)) ?_
  refine zr_iload_n C (zo_27 (p := 10) (zby_w zwX6_whole_0 10 rfl)) rfl ?_
  obtain ⟨ho1, h⟩ := h
  refine zr_iald C ((shX6_2 ha)) ho1 (zo_46 (p := 11) (zby_w zwX6_whole_0 11 rfl)) ?_
  refine zr_imul C (zo_104 (p := 12) (zby_w zwX6_whole_0 12 rfl)) ?_
  refine zr_aload_n C (zo_42 (p := 13) (zby_w zwX6_whole_0 13 rfl)) rfl ?_
  refine zr_getr (u := (a + 4)) C fw_X6_25 (shX6_0 ha) rfl (zo_180 (p := 14) (k := 25) (a := 0) (b := 25) (zby_w zwX6_whole_0 14 rfl) (zby_w zwX6_whole_0 15 rfl) (zby_w zwX6_whole_0 16 rfl) (by decide)) ?_
  refine zr_iload_n C (zo_27 (p := 17) (zby_w zwX6_whole_0 17 rfl)) rfl ?_
  obtain ⟨ho2, h⟩ := h
  refine zr_iald C ((shX6_4 ha)) ho2 (zo_46 (p := 18) (zby_w zwX6_whole_0 18 rfl)) ?_
  refine zr_iadd C (zo_96 (p := 19) (zby_w zwX6_whole_0 19 rfl)) ?_
  exact hret _ _ _ h (zo_172 (p := 20) (zby_w zwX6_whole_0 20 rfl))
set_option maxRecDepth 20000 in
theorem c_X6_whole (l : Launch) (g : zG) (a : Nat) (ha : isX6 a) (p1 : Int32) (σ : zST) (Post : Int32 → Prop) (h : wp_X6_whole a p1 σ Post) : Met l yX6_whole (Cond.code yX6_whole cX6_whole 2 (some .int) :: zGW) (zRm 0 0) (va_Pc [.ref (g.2.1 a), .int p1] (zPP g σ)) (va_Qi (fun r u => Post r ∧ u = σ) (zBB g) (zA g)) 0 0 (zA g) :=
  zMet (by decide) (Nat.le_of_ble_eq_true rfl) (fun p e s m below meth c hr C => g_X6_whole C ha (fun v pc lv hp hd => zr_iret C hr ⟨hp, rfl⟩ hd) h)
def wp_X6_meanBy (a : Nat) (p1 : Int32) (p2 : Int32) (p3 : Int32) (σ : zST) (Post : Int32 → Prop) : Prop := (if p2 = (1 : Int32) then wp_X6_digitAt a p3 σ (fun r7 => wp_X6_whole a p1 σ (fun r9 => Post (r7 * r9))) else (if p2 = (0) then wp_X6_lostToTeeth a p1 σ (fun r5 => Post ((10 : Int32) * r5)) else wp_X6_fare a p1 σ (fun r3 => Post ((10 : Int32) * r3))))
set_option maxRecDepth 100000 in
set_option maxHeartbeats 4000000 in
theorem g_X6_meanBy {p : Program} {l : Launch} {e : Env} {R : Room} {s : State} {m : MethodId} {args : Array Value} {below : List Frame} {meth : Method} {c : Code} {Q : State → Prop} {g : zG} {n1 n2 : Nat} (C : zCX p R s m args meth c g n1 n2 cX6_meanBy 4 RX6 3 67) {a : Nat} (ha : isX6 a) {p1 : Int32} {p2 : Int32} {p3 : Int32} {σ : zST} {Post : Int32 → Prop} (hret : ∀ (v : Int32) (pc : Nat) (lv : List (Nat × Value)), Post v → decode cX6_meanBy pc = .ok (.ireturn, 1) → zGG p l e R s m args below meth c Q g n1 n2 4 pc lv [.int v] σ) (h : wp_X6_meanBy a p1 p2 p3 σ Post) : zGG p l e R s m args below meth c Q g n1 n2 4 0 [(0, .ref (g.2.1 a)), (1, .int p1), (2, .int p2), (3, .int p3)] [] σ := by
  unfold wp_X6_meanBy at h
  refine zr_iload_n C (zo_28 (p := 0) (zby_w zwX6_meanBy_0 0 rfl)) rfl ?_
  refine zr_iconst C (1 : Int32) (zo_4 (p := 1) (zby_w zwX6_meanBy_0 1 rfl)) (by decide) ?_
  refine zr_icmp_ne C 17 (zo_160 (p := 2) (k := 15) (a := 0) (b := 15) (zby_w zwX6_meanBy_0 2 rfl) (zby_w zwX6_meanBy_0 3 rfl) (zby_w zwX6_meanBy_0 4 rfl) (by decide)) (by decide) (fun hc1 => ?_) (fun hc1 => ?_)
  · rw [if_neg hc1] at h
    refine zr_bipush C (10 : Int32) (zo_16 (p := 17) (k := 10) (a := 10) (zby_w zwX6_meanBy_0 17 rfl) (zby_w zwX6_meanBy_0 18 rfl) (by decide)) (by decide) ?_
    refine zr_iload_n C (zo_28 (p := 19) (zby_w zwX6_meanBy_0 19 rfl)) rfl ?_
    refine zr_if_ne C 31 (zo_154 (p := 20) (k := 11) (a := 0) (b := 11) (zby_w zwX6_meanBy_0 20 rfl) (zby_w zwX6_meanBy_0 21 rfl) (zby_w zwX6_meanBy_0 22 rfl) (by decide)) (by decide) (fun hc2 => ?_) (fun hc2 => ?_)
    · rw [if_neg hc2] at h
      refine zr_aload_n C (zo_42 (p := 31) (zby_w zwX6_meanBy_0 31 rfl)) rfl ?_
      refine zr_iload_n C (zo_27 (p := 32) (zby_w zwX6_meanBy_1 0 rfl)) rfl ?_
      refine zr_cip (zr_runV (As := [.int p1]) (rest := [.int (10 : Int32)]) C vw_X6_73 (c_X6_fare l g a ha p1 σ _ h) (shX6_0 ha) rfl (by decide) (by decide) rfl rfl (Nat.le_of_ble_eq_true rfl) (zo_182 (p := 33) (k := 73) (a := 0) (b := 73) (zby_w zwX6_meanBy_1 1 rfl) (zby_w zwX6_meanBy_1 2 rfl) (zby_w zwX6_meanBy_1 3 rfl) (by decide))) (fun r3 h => ?_)
      refine zr_imul C d_X6_meanBy_36 ?_
      exact hret _ _ _ h d_X6_meanBy_37
    · rw [if_pos hc2] at h
      refine zr_aload_n C (zo_42 (p := 23) (zby_w zwX6_meanBy_0 23 rfl)) rfl ?_
      refine zr_iload_n C (zo_27 (p := 24) (zby_w zwX6_meanBy_0 24 rfl)) rfl ?_
      refine zr_cip (zr_runV (As := [.int p1]) (rest := [.int (10 : Int32)]) C vw_X6_101 (c_X6_lostToTeeth l g a ha p1 σ _ h) (shX6_0 ha) rfl (by decide) (by decide) rfl rfl (Nat.le_of_ble_eq_true rfl) (zo_182 (p := 25) (k := 101) (a := 0) (b := 101) (zby_w zwX6_meanBy_0 25 rfl) (zby_w zwX6_meanBy_0 26 rfl) (zby_w zwX6_meanBy_0 27 rfl) (by decide))) (fun r5 h => ?_)
      refine zr_goto C 36 (zo_167 (p := 28) (k := 8) (a := 0) (b := 8) (zby_w zwX6_meanBy_0 28 rfl) (zby_w zwX6_meanBy_0 29 rfl) (zby_w zwX6_meanBy_0 30 rfl) (by decide)) (by decide) ?_
      refine zr_imul C d_X6_meanBy_36 ?_
      exact hret _ _ _ h d_X6_meanBy_37
  · rw [if_pos hc1] at h
    refine zr_aload_n C (zo_42 (p := 5) (zby_w zwX6_meanBy_0 5 rfl)) rfl ?_
    refine zr_iload_n C (zo_29 (p := 6) (zby_w zwX6_meanBy_0 6 rfl)) rfl ?_
    refine zr_cip (zr_runV (As := [.int p3]) (rest := []) C vw_X6_92 (c_X6_digitAt l g a ha p3 σ _ h) (shX6_0 ha) rfl (by decide) (by decide) rfl rfl (Nat.le_of_ble_eq_true rfl) (zo_182 (p := 7) (k := 92) (a := 0) (b := 92) (zby_w zwX6_meanBy_0 7 rfl) (zby_w zwX6_meanBy_0 8 rfl) (zby_w zwX6_meanBy_0 9 rfl) (by decide))) (fun r7 h => ?_)
    refine zr_aload_n C (zo_42 (p := 10) (zby_w zwX6_meanBy_0 10 rfl)) rfl ?_
    refine zr_iload_n C (zo_27 (p := 11) (zby_w zwX6_meanBy_0 11 rfl)) rfl ?_
    refine zr_cip (zr_runV (As := [.int p1]) (rest := [.int r7]) C vw_X6_98 (c_X6_whole l g a ha p1 σ _ h) (shX6_0 ha) rfl (by decide) (by decide) rfl rfl (Nat.le_of_ble_eq_true rfl) (zo_182 (p := 12) (k := 98) (a := 0) (b := 98) (zby_w zwX6_meanBy_0 12 rfl) (zby_w zwX6_meanBy_0 13 rfl) (zby_w zwX6_meanBy_0 14 rfl) (by decide))) (fun r9 h => ?_)
    refine zr_imul C (zo_104 (p := 15) (zby_w zwX6_meanBy_0 15 rfl)) ?_
    exact hret _ _ _ h (zo_172 (p := 16) (zby_w zwX6_meanBy_0 16 rfl))
set_option maxRecDepth 20000 in
theorem c_X6_meanBy (l : Launch) (g : zG) (a : Nat) (ha : isX6 a) (p1 : Int32) (p2 : Int32) (p3 : Int32) (σ : zST) (Post : Int32 → Prop) (h : wp_X6_meanBy a p1 p2 p3 σ Post) : Met l yX6_meanBy (Cond.code yX6_meanBy cX6_meanBy 4 (some .int) :: zGW) (zRm 3 67) (va_Pc [.ref (g.2.1 a), .int p1, .int p2, .int p3] (zPP g σ)) (va_Qi (fun r u => Post r ∧ u = σ) (zBB g) (zA g)) 0 0 (zA g) :=
  zMet (by decide) (Nat.le_of_ble_eq_true rfl) (fun p e s m below meth c hr C => g_X6_meanBy C ha (fun v pc lv hp hd => zr_iret C hr ⟨hp, rfl⟩ hd) h)
def wp_X6_worstBy (a : Nat) (p1 : Int32) (p2 : Int32) (p3 : Int32) (σ : zST) (Post : Int32 → Prop) : Prop := (if p2 = (1 : Int32) then wp_X6_digitAt a p3 σ (fun r7 => (if r7 ≤ (0) then Post (0 : Int32) else wp_X6_whole a p1 σ (fun r10 => Post r10))) else (if p2 = (0) then wp_X6_lostToTeeth a p1 σ (fun r5 => Post r5) else wp_X6_fare a p1 σ (fun r3 => Post r3)))
set_option maxRecDepth 100000 in
set_option maxHeartbeats 4000000 in
theorem g_X6_worstBy {p : Program} {l : Launch} {e : Env} {R : Room} {s : State} {m : MethodId} {args : Array Value} {below : List Frame} {meth : Method} {c : Code} {Q : State → Prop} {g : zG} {n1 n2 : Nat} (C : zCX p R s m args meth c g n1 n2 cX6_worstBy 4 RX6 3 67) {a : Nat} (ha : isX6 a) {p1 : Int32} {p2 : Int32} {p3 : Int32} {σ : zST} {Post : Int32 → Prop} (hret : ∀ (v : Int32) (pc : Nat) (lv : List (Nat × Value)), Post v → decode cX6_worstBy pc = .ok (.ireturn, 1) → zGG p l e R s m args below meth c Q g n1 n2 4 pc lv [.int v] σ) (h : wp_X6_worstBy a p1 p2 p3 σ Post) : zGG p l e R s m args below meth c Q g n1 n2 4 0 [(0, .ref (g.2.1 a)), (1, .int p1), (2, .int p2), (3, .int p3)] [] σ := by
  unfold wp_X6_worstBy at h
  refine zr_iload_n C (zo_28 (p := 0) (zby_w zwX6_worstBy_0 0 rfl)) rfl ?_
  refine zr_iconst C (1 : Int32) (zo_4 (p := 1) (zby_w zwX6_worstBy_0 1 rfl)) (by decide) ?_
  refine zr_icmp_ne C 23 (zo_160 (p := 2) (k := 21) (a := 0) (b := 21) (zby_w zwX6_worstBy_0 2 rfl) (zby_w zwX6_worstBy_0 3 rfl) (zby_w zwX6_worstBy_0 4 rfl) (by decide)) (by decide) (fun hc1 => ?_) (fun hc1 => ?_)
  · rw [if_neg hc1] at h
    refine zr_iload_n C (zo_28 (p := 23) (zby_w zwX6_worstBy_0 23 rfl)) rfl ?_
    refine zr_if_ne C 35 (zo_154 (p := 24) (k := 11) (a := 0) (b := 11) (zby_w zwX6_worstBy_0 24 rfl) (zby_w zwX6_worstBy_0 25 rfl) (zby_w zwX6_worstBy_0 26 rfl) (by decide)) (by decide) (fun hc2 => ?_) (fun hc2 => ?_)
    · rw [if_neg hc2] at h
      refine zr_aload_n C (zo_42 (p := 35) (zby_w zwX6_worstBy_1 3 rfl)) rfl ?_
      refine zr_iload_n C (zo_27 (p := 36) (zby_w zwX6_worstBy_1 4 rfl)) rfl ?_
      refine zr_cip (zr_runV (As := [.int p1]) (rest := []) C vw_X6_73 (c_X6_fare l g a ha p1 σ _ h) (shX6_0 ha) rfl (by decide) (by decide) rfl rfl (Nat.le_of_ble_eq_true rfl) (zo_182 (p := 37) (k := 73) (a := 0) (b := 73) (zby_w zwX6_worstBy_1 5 rfl) (zby_w zwX6_worstBy_1 6 rfl) (zby_w zwX6_worstBy_1 7 rfl) (by decide))) (fun r3 h => ?_)
      exact hret _ _ _ h d_X6_worstBy_40
    · rw [if_pos hc2] at h
      refine zr_aload_n C (zo_42 (p := 27) (zby_w zwX6_worstBy_0 27 rfl)) rfl ?_
      refine zr_iload_n C (zo_27 (p := 28) (zby_w zwX6_worstBy_0 28 rfl)) rfl ?_
      refine zr_cip (zr_runV (As := [.int p1]) (rest := []) C vw_X6_101 (c_X6_lostToTeeth l g a ha p1 σ _ h) (shX6_0 ha) rfl (by decide) (by decide) rfl rfl (Nat.le_of_ble_eq_true rfl) (zo_182 (p := 29) (k := 101) (a := 0) (b := 101) (zby_w zwX6_worstBy_0 29 rfl) (zby_w zwX6_worstBy_0 30 rfl) (zby_w zwX6_worstBy_0 31 rfl) (by decide))) (fun r5 h => ?_)
      refine zr_goto C 40 (zo_167 (p := 32) (k := 8) (a := 0) (b := 8) (zby_w zwX6_worstBy_1 0 rfl) (zby_w zwX6_worstBy_1 1 rfl) (zby_w zwX6_worstBy_1 2 rfl) (by decide)) (by decide) ?_
      exact hret _ _ _ h d_X6_worstBy_40
  · rw [if_pos hc1] at h
    refine zr_aload_n C (zo_42 (p := 5) (zby_w zwX6_worstBy_0 5 rfl)) rfl ?_
    refine zr_iload_n C (zo_29 (p := 6) (zby_w zwX6_worstBy_0 6 rfl)) rfl ?_
    refine zr_cip (zr_runV (As := [.int p3]) (rest := []) C vw_X6_92 (c_X6_digitAt l g a ha p3 σ _ h) (shX6_0 ha) rfl (by decide) (by decide) rfl rfl (Nat.le_of_ble_eq_true rfl) (zo_182 (p := 7) (k := 92) (a := 0) (b := 92) (zby_w zwX6_worstBy_0 7 rfl) (zby_w zwX6_worstBy_0 8 rfl) (zby_w zwX6_worstBy_0 9 rfl) (by decide))) (fun r7 h => ?_)
    refine zr_if_le C 21 (zo_158 (p := 10) (k := 11) (a := 0) (b := 11) (zby_w zwX6_worstBy_0 10 rfl) (zby_w zwX6_worstBy_0 11 rfl) (zby_w zwX6_worstBy_0 12 rfl) (by decide)) (by decide) (fun hc9 => ?_) (fun hc9 => ?_)
    · rw [if_pos hc9] at h
      refine zr_iconst C (0 : Int32) (zo_3 (p := 21) (zby_w zwX6_worstBy_0 21 rfl)) (by decide) ?_
      exact hret _ _ _ h d_X6_worstBy_22
    · rw [if_neg hc9] at h
      refine zr_aload_n C (zo_42 (p := 13) (zby_w zwX6_worstBy_0 13 rfl)) rfl ?_
      refine zr_iload_n C (zo_27 (p := 14) (zby_w zwX6_worstBy_0 14 rfl)) rfl ?_
      refine zr_cip (zr_runV (As := [.int p1]) (rest := []) C vw_X6_98 (c_X6_whole l g a ha p1 σ _ h) (shX6_0 ha) rfl (by decide) (by decide) rfl rfl (Nat.le_of_ble_eq_true rfl) (zo_182 (p := 15) (k := 98) (a := 0) (b := 98) (zby_w zwX6_worstBy_0 15 rfl) (zby_w zwX6_worstBy_0 16 rfl) (zby_w zwX6_worstBy_0 17 rfl) (by decide))) (fun r10 h => ?_)
      refine zr_goto C 22 (zo_167 (p := 18) (k := 4) (a := 0) (b := 4) (zby_w zwX6_worstBy_0 18 rfl) (zby_w zwX6_worstBy_0 19 rfl) (zby_w zwX6_worstBy_0 20 rfl) (by decide)) (by decide) ?_
      exact hret _ _ _ h d_X6_worstBy_22
set_option maxRecDepth 20000 in
theorem c_X6_worstBy (l : Launch) (g : zG) (a : Nat) (ha : isX6 a) (p1 : Int32) (p2 : Int32) (p3 : Int32) (σ : zST) (Post : Int32 → Prop) (h : wp_X6_worstBy a p1 p2 p3 σ Post) : Met l yX6_worstBy (Cond.code yX6_worstBy cX6_worstBy 4 (some .int) :: zGW) (zRm 3 67) (va_Pc [.ref (g.2.1 a), .int p1, .int p2, .int p3] (zPP g σ)) (va_Qi (fun r u => Post r ∧ u = σ) (zBB g) (zA g)) 0 0 (zA g) :=
  zMet (by decide) (Nat.le_of_ble_eq_true rfl) (fun p e s m below meth c hr C => g_X6_worstBy C ha (fun v pc lv hp hd => zr_iret C hr ⟨hp, rfl⟩ hd) h)
