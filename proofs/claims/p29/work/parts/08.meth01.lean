def wp_X6_ownersSide_L5 (a : Nat) (v1 : Int32) (v2 : Int32) (σ : zST) (Post : Int32 → Prop) : Nat → Int32 → Int32 → Prop
  | 0, _, _ => False
  | N + 1, v3, v4 => (if (3 : Int32) ≤ v4 then Post v3 else wp_X6_meanBy a v1 v4 v2 σ (fun r2 => wp_X6_meanBy a v1 v3 v2 σ (fun r4 => (if r4 ≤ r2 then wp_X6_ownersSide_L5 a v1 v2 σ Post N v3 (v4 + 1) else wp_X6_ownersSide_L5 a v1 v2 σ Post N v4 (v4 + 1)))))

set_option maxRecDepth 100000 in
set_option maxHeartbeats 4000000 in
theorem g_X6_ownersSide_L5 {p : Program} {l : Launch} {e : Env} {R : Room} {s : State} {m : MethodId} {args : Array Value} {below : List Frame} {meth : Method} {c : Code} {Q : State → Prop} {g : zG} {n1 n2 : Nat} (C : zCX p R s m args meth c g n1 n2 cX6_ownersSide 5 RX6 4 90) {a : Nat} (ha : isX6 a) {v1 : Int32} {v2 : Int32} {σ : zST}  {Post : Int32 → Prop} (hret : ∀ (v : Int32) (pc : Nat) (lv : List (Nat × Value)), Post v → decode cX6_ownersSide pc = .ok (.ireturn, 1) → zGG p l e R s m args below meth c Q g n1 n2 5 pc lv [.int v] σ) : ∀ (N : Nat) (v3 : Int32) (v4 : Int32) , wp_X6_ownersSide_L5 a v1 v2 σ Post N v3 v4 → zGG p l e R s m args below meth c Q g n1 n2 5 5 [(0, .ref (g.2.1 a)), (1, .int v1), (2, .int v2), (3, .int v3), (4, .int v4)] [] σ := by
  intro N
  induction N with
  | zero =>
    intro v3 v4 h
    exact h.elim
  | succ N ih =>
    intro v3 v4 h
    rw [wp_X6_ownersSide_L5] at h
    refine zr_iload C (zo_21 (p := 5) (k := 4) (a := 4) (zby_w zwX6_ownersSide_0 5 rfl) (zby_w zwX6_ownersSide_0 6 rfl) (by decide)) rfl ?_
    refine zr_iconst C (3 : Int32) (zo_6 (p := 7) (zby_w zwX6_ownersSide_0 7 rfl)) (by decide) ?_
    refine zr_icmp_ge C 38 (zo_162 (p := 8) (k := 30) (a := 0) (b := 30) (zby_w zwX6_ownersSide_0 8 rfl) (zby_w zwX6_ownersSide_0 9 rfl) (zby_w zwX6_ownersSide_0 10 rfl) (by decide)) (by decide) (fun hc1 => ?_) (fun hc1 => ?_)
    · rw [if_pos hc1] at h
      refine zr_iload_n C (zo_29 (p := 38) (zby_w zwX6_ownersSide_1 6 rfl)) rfl ?_
      exact hret _ _ _ h (zo_172 (p := 39) (zby_w zwX6_ownersSide_1 7 rfl))
    · rw [if_neg hc1] at h
      refine zr_aload_n C (zo_42 (p := 11) (zby_w zwX6_ownersSide_0 11 rfl)) rfl ?_
      refine zr_iload_n C (zo_27 (p := 12) (zby_w zwX6_ownersSide_0 12 rfl)) rfl ?_
      refine zr_iload C (zo_21 (p := 13) (k := 4) (a := 4) (zby_w zwX6_ownersSide_0 13 rfl) (zby_w zwX6_ownersSide_0 14 rfl) (by decide)) rfl ?_
      refine zr_iload_n C (zo_28 (p := 15) (zby_w zwX6_ownersSide_0 15 rfl)) rfl ?_
      refine zr_cip (zr_runV (As := [.int v1, .int v4, .int v2]) (rest := []) C vw_X6_104 (c_X6_meanBy l g a ha v1 v4 v2 σ _ h) (shX6_0 ha) rfl (by decide) (by decide) rfl rfl (Nat.le_of_ble_eq_true rfl) (zo_182 (p := 16) (k := 104) (a := 0) (b := 104) (zby_w zwX6_ownersSide_0 16 rfl) (zby_w zwX6_ownersSide_0 17 rfl) (zby_w zwX6_ownersSide_0 18 rfl) (by decide))) (fun r2 h => ?_)
      refine zr_aload_n C (zo_42 (p := 19) (zby_w zwX6_ownersSide_0 19 rfl)) rfl ?_
      refine zr_iload_n C (zo_27 (p := 20) (zby_w zwX6_ownersSide_0 20 rfl)) rfl ?_
      refine zr_iload_n C (zo_29 (p := 21) (zby_w zwX6_ownersSide_0 21 rfl)) rfl ?_
      refine zr_iload_n C (zo_28 (p := 22) (zby_w zwX6_ownersSide_0 22 rfl)) rfl ?_
      refine zr_cip (zr_runV (As := [.int v1, .int v3, .int v2]) (rest := [.int r2]) C vw_X6_104 (c_X6_meanBy l g a ha v1 v3 v2 σ _ h) (shX6_0 ha) rfl (by decide) (by decide) rfl rfl (Nat.le_of_ble_eq_true rfl) (zo_182 (p := 23) (k := 104) (a := 0) (b := 104) (zby_w zwX6_ownersSide_0 23 rfl) (zby_w zwX6_ownersSide_0 24 rfl) (zby_w zwX6_ownersSide_0 25 rfl) (by decide))) (fun r4 h => ?_)
      refine zr_icmp_ge C 32 (zo_162 (p := 26) (k := 6) (a := 0) (b := 6) (zby_w zwX6_ownersSide_0 26 rfl) (zby_w zwX6_ownersSide_0 27 rfl) (zby_w zwX6_ownersSide_0 28 rfl) (by decide)) (by decide) (fun hc6 => ?_) (fun hc6 => ?_)
      · rw [if_pos hc6] at h
        refine zr_iinc C (v4 + 1) [(4, .int (v4 + 1)), (0, .ref (g.2.1 a)), (1, .int v1), (2, .int v2), (3, .int v3)] d_X6_ownersSide_32 rfl rfl (by decide) rfl ?_
        refine zr_goto C 5 d_X6_ownersSide_35 (by decide) ?_
        exact zr_pick [1, 2, 3, 4, 0] rfl (ih v3 (v4 + 1) h)
      · rw [if_neg hc6] at h
        refine zr_iload C (zo_21 (p := 29) (k := 4) (a := 4) (zby_w zwX6_ownersSide_0 29 rfl) (zby_w zwX6_ownersSide_0 30 rfl) (by decide)) rfl ?_
        refine zr_istore_n C [(3, .int v4), (0, .ref (g.2.1 a)), (1, .int v1), (2, .int v2), (4, .int v4)] (zo_62 (p := 31) (zby_w zwX6_ownersSide_0 31 rfl)) (by decide) rfl ?_
        refine zr_iinc C (v4 + 1) [(4, .int (v4 + 1)), (3, .int v4), (0, .ref (g.2.1 a)), (1, .int v1), (2, .int v2)] d_X6_ownersSide_32 rfl rfl (by decide) rfl ?_
        refine zr_goto C 5 d_X6_ownersSide_35 (by decide) ?_
        exact zr_pick [2, 3, 4, 1, 0] rfl (ih v4 (v4 + 1) h)

def wp_X6_ownersSide (a : Nat) (p1 : Int32) (p2 : Int32) (σ : zST) (Post : Int32 → Prop) : Prop := ∃ M7 : Nat, wp_X6_ownersSide_L5 a p1 p2 σ Post M7 (0 : Int32) (1 : Int32)
set_option maxRecDepth 100000 in
set_option maxHeartbeats 4000000 in
theorem g_X6_ownersSide {p : Program} {l : Launch} {e : Env} {R : Room} {s : State} {m : MethodId} {args : Array Value} {below : List Frame} {meth : Method} {c : Code} {Q : State → Prop} {g : zG} {n1 n2 : Nat} (C : zCX p R s m args meth c g n1 n2 cX6_ownersSide 5 RX6 4 90) {a : Nat} (ha : isX6 a) {p1 : Int32} {p2 : Int32} {σ : zST} {Post : Int32 → Prop} (hret : ∀ (v : Int32) (pc : Nat) (lv : List (Nat × Value)), Post v → decode cX6_ownersSide pc = .ok (.ireturn, 1) → zGG p l e R s m args below meth c Q g n1 n2 5 pc lv [.int v] σ) (h : wp_X6_ownersSide a p1 p2 σ Post) : zGG p l e R s m args below meth c Q g n1 n2 5 0 [(0, .ref (g.2.1 a)), (1, .int p1), (2, .int p2)] [] σ := by
  unfold wp_X6_ownersSide at h
  refine zr_iconst C (0 : Int32) (zo_3 (p := 0) (zby_w zwX6_ownersSide_0 0 rfl)) (by decide) ?_
  refine zr_istore_n C [(3, .int (0 : Int32)), (0, .ref (g.2.1 a)), (1, .int p1), (2, .int p2)] (zo_62 (p := 1) (zby_w zwX6_ownersSide_0 1 rfl)) (by decide) rfl ?_
  refine zr_iconst C (1 : Int32) (zo_4 (p := 2) (zby_w zwX6_ownersSide_0 2 rfl)) (by decide) ?_
  refine zr_istore C [(4, .int (1 : Int32)), (3, .int (0 : Int32)), (0, .ref (g.2.1 a)), (1, .int p1), (2, .int p2)] (zo_54 (p := 3) (k := 4) (a := 4) (zby_w zwX6_ownersSide_0 3 rfl) (zby_w zwX6_ownersSide_0 4 rfl) (by decide)) (by decide) rfl ?_
  obtain ⟨M7, h⟩ := h
  exact zr_pick [2, 3, 4, 1, 0] rfl (g_X6_ownersSide_L5 C ha hret M7 (0 : Int32) (1 : Int32) h)
set_option maxRecDepth 20000 in
theorem c_X6_ownersSide (l : Launch) (g : zG) (a : Nat) (ha : isX6 a) (p1 : Int32) (p2 : Int32) (σ : zST) (Post : Int32 → Prop) (h : wp_X6_ownersSide a p1 p2 σ Post) : Met l yX6_ownersSide (Cond.code yX6_ownersSide cX6_ownersSide 5 (some .int) :: zGW) (zRm 4 90) (va_Pc [.ref (g.2.1 a), .int p1, .int p2] (zPP g σ)) (va_Qi (fun r u => Post r ∧ u = σ) (zBB g) (zA g)) 0 0 (zA g) :=
  zMet (by decide) (Nat.le_of_ble_eq_true rfl) (fun p e s m below meth c hr C => g_X6_ownersSide C ha (fun v pc lv hp hd => zr_iret C hr ⟨hp, rfl⟩ hd) h)
def wp_X6_leastMean (a : Nat) (p1 : Int32) (p2 : Int32) (σ : zST) (Post : Int32 → Prop) : Prop := wp_X6_ownersSide a p1 p2 σ (fun r1 => wp_X6_meanBy a p1 r1 p2 σ (fun r3 => Post r3))
set_option maxRecDepth 100000 in
set_option maxHeartbeats 4000000 in
theorem g_X6_leastMean {p : Program} {l : Launch} {e : Env} {R : Room} {s : State} {m : MethodId} {args : Array Value} {below : List Frame} {meth : Method} {c : Code} {Q : State → Prop} {g : zG} {n1 n2 : Nat} (C : zCX p R s m args meth c g n1 n2 cX6_leastMean 3 RX6 5 114) {a : Nat} (ha : isX6 a) {p1 : Int32} {p2 : Int32} {σ : zST} {Post : Int32 → Prop} (hret : ∀ (v : Int32) (pc : Nat) (lv : List (Nat × Value)), Post v → decode cX6_leastMean pc = .ok (.ireturn, 1) → zGG p l e R s m args below meth c Q g n1 n2 3 pc lv [.int v] σ) (h : wp_X6_leastMean a p1 p2 σ Post) : zGG p l e R s m args below meth c Q g n1 n2 3 0 [(0, .ref (g.2.1 a)), (1, .int p1), (2, .int p2)] [] σ := by
  unfold wp_X6_leastMean at h
  refine zr_aload_n C (zo_42 (p := 0) (zby_w zwX6_leastMean_0 0 rfl)) rfl ?_
  refine zr_iload_n C (zo_27 (p := 1) (zby_w zwX6_leastMean_0 1 rfl)) rfl ?_
  refine zr_aload_n C (zo_42 (p := 2) (zby_w zwX6_leastMean_0 2 rfl)) rfl ?_
  refine zr_iload_n C (zo_27 (p := 3) (zby_w zwX6_leastMean_0 3 rfl)) rfl ?_
  refine zr_iload_n C (zo_28 (p := 4) (zby_w zwX6_leastMean_0 4 rfl)) rfl ?_
  refine zr_cip (zr_runV (As := [.int p1, .int p2]) (rest := [.int p1, .ref (g.2.1 a)]) C vw_X6_108 (c_X6_ownersSide l g a ha p1 p2 σ _ h) (shX6_0 ha) rfl (by decide) (by decide) rfl rfl (Nat.le_of_ble_eq_true rfl) (zo_182 (p := 5) (k := 108) (a := 0) (b := 108) (zby_w zwX6_leastMean_0 5 rfl) (zby_w zwX6_leastMean_0 6 rfl) (zby_w zwX6_leastMean_0 7 rfl) (by decide))) (fun r1 h => ?_)
  refine zr_iload_n C (zo_28 (p := 8) (zby_w zwX6_leastMean_0 8 rfl)) rfl ?_
  refine zr_cip (zr_runV (As := [.int p1, .int r1, .int p2]) (rest := []) C vw_X6_104 (c_X6_meanBy l g a ha p1 r1 p2 σ _ h) (shX6_0 ha) rfl (by decide) (by decide) rfl rfl (Nat.le_of_ble_eq_true rfl) (zo_182 (p := 9) (k := 104) (a := 0) (b := 104) (zby_w zwX6_leastMean_0 9 rfl) (zby_w zwX6_leastMean_0 10 rfl) (zby_w zwX6_leastMean_0 11 rfl) (by decide))) (fun r3 h => ?_)
  exact hret _ _ _ h (zo_172 (p := 12) (zby_w zwX6_leastMean_0 12 rfl))
set_option maxRecDepth 20000 in
theorem c_X6_leastMean (l : Launch) (g : zG) (a : Nat) (ha : isX6 a) (p1 : Int32) (p2 : Int32) (σ : zST) (Post : Int32 → Prop) (h : wp_X6_leastMean a p1 p2 σ Post) : Met l yX6_leastMean (Cond.code yX6_leastMean cX6_leastMean 3 (some .int) :: zGW) (zRm 5 114) (va_Pc [.ref (g.2.1 a), .int p1, .int p2] (zPP g σ)) (va_Qi (fun r u => Post r ∧ u = σ) (zBB g) (zA g)) 0 0 (zA g) :=
  zMet (by decide) (Nat.le_of_ble_eq_true rfl) (fun p e s m below meth c hr C => g_X6_leastMean C ha (fun v pc lv hp hd => zr_iret C hr ⟨hp, rfl⟩ hd) h)
def wp_X6_rewardFor (a : Nat) (p1 : Int32) (p2 : Int32) (σ : zST) (Post : Int32 → Prop) : Prop := ∀ z2 : Int32, z2 = (if p1 = (0) then (0 : Int32) else ((σ.1 (a + 5) (5 : Int32).toNatClampNeg) + (p2 * p1))) → Post z2
set_option maxRecDepth 100000 in
set_option maxHeartbeats 4000000 in
theorem g_X6_rewardFor {p : Program} {l : Launch} {e : Env} {R : Room} {s : State} {m : MethodId} {args : Array Value} {below : List Frame} {meth : Method} {c : Code} {Q : State → Prop} {g : zG} {n1 n2 : Nat} (C : zCX p R s m args meth c g n1 n2 cX6_rewardFor 3 RX6 0 0) {a : Nat} (ha : isX6 a) {p1 : Int32} {p2 : Int32} {σ : zST} {Post : Int32 → Prop} (hret : ∀ (v : Int32) (pc : Nat) (lv : List (Nat × Value)), Post v → decode cX6_rewardFor pc = .ok (.ireturn, 1) → zGG p l e R s m args below meth c Q g n1 n2 3 pc lv [.int v] σ) (h : wp_X6_rewardFor a p1 p2 σ Post) : zGG p l e R s m args below meth c Q g n1 n2 3 0 [(0, .ref (g.2.1 a)), (1, .int p1), (2, .int p2)] [] σ := by
  unfold wp_X6_rewardFor at h
  refine zr_iload_n C (zo_27 (p := 0) (zby_w zwX6_rewardFor_0 0 rfl)) rfl ?_
  have hJ3 : ∀ z2 : Int32, z2 = (if p1 = (0) then (0 : Int32) else ((σ.1 (a + 5) (5 : Int32).toNatClampNeg) + (p2 * p1))) → zGG p l e R s m args below meth c Q g n1 n2 3 18 [(0, .ref (g.2.1 a)), (1, .int p1), (2, .int p2)] [.int z2] σ := by
    intro z2 hz2
    replace h := h z2 hz2
    exact hret _ _ _ h (zo_172 (p := 18) (zby_w zwX6_rewardFor_0 18 rfl))
  refine zr_if_ne C 8 (zo_154 (p := 1) (k := 7) (a := 0) (b := 7) (zby_w zwX6_rewardFor_0 1 rfl) (zby_w zwX6_rewardFor_0 2 rfl) (zby_w zwX6_rewardFor_0 3 rfl) (by decide)) (by decide) (fun hc1 => ?_) (fun hc1 => ?_)
  · skip
    refine zr_aload_n C (zo_42 (p := 8) (zby_w zwX6_rewardFor_0 8 rfl)) rfl ?_
    refine zr_getr (u := (a + 5)) C fw_X6_36 (shX6_0 ha) rfl (zo_180 (p := 9) (k := 36) (a := 0) (b := 36) (zby_w zwX6_rewardFor_0 9 rfl) (zby_w zwX6_rewardFor_0 10 rfl) (zby_w zwX6_rewardFor_0 11 rfl) (by decide)) ?_
    refine zr_iconst C (5 : Int32) (zo_8 (p := 12) (zby_w zwX6_rewardFor_0 12 rfl)) (by decide) ?_
    refine zr_iald C ((shX6_5 ha)) (by unfold vp_in; decide) (zo_46 (p := 13) (zby_w zwX6_rewardFor_0 13 rfl)) ?_
    refine zr_iload_n C (zo_28 (p := 14) (zby_w zwX6_rewardFor_0 14 rfl)) rfl ?_
    refine zr_iload_n C (zo_27 (p := 15) (zby_w zwX6_rewardFor_0 15 rfl)) rfl ?_
    refine zr_imul C (zo_104 (p := 16) (zby_w zwX6_rewardFor_0 16 rfl)) ?_
    refine zr_iadd C (zo_96 (p := 17) (zby_w zwX6_rewardFor_0 17 rfl)) ?_
    exact hJ3 _ (by rw [if_neg hc1])
  · skip
    refine zr_iconst C (0 : Int32) (zo_3 (p := 4) (zby_w zwX6_rewardFor_0 4 rfl)) (by decide) ?_
    refine zr_goto C 18 (zo_167 (p := 5) (k := 13) (a := 0) (b := 13) (zby_w zwX6_rewardFor_0 5 rfl) (zby_w zwX6_rewardFor_0 6 rfl) (zby_w zwX6_rewardFor_0 7 rfl) (by decide)) (by decide) ?_
    exact hJ3 _ (by rw [if_pos hc1])
set_option maxRecDepth 20000 in
theorem c_X6_rewardFor (l : Launch) (g : zG) (a : Nat) (ha : isX6 a) (p1 : Int32) (p2 : Int32) (σ : zST) (Post : Int32 → Prop) (h : wp_X6_rewardFor a p1 p2 σ Post) : Met l yX6_rewardFor (Cond.code yX6_rewardFor cX6_rewardFor 3 (some .int) :: zGW) (zRm 0 0) (va_Pc [.ref (g.2.1 a), .int p1, .int p2] (zPP g σ)) (va_Qi (fun r u => Post r ∧ u = σ) (zBB g) (zA g)) 0 0 (zA g) :=
  zMet (by decide) (Nat.le_of_ble_eq_true rfl) (fun p e s m below meth c hr C => g_X6_rewardFor C ha (fun v pc lv hp hd => zr_iret C hr ⟨hp, rfl⟩ hd) h)
def wp_X6_captainGets (a : Nat) (p1 : Int32) (p2 : Int32) (p3 : Int32) (p4 : Int32) (σ : zST) (Post : Int32 → Prop) : Prop := (if p2 = (0) then vp_in p1 6 ∧ wp_X6_menToTeeth a p1 σ (fun r9 => wp_X6_rewardFor a ((σ.1 (a + 2) p1.toNatClampNeg) - r9) p4 σ (fun r11 => Post ((10 : Int32) * r11))) else vp_in p1 6 ∧ wp_X6_rewardFor a (σ.1 (a + 2) p1.toNatClampNeg) p4 σ (fun r3 => (if p2 = (1 : Int32) then wp_X6_digitAt a p3 σ (fun r6 => Post (((10 : Int32) - r6) * r3)) else Post ((10 : Int32) * (r3 - (σ.1 (a + 5) (3 : Int32).toNatClampNeg))))))
set_option maxRecDepth 100000 in
set_option maxHeartbeats 4000000 in
theorem g_X6_captainGets {p : Program} {l : Launch} {e : Env} {R : Room} {s : State} {m : MethodId} {args : Array Value} {below : List Frame} {meth : Method} {c : Code} {Q : State → Prop} {g : zG} {n1 n2 : Nat} (C : zCX p R s m args meth c g n1 n2 cX6_captainGets 6 RX6 2 45) {a : Nat} (ha : isX6 a) {p1 : Int32} {p2 : Int32} {p3 : Int32} {p4 : Int32} {σ : zST} {Post : Int32 → Prop} (hret : ∀ (v : Int32) (pc : Nat) (lv : List (Nat × Value)), Post v → decode cX6_captainGets pc = .ok (.ireturn, 1) → zGG p l e R s m args below meth c Q g n1 n2 6 pc lv [.int v] σ) (h : wp_X6_captainGets a p1 p2 p3 p4 σ Post) : zGG p l e R s m args below meth c Q g n1 n2 6 0 [(0, .ref (g.2.1 a)), (1, .int p1), (2, .int p2), (3, .int p3), (4, .int p4)] [] σ := by
  unfold wp_X6_captainGets at h
  refine zr_iload_n C (zo_28 (p := 0) (zby_w zwX6_captainGets_0 0 rfl)) rfl ?_
  refine zr_if_ne C 26 (zo_154 (p := 1) (k := 25) (a := 0) (b := 25) (zby_w zwX6_captainGets_0 1 rfl) (zby_w zwX6_captainGets_0 2 rfl) (zby_w zwX6_captainGets_0 3 rfl) (by decide)) (by decide) (fun hc1 => ?_) (fun hc1 => ?_)
  · rw [if_neg hc1] at h
    refine zr_aload_n C (zo_42 (p := 26) (zby_w zwX6_captainGets_0 26 rfl)) rfl ?_
    refine zr_aload_n C (zo_42 (p := 27) (zby_w zwX6_captainGets_0 27 rfl)) rfl ?_
    refine zr_getr (u := (a + 2)) C fw_X6_19 (shX6_0 ha) rfl (zo_180 (p := 28) (k := 19) (a := 0) (b := 19) (zby_w zwX6_captainGets_0 28 rfl) (zby_w zwX6_captainGets_0 29 rfl) (zby_w zwX6_captainGets_0 30 rfl) (by decide)) ?_
    refine zr_iload_n C (zo_27 (p := 31) (zby_w zwX6_captainGets_0 31 rfl)) rfl ?_
    obtain ⟨ho2, h⟩ := h
    refine zr_iald C ((shX6_2 ha)) ho2 (zo_46 (p := 32) (zby_w zwX6_captainGets_1 0 rfl)) ?_
    refine zr_iload C (zo_21 (p := 33) (k := 4) (a := 4) (zby_w zwX6_captainGets_1 1 rfl) (zby_w zwX6_captainGets_1 2 rfl) (by decide)) rfl ?_
    refine zr_cip (zr_runV (As := [.int (σ.1 (a + 2) p1.toNatClampNeg), .int p4]) (rest := []) C vw_X6_115 (c_X6_rewardFor l g a ha (σ.1 (a + 2) p1.toNatClampNeg) p4 σ _ h) (shX6_0 ha) rfl (by decide) (by decide) rfl rfl (Nat.le_of_ble_eq_true rfl) (zo_182 (p := 35) (k := 115) (a := 0) (b := 115) (zby_w zwX6_captainGets_1 3 rfl) (zby_w zwX6_captainGets_1 4 rfl) (zby_w zwX6_captainGets_1 5 rfl) (by decide))) (fun r3 h => ?_)
    refine zr_istore C [(5, .int r3), (0, .ref (g.2.1 a)), (1, .int p1), (2, .int p2), (3, .int p3), (4, .int p4)] (zo_54 (p := 38) (k := 5) (a := 5) (zby_w zwX6_captainGets_1 6 rfl) (zby_w zwX6_captainGets_1 7 rfl) (by decide)) (by decide) rfl ?_
    refine zr_iload_n C (zo_28 (p := 40) (zby_w zwX6_captainGets_1 8 rfl)) rfl ?_
    refine zr_iconst C (1 : Int32) (zo_4 (p := 41) (zby_w zwX6_captainGets_1 9 rfl)) (by decide) ?_
    refine zr_icmp_ne C 59 (zo_160 (p := 42) (k := 17) (a := 0) (b := 17) (zby_w zwX6_captainGets_1 10 rfl) (zby_w zwX6_captainGets_1 11 rfl) (zby_w zwX6_captainGets_1 12 rfl) (by decide)) (by decide) (fun hc5 => ?_) (fun hc5 => ?_)
    · rw [if_neg hc5] at h
      refine zr_bipush C (10 : Int32) (zo_16 (p := 59) (k := 10) (a := 10) (zby_w zwX6_captainGets_1 27 rfl) (zby_w zwX6_captainGets_1 28 rfl) (by decide)) (by decide) ?_
      refine zr_iload C (zo_21 (p := 61) (k := 5) (a := 5) (zby_w zwX6_captainGets_1 29 rfl) (zby_w zwX6_captainGets_1 30 rfl) (by decide)) rfl ?_
      refine zr_aload_n C (zo_42 (p := 63) (zby_w zwX6_captainGets_1 31 rfl)) rfl ?_
      refine zr_getr (u := (a + 5)) C fw_X6_36 (shX6_0 ha) rfl (zo_180 (p := 64) (k := 36) (a := 0) (b := 36) (zby_w zwX6_captainGets_2 0 rfl) (zby_w zwX6_captainGets_2 1 rfl) (zby_w zwX6_captainGets_2 2 rfl) (by decide)) ?_
      refine zr_iconst C (3 : Int32) (zo_6 (p := 67) (zby_w zwX6_captainGets_2 3 rfl)) (by decide) ?_
      refine zr_iald C ((shX6_5 ha)) (by unfold vp_in; decide) (zo_46 (p := 68) (zby_w zwX6_captainGets_2 4 rfl)) ?_
      refine zr_isub C (zo_100 (p := 69) (zby_w zwX6_captainGets_2 5 rfl)) ?_
      refine zr_imul C (zo_104 (p := 70) (zby_w zwX6_captainGets_2 6 rfl)) ?_
      exact hret _ _ _ h d_X6_captainGets_71
    · rw [if_pos hc5] at h
      refine zr_bipush C (10 : Int32) (zo_16 (p := 45) (k := 10) (a := 10) (zby_w zwX6_captainGets_1 13 rfl) (zby_w zwX6_captainGets_1 14 rfl) (by decide)) (by decide) ?_
      refine zr_aload_n C (zo_42 (p := 47) (zby_w zwX6_captainGets_1 15 rfl)) rfl ?_
      refine zr_iload_n C (zo_29 (p := 48) (zby_w zwX6_captainGets_1 16 rfl)) rfl ?_
      refine zr_cip (zr_runV (As := [.int p3]) (rest := [.int (10 : Int32)]) C vw_X6_92 (c_X6_digitAt l g a ha p3 σ _ h) (shX6_0 ha) rfl (by decide) (by decide) rfl rfl (Nat.le_of_ble_eq_true rfl) (zo_182 (p := 49) (k := 92) (a := 0) (b := 92) (zby_w zwX6_captainGets_1 17 rfl) (zby_w zwX6_captainGets_1 18 rfl) (zby_w zwX6_captainGets_1 19 rfl) (by decide))) (fun r6 h => ?_)
      refine zr_isub C (zo_100 (p := 52) (zby_w zwX6_captainGets_1 20 rfl)) ?_
      refine zr_iload C (zo_21 (p := 53) (k := 5) (a := 5) (zby_w zwX6_captainGets_1 21 rfl) (zby_w zwX6_captainGets_1 22 rfl) (by decide)) rfl ?_
      refine zr_imul C (zo_104 (p := 55) (zby_w zwX6_captainGets_1 23 rfl)) ?_
      refine zr_goto C 71 (zo_167 (p := 56) (k := 15) (a := 0) (b := 15) (zby_w zwX6_captainGets_1 24 rfl) (zby_w zwX6_captainGets_1 25 rfl) (zby_w zwX6_captainGets_1 26 rfl) (by decide)) (by decide) ?_
      exact hret _ _ _ h d_X6_captainGets_71
  · rw [if_pos hc1] at h
    refine zr_bipush C (10 : Int32) (zo_16 (p := 4) (k := 10) (a := 10) (zby_w zwX6_captainGets_0 4 rfl) (zby_w zwX6_captainGets_0 5 rfl) (by decide)) (by decide) ?_
    refine zr_aload_n C (zo_42 (p := 6) (zby_w zwX6_captainGets_0 6 rfl)) rfl ?_
    refine zr_aload_n C (zo_42 (p := 7) (zby_w zwX6_captainGets_0 7 rfl)) rfl ?_
    refine zr_getr (u := (a + 2)) C fw_X6_19 (shX6_0 ha) rfl (zo_180 (p := 8) (k := 19) (a := 0) (b := 19) (zby_w zwX6_captainGets_0 8 rfl) (zby_w zwX6_captainGets_0 9 rfl) (zby_w zwX6_captainGets_0 10 rfl) (by decide)) ?_
    refine zr_iload_n C (zo_27 (p := 11) (zby_w zwX6_captainGets_0 11 rfl)) rfl ?_
    obtain ⟨ho8, h⟩ := h
    refine zr_iald C ((shX6_2 ha)) ho8 (zo_46 (p := 12) (zby_w zwX6_captainGets_0 12 rfl)) ?_
    refine zr_aload_n C (zo_42 (p := 13) (zby_w zwX6_captainGets_0 13 rfl)) rfl ?_
    refine zr_iload_n C (zo_27 (p := 14) (zby_w zwX6_captainGets_0 14 rfl)) rfl ?_
    refine zr_cip (zr_runV (As := [.int p1]) (rest := [.int (σ.1 (a + 2) p1.toNatClampNeg), .ref (g.2.1 a), .int (10 : Int32)]) C vw_X6_77 (c_X6_menToTeeth l g a ha p1 σ _ h) (shX6_0 ha) rfl (by decide) (by decide) rfl rfl (Nat.le_of_ble_eq_true rfl) (zo_182 (p := 15) (k := 77) (a := 0) (b := 77) (zby_w zwX6_captainGets_0 15 rfl) (zby_w zwX6_captainGets_0 16 rfl) (zby_w zwX6_captainGets_0 17 rfl) (by decide))) (fun r9 h => ?_)
    refine zr_isub C (zo_100 (p := 18) (zby_w zwX6_captainGets_0 18 rfl)) ?_
    refine zr_iload C (zo_21 (p := 19) (k := 4) (a := 4) (zby_w zwX6_captainGets_0 19 rfl) (zby_w zwX6_captainGets_0 20 rfl) (by decide)) rfl ?_
    refine zr_cip (zr_runV (As := [.int ((σ.1 (a + 2) p1.toNatClampNeg) - r9), .int p4]) (rest := [.int (10 : Int32)]) C vw_X6_115 (c_X6_rewardFor l g a ha ((σ.1 (a + 2) p1.toNatClampNeg) - r9) p4 σ _ h) (shX6_0 ha) rfl (by decide) (by decide) rfl rfl (Nat.le_of_ble_eq_true rfl) (zo_182 (p := 21) (k := 115) (a := 0) (b := 115) (zby_w zwX6_captainGets_0 21 rfl) (zby_w zwX6_captainGets_0 22 rfl) (zby_w zwX6_captainGets_0 23 rfl) (by decide))) (fun r11 h => ?_)
    refine zr_imul C (zo_104 (p := 24) (zby_w zwX6_captainGets_0 24 rfl)) ?_
    exact hret _ _ _ h (zo_172 (p := 25) (zby_w zwX6_captainGets_0 25 rfl))
set_option maxRecDepth 20000 in
theorem c_X6_captainGets (l : Launch) (g : zG) (a : Nat) (ha : isX6 a) (p1 : Int32) (p2 : Int32) (p3 : Int32) (p4 : Int32) (σ : zST) (Post : Int32 → Prop) (h : wp_X6_captainGets a p1 p2 p3 p4 σ Post) : Met l yX6_captainGets (Cond.code yX6_captainGets cX6_captainGets 6 (some .int) :: zGW) (zRm 2 45) (va_Pc [.ref (g.2.1 a), .int p1, .int p2, .int p3, .int p4] (zPP g σ)) (va_Qi (fun r u => Post r ∧ u = σ) (zBB g) (zA g)) 0 0 (zA g) :=
  zMet (by decide) (Nat.le_of_ble_eq_true rfl) (fun p e s m below meth c hr C => g_X6_captainGets C ha (fun v pc lv hp hd => zr_iret C hr ⟨hp, rfl⟩ hd) h)
def wp_X6_captainsSide_L6 (a : Nat) (v1 : Int32) (v2 : Int32) (v3 : Int32) (σ : zST) (Post : Int32 → Prop) : Nat → Int32 → Int32 → Prop
  | 0, _, _ => False
  | N + 1, v4, v5 => (if (3 : Int32) ≤ v5 then Post v4 else wp_X6_captainGets a v1 v5 v2 v3 σ (fun r2 => wp_X6_captainGets a v1 v4 v2 v3 σ (fun r4 => (if r2 ≤ r4 then wp_X6_captainsSide_L6 a v1 v2 v3 σ Post N v4 (v5 + 1) else wp_X6_captainsSide_L6 a v1 v2 v3 σ Post N v5 (v5 + 1)))))

set_option maxRecDepth 100000 in
set_option maxHeartbeats 4000000 in
theorem g_X6_captainsSide_L6 {p : Program} {l : Launch} {e : Env} {R : Room} {s : State} {m : MethodId} {args : Array Value} {below : List Frame} {meth : Method} {c : Code} {Q : State → Prop} {g : zG} {n1 n2 : Nat} (C : zCX p R s m args meth c g n1 n2 cX6_captainsSide 6 RX6 3 70) {a : Nat} (ha : isX6 a) {v1 : Int32} {v2 : Int32} {v3 : Int32} {σ : zST}  {Post : Int32 → Prop} (hret : ∀ (v : Int32) (pc : Nat) (lv : List (Nat × Value)), Post v → decode cX6_captainsSide pc = .ok (.ireturn, 1) → zGG p l e R s m args below meth c Q g n1 n2 6 pc lv [.int v] σ) : ∀ (N : Nat) (v4 : Int32) (v5 : Int32) , wp_X6_captainsSide_L6 a v1 v2 v3 σ Post N v4 v5 → zGG p l e R s m args below meth c Q g n1 n2 6 6 [(0, .ref (g.2.1 a)), (1, .int v1), (2, .int v2), (3, .int v3), (4, .int v4), (5, .int v5)] [] σ := by
  intro N
  induction N with
  | zero =>
    intro v4 v5 h
    exact h.elim
  | succ N ih =>
    intro v4 v5 h
    rw [wp_X6_captainsSide_L6] at h
    refine zr_iload C (zo_21 (p := 6) (k := 5) (a := 5) (zby_w zwX6_captainsSide_0 6 rfl) (zby_w zwX6_captainsSide_0 7 rfl) (by decide)) rfl ?_
    refine zr_iconst C (3 : Int32) (zo_6 (p := 8) (zby_w zwX6_captainsSide_0 8 rfl)) (by decide) ?_
    refine zr_icmp_ge C 43 (zo_162 (p := 9) (k := 34) (a := 0) (b := 34) (zby_w zwX6_captainsSide_0 9 rfl) (zby_w zwX6_captainsSide_0 10 rfl) (zby_w zwX6_captainsSide_0 11 rfl) (by decide)) (by decide) (fun hc1 => ?_) (fun hc1 => ?_)
    · rw [if_pos hc1] at h
      refine zr_iload C (zo_21 (p := 43) (k := 4) (a := 4) (zby_w zwX6_captainsSide_1 11 rfl) (zby_w zwX6_captainsSide_1 12 rfl) (by decide)) rfl ?_
      exact hret _ _ _ h (zo_172 (p := 45) (zby_w zwX6_captainsSide_1 13 rfl))
    · rw [if_neg hc1] at h
      refine zr_aload_n C (zo_42 (p := 12) (zby_w zwX6_captainsSide_0 12 rfl)) rfl ?_
      refine zr_iload_n C (zo_27 (p := 13) (zby_w zwX6_captainsSide_0 13 rfl)) rfl ?_
      refine zr_iload C (zo_21 (p := 14) (k := 5) (a := 5) (zby_w zwX6_captainsSide_0 14 rfl) (zby_w zwX6_captainsSide_0 15 rfl) (by decide)) rfl ?_
      refine zr_iload_n C (zo_28 (p := 16) (zby_w zwX6_captainsSide_0 16 rfl)) rfl ?_
      refine zr_iload_n C (zo_29 (p := 17) (zby_w zwX6_captainsSide_0 17 rfl)) rfl ?_
      refine zr_cip (zr_runV (As := [.int v1, .int v5, .int v2, .int v3]) (rest := []) C vw_X6_111 (c_X6_captainGets l g a ha v1 v5 v2 v3 σ _ h) (shX6_0 ha) rfl (by decide) (by decide) rfl rfl (Nat.le_of_ble_eq_true rfl) (zo_182 (p := 18) (k := 111) (a := 0) (b := 111) (zby_w zwX6_captainsSide_0 18 rfl) (zby_w zwX6_captainsSide_0 19 rfl) (zby_w zwX6_captainsSide_0 20 rfl) (by decide))) (fun r2 h => ?_)
      refine zr_aload_n C (zo_42 (p := 21) (zby_w zwX6_captainsSide_0 21 rfl)) rfl ?_
      refine zr_iload_n C (zo_27 (p := 22) (zby_w zwX6_captainsSide_0 22 rfl)) rfl ?_
      refine zr_iload C (zo_21 (p := 23) (k := 4) (a := 4) (zby_w zwX6_captainsSide_0 23 rfl) (zby_w zwX6_captainsSide_0 24 rfl) (by decide)) rfl ?_
      refine zr_iload_n C (zo_28 (p := 25) (zby_w zwX6_captainsSide_0 25 rfl)) rfl ?_
      refine zr_iload_n C (zo_29 (p := 26) (zby_w zwX6_captainsSide_0 26 rfl)) rfl ?_
      refine zr_cip (zr_runV (As := [.int v1, .int v4, .int v2, .int v3]) (rest := [.int r2]) C vw_X6_111 (c_X6_captainGets l g a ha v1 v4 v2 v3 σ _ h) (shX6_0 ha) rfl (by decide) (by decide) rfl rfl (Nat.le_of_ble_eq_true rfl) (zo_182 (p := 27) (k := 111) (a := 0) (b := 111) (zby_w zwX6_captainsSide_0 27 rfl) (zby_w zwX6_captainsSide_0 28 rfl) (zby_w zwX6_captainsSide_0 29 rfl) (by decide))) (fun r4 h => ?_)
      refine zr_icmp_le C 37 (zo_164 (p := 30) (k := 7) (a := 0) (b := 7) (zby_w zwX6_captainsSide_0 30 rfl) (zby_w zwX6_captainsSide_0 31 rfl) (zby_w zwX6_captainsSide_0 32 rfl) (by decide)) (by decide) (fun hc6 => ?_) (fun hc6 => ?_)
      · rw [if_pos hc6] at h
        refine zr_iinc C (v5 + 1) [(5, .int (v5 + 1)), (0, .ref (g.2.1 a)), (1, .int v1), (2, .int v2), (3, .int v3), (4, .int v4)] d_X6_captainsSide_37 rfl rfl (by decide) rfl ?_
        refine zr_goto C 6 d_X6_captainsSide_40 (by decide) ?_
        exact zr_pick [1, 2, 3, 4, 5, 0] rfl (ih v4 (v5 + 1) h)
      · rw [if_neg hc6] at h
        refine zr_iload C (zo_21 (p := 33) (k := 5) (a := 5) (zby_w zwX6_captainsSide_1 1 rfl) (zby_w zwX6_captainsSide_1 2 rfl) (by decide)) rfl ?_
        refine zr_istore C [(4, .int v5), (0, .ref (g.2.1 a)), (1, .int v1), (2, .int v2), (3, .int v3), (5, .int v5)] (zo_54 (p := 35) (k := 4) (a := 4) (zby_w zwX6_captainsSide_1 3 rfl) (zby_w zwX6_captainsSide_1 4 rfl) (by decide)) (by decide) rfl ?_
        refine zr_iinc C (v5 + 1) [(5, .int (v5 + 1)), (4, .int v5), (0, .ref (g.2.1 a)), (1, .int v1), (2, .int v2), (3, .int v3)] d_X6_captainsSide_37 rfl rfl (by decide) rfl ?_
        refine zr_goto C 6 d_X6_captainsSide_40 (by decide) ?_
        exact zr_pick [2, 3, 4, 5, 1, 0] rfl (ih v5 (v5 + 1) h)

def wp_X6_captainsSide (a : Nat) (p1 : Int32) (p2 : Int32) (p3 : Int32) (σ : zST) (Post : Int32 → Prop) : Prop := ∃ M7 : Nat, wp_X6_captainsSide_L6 a p1 p2 p3 σ Post M7 (0 : Int32) (1 : Int32)
set_option maxRecDepth 100000 in
set_option maxHeartbeats 4000000 in
theorem g_X6_captainsSide {p : Program} {l : Launch} {e : Env} {R : Room} {s : State} {m : MethodId} {args : Array Value} {below : List Frame} {meth : Method} {c : Code} {Q : State → Prop} {g : zG} {n1 n2 : Nat} (C : zCX p R s m args meth c g n1 n2 cX6_captainsSide 6 RX6 3 70) {a : Nat} (ha : isX6 a) {p1 : Int32} {p2 : Int32} {p3 : Int32} {σ : zST} {Post : Int32 → Prop} (hret : ∀ (v : Int32) (pc : Nat) (lv : List (Nat × Value)), Post v → decode cX6_captainsSide pc = .ok (.ireturn, 1) → zGG p l e R s m args below meth c Q g n1 n2 6 pc lv [.int v] σ) (h : wp_X6_captainsSide a p1 p2 p3 σ Post) : zGG p l e R s m args below meth c Q g n1 n2 6 0 [(0, .ref (g.2.1 a)), (1, .int p1), (2, .int p2), (3, .int p3)] [] σ := by
  unfold wp_X6_captainsSide at h
  refine zr_iconst C (0 : Int32) (zo_3 (p := 0) (zby_w zwX6_captainsSide_0 0 rfl)) (by decide) ?_
  refine zr_istore C [(4, .int (0 : Int32)), (0, .ref (g.2.1 a)), (1, .int p1), (2, .int p2), (3, .int p3)] (zo_54 (p := 1) (k := 4) (a := 4) (zby_w zwX6_captainsSide_0 1 rfl) (zby_w zwX6_captainsSide_0 2 rfl) (by decide)) (by decide) rfl ?_
  refine zr_iconst C (1 : Int32) (zo_4 (p := 3) (zby_w zwX6_captainsSide_0 3 rfl)) (by decide) ?_
  refine zr_istore C [(5, .int (1 : Int32)), (4, .int (0 : Int32)), (0, .ref (g.2.1 a)), (1, .int p1), (2, .int p2), (3, .int p3)] (zo_54 (p := 4) (k := 5) (a := 5) (zby_w zwX6_captainsSide_0 4 rfl) (zby_w zwX6_captainsSide_0 5 rfl) (by decide)) (by decide) rfl ?_
  obtain ⟨M7, h⟩ := h
  exact zr_pick [2, 3, 4, 5, 1, 0] rfl (g_X6_captainsSide_L6 C ha hret M7 (0 : Int32) (1 : Int32) h)
set_option maxRecDepth 20000 in
theorem c_X6_captainsSide (l : Launch) (g : zG) (a : Nat) (ha : isX6 a) (p1 : Int32) (p2 : Int32) (p3 : Int32) (σ : zST) (Post : Int32 → Prop) (h : wp_X6_captainsSide a p1 p2 p3 σ Post) : Met l yX6_captainsSide (Cond.code yX6_captainsSide cX6_captainsSide 6 (some .int) :: zGW) (zRm 3 70) (va_Pc [.ref (g.2.1 a), .int p1, .int p2, .int p3] (zPP g σ)) (va_Qi (fun r u => Post r ∧ u = σ) (zBB g) (zA g)) 0 0 (zA g) :=
  zMet (by decide) (Nat.le_of_ble_eq_true rfl) (fun p e s m below meth c hr C => g_X6_captainsSide C ha (fun v pc lv hp hd => zr_iret C hr ⟨hp, rfl⟩ hd) h)
def wp_X7_tryOut_L24 (b : Nat) (Post : zST → Prop) : Nat → Int32 → Int32 → zST → Prop
  | 0, _, _, _ => False
  | N + 1, v3, v4, σ => (if (σ.1 52 1) ≤ v4 then Post σ else wp_X4_hourPassesAt v4 σ (fun r4 => (if r4 = (0) then wp_X4_shipAt v4 σ (fun r7 => wp_X6_whyNot 55 r7 σ (fun r9 => ∀ σ11 : zST, σ11 = (wI σ 54 2 r9) → (if (σ11.1 54 2) = (-6 : Int32) then wp_X4_sideAt (v4 + 1) σ11 (fun r13 => wp_X6_send 55 r7 r13 v3 σ11 (fun σ16 => wp_X7_tryOut_L24 b Post N v3 ((v4 + 1) + 1) (wI σ16 54 1 ((σ16.1 54 1) + (1 : Int32))))) else Post σ11))) else wp_X7_tryOut_L24 b Post N (v3 + 1) (v4 + 1) (wI σ 54 1 ((σ.1 54 1) + (1 : Int32))))))

set_option maxRecDepth 100000 in
set_option maxHeartbeats 4000000 in
theorem g_X7_tryOut_L24 {p : Program} {l : Launch} {e : Env} {R : Room} {s : State} {m : MethodId} {args : Array Value} {below : List Frame} {meth : Method} {c : Code} {Q : State → Prop} {g : zG} {n1 n2 : Nat} (C : zCX p R s m args meth c g n1 n2 cX7_tryOut 6 RX7 4 90) {b : Nat} (hb : isX6 b)  {Post : zST → Prop} (hret : ∀ (σ : zST) (pc : Nat) (lv : List (Nat × Value)), Post σ → decode cX7_tryOut pc = .ok (.return_, 1) → zGG p l e R s m args below meth c Q g n1 n2 6 pc lv [] σ) : ∀ (N : Nat) (v3 : Int32) (v4 : Int32) (σ : zST) , wp_X7_tryOut_L24 b Post N v3 v4 σ → zGG p l e R s m args below meth c Q g n1 n2 6 24 [(0, .ref (g.2.1 54)), (1, .ref (g.2.1 52)), (3, .int v3), (4, .int v4)] [] σ := by
  intro N
  induction N with
  | zero =>
    intro v3 v4 σ h
    exact h.elim
  | succ N ih =>
    intro v3 v4 σ h
    rw [wp_X7_tryOut_L24] at h
    refine zr_iload C (zo_21 (p := 24) (k := 4) (a := 4) (zby_w zwX7_tryOut_0 24 rfl) (zby_w zwX7_tryOut_0 25 rfl) (by decide)) rfl ?_
    refine zr_aload_n C (zo_43 (p := 26) (zby_w zwX7_tryOut_0 26 rfl)) rfl ?_
    refine zr_geti C fw_X7_29 (sh_52) rfl (zo_180 (p := 27) (k := 29) (a := 0) (b := 29) (zby_w zwX7_tryOut_0 27 rfl) (zby_w zwX7_tryOut_0 28 rfl) (zby_w zwX7_tryOut_0 29 rfl) (by decide)) ?_
    refine zr_icmp_ge C 114 (zo_162 (p := 30) (k := 84) (a := 0) (b := 84) (zby_w zwX7_tryOut_0 30 rfl) (zby_w zwX7_tryOut_0 31 rfl) (zby_w zwX7_tryOut_0 32 rfl) (by decide)) (by decide) (fun hc3 => ?_) (fun hc3 => ?_)
    · rw [if_pos hc3] at h
      exact hret _ _ _ h (zo_177 (p := 114) (zby_w zwX7_tryOut_3 18 rfl))
    · rw [if_neg hc3] at h
      refine zr_aload_n C (zo_43 (p := 33) (zby_w zwX7_tryOut_1 1 rfl)) rfl ?_
      refine zr_iload C (zo_21 (p := 34) (k := 4) (a := 4) (zby_w zwX7_tryOut_1 2 rfl) (zby_w zwX7_tryOut_1 3 rfl) (by decide)) rfl ?_
      refine zr_cip (zr_runV (As := [.int v4]) (rest := []) C vw_X7_34 (c_X4_hourPassesAt l g v4 σ _ h) (sh_52) rfl (by decide) (by decide) rfl rfl (Nat.le_of_ble_eq_true rfl) (zo_182 (p := 36) (k := 34) (a := 0) (b := 34) (zby_w zwX7_tryOut_1 4 rfl) (zby_w zwX7_tryOut_1 5 rfl) (zby_w zwX7_tryOut_1 6 rfl) (by decide))) (fun r4 h => ?_)
      refine zr_if_eq C 48 (zo_153 (p := 39) (k := 9) (a := 0) (b := 9) (zby_w zwX7_tryOut_1 7 rfl) (zby_w zwX7_tryOut_1 8 rfl) (zby_w zwX7_tryOut_1 9 rfl) (by decide)) (by decide) (fun hc6 => ?_) (fun hc6 => ?_)
      · rw [if_pos hc6] at h
        refine zr_aload_n C (zo_43 (p := 48) (zby_w zwX7_tryOut_1 16 rfl)) rfl ?_
        refine zr_iload C (zo_21 (p := 49) (k := 4) (a := 4) (zby_w zwX7_tryOut_1 17 rfl) (zby_w zwX7_tryOut_1 18 rfl) (by decide)) rfl ?_
        refine zr_cip (zr_runV (As := [.int v4]) (rest := []) C vw_X7_38 (c_X4_shipAt l g v4 σ _ h) (sh_52) rfl (by decide) (by decide) rfl rfl (Nat.le_of_ble_eq_true rfl) (zo_182 (p := 51) (k := 38) (a := 0) (b := 38) (zby_w zwX7_tryOut_1 19 rfl) (zby_w zwX7_tryOut_1 20 rfl) (zby_w zwX7_tryOut_1 21 rfl) (by decide))) (fun r7 h => ?_)
        refine zr_istore C [(5, .int r7), (0, .ref (g.2.1 54)), (1, .ref (g.2.1 52)), (3, .int v3), (4, .int v4)] (zo_54 (p := 54) (k := 5) (a := 5) (zby_w zwX7_tryOut_1 22 rfl) (zby_w zwX7_tryOut_1 23 rfl) (by decide)) (by decide) rfl ?_
        refine zr_aload_n C (zo_42 (p := 56) (zby_w zwX7_tryOut_1 24 rfl)) rfl ?_
        refine zr_aload_n C (zo_42 (p := 57) (zby_w zwX7_tryOut_1 25 rfl)) rfl ?_
        refine zr_getr (u := 55) C fw_X7_12 (sh_54) rfl (zo_180 (p := 58) (k := 12) (a := 0) (b := 12) (zby_w zwX7_tryOut_1 26 rfl) (zby_w zwX7_tryOut_1 27 rfl) (zby_w zwX7_tryOut_1 28 rfl) (by decide)) ?_
        refine zr_iload C (zo_21 (p := 61) (k := 5) (a := 5) (zby_w zwX7_tryOut_1 29 rfl) (zby_w zwX7_tryOut_1 30 rfl) (by decide)) rfl ?_
        refine zr_cip (zr_runV (As := [.int r7]) (rest := [.ref (g.2.1 54)]) C vw_X7_42 (c_X6_whyNot l g 55 isX6_55 r7 σ _ h) (sh_55) rfl (by decide) (by decide) rfl rfl (Nat.le_of_ble_eq_true rfl) (zo_182 (p := 63) (k := 42) (a := 0) (b := 42) (zby_w zwX7_tryOut_1 31 rfl) (zby_w zwX7_tryOut_1 32 rfl) (zby_w zwX7_tryOut_1 33 rfl) (by decide))) (fun r9 h => ?_)
        refine zr_puti C fw_X7_22 pw_X7_2 (sh_54) rfl rfl rfl (zo_181 (p := 66) (k := 22) (a := 0) (b := 22) (zby_w zwX7_tryOut_2 2 rfl) (zby_w zwX7_tryOut_2 3 rfl) (zby_w zwX7_tryOut_2 4 rfl) (by decide)) ?_
        refine zr_aload_n C (zo_42 (p := 69) (zby_w zwX7_tryOut_2 5 rfl)) rfl ?_
        refine zr_tops (fun σ11 hσ11 => ?_)
        replace h := h σ11 hσ11
        refine zr_geti C fw_X7_22 (sh_54) rfl (zo_180 (p := 70) (k := 22) (a := 0) (b := 22) (zby_w zwX7_tryOut_2 6 rfl) (zby_w zwX7_tryOut_2 7 rfl) (zby_w zwX7_tryOut_2 8 rfl) (by decide)) ?_
        refine zr_bipush C (-6 : Int32) (zo_16 (p := 73) (k := (-6)) (a := 250) (zby_w zwX7_tryOut_2 9 rfl) (zby_w zwX7_tryOut_2 10 rfl) (by decide)) (by decide) ?_
        refine zr_icmp_eq C 79 (zo_159 (p := 75) (k := 4) (a := 0) (b := 4) (zby_w zwX7_tryOut_2 11 rfl) (zby_w zwX7_tryOut_2 12 rfl) (zby_w zwX7_tryOut_2 13 rfl) (by decide)) (by decide) (fun hc12 => ?_) (fun hc12 => ?_)
        · rw [if_pos hc12] at h
          refine zr_iinc C (v4 + 1) [(4, .int (v4 + 1)), (5, .int r7), (0, .ref (g.2.1 54)), (1, .ref (g.2.1 52)), (3, .int v3)] d_X7_tryOut_79 rfl rfl (by decide) rfl ?_
          refine zr_aload_n C (zo_42 (p := 82) (zby_w zwX7_tryOut_2 18 rfl)) rfl ?_
          refine zr_getr (u := 55) C fw_X7_12 (sh_54) rfl (zo_180 (p := 83) (k := 12) (a := 0) (b := 12) (zby_w zwX7_tryOut_2 19 rfl) (zby_w zwX7_tryOut_2 20 rfl) (zby_w zwX7_tryOut_2 21 rfl) (by decide)) ?_
          refine zr_iload C (zo_21 (p := 86) (k := 5) (a := 5) (zby_w zwX7_tryOut_2 22 rfl) (zby_w zwX7_tryOut_2 23 rfl) (by decide)) rfl ?_
          refine zr_aload_n C (zo_43 (p := 88) (zby_w zwX7_tryOut_2 24 rfl)) rfl ?_
          refine zr_iload C (zo_21 (p := 89) (k := 4) (a := 4) (zby_w zwX7_tryOut_2 25 rfl) (zby_w zwX7_tryOut_2 26 rfl) (by decide)) rfl ?_
          refine zr_cip (zr_runV (As := [.int (v4 + 1)]) (rest := [.int r7, .ref (g.2.1 55)]) C vw_X7_45 (c_X4_sideAt l g (v4 + 1) σ11 _ h) (sh_52) rfl (by decide) (by decide) rfl rfl (Nat.le_of_ble_eq_true rfl) (zo_182 (p := 91) (k := 45) (a := 0) (b := 45) (zby_w zwX7_tryOut_2 27 rfl) (zby_w zwX7_tryOut_2 28 rfl) (zby_w zwX7_tryOut_2 29 rfl) (by decide))) (fun r13 h => ?_)
          refine zr_iload_n C (zo_29 (p := 94) (zby_w zwX7_tryOut_2 30 rfl)) rfl ?_
          refine zr_cv (zr_runV (As := [.int r7, .int r13, .int v3]) (rest := []) C vw_X7_48 (c_X6_send l g 55 isX6_55 r7 r13 v3 σ11 _ h) (sh_55) rfl (by decide) (by decide) rfl rfl (Nat.le_of_ble_eq_true rfl) (zo_182 (p := 95) (k := 48) (a := 0) (b := 48) (zby_w zwX7_tryOut_2 31 rfl) (zby_w zwX7_tryOut_2 32 rfl) (zby_w zwX7_tryOut_2 33 rfl) (by decide))) (fun σ16 h => ?_)
          refine zr_aload_n C d_X7_tryOut_98 rfl ?_
          refine zr_dup C d_X7_tryOut_99 rfl ?_
          refine zr_geti C fw_X7_18 (sh_54) rfl d_X7_tryOut_100 ?_
          refine zr_iconst C (1 : Int32) d_X7_tryOut_103 (by decide) ?_
          refine zr_iadd C d_X7_tryOut_104 ?_
          refine zr_puti C fw_X7_18 pw_X7_1 (sh_54) rfl rfl rfl d_X7_tryOut_105 ?_
          refine zr_iinc C ((v4 + 1) + 1) [(4, .int ((v4 + 1) + 1)), (5, .int r7), (0, .ref (g.2.1 54)), (1, .ref (g.2.1 52)), (3, .int v3)] d_X7_tryOut_108 rfl rfl (by decide) rfl ?_
          refine zr_goto C 24 d_X7_tryOut_111 (by decide) ?_
          exact zr_pick [2, 3, 4, 0] rfl (ih v3 ((v4 + 1) + 1) (wI σ16 54 1 ((σ16.1 54 1) + (1 : Int32))) h)
        · rw [if_neg hc12] at h
          exact hret _ _ _ h (zo_177 (p := 78) (zby_w zwX7_tryOut_2 14 rfl))
      · rw [if_neg hc6] at h
        refine zr_iinc C (v3 + 1) [(3, .int (v3 + 1)), (0, .ref (g.2.1 54)), (1, .ref (g.2.1 52)), (4, .int v4)] d_X7_tryOut_42 rfl rfl (by decide) rfl ?_
        refine zr_goto C 98 (zo_167 (p := 45) (k := 53) (a := 0) (b := 53) (zby_w zwX7_tryOut_1 13 rfl) (zby_w zwX7_tryOut_1 14 rfl) (zby_w zwX7_tryOut_1 15 rfl) (by decide)) (by decide) ?_
        refine zr_aload_n C d_X7_tryOut_98 rfl ?_
        refine zr_dup C d_X7_tryOut_99 rfl ?_
        refine zr_geti C fw_X7_18 (sh_54) rfl d_X7_tryOut_100 ?_
        refine zr_iconst C (1 : Int32) d_X7_tryOut_103 (by decide) ?_
        refine zr_iadd C d_X7_tryOut_104 ?_
        refine zr_puti C fw_X7_18 pw_X7_1 (sh_54) rfl rfl rfl d_X7_tryOut_105 ?_
        refine zr_iinc C (v4 + 1) [(4, .int (v4 + 1)), (3, .int (v3 + 1)), (0, .ref (g.2.1 54)), (1, .ref (g.2.1 52))] d_X7_tryOut_108 rfl rfl (by decide) rfl ?_
        refine zr_goto C 24 d_X7_tryOut_111 (by decide) ?_
        exact zr_pick [2, 3, 1, 0] rfl (ih (v3 + 1) (v4 + 1) (wI σ 54 1 ((σ.1 54 1) + (1 : Int32))) h)

def wp_X7_tryOut (b : Nat) (σ : zST) (Post : zST → Prop) : Prop := wp_X6_become 55 b σ (fun σ2 => ∃ M17 : Nat, wp_X7_tryOut_L24 b Post M17 (0 : Int32) (0 : Int32) (wI (wI σ2 54 1 (0 : Int32)) 54 2 (-6 : Int32)))
set_option maxRecDepth 100000 in
set_option maxHeartbeats 4000000 in
theorem g_X7_tryOut {p : Program} {l : Launch} {e : Env} {R : Room} {s : State} {m : MethodId} {args : Array Value} {below : List Frame} {meth : Method} {c : Code} {Q : State → Prop} {g : zG} {n1 n2 : Nat} (C : zCX p R s m args meth c g n1 n2 cX7_tryOut 6 RX7 4 90) {b : Nat} (hb : isX6 b) {σ : zST} {Post : zST → Prop} (hret : ∀ (σ : zST) (pc : Nat) (lv : List (Nat × Value)), Post σ → decode cX7_tryOut pc = .ok (.return_, 1) → zGG p l e R s m args below meth c Q g n1 n2 6 pc lv [] σ) (h : wp_X7_tryOut b σ Post) : zGG p l e R s m args below meth c Q g n1 n2 6 0 [(0, .ref (g.2.1 54)), (1, .ref (g.2.1 52)), (2, .ref (g.2.1 b))] [] σ := by
  unfold wp_X7_tryOut at h
  refine zr_aload_n C (zo_42 (p := 0) (zby_w zwX7_tryOut_0 0 rfl)) rfl ?_
  refine zr_getr (u := 55) C fw_X7_12 (sh_54) rfl (zo_180 (p := 1) (k := 12) (a := 0) (b := 12) (zby_w zwX7_tryOut_0 1 rfl) (zby_w zwX7_tryOut_0 2 rfl) (zby_w zwX7_tryOut_0 3 rfl) (by decide)) ?_
  refine zr_aload_n C (zo_44 (p := 4) (zby_w zwX7_tryOut_0 4 rfl)) rfl ?_
  refine zr_cv (zr_runV (As := [.ref (g.2.1 b)]) (rest := []) C vw_X7_25 (c_X6_become l g 55 isX6_55 b hb σ _ h) (sh_55) rfl (by decide) (by decide) rfl rfl (Nat.le_of_ble_eq_true rfl) (zo_182 (p := 5) (k := 25) (a := 0) (b := 25) (zby_w zwX7_tryOut_0 5 rfl) (zby_w zwX7_tryOut_0 6 rfl) (zby_w zwX7_tryOut_0 7 rfl) (by decide))) (fun σ2 h => ?_)
  refine zr_aload_n C (zo_42 (p := 8) (zby_w zwX7_tryOut_0 8 rfl)) rfl ?_
  refine zr_iconst C (0 : Int32) (zo_3 (p := 9) (zby_w zwX7_tryOut_0 9 rfl)) (by decide) ?_
  refine zr_puti C fw_X7_18 pw_X7_1 (sh_54) rfl rfl rfl (zo_181 (p := 10) (k := 18) (a := 0) (b := 18) (zby_w zwX7_tryOut_0 10 rfl) (zby_w zwX7_tryOut_0 11 rfl) (zby_w zwX7_tryOut_0 12 rfl) (by decide)) ?_
  refine zr_aload_n C (zo_42 (p := 13) (zby_w zwX7_tryOut_0 13 rfl)) rfl ?_
  refine zr_bipush C (-6 : Int32) (zo_16 (p := 14) (k := (-6)) (a := 250) (zby_w zwX7_tryOut_0 14 rfl) (zby_w zwX7_tryOut_0 15 rfl) (by decide)) (by decide) ?_
  refine zr_puti C fw_X7_22 pw_X7_2 (sh_54) rfl rfl rfl (zo_181 (p := 16) (k := 22) (a := 0) (b := 22) (zby_w zwX7_tryOut_0 16 rfl) (zby_w zwX7_tryOut_0 17 rfl) (zby_w zwX7_tryOut_0 18 rfl) (by decide)) ?_
  refine zr_iconst C (0 : Int32) (zo_3 (p := 19) (zby_w zwX7_tryOut_0 19 rfl)) (by decide) ?_
  refine zr_istore_n C [(3, .int (0 : Int32)), (0, .ref (g.2.1 54)), (1, .ref (g.2.1 52)), (2, .ref (g.2.1 b))] (zo_62 (p := 20) (zby_w zwX7_tryOut_0 20 rfl)) (by decide) rfl ?_
  refine zr_iconst C (0 : Int32) (zo_3 (p := 21) (zby_w zwX7_tryOut_0 21 rfl)) (by decide) ?_
  refine zr_istore C [(4, .int (0 : Int32)), (3, .int (0 : Int32)), (0, .ref (g.2.1 54)), (1, .ref (g.2.1 52)), (2, .ref (g.2.1 b))] (zo_54 (p := 22) (k := 4) (a := 4) (zby_w zwX7_tryOut_0 22 rfl) (zby_w zwX7_tryOut_0 23 rfl) (by decide)) (by decide) rfl ?_
  obtain ⟨M17, h⟩ := h
  exact zr_pick [2, 3, 1, 0] rfl (g_X7_tryOut_L24 C hb hret M17 (0 : Int32) (0 : Int32) (wI (wI σ2 54 1 (0 : Int32)) 54 2 (-6 : Int32)) h)
set_option maxRecDepth 20000 in
theorem c_X7_tryOut (l : Launch) (g : zG) (b : Nat) (hb : isX6 b) (σ : zST) (Post : zST → Prop) (h : wp_X7_tryOut b σ Post) : Met l yX7_tryOut (Cond.code yX7_tryOut cX7_tryOut 6 none :: zGW) (zRm 4 90) (va_Pc [.ref (g.2.1 54), .ref (g.2.1 52), .ref (g.2.1 b)] (zPP g σ)) (va_Qv Post (zBB g) (zA g)) 0 0 (zA g) :=
  zMet (by decide) (Nat.le_of_ble_eq_true rfl) (fun p e s m below meth c hr C => g_X7_tryOut C hb (fun σ pc lv hp hd => zr_vret C hr hp hd) h)
def wp_X2_gather_L34 (b : Nat) (v2 : Int32) (v3 : Int32) (K86 : zST → Prop) : Nat → Int32 → zST → Prop
  | 0, _, _ => False
  | N + 1, v4, σ => (if (3 : Int32) ≤ v4 then K86 σ else wp_X6_meanBy b v3 v4 v2 σ (fun r7 => ∀ x9 : Int64, x9 = r7.toInt64 → wp_X6_worstBy b v3 v4 v2 σ (fun r10 => vp_in (((σ.1 63 1) * (3 : Int32)) + v4) 18 ∧ wp_X2_gather_L34 b v2 v3 K86 N (v4 + 1) (wL σ 65 (((σ.1 63 1) * (3 : Int32)) + v4).toNatClampNeg ((x9 <<< ((32 : Int32).toInt64 &&& 63)) + (r10.toInt64))))))

set_option maxRecDepth 100000 in
set_option maxHeartbeats 4000000 in
theorem g_X2_gather_L34 {p : Program} {l : Launch} {e : Env} {R : Room} {s : State} {m : MethodId} {args : Array Value} {below : List Frame} {meth : Method} {c : Code} {Q : State → Prop} {g : zG} {n1 n2 : Nat} (C : zCX p R s m args meth c g n1 n2 cX2_gather 7 RX2 4 90) {b : Nat} (hb : isX6 b) {v2 : Int32} {v3 : Int32} {K86 : zST → Prop} (hK86 : ∀ (σ : zST), K86 σ → zGG p l e R s m args below meth c Q g n1 n2 7 86 [(0, .ref (g.2.1 63)), (1, .ref (g.2.1 b)), (2, .int v2), (3, .int v3)] [] σ) : ∀ (N : Nat) (v4 : Int32) (σ : zST) , wp_X2_gather_L34 b v2 v3 K86 N v4 σ → zGG p l e R s m args below meth c Q g n1 n2 7 34 [(0, .ref (g.2.1 63)), (1, .ref (g.2.1 b)), (2, .int v2), (3, .int v3), (4, .int v4)] [] σ := by
  intro N
  induction N with
  | zero =>
    intro v4 σ h
    exact h.elim
  | succ N ih =>
    intro v4 σ h
    rw [wp_X2_gather_L34] at h
    refine zr_iload C (zo_21 (p := 34) (k := 4) (a := 4) (zby_w zwX2_gather_1 2 rfl) (zby_w zwX2_gather_1 3 rfl) (by decide)) rfl ?_
    refine zr_iconst C (3 : Int32) (zo_6 (p := 36) (zby_w zwX2_gather_1 4 rfl)) (by decide) ?_
    refine zr_icmp_ge C 86 (zo_162 (p := 37) (k := 49) (a := 0) (b := 49) (zby_w zwX2_gather_1 5 rfl) (zby_w zwX2_gather_1 6 rfl) (zby_w zwX2_gather_1 7 rfl) (by decide)) (by decide) (fun hc6 => ?_) (fun hc6 => ?_)
    · rw [if_pos hc6] at h
      exact zr_pick [0, 1, 2, 3] rfl (hK86 σ h)
    · rw [if_neg hc6] at h
      refine zr_aload_n C (zo_43 (p := 40) (zby_w zwX2_gather_1 8 rfl)) rfl ?_
      refine zr_iload_n C (zo_29 (p := 41) (zby_w zwX2_gather_1 9 rfl)) rfl ?_
      refine zr_iload C (zo_21 (p := 42) (k := 4) (a := 4) (zby_w zwX2_gather_1 10 rfl) (zby_w zwX2_gather_1 11 rfl) (by decide)) rfl ?_
      refine zr_iload_n C (zo_28 (p := 44) (zby_w zwX2_gather_1 12 rfl)) rfl ?_
      refine zr_cip (zr_runV (As := [.int v3, .int v4, .int v2]) (rest := []) C vw_X2_37 (c_X6_meanBy l g b hb v3 v4 v2 σ _ h) (shX6_0 hb) rfl (by decide) (by decide) rfl rfl (Nat.le_of_ble_eq_true rfl) (zo_182 (p := 45) (k := 37) (a := 0) (b := 37) (zby_w zwX2_gather_1 13 rfl) (zby_w zwX2_gather_1 14 rfl) (zby_w zwX2_gather_1 15 rfl) (by decide))) (fun r7 h => ?_)
      refine zr_i2l C (zo_133 (p := 48) (zby_w zwX2_gather_1 16 rfl)) ?_
      refine zr_topl (fun x9 hx9 => ?_)
      replace h := h x9 hx9
      refine zr_lstore C [(5, .long x9), (0, .ref (g.2.1 63)), (1, .ref (g.2.1 b)), (2, .int v2), (3, .int v3), (4, .int v4)] (zo_55 (p := 49) (k := 5) (a := 5) (zby_w zwX2_gather_1 17 rfl) (zby_w zwX2_gather_1 18 rfl) (by decide)) (by decide) rfl ?_
      refine zr_aload_n C (zo_42 (p := 51) (zby_w zwX2_gather_1 19 rfl)) rfl ?_
      refine zr_getr (u := 65) C fw_X2_19 (sh_63) rfl (zo_180 (p := 52) (k := 19) (a := 0) (b := 19) (zby_w zwX2_gather_1 20 rfl) (zby_w zwX2_gather_1 21 rfl) (zby_w zwX2_gather_1 22 rfl) (by decide)) ?_
      refine zr_aload_n C (zo_42 (p := 55) (zby_w zwX2_gather_1 23 rfl)) rfl ?_
      refine zr_geti C fw_X2_15 (sh_63) rfl (zo_180 (p := 56) (k := 15) (a := 0) (b := 15) (zby_w zwX2_gather_1 24 rfl) (zby_w zwX2_gather_1 25 rfl) (zby_w zwX2_gather_1 26 rfl) (by decide)) ?_
      refine zr_iconst C (3 : Int32) (zo_6 (p := 59) (zby_w zwX2_gather_1 27 rfl)) (by decide) ?_
      refine zr_imul C (zo_104 (p := 60) (zby_w zwX2_gather_1 28 rfl)) ?_
      refine zr_iload C (zo_21 (p := 61) (k := 4) (a := 4) (zby_w zwX2_gather_1 29 rfl) (zby_w zwX2_gather_1 30 rfl) (by decide)) rfl ?_
      refine zr_iadd C (zo_96 (p := 63) (zby_w zwX2_gather_1 31 rfl)) ?_
      refine zr_lload C (zo_22 (p := 64) (k := 5) (a := 5) (zby_w zwX2_gather_2 0 rfl) (zby_w zwX2_gather_2 1 rfl) (by decide)) rfl ?_
      refine zr_bipush C (32 : Int32) (zo_16 (p := 66) (k := 32) (a := 32) (zby_w zwX2_gather_2 2 rfl) (zby_w zwX2_gather_2 3 rfl) (by decide)) (by decide) ?_
      refine zr_lshl C (zo_121 (p := 68) (zby_w zwX2_gather_2 4 rfl)) ?_
      refine zr_aload_n C (zo_43 (p := 69) (zby_w zwX2_gather_2 5 rfl)) rfl ?_
      refine zr_iload_n C (zo_29 (p := 70) (zby_w zwX2_gather_2 6 rfl)) rfl ?_
      refine zr_iload C (zo_21 (p := 71) (k := 4) (a := 4) (zby_w zwX2_gather_2 7 rfl) (zby_w zwX2_gather_2 8 rfl) (by decide)) rfl ?_
      refine zr_iload_n C (zo_28 (p := 73) (zby_w zwX2_gather_2 9 rfl)) rfl ?_
      refine zr_cip (zr_runV (As := [.int v3, .int v4, .int v2]) (rest := [.long (x9 <<< ((32 : Int32).toInt64 &&& 63)), .int (((σ.1 63 1) * (3 : Int32)) + v4), .ref (g.2.1 65)]) C vw_X2_41 (c_X6_worstBy l g b hb v3 v4 v2 σ _ h) (shX6_0 hb) rfl (by decide) (by decide) rfl rfl (Nat.le_of_ble_eq_true rfl) (zo_182 (p := 74) (k := 41) (a := 0) (b := 41) (zby_w zwX2_gather_2 10 rfl) (zby_w zwX2_gather_2 11 rfl) (zby_w zwX2_gather_2 12 rfl) (by decide))) (fun r10 h => ?_)
      refine zr_i2l C (zo_133 (p := 77) (zby_w zwX2_gather_2 13 rfl)) ?_
      refine zr_ladd C (zo_97 (p := 78) (zby_w zwX2_gather_2 14 rfl)) ?_
      obtain ⟨ho12, h⟩ := h
      refine zr_last C (sh_65) ho12 (zo_80 (p := 79) (zby_w zwX2_gather_2 15 rfl)) ?_
      refine zr_iinc C (v4 + 1) [(4, .int (v4 + 1)), (5, .long x9), (0, .ref (g.2.1 63)), (1, .ref (g.2.1 b)), (2, .int v2), (3, .int v3)] d_X2_gather_80 rfl rfl (by decide) rfl ?_
      refine zr_goto C 34 (zo_167 (p := 83) (k := (-49)) (a := 255) (b := 207) (zby_w zwX2_gather_2 19 rfl) (zby_w zwX2_gather_2 20 rfl) (zby_w zwX2_gather_2 21 rfl) (by decide)) (by decide) ?_
      exact zr_pick [2, 3, 4, 5, 0] rfl (ih (v4 + 1) (wL σ 65 (((σ.1 63 1) * (3 : Int32)) + v4).toNatClampNeg ((x9 <<< ((32 : Int32).toInt64 &&& 63)) + (r10.toInt64))) h)

def wp_X2_gather_L7 (b : Nat) (v2 : Int32) (Post : zST → Prop) : Nat → Int32 → zST → Prop
  | 0, _, _ => False
  | N + 1, v3, σ => (if (6 : Int32) ≤ v3 then Post σ else wp_X6_moored b v3 σ (fun r2 => (if r2 = (0) then wp_X2_gather_L7 b v2 Post N (v3 + 1) σ else vp_in (σ.1 63 1) 6 ∧ ∃ M13 : Nat, wp_X2_gather_L34 b v2 v3 (fun σ => wp_X2_gather_L7 b v2 Post N (v3 + 1) (wI σ 63 1 ((σ.1 63 1) + (1 : Int32)))) M13 (0 : Int32) (wI σ 64 (σ.1 63 1).toNatClampNeg v3))))

set_option maxRecDepth 100000 in
set_option maxHeartbeats 4000000 in
theorem g_X2_gather_L7 {p : Program} {l : Launch} {e : Env} {R : Room} {s : State} {m : MethodId} {args : Array Value} {below : List Frame} {meth : Method} {c : Code} {Q : State → Prop} {g : zG} {n1 n2 : Nat} (C : zCX p R s m args meth c g n1 n2 cX2_gather 7 RX2 4 90) {b : Nat} (hb : isX6 b) {v2 : Int32}  {Post : zST → Prop} (hret : ∀ (σ : zST) (pc : Nat) (lv : List (Nat × Value)), Post σ → decode cX2_gather pc = .ok (.return_, 1) → zGG p l e R s m args below meth c Q g n1 n2 7 pc lv [] σ) : ∀ (N : Nat) (v3 : Int32) (σ : zST) , wp_X2_gather_L7 b v2 Post N v3 σ → zGG p l e R s m args below meth c Q g n1 n2 7 7 [(0, .ref (g.2.1 63)), (1, .ref (g.2.1 b)), (2, .int v2), (3, .int v3)] [] σ := by
  intro N
  induction N with
  | zero =>
    intro v3 σ h
    exact h.elim
  | succ N ih =>
    intro v3 σ h
    rw [wp_X2_gather_L7] at h
    refine zr_iload_n C (zo_29 (p := 7) (zby_w zwX2_gather_0 7 rfl)) rfl ?_
    refine zr_bipush C (6 : Int32) (zo_16 (p := 8) (k := 6) (a := 6) (zby_w zwX2_gather_0 8 rfl) (zby_w zwX2_gather_0 9 rfl) (by decide)) (by decide) ?_
    refine zr_icmp_ge C 102 (zo_162 (p := 10) (k := 92) (a := 0) (b := 92) (zby_w zwX2_gather_0 10 rfl) (zby_w zwX2_gather_0 11 rfl) (zby_w zwX2_gather_0 12 rfl) (by decide)) (by decide) (fun hc1 => ?_) (fun hc1 => ?_)
    · rw [if_pos hc1] at h
      exact hret _ _ _ h (zo_177 (p := 102) (zby_w zwX2_gather_3 6 rfl))
    · rw [if_neg hc1] at h
      refine zr_aload_n C (zo_43 (p := 13) (zby_w zwX2_gather_0 13 rfl)) rfl ?_
      refine zr_iload_n C (zo_29 (p := 14) (zby_w zwX2_gather_0 14 rfl)) rfl ?_
      refine zr_cip (zr_runV (As := [.int v3]) (rest := []) C vw_X2_32 (c_X6_moored l g b hb v3 σ _ h) (shX6_0 hb) rfl (by decide) (by decide) rfl rfl (Nat.le_of_ble_eq_true rfl) (zo_182 (p := 15) (k := 32) (a := 0) (b := 32) (zby_w zwX2_gather_0 15 rfl) (zby_w zwX2_gather_0 16 rfl) (zby_w zwX2_gather_0 17 rfl) (by decide))) (fun r2 h => ?_)
      refine zr_if_eq C 96 (zo_153 (p := 18) (k := 78) (a := 0) (b := 78) (zby_w zwX2_gather_0 18 rfl) (zby_w zwX2_gather_0 19 rfl) (zby_w zwX2_gather_0 20 rfl) (by decide)) (by decide) (fun hc4 => ?_) (fun hc4 => ?_)
      · rw [if_pos hc4] at h
        refine zr_iinc C (v3 + 1) [(3, .int (v3 + 1)), (0, .ref (g.2.1 63)), (1, .ref (g.2.1 b)), (2, .int v2)] d_X2_gather_96 rfl rfl (by decide) rfl ?_
        refine zr_goto C 7 d_X2_gather_99 (by decide) ?_
        exact zr_pick [1, 2, 3, 0] rfl (ih (v3 + 1) σ h)
      · rw [if_neg hc4] at h
        refine zr_aload_n C (zo_42 (p := 21) (zby_w zwX2_gather_0 21 rfl)) rfl ?_
        refine zr_getr (u := 64) C fw_X2_9 (sh_63) rfl (zo_180 (p := 22) (k := 9) (a := 0) (b := 9) (zby_w zwX2_gather_0 22 rfl) (zby_w zwX2_gather_0 23 rfl) (zby_w zwX2_gather_0 24 rfl) (by decide)) ?_
        refine zr_aload_n C (zo_42 (p := 25) (zby_w zwX2_gather_0 25 rfl)) rfl ?_
        refine zr_geti C fw_X2_15 (sh_63) rfl (zo_180 (p := 26) (k := 15) (a := 0) (b := 15) (zby_w zwX2_gather_0 26 rfl) (zby_w zwX2_gather_0 27 rfl) (zby_w zwX2_gather_0 28 rfl) (by decide)) ?_
        refine zr_iload_n C (zo_29 (p := 29) (zby_w zwX2_gather_0 29 rfl)) rfl ?_
        obtain ⟨ho5, h⟩ := h
        refine zr_iast C (sh_64) ho5 (zo_79 (p := 30) (zby_w zwX2_gather_0 30 rfl)) ?_
        refine zr_iconst C (0 : Int32) (zo_3 (p := 31) (zby_w zwX2_gather_0 31 rfl)) (by decide) ?_
        refine zr_istore C [(4, .int (0 : Int32)), (0, .ref (g.2.1 63)), (1, .ref (g.2.1 b)), (2, .int v2), (3, .int v3)] (zo_54 (p := 32) (k := 4) (a := 4) (zby_w zwX2_gather_1 0 rfl) (zby_w zwX2_gather_1 1 rfl) (by decide)) (by decide) rfl ?_
        obtain ⟨M13, h⟩ := h
        exact zr_pick [1, 2, 3, 4, 0] rfl (g_X2_gather_L34 C hb (fun σ h => by
            refine zr_aload_n C (zo_42 (p := 86) (zby_w zwX2_gather_2 22 rfl)) rfl ?_
            refine zr_dup C (zo_89 (p := 87) (zby_w zwX2_gather_2 23 rfl)) rfl ?_
            refine zr_geti C fw_X2_15 (sh_63) rfl (zo_180 (p := 88) (k := 15) (a := 0) (b := 15) (zby_w zwX2_gather_2 24 rfl) (zby_w zwX2_gather_2 25 rfl) (zby_w zwX2_gather_2 26 rfl) (by decide)) ?_
            refine zr_iconst C (1 : Int32) (zo_4 (p := 91) (zby_w zwX2_gather_2 27 rfl)) (by decide) ?_
            refine zr_iadd C (zo_96 (p := 92) (zby_w zwX2_gather_2 28 rfl)) ?_
            refine zr_puti C fw_X2_15 pw_X2_1 (sh_63) rfl rfl rfl (zo_181 (p := 93) (k := 15) (a := 0) (b := 15) (zby_w zwX2_gather_2 29 rfl) (zby_w zwX2_gather_2 30 rfl) (zby_w zwX2_gather_2 31 rfl) (by decide)) ?_
            refine zr_iinc C (v3 + 1) [(3, .int (v3 + 1)), (0, .ref (g.2.1 63)), (1, .ref (g.2.1 b)), (2, .int v2)] d_X2_gather_96 rfl rfl (by decide) rfl ?_
            refine zr_goto C 7 d_X2_gather_99 (by decide) ?_
            exact zr_pick [1, 2, 3, 0] rfl (ih (v3 + 1) (wI σ 63 1 ((σ.1 63 1) + (1 : Int32))) h)) M13 (0 : Int32) (wI σ 64 (σ.1 63 1).toNatClampNeg v3) h)

def wp_X2_gather (b : Nat) (p2 : Int32) (σ : zST) (Post : zST → Prop) : Prop := ∃ M14 : Nat, wp_X2_gather_L7 b p2 Post M14 (0 : Int32) (wI σ 63 1 (0 : Int32))
set_option maxRecDepth 100000 in
set_option maxHeartbeats 4000000 in
theorem g_X2_gather {p : Program} {l : Launch} {e : Env} {R : Room} {s : State} {m : MethodId} {args : Array Value} {below : List Frame} {meth : Method} {c : Code} {Q : State → Prop} {g : zG} {n1 n2 : Nat} (C : zCX p R s m args meth c g n1 n2 cX2_gather 7 RX2 4 90) {b : Nat} (hb : isX6 b) {p2 : Int32} {σ : zST} {Post : zST → Prop} (hret : ∀ (σ : zST) (pc : Nat) (lv : List (Nat × Value)), Post σ → decode cX2_gather pc = .ok (.return_, 1) → zGG p l e R s m args below meth c Q g n1 n2 7 pc lv [] σ) (h : wp_X2_gather b p2 σ Post) : zGG p l e R s m args below meth c Q g n1 n2 7 0 [(0, .ref (g.2.1 63)), (1, .ref (g.2.1 b)), (2, .int p2)] [] σ := by
  unfold wp_X2_gather at h
  refine zr_aload_n C (zo_42 (p := 0) (zby_w zwX2_gather_0 0 rfl)) rfl ?_
  refine zr_iconst C (0 : Int32) (zo_3 (p := 1) (zby_w zwX2_gather_0 1 rfl)) (by decide) ?_
  refine zr_puti C fw_X2_15 pw_X2_1 (sh_63) rfl rfl rfl (zo_181 (p := 2) (k := 15) (a := 0) (b := 15) (zby_w zwX2_gather_0 2 rfl) (zby_w zwX2_gather_0 3 rfl) (zby_w zwX2_gather_0 4 rfl) (by decide)) ?_
  refine zr_iconst C (0 : Int32) (zo_3 (p := 5) (zby_w zwX2_gather_0 5 rfl)) (by decide) ?_
  refine zr_istore_n C [(3, .int (0 : Int32)), (0, .ref (g.2.1 63)), (1, .ref (g.2.1 b)), (2, .int p2)] (zo_62 (p := 6) (zby_w zwX2_gather_0 6 rfl)) (by decide) rfl ?_
  obtain ⟨M14, h⟩ := h
  exact zr_pick [1, 2, 3, 0] rfl (g_X2_gather_L7 C hb hret M14 (0 : Int32) (wI σ 63 1 (0 : Int32)) h)
set_option maxRecDepth 20000 in
theorem c_X2_gather (l : Launch) (g : zG) (b : Nat) (hb : isX6 b) (p2 : Int32) (σ : zST) (Post : zST → Prop) (h : wp_X2_gather b p2 σ Post) : Met l yX2_gather (Cond.code yX2_gather cX2_gather 7 none :: zGW) (zRm 4 90) (va_Pc [.ref (g.2.1 63), .ref (g.2.1 b), .int p2] (zPP g σ)) (va_Qv Post (zBB g) (zA g)) 0 0 (zA g) :=
  zMet (by decide) (Nat.le_of_ble_eq_true rfl) (fun p e s m below meth c hr C => g_X2_gather C hb (fun σ pc lv hp hd => zr_vret C hr hp hd) h)
def wp_X2_meanIn (p0 : Int64) (σ : zST) (Post : Int32 → Prop) : Prop := Post ((p0 >>> ((32 : Int32).toInt64 &&& 63)).toInt32)
set_option maxRecDepth 100000 in
set_option maxHeartbeats 4000000 in
theorem g_X2_meanIn {p : Program} {l : Launch} {e : Env} {R : Room} {s : State} {m : MethodId} {args : Array Value} {below : List Frame} {meth : Method} {c : Code} {Q : State → Prop} {g : zG} {n1 n2 : Nat} (C : zCX p R s m args meth c g n1 n2 cX2_meanIn 2 RX2 0 0) {p0 : Int64} {σ : zST} {Post : Int32 → Prop} (hret : ∀ (v : Int32) (pc : Nat) (lv : List (Nat × Value)), Post v → decode cX2_meanIn pc = .ok (.ireturn, 1) → zGG p l e R s m args below meth c Q g n1 n2 2 pc lv [.int v] σ) (h : wp_X2_meanIn p0 σ Post) : zGG p l e R s m args below meth c Q g n1 n2 2 0 [(0, .long p0)] [] σ := by
  unfold wp_X2_meanIn at h
  refine zr_lload_n C (zo_30 (p := 0) (zby_w zwX2_meanIn_0 0 rfl)) rfl ?_
  refine zr_bipush C (32 : Int32) (zo_16 (p := 1) (k := 32) (a := 32) (zby_w zwX2_meanIn_0 1 rfl) (zby_w zwX2_meanIn_0 2 rfl) (by decide)) (by decide) ?_
  refine zr_lshr C (zo_123 (p := 3) (zby_w zwX2_meanIn_0 3 rfl)) ?_
  refine zr_l2i C (zo_136 (p := 4) (zby_w zwX2_meanIn_0 4 rfl)) ?_
  exact hret _ _ _ h (zo_172 (p := 5) (zby_w zwX2_meanIn_0 5 rfl))
set_option maxRecDepth 20000 in
theorem c_X2_meanIn (l : Launch) (g : zG) (p0 : Int64) (σ : zST) (Post : Int32 → Prop) (h : wp_X2_meanIn p0 σ Post) : Met l yX2_meanIn (Cond.code yX2_meanIn cX2_meanIn 2 (some .int) :: zGW) (zRm 0 0) (va_Pc [.long p0] (zPP g σ)) (va_Qi (fun r u => Post r ∧ u = σ) (zBB g) (zA g)) 0 0 (zA g) :=
  zMet (by decide) (Nat.le_of_ble_eq_true rfl) (fun p e s m below meth c hr C => g_X2_meanIn C (fun v pc lv hp hd => zr_iret C hr ⟨hp, rfl⟩ hd) h)
def wp_X2_worstIn (p0 : Int64) (σ : zST) (Post : Int32 → Prop) : Prop := Post (p0.toInt32)
set_option maxRecDepth 100000 in
set_option maxHeartbeats 4000000 in
theorem g_X2_worstIn {p : Program} {l : Launch} {e : Env} {R : Room} {s : State} {m : MethodId} {args : Array Value} {below : List Frame} {meth : Method} {c : Code} {Q : State → Prop} {g : zG} {n1 n2 : Nat} (C : zCX p R s m args meth c g n1 n2 cX2_worstIn 2 RX2 0 0) {p0 : Int64} {σ : zST} {Post : Int32 → Prop} (hret : ∀ (v : Int32) (pc : Nat) (lv : List (Nat × Value)), Post v → decode cX2_worstIn pc = .ok (.ireturn, 1) → zGG p l e R s m args below meth c Q g n1 n2 2 pc lv [.int v] σ) (h : wp_X2_worstIn p0 σ Post) : zGG p l e R s m args below meth c Q g n1 n2 2 0 [(0, .long p0)] [] σ := by
  unfold wp_X2_worstIn at h
  refine zr_lload_n C (zo_30 (p := 0) (zby_w zwX2_worstIn_0 0 rfl)) rfl ?_
  refine zr_l2i C (zo_136 (p := 1) (zby_w zwX2_worstIn_0 1 rfl)) ?_
  exact hret _ _ _ h (zo_172 (p := 2) (zby_w zwX2_worstIn_0 2 rfl))
set_option maxRecDepth 20000 in
theorem c_X2_worstIn (l : Launch) (g : zG) (p0 : Int64) (σ : zST) (Post : Int32 → Prop) (h : wp_X2_worstIn p0 σ Post) : Met l yX2_worstIn (Cond.code yX2_worstIn cX2_worstIn 2 (some .int) :: zGW) (zRm 0 0) (va_Pc [.long p0] (zPP g σ)) (va_Qi (fun r u => Post r ∧ u = σ) (zBB g) (zA g)) 0 0 (zA g) :=
  zMet (by decide) (Nat.le_of_ble_eq_true rfl) (fun p e s m below meth c hr C => g_X2_worstIn C (fun v pc lv hp hd => zr_iret C hr ⟨hp, rfl⟩ hd) h)
def wp_X2_spreadChoices_L47 (v1 : Int32) (v2 : Int32) (v3 : Int32) (v4 : Int64) (K84 : zST → Prop) : Nat → Int32 → zST → Prop
  | 0, _, _ => False
  | N + 1, v6, σ => (if (3 : Int32) ≤ v6 then K84 σ else vp_in ((v2 * (3 : Int32)) + v6) 18 ∧ vp_in ((v3 * (3 : Int32)) + v6) 729 ∧ wp_X2_spreadChoices_L47 v1 v2 v3 v4 K84 N (v6 + 1) (wL σ 66 ((v3 * (3 : Int32)) + v6).toNatClampNeg (v4 + (σ.2 65 ((v2 * (3 : Int32)) + v6).toNatClampNeg))))

set_option maxRecDepth 100000 in
set_option maxHeartbeats 4000000 in
theorem g_X2_spreadChoices_L47 {p : Program} {l : Launch} {e : Env} {R : Room} {s : State} {m : MethodId} {args : Array Value} {below : List Frame} {meth : Method} {c : Code} {Q : State → Prop} {g : zG} {n1 n2 : Nat} (C : zCX p R s m args meth c g n1 n2 cX2_spreadChoices 7 RX2 0 0) {v1 : Int32} {v2 : Int32} {v3 : Int32} {v4 : Int64} {K84 : zST → Prop} (hK84 : ∀ (σ : zST), K84 σ → zGG p l e R s m args below meth c Q g n1 n2 7 84 [(0, .ref (g.2.1 63)), (1, .int v1), (2, .int v2), (3, .int v3)] [] σ) : ∀ (N : Nat) (v6 : Int32) (σ : zST) , wp_X2_spreadChoices_L47 v1 v2 v3 v4 K84 N v6 σ → zGG p l e R s m args below meth c Q g n1 n2 7 47 [(0, .ref (g.2.1 63)), (1, .int v1), (2, .int v2), (3, .int v3), (4, .long v4), (6, .int v6)] [] σ := by
  intro N
  induction N with
  | zero =>
    intro v6 σ h
    exact h.elim
  | succ N ih =>
    intro v6 σ h
    rw [wp_X2_spreadChoices_L47] at h
    refine zr_iload C (zo_21 (p := 47) (k := 6) (a := 6) (zby_w zwX2_spreadChoices_1 15 rfl) (zby_w zwX2_spreadChoices_1 16 rfl) (by decide)) rfl ?_
    refine zr_iconst C (3 : Int32) (zo_6 (p := 49) (zby_w zwX2_spreadChoices_1 17 rfl)) (by decide) ?_
    refine zr_icmp_ge C 84 (zo_162 (p := 50) (k := 34) (a := 0) (b := 34) (zby_w zwX2_spreadChoices_1 18 rfl) (zby_w zwX2_spreadChoices_1 19 rfl) (zby_w zwX2_spreadChoices_1 20 rfl) (by decide)) (by decide) (fun hc7 => ?_) (fun hc7 => ?_)
    · rw [if_pos hc7] at h
      exact zr_pick [0, 1, 2, 3] rfl (hK84 σ h)
    · rw [if_neg hc7] at h
      refine zr_aload_n C (zo_42 (p := 53) (zby_w zwX2_spreadChoices_1 21 rfl)) rfl ?_
      refine zr_getr (u := 66) C fw_X2_23 (sh_63) rfl (zo_180 (p := 54) (k := 23) (a := 0) (b := 23) (zby_w zwX2_spreadChoices_1 22 rfl) (zby_w zwX2_spreadChoices_1 23 rfl) (zby_w zwX2_spreadChoices_1 24 rfl) (by decide)) ?_
      refine zr_iload_n C (zo_29 (p := 57) (zby_w zwX2_spreadChoices_1 25 rfl)) rfl ?_
      refine zr_iconst C (3 : Int32) (zo_6 (p := 58) (zby_w zwX2_spreadChoices_1 26 rfl)) (by decide) ?_
      refine zr_imul C (zo_104 (p := 59) (zby_w zwX2_spreadChoices_1 27 rfl)) ?_
      refine zr_iload C (zo_21 (p := 60) (k := 6) (a := 6) (zby_w zwX2_spreadChoices_1 28 rfl) (zby_w zwX2_spreadChoices_1 29 rfl) (by decide)) rfl ?_
      refine zr_iadd C (zo_96 (p := 62) (zby_w zwX2_spreadChoices_1 30 rfl)) ?_
      refine zr_lload C (zo_22 (p := 63) (k := 4) (a := 4) (zby_w zwX2_spreadChoices_1 31 rfl) (zby_w zwX2_spreadChoices_1 32 rfl) (by decide)) rfl ?_
      refine zr_aload_n C (zo_42 (p := 65) (zby_w zwX2_spreadChoices_2 1 rfl)) rfl ?_
      refine zr_getr (u := 65) C fw_X2_19 (sh_63) rfl (zo_180 (p := 66) (k := 19) (a := 0) (b := 19) (zby_w zwX2_spreadChoices_2 2 rfl) (zby_w zwX2_spreadChoices_2 3 rfl) (zby_w zwX2_spreadChoices_2 4 rfl) (by decide)) ?_
      refine zr_iload_n C (zo_28 (p := 69) (zby_w zwX2_spreadChoices_2 5 rfl)) rfl ?_
      refine zr_iconst C (3 : Int32) (zo_6 (p := 70) (zby_w zwX2_spreadChoices_2 6 rfl)) (by decide) ?_
      refine zr_imul C (zo_104 (p := 71) (zby_w zwX2_spreadChoices_2 7 rfl)) ?_
      refine zr_iload C (zo_21 (p := 72) (k := 6) (a := 6) (zby_w zwX2_spreadChoices_2 8 rfl) (zby_w zwX2_spreadChoices_2 9 rfl) (by decide)) rfl ?_
      refine zr_iadd C (zo_96 (p := 74) (zby_w zwX2_spreadChoices_2 10 rfl)) ?_
      obtain ⟨ho8, h⟩ := h
      refine zr_lald C (sh_65) ho8 (zo_47 (p := 75) (zby_w zwX2_spreadChoices_2 11 rfl)) ?_
      refine zr_ladd C (zo_97 (p := 76) (zby_w zwX2_spreadChoices_2 12 rfl)) ?_
      obtain ⟨ho9, h⟩ := h
      refine zr_last C (sh_66) ho9 (zo_80 (p := 77) (zby_w zwX2_spreadChoices_2 13 rfl)) ?_
      refine zr_iinc C (v6 + 1) [(6, .int (v6 + 1)), (0, .ref (g.2.1 63)), (1, .int v1), (2, .int v2), (3, .int v3), (4, .long v4)] d_X2_spreadChoices_78 rfl rfl (by decide) rfl ?_
      refine zr_goto C 47 (zo_167 (p := 81) (k := (-34)) (a := 255) (b := 222) (zby_w zwX2_spreadChoices_2 17 rfl) (zby_w zwX2_spreadChoices_2 18 rfl) (zby_w zwX2_spreadChoices_2 19 rfl) (by decide)) (by decide) ?_
      exact zr_pick [1, 2, 3, 4, 5, 0] rfl (ih (v6 + 1) (wL σ 66 ((v3 * (3 : Int32)) + v6).toNatClampNeg (v4 + (σ.2 65 ((v2 * (3 : Int32)) + v6).toNatClampNeg))) h)

def wp_X2_spreadChoices_L32 (v1 : Int32) (v2 : Int32) (K90 : zST → Prop) : Nat → Int32 → zST → Prop
  | 0, _, _ => False
  | N + 1, v3, σ => (if v3 < (0) then K90 σ else vp_in v3 729 ∧ ∀ x6 : Int64, x6 = σ.2 66 v3.toNatClampNeg → ∃ M10 : Nat, wp_X2_spreadChoices_L47 v1 v2 v3 x6 (fun σ => wp_X2_spreadChoices_L32 v1 v2 K90 N (v3 + (-1)) σ) M10 (0 : Int32) σ)

set_option maxRecDepth 100000 in
set_option maxHeartbeats 4000000 in
theorem g_X2_spreadChoices_L32 {p : Program} {l : Launch} {e : Env} {R : Room} {s : State} {m : MethodId} {args : Array Value} {below : List Frame} {meth : Method} {c : Code} {Q : State → Prop} {g : zG} {n1 n2 : Nat} (C : zCX p R s m args meth c g n1 n2 cX2_spreadChoices 7 RX2 0 0) {v1 : Int32} {v2 : Int32} {K90 : zST → Prop} (hK90 : ∀ (σ : zST), K90 σ → zGG p l e R s m args below meth c Q g n1 n2 7 90 [(0, .ref (g.2.1 63)), (1, .int v1), (2, .int v2)] [] σ) : ∀ (N : Nat) (v3 : Int32) (σ : zST) , wp_X2_spreadChoices_L32 v1 v2 K90 N v3 σ → zGG p l e R s m args below meth c Q g n1 n2 7 32 [(0, .ref (g.2.1 63)), (1, .int v1), (2, .int v2), (3, .int v3)] [] σ := by
  intro N
  induction N with
  | zero =>
    intro v3 σ h
    exact h.elim
  | succ N ih =>
    intro v3 σ h
    rw [wp_X2_spreadChoices_L32] at h
    refine zr_iload_n C (zo_29 (p := 32) (zby_w zwX2_spreadChoices_1 0 rfl)) rfl ?_
    refine zr_if_lt C 90 (zo_155 (p := 33) (k := 57) (a := 0) (b := 57) (zby_w zwX2_spreadChoices_1 1 rfl) (zby_w zwX2_spreadChoices_1 2 rfl) (zby_w zwX2_spreadChoices_1 3 rfl) (by decide)) (by decide) (fun hc4 => ?_) (fun hc4 => ?_)
    · rw [if_pos hc4] at h
      exact zr_pick [0, 1, 2] rfl (hK90 σ h)
    · rw [if_neg hc4] at h
      refine zr_aload_n C (zo_42 (p := 36) (zby_w zwX2_spreadChoices_1 4 rfl)) rfl ?_
      refine zr_getr (u := 66) C fw_X2_23 (sh_63) rfl (zo_180 (p := 37) (k := 23) (a := 0) (b := 23) (zby_w zwX2_spreadChoices_1 5 rfl) (zby_w zwX2_spreadChoices_1 6 rfl) (zby_w zwX2_spreadChoices_1 7 rfl) (by decide)) ?_
      refine zr_iload_n C (zo_29 (p := 40) (zby_w zwX2_spreadChoices_1 8 rfl)) rfl ?_
      obtain ⟨ho5, h⟩ := h
      refine zr_lald C (sh_66) ho5 (zo_47 (p := 41) (zby_w zwX2_spreadChoices_1 9 rfl)) ?_
      refine zr_topl (fun x6 hx6 => ?_)
      replace h := h x6 hx6
      refine zr_lstore C [(4, .long x6), (0, .ref (g.2.1 63)), (1, .int v1), (2, .int v2), (3, .int v3)] (zo_55 (p := 42) (k := 4) (a := 4) (zby_w zwX2_spreadChoices_1 10 rfl) (zby_w zwX2_spreadChoices_1 11 rfl) (by decide)) (by decide) rfl ?_
      refine zr_iconst C (0 : Int32) (zo_3 (p := 44) (zby_w zwX2_spreadChoices_1 12 rfl)) (by decide) ?_
      refine zr_istore C [(6, .int (0 : Int32)), (4, .long x6), (0, .ref (g.2.1 63)), (1, .int v1), (2, .int v2), (3, .int v3)] (zo_54 (p := 45) (k := 6) (a := 6) (zby_w zwX2_spreadChoices_1 13 rfl) (zby_w zwX2_spreadChoices_1 14 rfl) (by decide)) (by decide) rfl ?_
      obtain ⟨M10, h⟩ := h
      exact zr_pick [2, 3, 4, 5, 1, 0] rfl (g_X2_spreadChoices_L47 C (fun σ h => by
          refine zr_iinc C (v3 + (-1)) [(3, .int (v3 + (-1))), (0, .ref (g.2.1 63)), (1, .int v1), (2, .int v2)] d_X2_spreadChoices_84 rfl rfl (by decide) rfl ?_
          refine zr_goto C 32 (zo_167 (p := 87) (k := (-55)) (a := 255) (b := 201) (zby_w zwX2_spreadChoices_2 23 rfl) (zby_w zwX2_spreadChoices_2 24 rfl) (zby_w zwX2_spreadChoices_2 25 rfl) (by decide)) (by decide) ?_
          exact zr_pick [1, 2, 3, 0] rfl (ih (v3 + (-1)) σ h)) M10 (0 : Int32) σ h)

def wp_X2_spreadChoices_L11 (Post : Int32 → zST → Prop) : Nat → Int32 → Int32 → zST → Prop
  | 0, _, _, _ => False
  | N + 1, v1, v2, σ => (if (σ.1 63 1) ≤ v2 then Post v1 σ else (if (729 : Int32) < (v1 * (3 : Int32)) then Post v1 σ else ∀ x3 : Int32, x3 = (v1 - (1 : Int32)) → ∃ M12 : Nat, wp_X2_spreadChoices_L32 v1 v2 (fun σ => ∀ x11 : Int32, x11 = (v1 * (3 : Int32)) → wp_X2_spreadChoices_L11 Post N x11 (v2 + 1) σ) M12 x3 σ))

set_option maxRecDepth 100000 in
set_option maxHeartbeats 4000000 in
theorem g_X2_spreadChoices_L11 {p : Program} {l : Launch} {e : Env} {R : Room} {s : State} {m : MethodId} {args : Array Value} {below : List Frame} {meth : Method} {c : Code} {Q : State → Prop} {g : zG} {n1 n2 : Nat} (C : zCX p R s m args meth c g n1 n2 cX2_spreadChoices 7 RX2 0 0)  {Post : Int32 → zST → Prop} (hret : ∀ (v : Int32) (σ : zST) (pc : Nat) (lv : List (Nat × Value)), Post v σ → decode cX2_spreadChoices pc = .ok (.ireturn, 1) → zGG p l e R s m args below meth c Q g n1 n2 7 pc lv [.int v] σ) : ∀ (N : Nat) (v1 : Int32) (v2 : Int32) (σ : zST) , wp_X2_spreadChoices_L11 Post N v1 v2 σ → zGG p l e R s m args below meth c Q g n1 n2 7 11 [(0, .ref (g.2.1 63)), (1, .int v1), (2, .int v2)] [] σ := by
  intro N
  induction N with
  | zero =>
    intro v1 v2 σ h
    exact h.elim
  | succ N ih =>
    intro v1 v2 σ h
    rw [wp_X2_spreadChoices_L11] at h
    refine zr_iload_n C (zo_28 (p := 11) (zby_w zwX2_spreadChoices_0 11 rfl)) rfl ?_
    refine zr_aload_n C (zo_42 (p := 12) (zby_w zwX2_spreadChoices_0 12 rfl)) rfl ?_
    refine zr_geti C fw_X2_15 (sh_63) rfl (zo_180 (p := 13) (k := 15) (a := 0) (b := 15) (zby_w zwX2_spreadChoices_0 13 rfl) (zby_w zwX2_spreadChoices_0 14 rfl) (zby_w zwX2_spreadChoices_0 15 rfl) (by decide)) ?_
    refine zr_icmp_ge C 100 (zo_162 (p := 16) (k := 84) (a := 0) (b := 84) (zby_w zwX2_spreadChoices_0 16 rfl) (zby_w zwX2_spreadChoices_0 17 rfl) (zby_w zwX2_spreadChoices_0 18 rfl) (by decide)) (by decide) (fun hc1 => ?_) (fun hc1 => ?_)
    · rw [if_pos hc1] at h
      refine zr_iload_n C d_X2_spreadChoices_100 rfl ?_
      exact hret _ _ _ _ h d_X2_spreadChoices_101
    · rw [if_neg hc1] at h
      refine zr_iload_n C (zo_27 (p := 19) (zby_w zwX2_spreadChoices_0 19 rfl)) rfl ?_
      refine zr_iconst C (3 : Int32) (zo_6 (p := 20) (zby_w zwX2_spreadChoices_0 20 rfl)) (by decide) ?_
      refine zr_imul C (zo_104 (p := 21) (zby_w zwX2_spreadChoices_0 21 rfl)) ?_
      refine zr_sipush C (729 : Int32) (zo_17 (p := 22) (k := 729) (a := 2) (b := 217) (zby_w zwX2_spreadChoices_0 22 rfl) (zby_w zwX2_spreadChoices_0 23 rfl) (zby_w zwX2_spreadChoices_0 24 rfl) (by decide)) (by decide) ?_
      refine zr_icmp_gt C 100 (zo_163 (p := 25) (k := 75) (a := 0) (b := 75) (zby_w zwX2_spreadChoices_0 25 rfl) (zby_w zwX2_spreadChoices_0 26 rfl) (zby_w zwX2_spreadChoices_0 27 rfl) (by decide)) (by decide) (fun hc2 => ?_) (fun hc2 => ?_)
      · rw [if_pos hc2] at h
        refine zr_iload_n C d_X2_spreadChoices_100 rfl ?_
        exact hret _ _ _ _ h d_X2_spreadChoices_101
      · rw [if_neg hc2] at h
        refine zr_iload_n C (zo_27 (p := 28) (zby_w zwX2_spreadChoices_0 28 rfl)) rfl ?_
        refine zr_iconst C (1 : Int32) (zo_4 (p := 29) (zby_w zwX2_spreadChoices_0 29 rfl)) (by decide) ?_
        refine zr_isub C (zo_100 (p := 30) (zby_w zwX2_spreadChoices_0 30 rfl)) ?_
        refine zr_topi (fun x3 hx3 => ?_)
        replace h := h x3 hx3
        refine zr_istore_n C [(3, .int x3), (0, .ref (g.2.1 63)), (1, .int v1), (2, .int v2)] (zo_62 (p := 31) (zby_w zwX2_spreadChoices_0 31 rfl)) (by decide) rfl ?_
        obtain ⟨M12, h⟩ := h
        exact zr_pick [1, 2, 3, 0] rfl (g_X2_spreadChoices_L32 C (fun σ h => by
            refine zr_iload_n C (zo_27 (p := 90) (zby_w zwX2_spreadChoices_2 26 rfl)) rfl ?_
            refine zr_iconst C (3 : Int32) (zo_6 (p := 91) (zby_w zwX2_spreadChoices_2 27 rfl)) (by decide) ?_
            refine zr_imul C (zo_104 (p := 92) (zby_w zwX2_spreadChoices_2 28 rfl)) ?_
            refine zr_topi (fun x11 hx11 => ?_)
            replace h := h x11 hx11
            refine zr_istore_n C [(1, .int x11), (0, .ref (g.2.1 63)), (2, .int v2)] (zo_60 (p := 93) (zby_w zwX2_spreadChoices_2 29 rfl)) (by decide) rfl ?_
            refine zr_iinc C (v2 + 1) [(2, .int (v2 + 1)), (1, .int x11), (0, .ref (g.2.1 63))] d_X2_spreadChoices_94 rfl rfl (by decide) rfl ?_
            refine zr_goto C 11 (zo_167 (p := 97) (k := (-86)) (a := 255) (b := 170) (zby_w zwX2_spreadChoices_3 1 rfl) (zby_w zwX2_spreadChoices_3 2 rfl) (zby_w zwX2_spreadChoices_3 3 rfl) (by decide)) (by decide) ?_
            exact zr_pick [2, 1, 0] rfl (ih x11 (v2 + 1) σ h)) M12 x3 σ h)

def wp_X2_spreadChoices (σ : zST) (Post : Int32 → zST → Prop) : Prop := ∃ M13 : Nat, wp_X2_spreadChoices_L11 Post M13 (1 : Int32) (0 : Int32) (wL σ 66 (0 : Int32).toNatClampNeg (0 : Int64))
set_option maxRecDepth 100000 in
set_option maxHeartbeats 4000000 in
theorem g_X2_spreadChoices {p : Program} {l : Launch} {e : Env} {R : Room} {s : State} {m : MethodId} {args : Array Value} {below : List Frame} {meth : Method} {c : Code} {Q : State → Prop} {g : zG} {n1 n2 : Nat} (C : zCX p R s m args meth c g n1 n2 cX2_spreadChoices 7 RX2 0 0) {σ : zST} {Post : Int32 → zST → Prop} (hret : ∀ (v : Int32) (σ : zST) (pc : Nat) (lv : List (Nat × Value)), Post v σ → decode cX2_spreadChoices pc = .ok (.ireturn, 1) → zGG p l e R s m args below meth c Q g n1 n2 7 pc lv [.int v] σ) (h : wp_X2_spreadChoices σ Post) : zGG p l e R s m args below meth c Q g n1 n2 7 0 [(0, .ref (g.2.1 63))] [] σ := by
  unfold wp_X2_spreadChoices at h
  refine zr_aload_n C (zo_42 (p := 0) (zby_w zwX2_spreadChoices_0 0 rfl)) rfl ?_
  refine zr_getr (u := 66) C fw_X2_23 (sh_63) rfl (zo_180 (p := 1) (k := 23) (a := 0) (b := 23) (zby_w zwX2_spreadChoices_0 1 rfl) (zby_w zwX2_spreadChoices_0 2 rfl) (zby_w zwX2_spreadChoices_0 3 rfl) (by decide)) ?_
  refine zr_iconst C (0 : Int32) (zo_3 (p := 4) (zby_w zwX2_spreadChoices_0 4 rfl)) (by decide) ?_
  refine zr_lconst C (0 : Int64) (zo_9 (p := 5) (zby_w zwX2_spreadChoices_0 5 rfl)) (by decide) ?_
  refine zr_last C (sh_66) (by unfold vp_in; decide) (zo_80 (p := 6) (zby_w zwX2_spreadChoices_0 6 rfl)) ?_
  refine zr_iconst C (1 : Int32) (zo_4 (p := 7) (zby_w zwX2_spreadChoices_0 7 rfl)) (by decide) ?_
  refine zr_istore_n C [(1, .int (1 : Int32)), (0, .ref (g.2.1 63))] (zo_60 (p := 8) (zby_w zwX2_spreadChoices_0 8 rfl)) (by decide) rfl ?_
  refine zr_iconst C (0 : Int32) (zo_3 (p := 9) (zby_w zwX2_spreadChoices_0 9 rfl)) (by decide) ?_
  refine zr_istore_n C [(2, .int (0 : Int32)), (1, .int (1 : Int32)), (0, .ref (g.2.1 63))] (zo_61 (p := 10) (zby_w zwX2_spreadChoices_0 10 rfl)) (by decide) rfl ?_
  obtain ⟨M13, h⟩ := h
  exact zr_pick [2, 1, 0] rfl (g_X2_spreadChoices_L11 C hret M13 (1 : Int32) (0 : Int32) (wL σ 66 (0 : Int32).toNatClampNeg (0 : Int64)) h)
set_option maxRecDepth 20000 in
theorem c_X2_spreadChoices (l : Launch) (g : zG) (σ : zST) (Post : Int32 → zST → Prop) (h : wp_X2_spreadChoices σ Post) : Met l yX2_spreadChoices (Cond.code yX2_spreadChoices cX2_spreadChoices 7 (some .int) :: zGW) (zRm 0 0) (va_Pc [.ref (g.2.1 63)] (zPP g σ)) (va_Qi Post (zBB g) (zA g)) 0 0 (zA g) :=
  zMet (by decide) (Nat.le_of_ble_eq_true rfl) (fun p e s m below meth c hr C => g_X2_spreadChoices C (fun v σ pc lv hp hd => zr_iret C hr hp hd) h)
def wp_X2_leastWithin_L11 (v1 : Int32) (v2 : Int32) (Post : Int32 → zST → Prop) : Nat → Int32 → Int32 → zST → Prop
  | 0, _, _, _ => False
  | N + 1, v3, v4, σ => (if v2 ≤ v4 then Post v3 σ else vp_in v4 729 ∧ wp_X2_worstIn (σ.2 66 v4.toNatClampNeg) σ (fun r5 => (if v1 < r5 then wp_X2_leastWithin_L11 v1 v2 Post N v3 (v4 + 1) σ else (if v3 = (-6 : Int32) then wp_X2_leastWithin_L11 v1 v2 Post N v4 (v4 + 1) σ else vp_in v4 729 ∧ wp_X2_meanIn (σ.2 66 v4.toNatClampNeg) σ (fun r10 => vp_in v3 729 ∧ wp_X2_meanIn (σ.2 66 v3.toNatClampNeg) σ (fun r13 => (if r13 ≤ r10 then wp_X2_leastWithin_L11 v1 v2 Post N v3 (v4 + 1) σ else wp_X2_leastWithin_L11 v1 v2 Post N v4 (v4 + 1) σ)))))))

set_option maxRecDepth 100000 in
set_option maxHeartbeats 4000000 in
theorem g_X2_leastWithin_L11 {p : Program} {l : Launch} {e : Env} {R : Room} {s : State} {m : MethodId} {args : Array Value} {below : List Frame} {meth : Method} {c : Code} {Q : State → Prop} {g : zG} {n1 n2 : Nat} (C : zCX p R s m args meth c g n1 n2 cX2_leastWithin 5 RX2 1 26) {v1 : Int32} {v2 : Int32}  {Post : Int32 → zST → Prop} (hret : ∀ (v : Int32) (σ : zST) (pc : Nat) (lv : List (Nat × Value)), Post v σ → decode cX2_leastWithin pc = .ok (.ireturn, 1) → zGG p l e R s m args below meth c Q g n1 n2 5 pc lv [.int v] σ) : ∀ (N : Nat) (v3 : Int32) (v4 : Int32) (σ : zST) , wp_X2_leastWithin_L11 v1 v2 Post N v3 v4 σ → zGG p l e R s m args below meth c Q g n1 n2 5 11 [(0, .ref (g.2.1 63)), (1, .int v1), (2, .int v2), (3, .int v3), (4, .int v4)] [] σ := by
  intro N
  induction N with
  | zero =>
    intro v3 v4 σ h
    exact h.elim
  | succ N ih =>
    intro v3 v4 σ h
    rw [wp_X2_leastWithin_L11] at h
    refine zr_iload C (zo_21 (p := 11) (k := 4) (a := 4) (zby_w zwX2_leastWithin_0 11 rfl) (zby_w zwX2_leastWithin_0 12 rfl) (by decide)) rfl ?_
    refine zr_iload_n C (zo_28 (p := 13) (zby_w zwX2_leastWithin_0 13 rfl)) rfl ?_
    refine zr_icmp_ge C 68 (zo_162 (p := 14) (k := 54) (a := 0) (b := 54) (zby_w zwX2_leastWithin_0 14 rfl) (zby_w zwX2_leastWithin_0 15 rfl) (zby_w zwX2_leastWithin_0 16 rfl) (by decide)) (by decide) (fun hc3 => ?_) (fun hc3 => ?_)
    · rw [if_pos hc3] at h
      refine zr_iload_n C (zo_29 (p := 68) (zby_w zwX2_leastWithin_2 4 rfl)) rfl ?_
      exact hret _ _ _ _ h (zo_172 (p := 69) (zby_w zwX2_leastWithin_2 5 rfl))
    · rw [if_neg hc3] at h
      refine zr_aload_n C (zo_42 (p := 17) (zby_w zwX2_leastWithin_0 17 rfl)) rfl ?_
      refine zr_getr (u := 66) C fw_X2_23 (sh_63) rfl (zo_180 (p := 18) (k := 23) (a := 0) (b := 23) (zby_w zwX2_leastWithin_0 18 rfl) (zby_w zwX2_leastWithin_0 19 rfl) (zby_w zwX2_leastWithin_0 20 rfl) (by decide)) ?_
      refine zr_iload C (zo_21 (p := 21) (k := 4) (a := 4) (zby_w zwX2_leastWithin_0 21 rfl) (zby_w zwX2_leastWithin_0 22 rfl) (by decide)) rfl ?_
      obtain ⟨ho4, h⟩ := h
      refine zr_lald C (sh_66) ho4 (zo_47 (p := 23) (zby_w zwX2_leastWithin_0 23 rfl)) ?_
      refine zr_cip (zr_runS (As := [.long (σ.2 66 v4.toNatClampNeg)]) (rest := []) C sw_X2_48 (c_X2_worstIn l g (σ.2 66 v4.toNatClampNeg) σ _ h) (by decide) (by decide) rfl rfl (Nat.le_of_ble_eq_true rfl) (zo_184 (p := 24) (k := 48) (a := 0) (b := 48) (zby_w zwX2_leastWithin_0 24 rfl) (zby_w zwX2_leastWithin_0 25 rfl) (zby_w zwX2_leastWithin_0 26 rfl) (by decide))) (fun r5 h => ?_)
      refine zr_iload_n C (zo_27 (p := 27) (zby_w zwX2_leastWithin_0 27 rfl)) rfl ?_
      refine zr_icmp_gt C 62 (zo_163 (p := 28) (k := 34) (a := 0) (b := 34) (zby_w zwX2_leastWithin_0 28 rfl) (zby_w zwX2_leastWithin_0 29 rfl) (zby_w zwX2_leastWithin_0 30 rfl) (by decide)) (by decide) (fun hc7 => ?_) (fun hc7 => ?_)
      · rw [if_pos hc7] at h
        refine zr_iinc C (v4 + 1) [(4, .int (v4 + 1)), (0, .ref (g.2.1 63)), (1, .int v1), (2, .int v2), (3, .int v3)] d_X2_leastWithin_62 rfl rfl (by decide) rfl ?_
        refine zr_goto C 11 d_X2_leastWithin_65 (by decide) ?_
        exact zr_pick [1, 2, 3, 4, 0] rfl (ih v3 (v4 + 1) σ h)
      · rw [if_neg hc7] at h
        refine zr_iload_n C (zo_29 (p := 31) (zby_w zwX2_leastWithin_0 31 rfl)) rfl ?_
        refine zr_bipush C (-6 : Int32) (zo_16 (p := 32) (k := (-6)) (a := 250) (zby_w zwX2_leastWithin_1 0 rfl) (zby_w zwX2_leastWithin_1 1 rfl) (by decide)) (by decide) ?_
        refine zr_icmp_eq C 59 (zo_159 (p := 34) (k := 25) (a := 0) (b := 25) (zby_w zwX2_leastWithin_1 2 rfl) (zby_w zwX2_leastWithin_1 3 rfl) (zby_w zwX2_leastWithin_1 4 rfl) (by decide)) (by decide) (fun hc8 => ?_) (fun hc8 => ?_)
        · rw [if_pos hc8] at h
          refine zr_iload C d_X2_leastWithin_59 rfl ?_
          refine zr_istore_n C [(3, .int v4), (0, .ref (g.2.1 63)), (1, .int v1), (2, .int v2), (4, .int v4)] d_X2_leastWithin_61 (by decide) rfl ?_
          refine zr_iinc C (v4 + 1) [(4, .int (v4 + 1)), (3, .int v4), (0, .ref (g.2.1 63)), (1, .int v1), (2, .int v2)] d_X2_leastWithin_62 rfl rfl (by decide) rfl ?_
          refine zr_goto C 11 d_X2_leastWithin_65 (by decide) ?_
          exact zr_pick [2, 3, 4, 1, 0] rfl (ih v4 (v4 + 1) σ h)
        · rw [if_neg hc8] at h
          refine zr_aload_n C (zo_42 (p := 37) (zby_w zwX2_leastWithin_1 5 rfl)) rfl ?_
          refine zr_getr (u := 66) C fw_X2_23 (sh_63) rfl (zo_180 (p := 38) (k := 23) (a := 0) (b := 23) (zby_w zwX2_leastWithin_1 6 rfl) (zby_w zwX2_leastWithin_1 7 rfl) (zby_w zwX2_leastWithin_1 8 rfl) (by decide)) ?_
          refine zr_iload C (zo_21 (p := 41) (k := 4) (a := 4) (zby_w zwX2_leastWithin_1 9 rfl) (zby_w zwX2_leastWithin_1 10 rfl) (by decide)) rfl ?_
          obtain ⟨ho9, h⟩ := h
          refine zr_lald C (sh_66) ho9 (zo_47 (p := 43) (zby_w zwX2_leastWithin_1 11 rfl)) ?_
          refine zr_cip (zr_runS (As := [.long (σ.2 66 v4.toNatClampNeg)]) (rest := []) C sw_X2_52 (c_X2_meanIn l g (σ.2 66 v4.toNatClampNeg) σ _ h) (by decide) (by decide) rfl rfl (Nat.le_of_ble_eq_true rfl) (zo_184 (p := 44) (k := 52) (a := 0) (b := 52) (zby_w zwX2_leastWithin_1 12 rfl) (zby_w zwX2_leastWithin_1 13 rfl) (zby_w zwX2_leastWithin_1 14 rfl) (by decide))) (fun r10 h => ?_)
          refine zr_aload_n C (zo_42 (p := 47) (zby_w zwX2_leastWithin_1 15 rfl)) rfl ?_
          refine zr_getr (u := 66) C fw_X2_23 (sh_63) rfl (zo_180 (p := 48) (k := 23) (a := 0) (b := 23) (zby_w zwX2_leastWithin_1 16 rfl) (zby_w zwX2_leastWithin_1 17 rfl) (zby_w zwX2_leastWithin_1 18 rfl) (by decide)) ?_
          refine zr_iload_n C (zo_29 (p := 51) (zby_w zwX2_leastWithin_1 19 rfl)) rfl ?_
          obtain ⟨ho12, h⟩ := h
          refine zr_lald C (sh_66) ho12 (zo_47 (p := 52) (zby_w zwX2_leastWithin_1 20 rfl)) ?_
          refine zr_cip (zr_runS (As := [.long (σ.2 66 v3.toNatClampNeg)]) (rest := [.int r10]) C sw_X2_52 (c_X2_meanIn l g (σ.2 66 v3.toNatClampNeg) σ _ h) (by decide) (by decide) rfl rfl (Nat.le_of_ble_eq_true rfl) (zo_184 (p := 53) (k := 52) (a := 0) (b := 52) (zby_w zwX2_leastWithin_1 21 rfl) (zby_w zwX2_leastWithin_1 22 rfl) (zby_w zwX2_leastWithin_1 23 rfl) (by decide))) (fun r13 h => ?_)
          refine zr_icmp_ge C 62 (zo_162 (p := 56) (k := 6) (a := 0) (b := 6) (zby_w zwX2_leastWithin_1 24 rfl) (zby_w zwX2_leastWithin_1 25 rfl) (zby_w zwX2_leastWithin_1 26 rfl) (by decide)) (by decide) (fun hc15 => ?_) (fun hc15 => ?_)
          · rw [if_pos hc15] at h
            refine zr_iinc C (v4 + 1) [(4, .int (v4 + 1)), (0, .ref (g.2.1 63)), (1, .int v1), (2, .int v2), (3, .int v3)] d_X2_leastWithin_62 rfl rfl (by decide) rfl ?_
            refine zr_goto C 11 d_X2_leastWithin_65 (by decide) ?_
            exact zr_pick [1, 2, 3, 4, 0] rfl (ih v3 (v4 + 1) σ h)
          · rw [if_neg hc15] at h
            refine zr_iload C d_X2_leastWithin_59 rfl ?_
            refine zr_istore_n C [(3, .int v4), (0, .ref (g.2.1 63)), (1, .int v1), (2, .int v2), (4, .int v4)] d_X2_leastWithin_61 (by decide) rfl ?_
            refine zr_iinc C (v4 + 1) [(4, .int (v4 + 1)), (3, .int v4), (0, .ref (g.2.1 63)), (1, .int v1), (2, .int v2)] d_X2_leastWithin_62 rfl rfl (by decide) rfl ?_
            refine zr_goto C 11 d_X2_leastWithin_65 (by decide) ?_
            exact zr_pick [2, 3, 4, 1, 0] rfl (ih v4 (v4 + 1) σ h)

def wp_X2_leastWithin (p1 : Int32) (σ : zST) (Post : Int32 → zST → Prop) : Prop := wp_X2_spreadChoices σ (fun r1 σ2 => ∃ M16 : Nat, wp_X2_leastWithin_L11 p1 r1 Post M16 (-6 : Int32) (0 : Int32) σ2)
set_option maxRecDepth 100000 in
set_option maxHeartbeats 4000000 in
theorem g_X2_leastWithin {p : Program} {l : Launch} {e : Env} {R : Room} {s : State} {m : MethodId} {args : Array Value} {below : List Frame} {meth : Method} {c : Code} {Q : State → Prop} {g : zG} {n1 n2 : Nat} (C : zCX p R s m args meth c g n1 n2 cX2_leastWithin 5 RX2 1 26) {p1 : Int32} {σ : zST} {Post : Int32 → zST → Prop} (hret : ∀ (v : Int32) (σ : zST) (pc : Nat) (lv : List (Nat × Value)), Post v σ → decode cX2_leastWithin pc = .ok (.ireturn, 1) → zGG p l e R s m args below meth c Q g n1 n2 5 pc lv [.int v] σ) (h : wp_X2_leastWithin p1 σ Post) : zGG p l e R s m args below meth c Q g n1 n2 5 0 [(0, .ref (g.2.1 63)), (1, .int p1)] [] σ := by
  unfold wp_X2_leastWithin at h
  refine zr_aload_n C (zo_42 (p := 0) (zby_w zwX2_leastWithin_0 0 rfl)) rfl ?_
  refine zr_ci (zr_runV (As := []) (rest := []) C vw_X2_44 (c_X2_spreadChoices l g σ _ h) (sh_63) rfl (by decide) (by decide) rfl rfl (Nat.le_of_ble_eq_true rfl) (zo_182 (p := 1) (k := 44) (a := 0) (b := 44) (zby_w zwX2_leastWithin_0 1 rfl) (zby_w zwX2_leastWithin_0 2 rfl) (zby_w zwX2_leastWithin_0 3 rfl) (by decide))) (fun r1 σ2 h => ?_)
  refine zr_istore_n C [(2, .int r1), (0, .ref (g.2.1 63)), (1, .int p1)] (zo_61 (p := 4) (zby_w zwX2_leastWithin_0 4 rfl)) (by decide) rfl ?_
  refine zr_bipush C (-6 : Int32) (zo_16 (p := 5) (k := (-6)) (a := 250) (zby_w zwX2_leastWithin_0 5 rfl) (zby_w zwX2_leastWithin_0 6 rfl) (by decide)) (by decide) ?_
  refine zr_istore_n C [(3, .int (-6 : Int32)), (2, .int r1), (0, .ref (g.2.1 63)), (1, .int p1)] (zo_62 (p := 7) (zby_w zwX2_leastWithin_0 7 rfl)) (by decide) rfl ?_
  refine zr_iconst C (0 : Int32) (zo_3 (p := 8) (zby_w zwX2_leastWithin_0 8 rfl)) (by decide) ?_
  refine zr_istore C [(4, .int (0 : Int32)), (3, .int (-6 : Int32)), (2, .int r1), (0, .ref (g.2.1 63)), (1, .int p1)] (zo_54 (p := 9) (k := 4) (a := 4) (zby_w zwX2_leastWithin_0 9 rfl) (zby_w zwX2_leastWithin_0 10 rfl) (by decide)) (by decide) rfl ?_
  obtain ⟨M16, h⟩ := h
  exact zr_pick [3, 4, 2, 1, 0] rfl (g_X2_leastWithin_L11 C hret M16 (-6 : Int32) (0 : Int32) σ2 h)
set_option maxRecDepth 20000 in
theorem c_X2_leastWithin (l : Launch) (g : zG) (p1 : Int32) (σ : zST) (Post : Int32 → zST → Prop) (h : wp_X2_leastWithin p1 σ Post) : Met l yX2_leastWithin (Cond.code yX2_leastWithin cX2_leastWithin 5 (some .int) :: zGW) (zRm 1 26) (va_Pc [.ref (g.2.1 63), .int p1] (zPP g σ)) (va_Qi Post (zBB g) (zA g)) 0 0 (zA g) :=
  zMet (by decide) (Nat.le_of_ble_eq_true rfl) (fun p e s m below meth c hr C => g_X2_leastWithin C (fun v σ pc lv hp hd => zr_iret C hr hp hd) h)
def wp_X2_meanOfChoice (p1 : Int32) (σ : zST) (Post : Int32 → Prop) : Prop := wp_X8_within p1 (0 : Int32) (728 : Int32) σ (fun r1 => (if r1 = (0) then Post (-6 : Int32) else vp_in p1 729 ∧ wp_X2_meanIn (σ.2 66 p1.toNatClampNeg) σ (fun r5 => Post r5)))
set_option maxRecDepth 100000 in
set_option maxHeartbeats 4000000 in
theorem g_X2_meanOfChoice {p : Program} {l : Launch} {e : Env} {R : Room} {s : State} {m : MethodId} {args : Array Value} {below : List Frame} {meth : Method} {c : Code} {Q : State → Prop} {g : zG} {n1 n2 : Nat} (C : zCX p R s m args meth c g n1 n2 cX2_meanOfChoice 2 RX2 1 22) {p1 : Int32} {σ : zST} {Post : Int32 → Prop} (hret : ∀ (v : Int32) (pc : Nat) (lv : List (Nat × Value)), Post v → decode cX2_meanOfChoice pc = .ok (.ireturn, 1) → zGG p l e R s m args below meth c Q g n1 n2 2 pc lv [.int v] σ) (h : wp_X2_meanOfChoice p1 σ Post) : zGG p l e R s m args below meth c Q g n1 n2 2 0 [(0, .ref (g.2.1 63)), (1, .int p1)] [] σ := by
  unfold wp_X2_meanOfChoice at h
  refine zr_iload_n C (zo_27 (p := 0) (zby_w zwX2_meanOfChoice_0 0 rfl)) rfl ?_
  refine zr_iconst C (0 : Int32) (zo_3 (p := 1) (zby_w zwX2_meanOfChoice_0 1 rfl)) (by decide) ?_
  refine zr_sipush C (728 : Int32) (zo_17 (p := 2) (k := 728) (a := 2) (b := 216) (zby_w zwX2_meanOfChoice_0 2 rfl) (zby_w zwX2_meanOfChoice_0 3 rfl) (zby_w zwX2_meanOfChoice_0 4 rfl) (by decide)) (by decide) ?_
  refine zr_cip (zr_runN (As := [.int p1, .int (0 : Int32), .int (728 : Int32)]) (rest := []) C nw_X2_55 (c_X8_within l g p1 (0 : Int32) (728 : Int32) σ _ h) (by decide) (by decide) rfl rfl (Nat.le_of_ble_eq_true rfl) (zo_184 (p := 5) (k := 55) (a := 0) (b := 55) (zby_w zwX2_meanOfChoice_0 5 rfl) (zby_w zwX2_meanOfChoice_0 6 rfl) (zby_w zwX2_meanOfChoice_0 7 rfl) (by decide))) (fun r1 h => ?_)
  refine zr_if_eq C 23 (zo_153 (p := 8) (k := 15) (a := 0) (b := 15) (zby_w zwX2_meanOfChoice_0 8 rfl) (zby_w zwX2_meanOfChoice_0 9 rfl) (zby_w zwX2_meanOfChoice_0 10 rfl) (by decide)) (by decide) (fun hc3 => ?_) (fun hc3 => ?_)
  · rw [if_pos hc3] at h
    refine zr_bipush C (-6 : Int32) (zo_16 (p := 23) (k := (-6)) (a := 250) (zby_w zwX2_meanOfChoice_0 23 rfl) (zby_w zwX2_meanOfChoice_0 24 rfl) (by decide)) (by decide) ?_
    exact hret _ _ _ h d_X2_meanOfChoice_25
  · rw [if_neg hc3] at h
    refine zr_aload_n C (zo_42 (p := 11) (zby_w zwX2_meanOfChoice_0 11 rfl)) rfl ?_
    refine zr_getr (u := 66) C fw_X2_23 (sh_63) rfl (zo_180 (p := 12) (k := 23) (a := 0) (b := 23) (zby_w zwX2_meanOfChoice_0 12 rfl) (zby_w zwX2_meanOfChoice_0 13 rfl) (zby_w zwX2_meanOfChoice_0 14 rfl) (by decide)) ?_
    refine zr_iload_n C (zo_27 (p := 15) (zby_w zwX2_meanOfChoice_0 15 rfl)) rfl ?_
    obtain ⟨ho4, h⟩ := h
    refine zr_lald C (sh_66) ho4 (zo_47 (p := 16) (zby_w zwX2_meanOfChoice_0 16 rfl)) ?_
    refine zr_cip (zr_runS (As := [.long (σ.2 66 p1.toNatClampNeg)]) (rest := []) C sw_X2_52 (c_X2_meanIn l g (σ.2 66 p1.toNatClampNeg) σ _ h) (by decide) (by decide) rfl rfl (Nat.le_of_ble_eq_true rfl) (zo_184 (p := 17) (k := 52) (a := 0) (b := 52) (zby_w zwX2_meanOfChoice_0 17 rfl) (zby_w zwX2_meanOfChoice_0 18 rfl) (zby_w zwX2_meanOfChoice_0 19 rfl) (by decide))) (fun r5 h => ?_)
    refine zr_goto C 25 (zo_167 (p := 20) (k := 5) (a := 0) (b := 5) (zby_w zwX2_meanOfChoice_0 20 rfl) (zby_w zwX2_meanOfChoice_0 21 rfl) (zby_w zwX2_meanOfChoice_0 22 rfl) (by decide)) (by decide) ?_
    exact hret _ _ _ h d_X2_meanOfChoice_25
set_option maxRecDepth 20000 in
theorem c_X2_meanOfChoice (l : Launch) (g : zG) (p1 : Int32) (σ : zST) (Post : Int32 → Prop) (h : wp_X2_meanOfChoice p1 σ Post) : Met l yX2_meanOfChoice (Cond.code yX2_meanOfChoice cX2_meanOfChoice 2 (some .int) :: zGW) (zRm 1 22) (va_Pc [.ref (g.2.1 63), .int p1] (zPP g σ)) (va_Qi (fun r u => Post r ∧ u = σ) (zBB g) (zA g)) 0 0 (zA g) :=
  zMet (by decide) (Nat.le_of_ble_eq_true rfl) (fun p e s m below meth c hr C => g_X2_meanOfChoice C (fun v pc lv hp hd => zr_iret C hr ⟨hp, rfl⟩ hd) h)
def wp_X2_sideInChoice_L10 (v2 : Int32) (σ : zST) (Post : Int32 → Prop) : Nat → Int32 → Int32 → Prop
  | 0, _, _ => False
  | N + 1, v3, v4 => (if v4 < (0) then Post (-6 : Int32) else vp_in v4 6 ∧ (if (σ.1 64 v4.toNatClampNeg) = v2 then Post (v3 - v3 / (3 : Int32) * (3 : Int32)) else ∀ x5 : Int32, x5 = (v3 / (3 : Int32)) → wp_X2_sideInChoice_L10 v2 σ Post N x5 (v4 + (-1))))

set_option maxRecDepth 100000 in
set_option maxHeartbeats 4000000 in
theorem g_X2_sideInChoice_L10 {p : Program} {l : Launch} {e : Env} {R : Room} {s : State} {m : MethodId} {args : Array Value} {below : List Frame} {meth : Method} {c : Code} {Q : State → Prop} {g : zG} {n1 n2 : Nat} (C : zCX p R s m args meth c g n1 n2 cX2_sideInChoice 5 RX2 0 0) {v2 : Int32} {σ : zST}  {Post : Int32 → Prop} (hret : ∀ (v : Int32) (pc : Nat) (lv : List (Nat × Value)), Post v → decode cX2_sideInChoice pc = .ok (.ireturn, 1) → zGG p l e R s m args below meth c Q g n1 n2 5 pc lv [.int v] σ) : ∀ (N : Nat) (v3 : Int32) (v4 : Int32) , wp_X2_sideInChoice_L10 v2 σ Post N v3 v4 → zGG p l e R s m args below meth c Q g n1 n2 5 10 [(0, .ref (g.2.1 63)), (2, .int v2), (3, .int v3), (4, .int v4)] [] σ := by
  intro N
  induction N with
  | zero =>
    intro v3 v4 h
    exact h.elim
  | succ N ih =>
    intro v3 v4 h
    rw [wp_X2_sideInChoice_L10] at h
    refine zr_iload C (zo_21 (p := 10) (k := 4) (a := 4) (zby_w zwX2_sideInChoice_0 10 rfl) (zby_w zwX2_sideInChoice_0 11 rfl) (by decide)) rfl ?_
    refine zr_if_lt C 40 (zo_155 (p := 12) (k := 28) (a := 0) (b := 28) (zby_w zwX2_sideInChoice_0 12 rfl) (zby_w zwX2_sideInChoice_0 13 rfl) (zby_w zwX2_sideInChoice_0 14 rfl) (by decide)) (by decide) (fun hc2 => ?_) (fun hc2 => ?_)
    · rw [if_pos hc2] at h
      refine zr_bipush C (-6 : Int32) (zo_16 (p := 40) (k := (-6)) (a := 250) (zby_w zwX2_sideInChoice_1 8 rfl) (zby_w zwX2_sideInChoice_1 9 rfl) (by decide)) (by decide) ?_
      exact hret _ _ _ h (zo_172 (p := 42) (zby_w zwX2_sideInChoice_1 10 rfl))
    · rw [if_neg hc2] at h
      refine zr_aload_n C (zo_42 (p := 15) (zby_w zwX2_sideInChoice_0 15 rfl)) rfl ?_
      refine zr_getr (u := 64) C fw_X2_9 (sh_63) rfl (zo_180 (p := 16) (k := 9) (a := 0) (b := 9) (zby_w zwX2_sideInChoice_0 16 rfl) (zby_w zwX2_sideInChoice_0 17 rfl) (zby_w zwX2_sideInChoice_0 18 rfl) (by decide)) ?_
      refine zr_iload C (zo_21 (p := 19) (k := 4) (a := 4) (zby_w zwX2_sideInChoice_0 19 rfl) (zby_w zwX2_sideInChoice_0 20 rfl) (by decide)) rfl ?_
      obtain ⟨ho3, h⟩ := h
      refine zr_iald C (sh_64) ho3 (zo_46 (p := 21) (zby_w zwX2_sideInChoice_0 21 rfl)) ?_
      refine zr_iload_n C (zo_28 (p := 22) (zby_w zwX2_sideInChoice_0 22 rfl)) rfl ?_
      refine zr_icmp_ne C 30 (zo_160 (p := 23) (k := 7) (a := 0) (b := 7) (zby_w zwX2_sideInChoice_0 23 rfl) (zby_w zwX2_sideInChoice_0 24 rfl) (zby_w zwX2_sideInChoice_0 25 rfl) (by decide)) (by decide) (fun hc4 => ?_) (fun hc4 => ?_)
      · rw [if_neg hc4] at h
        refine zr_iload_n C (zo_29 (p := 30) (zby_w zwX2_sideInChoice_0 30 rfl)) rfl ?_
        refine zr_iconst C (3 : Int32) (zo_6 (p := 31) (zby_w zwX2_sideInChoice_0 31 rfl)) (by decide) ?_
        refine zr_idiv C (zo_108 (p := 32) (zby_w zwX2_sideInChoice_1 0 rfl)) (by decide) ?_
        refine zr_topi (fun x5 hx5 => ?_)
        replace h := h x5 hx5
        refine zr_istore_n C [(3, .int x5), (0, .ref (g.2.1 63)), (2, .int v2), (4, .int v4)] (zo_62 (p := 33) (zby_w zwX2_sideInChoice_1 1 rfl)) (by decide) rfl ?_
        refine zr_iinc C (v4 + (-1)) [(4, .int (v4 + (-1))), (3, .int x5), (0, .ref (g.2.1 63)), (2, .int v2)] d_X2_sideInChoice_34 rfl rfl (by decide) rfl ?_
        refine zr_goto C 10 (zo_167 (p := 37) (k := (-27)) (a := 255) (b := 229) (zby_w zwX2_sideInChoice_1 5 rfl) (zby_w zwX2_sideInChoice_1 6 rfl) (zby_w zwX2_sideInChoice_1 7 rfl) (by decide)) (by decide) ?_
        exact zr_pick [2, 3, 1, 0] rfl (ih x5 (v4 + (-1)) h)
      · rw [if_pos hc4] at h
        refine zr_iload_n C (zo_29 (p := 26) (zby_w zwX2_sideInChoice_0 26 rfl)) rfl ?_
        refine zr_iconst C (3 : Int32) (zo_6 (p := 27) (zby_w zwX2_sideInChoice_0 27 rfl)) (by decide) ?_
        refine zr_irem C (zo_112 (p := 28) (zby_w zwX2_sideInChoice_0 28 rfl)) (by decide) ?_
        exact hret _ _ _ h (zo_172 (p := 29) (zby_w zwX2_sideInChoice_0 29 rfl))

def wp_X2_sideInChoice (p1 : Int32) (p2 : Int32) (σ : zST) (Post : Int32 → Prop) : Prop := ∀ x1 : Int32, x1 = ((σ.1 63 1) - (1 : Int32)) → ∃ M6 : Nat, wp_X2_sideInChoice_L10 p2 σ Post M6 p1 x1
set_option maxRecDepth 100000 in
set_option maxHeartbeats 4000000 in
theorem g_X2_sideInChoice {p : Program} {l : Launch} {e : Env} {R : Room} {s : State} {m : MethodId} {args : Array Value} {below : List Frame} {meth : Method} {c : Code} {Q : State → Prop} {g : zG} {n1 n2 : Nat} (C : zCX p R s m args meth c g n1 n2 cX2_sideInChoice 5 RX2 0 0) {p1 : Int32} {p2 : Int32} {σ : zST} {Post : Int32 → Prop} (hret : ∀ (v : Int32) (pc : Nat) (lv : List (Nat × Value)), Post v → decode cX2_sideInChoice pc = .ok (.ireturn, 1) → zGG p l e R s m args below meth c Q g n1 n2 5 pc lv [.int v] σ) (h : wp_X2_sideInChoice p1 p2 σ Post) : zGG p l e R s m args below meth c Q g n1 n2 5 0 [(0, .ref (g.2.1 63)), (1, .int p1), (2, .int p2)] [] σ := by
  unfold wp_X2_sideInChoice at h
  refine zr_iload_n C (zo_27 (p := 0) (zby_w zwX2_sideInChoice_0 0 rfl)) rfl ?_
  refine zr_istore_n C [(3, .int p1), (0, .ref (g.2.1 63)), (1, .int p1), (2, .int p2)] (zo_62 (p := 1) (zby_w zwX2_sideInChoice_0 1 rfl)) (by decide) rfl ?_
  refine zr_aload_n C (zo_42 (p := 2) (zby_w zwX2_sideInChoice_0 2 rfl)) rfl ?_
  refine zr_geti C fw_X2_15 (sh_63) rfl (zo_180 (p := 3) (k := 15) (a := 0) (b := 15) (zby_w zwX2_sideInChoice_0 3 rfl) (zby_w zwX2_sideInChoice_0 4 rfl) (zby_w zwX2_sideInChoice_0 5 rfl) (by decide)) ?_
  refine zr_iconst C (1 : Int32) (zo_4 (p := 6) (zby_w zwX2_sideInChoice_0 6 rfl)) (by decide) ?_
  refine zr_isub C (zo_100 (p := 7) (zby_w zwX2_sideInChoice_0 7 rfl)) ?_
  refine zr_topi (fun x1 hx1 => ?_)
  replace h := h x1 hx1
  refine zr_istore C [(4, .int x1), (3, .int p1), (0, .ref (g.2.1 63)), (1, .int p1), (2, .int p2)] (zo_54 (p := 8) (k := 4) (a := 4) (zby_w zwX2_sideInChoice_0 8 rfl) (zby_w zwX2_sideInChoice_0 9 rfl) (by decide)) (by decide) rfl ?_
  obtain ⟨M6, h⟩ := h
  exact zr_pick [2, 4, 1, 0] rfl (g_X2_sideInChoice_L10 C hret M6 p1 x1 h)
set_option maxRecDepth 20000 in
theorem c_X2_sideInChoice (l : Launch) (g : zG) (p1 : Int32) (p2 : Int32) (σ : zST) (Post : Int32 → Prop) (h : wp_X2_sideInChoice p1 p2 σ Post) : Met l yX2_sideInChoice (Cond.code yX2_sideInChoice cX2_sideInChoice 5 (some .int) :: zGW) (zRm 0 0) (va_Pc [.ref (g.2.1 63), .int p1, .int p2] (zPP g σ)) (va_Qi (fun r u => Post r ∧ u = σ) (zBB g) (zA g)) 0 0 (zA g) :=
  zMet (by decide) (Nat.le_of_ble_eq_true rfl) (fun p e s m below meth c hr C => g_X2_sideInChoice C (fun v pc lv hp hd => zr_iret C hr ⟨hp, rfl⟩ hd) h)
def wp_X2_widenFront_J204 (v6 : Int32) (σ : zST) (Post : Int32 → zST → Prop) : Prop := zCp 729 729 (0 : Int32) (0 : Int32) v6 ∧ Post v6 (wRL σ 67 (va_cpy (σ.2 68) (σ.2 67) (0 : Int32).toNatClampNeg (0 : Int32).toNatClampNeg v6.toNatClampNeg))

set_option maxRecDepth 100000 in
set_option maxHeartbeats 4000000 in
theorem g_X2_widenFront_J204 {p : Program} {l : Launch} {e : Env} {R : Room} {s : State} {m : MethodId} {args : Array Value} {below : List Frame} {meth : Method} {c : Code} {Q : State → Prop} {g : zG} {n1 n2 : Nat} (C : zCX p R s m args meth c g n1 n2 cX2_widenFront 16 RX2 1 48) {v6 : Int32} {σ : zST}  {Post : Int32 → zST → Prop} (hret : ∀ (v : Int32) (σ : zST) (pc : Nat) (lv : List (Nat × Value)), Post v σ → decode cX2_widenFront pc = .ok (.ireturn, 1) → zGG p l e R s m args below meth c Q g n1 n2 16 pc lv [.int v] σ) (h : wp_X2_widenFront_J204 v6 σ Post) : zGG p l e R s m args below meth c Q g n1 n2 16 204 [(0, .ref (g.2.1 63)), (6, .int v6)] [] σ := by
  unfold wp_X2_widenFront_J204 at h
  refine zr_aload_n C (zo_42 (p := 204) (zby_w zwX2_widenFront_6 12 rfl)) rfl ?_
  refine zr_getr (u := 68) C fw_X2_29 (sh_63) rfl (zo_180 (p := 205) (k := 29) (a := 0) (b := 29) (zby_w zwX2_widenFront_6 13 rfl) (zby_w zwX2_widenFront_6 14 rfl) (zby_w zwX2_widenFront_6 15 rfl) (by decide)) ?_
  refine zr_iconst C (0 : Int32) (zo_3 (p := 208) (zby_w zwX2_widenFront_6 16 rfl)) (by decide) ?_
  refine zr_aload_n C (zo_42 (p := 209) (zby_w zwX2_widenFront_6 17 rfl)) rfl ?_
  refine zr_getr (u := 67) C fw_X2_26 (sh_63) rfl (zo_180 (p := 210) (k := 26) (a := 0) (b := 26) (zby_w zwX2_widenFront_6 18 rfl) (zby_w zwX2_widenFront_6 19 rfl) (zby_w zwX2_widenFront_6 20 rfl) (by decide)) ?_
  refine zr_iconst C (0 : Int32) (zo_3 (p := 213) (zby_w zwX2_widenFront_6 21 rfl)) (by decide) ?_
  refine zr_iload C (zo_21 (p := 214) (k := 6) (a := 6) (zby_w zwX2_widenFront_6 22 rfl) (zby_w zwX2_widenFront_6 23 rfl) (by decide)) rfl ?_
  obtain ⟨ho2, h⟩ := h
  refine zr_copyl C aw_X2_71 (sh_68) (sh_67) ho2 (by decide) (Nat.le_of_ble_eq_true rfl) (zo_184 (p := 216) (k := 71) (a := 0) (b := 71) (zby_w zwX2_widenFront_6 24 rfl) (zby_w zwX2_widenFront_6 25 rfl) (zby_w zwX2_widenFront_6 26 rfl) (by decide)) ?_
  refine zr_iload C (zo_21 (p := 219) (k := 6) (a := 6) (zby_w zwX2_widenFront_6 27 rfl) (zby_w zwX2_widenFront_6 28 rfl) (by decide)) rfl ?_
  exact hret _ _ _ _ h (zo_172 (p := 221) (zby_w zwX2_widenFront_6 29 rfl))

def wp_X2_widenFront_J153 (v1 : Int32) (v2 : Int32) (v3 : Int32) (v4 : Int32) (v5 : Int32) (v6 : Int32) (v7 : Int32) (v14 : Int64) (σ : zST) (K14 : Int32 → Int32 → Int32 → Int32 → Int32 → zST → Prop) : Prop := (if (729 : Int32) ≤ v6 then K14 v3 v4 v5 v6 (v7 + 1) σ else (if v6 = (0) then vp_in v6 729 ∧ K14 v3 v4 v5 (v6 + 1) (v7 + 1) (wL σ 68 v6.toNatClampNeg v14) else wp_X2_worstIn v14 σ (fun r27 => vp_in (v6 - (1 : Int32)) 729 ∧ wp_X2_worstIn (σ.2 68 (v6 - (1 : Int32)).toNatClampNeg) σ (fun r30 => (if r30 ≤ r27 then K14 v3 v4 v5 v6 (v7 + 1) σ else vp_in v6 729 ∧ K14 v3 v4 v5 (v6 + 1) (v7 + 1) (wL σ 68 v6.toNatClampNeg v14))))))

set_option maxRecDepth 100000 in
set_option maxHeartbeats 4000000 in
theorem g_X2_widenFront_J153 {p : Program} {l : Launch} {e : Env} {R : Room} {s : State} {m : MethodId} {args : Array Value} {below : List Frame} {meth : Method} {c : Code} {Q : State → Prop} {g : zG} {n1 n2 : Nat} (C : zCX p R s m args meth c g n1 n2 cX2_widenFront 16 RX2 1 48) {v1 : Int32} {v2 : Int32} {v3 : Int32} {v4 : Int32} {v5 : Int32} {v6 : Int32} {v7 : Int32} {v14 : Int64} {σ : zST} {K14 : Int32 → Int32 → Int32 → Int32 → Int32 → zST → Prop} (hK14 : ∀ (w3 : Int32) (w4 : Int32) (w5 : Int32) (w6 : Int32) (w7 : Int32) (σ : zST), K14 w3 w4 w5 w6 w7 σ → zGG p l e R s m args below meth c Q g n1 n2 16 14 [(0, .ref (g.2.1 63)), (1, .int v1), (2, .int v2), (3, .int w3), (4, .int w4), (5, .int w5), (6, .int w6), (7, .int w7)] [] σ) (h : wp_X2_widenFront_J153 v1 v2 v3 v4 v5 v6 v7 v14 σ K14) : zGG p l e R s m args below meth c Q g n1 n2 16 153 [(0, .ref (g.2.1 63)), (1, .int v1), (2, .int v2), (3, .int v3), (4, .int v4), (5, .int v5), (6, .int v6), (7, .int v7), (14, .long v14)] [] σ := by
  unfold wp_X2_widenFront_J153 at h
  refine zr_iload C (zo_21 (p := 153) (k := 6) (a := 6) (zby_w zwX2_widenFront_4 25 rfl) (zby_w zwX2_widenFront_4 26 rfl) (by decide)) rfl ?_
  refine zr_sipush C (729 : Int32) (zo_17 (p := 155) (k := 729) (a := 2) (b := 217) (zby_w zwX2_widenFront_4 27 rfl) (zby_w zwX2_widenFront_4 28 rfl) (zby_w zwX2_widenFront_4 29 rfl) (by decide)) (by decide) ?_
  refine zr_icmp_ge C 198 (zo_162 (p := 158) (k := 40) (a := 0) (b := 40) (zby_w zwX2_widenFront_4 30 rfl) (zby_w zwX2_widenFront_4 31 rfl) (zby_w zwX2_widenFront_4 32 rfl) (by decide)) (by decide) (fun hc24 => ?_) (fun hc24 => ?_)
  · rw [if_pos hc24] at h
    refine zr_iinc C (v7 + 1) [(7, .int (v7 + 1)), (0, .ref (g.2.1 63)), (1, .int v1), (2, .int v2), (3, .int v3), (4, .int v4), (5, .int v5), (6, .int v6), (14, .long v14)] d_X2_widenFront_198 rfl rfl (by decide) rfl ?_
    refine zr_goto C 14 d_X2_widenFront_201 (by decide) ?_
    exact zr_pick [1, 2, 3, 4, 5, 6, 7, 0] rfl (hK14 v3 v4 v5 v6 (v7 + 1) σ h)
  · rw [if_neg hc24] at h
    refine zr_iload C (zo_21 (p := 161) (k := 6) (a := 6) (zby_w zwX2_widenFront_5 1 rfl) (zby_w zwX2_widenFront_5 2 rfl) (by decide)) rfl ?_
    refine zr_if_eq C 186 (zo_153 (p := 163) (k := 23) (a := 0) (b := 23) (zby_w zwX2_widenFront_5 3 rfl) (zby_w zwX2_widenFront_5 4 rfl) (zby_w zwX2_widenFront_5 5 rfl) (by decide)) (by decide) (fun hc25 => ?_) (fun hc25 => ?_)
    · rw [if_pos hc25] at h
      refine zr_aload_n C d_X2_widenFront_186 rfl ?_
      refine zr_getr (u := 68) C fw_X2_29 (sh_63) rfl d_X2_widenFront_187 ?_
      refine zr_iload C d_X2_widenFront_190 rfl ?_
      refine zr_lload C d_X2_widenFront_192 rfl ?_
      obtain ⟨ho26, h⟩ := h
      refine zr_last C (sh_68) ho26 d_X2_widenFront_194 ?_
      refine zr_iinc C (v6 + 1) [(6, .int (v6 + 1)), (0, .ref (g.2.1 63)), (1, .int v1), (2, .int v2), (3, .int v3), (4, .int v4), (5, .int v5), (7, .int v7), (14, .long v14)] d_X2_widenFront_195 rfl rfl (by decide) rfl ?_
      refine zr_iinc C (v7 + 1) [(7, .int (v7 + 1)), (6, .int (v6 + 1)), (0, .ref (g.2.1 63)), (1, .int v1), (2, .int v2), (3, .int v3), (4, .int v4), (5, .int v5), (14, .long v14)] d_X2_widenFront_198 rfl rfl (by decide) rfl ?_
      refine zr_goto C 14 d_X2_widenFront_201 (by decide) ?_
      exact zr_pick [2, 3, 4, 5, 6, 7, 1, 0] rfl (hK14 v3 v4 v5 (v6 + 1) (v7 + 1) (wL σ 68 v6.toNatClampNeg v14) h)
    · rw [if_neg hc25] at h
      refine zr_lload C (zo_22 (p := 166) (k := 14) (a := 14) (zby_w zwX2_widenFront_5 6 rfl) (zby_w zwX2_widenFront_5 7 rfl) (by decide)) rfl ?_
      refine zr_cip (zr_runS (As := [.long v14]) (rest := []) C sw_X2_48 (c_X2_worstIn l g v14 σ _ h) (by decide) (by decide) rfl rfl (Nat.le_of_ble_eq_true rfl) (zo_184 (p := 168) (k := 48) (a := 0) (b := 48) (zby_w zwX2_widenFront_5 8 rfl) (zby_w zwX2_widenFront_5 9 rfl) (zby_w zwX2_widenFront_5 10 rfl) (by decide))) (fun r27 h => ?_)
      refine zr_aload_n C (zo_42 (p := 171) (zby_w zwX2_widenFront_5 11 rfl)) rfl ?_
      refine zr_getr (u := 68) C fw_X2_29 (sh_63) rfl (zo_180 (p := 172) (k := 29) (a := 0) (b := 29) (zby_w zwX2_widenFront_5 12 rfl) (zby_w zwX2_widenFront_5 13 rfl) (zby_w zwX2_widenFront_5 14 rfl) (by decide)) ?_
      refine zr_iload C (zo_21 (p := 175) (k := 6) (a := 6) (zby_w zwX2_widenFront_5 15 rfl) (zby_w zwX2_widenFront_5 16 rfl) (by decide)) rfl ?_
      refine zr_iconst C (1 : Int32) (zo_4 (p := 177) (zby_w zwX2_widenFront_5 17 rfl)) (by decide) ?_
      refine zr_isub C (zo_100 (p := 178) (zby_w zwX2_widenFront_5 18 rfl)) ?_
      obtain ⟨ho29, h⟩ := h
      refine zr_lald C (sh_68) ho29 (zo_47 (p := 179) (zby_w zwX2_widenFront_5 19 rfl)) ?_
      refine zr_cip (zr_runS (As := [.long (σ.2 68 (v6 - (1 : Int32)).toNatClampNeg)]) (rest := [.int r27]) C sw_X2_48 (c_X2_worstIn l g (σ.2 68 (v6 - (1 : Int32)).toNatClampNeg) σ _ h) (by decide) (by decide) rfl rfl (Nat.le_of_ble_eq_true rfl) (zo_184 (p := 180) (k := 48) (a := 0) (b := 48) (zby_w zwX2_widenFront_5 20 rfl) (zby_w zwX2_widenFront_5 21 rfl) (zby_w zwX2_widenFront_5 22 rfl) (by decide))) (fun r30 h => ?_)
      refine zr_icmp_ge C 198 (zo_162 (p := 183) (k := 15) (a := 0) (b := 15) (zby_w zwX2_widenFront_5 23 rfl) (zby_w zwX2_widenFront_5 24 rfl) (zby_w zwX2_widenFront_5 25 rfl) (by decide)) (by decide) (fun hc32 => ?_) (fun hc32 => ?_)
      · rw [if_pos hc32] at h
        refine zr_iinc C (v7 + 1) [(7, .int (v7 + 1)), (0, .ref (g.2.1 63)), (1, .int v1), (2, .int v2), (3, .int v3), (4, .int v4), (5, .int v5), (6, .int v6), (14, .long v14)] d_X2_widenFront_198 rfl rfl (by decide) rfl ?_
        refine zr_goto C 14 d_X2_widenFront_201 (by decide) ?_
        exact zr_pick [1, 2, 3, 4, 5, 6, 7, 0] rfl (hK14 v3 v4 v5 v6 (v7 + 1) σ h)
      · rw [if_neg hc32] at h
        refine zr_aload_n C d_X2_widenFront_186 rfl ?_
        refine zr_getr (u := 68) C fw_X2_29 (sh_63) rfl d_X2_widenFront_187 ?_
        refine zr_iload C d_X2_widenFront_190 rfl ?_
        refine zr_lload C d_X2_widenFront_192 rfl ?_
        obtain ⟨ho33, h⟩ := h
        refine zr_last C (sh_68) ho33 d_X2_widenFront_194 ?_
        refine zr_iinc C (v6 + 1) [(6, .int (v6 + 1)), (0, .ref (g.2.1 63)), (1, .int v1), (2, .int v2), (3, .int v3), (4, .int v4), (5, .int v5), (7, .int v7), (14, .long v14)] d_X2_widenFront_195 rfl rfl (by decide) rfl ?_
        refine zr_iinc C (v7 + 1) [(7, .int (v7 + 1)), (6, .int (v6 + 1)), (0, .ref (g.2.1 63)), (1, .int v1), (2, .int v2), (3, .int v3), (4, .int v4), (5, .int v5), (14, .long v14)] d_X2_widenFront_198 rfl rfl (by decide) rfl ?_
        refine zr_goto C 14 d_X2_widenFront_201 (by decide) ?_
        exact zr_pick [2, 3, 4, 5, 6, 7, 1, 0] rfl (hK14 v3 v4 v5 (v6 + 1) (v7 + 1) (wL σ 68 v6.toNatClampNeg v14) h)

def wp_X2_widenFront_L14 (v1 : Int32) (v2 : Int32) (Post : Int32 → zST → Prop) : Nat → Int32 → Int32 → Int32 → Int32 → Int32 → zST → Prop
  | 0, _, _, _, _, _, _ => False
  | N + 1, v3, v4, v5, v6, v7, σ => (if ((3 : Int32) * v1) ≤ v7 then wp_X2_widenFront_J204 v6 σ Post else (if v1 ≤ v3 then True else vp_in v3 729 ∧ vp_in v2 18 ∧ True) ∧ ∀ z4 : Int64, z4 = (if v1 ≤ v3 then (4611686018427387904 : Int64) else ((σ.2 67 v3.toNatClampNeg) + (σ.2 65 v2.toNatClampNeg))) → (if v1 ≤ v4 then True else vp_in v4 729 ∧ vp_in (v2 + (1 : Int32)) 18 ∧ True) ∧ ∀ z10 : Int64, z10 = (if v1 ≤ v4 then (4611686018427387904 : Int64) else ((σ.2 67 v4.toNatClampNeg) + (σ.2 65 (v2 + (1 : Int32)).toNatClampNeg))) → (if v1 ≤ v5 then True else vp_in v5 729 ∧ vp_in (v2 + (2 : Int32)) 18 ∧ True) ∧ ∀ z16 : Int64, z16 = (if v1 ≤ v5 then (4611686018427387904 : Int64) else ((σ.2 67 v5.toNatClampNeg) + (σ.2 65 (v2 + (2 : Int32)).toNatClampNeg))) → ∀ x21 : Int64, x21 = (if (if z16 < z10 then z16 else z10) < z4 then (if z16 < z10 then z16 else z10) else z4) → (if (lg_cmp x21 z4) = (0) then wp_X2_widenFront_J153 v1 v2 (v3 + 1) v4 v5 v6 v7 x21 σ (fun v3 v4 v5 v6 v7 σ => wp_X2_widenFront_L14 v1 v2 Post N v3 v4 v5 v6 v7 σ) else (if (lg_cmp x21 z10) = (0) then wp_X2_widenFront_J153 v1 v2 v3 (v4 + 1) v5 v6 v7 x21 σ (fun v3 v4 v5 v6 v7 σ => wp_X2_widenFront_L14 v1 v2 Post N v3 v4 v5 v6 v7 σ) else wp_X2_widenFront_J153 v1 v2 v3 v4 (v5 + 1) v6 v7 x21 σ (fun v3 v4 v5 v6 v7 σ => wp_X2_widenFront_L14 v1 v2 Post N v3 v4 v5 v6 v7 σ))))

set_option maxRecDepth 100000 in
set_option maxHeartbeats 4000000 in
theorem g_X2_widenFront_L14 {p : Program} {l : Launch} {e : Env} {R : Room} {s : State} {m : MethodId} {args : Array Value} {below : List Frame} {meth : Method} {c : Code} {Q : State → Prop} {g : zG} {n1 n2 : Nat} (C : zCX p R s m args meth c g n1 n2 cX2_widenFront 16 RX2 1 48) {v1 : Int32} {v2 : Int32}  {Post : Int32 → zST → Prop} (hret : ∀ (v : Int32) (σ : zST) (pc : Nat) (lv : List (Nat × Value)), Post v σ → decode cX2_widenFront pc = .ok (.ireturn, 1) → zGG p l e R s m args below meth c Q g n1 n2 16 pc lv [.int v] σ) : ∀ (N : Nat) (v3 : Int32) (v4 : Int32) (v5 : Int32) (v6 : Int32) (v7 : Int32) (σ : zST) , wp_X2_widenFront_L14 v1 v2 Post N v3 v4 v5 v6 v7 σ → zGG p l e R s m args below meth c Q g n1 n2 16 14 [(0, .ref (g.2.1 63)), (1, .int v1), (2, .int v2), (3, .int v3), (4, .int v4), (5, .int v5), (6, .int v6), (7, .int v7)] [] σ := by
  intro N
  induction N with
  | zero =>
    intro v3 v4 v5 v6 v7 σ h
    exact h.elim
  | succ N ih =>
    intro v3 v4 v5 v6 v7 σ h
    rw [wp_X2_widenFront_L14] at h
    refine zr_iload C (zo_21 (p := 14) (k := 7) (a := 7) (zby_w zwX2_widenFront_0 14 rfl) (zby_w zwX2_widenFront_0 15 rfl) (by decide)) rfl ?_
    refine zr_iconst C (3 : Int32) (zo_6 (p := 16) (zby_w zwX2_widenFront_0 16 rfl)) (by decide) ?_
    refine zr_iload_n C (zo_27 (p := 17) (zby_w zwX2_widenFront_0 17 rfl)) rfl ?_
    refine zr_imul C (zo_104 (p := 18) (zby_w zwX2_widenFront_0 18 rfl)) ?_
    refine zr_icmp_ge C 204 (zo_162 (p := 19) (k := 185) (a := 0) (b := 185) (zby_w zwX2_widenFront_0 19 rfl) (zby_w zwX2_widenFront_0 20 rfl) (zby_w zwX2_widenFront_0 21 rfl) (by decide)) (by decide) (fun hc1 => ?_) (fun hc1 => ?_)
    · rw [if_pos hc1] at h
      exact zr_pick [0, 6] rfl (g_X2_widenFront_J204 C hret h)
    · rw [if_neg hc1] at h
      refine zr_iload_n C (zo_29 (p := 22) (zby_w zwX2_widenFront_0 22 rfl)) rfl ?_
      refine zr_iload_n C (zo_27 (p := 23) (zby_w zwX2_widenFront_0 23 rfl)) rfl ?_
      obtain ⟨ho6, h⟩ := h
      have hJ5 : ∀ z4 : Int64, z4 = (if v1 ≤ v3 then (4611686018427387904 : Int64) else ((σ.2 67 v3.toNatClampNeg) + (σ.2 65 v2.toNatClampNeg))) → zGG p l e R s m args below meth c Q g n1 n2 16 46 [(0, .ref (g.2.1 63)), (1, .int v1), (2, .int v2), (3, .int v3), (4, .int v4), (5, .int v5), (6, .int v6), (7, .int v7)] [.long z4] σ := by
        intro z4 hz4
        replace h := h z4 hz4
        refine zr_lstore C [(8, .long z4), (0, .ref (g.2.1 63)), (1, .int v1), (2, .int v2), (3, .int v3), (4, .int v4), (5, .int v5), (6, .int v6), (7, .int v7)] (zo_55 (p := 46) (k := 8) (a := 8) (zby_w zwX2_widenFront_1 14 rfl) (zby_w zwX2_widenFront_1 15 rfl) (by decide)) (by decide) rfl ?_
        refine zr_iload C (zo_21 (p := 48) (k := 4) (a := 4) (zby_w zwX2_widenFront_1 16 rfl) (zby_w zwX2_widenFront_1 17 rfl) (by decide)) rfl ?_
        refine zr_iload_n C (zo_27 (p := 50) (zby_w zwX2_widenFront_1 18 rfl)) rfl ?_
        obtain ⟨ho12, h⟩ := h
        have hJ11 : ∀ z10 : Int64, z10 = (if v1 ≤ v4 then (4611686018427387904 : Int64) else ((σ.2 67 v4.toNatClampNeg) + (σ.2 65 (v2 + (1 : Int32)).toNatClampNeg))) → zGG p l e R s m args below meth c Q g n1 n2 16 76 [(8, .long z4), (0, .ref (g.2.1 63)), (1, .int v1), (2, .int v2), (3, .int v3), (4, .int v4), (5, .int v5), (6, .int v6), (7, .int v7)] [.long z10] σ := by
          intro z10 hz10
          replace h := h z10 hz10
          refine zr_lstore C [(10, .long z10), (8, .long z4), (0, .ref (g.2.1 63)), (1, .int v1), (2, .int v2), (3, .int v3), (4, .int v4), (5, .int v5), (6, .int v6), (7, .int v7)] (zo_55 (p := 76) (k := 10) (a := 10) (zby_w zwX2_widenFront_2 12 rfl) (zby_w zwX2_widenFront_2 13 rfl) (by decide)) (by decide) rfl ?_
          refine zr_iload C (zo_21 (p := 78) (k := 5) (a := 5) (zby_w zwX2_widenFront_2 14 rfl) (zby_w zwX2_widenFront_2 15 rfl) (by decide)) rfl ?_
          refine zr_iload_n C (zo_27 (p := 80) (zby_w zwX2_widenFront_2 16 rfl)) rfl ?_
          obtain ⟨ho18, h⟩ := h
          have hJ17 : ∀ z16 : Int64, z16 = (if v1 ≤ v5 then (4611686018427387904 : Int64) else ((σ.2 67 v5.toNatClampNeg) + (σ.2 65 (v2 + (2 : Int32)).toNatClampNeg))) → zGG p l e R s m args below meth c Q g n1 n2 16 106 [(10, .long z10), (8, .long z4), (0, .ref (g.2.1 63)), (1, .int v1), (2, .int v2), (3, .int v3), (4, .int v4), (5, .int v5), (6, .int v6), (7, .int v7)] [.long z16] σ := by
            intro z16 hz16
            replace h := h z16 hz16
            refine zr_lstore C [(12, .long z16), (10, .long z10), (8, .long z4), (0, .ref (g.2.1 63)), (1, .int v1), (2, .int v2), (3, .int v3), (4, .int v4), (5, .int v5), (6, .int v6), (7, .int v7)] (zo_55 (p := 106) (k := 12) (a := 12) (zby_w zwX2_widenFront_3 10 rfl) (zby_w zwX2_widenFront_3 11 rfl) (by decide)) (by decide) rfl ?_
            refine zr_lload C (zo_22 (p := 108) (k := 8) (a := 8) (zby_w zwX2_widenFront_3 12 rfl) (zby_w zwX2_widenFront_3 13 rfl) (by decide)) rfl ?_
            refine zr_lload C (zo_22 (p := 110) (k := 10) (a := 10) (zby_w zwX2_widenFront_3 14 rfl) (zby_w zwX2_widenFront_3 15 rfl) (by decide)) rfl ?_
            refine zr_lload C (zo_22 (p := 112) (k := 12) (a := 12) (zby_w zwX2_widenFront_3 16 rfl) (zby_w zwX2_widenFront_3 17 rfl) (by decide)) rfl ?_
            refine zr_mminl C mw_X2_65 (by decide) (Nat.le_of_ble_eq_true rfl) (zo_184 (p := 114) (k := 65) (a := 0) (b := 65) (zby_w zwX2_widenFront_3 18 rfl) (zby_w zwX2_widenFront_3 19 rfl) (zby_w zwX2_widenFront_3 20 rfl) (by decide)) ?_
            refine zr_mminl C mw_X2_65 (by decide) (Nat.le_of_ble_eq_true rfl) (zo_184 (p := 117) (k := 65) (a := 0) (b := 65) (zby_w zwX2_widenFront_3 21 rfl) (zby_w zwX2_widenFront_3 22 rfl) (zby_w zwX2_widenFront_3 23 rfl) (by decide)) ?_
            refine zr_topl (fun x21 hx21 => ?_)
            replace h := h x21 hx21
            refine zr_lstore C [(14, .long x21), (12, .long z16), (10, .long z10), (8, .long z4), (0, .ref (g.2.1 63)), (1, .int v1), (2, .int v2), (3, .int v3), (4, .int v4), (5, .int v5), (6, .int v6), (7, .int v7)] (zo_55 (p := 120) (k := 14) (a := 14) (zby_w zwX2_widenFront_3 24 rfl) (zby_w zwX2_widenFront_3 25 rfl) (by decide)) (by decide) rfl ?_
            refine zr_lload C (zo_22 (p := 122) (k := 14) (a := 14) (zby_w zwX2_widenFront_3 26 rfl) (zby_w zwX2_widenFront_3 27 rfl) (by decide)) rfl ?_
            refine zr_lload C (zo_22 (p := 124) (k := 8) (a := 8) (zby_w zwX2_widenFront_3 28 rfl) (zby_w zwX2_widenFront_3 29 rfl) (by decide)) rfl ?_
            refine zr_lcmp C (zo_148 (p := 126) (zby_w zwX2_widenFront_3 30 rfl)) ?_
            refine zr_if_ne C 136 (zo_154 (p := 127) (k := 9) (a := 0) (b := 9) (zby_w zwX2_widenFront_3 31 rfl) (zby_w zwX2_widenFront_3 32 rfl) (zby_w zwX2_widenFront_3 33 rfl) (by decide)) (by decide) (fun hc22 => ?_) (fun hc22 => ?_)
            · rw [if_neg hc22] at h
              refine zr_lload C (zo_22 (p := 136) (k := 14) (a := 14) (zby_w zwX2_widenFront_4 8 rfl) (zby_w zwX2_widenFront_4 9 rfl) (by decide)) rfl ?_
              refine zr_lload C (zo_22 (p := 138) (k := 10) (a := 10) (zby_w zwX2_widenFront_4 10 rfl) (zby_w zwX2_widenFront_4 11 rfl) (by decide)) rfl ?_
              refine zr_lcmp C (zo_148 (p := 140) (zby_w zwX2_widenFront_4 12 rfl)) ?_
              refine zr_if_ne C 150 (zo_154 (p := 141) (k := 9) (a := 0) (b := 9) (zby_w zwX2_widenFront_4 13 rfl) (zby_w zwX2_widenFront_4 14 rfl) (zby_w zwX2_widenFront_4 15 rfl) (by decide)) (by decide) (fun hc23 => ?_) (fun hc23 => ?_)
              · rw [if_neg hc23] at h
                refine zr_iinc C (v5 + 1) [(5, .int (v5 + 1)), (14, .long x21), (12, .long z16), (10, .long z10), (8, .long z4), (0, .ref (g.2.1 63)), (1, .int v1), (2, .int v2), (3, .int v3), (4, .int v4), (6, .int v6), (7, .int v7)] d_X2_widenFront_150 rfl rfl (by decide) rfl ?_
                exact zr_pick [5, 6, 7, 8, 9, 0, 10, 11, 1] rfl (g_X2_widenFront_J153 C ih h)
              · rw [if_pos hc23] at h
                refine zr_iinc C (v4 + 1) [(4, .int (v4 + 1)), (14, .long x21), (12, .long z16), (10, .long z10), (8, .long z4), (0, .ref (g.2.1 63)), (1, .int v1), (2, .int v2), (3, .int v3), (5, .int v5), (6, .int v6), (7, .int v7)] d_X2_widenFront_144 rfl rfl (by decide) rfl ?_
                refine zr_goto C 153 (zo_167 (p := 147) (k := 6) (a := 0) (b := 6) (zby_w zwX2_widenFront_4 19 rfl) (zby_w zwX2_widenFront_4 20 rfl) (zby_w zwX2_widenFront_4 21 rfl) (by decide)) (by decide) ?_
                exact zr_pick [5, 6, 7, 8, 0, 9, 10, 11, 1] rfl (g_X2_widenFront_J153 C ih h)
            · rw [if_pos hc22] at h
              refine zr_iinc C (v3 + 1) [(3, .int (v3 + 1)), (14, .long x21), (12, .long z16), (10, .long z10), (8, .long z4), (0, .ref (g.2.1 63)), (1, .int v1), (2, .int v2), (4, .int v4), (5, .int v5), (6, .int v6), (7, .int v7)] d_X2_widenFront_130 rfl rfl (by decide) rfl ?_
              refine zr_goto C 153 (zo_167 (p := 133) (k := 20) (a := 0) (b := 20) (zby_w zwX2_widenFront_4 5 rfl) (zby_w zwX2_widenFront_4 6 rfl) (zby_w zwX2_widenFront_4 7 rfl) (by decide)) (by decide) ?_
              exact zr_pick [5, 6, 7, 0, 8, 9, 10, 11, 1] rfl (g_X2_widenFront_J153 C ih h)
          refine zr_icmp_ge C 103 (zo_162 (p := 81) (k := 22) (a := 0) (b := 22) (zby_w zwX2_widenFront_2 17 rfl) (zby_w zwX2_widenFront_2 18 rfl) (zby_w zwX2_widenFront_2 19 rfl) (by decide)) (by decide) (fun hc15 => ?_) (fun hc15 => ?_)
          · skip
            rw [if_pos hc15] at ho18
            refine zr_ldc2 C (v := (4611686018427387904 : Int64)) cl_X2_63 (zo_20 (p := 103) (k := 63) (a := 0) (b := 63) (zby_w zwX2_widenFront_3 7 rfl) (zby_w zwX2_widenFront_3 8 rfl) (zby_w zwX2_widenFront_3 9 rfl) (by decide)) ?_
            exact hJ17 _ (by rw [if_pos hc15])
          · skip
            rw [if_neg hc15] at ho18
            refine zr_aload_n C (zo_42 (p := 84) (zby_w zwX2_widenFront_2 20 rfl)) rfl ?_
            refine zr_getr (u := 67) C fw_X2_26 (sh_63) rfl (zo_180 (p := 85) (k := 26) (a := 0) (b := 26) (zby_w zwX2_widenFront_2 21 rfl) (zby_w zwX2_widenFront_2 22 rfl) (zby_w zwX2_widenFront_2 23 rfl) (by decide)) ?_
            refine zr_iload C (zo_21 (p := 88) (k := 5) (a := 5) (zby_w zwX2_widenFront_2 24 rfl) (zby_w zwX2_widenFront_2 25 rfl) (by decide)) rfl ?_
            obtain ⟨ho19, ho18⟩ := ho18
            refine zr_lald C (sh_67) ho19 (zo_47 (p := 90) (zby_w zwX2_widenFront_2 26 rfl)) ?_
            refine zr_aload_n C (zo_42 (p := 91) (zby_w zwX2_widenFront_2 27 rfl)) rfl ?_
            refine zr_getr (u := 65) C fw_X2_19 (sh_63) rfl (zo_180 (p := 92) (k := 19) (a := 0) (b := 19) (zby_w zwX2_widenFront_2 28 rfl) (zby_w zwX2_widenFront_2 29 rfl) (zby_w zwX2_widenFront_2 30 rfl) (by decide)) ?_
            refine zr_iload_n C (zo_28 (p := 95) (zby_w zwX2_widenFront_2 31 rfl)) rfl ?_
            refine zr_iconst C (2 : Int32) (zo_5 (p := 96) (zby_w zwX2_widenFront_3 0 rfl)) (by decide) ?_
            refine zr_iadd C (zo_96 (p := 97) (zby_w zwX2_widenFront_3 1 rfl)) ?_
            obtain ⟨ho20, ho18⟩ := ho18
            refine zr_lald C (sh_65) ho20 (zo_47 (p := 98) (zby_w zwX2_widenFront_3 2 rfl)) ?_
            refine zr_ladd C (zo_97 (p := 99) (zby_w zwX2_widenFront_3 3 rfl)) ?_
            refine zr_goto C 106 (zo_167 (p := 100) (k := 6) (a := 0) (b := 6) (zby_w zwX2_widenFront_3 4 rfl) (zby_w zwX2_widenFront_3 5 rfl) (zby_w zwX2_widenFront_3 6 rfl) (by decide)) (by decide) ?_
            exact hJ17 _ (by rw [if_neg hc15])
        refine zr_icmp_ge C 73 (zo_162 (p := 51) (k := 22) (a := 0) (b := 22) (zby_w zwX2_widenFront_1 19 rfl) (zby_w zwX2_widenFront_1 20 rfl) (zby_w zwX2_widenFront_1 21 rfl) (by decide)) (by decide) (fun hc9 => ?_) (fun hc9 => ?_)
        · skip
          rw [if_pos hc9] at ho12
          refine zr_ldc2 C (v := (4611686018427387904 : Int64)) cl_X2_63 (zo_20 (p := 73) (k := 63) (a := 0) (b := 63) (zby_w zwX2_widenFront_2 9 rfl) (zby_w zwX2_widenFront_2 10 rfl) (zby_w zwX2_widenFront_2 11 rfl) (by decide)) ?_
          exact hJ11 _ (by rw [if_pos hc9])
        · skip
          rw [if_neg hc9] at ho12
          refine zr_aload_n C (zo_42 (p := 54) (zby_w zwX2_widenFront_1 22 rfl)) rfl ?_
          refine zr_getr (u := 67) C fw_X2_26 (sh_63) rfl (zo_180 (p := 55) (k := 26) (a := 0) (b := 26) (zby_w zwX2_widenFront_1 23 rfl) (zby_w zwX2_widenFront_1 24 rfl) (zby_w zwX2_widenFront_1 25 rfl) (by decide)) ?_
          refine zr_iload C (zo_21 (p := 58) (k := 4) (a := 4) (zby_w zwX2_widenFront_1 26 rfl) (zby_w zwX2_widenFront_1 27 rfl) (by decide)) rfl ?_
          obtain ⟨ho13, ho12⟩ := ho12
          refine zr_lald C (sh_67) ho13 (zo_47 (p := 60) (zby_w zwX2_widenFront_1 28 rfl)) ?_
          refine zr_aload_n C (zo_42 (p := 61) (zby_w zwX2_widenFront_1 29 rfl)) rfl ?_
          refine zr_getr (u := 65) C fw_X2_19 (sh_63) rfl (zo_180 (p := 62) (k := 19) (a := 0) (b := 19) (zby_w zwX2_widenFront_1 30 rfl) (zby_w zwX2_widenFront_1 31 rfl) (zby_w zwX2_widenFront_1 32 rfl) (by decide)) ?_
          refine zr_iload_n C (zo_28 (p := 65) (zby_w zwX2_widenFront_2 1 rfl)) rfl ?_
          refine zr_iconst C (1 : Int32) (zo_4 (p := 66) (zby_w zwX2_widenFront_2 2 rfl)) (by decide) ?_
          refine zr_iadd C (zo_96 (p := 67) (zby_w zwX2_widenFront_2 3 rfl)) ?_
          obtain ⟨ho14, ho12⟩ := ho12
          refine zr_lald C (sh_65) ho14 (zo_47 (p := 68) (zby_w zwX2_widenFront_2 4 rfl)) ?_
          refine zr_ladd C (zo_97 (p := 69) (zby_w zwX2_widenFront_2 5 rfl)) ?_
          refine zr_goto C 76 (zo_167 (p := 70) (k := 6) (a := 0) (b := 6) (zby_w zwX2_widenFront_2 6 rfl) (zby_w zwX2_widenFront_2 7 rfl) (zby_w zwX2_widenFront_2 8 rfl) (by decide)) (by decide) ?_
          exact hJ11 _ (by rw [if_neg hc9])
      refine zr_icmp_ge C 43 (zo_162 (p := 24) (k := 19) (a := 0) (b := 19) (zby_w zwX2_widenFront_0 24 rfl) (zby_w zwX2_widenFront_0 25 rfl) (zby_w zwX2_widenFront_0 26 rfl) (by decide)) (by decide) (fun hc3 => ?_) (fun hc3 => ?_)
      · skip
        rw [if_pos hc3] at ho6
        refine zr_ldc2 C (v := (4611686018427387904 : Int64)) cl_X2_63 (zo_20 (p := 43) (k := 63) (a := 0) (b := 63) (zby_w zwX2_widenFront_1 11 rfl) (zby_w zwX2_widenFront_1 12 rfl) (zby_w zwX2_widenFront_1 13 rfl) (by decide)) ?_
        exact hJ5 _ (by rw [if_pos hc3])
      · skip
        rw [if_neg hc3] at ho6
        refine zr_aload_n C (zo_42 (p := 27) (zby_w zwX2_widenFront_0 27 rfl)) rfl ?_
        refine zr_getr (u := 67) C fw_X2_26 (sh_63) rfl (zo_180 (p := 28) (k := 26) (a := 0) (b := 26) (zby_w zwX2_widenFront_0 28 rfl) (zby_w zwX2_widenFront_0 29 rfl) (zby_w zwX2_widenFront_0 30 rfl) (by decide)) ?_
        refine zr_iload_n C (zo_29 (p := 31) (zby_w zwX2_widenFront_0 31 rfl)) rfl ?_
        obtain ⟨ho7, ho6⟩ := ho6
        refine zr_lald C (sh_67) ho7 (zo_47 (p := 32) (zby_w zwX2_widenFront_1 0 rfl)) ?_
        refine zr_aload_n C (zo_42 (p := 33) (zby_w zwX2_widenFront_1 1 rfl)) rfl ?_
        refine zr_getr (u := 65) C fw_X2_19 (sh_63) rfl (zo_180 (p := 34) (k := 19) (a := 0) (b := 19) (zby_w zwX2_widenFront_1 2 rfl) (zby_w zwX2_widenFront_1 3 rfl) (zby_w zwX2_widenFront_1 4 rfl) (by decide)) ?_
        refine zr_iload_n C (zo_28 (p := 37) (zby_w zwX2_widenFront_1 5 rfl)) rfl ?_
        obtain ⟨ho8, ho6⟩ := ho6
        refine zr_lald C (sh_65) ho8 (zo_47 (p := 38) (zby_w zwX2_widenFront_1 6 rfl)) ?_
        refine zr_ladd C (zo_97 (p := 39) (zby_w zwX2_widenFront_1 7 rfl)) ?_
        refine zr_goto C 46 (zo_167 (p := 40) (k := 6) (a := 0) (b := 6) (zby_w zwX2_widenFront_1 8 rfl) (zby_w zwX2_widenFront_1 9 rfl) (zby_w zwX2_widenFront_1 10 rfl) (by decide)) (by decide) ?_
        exact hJ5 _ (by rw [if_neg hc3])

def wp_X2_widenFront (p1 : Int32) (p2 : Int32) (σ : zST) (Post : Int32 → zST → Prop) : Prop := ∃ M54 : Nat, wp_X2_widenFront_L14 p1 p2 Post M54 (0 : Int32) (0 : Int32) (0 : Int32) (0 : Int32) (0 : Int32) σ
set_option maxRecDepth 100000 in
set_option maxHeartbeats 4000000 in
theorem g_X2_widenFront {p : Program} {l : Launch} {e : Env} {R : Room} {s : State} {m : MethodId} {args : Array Value} {below : List Frame} {meth : Method} {c : Code} {Q : State → Prop} {g : zG} {n1 n2 : Nat} (C : zCX p R s m args meth c g n1 n2 cX2_widenFront 16 RX2 1 48) {p1 : Int32} {p2 : Int32} {σ : zST} {Post : Int32 → zST → Prop} (hret : ∀ (v : Int32) (σ : zST) (pc : Nat) (lv : List (Nat × Value)), Post v σ → decode cX2_widenFront pc = .ok (.ireturn, 1) → zGG p l e R s m args below meth c Q g n1 n2 16 pc lv [.int v] σ) (h : wp_X2_widenFront p1 p2 σ Post) : zGG p l e R s m args below meth c Q g n1 n2 16 0 [(0, .ref (g.2.1 63)), (1, .int p1), (2, .int p2)] [] σ := by
  unfold wp_X2_widenFront at h
  refine zr_iconst C (0 : Int32) (zo_3 (p := 0) (zby_w zwX2_widenFront_0 0 rfl)) (by decide) ?_
  refine zr_istore_n C [(3, .int (0 : Int32)), (0, .ref (g.2.1 63)), (1, .int p1), (2, .int p2)] (zo_62 (p := 1) (zby_w zwX2_widenFront_0 1 rfl)) (by decide) rfl ?_
  refine zr_iconst C (0 : Int32) (zo_3 (p := 2) (zby_w zwX2_widenFront_0 2 rfl)) (by decide) ?_
  refine zr_istore C [(4, .int (0 : Int32)), (3, .int (0 : Int32)), (0, .ref (g.2.1 63)), (1, .int p1), (2, .int p2)] (zo_54 (p := 3) (k := 4) (a := 4) (zby_w zwX2_widenFront_0 3 rfl) (zby_w zwX2_widenFront_0 4 rfl) (by decide)) (by decide) rfl ?_
  refine zr_iconst C (0 : Int32) (zo_3 (p := 5) (zby_w zwX2_widenFront_0 5 rfl)) (by decide) ?_
  refine zr_istore C [(5, .int (0 : Int32)), (4, .int (0 : Int32)), (3, .int (0 : Int32)), (0, .ref (g.2.1 63)), (1, .int p1), (2, .int p2)] (zo_54 (p := 6) (k := 5) (a := 5) (zby_w zwX2_widenFront_0 6 rfl) (zby_w zwX2_widenFront_0 7 rfl) (by decide)) (by decide) rfl ?_
  refine zr_iconst C (0 : Int32) (zo_3 (p := 8) (zby_w zwX2_widenFront_0 8 rfl)) (by decide) ?_
  refine zr_istore C [(6, .int (0 : Int32)), (5, .int (0 : Int32)), (4, .int (0 : Int32)), (3, .int (0 : Int32)), (0, .ref (g.2.1 63)), (1, .int p1), (2, .int p2)] (zo_54 (p := 9) (k := 6) (a := 6) (zby_w zwX2_widenFront_0 9 rfl) (zby_w zwX2_widenFront_0 10 rfl) (by decide)) (by decide) rfl ?_
  refine zr_iconst C (0 : Int32) (zo_3 (p := 11) (zby_w zwX2_widenFront_0 11 rfl)) (by decide) ?_
  refine zr_istore C [(7, .int (0 : Int32)), (6, .int (0 : Int32)), (5, .int (0 : Int32)), (4, .int (0 : Int32)), (3, .int (0 : Int32)), (0, .ref (g.2.1 63)), (1, .int p1), (2, .int p2)] (zo_54 (p := 12) (k := 7) (a := 7) (zby_w zwX2_widenFront_0 12 rfl) (zby_w zwX2_widenFront_0 13 rfl) (by decide)) (by decide) rfl ?_
  obtain ⟨M54, h⟩ := h
  exact zr_pick [5, 6, 7, 4, 3, 2, 1, 0] rfl (g_X2_widenFront_L14 C hret M54 (0 : Int32) (0 : Int32) (0 : Int32) (0 : Int32) (0 : Int32) σ h)
set_option maxRecDepth 20000 in
theorem c_X2_widenFront (l : Launch) (g : zG) (p1 : Int32) (p2 : Int32) (σ : zST) (Post : Int32 → zST → Prop) (h : wp_X2_widenFront p1 p2 σ Post) : Met l yX2_widenFront (Cond.code yX2_widenFront cX2_widenFront 16 (some .int) :: zGW) (zRm 1 48) (va_Pc [.ref (g.2.1 63), .int p1, .int p2] (zPP g σ)) (va_Qi Post (zBB g) (zA g)) 0 0 (zA g) :=
  zMet (by decide) (Nat.le_of_ble_eq_true rfl) (fun p e s m below meth c hr C => g_X2_widenFront C (fun v σ pc lv hp hd => zr_iret C hr hp hd) h)
def wp_X2_drawLine_L11 (Post : Int32 → zST → Prop) : Nat → Int32 → Int32 → zST → Prop
  | 0, _, _, _ => False
  | N + 1, v1, v2, σ => (if (σ.1 63 1) ≤ v2 then Post v1 σ else wp_X2_widenFront v1 (v2 * (3 : Int32)) σ (fun r2 σ3 => wp_X2_drawLine_L11 Post N r2 (v2 + 1) σ3))

set_option maxRecDepth 100000 in
set_option maxHeartbeats 4000000 in
theorem g_X2_drawLine_L11 {p : Program} {l : Launch} {e : Env} {R : Room} {s : State} {m : MethodId} {args : Array Value} {below : List Frame} {meth : Method} {c : Code} {Q : State → Prop} {g : zG} {n1 n2 : Nat} (C : zCX p R s m args meth c g n1 n2 cX2_drawLine 3 RX2 2 83)  {Post : Int32 → zST → Prop} (hret : ∀ (v : Int32) (σ : zST) (pc : Nat) (lv : List (Nat × Value)), Post v σ → decode cX2_drawLine pc = .ok (.ireturn, 1) → zGG p l e R s m args below meth c Q g n1 n2 3 pc lv [.int v] σ) : ∀ (N : Nat) (v1 : Int32) (v2 : Int32) (σ : zST) , wp_X2_drawLine_L11 Post N v1 v2 σ → zGG p l e R s m args below meth c Q g n1 n2 3 11 [(0, .ref (g.2.1 63)), (1, .int v1), (2, .int v2)] [] σ := by
  intro N
  induction N with
  | zero =>
    intro v1 v2 σ h
    exact h.elim
  | succ N ih =>
    intro v1 v2 σ h
    rw [wp_X2_drawLine_L11] at h
    refine zr_iload_n C (zo_28 (p := 11) (zby_w zwX2_drawLine_0 11 rfl)) rfl ?_
    refine zr_aload_n C (zo_42 (p := 12) (zby_w zwX2_drawLine_0 12 rfl)) rfl ?_
    refine zr_geti C fw_X2_15 (sh_63) rfl (zo_180 (p := 13) (k := 15) (a := 0) (b := 15) (zby_w zwX2_drawLine_0 13 rfl) (zby_w zwX2_drawLine_0 14 rfl) (zby_w zwX2_drawLine_0 15 rfl) (by decide)) ?_
    refine zr_icmp_ge C 34 (zo_162 (p := 16) (k := 18) (a := 0) (b := 18) (zby_w zwX2_drawLine_0 16 rfl) (zby_w zwX2_drawLine_0 17 rfl) (zby_w zwX2_drawLine_0 18 rfl) (by decide)) (by decide) (fun hc1 => ?_) (fun hc1 => ?_)
    · rw [if_pos hc1] at h
      refine zr_iload_n C (zo_27 (p := 34) (zby_w zwX2_drawLine_1 2 rfl)) rfl ?_
      exact hret _ _ _ _ h (zo_172 (p := 35) (zby_w zwX2_drawLine_1 3 rfl))
    · rw [if_neg hc1] at h
      refine zr_aload_n C (zo_42 (p := 19) (zby_w zwX2_drawLine_0 19 rfl)) rfl ?_
      refine zr_iload_n C (zo_27 (p := 20) (zby_w zwX2_drawLine_0 20 rfl)) rfl ?_
      refine zr_iload_n C (zo_28 (p := 21) (zby_w zwX2_drawLine_0 21 rfl)) rfl ?_
      refine zr_iconst C (3 : Int32) (zo_6 (p := 22) (zby_w zwX2_drawLine_0 22 rfl)) (by decide) ?_
      refine zr_imul C (zo_104 (p := 23) (zby_w zwX2_drawLine_0 23 rfl)) ?_
      refine zr_ci (zr_runV (As := [.int v1, .int (v2 * (3 : Int32))]) (rest := []) C vw_X2_59 (c_X2_widenFront l g v1 (v2 * (3 : Int32)) σ _ h) (sh_63) rfl (by decide) (by decide) rfl rfl (Nat.le_of_ble_eq_true rfl) (zo_182 (p := 24) (k := 59) (a := 0) (b := 59) (zby_w zwX2_drawLine_0 24 rfl) (zby_w zwX2_drawLine_0 25 rfl) (zby_w zwX2_drawLine_0 26 rfl) (by decide))) (fun r2 σ3 h => ?_)
      refine zr_istore_n C [(1, .int r2), (0, .ref (g.2.1 63)), (2, .int v2)] (zo_60 (p := 27) (zby_w zwX2_drawLine_0 27 rfl)) (by decide) rfl ?_
      refine zr_iinc C (v2 + 1) [(2, .int (v2 + 1)), (1, .int r2), (0, .ref (g.2.1 63))] d_X2_drawLine_28 rfl rfl (by decide) rfl ?_
      refine zr_goto C 11 (zo_167 (p := 31) (k := (-20)) (a := 255) (b := 236) (zby_w zwX2_drawLine_0 31 rfl) (zby_w zwX2_drawLine_0 32 rfl) (zby_w zwX2_drawLine_0 33 rfl) (by decide)) (by decide) ?_
      exact zr_pick [2, 1, 0] rfl (ih r2 (v2 + 1) σ3 h)

def wp_X2_drawLine (σ : zST) (Post : Int32 → zST → Prop) : Prop := ∃ M4 : Nat, wp_X2_drawLine_L11 Post M4 (1 : Int32) (0 : Int32) (wL σ 67 (0 : Int32).toNatClampNeg (0 : Int64))
set_option maxRecDepth 100000 in
set_option maxHeartbeats 4000000 in
theorem g_X2_drawLine {p : Program} {l : Launch} {e : Env} {R : Room} {s : State} {m : MethodId} {args : Array Value} {below : List Frame} {meth : Method} {c : Code} {Q : State → Prop} {g : zG} {n1 n2 : Nat} (C : zCX p R s m args meth c g n1 n2 cX2_drawLine 3 RX2 2 83) {σ : zST} {Post : Int32 → zST → Prop} (hret : ∀ (v : Int32) (σ : zST) (pc : Nat) (lv : List (Nat × Value)), Post v σ → decode cX2_drawLine pc = .ok (.ireturn, 1) → zGG p l e R s m args below meth c Q g n1 n2 3 pc lv [.int v] σ) (h : wp_X2_drawLine σ Post) : zGG p l e R s m args below meth c Q g n1 n2 3 0 [(0, .ref (g.2.1 63))] [] σ := by
  unfold wp_X2_drawLine at h
  refine zr_aload_n C (zo_42 (p := 0) (zby_w zwX2_drawLine_0 0 rfl)) rfl ?_
  refine zr_getr (u := 67) C fw_X2_26 (sh_63) rfl (zo_180 (p := 1) (k := 26) (a := 0) (b := 26) (zby_w zwX2_drawLine_0 1 rfl) (zby_w zwX2_drawLine_0 2 rfl) (zby_w zwX2_drawLine_0 3 rfl) (by decide)) ?_
  refine zr_iconst C (0 : Int32) (zo_3 (p := 4) (zby_w zwX2_drawLine_0 4 rfl)) (by decide) ?_
  refine zr_lconst C (0 : Int64) (zo_9 (p := 5) (zby_w zwX2_drawLine_0 5 rfl)) (by decide) ?_
  refine zr_last C (sh_67) (by unfold vp_in; decide) (zo_80 (p := 6) (zby_w zwX2_drawLine_0 6 rfl)) ?_
  refine zr_iconst C (1 : Int32) (zo_4 (p := 7) (zby_w zwX2_drawLine_0 7 rfl)) (by decide) ?_
  refine zr_istore_n C [(1, .int (1 : Int32)), (0, .ref (g.2.1 63))] (zo_60 (p := 8) (zby_w zwX2_drawLine_0 8 rfl)) (by decide) rfl ?_
  refine zr_iconst C (0 : Int32) (zo_3 (p := 9) (zby_w zwX2_drawLine_0 9 rfl)) (by decide) ?_
  refine zr_istore_n C [(2, .int (0 : Int32)), (1, .int (1 : Int32)), (0, .ref (g.2.1 63))] (zo_61 (p := 10) (zby_w zwX2_drawLine_0 10 rfl)) (by decide) rfl ?_
  obtain ⟨M4, h⟩ := h
  exact zr_pick [2, 1, 0] rfl (g_X2_drawLine_L11 C hret M4 (1 : Int32) (0 : Int32) (wL σ 67 (0 : Int32).toNatClampNeg (0 : Int64)) h)
set_option maxRecDepth 20000 in
theorem c_X2_drawLine (l : Launch) (g : zG) (σ : zST) (Post : Int32 → zST → Prop) (h : wp_X2_drawLine σ Post) : Met l yX2_drawLine (Cond.code yX2_drawLine cX2_drawLine 3 (some .int) :: zGW) (zRm 2 83) (va_Pc [.ref (g.2.1 63)] (zPP g σ)) (va_Qi Post (zBB g) (zA g)) 0 0 (zA g) :=
  zMet (by decide) (Nat.le_of_ble_eq_true rfl) (fun p e s m below meth c hr C => g_X2_drawLine C (fun v σ pc lv hp hd => zr_iret C hr hp hd) h)
def wp_X2_onLine (p1 : Int32) (p2 : Int32) (σ : zST) (Post : Int32 → Prop) : Prop := wp_X8_within p1 (0 : Int32) (728 : Int32) σ (fun r1 => (if r1 = (0) then Post (-6 : Int32) else (if p2 = (0) then vp_in p1 729 ∧ wp_X2_meanIn (σ.2 67 p1.toNatClampNeg) σ (fun r9 => Post r9) else vp_in p1 729 ∧ wp_X2_worstIn (σ.2 67 p1.toNatClampNeg) σ (fun r6 => Post r6))))
set_option maxRecDepth 100000 in
set_option maxHeartbeats 4000000 in
theorem g_X2_onLine {p : Program} {l : Launch} {e : Env} {R : Room} {s : State} {m : MethodId} {args : Array Value} {below : List Frame} {meth : Method} {c : Code} {Q : State → Prop} {g : zG} {n1 n2 : Nat} (C : zCX p R s m args meth c g n1 n2 cX2_onLine 3 RX2 1 22) {p1 : Int32} {p2 : Int32} {σ : zST} {Post : Int32 → Prop} (hret : ∀ (v : Int32) (pc : Nat) (lv : List (Nat × Value)), Post v → decode cX2_onLine pc = .ok (.ireturn, 1) → zGG p l e R s m args below meth c Q g n1 n2 3 pc lv [.int v] σ) (h : wp_X2_onLine p1 p2 σ Post) : zGG p l e R s m args below meth c Q g n1 n2 3 0 [(0, .ref (g.2.1 63)), (1, .int p1), (2, .int p2)] [] σ := by
  unfold wp_X2_onLine at h
  refine zr_iload_n C (zo_27 (p := 0) (zby_w zwX2_onLine_0 0 rfl)) rfl ?_
  refine zr_iconst C (0 : Int32) (zo_3 (p := 1) (zby_w zwX2_onLine_0 1 rfl)) (by decide) ?_
  refine zr_sipush C (728 : Int32) (zo_17 (p := 2) (k := 728) (a := 2) (b := 216) (zby_w zwX2_onLine_0 2 rfl) (zby_w zwX2_onLine_0 3 rfl) (zby_w zwX2_onLine_0 4 rfl) (by decide)) (by decide) ?_
  refine zr_cip (zr_runN (As := [.int p1, .int (0 : Int32), .int (728 : Int32)]) (rest := []) C nw_X2_55 (c_X8_within l g p1 (0 : Int32) (728 : Int32) σ _ h) (by decide) (by decide) rfl rfl (Nat.le_of_ble_eq_true rfl) (zo_184 (p := 5) (k := 55) (a := 0) (b := 55) (zby_w zwX2_onLine_0 5 rfl) (zby_w zwX2_onLine_0 6 rfl) (zby_w zwX2_onLine_0 7 rfl) (by decide))) (fun r1 h => ?_)
  refine zr_if_ne C 14 (zo_154 (p := 8) (k := 6) (a := 0) (b := 6) (zby_w zwX2_onLine_0 8 rfl) (zby_w zwX2_onLine_0 9 rfl) (zby_w zwX2_onLine_0 10 rfl) (by decide)) (by decide) (fun hc3 => ?_) (fun hc3 => ?_)
  · rw [if_neg hc3] at h
    refine zr_iload_n C (zo_28 (p := 14) (zby_w zwX2_onLine_0 14 rfl)) rfl ?_
    refine zr_if_ne C 30 (zo_154 (p := 15) (k := 15) (a := 0) (b := 15) (zby_w zwX2_onLine_0 15 rfl) (zby_w zwX2_onLine_0 16 rfl) (zby_w zwX2_onLine_0 17 rfl) (by decide)) (by decide) (fun hc4 => ?_) (fun hc4 => ?_)
    · rw [if_neg hc4] at h
      refine zr_aload_n C (zo_42 (p := 30) (zby_w zwX2_onLine_0 30 rfl)) rfl ?_
      refine zr_getr (u := 67) C fw_X2_26 (sh_63) rfl (zo_180 (p := 31) (k := 26) (a := 0) (b := 26) (zby_w zwX2_onLine_0 31 rfl) (zby_w zwX2_onLine_0 32 rfl) (zby_w zwX2_onLine_0 33 rfl) (by decide)) ?_
      refine zr_iload_n C (zo_27 (p := 34) (zby_w zwX2_onLine_1 2 rfl)) rfl ?_
      obtain ⟨ho5, h⟩ := h
      refine zr_lald C (sh_67) ho5 (zo_47 (p := 35) (zby_w zwX2_onLine_1 3 rfl)) ?_
      refine zr_cip (zr_runS (As := [.long (σ.2 67 p1.toNatClampNeg)]) (rest := []) C sw_X2_48 (c_X2_worstIn l g (σ.2 67 p1.toNatClampNeg) σ _ h) (by decide) (by decide) rfl rfl (Nat.le_of_ble_eq_true rfl) (zo_184 (p := 36) (k := 48) (a := 0) (b := 48) (zby_w zwX2_onLine_1 4 rfl) (zby_w zwX2_onLine_1 5 rfl) (zby_w zwX2_onLine_1 6 rfl) (by decide))) (fun r6 h => ?_)
      exact hret _ _ _ h d_X2_onLine_39
    · rw [if_pos hc4] at h
      refine zr_aload_n C (zo_42 (p := 18) (zby_w zwX2_onLine_0 18 rfl)) rfl ?_
      refine zr_getr (u := 67) C fw_X2_26 (sh_63) rfl (zo_180 (p := 19) (k := 26) (a := 0) (b := 26) (zby_w zwX2_onLine_0 19 rfl) (zby_w zwX2_onLine_0 20 rfl) (zby_w zwX2_onLine_0 21 rfl) (by decide)) ?_
      refine zr_iload_n C (zo_27 (p := 22) (zby_w zwX2_onLine_0 22 rfl)) rfl ?_
      obtain ⟨ho8, h⟩ := h
      refine zr_lald C (sh_67) ho8 (zo_47 (p := 23) (zby_w zwX2_onLine_0 23 rfl)) ?_
      refine zr_cip (zr_runS (As := [.long (σ.2 67 p1.toNatClampNeg)]) (rest := []) C sw_X2_52 (c_X2_meanIn l g (σ.2 67 p1.toNatClampNeg) σ _ h) (by decide) (by decide) rfl rfl (Nat.le_of_ble_eq_true rfl) (zo_184 (p := 24) (k := 52) (a := 0) (b := 52) (zby_w zwX2_onLine_0 24 rfl) (zby_w zwX2_onLine_0 25 rfl) (zby_w zwX2_onLine_0 26 rfl) (by decide))) (fun r9 h => ?_)
      refine zr_goto C 39 (zo_167 (p := 27) (k := 12) (a := 0) (b := 12) (zby_w zwX2_onLine_0 27 rfl) (zby_w zwX2_onLine_0 28 rfl) (zby_w zwX2_onLine_0 29 rfl) (by decide)) (by decide) ?_
      exact hret _ _ _ h d_X2_onLine_39
  · rw [if_pos hc3] at h
    refine zr_bipush C (-6 : Int32) (zo_16 (p := 11) (k := (-6)) (a := 250) (zby_w zwX2_onLine_0 11 rfl) (zby_w zwX2_onLine_0 12 rfl) (by decide)) (by decide) ?_
    exact hret _ _ _ h (zo_172 (p := 13) (zby_w zwX2_onLine_0 13 rfl))
set_option maxRecDepth 20000 in
theorem c_X2_onLine (l : Launch) (g : zG) (p1 : Int32) (p2 : Int32) (σ : zST) (Post : Int32 → Prop) (h : wp_X2_onLine p1 p2 σ Post) : Met l yX2_onLine (Cond.code yX2_onLine cX2_onLine 3 (some .int) :: zGW) (zRm 1 22) (va_Pc [.ref (g.2.1 63), .int p1, .int p2] (zPP g σ)) (va_Qi (fun r u => Post r ∧ u = σ) (zBB g) (zA g)) 0 0 (zA g) :=
  zMet (by decide) (Nat.le_of_ble_eq_true rfl) (fun p e s m below meth c hr C => g_X2_onLine C (fun v pc lv hp hd => zr_iret C hr ⟨hp, rfl⟩ hd) h)
def wp_X2_meanOfAllBy_L4 (v1 : Int32) (σ : zST) (Post : Int32 → Prop) : Nat → Int32 → Int32 → Prop
  | 0, _, _ => False
  | N + 1, v2, v3 => (if (σ.1 63 1) ≤ v3 then Post v2 else vp_in ((v3 * (3 : Int32)) + v1) 18 ∧ wp_X2_meanIn (σ.2 65 ((v3 * (3 : Int32)) + v1).toNatClampNeg) σ (fun r3 => ∀ x5 : Int32, x5 = (v2 + r3) → wp_X2_meanOfAllBy_L4 v1 σ Post N x5 (v3 + 1)))

set_option maxRecDepth 100000 in
set_option maxHeartbeats 4000000 in
theorem g_X2_meanOfAllBy_L4 {p : Program} {l : Launch} {e : Env} {R : Room} {s : State} {m : MethodId} {args : Array Value} {below : List Frame} {meth : Method} {c : Code} {Q : State → Prop} {g : zG} {n1 n2 : Nat} (C : zCX p R s m args meth c g n1 n2 cX2_meanOfAllBy 4 RX2 1 21) {v1 : Int32} {σ : zST}  {Post : Int32 → Prop} (hret : ∀ (v : Int32) (pc : Nat) (lv : List (Nat × Value)), Post v → decode cX2_meanOfAllBy pc = .ok (.ireturn, 1) → zGG p l e R s m args below meth c Q g n1 n2 4 pc lv [.int v] σ) : ∀ (N : Nat) (v2 : Int32) (v3 : Int32) , wp_X2_meanOfAllBy_L4 v1 σ Post N v2 v3 → zGG p l e R s m args below meth c Q g n1 n2 4 4 [(0, .ref (g.2.1 63)), (1, .int v1), (2, .int v2), (3, .int v3)] [] σ := by
  intro N
  induction N with
  | zero =>
    intro v2 v3 h
    exact h.elim
  | succ N ih =>
    intro v2 v3 h
    rw [wp_X2_meanOfAllBy_L4] at h
    refine zr_iload_n C (zo_29 (p := 4) (zby_w zwX2_meanOfAllBy_0 4 rfl)) rfl ?_
    refine zr_aload_n C (zo_42 (p := 5) (zby_w zwX2_meanOfAllBy_0 5 rfl)) rfl ?_
    refine zr_geti C fw_X2_15 (sh_63) rfl (zo_180 (p := 6) (k := 15) (a := 0) (b := 15) (zby_w zwX2_meanOfAllBy_0 6 rfl) (zby_w zwX2_meanOfAllBy_0 7 rfl) (zby_w zwX2_meanOfAllBy_0 8 rfl) (by decide)) ?_
    refine zr_icmp_ge C 34 (zo_162 (p := 9) (k := 25) (a := 0) (b := 25) (zby_w zwX2_meanOfAllBy_0 9 rfl) (zby_w zwX2_meanOfAllBy_0 10 rfl) (zby_w zwX2_meanOfAllBy_0 11 rfl) (by decide)) (by decide) (fun hc1 => ?_) (fun hc1 => ?_)
    · rw [if_pos hc1] at h
      refine zr_iload_n C (zo_28 (p := 34) (zby_w zwX2_meanOfAllBy_1 2 rfl)) rfl ?_
      exact hret _ _ _ h (zo_172 (p := 35) (zby_w zwX2_meanOfAllBy_1 3 rfl))
    · rw [if_neg hc1] at h
      refine zr_iload_n C (zo_28 (p := 12) (zby_w zwX2_meanOfAllBy_0 12 rfl)) rfl ?_
      refine zr_aload_n C (zo_42 (p := 13) (zby_w zwX2_meanOfAllBy_0 13 rfl)) rfl ?_
      refine zr_getr (u := 65) C fw_X2_19 (sh_63) rfl (zo_180 (p := 14) (k := 19) (a := 0) (b := 19) (zby_w zwX2_meanOfAllBy_0 14 rfl) (zby_w zwX2_meanOfAllBy_0 15 rfl) (zby_w zwX2_meanOfAllBy_0 16 rfl) (by decide)) ?_
      refine zr_iload_n C (zo_29 (p := 17) (zby_w zwX2_meanOfAllBy_0 17 rfl)) rfl ?_
      refine zr_iconst C (3 : Int32) (zo_6 (p := 18) (zby_w zwX2_meanOfAllBy_0 18 rfl)) (by decide) ?_
      refine zr_imul C (zo_104 (p := 19) (zby_w zwX2_meanOfAllBy_0 19 rfl)) ?_
      refine zr_iload_n C (zo_27 (p := 20) (zby_w zwX2_meanOfAllBy_0 20 rfl)) rfl ?_
      refine zr_iadd C (zo_96 (p := 21) (zby_w zwX2_meanOfAllBy_0 21 rfl)) ?_
      obtain ⟨ho2, h⟩ := h
      refine zr_lald C (sh_65) ho2 (zo_47 (p := 22) (zby_w zwX2_meanOfAllBy_0 22 rfl)) ?_
      refine zr_cip (zr_runS (As := [.long (σ.2 65 ((v3 * (3 : Int32)) + v1).toNatClampNeg)]) (rest := [.int v2]) C sw_X2_52 (c_X2_meanIn l g (σ.2 65 ((v3 * (3 : Int32)) + v1).toNatClampNeg) σ _ h) (by decide) (by decide) rfl rfl (Nat.le_of_ble_eq_true rfl) (zo_184 (p := 23) (k := 52) (a := 0) (b := 52) (zby_w zwX2_meanOfAllBy_0 23 rfl) (zby_w zwX2_meanOfAllBy_0 24 rfl) (zby_w zwX2_meanOfAllBy_0 25 rfl) (by decide))) (fun r3 h => ?_)
      refine zr_iadd C (zo_96 (p := 26) (zby_w zwX2_meanOfAllBy_0 26 rfl)) ?_
      refine zr_topi (fun x5 hx5 => ?_)
      replace h := h x5 hx5
      refine zr_istore_n C [(2, .int x5), (0, .ref (g.2.1 63)), (1, .int v1), (3, .int v3)] (zo_61 (p := 27) (zby_w zwX2_meanOfAllBy_0 27 rfl)) (by decide) rfl ?_
      refine zr_iinc C (v3 + 1) [(3, .int (v3 + 1)), (2, .int x5), (0, .ref (g.2.1 63)), (1, .int v1)] d_X2_meanOfAllBy_28 rfl rfl (by decide) rfl ?_
      refine zr_goto C 4 (zo_167 (p := 31) (k := (-27)) (a := 255) (b := 229) (zby_w zwX2_meanOfAllBy_0 31 rfl) (zby_w zwX2_meanOfAllBy_0 32 rfl) (zby_w zwX2_meanOfAllBy_0 33 rfl) (by decide)) (by decide) ?_
      exact zr_pick [2, 3, 1, 0] rfl (ih x5 (v3 + 1) h)

def wp_X2_meanOfAllBy (p1 : Int32) (σ : zST) (Post : Int32 → Prop) : Prop := ∃ M6 : Nat, wp_X2_meanOfAllBy_L4 p1 σ Post M6 (0 : Int32) (0 : Int32)
set_option maxRecDepth 100000 in
set_option maxHeartbeats 4000000 in
theorem g_X2_meanOfAllBy {p : Program} {l : Launch} {e : Env} {R : Room} {s : State} {m : MethodId} {args : Array Value} {below : List Frame} {meth : Method} {c : Code} {Q : State → Prop} {g : zG} {n1 n2 : Nat} (C : zCX p R s m args meth c g n1 n2 cX2_meanOfAllBy 4 RX2 1 21) {p1 : Int32} {σ : zST} {Post : Int32 → Prop} (hret : ∀ (v : Int32) (pc : Nat) (lv : List (Nat × Value)), Post v → decode cX2_meanOfAllBy pc = .ok (.ireturn, 1) → zGG p l e R s m args below meth c Q g n1 n2 4 pc lv [.int v] σ) (h : wp_X2_meanOfAllBy p1 σ Post) : zGG p l e R s m args below meth c Q g n1 n2 4 0 [(0, .ref (g.2.1 63)), (1, .int p1)] [] σ := by
  unfold wp_X2_meanOfAllBy at h
  refine zr_iconst C (0 : Int32) (zo_3 (p := 0) (zby_w zwX2_meanOfAllBy_0 0 rfl)) (by decide) ?_
  refine zr_istore_n C [(2, .int (0 : Int32)), (0, .ref (g.2.1 63)), (1, .int p1)] (zo_61 (p := 1) (zby_w zwX2_meanOfAllBy_0 1 rfl)) (by decide) rfl ?_
  refine zr_iconst C (0 : Int32) (zo_3 (p := 2) (zby_w zwX2_meanOfAllBy_0 2 rfl)) (by decide) ?_
  refine zr_istore_n C [(3, .int (0 : Int32)), (2, .int (0 : Int32)), (0, .ref (g.2.1 63)), (1, .int p1)] (zo_62 (p := 3) (zby_w zwX2_meanOfAllBy_0 3 rfl)) (by decide) rfl ?_
  obtain ⟨M6, h⟩ := h
  exact zr_pick [2, 3, 1, 0] rfl (g_X2_meanOfAllBy_L4 C hret M6 (0 : Int32) (0 : Int32) h)
set_option maxRecDepth 20000 in
theorem c_X2_meanOfAllBy (l : Launch) (g : zG) (p1 : Int32) (σ : zST) (Post : Int32 → Prop) (h : wp_X2_meanOfAllBy p1 σ Post) : Met l yX2_meanOfAllBy (Cond.code yX2_meanOfAllBy cX2_meanOfAllBy 4 (some .int) :: zGW) (zRm 1 21) (va_Pc [.ref (g.2.1 63), .int p1] (zPP g σ)) (va_Qi (fun r u => Post r ∧ u = σ) (zBB g) (zA g)) 0 0 (zA g) :=
  zMet (by decide) (Nat.le_of_ble_eq_true rfl) (fun p e s m below meth c hr C => g_X2_meanOfAllBy C (fun v pc lv hp hd => zr_iret C hr ⟨hp, rfl⟩ hd) h)
def wp_X2_commonSide_L4 (σ : zST) (Post : Int32 → Prop) : Nat → Int32 → Int32 → Prop
  | 0, _, _ => False
  | N + 1, v1, v2 => (if (3 : Int32) ≤ v2 then Post v1 else wp_X2_meanOfAllBy v2 σ (fun r2 => wp_X2_meanOfAllBy v1 σ (fun r4 => (if r4 ≤ r2 then wp_X2_commonSide_L4 σ Post N v1 (v2 + 1) else wp_X2_commonSide_L4 σ Post N v2 (v2 + 1)))))

set_option maxRecDepth 100000 in
set_option maxHeartbeats 4000000 in
theorem g_X2_commonSide_L4 {p : Program} {l : Launch} {e : Env} {R : Room} {s : State} {m : MethodId} {args : Array Value} {below : List Frame} {meth : Method} {c : Code} {Q : State → Prop} {g : zG} {n1 n2 : Nat} (C : zCX p R s m args meth c g n1 n2 cX2_commonSide 3 RX2 2 44) {σ : zST}  {Post : Int32 → Prop} (hret : ∀ (v : Int32) (pc : Nat) (lv : List (Nat × Value)), Post v → decode cX2_commonSide pc = .ok (.ireturn, 1) → zGG p l e R s m args below meth c Q g n1 n2 3 pc lv [.int v] σ) : ∀ (N : Nat) (v1 : Int32) (v2 : Int32) , wp_X2_commonSide_L4 σ Post N v1 v2 → zGG p l e R s m args below meth c Q g n1 n2 3 4 [(0, .ref (g.2.1 63)), (1, .int v1), (2, .int v2)] [] σ := by
  intro N
  induction N with
  | zero =>
    intro v1 v2 h
    exact h.elim
  | succ N ih =>
    intro v1 v2 h
    rw [wp_X2_commonSide_L4] at h
    refine zr_iload_n C (zo_28 (p := 4) (zby_w zwX2_commonSide_0 4 rfl)) rfl ?_
    refine zr_iconst C (3 : Int32) (zo_6 (p := 5) (zby_w zwX2_commonSide_0 5 rfl)) (by decide) ?_
    refine zr_icmp_ge C 30 (zo_162 (p := 6) (k := 24) (a := 0) (b := 24) (zby_w zwX2_commonSide_0 6 rfl) (zby_w zwX2_commonSide_0 7 rfl) (zby_w zwX2_commonSide_0 8 rfl) (by decide)) (by decide) (fun hc1 => ?_) (fun hc1 => ?_)
    · rw [if_pos hc1] at h
      refine zr_iload_n C (zo_27 (p := 30) (zby_w zwX2_commonSide_0 30 rfl)) rfl ?_
      exact hret _ _ _ h (zo_172 (p := 31) (zby_w zwX2_commonSide_0 31 rfl))
    · rw [if_neg hc1] at h
      refine zr_aload_n C (zo_42 (p := 9) (zby_w zwX2_commonSide_0 9 rfl)) rfl ?_
      refine zr_iload_n C (zo_28 (p := 10) (zby_w zwX2_commonSide_0 10 rfl)) rfl ?_
      refine zr_cip (zr_runV (As := [.int v2]) (rest := []) C vw_X2_77 (c_X2_meanOfAllBy l g v2 σ _ h) (sh_63) rfl (by decide) (by decide) rfl rfl (Nat.le_of_ble_eq_true rfl) (zo_182 (p := 11) (k := 77) (a := 0) (b := 77) (zby_w zwX2_commonSide_0 11 rfl) (zby_w zwX2_commonSide_0 12 rfl) (zby_w zwX2_commonSide_0 13 rfl) (by decide))) (fun r2 h => ?_)
      refine zr_aload_n C (zo_42 (p := 14) (zby_w zwX2_commonSide_0 14 rfl)) rfl ?_
      refine zr_iload_n C (zo_27 (p := 15) (zby_w zwX2_commonSide_0 15 rfl)) rfl ?_
      refine zr_cip (zr_runV (As := [.int v1]) (rest := [.int r2]) C vw_X2_77 (c_X2_meanOfAllBy l g v1 σ _ h) (sh_63) rfl (by decide) (by decide) rfl rfl (Nat.le_of_ble_eq_true rfl) (zo_182 (p := 16) (k := 77) (a := 0) (b := 77) (zby_w zwX2_commonSide_0 16 rfl) (zby_w zwX2_commonSide_0 17 rfl) (zby_w zwX2_commonSide_0 18 rfl) (by decide))) (fun r4 h => ?_)
      refine zr_icmp_ge C 24 (zo_162 (p := 19) (k := 5) (a := 0) (b := 5) (zby_w zwX2_commonSide_0 19 rfl) (zby_w zwX2_commonSide_0 20 rfl) (zby_w zwX2_commonSide_0 21 rfl) (by decide)) (by decide) (fun hc6 => ?_) (fun hc6 => ?_)
      · rw [if_pos hc6] at h
        refine zr_iinc C (v2 + 1) [(2, .int (v2 + 1)), (0, .ref (g.2.1 63)), (1, .int v1)] d_X2_commonSide_24 rfl rfl (by decide) rfl ?_
        refine zr_goto C 4 d_X2_commonSide_27 (by decide) ?_
        exact zr_pick [1, 2, 0] rfl (ih v1 (v2 + 1) h)
      · rw [if_neg hc6] at h
        refine zr_iload_n C (zo_28 (p := 22) (zby_w zwX2_commonSide_0 22 rfl)) rfl ?_
        refine zr_istore_n C [(1, .int v2), (0, .ref (g.2.1 63)), (2, .int v2)] (zo_60 (p := 23) (zby_w zwX2_commonSide_0 23 rfl)) (by decide) rfl ?_
        refine zr_iinc C (v2 + 1) [(2, .int (v2 + 1)), (1, .int v2), (0, .ref (g.2.1 63))] d_X2_commonSide_24 rfl rfl (by decide) rfl ?_
        refine zr_goto C 4 d_X2_commonSide_27 (by decide) ?_
        exact zr_pick [2, 1, 0] rfl (ih v2 (v2 + 1) h)

def wp_X2_commonSide (σ : zST) (Post : Int32 → Prop) : Prop := ∃ M7 : Nat, wp_X2_commonSide_L4 σ Post M7 (0 : Int32) (1 : Int32)
set_option maxRecDepth 100000 in
set_option maxHeartbeats 4000000 in
theorem g_X2_commonSide {p : Program} {l : Launch} {e : Env} {R : Room} {s : State} {m : MethodId} {args : Array Value} {below : List Frame} {meth : Method} {c : Code} {Q : State → Prop} {g : zG} {n1 n2 : Nat} (C : zCX p R s m args meth c g n1 n2 cX2_commonSide 3 RX2 2 44) {σ : zST} {Post : Int32 → Prop} (hret : ∀ (v : Int32) (pc : Nat) (lv : List (Nat × Value)), Post v → decode cX2_commonSide pc = .ok (.ireturn, 1) → zGG p l e R s m args below meth c Q g n1 n2 3 pc lv [.int v] σ) (h : wp_X2_commonSide σ Post) : zGG p l e R s m args below meth c Q g n1 n2 3 0 [(0, .ref (g.2.1 63))] [] σ := by
  unfold wp_X2_commonSide at h
  refine zr_iconst C (0 : Int32) (zo_3 (p := 0) (zby_w zwX2_commonSide_0 0 rfl)) (by decide) ?_
  refine zr_istore_n C [(1, .int (0 : Int32)), (0, .ref (g.2.1 63))] (zo_60 (p := 1) (zby_w zwX2_commonSide_0 1 rfl)) (by decide) rfl ?_
  refine zr_iconst C (1 : Int32) (zo_4 (p := 2) (zby_w zwX2_commonSide_0 2 rfl)) (by decide) ?_
  refine zr_istore_n C [(2, .int (1 : Int32)), (1, .int (0 : Int32)), (0, .ref (g.2.1 63))] (zo_61 (p := 3) (zby_w zwX2_commonSide_0 3 rfl)) (by decide) rfl ?_
  obtain ⟨M7, h⟩ := h
  exact zr_pick [2, 1, 0] rfl (g_X2_commonSide_L4 C hret M7 (0 : Int32) (1 : Int32) h)
set_option maxRecDepth 20000 in
theorem c_X2_commonSide (l : Launch) (g : zG) (σ : zST) (Post : Int32 → Prop) (h : wp_X2_commonSide σ Post) : Met l yX2_commonSide (Cond.code yX2_commonSide cX2_commonSide 3 (some .int) :: zGW) (zRm 2 44) (va_Pc [.ref (g.2.1 63)] (zPP g σ)) (va_Qi (fun r u => Post r ∧ u = σ) (zBB g) (zA g)) 0 0 (zA g) :=
  zMet (by decide) (Nat.le_of_ble_eq_true rfl) (fun p e s m below meth c hr C => g_X2_commonSide C (fun v pc lv hp hd => zr_iret C hr ⟨hp, rfl⟩ hd) h)
def wp_X0_become (a : Nat) (b : Nat) (σ : zST) (Post : zST → Prop) : Prop := wp_X6_become (a + 1) (b + 1) σ (fun σ2 => wp_X3_become (a + 9) (b + 9) σ2 (fun σ4 => wp_X1_become (a + 12) (b + 12) σ4 (fun σ6 => wp_X5_become (a + 14) (b + 14) σ6 (fun σ8 => Post σ8))))
set_option maxRecDepth 100000 in
set_option maxHeartbeats 4000000 in
theorem g_X0_become {p : Program} {l : Launch} {e : Env} {R : Room} {s : State} {m : MethodId} {args : Array Value} {below : List Frame} {meth : Method} {c : Code} {Q : State → Prop} {g : zG} {n1 n2 : Nat} (C : zCX p R s m args meth c g n1 n2 cX0_become 2 RX0 2 69) {a : Nat} (ha : isX0 a) {b : Nat} (hb : isX0 b) {σ : zST} {Post : zST → Prop} (hret : ∀ (σ : zST) (pc : Nat) (lv : List (Nat × Value)), Post σ → decode cX0_become pc = .ok (.return_, 1) → zGG p l e R s m args below meth c Q g n1 n2 2 pc lv [] σ) (h : wp_X0_become a b σ Post) : zGG p l e R s m args below meth c Q g n1 n2 2 0 [(0, .ref (g.2.1 a)), (1, .ref (g.2.1 b))] [] σ := by
  unfold wp_X0_become at h
  refine zr_aload_n C (zo_42 (p := 0) (zby_w zwX0_become_0 0 rfl)) rfl ?_
  refine zr_getr (u := (a + 1)) C fw_X0_10 (shX0_0 ha) rfl (zo_180 (p := 1) (k := 10) (a := 0) (b := 10) (zby_w zwX0_become_0 1 rfl) (zby_w zwX0_become_0 2 rfl) (zby_w zwX0_become_0 3 rfl) (by decide)) ?_
  refine zr_aload_n C (zo_43 (p := 4) (zby_w zwX0_become_0 4 rfl)) rfl ?_
  refine zr_getr (u := (b + 1)) C fw_X0_10 (shX0_0 hb) rfl (zo_180 (p := 5) (k := 10) (a := 0) (b := 10) (zby_w zwX0_become_0 5 rfl) (zby_w zwX0_become_0 6 rfl) (zby_w zwX0_become_0 7 rfl) (by decide)) ?_
  refine zr_cv (zr_runV (As := [.ref (g.2.1 (b + 1))]) (rest := []) C vw_X0_37 (c_X6_become l g (a + 1) (isX6_X0_1 ha) (b + 1) (isX6_X0_1 hb) σ _ h) (shX6_0 (isX6_X0_1 ha)) rfl (by decide) (by decide) rfl rfl (Nat.le_of_ble_eq_true rfl) (zo_182 (p := 8) (k := 37) (a := 0) (b := 37) (zby_w zwX0_become_0 8 rfl) (zby_w zwX0_become_0 9 rfl) (zby_w zwX0_become_0 10 rfl) (by decide))) (fun σ2 h => ?_)
  refine zr_aload_n C (zo_42 (p := 11) (zby_w zwX0_become_0 11 rfl)) rfl ?_
  refine zr_getr (u := (a + 9)) C fw_X0_19 (shX0_0 ha) rfl (zo_180 (p := 12) (k := 19) (a := 0) (b := 19) (zby_w zwX0_become_0 12 rfl) (zby_w zwX0_become_0 13 rfl) (zby_w zwX0_become_0 14 rfl) (by decide)) ?_
  refine zr_aload_n C (zo_43 (p := 15) (zby_w zwX0_become_0 15 rfl)) rfl ?_
  refine zr_getr (u := (b + 9)) C fw_X0_19 (shX0_0 hb) rfl (zo_180 (p := 16) (k := 19) (a := 0) (b := 19) (zby_w zwX0_become_0 16 rfl) (zby_w zwX0_become_0 17 rfl) (zby_w zwX0_become_0 18 rfl) (by decide)) ?_
  refine zr_cv (zr_runV (As := [.ref (g.2.1 (b + 9))]) (rest := []) C vw_X0_41 (c_X3_become l g (a + 9) (isX3_X0_9 ha) (b + 9) (isX3_X0_9 hb) σ2 _ h) (shX3_0 (isX3_X0_9 ha)) rfl (by decide) (by decide) rfl rfl (Nat.le_of_ble_eq_true rfl) (zo_182 (p := 19) (k := 41) (a := 0) (b := 41) (zby_w zwX0_become_0 19 rfl) (zby_w zwX0_become_0 20 rfl) (zby_w zwX0_become_0 21 rfl) (by decide))) (fun σ4 h => ?_)
  refine zr_aload_n C (zo_42 (p := 22) (zby_w zwX0_become_0 22 rfl)) rfl ?_
  refine zr_getr (u := (a + 12)) C fw_X0_26 (shX0_0 ha) rfl (zo_180 (p := 23) (k := 26) (a := 0) (b := 26) (zby_w zwX0_become_0 23 rfl) (zby_w zwX0_become_0 24 rfl) (zby_w zwX0_become_0 25 rfl) (by decide)) ?_
  refine zr_aload_n C (zo_43 (p := 26) (zby_w zwX0_become_0 26 rfl)) rfl ?_
  refine zr_getr (u := (b + 12)) C fw_X0_26 (shX0_0 hb) rfl (zo_180 (p := 27) (k := 26) (a := 0) (b := 26) (zby_w zwX0_become_0 27 rfl) (zby_w zwX0_become_0 28 rfl) (zby_w zwX0_become_0 29 rfl) (by decide)) ?_
  refine zr_cv (zr_runV (As := [.ref (g.2.1 (b + 12))]) (rest := []) C vw_X0_44 (c_X1_become l g (a + 12) (isX1_X0_12 ha) (b + 12) (isX1_X0_12 hb) σ4 _ h) (shX1_0 (isX1_X0_12 ha)) rfl (by decide) (by decide) rfl rfl (Nat.le_of_ble_eq_true rfl) (zo_182 (p := 30) (k := 44) (a := 0) (b := 44) (zby_w zwX0_become_0 30 rfl) (zby_w zwX0_become_0 31 rfl) (zby_w zwX0_become_0 32 rfl) (by decide))) (fun σ6 h => ?_)
  refine zr_aload_n C (zo_42 (p := 33) (zby_w zwX0_become_1 1 rfl)) rfl ?_
  refine zr_getr (u := (a + 14)) C fw_X0_33 (shX0_0 ha) rfl (zo_180 (p := 34) (k := 33) (a := 0) (b := 33) (zby_w zwX0_become_1 2 rfl) (zby_w zwX0_become_1 3 rfl) (zby_w zwX0_become_1 4 rfl) (by decide)) ?_
  refine zr_aload_n C (zo_43 (p := 37) (zby_w zwX0_become_1 5 rfl)) rfl ?_
  refine zr_getr (u := (b + 14)) C fw_X0_33 (shX0_0 hb) rfl (zo_180 (p := 38) (k := 33) (a := 0) (b := 33) (zby_w zwX0_become_1 6 rfl) (zby_w zwX0_become_1 7 rfl) (zby_w zwX0_become_1 8 rfl) (by decide)) ?_
  refine zr_cv (zr_runV (As := [.ref (g.2.1 (b + 14))]) (rest := []) C vw_X0_47 (c_X5_become l g (a + 14) (isX5_X0_14 ha) (b + 14) (isX5_X0_14 hb) σ6 _ h) (shX5_0 (isX5_X0_14 ha)) rfl (by decide) (by decide) rfl rfl (Nat.le_of_ble_eq_true rfl) (zo_182 (p := 41) (k := 47) (a := 0) (b := 47) (zby_w zwX0_become_1 9 rfl) (zby_w zwX0_become_1 10 rfl) (zby_w zwX0_become_1 11 rfl) (by decide))) (fun σ8 h => ?_)
  exact hret _ _ _ h (zo_177 (p := 44) (zby_w zwX0_become_1 12 rfl))
set_option maxRecDepth 20000 in
theorem c_X0_become (l : Launch) (g : zG) (a : Nat) (ha : isX0 a) (b : Nat) (hb : isX0 b) (σ : zST) (Post : zST → Prop) (h : wp_X0_become a b σ Post) : Met l yX0_become (Cond.code yX0_become cX0_become 2 none :: zGW) (zRm 2 69) (va_Pc [.ref (g.2.1 a), .ref (g.2.1 b)] (zPP g σ)) (va_Qv Post (zBB g) (zA g)) 0 0 (zA g) :=
  zMet (by decide) (Nat.le_of_ble_eq_true rfl) (fun p e s m below meth c hr C => g_X0_become C ha hb (fun σ pc lv hp hd => zr_vret C hr hp hd) h)
def wp_X8_ship (p1 : Int32) (p2 : Int32) (p3 : Int32) (p4 : Int32) (σ : zST) (Post : Int32 → zST → Prop) : Prop := wp_X8_within p1 (0 : Int32) (5 : Int32) σ (fun r1 => (if r1 = (0) then Post (-1 : Int32) σ else wp_X8_within p2 (1 : Int32) (30 : Int32) σ (fun r4 => (if r4 = (0) then Post (-2 : Int32) σ else wp_X8_within p3 (0 : Int32) (9 : Int32) σ (fun r7 => (if r7 = (0) then Post (-2 : Int32) σ else wp_X8_within p4 (0 : Int32) (999 : Int32) σ (fun r10 => (if r10 = (0) then Post (-2 : Int32) σ else vp_in p1 6 ∧ vp_in p1 6 ∧ vp_in p1 6 ∧ vp_in p1 6 ∧ ∀ σ17 : zST, σ17 = (wI (wI (wI (wI (wI σ 2 0 ((σ.1 2 0) ||| ((1 : Int32) <<< (p1 &&& 31)))) 3 p1.toNatClampNeg (0 : Int32)) 4 p1.toNatClampNeg p2) 5 p1.toNatClampNeg p3) 6 p1.toNatClampNeg p4) → wp_J6_bitCount_0f7a4 (σ17.1 2 0) σ17 (fun r18 => Post r18 σ17)))))))))
set_option maxRecDepth 100000 in
set_option maxHeartbeats 4000000 in
theorem g_X8_ship {p : Program} {l : Launch} {e : Env} {R : Room} {s : State} {m : MethodId} {args : Array Value} {below : List Frame} {meth : Method} {c : Code} {Q : State → Prop} {g : zG} {n1 n2 : Nat} (C : zCX p R s m args meth c g n1 n2 cX8_ship 6 RX8 1 22) {p1 : Int32} {p2 : Int32} {p3 : Int32} {p4 : Int32} {σ : zST} {Post : Int32 → zST → Prop} (hret : ∀ (v : Int32) (σ : zST) (pc : Nat) (lv : List (Nat × Value)), Post v σ → decode cX8_ship pc = .ok (.ireturn, 1) → zGG p l e R s m args below meth c Q g n1 n2 6 pc lv [.int v] σ) (h : wp_X8_ship p1 p2 p3 p4 σ Post) : zGG p l e R s m args below meth c Q g n1 n2 6 0 [(0, .ref (g.2.1 0)), (1, .int p1), (2, .int p2), (3, .int p3), (4, .int p4)] [] σ := by
  unfold wp_X8_ship at h
  refine zr_iload_n C (zo_27 (p := 0) (zby_w zwX8_ship_0 0 rfl)) rfl ?_
  refine zr_iconst C (0 : Int32) (zo_3 (p := 1) (zby_w zwX8_ship_0 1 rfl)) (by decide) ?_
  refine zr_iconst C (5 : Int32) (zo_8 (p := 2) (zby_w zwX8_ship_0 2 rfl)) (by decide) ?_
  refine zr_cip (zr_runS (As := [.int p1, .int (0 : Int32), .int (5 : Int32)]) (rest := []) C sw_X8_47 (c_X8_within l g p1 (0 : Int32) (5 : Int32) σ _ h) (by decide) (by decide) rfl rfl (Nat.le_of_ble_eq_true rfl) (zo_184 (p := 3) (k := 47) (a := 0) (b := 47) (zby_w zwX8_ship_0 3 rfl) (zby_w zwX8_ship_0 4 rfl) (zby_w zwX8_ship_0 5 rfl) (by decide))) (fun r1 h => ?_)
  refine zr_if_ne C 11 (zo_154 (p := 6) (k := 5) (a := 0) (b := 5) (zby_w zwX8_ship_0 6 rfl) (zby_w zwX8_ship_0 7 rfl) (zby_w zwX8_ship_0 8 rfl) (by decide)) (by decide) (fun hc3 => ?_) (fun hc3 => ?_)
  · rw [if_neg hc3] at h
    refine zr_iload_n C (zo_28 (p := 11) (zby_w zwX8_ship_0 11 rfl)) rfl ?_
    refine zr_iconst C (1 : Int32) (zo_4 (p := 12) (zby_w zwX8_ship_0 12 rfl)) (by decide) ?_
    refine zr_bipush C (30 : Int32) (zo_16 (p := 13) (k := 30) (a := 30) (zby_w zwX8_ship_0 13 rfl) (zby_w zwX8_ship_0 14 rfl) (by decide)) (by decide) ?_
    refine zr_cip (zr_runS (As := [.int p2, .int (1 : Int32), .int (30 : Int32)]) (rest := []) C sw_X8_47 (c_X8_within l g p2 (1 : Int32) (30 : Int32) σ _ h) (by decide) (by decide) rfl rfl (Nat.le_of_ble_eq_true rfl) (zo_184 (p := 15) (k := 47) (a := 0) (b := 47) (zby_w zwX8_ship_0 15 rfl) (zby_w zwX8_ship_0 16 rfl) (zby_w zwX8_ship_0 17 rfl) (by decide))) (fun r4 h => ?_)
    refine zr_if_eq C 43 (zo_153 (p := 18) (k := 25) (a := 0) (b := 25) (zby_w zwX8_ship_0 18 rfl) (zby_w zwX8_ship_0 19 rfl) (zby_w zwX8_ship_0 20 rfl) (by decide)) (by decide) (fun hc6 => ?_) (fun hc6 => ?_)
    · rw [if_pos hc6] at h
      refine zr_bipush C (-2 : Int32) d_X8_ship_43 (by decide) ?_
      exact hret _ _ _ _ h d_X8_ship_45
    · rw [if_neg hc6] at h
      refine zr_iload_n C (zo_29 (p := 21) (zby_w zwX8_ship_0 21 rfl)) rfl ?_
      refine zr_iconst C (0 : Int32) (zo_3 (p := 22) (zby_w zwX8_ship_0 22 rfl)) (by decide) ?_
      refine zr_bipush C (9 : Int32) (zo_16 (p := 23) (k := 9) (a := 9) (zby_w zwX8_ship_0 23 rfl) (zby_w zwX8_ship_0 24 rfl) (by decide)) (by decide) ?_
      refine zr_cip (zr_runS (As := [.int p3, .int (0 : Int32), .int (9 : Int32)]) (rest := []) C sw_X8_47 (c_X8_within l g p3 (0 : Int32) (9 : Int32) σ _ h) (by decide) (by decide) rfl rfl (Nat.le_of_ble_eq_true rfl) (zo_184 (p := 25) (k := 47) (a := 0) (b := 47) (zby_w zwX8_ship_0 25 rfl) (zby_w zwX8_ship_0 26 rfl) (zby_w zwX8_ship_0 27 rfl) (by decide))) (fun r7 h => ?_)
      refine zr_if_eq C 43 (zo_153 (p := 28) (k := 15) (a := 0) (b := 15) (zby_w zwX8_ship_0 28 rfl) (zby_w zwX8_ship_0 29 rfl) (zby_w zwX8_ship_0 30 rfl) (by decide)) (by decide) (fun hc9 => ?_) (fun hc9 => ?_)
      · rw [if_pos hc9] at h
        refine zr_bipush C (-2 : Int32) d_X8_ship_43 (by decide) ?_
        exact hret _ _ _ _ h d_X8_ship_45
      · rw [if_neg hc9] at h
        refine zr_iload C (zo_21 (p := 31) (k := 4) (a := 4) (zby_w zwX8_ship_0 31 rfl) (zby_w zwX8_ship_0 32 rfl) (by decide)) rfl ?_
        refine zr_iconst C (0 : Int32) (zo_3 (p := 33) (zby_w zwX8_ship_1 1 rfl)) (by decide) ?_
        refine zr_sipush C (999 : Int32) (zo_17 (p := 34) (k := 999) (a := 3) (b := 231) (zby_w zwX8_ship_1 2 rfl) (zby_w zwX8_ship_1 3 rfl) (zby_w zwX8_ship_1 4 rfl) (by decide)) (by decide) ?_
        refine zr_cip (zr_runS (As := [.int p4, .int (0 : Int32), .int (999 : Int32)]) (rest := []) C sw_X8_47 (c_X8_within l g p4 (0 : Int32) (999 : Int32) σ _ h) (by decide) (by decide) rfl rfl (Nat.le_of_ble_eq_true rfl) (zo_184 (p := 37) (k := 47) (a := 0) (b := 47) (zby_w zwX8_ship_1 5 rfl) (zby_w zwX8_ship_1 6 rfl) (zby_w zwX8_ship_1 7 rfl) (by decide))) (fun r10 h => ?_)
        refine zr_if_ne C 46 (zo_154 (p := 40) (k := 6) (a := 0) (b := 6) (zby_w zwX8_ship_1 8 rfl) (zby_w zwX8_ship_1 9 rfl) (zby_w zwX8_ship_1 10 rfl) (by decide)) (by decide) (fun hc12 => ?_) (fun hc12 => ?_)
        · rw [if_neg hc12] at h
          refine zr_aload_n C (zo_42 (p := 46) (zby_w zwX8_ship_1 14 rfl)) rfl ?_
          refine zr_getr (u := 1) C fw_X8_10 (sh_0) rfl (zo_180 (p := 47) (k := 10) (a := 0) (b := 10) (zby_w zwX8_ship_1 15 rfl) (zby_w zwX8_ship_1 16 rfl) (zby_w zwX8_ship_1 17 rfl) (by decide)) ?_
          refine zr_getr (u := 2) C fw_X8_51 (sh_1) rfl (zo_180 (p := 50) (k := 51) (a := 0) (b := 51) (zby_w zwX8_ship_1 18 rfl) (zby_w zwX8_ship_1 19 rfl) (zby_w zwX8_ship_1 20 rfl) (by decide)) ?_
          refine zr_astore C [(5, .ref (g.2.1 2)), (0, .ref (g.2.1 0)), (1, .int p1), (2, .int p2), (3, .int p3), (4, .int p4)] (zo_58 (p := 53) (k := 5) (a := 5) (zby_w zwX8_ship_1 21 rfl) (zby_w zwX8_ship_1 22 rfl) (by decide)) (by decide) rfl ?_
          refine zr_aload C (zo_25 (p := 55) (k := 5) (a := 5) (zby_w zwX8_ship_1 23 rfl) (zby_w zwX8_ship_1 24 rfl) (by decide)) rfl ?_
          refine zr_dup C (zo_89 (p := 57) (zby_w zwX8_ship_1 25 rfl)) rfl ?_
          refine zr_geti C fw_X8_55 (sh_2) rfl (zo_180 (p := 58) (k := 55) (a := 0) (b := 55) (zby_w zwX8_ship_1 26 rfl) (zby_w zwX8_ship_1 27 rfl) (zby_w zwX8_ship_1 28 rfl) (by decide)) ?_
          refine zr_iconst C (1 : Int32) (zo_4 (p := 61) (zby_w zwX8_ship_1 29 rfl)) (by decide) ?_
          refine zr_iload_n C (zo_27 (p := 62) (zby_w zwX8_ship_1 30 rfl)) rfl ?_
          refine zr_ishl C (zo_120 (p := 63) (zby_w zwX8_ship_1 31 rfl)) ?_
          refine zr_ior C (zo_128 (p := 64) (zby_w zwX8_ship_2 0 rfl)) ?_
          refine zr_puti C fw_X8_55 pw_X6_0 (sh_2) rfl rfl rfl (zo_181 (p := 65) (k := 55) (a := 0) (b := 55) (zby_w zwX8_ship_2 1 rfl) (zby_w zwX8_ship_2 2 rfl) (zby_w zwX8_ship_2 3 rfl) (by decide)) ?_
          refine zr_aload C (zo_25 (p := 68) (k := 5) (a := 5) (zby_w zwX8_ship_2 4 rfl) (zby_w zwX8_ship_2 5 rfl) (by decide)) rfl ?_
          refine zr_getr (u := 3) C fw_X8_60 (sh_2) rfl (zo_180 (p := 70) (k := 60) (a := 0) (b := 60) (zby_w zwX8_ship_2 6 rfl) (zby_w zwX8_ship_2 7 rfl) (zby_w zwX8_ship_2 8 rfl) (by decide)) ?_
          refine zr_iload_n C (zo_27 (p := 73) (zby_w zwX8_ship_2 9 rfl)) rfl ?_
          refine zr_iconst C (0 : Int32) (zo_3 (p := 74) (zby_w zwX8_ship_2 10 rfl)) (by decide) ?_
          obtain ⟨ho13, h⟩ := h
          refine zr_iast C (sh_3) ho13 (zo_79 (p := 75) (zby_w zwX8_ship_2 11 rfl)) ?_
          refine zr_aload C (zo_25 (p := 76) (k := 5) (a := 5) (zby_w zwX8_ship_2 12 rfl) (zby_w zwX8_ship_2 13 rfl) (by decide)) rfl ?_
          refine zr_getr (u := 4) C fw_X8_64 (sh_2) rfl (zo_180 (p := 78) (k := 64) (a := 0) (b := 64) (zby_w zwX8_ship_2 14 rfl) (zby_w zwX8_ship_2 15 rfl) (zby_w zwX8_ship_2 16 rfl) (by decide)) ?_
          refine zr_iload_n C (zo_27 (p := 81) (zby_w zwX8_ship_2 17 rfl)) rfl ?_
          refine zr_iload_n C (zo_28 (p := 82) (zby_w zwX8_ship_2 18 rfl)) rfl ?_
          obtain ⟨ho14, h⟩ := h
          refine zr_iast C (sh_4) ho14 (zo_79 (p := 83) (zby_w zwX8_ship_2 19 rfl)) ?_
          refine zr_aload C (zo_25 (p := 84) (k := 5) (a := 5) (zby_w zwX8_ship_2 20 rfl) (zby_w zwX8_ship_2 21 rfl) (by decide)) rfl ?_
          refine zr_getr (u := 5) C fw_X8_67 (sh_2) rfl (zo_180 (p := 86) (k := 67) (a := 0) (b := 67) (zby_w zwX8_ship_2 22 rfl) (zby_w zwX8_ship_2 23 rfl) (zby_w zwX8_ship_2 24 rfl) (by decide)) ?_
          refine zr_iload_n C (zo_27 (p := 89) (zby_w zwX8_ship_2 25 rfl)) rfl ?_
          refine zr_iload_n C (zo_29 (p := 90) (zby_w zwX8_ship_2 26 rfl)) rfl ?_
          obtain ⟨ho15, h⟩ := h
          refine zr_iast C (sh_5) ho15 (zo_79 (p := 91) (zby_w zwX8_ship_2 27 rfl)) ?_
          refine zr_aload C (zo_25 (p := 92) (k := 5) (a := 5) (zby_w zwX8_ship_2 28 rfl) (zby_w zwX8_ship_2 29 rfl) (by decide)) rfl ?_
          refine zr_getr (u := 6) C fw_X8_70 (sh_2) rfl (zo_180 (p := 94) (k := 70) (a := 0) (b := 70) (zby_w zwX8_ship_2 30 rfl) (zby_w zwX8_ship_2 31 rfl) (zby_w zwX8_ship_2 32 rfl) (by decide)) ?_
          refine zr_iload_n C (zo_27 (p := 97) (zby_w zwX8_ship_3 1 rfl)) rfl ?_
          refine zr_iload C (zo_21 (p := 98) (k := 4) (a := 4) (zby_w zwX8_ship_3 2 rfl) (zby_w zwX8_ship_3 3 rfl) (by decide)) rfl ?_
          obtain ⟨ho16, h⟩ := h
          refine zr_iast C (sh_6) ho16 (zo_79 (p := 100) (zby_w zwX8_ship_3 4 rfl)) ?_
          refine zr_aload C (zo_25 (p := 101) (k := 5) (a := 5) (zby_w zwX8_ship_3 5 rfl) (zby_w zwX8_ship_3 6 rfl) (by decide)) rfl ?_
          refine zr_tops (fun σ17 hσ17 => ?_)
          replace h := h σ17 hσ17
          refine zr_geti C fw_X8_55 (sh_2) rfl (zo_180 (p := 103) (k := 55) (a := 0) (b := 55) (zby_w zwX8_ship_3 7 rfl) (zby_w zwX8_ship_3 8 rfl) (zby_w zwX8_ship_3 9 rfl) (by decide)) ?_
          refine zr_cip (zr_runS (As := [.int (σ17.1 2 0)]) (rest := []) C sw_X8_73 (c_J6_bitCount_0f7a4 l g (σ17.1 2 0) σ17 _ h) (by decide) (by decide) rfl rfl (Nat.le_of_ble_eq_true rfl) (zo_184 (p := 106) (k := 73) (a := 0) (b := 73) (zby_w zwX8_ship_3 10 rfl) (zby_w zwX8_ship_3 11 rfl) (zby_w zwX8_ship_3 12 rfl) (by decide))) (fun r18 h => ?_)
          exact hret _ _ _ _ h (zo_172 (p := 109) (zby_w zwX8_ship_3 13 rfl))
        · rw [if_pos hc12] at h
          refine zr_bipush C (-2 : Int32) d_X8_ship_43 (by decide) ?_
          exact hret _ _ _ _ h d_X8_ship_45
  · rw [if_pos hc3] at h
    refine zr_iconst C (-1 : Int32) (zo_2 (p := 9) (zby_w zwX8_ship_0 9 rfl)) (by decide) ?_
    exact hret _ _ _ _ h (zo_172 (p := 10) (zby_w zwX8_ship_0 10 rfl))
set_option maxRecDepth 20000 in
theorem c_X8_ship (l : Launch) (g : zG) (p1 : Int32) (p2 : Int32) (p3 : Int32) (p4 : Int32) (σ : zST) (Post : Int32 → zST → Prop) (h : wp_X8_ship p1 p2 p3 p4 σ Post) : Met l yX8_ship (Cond.code yX8_ship cX8_ship 6 (some .int) :: zGW) (zRm 1 22) (va_Pc [.ref (g.2.1 0), .int p1, .int p2, .int p3, .int p4] (zPP g σ)) (va_Qi Post (zBB g) (zA g)) 0 0 (zA g) :=
  zMet (by decide) (Nat.le_of_ble_eq_true rfl) (fun p e s m below meth c hr C => g_X8_ship C (fun v σ pc lv hp hd => zr_iret C hr hp hd) h)
def wp_X8_scrap (p1 : Int32) (σ : zST) (Post : Int32 → zST → Prop) : Prop := wp_X6_has 2 p1 σ (fun r1 => (if r1 = (0) then Post (-1 : Int32) σ else ∀ σ4 : zST, σ4 = (wI σ 2 0 ((σ.1 2 0) &&& (((1 : Int32) <<< (p1 &&& 31)) ^^^ (-1 : Int32)))) → wp_J6_bitCount_0f7a4 (σ4.1 2 0) σ4 (fun r5 => Post r5 σ4)))
set_option maxRecDepth 100000 in
set_option maxHeartbeats 4000000 in
theorem g_X8_scrap {p : Program} {l : Launch} {e : Env} {R : Room} {s : State} {m : MethodId} {args : Array Value} {below : List Frame} {meth : Method} {c : Code} {Q : State → Prop} {g : zG} {n1 n2 : Nat} (C : zCX p R s m args meth c g n1 n2 cX8_scrap 3 RX8 2 43) {p1 : Int32} {σ : zST} {Post : Int32 → zST → Prop} (hret : ∀ (v : Int32) (σ : zST) (pc : Nat) (lv : List (Nat × Value)), Post v σ → decode cX8_scrap pc = .ok (.ireturn, 1) → zGG p l e R s m args below meth c Q g n1 n2 3 pc lv [.int v] σ) (h : wp_X8_scrap p1 σ Post) : zGG p l e R s m args below meth c Q g n1 n2 3 0 [(0, .ref (g.2.1 0)), (1, .int p1)] [] σ := by
  unfold wp_X8_scrap at h
  refine zr_aload_n C (zo_42 (p := 0) (zby_w zwX8_scrap_0 0 rfl)) rfl ?_
  refine zr_getr (u := 1) C fw_X8_10 (sh_0) rfl (zo_180 (p := 1) (k := 10) (a := 0) (b := 10) (zby_w zwX8_scrap_0 1 rfl) (zby_w zwX8_scrap_0 2 rfl) (zby_w zwX8_scrap_0 3 rfl) (by decide)) ?_
  refine zr_getr (u := 2) C fw_X8_51 (sh_1) rfl (zo_180 (p := 4) (k := 51) (a := 0) (b := 51) (zby_w zwX8_scrap_0 4 rfl) (zby_w zwX8_scrap_0 5 rfl) (zby_w zwX8_scrap_0 6 rfl) (by decide)) ?_
  refine zr_astore_n C [(2, .ref (g.2.1 2)), (0, .ref (g.2.1 0)), (1, .int p1)] (zo_77 (p := 7) (zby_w zwX8_scrap_0 7 rfl)) (by decide) rfl ?_
  refine zr_aload_n C (zo_44 (p := 8) (zby_w zwX8_scrap_0 8 rfl)) rfl ?_
  refine zr_iload_n C (zo_27 (p := 9) (zby_w zwX8_scrap_0 9 rfl)) rfl ?_
  refine zr_cip (zr_runV (As := [.int p1]) (rest := []) C vw_X8_79 (c_X6_has l g 2 isX6_2 p1 σ _ h) (sh_2) rfl (by decide) (by decide) rfl rfl (Nat.le_of_ble_eq_true rfl) (zo_182 (p := 10) (k := 79) (a := 0) (b := 79) (zby_w zwX8_scrap_0 10 rfl) (zby_w zwX8_scrap_0 11 rfl) (zby_w zwX8_scrap_0 12 rfl) (by decide))) (fun r1 h => ?_)
  refine zr_if_ne C 18 (zo_154 (p := 13) (k := 5) (a := 0) (b := 5) (zby_w zwX8_scrap_0 13 rfl) (zby_w zwX8_scrap_0 14 rfl) (zby_w zwX8_scrap_0 15 rfl) (by decide)) (by decide) (fun hc3 => ?_) (fun hc3 => ?_)
  · rw [if_neg hc3] at h
    refine zr_aload_n C (zo_44 (p := 18) (zby_w zwX8_scrap_0 18 rfl)) rfl ?_
    refine zr_dup C (zo_89 (p := 19) (zby_w zwX8_scrap_0 19 rfl)) rfl ?_
    refine zr_geti C fw_X8_55 (sh_2) rfl (zo_180 (p := 20) (k := 55) (a := 0) (b := 55) (zby_w zwX8_scrap_0 20 rfl) (zby_w zwX8_scrap_0 21 rfl) (zby_w zwX8_scrap_0 22 rfl) (by decide)) ?_
    refine zr_iconst C (1 : Int32) (zo_4 (p := 23) (zby_w zwX8_scrap_0 23 rfl)) (by decide) ?_
    refine zr_iload_n C (zo_27 (p := 24) (zby_w zwX8_scrap_0 24 rfl)) rfl ?_
    refine zr_ishl C (zo_120 (p := 25) (zby_w zwX8_scrap_0 25 rfl)) ?_
    refine zr_iconst C (-1 : Int32) (zo_2 (p := 26) (zby_w zwX8_scrap_0 26 rfl)) (by decide) ?_
    refine zr_ixor C (zo_130 (p := 27) (zby_w zwX8_scrap_0 27 rfl)) ?_
    refine zr_iand C (zo_126 (p := 28) (zby_w zwX8_scrap_0 28 rfl)) ?_
    refine zr_puti C fw_X8_55 pw_X6_0 (sh_2) rfl rfl rfl (zo_181 (p := 29) (k := 55) (a := 0) (b := 55) (zby_w zwX8_scrap_0 29 rfl) (zby_w zwX8_scrap_0 30 rfl) (zby_w zwX8_scrap_0 31 rfl) (by decide)) ?_
    refine zr_aload_n C (zo_44 (p := 32) (zby_w zwX8_scrap_1 0 rfl)) rfl ?_
    refine zr_tops (fun σ4 hσ4 => ?_)
    replace h := h σ4 hσ4
    refine zr_geti C fw_X8_55 (sh_2) rfl (zo_180 (p := 33) (k := 55) (a := 0) (b := 55) (zby_w zwX8_scrap_1 1 rfl) (zby_w zwX8_scrap_1 2 rfl) (zby_w zwX8_scrap_1 3 rfl) (by decide)) ?_
    refine zr_cip (zr_runS (As := [.int (σ4.1 2 0)]) (rest := []) C sw_X8_73 (c_J6_bitCount_0f7a4 l g (σ4.1 2 0) σ4 _ h) (by decide) (by decide) rfl rfl (Nat.le_of_ble_eq_true rfl) (zo_184 (p := 36) (k := 73) (a := 0) (b := 73) (zby_w zwX8_scrap_1 4 rfl) (zby_w zwX8_scrap_1 5 rfl) (zby_w zwX8_scrap_1 6 rfl) (by decide))) (fun r5 h => ?_)
    exact hret _ _ _ _ h (zo_172 (p := 39) (zby_w zwX8_scrap_1 7 rfl))
  · rw [if_pos hc3] at h
    refine zr_iconst C (-1 : Int32) (zo_2 (p := 16) (zby_w zwX8_scrap_0 16 rfl)) (by decide) ?_
    exact hret _ _ _ _ h (zo_172 (p := 17) (zby_w zwX8_scrap_0 17 rfl))
set_option maxRecDepth 20000 in
theorem c_X8_scrap (l : Launch) (g : zG) (p1 : Int32) (σ : zST) (Post : Int32 → zST → Prop) (h : wp_X8_scrap p1 σ Post) : Met l yX8_scrap (Cond.code yX8_scrap cX8_scrap 3 (some .int) :: zGW) (zRm 2 43) (va_Pc [.ref (g.2.1 0), .int p1] (zPP g σ)) (va_Qi Post (zBB g) (zA g)) 0 0 (zA g) :=
  zMet (by decide) (Nat.le_of_ble_eq_true rfl) (fun p e s m below meth c hr C => g_X8_scrap C (fun v σ pc lv hp hd => zr_iret C hr hp hd) h)
def wp_X8_set (p1 : Int32) (p2 : Int32) (σ : zST) (Post : Int32 → zST → Prop) : Prop := wp_X8_within p1 (0 : Int32) (7 : Int32) σ (fun r1 => (if r1 = (0) then Post (-2 : Int32) σ else vp_in p1 8 ∧ vp_in p1 8 ∧ wp_X8_within p2 (zTL p1.toNatClampNeg) (zTM p1.toNatClampNeg) σ (fun r8 => (if r8 = (0) then Post (-2 : Int32) σ else vp_in p1 8 ∧ ∀ x12 : Int32, x12 = σ.1 7 p1.toNatClampNeg → vp_in p1 8 ∧ Post x12 (wI σ 7 p1.toNatClampNeg p2)))))
set_option maxRecDepth 100000 in
set_option maxHeartbeats 4000000 in
theorem g_X8_set {p : Program} {l : Launch} {e : Env} {R : Room} {s : State} {m : MethodId} {args : Array Value} {below : List Frame} {meth : Method} {c : Code} {Q : State → Prop} {g : zG} {n1 n2 : Nat} (C : zCX p R s m args meth c g n1 n2 cX8_set 4 RX8 1 22) {p1 : Int32} {p2 : Int32} {σ : zST} {Post : Int32 → zST → Prop} (hret : ∀ (v : Int32) (σ : zST) (pc : Nat) (lv : List (Nat × Value)), Post v σ → decode cX8_set pc = .ok (.ireturn, 1) → zGG p l e R s m args below meth c Q g n1 n2 4 pc lv [.int v] σ) (h : wp_X8_set p1 p2 σ Post) : zGG p l e R s m args below meth c Q g n1 n2 4 0 [(0, .ref (g.2.1 0)), (1, .int p1), (2, .int p2)] [] σ := by
  unfold wp_X8_set at h
  refine zr_iload_n C (zo_27 (p := 0) (zby_w zwX8_set_0 0 rfl)) rfl ?_
  refine zr_iconst C (0 : Int32) (zo_3 (p := 1) (zby_w zwX8_set_0 1 rfl)) (by decide) ?_
  refine zr_bipush C (7 : Int32) (zo_16 (p := 2) (k := 7) (a := 7) (zby_w zwX8_set_0 2 rfl) (zby_w zwX8_set_0 3 rfl) (by decide)) (by decide) ?_
  refine zr_cip (zr_runS (As := [.int p1, .int (0 : Int32), .int (7 : Int32)]) (rest := []) C sw_X8_47 (c_X8_within l g p1 (0 : Int32) (7 : Int32) σ _ h) (by decide) (by decide) rfl rfl (Nat.le_of_ble_eq_true rfl) (zo_184 (p := 4) (k := 47) (a := 0) (b := 47) (zby_w zwX8_set_0 4 rfl) (zby_w zwX8_set_0 5 rfl) (zby_w zwX8_set_0 6 rfl) (by decide))) (fun r1 h => ?_)
  refine zr_if_eq C 27 (zo_153 (p := 7) (k := 20) (a := 0) (b := 20) (zby_w zwX8_set_0 7 rfl) (zby_w zwX8_set_0 8 rfl) (zby_w zwX8_set_0 9 rfl) (by decide)) (by decide) (fun hc3 => ?_) (fun hc3 => ?_)
  · rw [if_pos hc3] at h
    refine zr_bipush C (-2 : Int32) d_X8_set_27 (by decide) ?_
    exact hret _ _ _ _ h d_X8_set_29
  · rw [if_neg hc3] at h
    refine zr_iload_n C (zo_28 (p := 10) (zby_w zwX8_set_0 10 rfl)) rfl ?_
    refine zr_getsL C gs_X8_83 (zo_178 (p := 11) (k := 83) (a := 0) (b := 83) (zby_w zwX8_set_0 11 rfl) (zby_w zwX8_set_0 12 rfl) (zby_w zwX8_set_0 13 rfl) (by decide)) (fun t4 ht4 => ?_)
    refine zr_iload_n C (zo_27 (p := 14) (zby_w zwX8_set_0 14 rfl)) rfl ?_
    obtain ⟨ho5, h⟩ := h
    refine zr_tald C ht4 ho5 (zo_46 (p := 15) (zby_w zwX8_set_0 15 rfl)) ?_
    refine zr_getsM C gs_X8_86 (zo_178 (p := 16) (k := 86) (a := 0) (b := 86) (zby_w zwX8_set_0 16 rfl) (zby_w zwX8_set_0 17 rfl) (zby_w zwX8_set_0 18 rfl) (by decide)) (fun t6 ht6 => ?_)
    refine zr_iload_n C (zo_27 (p := 19) (zby_w zwX8_set_0 19 rfl)) rfl ?_
    obtain ⟨ho7, h⟩ := h
    refine zr_tald C ht6 ho7 (zo_46 (p := 20) (zby_w zwX8_set_0 20 rfl)) ?_
    refine zr_cip (zr_runS (As := [.int p2, .int (zTL p1.toNatClampNeg), .int (zTM p1.toNatClampNeg)]) (rest := []) C sw_X8_47 (c_X8_within l g p2 (zTL p1.toNatClampNeg) (zTM p1.toNatClampNeg) σ _ h) (by decide) (by decide) rfl rfl (Nat.le_of_ble_eq_true rfl) (zo_184 (p := 21) (k := 47) (a := 0) (b := 47) (zby_w zwX8_set_0 21 rfl) (zby_w zwX8_set_0 22 rfl) (zby_w zwX8_set_0 23 rfl) (by decide))) (fun r8 h => ?_)
    refine zr_if_ne C 30 (zo_154 (p := 24) (k := 6) (a := 0) (b := 6) (zby_w zwX8_set_0 24 rfl) (zby_w zwX8_set_0 25 rfl) (zby_w zwX8_set_0 26 rfl) (by decide)) (by decide) (fun hc10 => ?_) (fun hc10 => ?_)
    · rw [if_neg hc10] at h
      refine zr_aload_n C (zo_42 (p := 30) (zby_w zwX8_set_0 30 rfl)) rfl ?_
      refine zr_getr (u := 1) C fw_X8_10 (sh_0) rfl (zo_180 (p := 31) (k := 10) (a := 0) (b := 10) (zby_w zwX8_set_0 31 rfl) (zby_w zwX8_set_0 32 rfl) (zby_w zwX8_set_0 33 rfl) (by decide)) ?_
      refine zr_getr (u := 2) C fw_X8_51 (sh_1) rfl (zo_180 (p := 34) (k := 51) (a := 0) (b := 51) (zby_w zwX8_set_1 2 rfl) (zby_w zwX8_set_1 3 rfl) (zby_w zwX8_set_1 4 rfl) (by decide)) ?_
      refine zr_getr (u := 7) C fw_X8_89 (sh_2) rfl (zo_180 (p := 37) (k := 89) (a := 0) (b := 89) (zby_w zwX8_set_1 5 rfl) (zby_w zwX8_set_1 6 rfl) (zby_w zwX8_set_1 7 rfl) (by decide)) ?_
      refine zr_iload_n C (zo_27 (p := 40) (zby_w zwX8_set_1 8 rfl)) rfl ?_
      obtain ⟨ho11, h⟩ := h
      refine zr_iald C (sh_7) ho11 (zo_46 (p := 41) (zby_w zwX8_set_1 9 rfl)) ?_
      refine zr_topi (fun x12 hx12 => ?_)
      replace h := h x12 hx12
      refine zr_istore_n C [(3, .int x12), (0, .ref (g.2.1 0)), (1, .int p1), (2, .int p2)] (zo_62 (p := 42) (zby_w zwX8_set_1 10 rfl)) (by decide) rfl ?_
      refine zr_aload_n C (zo_42 (p := 43) (zby_w zwX8_set_1 11 rfl)) rfl ?_
      refine zr_getr (u := 1) C fw_X8_10 (sh_0) rfl (zo_180 (p := 44) (k := 10) (a := 0) (b := 10) (zby_w zwX8_set_1 12 rfl) (zby_w zwX8_set_1 13 rfl) (zby_w zwX8_set_1 14 rfl) (by decide)) ?_
      refine zr_getr (u := 2) C fw_X8_51 (sh_1) rfl (zo_180 (p := 47) (k := 51) (a := 0) (b := 51) (zby_w zwX8_set_1 15 rfl) (zby_w zwX8_set_1 16 rfl) (zby_w zwX8_set_1 17 rfl) (by decide)) ?_
      refine zr_getr (u := 7) C fw_X8_89 (sh_2) rfl (zo_180 (p := 50) (k := 89) (a := 0) (b := 89) (zby_w zwX8_set_1 18 rfl) (zby_w zwX8_set_1 19 rfl) (zby_w zwX8_set_1 20 rfl) (by decide)) ?_
      refine zr_iload_n C (zo_27 (p := 53) (zby_w zwX8_set_1 21 rfl)) rfl ?_
      refine zr_iload_n C (zo_28 (p := 54) (zby_w zwX8_set_1 22 rfl)) rfl ?_
      obtain ⟨ho13, h⟩ := h
      refine zr_iast C (sh_7) ho13 (zo_79 (p := 55) (zby_w zwX8_set_1 23 rfl)) ?_
      refine zr_iload_n C (zo_29 (p := 56) (zby_w zwX8_set_1 24 rfl)) rfl ?_
      exact hret _ _ _ _ h (zo_172 (p := 57) (zby_w zwX8_set_1 25 rfl))
    · rw [if_pos hc10] at h
      refine zr_bipush C (-2 : Int32) d_X8_set_27 (by decide) ?_
      exact hret _ _ _ _ h d_X8_set_29
set_option maxRecDepth 20000 in
theorem c_X8_set (l : Launch) (g : zG) (p1 : Int32) (p2 : Int32) (σ : zST) (Post : Int32 → zST → Prop) (h : wp_X8_set p1 p2 σ Post) : Met l yX8_set (Cond.code yX8_set cX8_set 4 (some .int) :: zGW) (zRm 1 22) (va_Pc [.ref (g.2.1 0), .int p1, .int p2] (zPP g σ)) (va_Qi Post (zBB g) (zA g)) 0 0 (zA g) :=
  zMet (by decide) (Nat.le_of_ble_eq_true rfl) (fun p e s m below meth c hr C => g_X8_set C (fun v σ pc lv hp hd => zr_iret C hr hp hd) h)
def wp_X8_say (p1 : Int32) (σ : zST) (Post : Int32 → zST → Prop) : Prop := wp_X8_within p1 (33 : Int32) (126 : Int32) σ (fun r1 => (if r1 = (0) then Post (-2 : Int32) σ else (if (σ.1 52 1) < (60 : Int32) then vp_in (σ.1 52 1) 60 ∧ ∀ σ6 : zST, σ6 = (wI σ 53 (σ.1 52 1).toNatClampNeg p1) → ∀ σ7 : zST, σ7 = (wI σ6 52 1 ((σ6.1 52 1) + (1 : Int32))) → Post (σ7.1 52 1) σ7 else Post (-4 : Int32) σ)))
set_option maxRecDepth 100000 in
set_option maxHeartbeats 4000000 in
theorem g_X8_say {p : Program} {l : Launch} {e : Env} {R : Room} {s : State} {m : MethodId} {args : Array Value} {below : List Frame} {meth : Method} {c : Code} {Q : State → Prop} {g : zG} {n1 n2 : Nat} (C : zCX p R s m args meth c g n1 n2 cX8_say 2 RX8 1 22) {p1 : Int32} {σ : zST} {Post : Int32 → zST → Prop} (hret : ∀ (v : Int32) (σ : zST) (pc : Nat) (lv : List (Nat × Value)), Post v σ → decode cX8_say pc = .ok (.ireturn, 1) → zGG p l e R s m args below meth c Q g n1 n2 2 pc lv [.int v] σ) (h : wp_X8_say p1 σ Post) : zGG p l e R s m args below meth c Q g n1 n2 2 0 [(0, .ref (g.2.1 0)), (1, .int p1)] [] σ := by
  unfold wp_X8_say at h
  refine zr_iload_n C (zo_27 (p := 0) (zby_w zwX8_say_0 0 rfl)) rfl ?_
  refine zr_bipush C (33 : Int32) (zo_16 (p := 1) (k := 33) (a := 33) (zby_w zwX8_say_0 1 rfl) (zby_w zwX8_say_0 2 rfl) (by decide)) (by decide) ?_
  refine zr_bipush C (126 : Int32) (zo_16 (p := 3) (k := 126) (a := 126) (zby_w zwX8_say_0 3 rfl) (zby_w zwX8_say_0 4 rfl) (by decide)) (by decide) ?_
  refine zr_cip (zr_runS (As := [.int p1, .int (33 : Int32), .int (126 : Int32)]) (rest := []) C sw_X8_47 (c_X8_within l g p1 (33 : Int32) (126 : Int32) σ _ h) (by decide) (by decide) rfl rfl (Nat.le_of_ble_eq_true rfl) (zo_184 (p := 5) (k := 47) (a := 0) (b := 47) (zby_w zwX8_say_0 5 rfl) (zby_w zwX8_say_0 6 rfl) (zby_w zwX8_say_0 7 rfl) (by decide))) (fun r1 h => ?_)
  refine zr_if_ne C 14 (zo_154 (p := 8) (k := 6) (a := 0) (b := 6) (zby_w zwX8_say_0 8 rfl) (zby_w zwX8_say_0 9 rfl) (zby_w zwX8_say_0 10 rfl) (by decide)) (by decide) (fun hc3 => ?_) (fun hc3 => ?_)
  · rw [if_neg hc3] at h
    refine zr_aload_n C (zo_42 (p := 14) (zby_w zwX8_say_0 14 rfl)) rfl ?_
    refine zr_getr (u := 52) C fw_X8_29 (sh_0) rfl (zo_180 (p := 15) (k := 29) (a := 0) (b := 29) (zby_w zwX8_say_0 15 rfl) (zby_w zwX8_say_0 16 rfl) (zby_w zwX8_say_0 17 rfl) (by decide)) ?_
    refine zr_geti C fw_X8_92 (sh_52) rfl (zo_180 (p := 18) (k := 92) (a := 0) (b := 92) (zby_w zwX8_say_0 18 rfl) (zby_w zwX8_say_0 19 rfl) (zby_w zwX8_say_0 20 rfl) (by decide)) ?_
    refine zr_bipush C (60 : Int32) (zo_16 (p := 21) (k := 60) (a := 60) (zby_w zwX8_say_0 21 rfl) (zby_w zwX8_say_0 22 rfl) (by decide)) (by decide) ?_
    refine zr_icmp_lt C 29 (zo_161 (p := 23) (k := 6) (a := 0) (b := 6) (zby_w zwX8_say_0 23 rfl) (zby_w zwX8_say_0 24 rfl) (zby_w zwX8_say_0 25 rfl) (by decide)) (by decide) (fun hc4 => ?_) (fun hc4 => ?_)
    · rw [if_pos hc4] at h
      refine zr_aload_n C (zo_42 (p := 29) (zby_w zwX8_say_0 29 rfl)) rfl ?_
      refine zr_getr (u := 52) C fw_X8_29 (sh_0) rfl (zo_180 (p := 30) (k := 29) (a := 0) (b := 29) (zby_w zwX8_say_0 30 rfl) (zby_w zwX8_say_0 31 rfl) (zby_w zwX8_say_0 32 rfl) (by decide)) ?_
      refine zr_getr (u := 53) C fw_X8_95 (sh_52) rfl (zo_180 (p := 33) (k := 95) (a := 0) (b := 95) (zby_w zwX8_say_1 1 rfl) (zby_w zwX8_say_1 2 rfl) (zby_w zwX8_say_1 3 rfl) (by decide)) ?_
      refine zr_aload_n C (zo_42 (p := 36) (zby_w zwX8_say_1 4 rfl)) rfl ?_
      refine zr_getr (u := 52) C fw_X8_29 (sh_0) rfl (zo_180 (p := 37) (k := 29) (a := 0) (b := 29) (zby_w zwX8_say_1 5 rfl) (zby_w zwX8_say_1 6 rfl) (zby_w zwX8_say_1 7 rfl) (by decide)) ?_
      refine zr_geti C fw_X8_92 (sh_52) rfl (zo_180 (p := 40) (k := 92) (a := 0) (b := 92) (zby_w zwX8_say_1 8 rfl) (zby_w zwX8_say_1 9 rfl) (zby_w zwX8_say_1 10 rfl) (by decide)) ?_
      refine zr_iload_n C (zo_27 (p := 43) (zby_w zwX8_say_1 11 rfl)) rfl ?_
      obtain ⟨ho5, h⟩ := h
      refine zr_iast C (sh_53) ho5 (zo_79 (p := 44) (zby_w zwX8_say_1 12 rfl)) ?_
      refine zr_aload_n C (zo_42 (p := 45) (zby_w zwX8_say_1 13 rfl)) rfl ?_
      refine zr_getr (u := 52) C fw_X8_29 (sh_0) rfl (zo_180 (p := 46) (k := 29) (a := 0) (b := 29) (zby_w zwX8_say_1 14 rfl) (zby_w zwX8_say_1 15 rfl) (zby_w zwX8_say_1 16 rfl) (by decide)) ?_
      refine zr_dup C (zo_89 (p := 49) (zby_w zwX8_say_1 17 rfl)) rfl ?_
      refine zr_tops (fun σ6 hσ6 => ?_)
      replace h := h σ6 hσ6
      refine zr_geti C fw_X8_92 (sh_52) rfl (zo_180 (p := 50) (k := 92) (a := 0) (b := 92) (zby_w zwX8_say_1 18 rfl) (zby_w zwX8_say_1 19 rfl) (zby_w zwX8_say_1 20 rfl) (by decide)) ?_
      refine zr_iconst C (1 : Int32) (zo_4 (p := 53) (zby_w zwX8_say_1 21 rfl)) (by decide) ?_
      refine zr_iadd C (zo_96 (p := 54) (zby_w zwX8_say_1 22 rfl)) ?_
      refine zr_puti C fw_X8_92 pw_X4_1 (sh_52) rfl rfl rfl (zo_181 (p := 55) (k := 92) (a := 0) (b := 92) (zby_w zwX8_say_1 23 rfl) (zby_w zwX8_say_1 24 rfl) (zby_w zwX8_say_1 25 rfl) (by decide)) ?_
      refine zr_aload_n C (zo_42 (p := 58) (zby_w zwX8_say_1 26 rfl)) rfl ?_
      refine zr_getr (u := 52) C fw_X8_29 (sh_0) rfl (zo_180 (p := 59) (k := 29) (a := 0) (b := 29) (zby_w zwX8_say_1 27 rfl) (zby_w zwX8_say_1 28 rfl) (zby_w zwX8_say_1 29 rfl) (by decide)) ?_
      refine zr_tops (fun σ7 hσ7 => ?_)
      replace h := h σ7 hσ7
      refine zr_geti C fw_X8_92 (sh_52) rfl (zo_180 (p := 62) (k := 92) (a := 0) (b := 92) (zby_w zwX8_say_1 30 rfl) (zby_w zwX8_say_1 31 rfl) (zby_w zwX8_say_1 32 rfl) (by decide)) ?_
      exact hret _ _ _ _ h (zo_172 (p := 65) (zby_w zwX8_say_2 1 rfl))
    · rw [if_neg hc4] at h
      refine zr_bipush C (-4 : Int32) (zo_16 (p := 26) (k := (-4)) (a := 252) (zby_w zwX8_say_0 26 rfl) (zby_w zwX8_say_0 27 rfl) (by decide)) (by decide) ?_
      exact hret _ _ _ _ h (zo_172 (p := 28) (zby_w zwX8_say_0 28 rfl))
  · rw [if_pos hc3] at h
    refine zr_bipush C (-2 : Int32) (zo_16 (p := 11) (k := (-2)) (a := 254) (zby_w zwX8_say_0 11 rfl) (zby_w zwX8_say_0 12 rfl) (by decide)) (by decide) ?_
    exact hret _ _ _ _ h (zo_172 (p := 13) (zby_w zwX8_say_0 13 rfl))
set_option maxRecDepth 20000 in
theorem c_X8_say (l : Launch) (g : zG) (p1 : Int32) (σ : zST) (Post : Int32 → zST → Prop) (h : wp_X8_say p1 σ Post) : Met l yX8_say (Cond.code yX8_say cX8_say 2 (some .int) :: zGW) (zRm 1 22) (va_Pc [.ref (g.2.1 0), .int p1] (zPP g σ)) (va_Qi Post (zBB g) (zA g)) 0 0 (zA g) :=
  zMet (by decide) (Nat.le_of_ble_eq_true rfl) (fun p e s m below meth c hr C => g_X8_say C (fun v σ pc lv hp hd => zr_iret C hr hp hd) h)
def wp_X8_wipe (σ : zST) (Post : Int32 → zST → Prop) : Prop := wp_X4_clear σ (fun r1 σ2 => Post r1 σ2)
set_option maxRecDepth 100000 in
set_option maxHeartbeats 4000000 in
theorem g_X8_wipe {p : Program} {l : Launch} {e : Env} {R : Room} {s : State} {m : MethodId} {args : Array Value} {below : List Frame} {meth : Method} {c : Code} {Q : State → Prop} {g : zG} {n1 n2 : Nat} (C : zCX p R s m args meth c g n1 n2 cX8_wipe 1 RX8 1 21) {σ : zST} {Post : Int32 → zST → Prop} (hret : ∀ (v : Int32) (σ : zST) (pc : Nat) (lv : List (Nat × Value)), Post v σ → decode cX8_wipe pc = .ok (.ireturn, 1) → zGG p l e R s m args below meth c Q g n1 n2 1 pc lv [.int v] σ) (h : wp_X8_wipe σ Post) : zGG p l e R s m args below meth c Q g n1 n2 1 0 [(0, .ref (g.2.1 0))] [] σ := by
  unfold wp_X8_wipe at h
  refine zr_aload_n C (zo_42 (p := 0) (zby_w zwX8_wipe_0 0 rfl)) rfl ?_
  refine zr_getr (u := 52) C fw_X8_29 (sh_0) rfl (zo_180 (p := 1) (k := 29) (a := 0) (b := 29) (zby_w zwX8_wipe_0 1 rfl) (zby_w zwX8_wipe_0 2 rfl) (zby_w zwX8_wipe_0 3 rfl) (by decide)) ?_
  refine zr_ci (zr_runV (As := []) (rest := []) C vw_X8_98 (c_X4_clear l g σ _ h) (sh_52) rfl (by decide) (by decide) rfl rfl (Nat.le_of_ble_eq_true rfl) (zo_182 (p := 4) (k := 98) (a := 0) (b := 98) (zby_w zwX8_wipe_0 4 rfl) (zby_w zwX8_wipe_0 5 rfl) (zby_w zwX8_wipe_0 6 rfl) (by decide))) (fun r1 σ2 h => ?_)
  exact hret _ _ _ _ h (zo_172 (p := 7) (zby_w zwX8_wipe_0 7 rfl))
set_option maxRecDepth 20000 in
theorem c_X8_wipe (l : Launch) (g : zG) (σ : zST) (Post : Int32 → zST → Prop) (h : wp_X8_wipe σ Post) : Met l yX8_wipe (Cond.code yX8_wipe cX8_wipe 1 (some .int) :: zGW) (zRm 1 21) (va_Pc [.ref (g.2.1 0)] (zPP g σ)) (va_Qi Post (zBB g) (zA g)) 0 0 (zA g) :=
  zMet (by decide) (Nat.le_of_ble_eq_true rfl) (fun p e s m below meth c hr C => g_X8_wipe C (fun v σ pc lv hp hd => zr_iret C hr hp hd) h)
def wp_X8_fault (p1 : Int32) (σ : zST) (Post : Int32 → Prop) : Prop := wp_X8_within p1 (0 : Int32) (1 : Int32) σ (fun r1 => (if r1 = (0) then Post (-2 : Int32) else (if p1 = (0) then wp_X4_faultAsTide σ (fun r7 => Post r7) else wp_X4_faultAsSeason σ (fun r5 => Post r5))))
set_option maxRecDepth 100000 in
set_option maxHeartbeats 4000000 in
theorem g_X8_fault {p : Program} {l : Launch} {e : Env} {R : Room} {s : State} {m : MethodId} {args : Array Value} {below : List Frame} {meth : Method} {c : Code} {Q : State → Prop} {g : zG} {n1 n2 : Nat} (C : zCX p R s m args meth c g n1 n2 cX8_fault 2 RX8 3 66) {p1 : Int32} {σ : zST} {Post : Int32 → Prop} (hret : ∀ (v : Int32) (pc : Nat) (lv : List (Nat × Value)), Post v → decode cX8_fault pc = .ok (.ireturn, 1) → zGG p l e R s m args below meth c Q g n1 n2 2 pc lv [.int v] σ) (h : wp_X8_fault p1 σ Post) : zGG p l e R s m args below meth c Q g n1 n2 2 0 [(0, .ref (g.2.1 0)), (1, .int p1)] [] σ := by
  unfold wp_X8_fault at h
  refine zr_iload_n C (zo_27 (p := 0) (zby_w zwX8_fault_0 0 rfl)) rfl ?_
  refine zr_iconst C (0 : Int32) (zo_3 (p := 1) (zby_w zwX8_fault_0 1 rfl)) (by decide) ?_
  refine zr_iconst C (1 : Int32) (zo_4 (p := 2) (zby_w zwX8_fault_0 2 rfl)) (by decide) ?_
  refine zr_cip (zr_runS (As := [.int p1, .int (0 : Int32), .int (1 : Int32)]) (rest := []) C sw_X8_47 (c_X8_within l g p1 (0 : Int32) (1 : Int32) σ _ h) (by decide) (by decide) rfl rfl (Nat.le_of_ble_eq_true rfl) (zo_184 (p := 3) (k := 47) (a := 0) (b := 47) (zby_w zwX8_fault_0 3 rfl) (zby_w zwX8_fault_0 4 rfl) (zby_w zwX8_fault_0 5 rfl) (by decide))) (fun r1 h => ?_)
  refine zr_if_ne C 12 (zo_154 (p := 6) (k := 6) (a := 0) (b := 6) (zby_w zwX8_fault_0 6 rfl) (zby_w zwX8_fault_0 7 rfl) (zby_w zwX8_fault_0 8 rfl) (by decide)) (by decide) (fun hc3 => ?_) (fun hc3 => ?_)
  · rw [if_neg hc3] at h
    refine zr_iload_n C (zo_27 (p := 12) (zby_w zwX8_fault_0 12 rfl)) rfl ?_
    refine zr_if_ne C 26 (zo_154 (p := 13) (k := 13) (a := 0) (b := 13) (zby_w zwX8_fault_0 13 rfl) (zby_w zwX8_fault_0 14 rfl) (zby_w zwX8_fault_0 15 rfl) (by decide)) (by decide) (fun hc4 => ?_) (fun hc4 => ?_)
    · rw [if_neg hc4] at h
      refine zr_aload_n C (zo_42 (p := 26) (zby_w zwX8_fault_0 26 rfl)) rfl ?_
      refine zr_getr (u := 52) C fw_X8_29 (sh_0) rfl (zo_180 (p := 27) (k := 29) (a := 0) (b := 29) (zby_w zwX8_fault_0 27 rfl) (zby_w zwX8_fault_0 28 rfl) (zby_w zwX8_fault_0 29 rfl) (by decide)) ?_
      refine zr_cip (zr_runV (As := []) (rest := []) C vw_X8_105 (c_X4_faultAsSeason l g σ _ h) (sh_52) rfl (by decide) (by decide) rfl rfl (Nat.le_of_ble_eq_true rfl) (zo_182 (p := 30) (k := 105) (a := 0) (b := 105) (zby_w zwX8_fault_0 30 rfl) (zby_w zwX8_fault_0 31 rfl) (zby_w zwX8_fault_0 32 rfl) (by decide))) (fun r5 h => ?_)
      exact hret _ _ _ h d_X8_fault_33
    · rw [if_pos hc4] at h
      refine zr_aload_n C (zo_42 (p := 16) (zby_w zwX8_fault_0 16 rfl)) rfl ?_
      refine zr_getr (u := 52) C fw_X8_29 (sh_0) rfl (zo_180 (p := 17) (k := 29) (a := 0) (b := 29) (zby_w zwX8_fault_0 17 rfl) (zby_w zwX8_fault_0 18 rfl) (zby_w zwX8_fault_0 19 rfl) (by decide)) ?_
      refine zr_cip (zr_runV (As := []) (rest := []) C vw_X8_102 (c_X4_faultAsTide l g σ _ h) (sh_52) rfl (by decide) (by decide) rfl rfl (Nat.le_of_ble_eq_true rfl) (zo_182 (p := 20) (k := 102) (a := 0) (b := 102) (zby_w zwX8_fault_0 20 rfl) (zby_w zwX8_fault_0 21 rfl) (zby_w zwX8_fault_0 22 rfl) (by decide))) (fun r7 h => ?_)
      refine zr_goto C 33 (zo_167 (p := 23) (k := 10) (a := 0) (b := 10) (zby_w zwX8_fault_0 23 rfl) (zby_w zwX8_fault_0 24 rfl) (zby_w zwX8_fault_0 25 rfl) (by decide)) (by decide) ?_
      exact hret _ _ _ h d_X8_fault_33
  · rw [if_pos hc3] at h
    refine zr_bipush C (-2 : Int32) (zo_16 (p := 9) (k := (-2)) (a := 254) (zby_w zwX8_fault_0 9 rfl) (zby_w zwX8_fault_0 10 rfl) (by decide)) (by decide) ?_
    exact hret _ _ _ h (zo_172 (p := 11) (zby_w zwX8_fault_0 11 rfl))
set_option maxRecDepth 20000 in
theorem c_X8_fault (l : Launch) (g : zG) (p1 : Int32) (σ : zST) (Post : Int32 → Prop) (h : wp_X8_fault p1 σ Post) : Met l yX8_fault (Cond.code yX8_fault cX8_fault 2 (some .int) :: zGW) (zRm 3 66) (va_Pc [.ref (g.2.1 0), .int p1] (zPP g σ)) (va_Qi (fun r u => Post r ∧ u = σ) (zBB g) (zA g)) 0 0 (zA g) :=
  zMet (by decide) (Nat.le_of_ble_eq_true rfl) (fun p e s m below meth c hr C => g_X8_fault C (fun v pc lv hp hd => zr_iret C hr ⟨hp, rfl⟩ hd) h)
def wp_X8_tide_L41 (Post : Int32 → zST → Prop) : Nat → Int32 → zST → Prop
  | 0, _, _ => False
  | N + 1, v2, σ => (if (σ.1 2 7) ≤ v2 then wp_X4_clear σ (fun r5 σ6 => Post r5 σ6) else vp_in v2 60 ∧ vp_in v2 24 ∧ wp_X8_tide_L41 Post N (v2 + 1) (wI σ 8 v2.toNatClampNeg ((σ.1 53 v2.toNatClampNeg) - (48 : Int32))))

set_option maxRecDepth 100000 in
set_option maxHeartbeats 4000000 in
theorem g_X8_tide_L41 {p : Program} {l : Launch} {e : Env} {R : Room} {s : State} {m : MethodId} {args : Array Value} {below : List Frame} {meth : Method} {c : Code} {Q : State → Prop} {g : zG} {n1 n2 : Nat} (C : zCX p R s m args meth c g n1 n2 cX8_tide 3 RX8 2 43)  {Post : Int32 → zST → Prop} (hret : ∀ (v : Int32) (σ : zST) (pc : Nat) (lv : List (Nat × Value)), Post v σ → decode cX8_tide pc = .ok (.ireturn, 1) → zGG p l e R s m args below meth c Q g n1 n2 3 pc lv [.int v] σ) : ∀ (N : Nat) (v2 : Int32) (σ : zST) , wp_X8_tide_L41 Post N v2 σ → zGG p l e R s m args below meth c Q g n1 n2 3 41 [(0, .ref (g.2.1 0)), (1, .ref (g.2.1 2)), (2, .int v2)] [] σ := by
  intro N
  induction N with
  | zero =>
    intro v2 σ h
    exact h.elim
  | succ N ih =>
    intro v2 σ h
    rw [wp_X8_tide_L41] at h
    refine zr_iload_n C (zo_28 (p := 41) (zby_w zwX8_tide_1 9 rfl)) rfl ?_
    refine zr_aload_n C (zo_43 (p := 42) (zby_w zwX8_tide_1 10 rfl)) rfl ?_
    refine zr_geti C fw_X8_114 (sh_2) rfl (zo_180 (p := 43) (k := 114) (a := 0) (b := 114) (zby_w zwX8_tide_1 11 rfl) (zby_w zwX8_tide_1 12 rfl) (zby_w zwX8_tide_1 13 rfl) (by decide)) ?_
    refine zr_icmp_ge C 73 (zo_162 (p := 46) (k := 27) (a := 0) (b := 27) (zby_w zwX8_tide_1 14 rfl) (zby_w zwX8_tide_1 15 rfl) (zby_w zwX8_tide_1 16 rfl) (by decide)) (by decide) (fun hc4 => ?_) (fun hc4 => ?_)
    · rw [if_pos hc4] at h
      refine zr_aload_n C (zo_42 (p := 73) (zby_w zwX8_tide_2 9 rfl)) rfl ?_
      refine zr_getr (u := 52) C fw_X8_29 (sh_0) rfl (zo_180 (p := 74) (k := 29) (a := 0) (b := 29) (zby_w zwX8_tide_2 10 rfl) (zby_w zwX8_tide_2 11 rfl) (zby_w zwX8_tide_2 12 rfl) (by decide)) ?_
      refine zr_ci (zr_runV (As := []) (rest := []) C vw_X8_98 (c_X4_clear l g σ _ h) (sh_52) rfl (by decide) (by decide) rfl rfl (Nat.le_of_ble_eq_true rfl) (zo_182 (p := 77) (k := 98) (a := 0) (b := 98) (zby_w zwX8_tide_2 13 rfl) (zby_w zwX8_tide_2 14 rfl) (zby_w zwX8_tide_2 15 rfl) (by decide))) (fun r5 σ6 h => ?_)
      exact hret _ _ _ _ h (zo_172 (p := 80) (zby_w zwX8_tide_2 16 rfl))
    · rw [if_neg hc4] at h
      refine zr_aload_n C (zo_43 (p := 49) (zby_w zwX8_tide_1 17 rfl)) rfl ?_
      refine zr_getr (u := 8) C fw_X8_117 (sh_2) rfl (zo_180 (p := 50) (k := 117) (a := 0) (b := 117) (zby_w zwX8_tide_1 18 rfl) (zby_w zwX8_tide_1 19 rfl) (zby_w zwX8_tide_1 20 rfl) (by decide)) ?_
      refine zr_iload_n C (zo_28 (p := 53) (zby_w zwX8_tide_1 21 rfl)) rfl ?_
      refine zr_aload_n C (zo_42 (p := 54) (zby_w zwX8_tide_1 22 rfl)) rfl ?_
      refine zr_getr (u := 52) C fw_X8_29 (sh_0) rfl (zo_180 (p := 55) (k := 29) (a := 0) (b := 29) (zby_w zwX8_tide_1 23 rfl) (zby_w zwX8_tide_1 24 rfl) (zby_w zwX8_tide_1 25 rfl) (by decide)) ?_
      refine zr_getr (u := 53) C fw_X8_95 (sh_52) rfl (zo_180 (p := 58) (k := 95) (a := 0) (b := 95) (zby_w zwX8_tide_1 26 rfl) (zby_w zwX8_tide_1 27 rfl) (zby_w zwX8_tide_1 28 rfl) (by decide)) ?_
      refine zr_iload_n C (zo_28 (p := 61) (zby_w zwX8_tide_1 29 rfl)) rfl ?_
      obtain ⟨ho7, h⟩ := h
      refine zr_iald C (sh_53) ho7 (zo_46 (p := 62) (zby_w zwX8_tide_1 30 rfl)) ?_
      refine zr_bipush C (48 : Int32) (zo_16 (p := 63) (k := 48) (a := 48) (zby_w zwX8_tide_1 31 rfl) (zby_w zwX8_tide_1 32 rfl) (by decide)) (by decide) ?_
      refine zr_isub C (zo_100 (p := 65) (zby_w zwX8_tide_2 1 rfl)) ?_
      obtain ⟨ho8, h⟩ := h
      refine zr_iast C (sh_8) ho8 (zo_79 (p := 66) (zby_w zwX8_tide_2 2 rfl)) ?_
      refine zr_iinc C (v2 + 1) [(2, .int (v2 + 1)), (0, .ref (g.2.1 0)), (1, .ref (g.2.1 2))] d_X8_tide_67 rfl rfl (by decide) rfl ?_
      refine zr_goto C 41 (zo_167 (p := 70) (k := (-29)) (a := 255) (b := 227) (zby_w zwX8_tide_2 6 rfl) (zby_w zwX8_tide_2 7 rfl) (zby_w zwX8_tide_2 8 rfl) (by decide)) (by decide) ?_
      exact zr_pick [1, 2, 0] rfl (ih (v2 + 1) (wI σ 8 v2.toNatClampNeg ((σ.1 53 v2.toNatClampNeg) - (48 : Int32))) h)

def wp_X8_tide (σ : zST) (Post : Int32 → zST → Prop) : Prop := wp_X4_faultAsTide σ (fun r1 => (if r1 = (-6 : Int32) then ∃ M9 : Nat, wp_X8_tide_L41 Post M9 (0 : Int32) (wI σ 2 7 (if (24 : Int32) < (σ.1 52 1) then (24 : Int32) else (σ.1 52 1))) else Post (-5 : Int32) σ))
set_option maxRecDepth 100000 in
set_option maxHeartbeats 4000000 in
theorem g_X8_tide {p : Program} {l : Launch} {e : Env} {R : Room} {s : State} {m : MethodId} {args : Array Value} {below : List Frame} {meth : Method} {c : Code} {Q : State → Prop} {g : zG} {n1 n2 : Nat} (C : zCX p R s m args meth c g n1 n2 cX8_tide 3 RX8 2 43) {σ : zST} {Post : Int32 → zST → Prop} (hret : ∀ (v : Int32) (σ : zST) (pc : Nat) (lv : List (Nat × Value)), Post v σ → decode cX8_tide pc = .ok (.ireturn, 1) → zGG p l e R s m args below meth c Q g n1 n2 3 pc lv [.int v] σ) (h : wp_X8_tide σ Post) : zGG p l e R s m args below meth c Q g n1 n2 3 0 [(0, .ref (g.2.1 0))] [] σ := by
  unfold wp_X8_tide at h
  refine zr_aload_n C (zo_42 (p := 0) (zby_w zwX8_tide_0 0 rfl)) rfl ?_
  refine zr_getr (u := 52) C fw_X8_29 (sh_0) rfl (zo_180 (p := 1) (k := 29) (a := 0) (b := 29) (zby_w zwX8_tide_0 1 rfl) (zby_w zwX8_tide_0 2 rfl) (zby_w zwX8_tide_0 3 rfl) (by decide)) ?_
  refine zr_cip (zr_runV (As := []) (rest := []) C vw_X8_102 (c_X4_faultAsTide l g σ _ h) (sh_52) rfl (by decide) (by decide) rfl rfl (Nat.le_of_ble_eq_true rfl) (zo_182 (p := 4) (k := 102) (a := 0) (b := 102) (zby_w zwX8_tide_0 4 rfl) (zby_w zwX8_tide_0 5 rfl) (zby_w zwX8_tide_0 6 rfl) (by decide))) (fun r1 h => ?_)
  refine zr_bipush C (-6 : Int32) (zo_16 (p := 7) (k := (-6)) (a := 250) (zby_w zwX8_tide_0 7 rfl) (zby_w zwX8_tide_0 8 rfl) (by decide)) (by decide) ?_
  refine zr_icmp_eq C 15 (zo_159 (p := 9) (k := 6) (a := 0) (b := 6) (zby_w zwX8_tide_0 9 rfl) (zby_w zwX8_tide_0 10 rfl) (zby_w zwX8_tide_0 11 rfl) (by decide)) (by decide) (fun hc3 => ?_) (fun hc3 => ?_)
  · rw [if_pos hc3] at h
    refine zr_aload_n C (zo_42 (p := 15) (zby_w zwX8_tide_0 15 rfl)) rfl ?_
    refine zr_getr (u := 1) C fw_X8_10 (sh_0) rfl (zo_180 (p := 16) (k := 10) (a := 0) (b := 10) (zby_w zwX8_tide_0 16 rfl) (zby_w zwX8_tide_0 17 rfl) (zby_w zwX8_tide_0 18 rfl) (by decide)) ?_
    refine zr_getr (u := 2) C fw_X8_51 (sh_1) rfl (zo_180 (p := 19) (k := 51) (a := 0) (b := 51) (zby_w zwX8_tide_0 19 rfl) (zby_w zwX8_tide_0 20 rfl) (zby_w zwX8_tide_0 21 rfl) (by decide)) ?_
    refine zr_astore_n C [(1, .ref (g.2.1 2)), (0, .ref (g.2.1 0))] (zo_76 (p := 22) (zby_w zwX8_tide_0 22 rfl)) (by decide) rfl ?_
    refine zr_aload_n C (zo_43 (p := 23) (zby_w zwX8_tide_0 23 rfl)) rfl ?_
    refine zr_aload_n C (zo_42 (p := 24) (zby_w zwX8_tide_0 24 rfl)) rfl ?_
    refine zr_getr (u := 52) C fw_X8_29 (sh_0) rfl (zo_180 (p := 25) (k := 29) (a := 0) (b := 29) (zby_w zwX8_tide_0 25 rfl) (zby_w zwX8_tide_0 26 rfl) (zby_w zwX8_tide_0 27 rfl) (by decide)) ?_
    refine zr_geti C fw_X8_92 (sh_52) rfl (zo_180 (p := 28) (k := 92) (a := 0) (b := 92) (zby_w zwX8_tide_0 28 rfl) (zby_w zwX8_tide_0 29 rfl) (zby_w zwX8_tide_0 30 rfl) (by decide)) ?_
    refine zr_bipush C (24 : Int32) (zo_16 (p := 31) (k := 24) (a := 24) (zby_w zwX8_tide_0 31 rfl) (zby_w zwX8_tide_0 32 rfl) (by decide)) (by decide) ?_
    refine zr_mmin C mw_X8_108 (by decide) (Nat.le_of_ble_eq_true rfl) (zo_184 (p := 33) (k := 108) (a := 0) (b := 108) (zby_w zwX8_tide_1 1 rfl) (zby_w zwX8_tide_1 2 rfl) (zby_w zwX8_tide_1 3 rfl) (by decide)) ?_
    refine zr_puti C fw_X8_114 pw_X6_7 (sh_2) rfl rfl rfl (zo_181 (p := 36) (k := 114) (a := 0) (b := 114) (zby_w zwX8_tide_1 4 rfl) (zby_w zwX8_tide_1 5 rfl) (zby_w zwX8_tide_1 6 rfl) (by decide)) ?_
    refine zr_iconst C (0 : Int32) (zo_3 (p := 39) (zby_w zwX8_tide_1 7 rfl)) (by decide) ?_
    refine zr_istore_n C [(2, .int (0 : Int32)), (1, .ref (g.2.1 2)), (0, .ref (g.2.1 0))] (zo_61 (p := 40) (zby_w zwX8_tide_1 8 rfl)) (by decide) rfl ?_
    obtain ⟨M9, h⟩ := h
    exact zr_pick [2, 1, 0] rfl (g_X8_tide_L41 C hret M9 (0 : Int32) (wI σ 2 7 (if (24 : Int32) < (σ.1 52 1) then (24 : Int32) else (σ.1 52 1))) h)
  · rw [if_neg hc3] at h
    refine zr_bipush C (-5 : Int32) (zo_16 (p := 12) (k := (-5)) (a := 251) (zby_w zwX8_tide_0 12 rfl) (zby_w zwX8_tide_0 13 rfl) (by decide)) (by decide) ?_
    exact hret _ _ _ _ h (zo_172 (p := 14) (zby_w zwX8_tide_0 14 rfl))
set_option maxRecDepth 20000 in
theorem c_X8_tide (l : Launch) (g : zG) (σ : zST) (Post : Int32 → zST → Prop) (h : wp_X8_tide σ Post) : Met l yX8_tide (Cond.code yX8_tide cX8_tide 3 (some .int) :: zGW) (zRm 2 43) (va_Pc [.ref (g.2.1 0)] (zPP g σ)) (va_Qi Post (zBB g) (zA g)) 0 0 (zA g) :=
  zMet (by decide) (Nat.le_of_ble_eq_true rfl) (fun p e s m below meth c hr C => g_X8_tide C (fun v σ pc lv hp hd => zr_iret C hr hp hd) h)
def wp_X8_judge (p1 : Int32) (σ : zST) (Post : Int32 → zST → Prop) : Prop := wp_X8_within p1 (0 : Int32) (1 : Int32) σ (fun r1 => (if r1 = (0) then Post (-2 : Int32) σ else wp_X4_faultAsSeason σ (fun r4 => (if r4 = (-6 : Int32) then wp_X7_tryOut 2 σ (fun σ8 => ∀ z10 : Int32, z10 = (if (σ8.1 54 2) = (-6 : Int32) then (σ8.1 54 2) else (if p1 = (1 : Int32) then (σ8.1 54 2) else (σ8.1 54 1))) → Post z10 σ8) else Post (-5 : Int32) σ))))
set_option maxRecDepth 100000 in
set_option maxHeartbeats 4000000 in
theorem g_X8_judge {p : Program} {l : Launch} {e : Env} {R : Room} {s : State} {m : MethodId} {args : Array Value} {below : List Frame} {meth : Method} {c : Code} {Q : State → Prop} {g : zG} {n1 n2 : Nat} (C : zCX p R s m args meth c g n1 n2 cX8_judge 2 RX8 5 115) {p1 : Int32} {σ : zST} {Post : Int32 → zST → Prop} (hret : ∀ (v : Int32) (σ : zST) (pc : Nat) (lv : List (Nat × Value)), Post v σ → decode cX8_judge pc = .ok (.ireturn, 1) → zGG p l e R s m args below meth c Q g n1 n2 2 pc lv [.int v] σ) (h : wp_X8_judge p1 σ Post) : zGG p l e R s m args below meth c Q g n1 n2 2 0 [(0, .ref (g.2.1 0)), (1, .int p1)] [] σ := by
  unfold wp_X8_judge at h
  refine zr_iload_n C (zo_27 (p := 0) (zby_w zwX8_judge_0 0 rfl)) rfl ?_
  refine zr_iconst C (0 : Int32) (zo_3 (p := 1) (zby_w zwX8_judge_0 1 rfl)) (by decide) ?_
  refine zr_iconst C (1 : Int32) (zo_4 (p := 2) (zby_w zwX8_judge_0 2 rfl)) (by decide) ?_
  refine zr_cip (zr_runS (As := [.int p1, .int (0 : Int32), .int (1 : Int32)]) (rest := []) C sw_X8_47 (c_X8_within l g p1 (0 : Int32) (1 : Int32) σ _ h) (by decide) (by decide) rfl rfl (Nat.le_of_ble_eq_true rfl) (zo_184 (p := 3) (k := 47) (a := 0) (b := 47) (zby_w zwX8_judge_0 3 rfl) (zby_w zwX8_judge_0 4 rfl) (zby_w zwX8_judge_0 5 rfl) (by decide))) (fun r1 h => ?_)
  refine zr_if_ne C 12 (zo_154 (p := 6) (k := 6) (a := 0) (b := 6) (zby_w zwX8_judge_0 6 rfl) (zby_w zwX8_judge_0 7 rfl) (zby_w zwX8_judge_0 8 rfl) (by decide)) (by decide) (fun hc3 => ?_) (fun hc3 => ?_)
  · rw [if_neg hc3] at h
    refine zr_aload_n C (zo_42 (p := 12) (zby_w zwX8_judge_0 12 rfl)) rfl ?_
    refine zr_getr (u := 52) C fw_X8_29 (sh_0) rfl (zo_180 (p := 13) (k := 29) (a := 0) (b := 29) (zby_w zwX8_judge_0 13 rfl) (zby_w zwX8_judge_0 14 rfl) (zby_w zwX8_judge_0 15 rfl) (by decide)) ?_
    refine zr_cip (zr_runV (As := []) (rest := []) C vw_X8_105 (c_X4_faultAsSeason l g σ _ h) (sh_52) rfl (by decide) (by decide) rfl rfl (Nat.le_of_ble_eq_true rfl) (zo_182 (p := 16) (k := 105) (a := 0) (b := 105) (zby_w zwX8_judge_0 16 rfl) (zby_w zwX8_judge_0 17 rfl) (zby_w zwX8_judge_0 18 rfl) (by decide))) (fun r4 h => ?_)
    refine zr_bipush C (-6 : Int32) (zo_16 (p := 19) (k := (-6)) (a := 250) (zby_w zwX8_judge_0 19 rfl) (zby_w zwX8_judge_0 20 rfl) (by decide)) (by decide) ?_
    refine zr_icmp_eq C 27 (zo_159 (p := 21) (k := 6) (a := 0) (b := 6) (zby_w zwX8_judge_0 21 rfl) (zby_w zwX8_judge_0 22 rfl) (zby_w zwX8_judge_0 23 rfl) (by decide)) (by decide) (fun hc6 => ?_) (fun hc6 => ?_)
    · rw [if_pos hc6] at h
      refine zr_aload_n C (zo_42 (p := 27) (zby_w zwX8_judge_0 27 rfl)) rfl ?_
      refine zr_getr (u := 54) C fw_X8_36 (sh_0) rfl (zo_180 (p := 28) (k := 36) (a := 0) (b := 36) (zby_w zwX8_judge_0 28 rfl) (zby_w zwX8_judge_0 29 rfl) (zby_w zwX8_judge_0 30 rfl) (by decide)) ?_
      refine zr_aload_n C (zo_42 (p := 31) (zby_w zwX8_judge_0 31 rfl)) rfl ?_
      refine zr_getr (u := 52) C fw_X8_29 (sh_0) rfl (zo_180 (p := 32) (k := 29) (a := 0) (b := 29) (zby_w zwX8_judge_1 0 rfl) (zby_w zwX8_judge_1 1 rfl) (zby_w zwX8_judge_1 2 rfl) (by decide)) ?_
      refine zr_aload_n C (zo_42 (p := 35) (zby_w zwX8_judge_1 3 rfl)) rfl ?_
      refine zr_getr (u := 1) C fw_X8_10 (sh_0) rfl (zo_180 (p := 36) (k := 10) (a := 0) (b := 10) (zby_w zwX8_judge_1 4 rfl) (zby_w zwX8_judge_1 5 rfl) (zby_w zwX8_judge_1 6 rfl) (by decide)) ?_
      refine zr_getr (u := 2) C fw_X8_51 (sh_1) rfl (zo_180 (p := 39) (k := 51) (a := 0) (b := 51) (zby_w zwX8_judge_1 7 rfl) (zby_w zwX8_judge_1 8 rfl) (zby_w zwX8_judge_1 9 rfl) (by decide)) ?_
      refine zr_cv (zr_runV (As := [.ref (g.2.1 52), .ref (g.2.1 2)]) (rest := []) C vw_X8_120 (c_X7_tryOut l g 2 isX6_2 σ _ h) (sh_54) rfl (by decide) (by decide) rfl rfl (Nat.le_of_ble_eq_true rfl) (zo_182 (p := 42) (k := 120) (a := 0) (b := 120) (zby_w zwX8_judge_1 10 rfl) (zby_w zwX8_judge_1 11 rfl) (zby_w zwX8_judge_1 12 rfl) (by decide))) (fun σ8 h => ?_)
      refine zr_aload_n C (zo_42 (p := 45) (zby_w zwX8_judge_1 13 rfl)) rfl ?_
      refine zr_getr (u := 54) C fw_X8_36 (sh_0) rfl (zo_180 (p := 46) (k := 36) (a := 0) (b := 36) (zby_w zwX8_judge_1 14 rfl) (zby_w zwX8_judge_1 15 rfl) (zby_w zwX8_judge_1 16 rfl) (by decide)) ?_
      refine zr_geti C fw_X8_124 (sh_54) rfl (zo_180 (p := 49) (k := 124) (a := 0) (b := 124) (zby_w zwX8_judge_1 17 rfl) (zby_w zwX8_judge_1 18 rfl) (zby_w zwX8_judge_1 19 rfl) (by decide)) ?_
      refine zr_bipush C (-6 : Int32) (zo_16 (p := 52) (k := (-6)) (a := 250) (zby_w zwX8_judge_1 20 rfl) (zby_w zwX8_judge_1 21 rfl) (by decide)) (by decide) ?_
      have hJ11 : ∀ z10 : Int32, z10 = (if (σ8.1 54 2) = (-6 : Int32) then (σ8.1 54 2) else (if p1 = (1 : Int32) then (σ8.1 54 2) else (σ8.1 54 1))) → zGG p l e R s m args below meth c Q g n1 n2 2 79 [(0, .ref (g.2.1 0)), (1, .int p1)] [.int z10] σ8 := by
        intro z10 hz10
        replace h := h z10 hz10
        exact hret _ _ _ _ h (zo_172 (p := 79) (zby_w zwX8_judge_2 15 rfl))
      refine zr_icmp_eq C 62 (zo_159 (p := 54) (k := 8) (a := 0) (b := 8) (zby_w zwX8_judge_1 22 rfl) (zby_w zwX8_judge_1 23 rfl) (zby_w zwX8_judge_1 24 rfl) (by decide)) (by decide) (fun hc9 => ?_) (fun hc9 => ?_)
      · skip
        refine zr_aload_n C d_X8_judge_62 rfl ?_
        refine zr_getr (u := 54) C fw_X8_36 (sh_0) rfl d_X8_judge_63 ?_
        refine zr_geti C fw_X8_124 (sh_54) rfl d_X8_judge_66 ?_
        refine zr_goto C 79 d_X8_judge_69 (by decide) ?_
        exact hJ11 _ (by rw [if_pos hc9])
      · skip
        refine zr_iload_n C (zo_27 (p := 57) (zby_w zwX8_judge_1 25 rfl)) rfl ?_
        refine zr_iconst C (1 : Int32) (zo_4 (p := 58) (zby_w zwX8_judge_1 26 rfl)) (by decide) ?_
        refine zr_icmp_ne C 72 (zo_160 (p := 59) (k := 13) (a := 0) (b := 13) (zby_w zwX8_judge_1 27 rfl) (zby_w zwX8_judge_1 28 rfl) (zby_w zwX8_judge_1 29 rfl) (by decide)) (by decide) (fun hc13 => ?_) (fun hc13 => ?_)
        · skip
          refine zr_aload_n C (zo_42 (p := 72) (zby_w zwX8_judge_2 8 rfl)) rfl ?_
          refine zr_getr (u := 54) C fw_X8_36 (sh_0) rfl (zo_180 (p := 73) (k := 36) (a := 0) (b := 36) (zby_w zwX8_judge_2 9 rfl) (zby_w zwX8_judge_2 10 rfl) (zby_w zwX8_judge_2 11 rfl) (by decide)) ?_
          refine zr_geti C fw_X8_127 (sh_54) rfl (zo_180 (p := 76) (k := 127) (a := 0) (b := 127) (zby_w zwX8_judge_2 12 rfl) (zby_w zwX8_judge_2 13 rfl) (zby_w zwX8_judge_2 14 rfl) (by decide)) ?_
          exact hJ11 _ (by rw [if_neg hc9, if_neg hc13])
        · skip
          refine zr_aload_n C d_X8_judge_62 rfl ?_
          refine zr_getr (u := 54) C fw_X8_36 (sh_0) rfl d_X8_judge_63 ?_
          refine zr_geti C fw_X8_124 (sh_54) rfl d_X8_judge_66 ?_
          refine zr_goto C 79 d_X8_judge_69 (by decide) ?_
          exact hJ11 _ (by rw [if_neg hc9, if_pos hc13])
    · rw [if_neg hc6] at h
      refine zr_bipush C (-5 : Int32) (zo_16 (p := 24) (k := (-5)) (a := 251) (zby_w zwX8_judge_0 24 rfl) (zby_w zwX8_judge_0 25 rfl) (by decide)) (by decide) ?_
      exact hret _ _ _ _ h (zo_172 (p := 26) (zby_w zwX8_judge_0 26 rfl))
  · rw [if_pos hc3] at h
    refine zr_bipush C (-2 : Int32) (zo_16 (p := 9) (k := (-2)) (a := 254) (zby_w zwX8_judge_0 9 rfl) (zby_w zwX8_judge_0 10 rfl) (by decide)) (by decide) ?_
    exact hret _ _ _ _ h (zo_172 (p := 11) (zby_w zwX8_judge_0 11 rfl))
set_option maxRecDepth 20000 in
theorem c_X8_judge (l : Launch) (g : zG) (p1 : Int32) (σ : zST) (Post : Int32 → zST → Prop) (h : wp_X8_judge p1 σ Post) : Met l yX8_judge (Cond.code yX8_judge cX8_judge 2 (some .int) :: zGW) (zRm 5 115) (va_Pc [.ref (g.2.1 0), .int p1] (zPP g σ)) (va_Qi Post (zBB g) (zA g)) 0 0 (zA g) :=
  zMet (by decide) (Nat.le_of_ble_eq_true rfl) (fun p e s m below meth c hr C => g_X8_judge C (fun v σ pc lv hp hd => zr_iret C hr hp hd) h)
