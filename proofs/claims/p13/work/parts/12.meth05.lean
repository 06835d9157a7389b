def wp_X9_convoy_J117 (v2 : Int32) (v3 : Int32) (v4 : Int32) (σ : zST) (Post : Int32 → Prop) : Prop := ∀ z9 : Int32, z9 = (if v2 = (0) then v3 else v4) → Post z9

set_option maxRecDepth 100000 in
set_option maxHeartbeats 4000000 in
theorem g_X9_convoy_J117 {p : Program} {l : Launch} {e : Env} {R : Room} {s : State} {m : MethodId} {args : Array Value} {below : List Frame} {meth : Method} {c : Code} {Q : State → Prop} {g : zG} {n1 n2 : Nat} (C : zCX p R s m args meth c g n1 n2 cX9_convoy 8 RX9 4 87) {v2 : Int32} {v3 : Int32} {v4 : Int32} {σ : zST}  {Post : Int32 → Prop} (hret : ∀ (v : Int32) (pc : Nat) (lv : List (Nat × Value)), Post v → decode cX9_convoy pc = .ok (.ireturn, 1) → zGG p l e R s m args below meth c Q g n1 n2 8 pc lv [.int v] σ) (h : wp_X9_convoy_J117 v2 v3 v4 σ Post) : zGG p l e R s m args below meth c Q g n1 n2 8 117 [(2, .int v2), (3, .int v3), (4, .int v4)] [] σ := by
  unfold wp_X9_convoy_J117 at h
  refine zr_iload_n C d_X9_convoy_117 rfl ?_
  have hJ10 : ∀ z9 : Int32, z9 = (if v2 = (0) then v3 else v4) → zGG p l e R s m args below meth c Q g n1 n2 8 127 [(2, .int v2), (3, .int v3), (4, .int v4)] [.int z9] σ := by
    intro z9 hz9
    replace h := h z9 hz9
    exact hret _ _ _ h d_X9_convoy_127
  refine zr_if_ne C 125 d_X9_convoy_118 (by decide) (fun hc8 => ?_) (fun hc8 => ?_)
  · skip
    refine zr_iload C d_X9_convoy_125 rfl ?_
    exact hJ10 _ (by rw [if_neg hc8])
  · skip
    refine zr_iload_n C d_X9_convoy_121 rfl ?_
    refine zr_goto C 127 d_X9_convoy_122 (by decide) ?_
    exact hJ10 _ (by rw [if_pos hc8])

def wp_X9_convoy_L41 (v1 : Int32) (v2 : Int32) (v3 : Int32) (v4 : Int32) (v5 : Int32) (σ : zST) (K81 : Int32 → Prop) : Nat → Int32 → Int32 → Prop
  | 0, _, _ => False
  | N + 1, v6, v7 => (if (6 : Int32) ≤ v7 then K81 v6 else wp_X9_isInHarbour v7 σ (fun r13 => (if r13 = (0) then ∀ x16 : Int32, x16 = (v6 + (0 : Int32)) → wp_X9_convoy_L41 v1 v2 v3 v4 v5 σ K81 N x16 (v7 + 1) else wp_X9_meanOf v7 v5 v1 σ (fun r17 => ∀ x19 : Int32, x19 = (v6 + r17) → wp_X9_convoy_L41 v1 v2 v3 v4 v5 σ K81 N x19 (v7 + 1)))))

set_option maxRecDepth 100000 in
set_option maxHeartbeats 4000000 in
theorem g_X9_convoy_L41 {p : Program} {l : Launch} {e : Env} {R : Room} {s : State} {m : MethodId} {args : Array Value} {below : List Frame} {meth : Method} {c : Code} {Q : State → Prop} {g : zG} {n1 n2 : Nat} (C : zCX p R s m args meth c g n1 n2 cX9_convoy 8 RX9 4 87) {v1 : Int32} {v2 : Int32} {v3 : Int32} {v4 : Int32} {v5 : Int32} {σ : zST} {K81 : Int32 → Prop} (hK81 : ∀ (w6 : Int32), K81 w6 → zGG p l e R s m args below meth c Q g n1 n2 8 81 [(0, .ref (g.2.1 69)), (1, .int v1), (2, .int v2), (3, .int v3), (4, .int v4), (5, .int v5), (6, .int w6)] [] σ) : ∀ (N : Nat) (v6 : Int32) (v7 : Int32) , wp_X9_convoy_L41 v1 v2 v3 v4 v5 σ K81 N v6 v7 → zGG p l e R s m args below meth c Q g n1 n2 8 41 [(0, .ref (g.2.1 69)), (1, .int v1), (2, .int v2), (3, .int v3), (4, .int v4), (5, .int v5), (6, .int v6), (7, .int v7)] [] σ := by
  intro N
  induction N with
  | zero =>
    intro v6 v7 h
    exact h.elim
  | succ N ih =>
    intro v6 v7 h
    rw [wp_X9_convoy_L41] at h
    refine zr_iload C d_X9_convoy_41 rfl ?_
    refine zr_bipush C (6 : Int32) d_X9_convoy_43 (by decide) ?_
    refine zr_icmp_ge C 81 d_X9_convoy_45 (by decide) (fun hc12 => ?_) (fun hc12 => ?_)
    · rw [if_pos hc12] at h
      exact zr_pick [0, 1, 2, 3, 4, 5, 6] rfl (hK81 v6 h)
    · rw [if_neg hc12] at h
      refine zr_iload C d_X9_convoy_48 rfl ?_
      refine zr_aload_n C d_X9_convoy_50 rfl ?_
      refine zr_iload C d_X9_convoy_51 rfl ?_
      refine zr_cip (zr_runV (As := [.int v7]) (rest := [.int v6]) C vw_X9_234 (c_X9_isInHarbour l g v7 σ _ h) (sh_69) rfl (by decide) (by decide) rfl rfl (Nat.le_of_ble_eq_true rfl) d_X9_convoy_53) (fun r13 h => ?_)
      refine zr_if_eq C 71 d_X9_convoy_56 (by decide) (fun hc15 => ?_) (fun hc15 => ?_)
      · rw [if_pos hc15] at h
        refine zr_iconst C (0 : Int32) d_X9_convoy_71 (by decide) ?_
        refine zr_iadd C d_X9_convoy_72 ?_
        refine zr_topi (fun x16 hx16 => ?_)
        replace h := h x16 hx16
        refine zr_istore C [(6, .int x16), (0, .ref (g.2.1 69)), (1, .int v1), (2, .int v2), (3, .int v3), (4, .int v4), (5, .int v5), (7, .int v7)] d_X9_convoy_73 (by decide) rfl ?_
        refine zr_iinc C (v7 + 1) [(7, .int (v7 + 1)), (6, .int x16), (0, .ref (g.2.1 69)), (1, .int v1), (2, .int v2), (3, .int v3), (4, .int v4), (5, .int v5)] d_X9_convoy_75 rfl rfl (by decide) rfl ?_
        refine zr_goto C 41 d_X9_convoy_78 (by decide) ?_
        exact zr_pick [2, 3, 4, 5, 6, 7, 1, 0] rfl (ih x16 (v7 + 1) h)
      · rw [if_neg hc15] at h
        refine zr_aload_n C d_X9_convoy_59 rfl ?_
        refine zr_iload C d_X9_convoy_60 rfl ?_
        refine zr_iload C d_X9_convoy_62 rfl ?_
        refine zr_iload_n C d_X9_convoy_64 rfl ?_
        refine zr_cip (zr_runV (As := [.int v7, .int v5, .int v1]) (rest := [.int v6]) C vw_X9_212 (c_X9_meanOf l g v7 v5 v1 σ _ h) (sh_69) rfl (by decide) (by decide) rfl rfl (Nat.le_of_ble_eq_true rfl) d_X9_convoy_65) (fun r17 h => ?_)
        refine zr_goto C 72 d_X9_convoy_68 (by decide) ?_
        refine zr_iadd C d_X9_convoy_72 ?_
        refine zr_topi (fun x19 hx19 => ?_)
        replace h := h x19 hx19
        refine zr_istore C [(6, .int x19), (0, .ref (g.2.1 69)), (1, .int v1), (2, .int v2), (3, .int v3), (4, .int v4), (5, .int v5), (7, .int v7)] d_X9_convoy_73 (by decide) rfl ?_
        refine zr_iinc C (v7 + 1) [(7, .int (v7 + 1)), (6, .int x19), (0, .ref (g.2.1 69)), (1, .int v1), (2, .int v2), (3, .int v3), (4, .int v4), (5, .int v5)] d_X9_convoy_75 rfl rfl (by decide) rfl ?_
        refine zr_goto C 41 d_X9_convoy_78 (by decide) ?_
        exact zr_pick [2, 3, 4, 5, 6, 7, 1, 0] rfl (ih x19 (v7 + 1) h)

def wp_X9_convoy_L29 (v1 : Int32) (v2 : Int32) (σ : zST) (Post : Int32 → Prop) : Nat → Int32 → Int32 → Int32 → Prop
  | 0, _, _, _ => False
  | N + 1, v3, v4, v5 => (if (3 : Int32) ≤ v5 then wp_X9_convoy_J117 v2 v3 v4 σ Post else ∃ M28 : Nat, wp_X9_convoy_L41 v1 v2 v3 v4 v5 σ (fun w6 => ∀ z21 : Int32, z21 = (if v4 ≤ w6 then v3 else v5) → ∀ z25 : Int32, z25 = (if v4 ≤ w6 then v4 else w6) → wp_X9_convoy_L29 v1 v2 σ Post N z21 z25 (v5 + 1)) M28 (0 : Int32) (0 : Int32))

set_option maxRecDepth 100000 in
set_option maxHeartbeats 4000000 in
theorem g_X9_convoy_L29 {p : Program} {l : Launch} {e : Env} {R : Room} {s : State} {m : MethodId} {args : Array Value} {below : List Frame} {meth : Method} {c : Code} {Q : State → Prop} {g : zG} {n1 n2 : Nat} (C : zCX p R s m args meth c g n1 n2 cX9_convoy 8 RX9 4 87) {v1 : Int32} {v2 : Int32} {σ : zST}  {Post : Int32 → Prop} (hret : ∀ (v : Int32) (pc : Nat) (lv : List (Nat × Value)), Post v → decode cX9_convoy pc = .ok (.ireturn, 1) → zGG p l e R s m args below meth c Q g n1 n2 8 pc lv [.int v] σ) : ∀ (N : Nat) (v3 : Int32) (v4 : Int32) (v5 : Int32) , wp_X9_convoy_L29 v1 v2 σ Post N v3 v4 v5 → zGG p l e R s m args below meth c Q g n1 n2 8 29 [(0, .ref (g.2.1 69)), (1, .int v1), (2, .int v2), (3, .int v3), (4, .int v4), (5, .int v5)] [] σ := by
  intro N
  induction N with
  | zero =>
    intro v3 v4 v5 h
    exact h.elim
  | succ N ih =>
    intro v3 v4 v5 h
    rw [wp_X9_convoy_L29] at h
    refine zr_iload C d_X9_convoy_29 rfl ?_
    refine zr_iconst C (3 : Int32) d_X9_convoy_31 (by decide) ?_
    refine zr_icmp_ge C 117 d_X9_convoy_32 (by decide) (fun hc7 => ?_) (fun hc7 => ?_)
    · rw [if_pos hc7] at h
      exact zr_pick [2, 3, 4] rfl (g_X9_convoy_J117 C hret h)
    · rw [if_neg hc7] at h
      refine zr_iconst C (0 : Int32) d_X9_convoy_35 (by decide) ?_
      refine zr_istore C [(6, .int (0 : Int32)), (0, .ref (g.2.1 69)), (1, .int v1), (2, .int v2), (3, .int v3), (4, .int v4), (5, .int v5)] d_X9_convoy_36 (by decide) rfl ?_
      refine zr_iconst C (0 : Int32) d_X9_convoy_38 (by decide) ?_
      refine zr_istore C [(7, .int (0 : Int32)), (6, .int (0 : Int32)), (0, .ref (g.2.1 69)), (1, .int v1), (2, .int v2), (3, .int v3), (4, .int v4), (5, .int v5)] d_X9_convoy_39 (by decide) rfl ?_
      obtain ⟨M28, h⟩ := h
      exact zr_pick [2, 3, 4, 5, 6, 7, 1, 0] rfl (g_X9_convoy_L41 C (fun w6 h => by
          refine zr_iload C d_X9_convoy_81 rfl ?_
          refine zr_iload C d_X9_convoy_83 rfl ?_
          have hJ22 : ∀ z21 : Int32, z21 = (if v4 ≤ w6 then v3 else v5) → zGG p l e R s m args below meth c Q g n1 n2 8 94 [(0, .ref (g.2.1 69)), (1, .int v1), (2, .int v2), (3, .int v3), (4, .int v4), (5, .int v5), (6, .int w6)] [.int z21] σ := by
            intro z21 hz21
            replace h := h z21 hz21
            refine zr_istore_n C [(3, .int z21), (0, .ref (g.2.1 69)), (1, .int v1), (2, .int v2), (4, .int v4), (5, .int v5), (6, .int w6)] d_X9_convoy_94 (by decide) rfl ?_
            refine zr_iload C d_X9_convoy_95 rfl ?_
            refine zr_iload C d_X9_convoy_97 rfl ?_
            have hJ26 : ∀ z25 : Int32, z25 = (if v4 ≤ w6 then v4 else w6) → zGG p l e R s m args below meth c Q g n1 n2 8 109 [(3, .int z21), (0, .ref (g.2.1 69)), (1, .int v1), (2, .int v2), (4, .int v4), (5, .int v5), (6, .int w6)] [.int z25] σ := by
              intro z25 hz25
              replace h := h z25 hz25
              refine zr_istore C [(4, .int z25), (3, .int z21), (0, .ref (g.2.1 69)), (1, .int v1), (2, .int v2), (5, .int v5), (6, .int w6)] d_X9_convoy_109 (by decide) rfl ?_
              refine zr_iinc C (v5 + 1) [(5, .int (v5 + 1)), (4, .int z25), (3, .int z21), (0, .ref (g.2.1 69)), (1, .int v1), (2, .int v2), (6, .int w6)] d_X9_convoy_111 rfl rfl (by decide) rfl ?_
              refine zr_goto C 29 d_X9_convoy_114 (by decide) ?_
              exact zr_pick [3, 4, 5, 2, 1, 0] rfl (ih z21 z25 (v5 + 1) h)
            refine zr_icmp_ge C 107 d_X9_convoy_99 (by decide) (fun hc24 => ?_) (fun hc24 => ?_)
            · skip
              refine zr_iload C d_X9_convoy_107 rfl ?_
              exact hJ26 _ (by rw [if_pos hc24])
            · skip
              refine zr_iload C d_X9_convoy_102 rfl ?_
              refine zr_goto C 109 d_X9_convoy_104 (by decide) ?_
              exact hJ26 _ (by rw [if_neg hc24])
          refine zr_icmp_ge C 93 d_X9_convoy_85 (by decide) (fun hc20 => ?_) (fun hc20 => ?_)
          · skip
            refine zr_iload_n C d_X9_convoy_93 rfl ?_
            exact hJ22 _ (by rw [if_pos hc20])
          · skip
            refine zr_iload C d_X9_convoy_88 rfl ?_
            refine zr_goto C 94 d_X9_convoy_90 (by decide) ?_
            exact hJ22 _ (by rw [if_neg hc20])) M28 (0 : Int32) (0 : Int32) h)

def wp_X9_convoy (p1 : Int32) (p2 : Int32) (σ : zST) (Post : Int32 → Prop) : Prop := wp_X9_isHour p1 σ (fun r1 => (if r1 = (0) then Post (-2 : Int32) else wp_X9_in (p2.toInt64) (0 : Int64) (1 : Int64) σ (fun r4 => (if r4 = (0) then Post (-2 : Int32) else ∃ M29 : Nat, wp_X9_convoy_L29 p1 p2 σ Post M29 (0 : Int32) (1000000000 : Int32) (0 : Int32)))))
set_option maxRecDepth 100000 in
set_option maxHeartbeats 4000000 in
theorem g_X9_convoy {p : Program} {l : Launch} {e : Env} {R : Room} {s : State} {m : MethodId} {args : Array Value} {below : List Frame} {meth : Method} {c : Code} {Q : State → Prop} {g : zG} {n1 n2 : Nat} (C : zCX p R s m args meth c g n1 n2 cX9_convoy 8 RX9 4 87) {p1 : Int32} {p2 : Int32} {σ : zST} {Post : Int32 → Prop} (hret : ∀ (v : Int32) (pc : Nat) (lv : List (Nat × Value)), Post v → decode cX9_convoy pc = .ok (.ireturn, 1) → zGG p l e R s m args below meth c Q g n1 n2 8 pc lv [.int v] σ) (h : wp_X9_convoy p1 p2 σ Post) : zGG p l e R s m args below meth c Q g n1 n2 8 0 [(0, .ref (g.2.1 69)), (1, .int p1), (2, .int p2)] [] σ := by
  unfold wp_X9_convoy at h
  refine zr_iload_n C d_X9_convoy_0 rfl ?_
  refine zr_cip (zr_runS (As := [.int p1]) (rest := []) C sw_X9_219 (c_X9_isHour l g p1 σ _ h) (by decide) (by decide) rfl rfl (Nat.le_of_ble_eq_true rfl) d_X9_convoy_1) (fun r1 h => ?_)
  refine zr_if_eq C 17 d_X9_convoy_4 (by decide) (fun hc3 => ?_) (fun hc3 => ?_)
  · rw [if_pos hc3] at h
    refine zr_bipush C (-2 : Int32) d_X9_convoy_17 (by decide) ?_
    exact hret _ _ _ h d_X9_convoy_19
  · rw [if_neg hc3] at h
    refine zr_iload_n C d_X9_convoy_7 rfl ?_
    refine zr_i2l C d_X9_convoy_8 ?_
    refine zr_lconst C (0 : Int64) d_X9_convoy_9 (by decide) ?_
    refine zr_lconst C (1 : Int64) d_X9_convoy_10 (by decide) ?_
    refine zr_cip (zr_runS (As := [.long (p2.toInt64), .long (0 : Int64), .long (1 : Int64)]) (rest := []) C sw_X9_89 (c_X9_in l g (p2.toInt64) (0 : Int64) (1 : Int64) σ _ h) (by decide) (by decide) rfl rfl (Nat.le_of_ble_eq_true rfl) d_X9_convoy_11) (fun r4 h => ?_)
    refine zr_if_ne C 20 d_X9_convoy_14 (by decide) (fun hc6 => ?_) (fun hc6 => ?_)
    · rw [if_neg hc6] at h
      refine zr_iconst C (0 : Int32) d_X9_convoy_20 (by decide) ?_
      refine zr_istore_n C [(3, .int (0 : Int32)), (0, .ref (g.2.1 69)), (1, .int p1), (2, .int p2)] d_X9_convoy_21 (by decide) rfl ?_
      refine zr_ldc C (v := (1000000000 : Int32)) cw_X9_230 d_X9_convoy_22 ?_
      refine zr_istore C [(4, .int (1000000000 : Int32)), (3, .int (0 : Int32)), (0, .ref (g.2.1 69)), (1, .int p1), (2, .int p2)] d_X9_convoy_24 (by decide) rfl ?_
      refine zr_iconst C (0 : Int32) d_X9_convoy_26 (by decide) ?_
      refine zr_istore C [(5, .int (0 : Int32)), (4, .int (1000000000 : Int32)), (3, .int (0 : Int32)), (0, .ref (g.2.1 69)), (1, .int p1), (2, .int p2)] d_X9_convoy_27 (by decide) rfl ?_
      obtain ⟨M29, h⟩ := h
      exact zr_pick [3, 4, 5, 2, 1, 0] rfl (g_X9_convoy_L29 C hret M29 (0 : Int32) (1000000000 : Int32) (0 : Int32) h)
    · rw [if_pos hc6] at h
      refine zr_bipush C (-2 : Int32) d_X9_convoy_17 (by decide) ?_
      exact hret _ _ _ h d_X9_convoy_19
set_option maxRecDepth 20000 in
theorem c_X9_convoy (l : Launch) (g : zG) (p1 : Int32) (p2 : Int32) (σ : zST) (Post : Int32 → Prop) (h : wp_X9_convoy p1 p2 σ Post) : Met l yX9_convoy (Cond.code yX9_convoy cX9_convoy 8 (some .int) :: zGW) (zRm 4 87) (va_Pc [.ref (g.2.1 69), .int p1, .int p2] (zPP g σ)) (va_Qi (fun r u => Post r ∧ u = σ) (zBB g) (zA g)) 0 0 (zA g) :=
  zMet (by decide) (Nat.le_of_ble_eq_true rfl) (fun p e s m below meth c hr C => g_X9_convoy C (fun v pc lv hp hd => zr_iret C hr ⟨hp, rfl⟩ hd) h)
def wp_X9_gets (p1 : Int32) (p2 : Int32) (p3 : Int32) (p4 : Int32) (σ : zST) (Post : Int32 → Prop) : Prop := vp_in p1 6 ∧ wp_X9_lostByTeeth p1 σ (fun r2 => ∀ x4 : Int32, x4 = ((σ.1 70 p1.toNatClampNeg) - r2) → (if p2 = (0) then ∀ z22 : Int32, z22 = (if x4 = (0) then (0 : Int32) else ((10 : Int32) * ((σ.1 69 10) + (p4 * x4)))) → Post z22 else vp_in p1 6 ∧ ∀ x7 : Int32, x7 = ((σ.1 69 10) + (p4 * (σ.1 70 p1.toNatClampNeg))) → (if p2 = (1 : Int32) then wp_X9_tenths p3 σ (fun r14 => vp_in p1 6 ∧ ∀ z18 : Int32, z18 = (if (σ.1 70 p1.toNatClampNeg) = (0) then (0 : Int32) else x7) → Post (((10 : Int32) - r14) * z18)) else vp_in p1 6 ∧ ∀ z11 : Int32, z11 = (if (σ.1 70 p1.toNatClampNeg) = (0) then (0 : Int32) else x7) → Post ((10 : Int32) * (z11 - (σ.1 69 8))))))
set_option maxRecDepth 100000 in
set_option maxHeartbeats 4000000 in
theorem g_X9_gets {p : Program} {l : Launch} {e : Env} {R : Room} {s : State} {m : MethodId} {args : Array Value} {below : List Frame} {meth : Method} {c : Code} {Q : State → Prop} {g : zG} {n1 n2 : Nat} (C : zCX p R s m args meth c g n1 n2 cX9_gets 7 RX9 1 22) {p1 : Int32} {p2 : Int32} {p3 : Int32} {p4 : Int32} {σ : zST} {Post : Int32 → Prop} (hret : ∀ (v : Int32) (pc : Nat) (lv : List (Nat × Value)), Post v → decode cX9_gets pc = .ok (.ireturn, 1) → zGG p l e R s m args below meth c Q g n1 n2 7 pc lv [.int v] σ) (h : wp_X9_gets p1 p2 p3 p4 σ Post) : zGG p l e R s m args below meth c Q g n1 n2 7 0 [(0, .ref (g.2.1 69)), (1, .int p1), (2, .int p2), (3, .int p3), (4, .int p4)] [] σ := by
  unfold wp_X9_gets at h
  refine zr_aload_n C d_X9_gets_0 rfl ?_
  refine zr_getr (u := 70) C fw_X9_7 (sh_69) rfl d_X9_gets_1 ?_
  refine zr_iload_n C d_X9_gets_4 rfl ?_
  obtain ⟨ho1, h⟩ := h
  refine zr_iald C (sh_70) ho1 d_X9_gets_5 ?_
  refine zr_aload_n C d_X9_gets_6 rfl ?_
  refine zr_iload_n C d_X9_gets_7 rfl ?_
  refine zr_cip (zr_runV (As := [.int p1]) (rest := [.int (σ.1 70 p1.toNatClampNeg)]) C vw_X9_148 (c_X9_lostByTeeth l g p1 σ _ h) (sh_69) rfl (by decide) (by decide) rfl rfl (Nat.le_of_ble_eq_true rfl) d_X9_gets_8) (fun r2 h => ?_)
  refine zr_isub C d_X9_gets_11 ?_
  refine zr_topi (fun x4 hx4 => ?_)
  replace h := h x4 hx4
  refine zr_istore C [(5, .int x4), (0, .ref (g.2.1 69)), (1, .int p1), (2, .int p2), (3, .int p3), (4, .int p4)] d_X9_gets_12 (by decide) rfl ?_
  refine zr_iload_n C d_X9_gets_14 rfl ?_
  refine zr_if_ne C 41 d_X9_gets_15 (by decide) (fun hc5 => ?_) (fun hc5 => ?_)
  · rw [if_neg hc5] at h
    refine zr_aload_n C d_X9_gets_41 rfl ?_
    refine zr_geti C fw_X9_78 (sh_69) rfl d_X9_gets_42 ?_
    refine zr_iload C d_X9_gets_45 rfl ?_
    refine zr_aload_n C d_X9_gets_47 rfl ?_
    refine zr_getr (u := 70) C fw_X9_7 (sh_69) rfl d_X9_gets_48 ?_
    refine zr_iload_n C d_X9_gets_51 rfl ?_
    obtain ⟨ho6, h⟩ := h
    refine zr_iald C (sh_70) ho6 d_X9_gets_52 ?_
    refine zr_imul C d_X9_gets_53 ?_
    refine zr_iadd C d_X9_gets_54 ?_
    refine zr_topi (fun x7 hx7 => ?_)
    replace h := h x7 hx7
    refine zr_istore C [(6, .int x7), (5, .int x4), (0, .ref (g.2.1 69)), (1, .int p1), (2, .int p2), (3, .int p3), (4, .int p4)] d_X9_gets_55 (by decide) rfl ?_
    refine zr_iload_n C d_X9_gets_57 rfl ?_
    refine zr_iconst C (1 : Int32) d_X9_gets_58 (by decide) ?_
    refine zr_icmp_ne C 89 d_X9_gets_59 (by decide) (fun hc8 => ?_) (fun hc8 => ?_)
    · rw [if_neg hc8] at h
      refine zr_bipush C (10 : Int32) d_X9_gets_89 (by decide) ?_
      refine zr_aload_n C d_X9_gets_91 rfl ?_
      refine zr_getr (u := 70) C fw_X9_7 (sh_69) rfl d_X9_gets_92 ?_
      refine zr_iload_n C d_X9_gets_95 rfl ?_
      obtain ⟨ho9, h⟩ := h
      refine zr_iald C (sh_70) ho9 d_X9_gets_96 ?_
      have hJ12 : ∀ z11 : Int32, z11 = (if (σ.1 70 p1.toNatClampNeg) = (0) then (0 : Int32) else x7) → zGG p l e R s m args below meth c Q g n1 n2 7 106 [(6, .int x7), (5, .int x4), (0, .ref (g.2.1 69)), (1, .int p1), (2, .int p2), (3, .int p3), (4, .int p4)] [.int z11, .int (10 : Int32)] σ := by
        intro z11 hz11
        replace h := h z11 hz11
        refine zr_aload_n C d_X9_gets_106 rfl ?_
        refine zr_geti C fw_X9_72 (sh_69) rfl d_X9_gets_107 ?_
        refine zr_isub C d_X9_gets_110 ?_
        refine zr_imul C d_X9_gets_111 ?_
        exact hret _ _ _ h d_X9_gets_112
      refine zr_if_ne C 104 d_X9_gets_97 (by decide) (fun hc10 => ?_) (fun hc10 => ?_)
      · skip
        refine zr_iload C d_X9_gets_104 rfl ?_
        exact hJ12 _ (by rw [if_neg hc10])
      · skip
        refine zr_iconst C (0 : Int32) d_X9_gets_100 (by decide) ?_
        refine zr_goto C 106 d_X9_gets_101 (by decide) ?_
        exact hJ12 _ (by rw [if_pos hc10])
    · rw [if_pos hc8] at h
      refine zr_bipush C (10 : Int32) d_X9_gets_62 (by decide) ?_
      refine zr_aload_n C d_X9_gets_64 rfl ?_
      refine zr_iload_n C d_X9_gets_65 rfl ?_
      refine zr_cip (zr_runV (As := [.int p3]) (rest := [.int (10 : Int32)]) C vw_X9_163 (c_X9_tenths l g p3 σ _ h) (sh_69) rfl (by decide) (by decide) rfl rfl (Nat.le_of_ble_eq_true rfl) d_X9_gets_66) (fun r14 h => ?_)
      refine zr_isub C d_X9_gets_69 ?_
      refine zr_aload_n C d_X9_gets_70 rfl ?_
      refine zr_getr (u := 70) C fw_X9_7 (sh_69) rfl d_X9_gets_71 ?_
      refine zr_iload_n C d_X9_gets_74 rfl ?_
      obtain ⟨ho16, h⟩ := h
      refine zr_iald C (sh_70) ho16 d_X9_gets_75 ?_
      have hJ19 : ∀ z18 : Int32, z18 = (if (σ.1 70 p1.toNatClampNeg) = (0) then (0 : Int32) else x7) → zGG p l e R s m args below meth c Q g n1 n2 7 85 [(6, .int x7), (5, .int x4), (0, .ref (g.2.1 69)), (1, .int p1), (2, .int p2), (3, .int p3), (4, .int p4)] [.int z18, .int ((10 : Int32) - r14)] σ := by
        intro z18 hz18
        replace h := h z18 hz18
        refine zr_imul C d_X9_gets_85 ?_
        refine zr_goto C 112 d_X9_gets_86 (by decide) ?_
        exact hret _ _ _ h d_X9_gets_112
      refine zr_if_ne C 83 d_X9_gets_76 (by decide) (fun hc17 => ?_) (fun hc17 => ?_)
      · skip
        refine zr_iload C d_X9_gets_83 rfl ?_
        exact hJ19 _ (by rw [if_neg hc17])
      · skip
        refine zr_iconst C (0 : Int32) d_X9_gets_79 (by decide) ?_
        refine zr_goto C 85 d_X9_gets_80 (by decide) ?_
        exact hJ19 _ (by rw [if_pos hc17])
  · rw [if_pos hc5] at h
    refine zr_iload C d_X9_gets_18 rfl ?_
    have hJ23 : ∀ z22 : Int32, z22 = (if x4 = (0) then (0 : Int32) else ((10 : Int32) * ((σ.1 69 10) + (p4 * x4)))) → zGG p l e R s m args below meth c Q g n1 n2 7 40 [(5, .int x4), (0, .ref (g.2.1 69)), (1, .int p1), (2, .int p2), (3, .int p3), (4, .int p4)] [.int z22] σ := by
      intro z22 hz22
      replace h := h z22 hz22
      exact hret _ _ _ h d_X9_gets_40
    refine zr_if_ne C 27 d_X9_gets_20 (by decide) (fun hc21 => ?_) (fun hc21 => ?_)
    · skip
      refine zr_bipush C (10 : Int32) d_X9_gets_27 (by decide) ?_
      refine zr_aload_n C d_X9_gets_29 rfl ?_
      refine zr_geti C fw_X9_78 (sh_69) rfl d_X9_gets_30 ?_
      refine zr_iload C d_X9_gets_33 rfl ?_
      refine zr_iload C d_X9_gets_35 rfl ?_
      refine zr_imul C d_X9_gets_37 ?_
      refine zr_iadd C d_X9_gets_38 ?_
      refine zr_imul C d_X9_gets_39 ?_
      exact hJ23 _ (by rw [if_neg hc21])
    · skip
      refine zr_iconst C (0 : Int32) d_X9_gets_23 (by decide) ?_
      refine zr_goto C 40 d_X9_gets_24 (by decide) ?_
      exact hJ23 _ (by rw [if_pos hc21])
set_option maxRecDepth 20000 in
theorem c_X9_gets (l : Launch) (g : zG) (p1 : Int32) (p2 : Int32) (p3 : Int32) (p4 : Int32) (σ : zST) (Post : Int32 → Prop) (h : wp_X9_gets p1 p2 p3 p4 σ Post) : Met l yX9_gets (Cond.code yX9_gets cX9_gets 7 (some .int) :: zGW) (zRm 1 22) (va_Pc [.ref (g.2.1 69), .int p1, .int p2, .int p3, .int p4] (zPP g σ)) (va_Qi (fun r u => Post r ∧ u = σ) (zBB g) (zA g)) 0 0 (zA g) :=
  zMet (by decide) (Nat.le_of_ble_eq_true rfl) (fun p e s m below meth c hr C => g_X9_gets C (fun v pc lv hp hd => zr_iret C hr ⟨hp, rfl⟩ hd) h)
def wp_X9_captainBy_L6 (v1 : Int32) (v2 : Int32) (v3 : Int32) (σ : zST) (Post : Int32 → Prop) : Nat → Int32 → Int32 → Prop
  | 0, _, _ => False
  | N + 1, v4, v5 => (if (3 : Int32) ≤ v5 then Post v4 else wp_X9_gets v1 v5 v2 v3 σ (fun r2 => wp_X9_gets v1 v4 v2 v3 σ (fun r4 => ∀ z7 : Int32, z7 = (if r2 ≤ r4 then v4 else v5) → wp_X9_captainBy_L6 v1 v2 v3 σ Post N z7 (v5 + 1))))

set_option maxRecDepth 100000 in
set_option maxHeartbeats 4000000 in
theorem g_X9_captainBy_L6 {p : Program} {l : Launch} {e : Env} {R : Room} {s : State} {m : MethodId} {args : Array Value} {below : List Frame} {meth : Method} {c : Code} {Q : State → Prop} {g : zG} {n1 n2 : Nat} (C : zCX p R s m args meth c g n1 n2 cX9_captainBy 6 RX9 2 48) {v1 : Int32} {v2 : Int32} {v3 : Int32} {σ : zST}  {Post : Int32 → Prop} (hret : ∀ (v : Int32) (pc : Nat) (lv : List (Nat × Value)), Post v → decode cX9_captainBy pc = .ok (.ireturn, 1) → zGG p l e R s m args below meth c Q g n1 n2 6 pc lv [.int v] σ) : ∀ (N : Nat) (v4 : Int32) (v5 : Int32) , wp_X9_captainBy_L6 v1 v2 v3 σ Post N v4 v5 → zGG p l e R s m args below meth c Q g n1 n2 6 6 [(0, .ref (g.2.1 69)), (1, .int v1), (2, .int v2), (3, .int v3), (4, .int v4), (5, .int v5)] [] σ := by
  intro N
  induction N with
  | zero =>
    intro v4 v5 h
    exact h.elim
  | succ N ih =>
    intro v4 v5 h
    rw [wp_X9_captainBy_L6] at h
    refine zr_iload C d_X9_captainBy_6 rfl ?_
    refine zr_iconst C (3 : Int32) d_X9_captainBy_8 (by decide) ?_
    refine zr_icmp_ge C 48 d_X9_captainBy_9 (by decide) (fun hc1 => ?_) (fun hc1 => ?_)
    · rw [if_pos hc1] at h
      refine zr_iload C d_X9_captainBy_48 rfl ?_
      exact hret _ _ _ h d_X9_captainBy_50
    · rw [if_neg hc1] at h
      refine zr_aload_n C d_X9_captainBy_12 rfl ?_
      refine zr_iload_n C d_X9_captainBy_13 rfl ?_
      refine zr_iload C d_X9_captainBy_14 rfl ?_
      refine zr_iload_n C d_X9_captainBy_16 rfl ?_
      refine zr_iload_n C d_X9_captainBy_17 rfl ?_
      refine zr_cip (zr_runV (As := [.int v1, .int v5, .int v2, .int v3]) (rest := []) C vw_X9_251 (c_X9_gets l g v1 v5 v2 v3 σ _ h) (sh_69) rfl (by decide) (by decide) rfl rfl (Nat.le_of_ble_eq_true rfl) d_X9_captainBy_18) (fun r2 h => ?_)
      refine zr_aload_n C d_X9_captainBy_21 rfl ?_
      refine zr_iload_n C d_X9_captainBy_22 rfl ?_
      refine zr_iload C d_X9_captainBy_23 rfl ?_
      refine zr_iload_n C d_X9_captainBy_25 rfl ?_
      refine zr_iload_n C d_X9_captainBy_26 rfl ?_
      refine zr_cip (zr_runV (As := [.int v1, .int v4, .int v2, .int v3]) (rest := [.int r2]) C vw_X9_251 (c_X9_gets l g v1 v4 v2 v3 σ _ h) (sh_69) rfl (by decide) (by decide) rfl rfl (Nat.le_of_ble_eq_true rfl) d_X9_captainBy_27) (fun r4 h => ?_)
      have hJ8 : ∀ z7 : Int32, z7 = (if r2 ≤ r4 then v4 else v5) → zGG p l e R s m args below meth c Q g n1 n2 6 40 [(0, .ref (g.2.1 69)), (1, .int v1), (2, .int v2), (3, .int v3), (4, .int v4), (5, .int v5)] [.int z7] σ := by
        intro z7 hz7
        replace h := h z7 hz7
        refine zr_istore C [(4, .int z7), (0, .ref (g.2.1 69)), (1, .int v1), (2, .int v2), (3, .int v3), (5, .int v5)] d_X9_captainBy_40 (by decide) rfl ?_
        refine zr_iinc C (v5 + 1) [(5, .int (v5 + 1)), (4, .int z7), (0, .ref (g.2.1 69)), (1, .int v1), (2, .int v2), (3, .int v3)] d_X9_captainBy_42 rfl rfl (by decide) rfl ?_
        refine zr_goto C 6 d_X9_captainBy_45 (by decide) ?_
        exact zr_pick [2, 3, 4, 5, 1, 0] rfl (ih z7 (v5 + 1) h)
      refine zr_icmp_le C 38 d_X9_captainBy_30 (by decide) (fun hc6 => ?_) (fun hc6 => ?_)
      · skip
        refine zr_iload C d_X9_captainBy_38 rfl ?_
        exact hJ8 _ (by rw [if_pos hc6])
      · skip
        refine zr_iload C d_X9_captainBy_33 rfl ?_
        refine zr_goto C 40 d_X9_captainBy_35 (by decide) ?_
        exact hJ8 _ (by rw [if_neg hc6])

def wp_X9_captainBy (p1 : Int32) (p2 : Int32) (p3 : Int32) (σ : zST) (Post : Int32 → Prop) : Prop := ∃ M10 : Nat, wp_X9_captainBy_L6 p1 p2 p3 σ Post M10 (0 : Int32) (1 : Int32)
set_option maxRecDepth 100000 in
set_option maxHeartbeats 4000000 in
theorem g_X9_captainBy {p : Program} {l : Launch} {e : Env} {R : Room} {s : State} {m : MethodId} {args : Array Value} {below : List Frame} {meth : Method} {c : Code} {Q : State → Prop} {g : zG} {n1 n2 : Nat} (C : zCX p R s m args meth c g n1 n2 cX9_captainBy 6 RX9 2 48) {p1 : Int32} {p2 : Int32} {p3 : Int32} {σ : zST} {Post : Int32 → Prop} (hret : ∀ (v : Int32) (pc : Nat) (lv : List (Nat × Value)), Post v → decode cX9_captainBy pc = .ok (.ireturn, 1) → zGG p l e R s m args below meth c Q g n1 n2 6 pc lv [.int v] σ) (h : wp_X9_captainBy p1 p2 p3 σ Post) : zGG p l e R s m args below meth c Q g n1 n2 6 0 [(0, .ref (g.2.1 69)), (1, .int p1), (2, .int p2), (3, .int p3)] [] σ := by
  unfold wp_X9_captainBy at h
  refine zr_iconst C (0 : Int32) d_X9_captainBy_0 (by decide) ?_
  refine zr_istore C [(4, .int (0 : Int32)), (0, .ref (g.2.1 69)), (1, .int p1), (2, .int p2), (3, .int p3)] d_X9_captainBy_1 (by decide) rfl ?_
  refine zr_iconst C (1 : Int32) d_X9_captainBy_3 (by decide) ?_
  refine zr_istore C [(5, .int (1 : Int32)), (4, .int (0 : Int32)), (0, .ref (g.2.1 69)), (1, .int p1), (2, .int p2), (3, .int p3)] d_X9_captainBy_4 (by decide) rfl ?_
  obtain ⟨M10, h⟩ := h
  exact zr_pick [2, 3, 4, 5, 1, 0] rfl (g_X9_captainBy_L6 C hret M10 (0 : Int32) (1 : Int32) h)
set_option maxRecDepth 20000 in
theorem c_X9_captainBy (l : Launch) (g : zG) (p1 : Int32) (p2 : Int32) (p3 : Int32) (σ : zST) (Post : Int32 → Prop) (h : wp_X9_captainBy p1 p2 p3 σ Post) : Met l yX9_captainBy (Cond.code yX9_captainBy cX9_captainBy 6 (some .int) :: zGW) (zRm 2 48) (va_Pc [.ref (g.2.1 69), .int p1, .int p2, .int p3] (zPP g σ)) (va_Qi (fun r u => Post r ∧ u = σ) (zBB g) (zA g)) 0 0 (zA g) :=
  zMet (by decide) (Nat.le_of_ble_eq_true rfl) (fun p e s m below meth c hr C => g_X9_captainBy C (fun v pc lv hp hd => zr_iret C hr ⟨hp, rfl⟩ hd) h)
def wp_X9_captain (p1 : Int32) (p2 : Int32) (σ : zST) (Post : Int32 → Prop) : Prop := wp_X9_isShip p1 σ (fun r1 => (if r1 = (0) then Post (-1 : Int32) else wp_X9_isHour p2 σ (fun r4 => (if r4 = (0) then Post (-2 : Int32) else wp_X9_captainBy p1 p2 (σ.1 69 11) σ (fun r7 => Post r7)))))
set_option maxRecDepth 100000 in
set_option maxHeartbeats 4000000 in
theorem g_X9_captain {p : Program} {l : Launch} {e : Env} {R : Room} {s : State} {m : MethodId} {args : Array Value} {below : List Frame} {meth : Method} {c : Code} {Q : State → Prop} {g : zG} {n1 n2 : Nat} (C : zCX p R s m args meth c g n1 n2 cX9_captain 3 RX9 3 73) {p1 : Int32} {p2 : Int32} {σ : zST} {Post : Int32 → Prop} (hret : ∀ (v : Int32) (pc : Nat) (lv : List (Nat × Value)), Post v → decode cX9_captain pc = .ok (.ireturn, 1) → zGG p l e R s m args below meth c Q g n1 n2 3 pc lv [.int v] σ) (h : wp_X9_captain p1 p2 σ Post) : zGG p l e R s m args below meth c Q g n1 n2 3 0 [(0, .ref (g.2.1 69)), (1, .int p1), (2, .int p2)] [] σ := by
  unfold wp_X9_captain at h
  refine zr_aload_n C d_X9_captain_0 rfl ?_
  refine zr_iload_n C d_X9_captain_1 rfl ?_
  refine zr_cip (zr_runV (As := [.int p1]) (rest := []) C vw_X9_112 (c_X9_isShip l g p1 σ _ h) (sh_69) rfl (by decide) (by decide) rfl rfl (Nat.le_of_ble_eq_true rfl) d_X9_captain_2) (fun r1 h => ?_)
  refine zr_if_ne C 10 d_X9_captain_5 (by decide) (fun hc3 => ?_) (fun hc3 => ?_)
  · rw [if_neg hc3] at h
    refine zr_iload_n C d_X9_captain_10 rfl ?_
    refine zr_cip (zr_runS (As := [.int p2]) (rest := []) C sw_X9_219 (c_X9_isHour l g p2 σ _ h) (by decide) (by decide) rfl rfl (Nat.le_of_ble_eq_true rfl) d_X9_captain_11) (fun r4 h => ?_)
    refine zr_if_eq C 30 d_X9_captain_14 (by decide) (fun hc6 => ?_) (fun hc6 => ?_)
    · rw [if_pos hc6] at h
      refine zr_bipush C (-2 : Int32) d_X9_captain_30 (by decide) ?_
      exact hret _ _ _ h d_X9_captain_32
    · rw [if_neg hc6] at h
      refine zr_aload_n C d_X9_captain_17 rfl ?_
      refine zr_iload_n C d_X9_captain_18 rfl ?_
      refine zr_iload_n C d_X9_captain_19 rfl ?_
      refine zr_aload_n C d_X9_captain_20 rfl ?_
      refine zr_geti C fw_X9_115 (sh_69) rfl d_X9_captain_21 ?_
      refine zr_cip (zr_runV (As := [.int p1, .int p2, .int (σ.1 69 11)]) (rest := []) C vw_X9_255 (c_X9_captainBy l g p1 p2 (σ.1 69 11) σ _ h) (sh_69) rfl (by decide) (by decide) rfl rfl (Nat.le_of_ble_eq_true rfl) d_X9_captain_24) (fun r7 h => ?_)
      refine zr_goto C 32 d_X9_captain_27 (by decide) ?_
      exact hret _ _ _ h d_X9_captain_32
  · rw [if_pos hc3] at h
    refine zr_iconst C (-1 : Int32) d_X9_captain_8 (by decide) ?_
    exact hret _ _ _ h d_X9_captain_9
set_option maxRecDepth 20000 in
theorem c_X9_captain (l : Launch) (g : zG) (p1 : Int32) (p2 : Int32) (σ : zST) (Post : Int32 → Prop) (h : wp_X9_captain p1 p2 σ Post) : Met l yX9_captain (Cond.code yX9_captain cX9_captain 3 (some .int) :: zGW) (zRm 3 73) (va_Pc [.ref (g.2.1 69), .int p1, .int p2] (zPP g σ)) (va_Qi (fun r u => Post r ∧ u = σ) (zBB g) (zA g)) 0 0 (zA g) :=
  zMet (by decide) (Nat.le_of_ble_eq_true rfl) (fun p e s m below meth c hr C => g_X9_captain C (fun v pc lv hp hd => zr_iret C hr ⟨hp, rfl⟩ hd) h)
def wp_X9_persuaded_L30 (v1 : Int32) (v2 : Int32) (v3 : Int32) (σ : zST) (Post : Int32 → Prop) : Nat → Int32 → Prop
  | 0, _ => False
  | N + 1, v4 => (if (100 : Int32) ≤ v4 then Post (-6 : Int32) else wp_X9_captainBy v1 v2 v4 σ (fun r10 => (if r10 = v3 then Post v4 else wp_X9_persuaded_L30 v1 v2 v3 σ Post N (v4 + 1))))

set_option maxRecDepth 100000 in
set_option maxHeartbeats 4000000 in
theorem g_X9_persuaded_L30 {p : Program} {l : Launch} {e : Env} {R : Room} {s : State} {m : MethodId} {args : Array Value} {below : List Frame} {meth : Method} {c : Code} {Q : State → Prop} {g : zG} {n1 n2 : Nat} (C : zCX p R s m args meth c g n1 n2 cX9_persuaded 5 RX9 4 91) {v1 : Int32} {v2 : Int32} {v3 : Int32} {σ : zST}  {Post : Int32 → Prop} (hret : ∀ (v : Int32) (pc : Nat) (lv : List (Nat × Value)), Post v → decode cX9_persuaded pc = .ok (.ireturn, 1) → zGG p l e R s m args below meth c Q g n1 n2 5 pc lv [.int v] σ) : ∀ (N : Nat) (v4 : Int32) , wp_X9_persuaded_L30 v1 v2 v3 σ Post N v4 → zGG p l e R s m args below meth c Q g n1 n2 5 30 [(0, .ref (g.2.1 69)), (1, .int v1), (2, .int v2), (3, .int v3), (4, .int v4)] [] σ := by
  intro N
  induction N with
  | zero =>
    intro v4 h
    exact h.elim
  | succ N ih =>
    intro v4 h
    rw [wp_X9_persuaded_L30] at h
    refine zr_iload C d_X9_persuaded_30 rfl ?_
    refine zr_bipush C (100 : Int32) d_X9_persuaded_32 (by decide) ?_
    refine zr_icmp_ge C 58 d_X9_persuaded_34 (by decide) (fun hc9 => ?_) (fun hc9 => ?_)
    · rw [if_pos hc9] at h
      refine zr_bipush C (-6 : Int32) d_X9_persuaded_58 (by decide) ?_
      exact hret _ _ _ h d_X9_persuaded_60
    · rw [if_neg hc9] at h
      refine zr_aload_n C d_X9_persuaded_37 rfl ?_
      refine zr_iload_n C d_X9_persuaded_38 rfl ?_
      refine zr_iload_n C d_X9_persuaded_39 rfl ?_
      refine zr_iload C d_X9_persuaded_40 rfl ?_
      refine zr_cip (zr_runV (As := [.int v1, .int v2, .int v4]) (rest := []) C vw_X9_255 (c_X9_captainBy l g v1 v2 v4 σ _ h) (sh_69) rfl (by decide) (by decide) rfl rfl (Nat.le_of_ble_eq_true rfl) d_X9_persuaded_42) (fun r10 h => ?_)
      refine zr_iload_n C d_X9_persuaded_45 rfl ?_
      refine zr_icmp_ne C 52 d_X9_persuaded_46 (by decide) (fun hc12 => ?_) (fun hc12 => ?_)
      · rw [if_neg hc12] at h
        refine zr_iinc C (v4 + 1) [(4, .int (v4 + 1)), (0, .ref (g.2.1 69)), (1, .int v1), (2, .int v2), (3, .int v3)] d_X9_persuaded_52 rfl rfl (by decide) rfl ?_
        refine zr_goto C 30 d_X9_persuaded_55 (by decide) ?_
        exact zr_pick [1, 2, 3, 4, 0] rfl (ih (v4 + 1) h)
      · rw [if_pos hc12] at h
        refine zr_iload C d_X9_persuaded_49 rfl ?_
        exact hret _ _ _ h d_X9_persuaded_51

def wp_X9_persuaded (p1 : Int32) (p2 : Int32) (σ : zST) (Post : Int32 → Prop) : Prop := wp_X9_isShip p1 σ (fun r1 => (if r1 = (0) then Post (-1 : Int32) else wp_X9_isHour p2 σ (fun r4 => (if r4 = (0) then Post (-2 : Int32) else wp_X9_choiceOf p1 p2 σ (fun r7 => ∃ M13 : Nat, wp_X9_persuaded_L30 p1 p2 r7 σ Post M13 (0 : Int32))))))
set_option maxRecDepth 100000 in
set_option maxHeartbeats 4000000 in
theorem g_X9_persuaded {p : Program} {l : Launch} {e : Env} {R : Room} {s : State} {m : MethodId} {args : Array Value} {below : List Frame} {meth : Method} {c : Code} {Q : State → Prop} {g : zG} {n1 n2 : Nat} (C : zCX p R s m args meth c g n1 n2 cX9_persuaded 5 RX9 4 91) {p1 : Int32} {p2 : Int32} {σ : zST} {Post : Int32 → Prop} (hret : ∀ (v : Int32) (pc : Nat) (lv : List (Nat × Value)), Post v → decode cX9_persuaded pc = .ok (.ireturn, 1) → zGG p l e R s m args below meth c Q g n1 n2 5 pc lv [.int v] σ) (h : wp_X9_persuaded p1 p2 σ Post) : zGG p l e R s m args below meth c Q g n1 n2 5 0 [(0, .ref (g.2.1 69)), (1, .int p1), (2, .int p2)] [] σ := by
  unfold wp_X9_persuaded at h
  refine zr_aload_n C d_X9_persuaded_0 rfl ?_
  refine zr_iload_n C d_X9_persuaded_1 rfl ?_
  refine zr_cip (zr_runV (As := [.int p1]) (rest := []) C vw_X9_112 (c_X9_isShip l g p1 σ _ h) (sh_69) rfl (by decide) (by decide) rfl rfl (Nat.le_of_ble_eq_true rfl) d_X9_persuaded_2) (fun r1 h => ?_)
  refine zr_if_ne C 10 d_X9_persuaded_5 (by decide) (fun hc3 => ?_) (fun hc3 => ?_)
  · rw [if_neg hc3] at h
    refine zr_iload_n C d_X9_persuaded_10 rfl ?_
    refine zr_cip (zr_runS (As := [.int p2]) (rest := []) C sw_X9_219 (c_X9_isHour l g p2 σ _ h) (by decide) (by decide) rfl rfl (Nat.le_of_ble_eq_true rfl) d_X9_persuaded_11) (fun r4 h => ?_)
    refine zr_if_ne C 20 d_X9_persuaded_14 (by decide) (fun hc6 => ?_) (fun hc6 => ?_)
    · rw [if_neg hc6] at h
      refine zr_aload_n C d_X9_persuaded_20 rfl ?_
      refine zr_iload_n C d_X9_persuaded_21 rfl ?_
      refine zr_iload_n C d_X9_persuaded_22 rfl ?_
      refine zr_cip (zr_runV (As := [.int p1, .int p2]) (rest := []) C vw_X9_225 (c_X9_choiceOf l g p1 p2 σ _ h) (sh_69) rfl (by decide) (by decide) rfl rfl (Nat.le_of_ble_eq_true rfl) d_X9_persuaded_23) (fun r7 h => ?_)
      refine zr_istore_n C [(3, .int r7), (0, .ref (g.2.1 69)), (1, .int p1), (2, .int p2)] d_X9_persuaded_26 (by decide) rfl ?_
      refine zr_iconst C (0 : Int32) d_X9_persuaded_27 (by decide) ?_
      refine zr_istore C [(4, .int (0 : Int32)), (3, .int r7), (0, .ref (g.2.1 69)), (1, .int p1), (2, .int p2)] d_X9_persuaded_28 (by decide) rfl ?_
      obtain ⟨M13, h⟩ := h
      exact zr_pick [2, 3, 4, 1, 0] rfl (g_X9_persuaded_L30 C hret M13 (0 : Int32) h)
    · rw [if_pos hc6] at h
      refine zr_bipush C (-2 : Int32) d_X9_persuaded_17 (by decide) ?_
      exact hret _ _ _ h d_X9_persuaded_19
  · rw [if_pos hc3] at h
    refine zr_iconst C (-1 : Int32) d_X9_persuaded_8 (by decide) ?_
    exact hret _ _ _ h d_X9_persuaded_9
set_option maxRecDepth 20000 in
theorem c_X9_persuaded (l : Launch) (g : zG) (p1 : Int32) (p2 : Int32) (σ : zST) (Post : Int32 → Prop) (h : wp_X9_persuaded p1 p2 σ Post) : Met l yX9_persuaded (Cond.code yX9_persuaded cX9_persuaded 5 (some .int) :: zGW) (zRm 4 91) (va_Pc [.ref (g.2.1 69), .int p1, .int p2] (zPP g σ)) (va_Qi (fun r u => Post r ∧ u = σ) (zBB g) (zA g)) 0 0 (zA g) :=
  zMet (by decide) (Nat.le_of_ble_eq_true rfl) (fun p e s m below meth c hr C => g_X9_persuaded C (fun v pc lv hp hd => zr_iret C hr ⟨hp, rfl⟩ hd) h)
def wp_X9_offer (p1 : Int32) (p2 : Int32) (p3 : Int32) (σ : zST) (Post : Int32 → zST → Prop) : Prop := wp_X9_in (p1.toInt64) (0 : Int64) (3 : Int64) σ (fun r1 => (if r1 = (0) then Post (-2 : Int32) σ else wp_X9_in (p2.toInt64) (0 : Int64) (999 : Int64) σ (fun r4 => (if r4 = (0) then Post (-2 : Int32) σ else wp_X9_in (p3.toInt64) (0 : Int64) (9999 : Int64) σ (fun r7 => (if r7 = (0) then Post (-2 : Int32) σ else vp_in p1 4 ∧ vp_in p1 4 ∧ ∀ σ12 : zST, σ12 = (wI (wI σ 75 p1.toNatClampNeg p2) 76 p1.toNatClampNeg p3) → ∀ σ13 : zST, σ13 = (wI σ12 69 18 ((σ12.1 69 18) ||| ((1 : Int32) <<< (p1 &&& 31)))) → wp_X9_ones (σ13.1 69 18) σ13 (fun r14 => Post r14 σ13)))))))
set_option maxRecDepth 100000 in
set_option maxHeartbeats 4000000 in
theorem g_X9_offer {p : Program} {l : Launch} {e : Env} {R : Room} {s : State} {m : MethodId} {args : Array Value} {below : List Frame} {meth : Method} {c : Code} {Q : State → Prop} {g : zG} {n1 n2 : Nat} (C : zCX p R s m args meth c g n1 n2 cX9_offer 4 RX9 1 25) {p1 : Int32} {p2 : Int32} {p3 : Int32} {σ : zST} {Post : Int32 → zST → Prop} (hret : ∀ (v : Int32) (σ : zST) (pc : Nat) (lv : List (Nat × Value)), Post v σ → decode cX9_offer pc = .ok (.ireturn, 1) → zGG p l e R s m args below meth c Q g n1 n2 4 pc lv [.int v] σ) (h : wp_X9_offer p1 p2 p3 σ Post) : zGG p l e R s m args below meth c Q g n1 n2 4 0 [(0, .ref (g.2.1 69)), (1, .int p1), (2, .int p2), (3, .int p3)] [] σ := by
  unfold wp_X9_offer at h
  refine zr_iload_n C d_X9_offer_0 rfl ?_
  refine zr_i2l C d_X9_offer_1 ?_
  refine zr_lconst C (0 : Int64) d_X9_offer_2 (by decide) ?_
  refine zr_ldc2 C (v := (3 : Int64)) cl_X9_258 d_X9_offer_3 ?_
  refine zr_cip (zr_runS (As := [.long (p1.toInt64), .long (0 : Int64), .long (3 : Int64)]) (rest := []) C sw_X9_89 (c_X9_in l g (p1.toInt64) (0 : Int64) (3 : Int64) σ _ h) (by decide) (by decide) rfl rfl (Nat.le_of_ble_eq_true rfl) d_X9_offer_6) (fun r1 h => ?_)
  refine zr_if_eq C 36 d_X9_offer_9 (by decide) (fun hc3 => ?_) (fun hc3 => ?_)
  · rw [if_pos hc3] at h
    refine zr_bipush C (-2 : Int32) d_X9_offer_36 (by decide) ?_
    exact hret _ _ _ _ h d_X9_offer_38
  · rw [if_neg hc3] at h
    refine zr_iload_n C d_X9_offer_12 rfl ?_
    refine zr_i2l C d_X9_offer_13 ?_
    refine zr_lconst C (0 : Int64) d_X9_offer_14 (by decide) ?_
    refine zr_ldc2 C (v := (999 : Int64)) cl_X9_100 d_X9_offer_15 ?_
    refine zr_cip (zr_runS (As := [.long (p2.toInt64), .long (0 : Int64), .long (999 : Int64)]) (rest := []) C sw_X9_89 (c_X9_in l g (p2.toInt64) (0 : Int64) (999 : Int64) σ _ h) (by decide) (by decide) rfl rfl (Nat.le_of_ble_eq_true rfl) d_X9_offer_18) (fun r4 h => ?_)
    refine zr_if_eq C 36 d_X9_offer_21 (by decide) (fun hc6 => ?_) (fun hc6 => ?_)
    · rw [if_pos hc6] at h
      refine zr_bipush C (-2 : Int32) d_X9_offer_36 (by decide) ?_
      exact hret _ _ _ _ h d_X9_offer_38
    · rw [if_neg hc6] at h
      refine zr_iload_n C d_X9_offer_24 rfl ?_
      refine zr_i2l C d_X9_offer_25 ?_
      refine zr_lconst C (0 : Int64) d_X9_offer_26 (by decide) ?_
      refine zr_ldc2 C (v := (9999 : Int64)) cl_X9_260 d_X9_offer_27 ?_
      refine zr_cip (zr_runS (As := [.long (p3.toInt64), .long (0 : Int64), .long (9999 : Int64)]) (rest := []) C sw_X9_89 (c_X9_in l g (p3.toInt64) (0 : Int64) (9999 : Int64) σ _ h) (by decide) (by decide) rfl rfl (Nat.le_of_ble_eq_true rfl) d_X9_offer_30) (fun r7 h => ?_)
      refine zr_if_ne C 39 d_X9_offer_33 (by decide) (fun hc9 => ?_) (fun hc9 => ?_)
      · rw [if_neg hc9] at h
        refine zr_aload_n C d_X9_offer_39 rfl ?_
        refine zr_getr (u := 75) C fw_X9_25 (sh_69) rfl d_X9_offer_40 ?_
        refine zr_iload_n C d_X9_offer_43 rfl ?_
        refine zr_iload_n C d_X9_offer_44 rfl ?_
        obtain ⟨ho10, h⟩ := h
        refine zr_iast C (sh_75) ho10 d_X9_offer_45 ?_
        refine zr_aload_n C d_X9_offer_46 rfl ?_
        refine zr_getr (u := 76) C fw_X9_28 (sh_69) rfl d_X9_offer_47 ?_
        refine zr_iload_n C d_X9_offer_50 rfl ?_
        refine zr_iload_n C d_X9_offer_51 rfl ?_
        obtain ⟨ho11, h⟩ := h
        refine zr_iast C (sh_76) ho11 d_X9_offer_52 ?_
        refine zr_aload_n C d_X9_offer_53 rfl ?_
        refine zr_dup C d_X9_offer_54 rfl ?_
        refine zr_tops (fun σ12 hσ12 => ?_)
        replace h := h σ12 hσ12
        refine zr_geti C fw_X9_262 (sh_69) rfl d_X9_offer_55 ?_
        refine zr_iconst C (1 : Int32) d_X9_offer_58 (by decide) ?_
        refine zr_iload_n C d_X9_offer_59 rfl ?_
        refine zr_ishl C d_X9_offer_60 ?_
        refine zr_ior C d_X9_offer_61 ?_
        refine zr_puti C fw_X9_262 pw_X9_18 (sh_69) rfl rfl rfl d_X9_offer_62 ?_
        refine zr_aload_n C d_X9_offer_65 rfl ?_
        refine zr_tops (fun σ13 hσ13 => ?_)
        replace h := h σ13 hσ13
        refine zr_geti C fw_X9_262 (sh_69) rfl d_X9_offer_66 ?_
        refine zr_cip (zr_runS (As := [.int (σ13.1 69 18)]) (rest := []) C sw_X9_108 (c_X9_ones l g (σ13.1 69 18) σ13 _ h) (by decide) (by decide) rfl rfl (Nat.le_of_ble_eq_true rfl) d_X9_offer_69) (fun r14 h => ?_)
        exact hret _ _ _ _ h d_X9_offer_72
      · rw [if_pos hc9] at h
        refine zr_bipush C (-2 : Int32) d_X9_offer_36 (by decide) ?_
        exact hret _ _ _ _ h d_X9_offer_38
set_option maxRecDepth 20000 in
theorem c_X9_offer (l : Launch) (g : zG) (p1 : Int32) (p2 : Int32) (p3 : Int32) (σ : zST) (Post : Int32 → zST → Prop) (h : wp_X9_offer p1 p2 p3 σ Post) : Met l yX9_offer (Cond.code yX9_offer cX9_offer 4 (some .int) :: zGW) (zRm 1 25) (va_Pc [.ref (g.2.1 69), .int p1, .int p2, .int p3] (zPP g σ)) (va_Qi Post (zBB g) (zA g)) 0 0 (zA g) :=
  zMet (by decide) (Nat.le_of_ble_eq_true rfl) (fun p e s m below meth c hr C => g_X9_offer C (fun v σ pc lv hp hd => zr_iret C hr hp hd) h)
def wp_X9_noOffers (σ : zST) (Post : Int32 → zST → Prop) : Prop := wp_X9_ones (σ.1 69 18) σ (fun r1 => Post r1 (wI σ 69 18 (0 : Int32)))
set_option maxRecDepth 100000 in
set_option maxHeartbeats 4000000 in
theorem g_X9_noOffers {p : Program} {l : Launch} {e : Env} {R : Room} {s : State} {m : MethodId} {args : Array Value} {below : List Frame} {meth : Method} {c : Code} {Q : State → Prop} {g : zG} {n1 n2 : Nat} (C : zCX p R s m args meth c g n1 n2 cX9_noOffers 2 RX9 1 22) {σ : zST} {Post : Int32 → zST → Prop} (hret : ∀ (v : Int32) (σ : zST) (pc : Nat) (lv : List (Nat × Value)), Post v σ → decode cX9_noOffers pc = .ok (.ireturn, 1) → zGG p l e R s m args below meth c Q g n1 n2 2 pc lv [.int v] σ) (h : wp_X9_noOffers σ Post) : zGG p l e R s m args below meth c Q g n1 n2 2 0 [(0, .ref (g.2.1 69))] [] σ := by
  unfold wp_X9_noOffers at h
  refine zr_aload_n C d_X9_noOffers_0 rfl ?_
  refine zr_geti C fw_X9_262 (sh_69) rfl d_X9_noOffers_1 ?_
  refine zr_cip (zr_runS (As := [.int (σ.1 69 18)]) (rest := []) C sw_X9_108 (c_X9_ones l g (σ.1 69 18) σ _ h) (by decide) (by decide) rfl rfl (Nat.le_of_ble_eq_true rfl) d_X9_noOffers_4) (fun r1 h => ?_)
  refine zr_istore_n C [(1, .int r1), (0, .ref (g.2.1 69))] d_X9_noOffers_7 (by decide) rfl ?_
  refine zr_aload_n C d_X9_noOffers_8 rfl ?_
  refine zr_iconst C (0 : Int32) d_X9_noOffers_9 (by decide) ?_
  refine zr_puti C fw_X9_262 pw_X9_18 (sh_69) rfl rfl rfl d_X9_noOffers_10 ?_
  refine zr_iload_n C d_X9_noOffers_13 rfl ?_
  exact hret _ _ _ _ h d_X9_noOffers_14
set_option maxRecDepth 20000 in
theorem c_X9_noOffers (l : Launch) (g : zG) (σ : zST) (Post : Int32 → zST → Prop) (h : wp_X9_noOffers σ Post) : Met l yX9_noOffers (Cond.code yX9_noOffers cX9_noOffers 2 (some .int) :: zGW) (zRm 1 22) (va_Pc [.ref (g.2.1 69)] (zPP g σ)) (va_Qi Post (zBB g) (zA g)) 0 0 (zA g) :=
  zMet (by decide) (Nat.le_of_ble_eq_true rfl) (fun p e s m below meth c hr C => g_X9_noOffers C (fun v σ pc lv hp hd => zr_iret C hr hp hd) h)
def wp_X9_premiums_L4 (v1 : Int32) (σ : zST) (Post : Int32 → Prop) : Nat → Int32 → Int32 → Prop
  | 0, _, _ => False
  | N + 1, v2, v3 => (if (4 : Int32) ≤ v3 then Post v2 else (if ((v1 >>> (v3 &&& 31)) &&& (1 : Int32)) = (1 : Int32) then vp_in v3 4 ∧ True else True) ∧ ∀ z3 : Int32, z3 = (if ((v1 >>> (v3 &&& 31)) &&& (1 : Int32)) = (1 : Int32) then (σ.1 75 v3.toNatClampNeg) else (0 : Int32)) → ∀ x7 : Int32, x7 = (v2 + z3) → wp_X9_premiums_L4 v1 σ Post N x7 (v3 + 1))

set_option maxRecDepth 100000 in
set_option maxHeartbeats 4000000 in
theorem g_X9_premiums_L4 {p : Program} {l : Launch} {e : Env} {R : Room} {s : State} {m : MethodId} {args : Array Value} {below : List Frame} {meth : Method} {c : Code} {Q : State → Prop} {g : zG} {n1 n2 : Nat} (C : zCX p R s m args meth c g n1 n2 cX9_premiums 4 RX9 0 0) {v1 : Int32} {σ : zST}  {Post : Int32 → Prop} (hret : ∀ (v : Int32) (pc : Nat) (lv : List (Nat × Value)), Post v → decode cX9_premiums pc = .ok (.ireturn, 1) → zGG p l e R s m args below meth c Q g n1 n2 4 pc lv [.int v] σ) : ∀ (N : Nat) (v2 : Int32) (v3 : Int32) , wp_X9_premiums_L4 v1 σ Post N v2 v3 → zGG p l e R s m args below meth c Q g n1 n2 4 4 [(0, .ref (g.2.1 69)), (1, .int v1), (2, .int v2), (3, .int v3)] [] σ := by
  intro N
  induction N with
  | zero =>
    intro v2 v3 h
    exact h.elim
  | succ N ih =>
    intro v2 v3 h
    rw [wp_X9_premiums_L4] at h
    refine zr_iload_n C d_X9_premiums_4 rfl ?_
    refine zr_iconst C (4 : Int32) d_X9_premiums_5 (by decide) ?_
    refine zr_icmp_ge C 37 d_X9_premiums_6 (by decide) (fun hc1 => ?_) (fun hc1 => ?_)
    · rw [if_pos hc1] at h
      refine zr_iload_n C d_X9_premiums_37 rfl ?_
      exact hret _ _ _ h d_X9_premiums_38
    · rw [if_neg hc1] at h
      refine zr_iload_n C d_X9_premiums_9 rfl ?_
      refine zr_iload_n C d_X9_premiums_10 rfl ?_
      refine zr_iload_n C d_X9_premiums_11 rfl ?_
      refine zr_ishr C d_X9_premiums_12 ?_
      refine zr_iconst C (1 : Int32) d_X9_premiums_13 (by decide) ?_
      refine zr_iand C d_X9_premiums_14 ?_
      refine zr_iconst C (1 : Int32) d_X9_premiums_15 (by decide) ?_
      obtain ⟨ho5, h⟩ := h
      have hJ4 : ∀ z3 : Int32, z3 = (if ((v1 >>> (v3 &&& 31)) &&& (1 : Int32)) = (1 : Int32) then (σ.1 75 v3.toNatClampNeg) else (0 : Int32)) → zGG p l e R s m args below meth c Q g n1 n2 4 29 [(0, .ref (g.2.1 69)), (1, .int v1), (2, .int v2), (3, .int v3)] [.int z3, .int v2] σ := by
        intro z3 hz3
        replace h := h z3 hz3
        refine zr_iadd C d_X9_premiums_29 ?_
        refine zr_topi (fun x7 hx7 => ?_)
        replace h := h x7 hx7
        refine zr_istore_n C [(2, .int x7), (0, .ref (g.2.1 69)), (1, .int v1), (3, .int v3)] d_X9_premiums_30 (by decide) rfl ?_
        refine zr_iinc C (v3 + 1) [(3, .int (v3 + 1)), (2, .int x7), (0, .ref (g.2.1 69)), (1, .int v1)] d_X9_premiums_31 rfl rfl (by decide) rfl ?_
        refine zr_goto C 4 d_X9_premiums_34 (by decide) ?_
        exact zr_pick [2, 3, 1, 0] rfl (ih x7 (v3 + 1) h)
      refine zr_icmp_ne C 28 d_X9_premiums_16 (by decide) (fun hc2 => ?_) (fun hc2 => ?_)
      · skip
        rw [if_neg hc2] at ho5
        refine zr_iconst C (0 : Int32) d_X9_premiums_28 (by decide) ?_
        exact hJ4 _ (by rw [if_neg hc2])
      · skip
        rw [if_pos hc2] at ho5
        refine zr_aload_n C d_X9_premiums_19 rfl ?_
        refine zr_getr (u := 75) C fw_X9_25 (sh_69) rfl d_X9_premiums_20 ?_
        refine zr_iload_n C d_X9_premiums_23 rfl ?_
        obtain ⟨ho6, ho5⟩ := ho5
        refine zr_iald C (sh_75) ho6 d_X9_premiums_24 ?_
        refine zr_goto C 29 d_X9_premiums_25 (by decide) ?_
        exact hJ4 _ (by rw [if_pos hc2])

def wp_X9_premiums (p1 : Int32) (σ : zST) (Post : Int32 → Prop) : Prop := ∃ M8 : Nat, wp_X9_premiums_L4 p1 σ Post M8 (0 : Int32) (0 : Int32)
set_option maxRecDepth 100000 in
set_option maxHeartbeats 4000000 in
theorem g_X9_premiums {p : Program} {l : Launch} {e : Env} {R : Room} {s : State} {m : MethodId} {args : Array Value} {below : List Frame} {meth : Method} {c : Code} {Q : State → Prop} {g : zG} {n1 n2 : Nat} (C : zCX p R s m args meth c g n1 n2 cX9_premiums 4 RX9 0 0) {p1 : Int32} {σ : zST} {Post : Int32 → Prop} (hret : ∀ (v : Int32) (pc : Nat) (lv : List (Nat × Value)), Post v → decode cX9_premiums pc = .ok (.ireturn, 1) → zGG p l e R s m args below meth c Q g n1 n2 4 pc lv [.int v] σ) (h : wp_X9_premiums p1 σ Post) : zGG p l e R s m args below meth c Q g n1 n2 4 0 [(0, .ref (g.2.1 69)), (1, .int p1)] [] σ := by
  unfold wp_X9_premiums at h
  refine zr_iconst C (0 : Int32) d_X9_premiums_0 (by decide) ?_
  refine zr_istore_n C [(2, .int (0 : Int32)), (0, .ref (g.2.1 69)), (1, .int p1)] d_X9_premiums_1 (by decide) rfl ?_
  refine zr_iconst C (0 : Int32) d_X9_premiums_2 (by decide) ?_
  refine zr_istore_n C [(3, .int (0 : Int32)), (2, .int (0 : Int32)), (0, .ref (g.2.1 69)), (1, .int p1)] d_X9_premiums_3 (by decide) rfl ?_
  obtain ⟨M8, h⟩ := h
  exact zr_pick [2, 3, 1, 0] rfl (g_X9_premiums_L4 C hret M8 (0 : Int32) (0 : Int32) h)
set_option maxRecDepth 20000 in
theorem c_X9_premiums (l : Launch) (g : zG) (p1 : Int32) (σ : zST) (Post : Int32 → Prop) (h : wp_X9_premiums p1 σ Post) : Met l yX9_premiums (Cond.code yX9_premiums cX9_premiums 4 (some .int) :: zGW) (zRm 0 0) (va_Pc [.ref (g.2.1 69), .int p1] (zPP g σ)) (va_Qi (fun r u => Post r ∧ u = σ) (zBB g) (zA g)) 0 0 (zA g) :=
  zMet (by decide) (Nat.le_of_ble_eq_true rfl) (fun p e s m below meth c hr C => g_X9_premiums C (fun v pc lv hp hd => zr_iret C hr ⟨hp, rfl⟩ hd) h)
def wp_X9_got_L4 (v1 : Int32) (σ : zST) (Post : Int32 → Prop) : Nat → Int32 → Int32 → Prop
  | 0, _, _ => False
  | N + 1, v2, v3 => (if (4 : Int32) ≤ v3 then Post v2 else (if ((v1 >>> (v3 &&& 31)) &&& (1 : Int32)) = (1 : Int32) then vp_in v3 4 ∧ True else True) ∧ ∀ z3 : Int32, z3 = (if ((v1 >>> (v3 &&& 31)) &&& (1 : Int32)) = (1 : Int32) then (σ.1 76 v3.toNatClampNeg) else (0 : Int32)) → ∀ x7 : Int32, x7 = (v2 + z3) → wp_X9_got_L4 v1 σ Post N x7 (v3 + 1))

set_option maxRecDepth 100000 in
set_option maxHeartbeats 4000000 in
theorem g_X9_got_L4 {p : Program} {l : Launch} {e : Env} {R : Room} {s : State} {m : MethodId} {args : Array Value} {below : List Frame} {meth : Method} {c : Code} {Q : State → Prop} {g : zG} {n1 n2 : Nat} (C : zCX p R s m args meth c g n1 n2 cX9_got 4 RX9 0 0) {v1 : Int32} {σ : zST}  {Post : Int32 → Prop} (hret : ∀ (v : Int32) (pc : Nat) (lv : List (Nat × Value)), Post v → decode cX9_got pc = .ok (.ireturn, 1) → zGG p l e R s m args below meth c Q g n1 n2 4 pc lv [.int v] σ) : ∀ (N : Nat) (v2 : Int32) (v3 : Int32) , wp_X9_got_L4 v1 σ Post N v2 v3 → zGG p l e R s m args below meth c Q g n1 n2 4 4 [(0, .ref (g.2.1 69)), (1, .int v1), (2, .int v2), (3, .int v3)] [] σ := by
  intro N
  induction N with
  | zero =>
    intro v2 v3 h
    exact h.elim
  | succ N ih =>
    intro v2 v3 h
    rw [wp_X9_got_L4] at h
    refine zr_iload_n C d_X9_got_4 rfl ?_
    refine zr_iconst C (4 : Int32) d_X9_got_5 (by decide) ?_
    refine zr_icmp_ge C 37 d_X9_got_6 (by decide) (fun hc1 => ?_) (fun hc1 => ?_)
    · rw [if_pos hc1] at h
      refine zr_iload_n C d_X9_got_37 rfl ?_
      exact hret _ _ _ h d_X9_got_38
    · rw [if_neg hc1] at h
      refine zr_iload_n C d_X9_got_9 rfl ?_
      refine zr_iload_n C d_X9_got_10 rfl ?_
      refine zr_iload_n C d_X9_got_11 rfl ?_
      refine zr_ishr C d_X9_got_12 ?_
      refine zr_iconst C (1 : Int32) d_X9_got_13 (by decide) ?_
      refine zr_iand C d_X9_got_14 ?_
      refine zr_iconst C (1 : Int32) d_X9_got_15 (by decide) ?_
      obtain ⟨ho5, h⟩ := h
      have hJ4 : ∀ z3 : Int32, z3 = (if ((v1 >>> (v3 &&& 31)) &&& (1 : Int32)) = (1 : Int32) then (σ.1 76 v3.toNatClampNeg) else (0 : Int32)) → zGG p l e R s m args below meth c Q g n1 n2 4 29 [(0, .ref (g.2.1 69)), (1, .int v1), (2, .int v2), (3, .int v3)] [.int z3, .int v2] σ := by
        intro z3 hz3
        replace h := h z3 hz3
        refine zr_iadd C d_X9_got_29 ?_
        refine zr_topi (fun x7 hx7 => ?_)
        replace h := h x7 hx7
        refine zr_istore_n C [(2, .int x7), (0, .ref (g.2.1 69)), (1, .int v1), (3, .int v3)] d_X9_got_30 (by decide) rfl ?_
        refine zr_iinc C (v3 + 1) [(3, .int (v3 + 1)), (2, .int x7), (0, .ref (g.2.1 69)), (1, .int v1)] d_X9_got_31 rfl rfl (by decide) rfl ?_
        refine zr_goto C 4 d_X9_got_34 (by decide) ?_
        exact zr_pick [2, 3, 1, 0] rfl (ih x7 (v3 + 1) h)
      refine zr_icmp_ne C 28 d_X9_got_16 (by decide) (fun hc2 => ?_) (fun hc2 => ?_)
      · skip
        rw [if_neg hc2] at ho5
        refine zr_iconst C (0 : Int32) d_X9_got_28 (by decide) ?_
        exact hJ4 _ (by rw [if_neg hc2])
      · skip
        rw [if_pos hc2] at ho5
        refine zr_aload_n C d_X9_got_19 rfl ?_
        refine zr_getr (u := 76) C fw_X9_28 (sh_69) rfl d_X9_got_20 ?_
        refine zr_iload_n C d_X9_got_23 rfl ?_
        obtain ⟨ho6, ho5⟩ := ho5
        refine zr_iald C (sh_76) ho6 d_X9_got_24 ?_
        refine zr_goto C 29 d_X9_got_25 (by decide) ?_
        exact hJ4 _ (by rw [if_pos hc2])

def wp_X9_got (p1 : Int32) (σ : zST) (Post : Int32 → Prop) : Prop := ∃ M8 : Nat, wp_X9_got_L4 p1 σ Post M8 (0 : Int32) (0 : Int32)
set_option maxRecDepth 100000 in
set_option maxHeartbeats 4000000 in
theorem g_X9_got {p : Program} {l : Launch} {e : Env} {R : Room} {s : State} {m : MethodId} {args : Array Value} {below : List Frame} {meth : Method} {c : Code} {Q : State → Prop} {g : zG} {n1 n2 : Nat} (C : zCX p R s m args meth c g n1 n2 cX9_got 4 RX9 0 0) {p1 : Int32} {σ : zST} {Post : Int32 → Prop} (hret : ∀ (v : Int32) (pc : Nat) (lv : List (Nat × Value)), Post v → decode cX9_got pc = .ok (.ireturn, 1) → zGG p l e R s m args below meth c Q g n1 n2 4 pc lv [.int v] σ) (h : wp_X9_got p1 σ Post) : zGG p l e R s m args below meth c Q g n1 n2 4 0 [(0, .ref (g.2.1 69)), (1, .int p1)] [] σ := by
  unfold wp_X9_got at h
  refine zr_iconst C (0 : Int32) d_X9_got_0 (by decide) ?_
  refine zr_istore_n C [(2, .int (0 : Int32)), (0, .ref (g.2.1 69)), (1, .int p1)] d_X9_got_1 (by decide) rfl ?_
  refine zr_iconst C (0 : Int32) d_X9_got_2 (by decide) ?_
  refine zr_istore_n C [(3, .int (0 : Int32)), (2, .int (0 : Int32)), (0, .ref (g.2.1 69)), (1, .int p1)] d_X9_got_3 (by decide) rfl ?_
  obtain ⟨M8, h⟩ := h
  exact zr_pick [2, 3, 1, 0] rfl (g_X9_got_L4 C hret M8 (0 : Int32) (0 : Int32) h)
set_option maxRecDepth 20000 in
theorem c_X9_got (l : Launch) (g : zG) (p1 : Int32) (σ : zST) (Post : Int32 → Prop) (h : wp_X9_got p1 σ Post) : Met l yX9_got (Cond.code yX9_got cX9_got 4 (some .int) :: zGW) (zRm 0 0) (va_Pc [.ref (g.2.1 69), .int p1] (zPP g σ)) (va_Qi (fun r u => Post r ∧ u = σ) (zBB g) (zA g)) 0 0 (zA g) :=
  zMet (by decide) (Nat.le_of_ble_eq_true rfl) (fun p e s m below meth c hr C => g_X9_got C (fun v pc lv hp hd => zr_iret C hr ⟨hp, rfl⟩ hd) h)
def wp_X9_insured_L49 (v1 : Int32) (v3 : Int32) (v4 : Int32) (σ : zST) (K143 : Int32 → Int32 → Prop) : Nat → Int32 → Int32 → Int32 → Prop
  | 0, _, _, _ => False
  | N + 1, v5, v6, v7 => (if (16 : Int32) ≤ v7 then K143 v5 v6 else wp_X9_allOf v1 σ (fun r13 => wp_X9_got v7 σ (fun r15 => wp_X9_premiums v7 σ (fun r17 => ∀ x19 : Int32, x19 = ((v4 * (r13 - r15)) + ((10 : Int32) * r17)) → ∀ z21 : Int32, z21 = (if (v7 &&& ((σ.1 69 18) ^^^ (-1 : Int32))) = (0) then (if v6 ≤ x19 then (0 : Int32) else (1 : Int32)) else (0 : Int32)) → ∀ z26 : Int32, z26 = (if z21 = (0) then v5 else v7) → ∀ z30 : Int32, z30 = (if z21 = (0) then v6 else x19) → wp_X9_insured_L49 v1 v3 v4 σ K143 N z26 z30 (v7 + 1)))))

set_option maxRecDepth 100000 in
set_option maxHeartbeats 4000000 in
theorem g_X9_insured_L49 {p : Program} {l : Launch} {e : Env} {R : Room} {s : State} {m : MethodId} {args : Array Value} {below : List Frame} {meth : Method} {c : Code} {Q : State → Prop} {g : zG} {n1 n2 : Nat} (C : zCX p R s m args meth c g n1 n2 cX9_insured 10 RX9 3 66) {v1 : Int32} {v3 : Int32} {v4 : Int32} {σ : zST} {K143 : Int32 → Int32 → Prop} (hK143 : ∀ (w5 : Int32) (w6 : Int32), K143 w5 w6 → zGG p l e R s m args below meth c Q g n1 n2 10 143 [(0, .ref (g.2.1 69)), (1, .int v1), (3, .int v3), (4, .int v4), (5, .int w5), (6, .int w6)] [] σ) : ∀ (N : Nat) (v5 : Int32) (v6 : Int32) (v7 : Int32) , wp_X9_insured_L49 v1 v3 v4 σ K143 N v5 v6 v7 → zGG p l e R s m args below meth c Q g n1 n2 10 49 [(0, .ref (g.2.1 69)), (1, .int v1), (3, .int v3), (4, .int v4), (5, .int v5), (6, .int v6), (7, .int v7)] [] σ := by
  intro N
  induction N with
  | zero =>
    intro v5 v6 v7 h
    exact h.elim
  | succ N ih =>
    intro v5 v6 v7 h
    rw [wp_X9_insured_L49] at h
    refine zr_iload C d_X9_insured_49 rfl ?_
    refine zr_bipush C (16 : Int32) d_X9_insured_51 (by decide) ?_
    refine zr_icmp_ge C 143 d_X9_insured_53 (by decide) (fun hc12 => ?_) (fun hc12 => ?_)
    · rw [if_pos hc12] at h
      exact zr_pick [0, 1, 2, 3, 4, 5] rfl (hK143 v5 v6 h)
    · rw [if_neg hc12] at h
      refine zr_iload C d_X9_insured_56 rfl ?_
      refine zr_aload_n C d_X9_insured_58 rfl ?_
      refine zr_iload_n C d_X9_insured_59 rfl ?_
      refine zr_cip (zr_runV (As := [.int v1]) (rest := [.int v4]) C vw_X9_209 (c_X9_allOf l g v1 σ _ h) (sh_69) rfl (by decide) (by decide) rfl rfl (Nat.le_of_ble_eq_true rfl) d_X9_insured_60) (fun r13 h => ?_)
      refine zr_aload_n C d_X9_insured_63 rfl ?_
      refine zr_iload C d_X9_insured_64 rfl ?_
      refine zr_cip (zr_runV (As := [.int v7]) (rest := [.int r13, .int v4]) C vw_X9_265 (c_X9_got l g v7 σ _ h) (sh_69) rfl (by decide) (by decide) rfl rfl (Nat.le_of_ble_eq_true rfl) d_X9_insured_66) (fun r15 h => ?_)
      refine zr_isub C d_X9_insured_69 ?_
      refine zr_imul C d_X9_insured_70 ?_
      refine zr_bipush C (10 : Int32) d_X9_insured_71 (by decide) ?_
      refine zr_aload_n C d_X9_insured_73 rfl ?_
      refine zr_iload C d_X9_insured_74 rfl ?_
      refine zr_cip (zr_runV (As := [.int v7]) (rest := [.int (10 : Int32), .int (v4 * (r13 - r15))]) C vw_X9_268 (c_X9_premiums l g v7 σ _ h) (sh_69) rfl (by decide) (by decide) rfl rfl (Nat.le_of_ble_eq_true rfl) d_X9_insured_76) (fun r17 h => ?_)
      refine zr_imul C d_X9_insured_79 ?_
      refine zr_iadd C d_X9_insured_80 ?_
      refine zr_topi (fun x19 hx19 => ?_)
      replace h := h x19 hx19
      refine zr_istore C [(8, .int x19), (0, .ref (g.2.1 69)), (1, .int v1), (3, .int v3), (4, .int v4), (5, .int v5), (6, .int v6), (7, .int v7)] d_X9_insured_81 (by decide) rfl ?_
      refine zr_iload C d_X9_insured_83 rfl ?_
      refine zr_aload_n C d_X9_insured_85 rfl ?_
      refine zr_geti C fw_X9_262 (sh_69) rfl d_X9_insured_86 ?_
      refine zr_iconst C (-1 : Int32) d_X9_insured_89 (by decide) ?_
      refine zr_ixor C d_X9_insured_90 ?_
      refine zr_iand C d_X9_insured_91 ?_
      have hJ22 : ∀ z21 : Int32, z21 = (if (v7 &&& ((σ.1 69 18) ^^^ (-1 : Int32))) = (0) then (if v6 ≤ x19 then (0 : Int32) else (1 : Int32)) else (0 : Int32)) → zGG p l e R s m args below meth c Q g n1 n2 10 107 [(8, .int x19), (0, .ref (g.2.1 69)), (1, .int v1), (3, .int v3), (4, .int v4), (5, .int v5), (6, .int v6), (7, .int v7)] [.int z21] σ := by
        intro z21 hz21
        replace h := h z21 hz21
        refine zr_istore C [(9, .int z21), (8, .int x19), (0, .ref (g.2.1 69)), (1, .int v1), (3, .int v3), (4, .int v4), (5, .int v5), (6, .int v6), (7, .int v7)] d_X9_insured_107 (by decide) rfl ?_
        refine zr_iload C d_X9_insured_109 rfl ?_
        have hJ27 : ∀ z26 : Int32, z26 = (if z21 = (0) then v5 else v7) → zGG p l e R s m args below meth c Q g n1 n2 10 121 [(9, .int z21), (8, .int x19), (0, .ref (g.2.1 69)), (1, .int v1), (3, .int v3), (4, .int v4), (5, .int v5), (6, .int v6), (7, .int v7)] [.int z26] σ := by
          intro z26 hz26
          replace h := h z26 hz26
          refine zr_istore C [(5, .int z26), (9, .int z21), (8, .int x19), (0, .ref (g.2.1 69)), (1, .int v1), (3, .int v3), (4, .int v4), (6, .int v6), (7, .int v7)] d_X9_insured_121 (by decide) rfl ?_
          refine zr_iload C d_X9_insured_123 rfl ?_
          have hJ31 : ∀ z30 : Int32, z30 = (if z21 = (0) then v6 else x19) → zGG p l e R s m args below meth c Q g n1 n2 10 135 [(5, .int z26), (9, .int z21), (8, .int x19), (0, .ref (g.2.1 69)), (1, .int v1), (3, .int v3), (4, .int v4), (6, .int v6), (7, .int v7)] [.int z30] σ := by
            intro z30 hz30
            replace h := h z30 hz30
            refine zr_istore C [(6, .int z30), (5, .int z26), (9, .int z21), (8, .int x19), (0, .ref (g.2.1 69)), (1, .int v1), (3, .int v3), (4, .int v4), (7, .int v7)] d_X9_insured_135 (by decide) rfl ?_
            refine zr_iinc C (v7 + 1) [(7, .int (v7 + 1)), (6, .int z30), (5, .int z26), (9, .int z21), (8, .int x19), (0, .ref (g.2.1 69)), (1, .int v1), (3, .int v3), (4, .int v4)] d_X9_insured_137 rfl rfl (by decide) rfl ?_
            refine zr_goto C 49 d_X9_insured_140 (by decide) ?_
            exact zr_pick [5, 6, 7, 8, 2, 1, 0] rfl (ih z26 z30 (v7 + 1) h)
          refine zr_if_eq C 133 d_X9_insured_125 (by decide) (fun hc29 => ?_) (fun hc29 => ?_)
          · skip
            refine zr_iload C d_X9_insured_133 rfl ?_
            exact hJ31 _ (by rw [if_pos hc29])
          · skip
            refine zr_iload C d_X9_insured_128 rfl ?_
            refine zr_goto C 135 d_X9_insured_130 (by decide) ?_
            exact hJ31 _ (by rw [if_neg hc29])
        refine zr_if_eq C 119 d_X9_insured_111 (by decide) (fun hc25 => ?_) (fun hc25 => ?_)
        · skip
          refine zr_iload C d_X9_insured_119 rfl ?_
          exact hJ27 _ (by rw [if_pos hc25])
        · skip
          refine zr_iload C d_X9_insured_114 rfl ?_
          refine zr_goto C 121 d_X9_insured_116 (by decide) ?_
          exact hJ27 _ (by rw [if_neg hc25])
      refine zr_if_ne C 106 d_X9_insured_92 (by decide) (fun hc20 => ?_) (fun hc20 => ?_)
      · skip
        refine zr_iconst C (0 : Int32) d_X9_insured_106 (by decide) ?_
        exact hJ22 _ (by rw [if_neg hc20])
      · skip
        refine zr_iload C d_X9_insured_95 rfl ?_
        refine zr_iload C d_X9_insured_97 rfl ?_
        refine zr_icmp_ge C 106 d_X9_insured_99 (by decide) (fun hc24 => ?_) (fun hc24 => ?_)
        · skip
          refine zr_iconst C (0 : Int32) d_X9_insured_106 (by decide) ?_
          exact hJ22 _ (by rw [if_pos hc20, if_pos hc24])
        · skip
          refine zr_iconst C (1 : Int32) d_X9_insured_102 (by decide) ?_
          refine zr_goto C 107 d_X9_insured_103 (by decide) ?_
          exact hJ22 _ (by rw [if_pos hc20, if_neg hc24])

def wp_X9_insured_J216 (s0 : Int32) (σ : zST) (Post : Int32 → Prop) : Prop := ∀ z39 : Int32, z39 = (if s0 ≤ (0) then (0 : Int32) else s0) → Post z39

set_option maxRecDepth 100000 in
set_option maxHeartbeats 4000000 in
theorem g_X9_insured_J216 {p : Program} {l : Launch} {e : Env} {R : Room} {s : State} {m : MethodId} {args : Array Value} {below : List Frame} {meth : Method} {c : Code} {Q : State → Prop} {g : zG} {n1 n2 : Nat} (C : zCX p R s m args meth c g n1 n2 cX9_insured 10 RX9 3 66) {s0 : Int32} {σ : zST}  {Post : Int32 → Prop} (hret : ∀ (v : Int32) (pc : Nat) (lv : List (Nat × Value)), Post v → decode cX9_insured pc = .ok (.ireturn, 1) → zGG p l e R s m args below meth c Q g n1 n2 10 pc lv [.int v] σ) (h : wp_X9_insured_J216 s0 σ Post) : zGG p l e R s m args below meth c Q g n1 n2 10 216 [] [.int s0] σ := by
  unfold wp_X9_insured_J216 at h
  refine zr_istore C [(8, .int s0)] d_X9_insured_216 (by decide) rfl ?_
  refine zr_iload C d_X9_insured_218 rfl ?_
  have hJ40 : ∀ z39 : Int32, z39 = (if s0 ≤ (0) then (0 : Int32) else s0) → zGG p l e R s m args below meth c Q g n1 n2 10 229 [(8, .int s0)] [.int z39] σ := by
    intro z39 hz39
    replace h := h z39 hz39
    exact hret _ _ _ h d_X9_insured_229
  refine zr_if_le C 228 d_X9_insured_220 (by decide) (fun hc38 => ?_) (fun hc38 => ?_)
  · skip
    refine zr_iconst C (0 : Int32) d_X9_insured_228 (by decide) ?_
    exact hJ40 _ (by rw [if_pos hc38])
  · skip
    refine zr_iload C d_X9_insured_223 rfl ?_
    refine zr_goto C 229 d_X9_insured_225 (by decide) ?_
    exact hJ40 _ (by rw [if_neg hc38])

def wp_X9_insured_J192 (v5 : Int32) (s0 : Int32) (σ : zST) (Post : Int32 → Prop) : Prop := wp_X9_premiums v5 σ (fun r35 => (if r35 ≤ s0 then wp_X9_insured_J216 s0 σ Post else wp_X9_premiums v5 σ (fun r42 => wp_X9_insured_J216 r42 σ Post)))

set_option maxRecDepth 100000 in
set_option maxHeartbeats 4000000 in
theorem g_X9_insured_J192 {p : Program} {l : Launch} {e : Env} {R : Room} {s : State} {m : MethodId} {args : Array Value} {below : List Frame} {meth : Method} {c : Code} {Q : State → Prop} {g : zG} {n1 n2 : Nat} (C : zCX p R s m args meth c g n1 n2 cX9_insured 10 RX9 3 66) {v5 : Int32} {s0 : Int32} {σ : zST}  {Post : Int32 → Prop} (hret : ∀ (v : Int32) (pc : Nat) (lv : List (Nat × Value)), Post v → decode cX9_insured pc = .ok (.ireturn, 1) → zGG p l e R s m args below meth c Q g n1 n2 10 pc lv [.int v] σ) (h : wp_X9_insured_J192 v5 s0 σ Post) : zGG p l e R s m args below meth c Q g n1 n2 10 192 [(0, .ref (g.2.1 69)), (5, .int v5)] [.int s0] σ := by
  unfold wp_X9_insured_J192 at h
  refine zr_istore C [(7, .int s0), (0, .ref (g.2.1 69)), (5, .int v5)] d_X9_insured_192 (by decide) rfl ?_
  refine zr_aload_n C d_X9_insured_194 rfl ?_
  refine zr_iload C d_X9_insured_195 rfl ?_
  refine zr_cip (zr_runV (As := [.int v5]) (rest := []) C vw_X9_268 (c_X9_premiums l g v5 σ _ h) (sh_69) rfl (by decide) (by decide) rfl rfl (Nat.le_of_ble_eq_true rfl) d_X9_insured_197) (fun r35 h => ?_)
  refine zr_iload C d_X9_insured_200 rfl ?_
  refine zr_icmp_le C 214 d_X9_insured_202 (by decide) (fun hc37 => ?_) (fun hc37 => ?_)
  · rw [if_pos hc37] at h
    refine zr_iload C d_X9_insured_214 rfl ?_
    exact zr_pick [] rfl (g_X9_insured_J216 C hret h)
  · rw [if_neg hc37] at h
    refine zr_aload_n C d_X9_insured_205 rfl ?_
    refine zr_iload C d_X9_insured_206 rfl ?_
    refine zr_cip (zr_runV (As := [.int v5]) (rest := []) C vw_X9_268 (c_X9_premiums l g v5 σ _ h) (sh_69) rfl (by decide) (by decide) rfl rfl (Nat.le_of_ble_eq_true rfl) d_X9_insured_208) (fun r42 h => ?_)
    refine zr_goto C 216 d_X9_insured_211 (by decide) ?_
    exact zr_pick [] rfl (g_X9_insured_J216 C hret h)

def wp_X9_insured (p1 : Int32) (p2 : Int32) (p3 : Int32) (σ : zST) (Post : Int32 → Prop) : Prop := wp_X9_isShip p1 σ (fun r1 => (if r1 = (0) then Post (-1 : Int32) else wp_X9_isHour p2 σ (fun r4 => (if r4 = (0) then Post (-2 : Int32) else wp_X9_in (p3.toInt64) (0 : Int64) (2 : Int64) σ (fun r7 => (if r7 = (0) then Post (-2 : Int32) else wp_X9_tenths p2 σ (fun r10 => ∃ M71 : Nat, wp_X9_insured_L49 p1 p3 r10 σ (fun w5 w6 => (if (2 : Int32) ≤ p3 then (if r10 ≤ (0) then wp_X9_insured_J192 w5 (0 : Int32) σ Post else wp_X9_allOf p1 σ (fun r48 => wp_X9_got w5 σ (fun r50 => wp_X9_premiums w5 σ (fun r52 => wp_X9_insured_J192 w5 ((r48 - r50) + r52) σ Post)))) else ∀ z68 : Int32, z68 = (if p3 = (0) then (w6 + (1000000 : Int32)) else w5) → Post z68)) M71 (0 : Int32) (1000000000 : Int32) (0 : Int32))))))))
set_option maxRecDepth 100000 in
set_option maxHeartbeats 4000000 in
theorem g_X9_insured {p : Program} {l : Launch} {e : Env} {R : Room} {s : State} {m : MethodId} {args : Array Value} {below : List Frame} {meth : Method} {c : Code} {Q : State → Prop} {g : zG} {n1 n2 : Nat} (C : zCX p R s m args meth c g n1 n2 cX9_insured 10 RX9 3 66) {p1 : Int32} {p2 : Int32} {p3 : Int32} {σ : zST} {Post : Int32 → Prop} (hret : ∀ (v : Int32) (pc : Nat) (lv : List (Nat × Value)), Post v → decode cX9_insured pc = .ok (.ireturn, 1) → zGG p l e R s m args below meth c Q g n1 n2 10 pc lv [.int v] σ) (h : wp_X9_insured p1 p2 p3 σ Post) : zGG p l e R s m args below meth c Q g n1 n2 10 0 [(0, .ref (g.2.1 69)), (1, .int p1), (2, .int p2), (3, .int p3)] [] σ := by
  unfold wp_X9_insured at h
  refine zr_aload_n C d_X9_insured_0 rfl ?_
  refine zr_iload_n C d_X9_insured_1 rfl ?_
  refine zr_cip (zr_runV (As := [.int p1]) (rest := []) C vw_X9_112 (c_X9_isShip l g p1 σ _ h) (sh_69) rfl (by decide) (by decide) rfl rfl (Nat.le_of_ble_eq_true rfl) d_X9_insured_2) (fun r1 h => ?_)
  refine zr_if_ne C 10 d_X9_insured_5 (by decide) (fun hc3 => ?_) (fun hc3 => ?_)
  · rw [if_neg hc3] at h
    refine zr_iload_n C d_X9_insured_10 rfl ?_
    refine zr_cip (zr_runS (As := [.int p2]) (rest := []) C sw_X9_219 (c_X9_isHour l g p2 σ _ h) (by decide) (by decide) rfl rfl (Nat.le_of_ble_eq_true rfl) d_X9_insured_11) (fun r4 h => ?_)
    refine zr_if_eq C 29 d_X9_insured_14 (by decide) (fun hc6 => ?_) (fun hc6 => ?_)
    · rw [if_pos hc6] at h
      refine zr_bipush C (-2 : Int32) d_X9_insured_29 (by decide) ?_
      exact hret _ _ _ h d_X9_insured_31
    · rw [if_neg hc6] at h
      refine zr_iload_n C d_X9_insured_17 rfl ?_
      refine zr_i2l C d_X9_insured_18 ?_
      refine zr_lconst C (0 : Int64) d_X9_insured_19 (by decide) ?_
      refine zr_ldc2 C (v := (2 : Int64)) cl_X9_102 d_X9_insured_20 ?_
      refine zr_cip (zr_runS (As := [.long (p3.toInt64), .long (0 : Int64), .long (2 : Int64)]) (rest := []) C sw_X9_89 (c_X9_in l g (p3.toInt64) (0 : Int64) (2 : Int64) σ _ h) (by decide) (by decide) rfl rfl (Nat.le_of_ble_eq_true rfl) d_X9_insured_23) (fun r7 h => ?_)
      refine zr_if_ne C 32 d_X9_insured_26 (by decide) (fun hc9 => ?_) (fun hc9 => ?_)
      · rw [if_neg hc9] at h
        refine zr_aload_n C d_X9_insured_32 rfl ?_
        refine zr_iload_n C d_X9_insured_33 rfl ?_
        refine zr_cip (zr_runV (As := [.int p2]) (rest := []) C vw_X9_163 (c_X9_tenths l g p2 σ _ h) (sh_69) rfl (by decide) (by decide) rfl rfl (Nat.le_of_ble_eq_true rfl) d_X9_insured_34) (fun r10 h => ?_)
        refine zr_istore C [(4, .int r10), (0, .ref (g.2.1 69)), (1, .int p1), (2, .int p2), (3, .int p3)] d_X9_insured_37 (by decide) rfl ?_
        refine zr_iconst C (0 : Int32) d_X9_insured_39 (by decide) ?_
        refine zr_istore C [(5, .int (0 : Int32)), (4, .int r10), (0, .ref (g.2.1 69)), (1, .int p1), (2, .int p2), (3, .int p3)] d_X9_insured_40 (by decide) rfl ?_
        refine zr_ldc C (v := (1000000000 : Int32)) cw_X9_230 d_X9_insured_42 ?_
        refine zr_istore C [(6, .int (1000000000 : Int32)), (5, .int (0 : Int32)), (4, .int r10), (0, .ref (g.2.1 69)), (1, .int p1), (2, .int p2), (3, .int p3)] d_X9_insured_44 (by decide) rfl ?_
        refine zr_iconst C (0 : Int32) d_X9_insured_46 (by decide) ?_
        refine zr_istore C [(7, .int (0 : Int32)), (6, .int (1000000000 : Int32)), (5, .int (0 : Int32)), (4, .int r10), (0, .ref (g.2.1 69)), (1, .int p1), (2, .int p2), (3, .int p3)] d_X9_insured_47 (by decide) rfl ?_
        obtain ⟨M71, h⟩ := h
        exact zr_pick [4, 5, 7, 3, 2, 1, 0] rfl (g_X9_insured_L49 C (fun w5 w6 h => by
            refine zr_iload_n C d_X9_insured_143 rfl ?_
            refine zr_iconst C (2 : Int32) d_X9_insured_144 (by decide) ?_
            refine zr_icmp_ge C 164 d_X9_insured_145 (by decide) (fun hc33 => ?_) (fun hc33 => ?_)
            · rw [if_pos hc33] at h
              refine zr_iload C d_X9_insured_164 rfl ?_
              refine zr_if_le C 191 d_X9_insured_166 (by decide) (fun hc34 => ?_) (fun hc34 => ?_)
              · rw [if_pos hc34] at h
                refine zr_iconst C (0 : Int32) d_X9_insured_191 (by decide) ?_
                exact zr_pick [0, 4] rfl (g_X9_insured_J192 C hret h)
              · rw [if_neg hc34] at h
                refine zr_aload_n C d_X9_insured_169 rfl ?_
                refine zr_iload_n C d_X9_insured_170 rfl ?_
                refine zr_cip (zr_runV (As := [.int p1]) (rest := []) C vw_X9_209 (c_X9_allOf l g p1 σ _ h) (sh_69) rfl (by decide) (by decide) rfl rfl (Nat.le_of_ble_eq_true rfl) d_X9_insured_171) (fun r48 h => ?_)
                refine zr_aload_n C d_X9_insured_174 rfl ?_
                refine zr_iload C d_X9_insured_175 rfl ?_
                refine zr_cip (zr_runV (As := [.int w5]) (rest := [.int r48]) C vw_X9_265 (c_X9_got l g w5 σ _ h) (sh_69) rfl (by decide) (by decide) rfl rfl (Nat.le_of_ble_eq_true rfl) d_X9_insured_177) (fun r50 h => ?_)
                refine zr_isub C d_X9_insured_180 ?_
                refine zr_aload_n C d_X9_insured_181 rfl ?_
                refine zr_iload C d_X9_insured_182 rfl ?_
                refine zr_cip (zr_runV (As := [.int w5]) (rest := [.int (r48 - r50)]) C vw_X9_268 (c_X9_premiums l g w5 σ _ h) (sh_69) rfl (by decide) (by decide) rfl rfl (Nat.le_of_ble_eq_true rfl) d_X9_insured_184) (fun r52 h => ?_)
                refine zr_iadd C d_X9_insured_187 ?_
                refine zr_goto C 192 d_X9_insured_188 (by decide) ?_
                exact zr_pick [0, 4] rfl (g_X9_insured_J192 C hret h)
            · rw [if_neg hc33] at h
              refine zr_iload_n C d_X9_insured_148 rfl ?_
              have hJ69 : ∀ z68 : Int32, z68 = (if p3 = (0) then (w6 + (1000000 : Int32)) else w5) → zGG p l e R s m args below meth c Q g n1 n2 10 163 [(0, .ref (g.2.1 69)), (1, .int p1), (3, .int p3), (4, .int r10), (5, .int w5), (6, .int w6)] [.int z68] σ := by
                intro z68 hz68
                replace h := h z68 hz68
                exact hret _ _ _ h d_X9_insured_163
              refine zr_if_ne C 161 d_X9_insured_149 (by decide) (fun hc67 => ?_) (fun hc67 => ?_)
              · skip
                refine zr_iload C d_X9_insured_161 rfl ?_
                exact hJ69 _ (by rw [if_neg hc67])
              · skip
                refine zr_iload C d_X9_insured_152 rfl ?_
                refine zr_ldcw C (v := (1000000 : Int32)) cw_X9_271 d_X9_insured_154 ?_
                refine zr_iadd C d_X9_insured_157 ?_
                refine zr_goto C 163 d_X9_insured_158 (by decide) ?_
                exact hJ69 _ (by rw [if_pos hc67])) M71 (0 : Int32) (1000000000 : Int32) (0 : Int32) h)
      · rw [if_pos hc9] at h
        refine zr_bipush C (-2 : Int32) d_X9_insured_29 (by decide) ?_
        exact hret _ _ _ h d_X9_insured_31
  · rw [if_pos hc3] at h
    refine zr_iconst C (-1 : Int32) d_X9_insured_8 (by decide) ?_
    exact hret _ _ _ h d_X9_insured_9
set_option maxRecDepth 20000 in
theorem c_X9_insured (l : Launch) (g : zG) (p1 : Int32) (p2 : Int32) (p3 : Int32) (σ : zST) (Post : Int32 → Prop) (h : wp_X9_insured p1 p2 p3 σ Post) : Met l yX9_insured (Cond.code yX9_insured cX9_insured 10 (some .int) :: zGW) (zRm 3 66) (va_Pc [.ref (g.2.1 69), .int p1, .int p2, .int p3] (zPP g σ)) (va_Qi (fun r u => Post r ∧ u = σ) (zBB g) (zA g)) 0 0 (zA g) :=
  zMet (by decide) (Nat.le_of_ble_eq_true rfl) (fun p e s m below meth c hr C => g_X9_insured C (fun v pc lv hp hd => zr_iret C hr ⟨hp, rfl⟩ hd) h)
def wp_X9_isAboard (p1 : Int32) (σ : zST) (Post : Int32 → Prop) : Prop := wp_X9_in (p1.toInt64) (0 : Int64) (7 : Int64) σ (fun r1 => ∀ z4 : Int32, z4 = (if r1 = (0) then (0 : Int32) else (if (((σ.1 69 21) >>> (p1 &&& 31)) &&& (1 : Int32)) = (1 : Int32) then (1 : Int32) else (0 : Int32))) → zB z4 ∧ Post z4)
set_option maxRecDepth 100000 in
set_option maxHeartbeats 4000000 in
theorem g_X9_isAboard {p : Program} {l : Launch} {e : Env} {R : Room} {s : State} {m : MethodId} {args : Array Value} {below : List Frame} {meth : Method} {c : Code} {Q : State → Prop} {g : zG} {n1 n2 : Nat} (C : zCX p R s m args meth c g n1 n2 cX9_isAboard 2 RX9 1 25) {p1 : Int32} {σ : zST} {Post : Int32 → Prop} (hret : ∀ (v : Int32) (pc : Nat) (lv : List (Nat × Value)), zB v → Post v → decode cX9_isAboard pc = .ok (.ireturn, 1) → zGG p l e R s m args below meth c Q g n1 n2 2 pc lv [.int v] σ) (h : wp_X9_isAboard p1 σ Post) : zGG p l e R s m args below meth c Q g n1 n2 2 0 [(0, .ref (g.2.1 69)), (1, .int p1)] [] σ := by
  unfold wp_X9_isAboard at h
  refine zr_iload_n C d_X9_isAboard_0 rfl ?_
  refine zr_i2l C d_X9_isAboard_1 ?_
  refine zr_lconst C (0 : Int64) d_X9_isAboard_2 (by decide) ?_
  refine zr_ldc2 C (v := (7 : Int64)) cl_X9_118 d_X9_isAboard_3 ?_
  refine zr_cip (zr_runS (As := [.long (p1.toInt64), .long (0 : Int64), .long (7 : Int64)]) (rest := []) C sw_X9_89 (c_X9_in l g (p1.toInt64) (0 : Int64) (7 : Int64) σ _ h) (by decide) (by decide) rfl rfl (Nat.le_of_ble_eq_true rfl) d_X9_isAboard_6) (fun r1 h => ?_)
  have hJ5 : ∀ z4 : Int32, z4 = (if r1 = (0) then (0 : Int32) else (if (((σ.1 69 21) >>> (p1 &&& 31)) &&& (1 : Int32)) = (1 : Int32) then (1 : Int32) else (0 : Int32))) → zGG p l e R s m args below meth c Q g n1 n2 2 29 [(0, .ref (g.2.1 69)), (1, .int p1)] [.int z4] σ := by
    intro z4 hz4
    replace h := h z4 hz4
    exact hret _ _ _ h.1 h.2 d_X9_isAboard_29
  refine zr_if_eq C 28 d_X9_isAboard_9 (by decide) (fun hc3 => ?_) (fun hc3 => ?_)
  · skip
    refine zr_iconst C (0 : Int32) d_X9_isAboard_28 (by decide) ?_
    exact hJ5 _ (by rw [if_pos hc3])
  · skip
    refine zr_aload_n C d_X9_isAboard_12 rfl ?_
    refine zr_geti C fw_X9_272 (sh_69) rfl d_X9_isAboard_13 ?_
    refine zr_iload_n C d_X9_isAboard_16 rfl ?_
    refine zr_ishr C d_X9_isAboard_17 ?_
    refine zr_iconst C (1 : Int32) d_X9_isAboard_18 (by decide) ?_
    refine zr_iand C d_X9_isAboard_19 ?_
    refine zr_iconst C (1 : Int32) d_X9_isAboard_20 (by decide) ?_
    refine zr_icmp_ne C 28 d_X9_isAboard_21 (by decide) (fun hc7 => ?_) (fun hc7 => ?_)
    · skip
      refine zr_iconst C (0 : Int32) d_X9_isAboard_28 (by decide) ?_
      exact hJ5 _ (by rw [if_neg hc3, if_neg hc7])
    · skip
      refine zr_iconst C (1 : Int32) d_X9_isAboard_24 (by decide) ?_
      refine zr_goto C 29 d_X9_isAboard_25 (by decide) ?_
      exact hJ5 _ (by rw [if_neg hc3, if_pos hc7])
set_option maxRecDepth 20000 in
theorem c_X9_isAboard (l : Launch) (g : zG) (p1 : Int32) (σ : zST) (Post : Int32 → Prop) (h : wp_X9_isAboard p1 σ Post) : Met l yX9_isAboard (Cond.code yX9_isAboard cX9_isAboard 2 (some .boolean) :: zGW) (zRm 1 25) (va_Pc [.ref (g.2.1 69), .int p1] (zPP g σ)) (va_Qi (fun r u => Post r ∧ u = σ) (zBB g) (zA g)) 0 0 (zA g) :=
  zMet (by decide) (Nat.le_of_ble_eq_true rfl) (fun p e s m below meth c hr C => g_X9_isAboard C (fun v pc lv hz hp hd => zr_zret C hr hz ⟨hp, rfl⟩ hd) h)
def wp_X9_aboard (p1 : Int32) (p2 : Int32) (σ : zST) (Post : Int32 → zST → Prop) : Prop := wp_X9_in (p1.toInt64) (0 : Int64) (7 : Int64) σ (fun r1 => (if r1 = (0) then Post (-1 : Int32) σ else wp_X9_in (p2.toInt64) (0 : Int64) (9 : Int64) σ (fun r4 => (if r4 = (0) then Post (-2 : Int32) σ else vp_in p1 8 ∧ ∀ σ8 : zST, σ8 = (wI σ 77 p1.toNatClampNeg p2) → ∀ σ9 : zST, σ9 = (wI σ8 69 21 ((σ8.1 69 21) ||| ((1 : Int32) <<< (p1 &&& 31)))) → wp_X9_ones (σ9.1 69 21) σ9 (fun r10 => Post r10 σ9)))))
set_option maxRecDepth 100000 in
set_option maxHeartbeats 4000000 in
theorem g_X9_aboard {p : Program} {l : Launch} {e : Env} {R : Room} {s : State} {m : MethodId} {args : Array Value} {below : List Frame} {meth : Method} {c : Code} {Q : State → Prop} {g : zG} {n1 n2 : Nat} (C : zCX p R s m args meth c g n1 n2 cX9_aboard 3 RX9 1 25) {p1 : Int32} {p2 : Int32} {σ : zST} {Post : Int32 → zST → Prop} (hret : ∀ (v : Int32) (σ : zST) (pc : Nat) (lv : List (Nat × Value)), Post v σ → decode cX9_aboard pc = .ok (.ireturn, 1) → zGG p l e R s m args below meth c Q g n1 n2 3 pc lv [.int v] σ) (h : wp_X9_aboard p1 p2 σ Post) : zGG p l e R s m args below meth c Q g n1 n2 3 0 [(0, .ref (g.2.1 69)), (1, .int p1), (2, .int p2)] [] σ := by
  unfold wp_X9_aboard at h
  refine zr_iload_n C d_X9_aboard_0 rfl ?_
  refine zr_i2l C d_X9_aboard_1 ?_
  refine zr_lconst C (0 : Int64) d_X9_aboard_2 (by decide) ?_
  refine zr_ldc2 C (v := (7 : Int64)) cl_X9_118 d_X9_aboard_3 ?_
  refine zr_cip (zr_runS (As := [.long (p1.toInt64), .long (0 : Int64), .long (7 : Int64)]) (rest := []) C sw_X9_89 (c_X9_in l g (p1.toInt64) (0 : Int64) (7 : Int64) σ _ h) (by decide) (by decide) rfl rfl (Nat.le_of_ble_eq_true rfl) d_X9_aboard_6) (fun r1 h => ?_)
  refine zr_if_ne C 14 d_X9_aboard_9 (by decide) (fun hc3 => ?_) (fun hc3 => ?_)
  · rw [if_neg hc3] at h
    refine zr_iload_n C d_X9_aboard_14 rfl ?_
    refine zr_i2l C d_X9_aboard_15 ?_
    refine zr_lconst C (0 : Int64) d_X9_aboard_16 (by decide) ?_
    refine zr_ldc2 C (v := (9 : Int64)) cl_X9_106 d_X9_aboard_17 ?_
    refine zr_cip (zr_runS (As := [.long (p2.toInt64), .long (0 : Int64), .long (9 : Int64)]) (rest := []) C sw_X9_89 (c_X9_in l g (p2.toInt64) (0 : Int64) (9 : Int64) σ _ h) (by decide) (by decide) rfl rfl (Nat.le_of_ble_eq_true rfl) d_X9_aboard_20) (fun r4 h => ?_)
    refine zr_if_ne C 29 d_X9_aboard_23 (by decide) (fun hc6 => ?_) (fun hc6 => ?_)
    · rw [if_neg hc6] at h
      refine zr_aload_n C d_X9_aboard_29 rfl ?_
      refine zr_getr (u := 77) C fw_X9_31 (sh_69) rfl d_X9_aboard_30 ?_
      refine zr_iload_n C d_X9_aboard_33 rfl ?_
      refine zr_iload_n C d_X9_aboard_34 rfl ?_
      obtain ⟨ho7, h⟩ := h
      refine zr_iast C (sh_77) ho7 d_X9_aboard_35 ?_
      refine zr_aload_n C d_X9_aboard_36 rfl ?_
      refine zr_dup C d_X9_aboard_37 rfl ?_
      refine zr_tops (fun σ8 hσ8 => ?_)
      replace h := h σ8 hσ8
      refine zr_geti C fw_X9_272 (sh_69) rfl d_X9_aboard_38 ?_
      refine zr_iconst C (1 : Int32) d_X9_aboard_41 (by decide) ?_
      refine zr_iload_n C d_X9_aboard_42 rfl ?_
      refine zr_ishl C d_X9_aboard_43 ?_
      refine zr_ior C d_X9_aboard_44 ?_
      refine zr_puti C fw_X9_272 pw_X9_21 (sh_69) rfl rfl rfl d_X9_aboard_45 ?_
      refine zr_aload_n C d_X9_aboard_48 rfl ?_
      refine zr_tops (fun σ9 hσ9 => ?_)
      replace h := h σ9 hσ9
      refine zr_geti C fw_X9_272 (sh_69) rfl d_X9_aboard_49 ?_
      refine zr_cip (zr_runS (As := [.int (σ9.1 69 21)]) (rest := []) C sw_X9_108 (c_X9_ones l g (σ9.1 69 21) σ9 _ h) (by decide) (by decide) rfl rfl (Nat.le_of_ble_eq_true rfl) d_X9_aboard_52) (fun r10 h => ?_)
      exact hret _ _ _ _ h d_X9_aboard_55
    · rw [if_pos hc6] at h
      refine zr_bipush C (-2 : Int32) d_X9_aboard_26 (by decide) ?_
      exact hret _ _ _ _ h d_X9_aboard_28
  · rw [if_pos hc3] at h
    refine zr_iconst C (-1 : Int32) d_X9_aboard_12 (by decide) ?_
    exact hret _ _ _ _ h d_X9_aboard_13
set_option maxRecDepth 20000 in
theorem c_X9_aboard (l : Launch) (g : zG) (p1 : Int32) (p2 : Int32) (σ : zST) (Post : Int32 → zST → Prop) (h : wp_X9_aboard p1 p2 σ Post) : Met l yX9_aboard (Cond.code yX9_aboard cX9_aboard 3 (some .int) :: zGW) (zRm 1 25) (va_Pc [.ref (g.2.1 69), .int p1, .int p2] (zPP g σ)) (va_Qi Post (zBB g) (zA g)) 0 0 (zA g) :=
  zMet (by decide) (Nat.le_of_ble_eq_true rfl) (fun p e s m below meth c hr C => g_X9_aboard C (fun v σ pc lv hp hd => zr_iret C hr hp hd) h)
def wp_X9_ashore (p1 : Int32) (σ : zST) (Post : Int32 → zST → Prop) : Prop := wp_X9_isAboard p1 σ (fun r1 => (if r1 = (0) then Post (-1 : Int32) σ else ∀ σ4 : zST, σ4 = (wI σ 69 21 ((σ.1 69 21) &&& (((1 : Int32) <<< (p1 &&& 31)) ^^^ (-1 : Int32)))) → wp_X9_ones (σ4.1 69 21) σ4 (fun r5 => Post r5 σ4)))
set_option maxRecDepth 100000 in
set_option maxHeartbeats 4000000 in
theorem g_X9_ashore {p : Program} {l : Launch} {e : Env} {R : Room} {s : State} {m : MethodId} {args : Array Value} {below : List Frame} {meth : Method} {c : Code} {Q : State → Prop} {g : zG} {n1 n2 : Nat} (C : zCX p R s m args meth c g n1 n2 cX9_ashore 2 RX9 2 46) {p1 : Int32} {σ : zST} {Post : Int32 → zST → Prop} (hret : ∀ (v : Int32) (σ : zST) (pc : Nat) (lv : List (Nat × Value)), Post v σ → decode cX9_ashore pc = .ok (.ireturn, 1) → zGG p l e R s m args below meth c Q g n1 n2 2 pc lv [.int v] σ) (h : wp_X9_ashore p1 σ Post) : zGG p l e R s m args below meth c Q g n1 n2 2 0 [(0, .ref (g.2.1 69)), (1, .int p1)] [] σ := by
  unfold wp_X9_ashore at h
  refine zr_aload_n C d_X9_ashore_0 rfl ?_
  refine zr_iload_n C d_X9_ashore_1 rfl ?_
  refine zr_cip (zr_runV (As := [.int p1]) (rest := []) C vw_X9_275 (c_X9_isAboard l g p1 σ _ h) (sh_69) rfl (by decide) (by decide) rfl rfl (Nat.le_of_ble_eq_true rfl) d_X9_ashore_2) (fun r1 h => ?_)
  refine zr_if_ne C 10 d_X9_ashore_5 (by decide) (fun hc3 => ?_) (fun hc3 => ?_)
  · rw [if_neg hc3] at h
    refine zr_aload_n C d_X9_ashore_10 rfl ?_
    refine zr_dup C d_X9_ashore_11 rfl ?_
    refine zr_geti C fw_X9_272 (sh_69) rfl d_X9_ashore_12 ?_
    refine zr_iconst C (1 : Int32) d_X9_ashore_15 (by decide) ?_
    refine zr_iload_n C d_X9_ashore_16 rfl ?_
    refine zr_ishl C d_X9_ashore_17 ?_
    refine zr_iconst C (-1 : Int32) d_X9_ashore_18 (by decide) ?_
    refine zr_ixor C d_X9_ashore_19 ?_
    refine zr_iand C d_X9_ashore_20 ?_
    refine zr_puti C fw_X9_272 pw_X9_21 (sh_69) rfl rfl rfl d_X9_ashore_21 ?_
    refine zr_aload_n C d_X9_ashore_24 rfl ?_
    refine zr_tops (fun σ4 hσ4 => ?_)
    replace h := h σ4 hσ4
    refine zr_geti C fw_X9_272 (sh_69) rfl d_X9_ashore_25 ?_
    refine zr_cip (zr_runS (As := [.int (σ4.1 69 21)]) (rest := []) C sw_X9_108 (c_X9_ones l g (σ4.1 69 21) σ4 _ h) (by decide) (by decide) rfl rfl (Nat.le_of_ble_eq_true rfl) d_X9_ashore_28) (fun r5 h => ?_)
    exact hret _ _ _ _ h d_X9_ashore_31
  · rw [if_pos hc3] at h
    refine zr_iconst C (-1 : Int32) d_X9_ashore_8 (by decide) ?_
    exact hret _ _ _ _ h d_X9_ashore_9
set_option maxRecDepth 20000 in
theorem c_X9_ashore (l : Launch) (g : zG) (p1 : Int32) (σ : zST) (Post : Int32 → zST → Prop) (h : wp_X9_ashore p1 σ Post) : Met l yX9_ashore (Cond.code yX9_ashore cX9_ashore 2 (some .int) :: zGW) (zRm 2 46) (va_Pc [.ref (g.2.1 69), .int p1] (zPP g σ)) (va_Qi Post (zBB g) (zA g)) 0 0 (zA g) :=
  zMet (by decide) (Nat.le_of_ble_eq_true rfl) (fun p e s m below meth c hr C => g_X9_ashore C (fun v σ pc lv hp hd => zr_iret C hr hp hd) h)
def wp_X9_lowest_J31 (v0 : Int64) (v2 : Int64) (v4 : Int32) (v5 : Int64) (σ : zST) (Post : Int64 → Prop) : Prop := (if v4 = (0) then ¬ v5 = 0 ∧ True else ¬ v5 = 0 ∧ True) ∧ ∀ z3 : Int64, z3 = (if v4 = (0) then (v0 / v5) else (v2 / v5)) → Post z3

set_option maxRecDepth 100000 in
set_option maxHeartbeats 4000000 in
theorem g_X9_lowest_J31 {p : Program} {l : Launch} {e : Env} {R : Room} {s : State} {m : MethodId} {args : Array Value} {below : List Frame} {meth : Method} {c : Code} {Q : State → Prop} {g : zG} {n1 n2 : Nat} (C : zCX p R s m args meth c g n1 n2 cX9_lowest 11 RX9 0 0) {v0 : Int64} {v2 : Int64} {v4 : Int32} {v5 : Int64} {σ : zST}  {Post : Int64 → Prop} (hret : ∀ (v : Int64) (pc : Nat) (lv : List (Nat × Value)), Post v → decode cX9_lowest pc = .ok (.lreturn, 1) → zGG p l e R s m args below meth c Q g n1 n2 11 pc lv [.long v] σ) (h : wp_X9_lowest_J31 v0 v2 v4 v5 σ Post) : zGG p l e R s m args below meth c Q g n1 n2 11 31 [(0, .long v0), (2, .long v2), (4, .int v4), (5, .long v5)] [] σ := by
  unfold wp_X9_lowest_J31 at h
  refine zr_iload C d_X9_lowest_31 rfl ?_
  obtain ⟨ho5, h⟩ := h
  have hJ4 : ∀ z3 : Int64, z3 = (if v4 = (0) then (v0 / v5) else (v2 / v5)) → zGG p l e R s m args below meth c Q g n1 n2 11 47 [(0, .long v0), (2, .long v2), (4, .int v4), (5, .long v5)] [.long z3] σ := by
    intro z3 hz3
    replace h := h z3 hz3
    exact hret _ _ _ h d_X9_lowest_47
  refine zr_if_ne C 43 d_X9_lowest_33 (by decide) (fun hc2 => ?_) (fun hc2 => ?_)
  · skip
    rw [if_neg hc2] at ho5
    refine zr_lload_n C d_X9_lowest_43 rfl ?_
    refine zr_lload C d_X9_lowest_44 rfl ?_
    obtain ⟨ho6, ho5⟩ := ho5
    refine zr_ldiv C d_X9_lowest_46 ho6 ?_
    exact hJ4 _ (by rw [if_neg hc2])
  · skip
    rw [if_pos hc2] at ho5
    refine zr_lload_n C d_X9_lowest_36 rfl ?_
    refine zr_lload C d_X9_lowest_37 rfl ?_
    obtain ⟨ho7, ho5⟩ := ho5
    refine zr_ldiv C d_X9_lowest_39 ho7 ?_
    refine zr_goto C 47 d_X9_lowest_40 (by decide) ?_
    exact hJ4 _ (by rw [if_pos hc2])

def wp_X9_lowest_L6 (v0 : Int64) (v2 : Int64) (v4 : Int32) (σ : zST) (Post : Int64 → Prop) : Nat → Int64 → Int64 → Prop
  | 0, _, _ => False
  | N + 1, v5, v7 => (if (lg_cmp v7 (0 : Int64)) = (0) then wp_X9_lowest_J31 v0 v2 v4 v5 σ Post else ¬ v7 = 0 ∧ ∀ x9 : Int64, x9 = (v5 - v5 / v7 * v7) → wp_X9_lowest_L6 v0 v2 v4 σ Post N v7 x9)

set_option maxRecDepth 100000 in
set_option maxHeartbeats 4000000 in
theorem g_X9_lowest_L6 {p : Program} {l : Launch} {e : Env} {R : Room} {s : State} {m : MethodId} {args : Array Value} {below : List Frame} {meth : Method} {c : Code} {Q : State → Prop} {g : zG} {n1 n2 : Nat} (C : zCX p R s m args meth c g n1 n2 cX9_lowest 11 RX9 0 0) {v0 : Int64} {v2 : Int64} {v4 : Int32} {σ : zST}  {Post : Int64 → Prop} (hret : ∀ (v : Int64) (pc : Nat) (lv : List (Nat × Value)), Post v → decode cX9_lowest pc = .ok (.lreturn, 1) → zGG p l e R s m args below meth c Q g n1 n2 11 pc lv [.long v] σ) : ∀ (N : Nat) (v5 : Int64) (v7 : Int64) , wp_X9_lowest_L6 v0 v2 v4 σ Post N v5 v7 → zGG p l e R s m args below meth c Q g n1 n2 11 6 [(0, .long v0), (2, .long v2), (4, .int v4), (5, .long v5), (7, .long v7)] [] σ := by
  intro N
  induction N with
  | zero =>
    intro v5 v7 h
    exact h.elim
  | succ N ih =>
    intro v5 v7 h
    rw [wp_X9_lowest_L6] at h
    refine zr_lload C d_X9_lowest_6 rfl ?_
    refine zr_lconst C (0 : Int64) d_X9_lowest_8 (by decide) ?_
    refine zr_lcmp C d_X9_lowest_9 ?_
    refine zr_if_eq C 31 d_X9_lowest_10 (by decide) (fun hc1 => ?_) (fun hc1 => ?_)
    · rw [if_pos hc1] at h
      exact zr_pick [0, 1, 2, 3] rfl (g_X9_lowest_J31 C hret h)
    · rw [if_neg hc1] at h
      refine zr_lload C d_X9_lowest_13 rfl ?_
      refine zr_lload C d_X9_lowest_15 rfl ?_
      obtain ⟨ho8, h⟩ := h
      refine zr_lrem C d_X9_lowest_17 ho8 ?_
      refine zr_topl (fun x9 hx9 => ?_)
      replace h := h x9 hx9
      refine zr_lstore C [(9, .long x9), (0, .long v0), (2, .long v2), (4, .int v4), (5, .long v5), (7, .long v7)] d_X9_lowest_18 (by decide) rfl ?_
      refine zr_lload C d_X9_lowest_20 rfl ?_
      refine zr_lstore C [(5, .long v7), (9, .long x9), (0, .long v0), (2, .long v2), (4, .int v4), (7, .long v7)] d_X9_lowest_22 (by decide) rfl ?_
      refine zr_lload C d_X9_lowest_24 rfl ?_
      refine zr_lstore C [(7, .long x9), (5, .long v7), (9, .long x9), (0, .long v0), (2, .long v2), (4, .int v4)] d_X9_lowest_26 (by decide) rfl ?_
      refine zr_goto C 6 d_X9_lowest_28 (by decide) ?_
      exact zr_pick [3, 4, 5, 1, 0] rfl (ih v7 x9 h)

def wp_X9_lowest (p0 : Int64) (p2 : Int64) (p4 : Int32) (σ : zST) (Post : Int64 → Prop) : Prop := ∃ M10 : Nat, wp_X9_lowest_L6 p0 p2 p4 σ Post M10 p2 p0
set_option maxRecDepth 100000 in
set_option maxHeartbeats 4000000 in
theorem g_X9_lowest {p : Program} {l : Launch} {e : Env} {R : Room} {s : State} {m : MethodId} {args : Array Value} {below : List Frame} {meth : Method} {c : Code} {Q : State → Prop} {g : zG} {n1 n2 : Nat} (C : zCX p R s m args meth c g n1 n2 cX9_lowest 11 RX9 0 0) {p0 : Int64} {p2 : Int64} {p4 : Int32} {σ : zST} {Post : Int64 → Prop} (hret : ∀ (v : Int64) (pc : Nat) (lv : List (Nat × Value)), Post v → decode cX9_lowest pc = .ok (.lreturn, 1) → zGG p l e R s m args below meth c Q g n1 n2 11 pc lv [.long v] σ) (h : wp_X9_lowest p0 p2 p4 σ Post) : zGG p l e R s m args below meth c Q g n1 n2 11 0 [(0, .long p0), (2, .long p2), (4, .int p4)] [] σ := by
  unfold wp_X9_lowest at h
  refine zr_lload_n C d_X9_lowest_0 rfl ?_
  refine zr_lstore C [(5, .long p2), (0, .long p0), (2, .long p2), (4, .int p4)] d_X9_lowest_1 (by decide) rfl ?_
  refine zr_lload_n C d_X9_lowest_3 rfl ?_
  refine zr_lstore C [(7, .long p0), (5, .long p2), (0, .long p0), (2, .long p2), (4, .int p4)] d_X9_lowest_4 (by decide) rfl ?_
  obtain ⟨M10, h⟩ := h
  exact zr_pick [2, 3, 4, 1, 0] rfl (g_X9_lowest_L6 C hret M10 p2 p0 h)
set_option maxRecDepth 20000 in
theorem c_X9_lowest (l : Launch) (g : zG) (p0 : Int64) (p2 : Int64) (p4 : Int32) (σ : zST) (Post : Int64 → Prop) (h : wp_X9_lowest p0 p2 p4 σ Post) : Met l yX9_lowest (Cond.code yX9_lowest cX9_lowest 11 (some .long) :: zGW) (zRm 0 0) (va_Pc [.long p0, .long p2, .int p4] (zPP g σ)) (va_Ql (fun r u => Post r ∧ u = σ) (zBB g) (zA g)) 0 0 (zA g) :=
  zMet (by decide) (Nat.le_of_ble_eq_true rfl) (fun p e s m below meth c hr C => g_X9_lowest C (fun v pc lv hp hd => zr_lret C hr ⟨hp, rfl⟩ hd) h)
def wp_X9_lot_L52 (v1 : Int32) (v2 : Int32) (v3 : Int32) (σ : zST) (K135 : Int32 → Int32 → Prop) : Nat → Int32 → Int32 → Int32 → Prop
  | 0, _, _, _ => False
  | N + 1, v4, v5, v6 => (if (8 : Int32) ≤ v6 then K135 v4 v5 else wp_X9_isAboard v6 σ (fun r13 => (if r13 = (0) then True else vp_in v6 8 ∧ vp_in v2 8 ∧ True) ∧ ∀ z16 : Int32, z16 = (if r13 = (0) then (0 : Int32) else (if (σ.1 77 v2.toNatClampNeg) ≤ (σ.1 77 v6.toNatClampNeg) then (0 : Int32) else (1 : Int32))) → ∀ x22 : Int32, x22 = (v4 + z16) → wp_X9_isAboard v6 σ (fun r23 => (if r23 = (0) then True else vp_in v6 8 ∧ vp_in v2 8 ∧ True) ∧ ∀ z26 : Int32, z26 = (if r23 = (0) then (0 : Int32) else (if (σ.1 77 v6.toNatClampNeg) = (σ.1 77 v2.toNatClampNeg) then (1 : Int32) else (0 : Int32))) → ∀ x32 : Int32, x32 = (v5 + z26) → wp_X9_lot_L52 v1 v2 v3 σ K135 N x22 x32 (v6 + 1))))

set_option maxRecDepth 100000 in
set_option maxHeartbeats 4000000 in
theorem g_X9_lot_L52 {p : Program} {l : Launch} {e : Env} {R : Room} {s : State} {m : MethodId} {args : Array Value} {below : List Frame} {meth : Method} {c : Code} {Q : State → Prop} {g : zG} {n1 n2 : Nat} (C : zCX p R s m args meth c g n1 n2 cX9_lot 7 RX9 2 46) {v1 : Int32} {v2 : Int32} {v3 : Int32} {σ : zST} {K135 : Int32 → Int32 → Prop} (hK135 : ∀ (w4 : Int32) (w5 : Int32), K135 w4 w5 → zGG p l e R s m args below meth c Q g n1 n2 7 135 [(1, .int v1), (3, .int v3), (4, .int w4), (5, .int w5)] [] σ) : ∀ (N : Nat) (v4 : Int32) (v5 : Int32) (v6 : Int32) , wp_X9_lot_L52 v1 v2 v3 σ K135 N v4 v5 v6 → zGG p l e R s m args below meth c Q g n1 n2 7 52 [(0, .ref (g.2.1 69)), (1, .int v1), (2, .int v2), (3, .int v3), (4, .int v4), (5, .int v5), (6, .int v6)] [] σ := by
  intro N
  induction N with
  | zero =>
    intro v4 v5 v6 h
    exact h.elim
  | succ N ih =>
    intro v4 v5 v6 h
    rw [wp_X9_lot_L52] at h
    refine zr_iload C d_X9_lot_52 rfl ?_
    refine zr_bipush C (8 : Int32) d_X9_lot_54 (by decide) ?_
    refine zr_icmp_ge C 135 d_X9_lot_56 (by decide) (fun hc12 => ?_) (fun hc12 => ?_)
    · rw [if_pos hc12] at h
      exact zr_pick [1, 3, 4, 5] rfl (hK135 v4 v5 h)
    · rw [if_neg hc12] at h
      refine zr_iload C d_X9_lot_59 rfl ?_
      refine zr_aload_n C d_X9_lot_61 rfl ?_
      refine zr_iload C d_X9_lot_62 rfl ?_
      refine zr_cip (zr_runV (As := [.int v6]) (rest := [.int v4]) C vw_X9_275 (c_X9_isAboard l g v6 σ _ h) (sh_69) rfl (by decide) (by decide) rfl rfl (Nat.le_of_ble_eq_true rfl) d_X9_lot_64) (fun r13 h => ?_)
      obtain ⟨ho18, h⟩ := h
      have hJ17 : ∀ z16 : Int32, z16 = (if r13 = (0) then (0 : Int32) else (if (σ.1 77 v2.toNatClampNeg) ≤ (σ.1 77 v6.toNatClampNeg) then (0 : Int32) else (1 : Int32))) → zGG p l e R s m args below meth c Q g n1 n2 7 91 [(0, .ref (g.2.1 69)), (1, .int v1), (2, .int v2), (3, .int v3), (4, .int v4), (5, .int v5), (6, .int v6)] [.int z16, .int v4] σ := by
        intro z16 hz16
        replace h := h z16 hz16
        refine zr_iadd C d_X9_lot_91 ?_
        refine zr_topi (fun x22 hx22 => ?_)
        replace h := h x22 hx22
        refine zr_istore C [(4, .int x22), (0, .ref (g.2.1 69)), (1, .int v1), (2, .int v2), (3, .int v3), (5, .int v5), (6, .int v6)] d_X9_lot_92 (by decide) rfl ?_
        refine zr_iload C d_X9_lot_94 rfl ?_
        refine zr_aload_n C d_X9_lot_96 rfl ?_
        refine zr_iload C d_X9_lot_97 rfl ?_
        refine zr_cip (zr_runV (As := [.int v6]) (rest := [.int v5]) C vw_X9_275 (c_X9_isAboard l g v6 σ _ h) (sh_69) rfl (by decide) (by decide) rfl rfl (Nat.le_of_ble_eq_true rfl) d_X9_lot_99) (fun r23 h => ?_)
        obtain ⟨ho28, h⟩ := h
        have hJ27 : ∀ z26 : Int32, z26 = (if r23 = (0) then (0 : Int32) else (if (σ.1 77 v6.toNatClampNeg) = (σ.1 77 v2.toNatClampNeg) then (1 : Int32) else (0 : Int32))) → zGG p l e R s m args below meth c Q g n1 n2 7 126 [(4, .int x22), (0, .ref (g.2.1 69)), (1, .int v1), (2, .int v2), (3, .int v3), (5, .int v5), (6, .int v6)] [.int z26, .int v5] σ := by
          intro z26 hz26
          replace h := h z26 hz26
          refine zr_iadd C d_X9_lot_126 ?_
          refine zr_topi (fun x32 hx32 => ?_)
          replace h := h x32 hx32
          refine zr_istore C [(5, .int x32), (4, .int x22), (0, .ref (g.2.1 69)), (1, .int v1), (2, .int v2), (3, .int v3), (6, .int v6)] d_X9_lot_127 (by decide) rfl ?_
          refine zr_iinc C (v6 + 1) [(6, .int (v6 + 1)), (5, .int x32), (4, .int x22), (0, .ref (g.2.1 69)), (1, .int v1), (2, .int v2), (3, .int v3)] d_X9_lot_129 rfl rfl (by decide) rfl ?_
          refine zr_goto C 52 d_X9_lot_132 (by decide) ?_
          exact zr_pick [3, 4, 5, 6, 2, 1, 0] rfl (ih x22 x32 (v6 + 1) h)
        refine zr_if_eq C 125 d_X9_lot_102 (by decide) (fun hc25 => ?_) (fun hc25 => ?_)
        · skip
          rw [if_pos hc25] at ho28
          refine zr_iconst C (0 : Int32) d_X9_lot_125 (by decide) ?_
          exact hJ27 _ (by rw [if_pos hc25])
        · skip
          rw [if_neg hc25] at ho28
          refine zr_aload_n C d_X9_lot_105 rfl ?_
          refine zr_getr (u := 77) C fw_X9_31 (sh_69) rfl d_X9_lot_106 ?_
          refine zr_iload C d_X9_lot_109 rfl ?_
          obtain ⟨ho29, ho28⟩ := ho28
          refine zr_iald C (sh_77) ho29 d_X9_lot_111 ?_
          refine zr_aload_n C d_X9_lot_112 rfl ?_
          refine zr_getr (u := 77) C fw_X9_31 (sh_69) rfl d_X9_lot_113 ?_
          refine zr_iload_n C d_X9_lot_116 rfl ?_
          obtain ⟨ho30, ho28⟩ := ho28
          refine zr_iald C (sh_77) ho30 d_X9_lot_117 ?_
          refine zr_icmp_ne C 125 d_X9_lot_118 (by decide) (fun hc31 => ?_) (fun hc31 => ?_)
          · skip
            refine zr_iconst C (0 : Int32) d_X9_lot_125 (by decide) ?_
            exact hJ27 _ (by rw [if_neg hc25, if_neg hc31])
          · skip
            refine zr_iconst C (1 : Int32) d_X9_lot_121 (by decide) ?_
            refine zr_goto C 126 d_X9_lot_122 (by decide) ?_
            exact hJ27 _ (by rw [if_neg hc25, if_pos hc31])
      refine zr_if_eq C 90 d_X9_lot_67 (by decide) (fun hc15 => ?_) (fun hc15 => ?_)
      · skip
        rw [if_pos hc15] at ho18
        refine zr_iconst C (0 : Int32) d_X9_lot_90 (by decide) ?_
        exact hJ17 _ (by rw [if_pos hc15])
      · skip
        rw [if_neg hc15] at ho18
        refine zr_aload_n C d_X9_lot_70 rfl ?_
        refine zr_getr (u := 77) C fw_X9_31 (sh_69) rfl d_X9_lot_71 ?_
        refine zr_iload C d_X9_lot_74 rfl ?_
        obtain ⟨ho19, ho18⟩ := ho18
        refine zr_iald C (sh_77) ho19 d_X9_lot_76 ?_
        refine zr_aload_n C d_X9_lot_77 rfl ?_
        refine zr_getr (u := 77) C fw_X9_31 (sh_69) rfl d_X9_lot_78 ?_
        refine zr_iload_n C d_X9_lot_81 rfl ?_
        obtain ⟨ho20, ho18⟩ := ho18
        refine zr_iald C (sh_77) ho20 d_X9_lot_82 ?_
        refine zr_icmp_ge C 90 d_X9_lot_83 (by decide) (fun hc21 => ?_) (fun hc21 => ?_)
        · skip
          refine zr_iconst C (0 : Int32) d_X9_lot_90 (by decide) ?_
          exact hJ17 _ (by rw [if_neg hc15, if_pos hc21])
        · skip
          refine zr_iconst C (1 : Int32) d_X9_lot_86 (by decide) ?_
          refine zr_goto C 91 d_X9_lot_87 (by decide) ?_
          exact hJ17 _ (by rw [if_neg hc15, if_neg hc21])

def wp_X9_lot (p1 : Int32) (p2 : Int32) (p3 : Int32) (σ : zST) (Post : Int64 → Prop) : Prop := wp_X9_isAboard p2 σ (fun r1 => (if r1 = (0) then Post (-1000000000000000001 : Int64) else wp_X9_ones (σ.1 69 21) σ (fun r4 => wp_X9_in (p1.toInt64) (1 : Int64) (r4.toInt64) σ (fun r6 => (if r6 = (0) then Post (-1000000000000000002 : Int64) else wp_X9_in (p3.toInt64) (0 : Int64) (1 : Int64) σ (fun r9 => (if r9 = (0) then Post (-1000000000000000002 : Int64) else ∃ M41 : Nat, wp_X9_lot_L52 p1 p2 p3 σ (fun w4 w5 => ∀ x33 : Int32, x33 = (p1 - w4) → ∀ z35 : Int64, z35 = (if (0) ≤ x33 then (if x33 ≤ w5 then (x33.toInt64) else (w5.toInt64)) else (0 : Int64)) → wp_X9_lowest z35 (w5.toInt64) p3 σ (fun r39 => Post r39)) M41 (0 : Int32) (0 : Int32) (0 : Int32))))))))
set_option maxRecDepth 100000 in
set_option maxHeartbeats 4000000 in
theorem g_X9_lot {p : Program} {l : Launch} {e : Env} {R : Room} {s : State} {m : MethodId} {args : Array Value} {below : List Frame} {meth : Method} {c : Code} {Q : State → Prop} {g : zG} {n1 n2 : Nat} (C : zCX p R s m args meth c g n1 n2 cX9_lot 7 RX9 2 46) {p1 : Int32} {p2 : Int32} {p3 : Int32} {σ : zST} {Post : Int64 → Prop} (hret : ∀ (v : Int64) (pc : Nat) (lv : List (Nat × Value)), Post v → decode cX9_lot pc = .ok (.lreturn, 1) → zGG p l e R s m args below meth c Q g n1 n2 7 pc lv [.long v] σ) (h : wp_X9_lot p1 p2 p3 σ Post) : zGG p l e R s m args below meth c Q g n1 n2 7 0 [(0, .ref (g.2.1 69)), (1, .int p1), (2, .int p2), (3, .int p3)] [] σ := by
  unfold wp_X9_lot at h
  refine zr_aload_n C d_X9_lot_0 rfl ?_
  refine zr_iload_n C d_X9_lot_1 rfl ?_
  refine zr_cip (zr_runV (As := [.int p2]) (rest := []) C vw_X9_275 (c_X9_isAboard l g p2 σ _ h) (sh_69) rfl (by decide) (by decide) rfl rfl (Nat.le_of_ble_eq_true rfl) d_X9_lot_2) (fun r1 h => ?_)
  refine zr_if_ne C 12 d_X9_lot_5 (by decide) (fun hc3 => ?_) (fun hc3 => ?_)
  · rw [if_neg hc3] at h
    refine zr_iload_n C d_X9_lot_12 rfl ?_
    refine zr_i2l C d_X9_lot_13 ?_
    refine zr_lconst C (1 : Int64) d_X9_lot_14 (by decide) ?_
    refine zr_aload_n C d_X9_lot_15 rfl ?_
    refine zr_geti C fw_X9_272 (sh_69) rfl d_X9_lot_16 ?_
    refine zr_cip (zr_runS (As := [.int (σ.1 69 21)]) (rest := [.long (1 : Int64), .long (p1.toInt64)]) C sw_X9_108 (c_X9_ones l g (σ.1 69 21) σ _ h) (by decide) (by decide) rfl rfl (Nat.le_of_ble_eq_true rfl) d_X9_lot_19) (fun r4 h => ?_)
    refine zr_i2l C d_X9_lot_22 ?_
    refine zr_cip (zr_runS (As := [.long (p1.toInt64), .long (1 : Int64), .long (r4.toInt64)]) (rest := []) C sw_X9_89 (c_X9_in l g (p1.toInt64) (1 : Int64) (r4.toInt64) σ _ h) (by decide) (by decide) rfl rfl (Nat.le_of_ble_eq_true rfl) d_X9_lot_23) (fun r6 h => ?_)
    refine zr_if_eq C 39 d_X9_lot_26 (by decide) (fun hc8 => ?_) (fun hc8 => ?_)
    · rw [if_pos hc8] at h
      refine zr_ldc2 C (v := (-1000000000000000002 : Int64)) cl_X9_280 d_X9_lot_39 ?_
      exact hret _ _ _ h d_X9_lot_42
    · rw [if_neg hc8] at h
      refine zr_iload_n C d_X9_lot_29 rfl ?_
      refine zr_i2l C d_X9_lot_30 ?_
      refine zr_lconst C (0 : Int64) d_X9_lot_31 (by decide) ?_
      refine zr_lconst C (1 : Int64) d_X9_lot_32 (by decide) ?_
      refine zr_cip (zr_runS (As := [.long (p3.toInt64), .long (0 : Int64), .long (1 : Int64)]) (rest := []) C sw_X9_89 (c_X9_in l g (p3.toInt64) (0 : Int64) (1 : Int64) σ _ h) (by decide) (by decide) rfl rfl (Nat.le_of_ble_eq_true rfl) d_X9_lot_33) (fun r9 h => ?_)
      refine zr_if_ne C 43 d_X9_lot_36 (by decide) (fun hc11 => ?_) (fun hc11 => ?_)
      · rw [if_neg hc11] at h
        refine zr_iconst C (0 : Int32) d_X9_lot_43 (by decide) ?_
        refine zr_istore C [(4, .int (0 : Int32)), (0, .ref (g.2.1 69)), (1, .int p1), (2, .int p2), (3, .int p3)] d_X9_lot_44 (by decide) rfl ?_
        refine zr_iconst C (0 : Int32) d_X9_lot_46 (by decide) ?_
        refine zr_istore C [(5, .int (0 : Int32)), (4, .int (0 : Int32)), (0, .ref (g.2.1 69)), (1, .int p1), (2, .int p2), (3, .int p3)] d_X9_lot_47 (by decide) rfl ?_
        refine zr_iconst C (0 : Int32) d_X9_lot_49 (by decide) ?_
        refine zr_istore C [(6, .int (0 : Int32)), (5, .int (0 : Int32)), (4, .int (0 : Int32)), (0, .ref (g.2.1 69)), (1, .int p1), (2, .int p2), (3, .int p3)] d_X9_lot_50 (by decide) rfl ?_
        obtain ⟨M41, h⟩ := h
        exact zr_pick [3, 4, 5, 6, 2, 1, 0] rfl (g_X9_lot_L52 C (fun w4 w5 h => by
            refine zr_iload_n C d_X9_lot_135 rfl ?_
            refine zr_iload C d_X9_lot_136 rfl ?_
            refine zr_isub C d_X9_lot_138 ?_
            refine zr_topi (fun x33 hx33 => ?_)
            replace h := h x33 hx33
            refine zr_istore C [(6, .int x33), (1, .int p1), (3, .int p3), (4, .int w4), (5, .int w5)] d_X9_lot_139 (by decide) rfl ?_
            refine zr_iload C d_X9_lot_141 rfl ?_
            have hJ36 : ∀ z35 : Int64, z35 = (if (0) ≤ x33 then (if x33 ≤ w5 then (x33.toInt64) else (w5.toInt64)) else (0 : Int64)) → zGG p l e R s m args below meth c Q g n1 n2 7 166 [(6, .int x33), (1, .int p1), (3, .int p3), (4, .int w4), (5, .int w5)] [.long z35] σ := by
              intro z35 hz35
              replace h := h z35 hz35
              refine zr_iload C d_X9_lot_166 rfl ?_
              refine zr_i2l C d_X9_lot_168 ?_
              refine zr_iload_n C d_X9_lot_169 rfl ?_
              refine zr_clp (zr_runS (As := [.long z35, .long (w5.toInt64), .int p3]) (rest := []) C sw_X9_282 (c_X9_lowest l g z35 (w5.toInt64) p3 σ _ h) (by decide) (by decide) rfl rfl (Nat.le_of_ble_eq_true rfl) d_X9_lot_170) (fun r39 h => ?_)
              exact hret _ _ _ h d_X9_lot_173
            refine zr_if_ge C 150 d_X9_lot_143 (by decide) (fun hc34 => ?_) (fun hc34 => ?_)
            · skip
              refine zr_iload C d_X9_lot_150 rfl ?_
              refine zr_iload C d_X9_lot_152 rfl ?_
              refine zr_icmp_le C 163 d_X9_lot_154 (by decide) (fun hc38 => ?_) (fun hc38 => ?_)
              · skip
                refine zr_iload C d_X9_lot_163 rfl ?_
                refine zr_i2l C d_X9_lot_165 ?_
                exact hJ36 _ (by rw [if_pos hc34, if_pos hc38])
              · skip
                refine zr_iload C d_X9_lot_157 rfl ?_
                refine zr_i2l C d_X9_lot_159 ?_
                refine zr_goto C 166 d_X9_lot_160 (by decide) ?_
                exact hJ36 _ (by rw [if_pos hc34, if_neg hc38])
            · skip
              refine zr_lconst C (0 : Int64) d_X9_lot_146 (by decide) ?_
              refine zr_goto C 166 d_X9_lot_147 (by decide) ?_
              exact hJ36 _ (by rw [if_neg hc34])) M41 (0 : Int32) (0 : Int32) (0 : Int32) h)
      · rw [if_pos hc11] at h
        refine zr_ldc2 C (v := (-1000000000000000002 : Int64)) cl_X9_280 d_X9_lot_39 ?_
        exact hret _ _ _ h d_X9_lot_42
  · rw [if_pos hc3] at h
    refine zr_ldc2 C (v := (-1000000000000000001 : Int64)) cl_X9_278 d_X9_lot_8 ?_
    exact hret _ _ _ h d_X9_lot_11
set_option maxRecDepth 20000 in
theorem c_X9_lot (l : Launch) (g : zG) (p1 : Int32) (p2 : Int32) (p3 : Int32) (σ : zST) (Post : Int64 → Prop) (h : wp_X9_lot p1 p2 p3 σ Post) : Met l yX9_lot (Cond.code yX9_lot cX9_lot 7 (some .long) :: zGW) (zRm 2 46) (va_Pc [.ref (g.2.1 69), .int p1, .int p2, .int p3] (zPP g σ)) (va_Ql (fun r u => Post r ∧ u = σ) (zBB g) (zA g)) 0 0 (zA g) :=
  zMet (by decide) (Nat.le_of_ble_eq_true rfl) (fun p e s m below meth c hr C => g_X9_lot C (fun v pc lv hp hd => zr_lret C hr ⟨hp, rfl⟩ hd) h)
def wp_X9_choose_L5 (v0 : Int32) (v1 : Int32) (σ : zST) (Post : Int64 → Prop) : Nat → Int64 → Int32 → Prop
  | 0, _, _ => False
  | N + 1, v2, v4 => (if v1 < v4 then Post v2 else ¬ (v4.toInt64) = 0 ∧ ∀ x3 : Int64, x3 = ((v2 * (((v0 - v1) + v4).toInt64)) / (v4.toInt64)) → wp_X9_choose_L5 v0 v1 σ Post N x3 (v4 + 1))

set_option maxRecDepth 100000 in
set_option maxHeartbeats 4000000 in
theorem g_X9_choose_L5 {p : Program} {l : Launch} {e : Env} {R : Room} {s : State} {m : MethodId} {args : Array Value} {below : List Frame} {meth : Method} {c : Code} {Q : State → Prop} {g : zG} {n1 n2 : Nat} (C : zCX p R s m args meth c g n1 n2 cX9_choose 5 RX9 0 0) {v0 : Int32} {v1 : Int32} {σ : zST}  {Post : Int64 → Prop} (hret : ∀ (v : Int64) (pc : Nat) (lv : List (Nat × Value)), Post v → decode cX9_choose pc = .ok (.lreturn, 1) → zGG p l e R s m args below meth c Q g n1 n2 5 pc lv [.long v] σ) : ∀ (N : Nat) (v2 : Int64) (v4 : Int32) , wp_X9_choose_L5 v0 v1 σ Post N v2 v4 → zGG p l e R s m args below meth c Q g n1 n2 5 5 [(0, .int v0), (1, .int v1), (2, .long v2), (4, .int v4)] [] σ := by
  intro N
  induction N with
  | zero =>
    intro v2 v4 h
    exact h.elim
  | succ N ih =>
    intro v2 v4 h
    rw [wp_X9_choose_L5] at h
    refine zr_iload C d_X9_choose_5 rfl ?_
    refine zr_iload_n C d_X9_choose_7 rfl ?_
    refine zr_icmp_gt C 31 d_X9_choose_8 (by decide) (fun hc1 => ?_) (fun hc1 => ?_)
    · rw [if_pos hc1] at h
      refine zr_lload_n C d_X9_choose_31 rfl ?_
      exact hret _ _ _ h d_X9_choose_32
    · rw [if_neg hc1] at h
      refine zr_lload_n C d_X9_choose_11 rfl ?_
      refine zr_iload_n C d_X9_choose_12 rfl ?_
      refine zr_iload_n C d_X9_choose_13 rfl ?_
      refine zr_isub C d_X9_choose_14 ?_
      refine zr_iload C d_X9_choose_15 rfl ?_
      refine zr_iadd C d_X9_choose_17 ?_
      refine zr_i2l C d_X9_choose_18 ?_
      refine zr_lmul C d_X9_choose_19 ?_
      refine zr_iload C d_X9_choose_20 rfl ?_
      refine zr_i2l C d_X9_choose_22 ?_
      obtain ⟨ho2, h⟩ := h
      refine zr_ldiv C d_X9_choose_23 ho2 ?_
      refine zr_topl (fun x3 hx3 => ?_)
      replace h := h x3 hx3
      refine zr_lstore_n C [(2, .long x3), (0, .int v0), (1, .int v1), (4, .int v4)] d_X9_choose_24 (by decide) rfl ?_
      refine zr_iinc C (v4 + 1) [(4, .int (v4 + 1)), (2, .long x3), (0, .int v0), (1, .int v1)] d_X9_choose_25 rfl rfl (by decide) rfl ?_
      refine zr_goto C 5 d_X9_choose_28 (by decide) ?_
      exact zr_pick [2, 3, 1, 0] rfl (ih x3 (v4 + 1) h)

def wp_X9_choose (p0 : Int32) (p1 : Int32) (σ : zST) (Post : Int64 → Prop) : Prop := ∃ M4 : Nat, wp_X9_choose_L5 p0 p1 σ Post M4 (1 : Int64) (1 : Int32)
set_option maxRecDepth 100000 in
set_option maxHeartbeats 4000000 in
theorem g_X9_choose {p : Program} {l : Launch} {e : Env} {R : Room} {s : State} {m : MethodId} {args : Array Value} {below : List Frame} {meth : Method} {c : Code} {Q : State → Prop} {g : zG} {n1 n2 : Nat} (C : zCX p R s m args meth c g n1 n2 cX9_choose 5 RX9 0 0) {p0 : Int32} {p1 : Int32} {σ : zST} {Post : Int64 → Prop} (hret : ∀ (v : Int64) (pc : Nat) (lv : List (Nat × Value)), Post v → decode cX9_choose pc = .ok (.lreturn, 1) → zGG p l e R s m args below meth c Q g n1 n2 5 pc lv [.long v] σ) (h : wp_X9_choose p0 p1 σ Post) : zGG p l e R s m args below meth c Q g n1 n2 5 0 [(0, .int p0), (1, .int p1)] [] σ := by
  unfold wp_X9_choose at h
  refine zr_lconst C (1 : Int64) d_X9_choose_0 (by decide) ?_
  refine zr_lstore_n C [(2, .long (1 : Int64)), (0, .int p0), (1, .int p1)] d_X9_choose_1 (by decide) rfl ?_
  refine zr_iconst C (1 : Int32) d_X9_choose_2 (by decide) ?_
  refine zr_istore C [(4, .int (1 : Int32)), (2, .long (1 : Int64)), (0, .int p0), (1, .int p1)] d_X9_choose_3 (by decide) rfl ?_
  obtain ⟨M4, h⟩ := h
  exact zr_pick [2, 3, 1, 0] rfl (g_X9_choose_L5 C hret M4 (1 : Int64) (1 : Int32) h)
set_option maxRecDepth 20000 in
theorem c_X9_choose (l : Launch) (g : zG) (p0 : Int32) (p1 : Int32) (σ : zST) (Post : Int64 → Prop) (h : wp_X9_choose p0 p1 σ Post) : Met l yX9_choose (Cond.code yX9_choose cX9_choose 5 (some .long) :: zGW) (zRm 0 0) (va_Pc [.int p0, .int p1] (zPP g σ)) (va_Ql (fun r u => Post r ∧ u = σ) (zBB g) (zA g)) 0 0 (zA g) :=
  zMet (by decide) (Nat.le_of_ble_eq_true rfl) (fun p e s m below meth c hr C => g_X9_choose C (fun v pc lv hp hd => zr_lret C hr ⟨hp, rfl⟩ hd) h)
def wp_X9_power_L5 (v0 : Int32) (v1 : Int32) (σ : zST) (Post : Int64 → Prop) : Nat → Int64 → Int32 → Prop
  | 0, _, _ => False
  | N + 1, v2, v4 => (if v1 ≤ v4 then Post v2 else ∀ x2 : Int64, x2 = (v2 * (v0.toInt64)) → wp_X9_power_L5 v0 v1 σ Post N x2 (v4 + 1))

set_option maxRecDepth 100000 in
set_option maxHeartbeats 4000000 in
theorem g_X9_power_L5 {p : Program} {l : Launch} {e : Env} {R : Room} {s : State} {m : MethodId} {args : Array Value} {below : List Frame} {meth : Method} {c : Code} {Q : State → Prop} {g : zG} {n1 n2 : Nat} (C : zCX p R s m args meth c g n1 n2 cX9_power 5 RX9 0 0) {v0 : Int32} {v1 : Int32} {σ : zST}  {Post : Int64 → Prop} (hret : ∀ (v : Int64) (pc : Nat) (lv : List (Nat × Value)), Post v → decode cX9_power pc = .ok (.lreturn, 1) → zGG p l e R s m args below meth c Q g n1 n2 5 pc lv [.long v] σ) : ∀ (N : Nat) (v2 : Int64) (v4 : Int32) , wp_X9_power_L5 v0 v1 σ Post N v2 v4 → zGG p l e R s m args below meth c Q g n1 n2 5 5 [(0, .int v0), (1, .int v1), (2, .long v2), (4, .int v4)] [] σ := by
  intro N
  induction N with
  | zero =>
    intro v2 v4 h
    exact h.elim
  | succ N ih =>
    intro v2 v4 h
    rw [wp_X9_power_L5] at h
    refine zr_iload C d_X9_power_5 rfl ?_
    refine zr_iload_n C d_X9_power_7 rfl ?_
    refine zr_icmp_ge C 22 d_X9_power_8 (by decide) (fun hc1 => ?_) (fun hc1 => ?_)
    · rw [if_pos hc1] at h
      refine zr_lload_n C d_X9_power_22 rfl ?_
      exact hret _ _ _ h d_X9_power_23
    · rw [if_neg hc1] at h
      refine zr_lload_n C d_X9_power_11 rfl ?_
      refine zr_iload_n C d_X9_power_12 rfl ?_
      refine zr_i2l C d_X9_power_13 ?_
      refine zr_lmul C d_X9_power_14 ?_
      refine zr_topl (fun x2 hx2 => ?_)
      replace h := h x2 hx2
      refine zr_lstore_n C [(2, .long x2), (0, .int v0), (1, .int v1), (4, .int v4)] d_X9_power_15 (by decide) rfl ?_
      refine zr_iinc C (v4 + 1) [(4, .int (v4 + 1)), (2, .long x2), (0, .int v0), (1, .int v1)] d_X9_power_16 rfl rfl (by decide) rfl ?_
      refine zr_goto C 5 d_X9_power_19 (by decide) ?_
      exact zr_pick [2, 3, 1, 0] rfl (ih x2 (v4 + 1) h)

def wp_X9_power (p0 : Int32) (p1 : Int32) (σ : zST) (Post : Int64 → Prop) : Prop := ∃ M3 : Nat, wp_X9_power_L5 p0 p1 σ Post M3 (1 : Int64) (0 : Int32)
set_option maxRecDepth 100000 in
set_option maxHeartbeats 4000000 in
theorem g_X9_power {p : Program} {l : Launch} {e : Env} {R : Room} {s : State} {m : MethodId} {args : Array Value} {below : List Frame} {meth : Method} {c : Code} {Q : State → Prop} {g : zG} {n1 n2 : Nat} (C : zCX p R s m args meth c g n1 n2 cX9_power 5 RX9 0 0) {p0 : Int32} {p1 : Int32} {σ : zST} {Post : Int64 → Prop} (hret : ∀ (v : Int64) (pc : Nat) (lv : List (Nat × Value)), Post v → decode cX9_power pc = .ok (.lreturn, 1) → zGG p l e R s m args below meth c Q g n1 n2 5 pc lv [.long v] σ) (h : wp_X9_power p0 p1 σ Post) : zGG p l e R s m args below meth c Q g n1 n2 5 0 [(0, .int p0), (1, .int p1)] [] σ := by
  unfold wp_X9_power at h
  refine zr_lconst C (1 : Int64) d_X9_power_0 (by decide) ?_
  refine zr_lstore_n C [(2, .long (1 : Int64)), (0, .int p0), (1, .int p1)] d_X9_power_1 (by decide) rfl ?_
  refine zr_iconst C (0 : Int32) d_X9_power_2 (by decide) ?_
  refine zr_istore C [(4, .int (0 : Int32)), (2, .long (1 : Int64)), (0, .int p0), (1, .int p1)] d_X9_power_3 (by decide) rfl ?_
  obtain ⟨M3, h⟩ := h
  exact zr_pick [2, 3, 1, 0] rfl (g_X9_power_L5 C hret M3 (1 : Int64) (0 : Int32) h)
set_option maxRecDepth 20000 in
theorem c_X9_power (l : Launch) (g : zG) (p0 : Int32) (p1 : Int32) (σ : zST) (Post : Int64 → Prop) (h : wp_X9_power p0 p1 σ Post) : Met l yX9_power (Cond.code yX9_power cX9_power 5 (some .long) :: zGW) (zRm 0 0) (va_Pc [.int p0, .int p1] (zPP g σ)) (va_Ql (fun r u => Post r ∧ u = σ) (zBB g) (zA g)) 0 0 (zA g) :=
  zMet (by decide) (Nat.le_of_ble_eq_true rfl) (fun p e s m below meth c hr C => g_X9_power C (fun v pc lv hp hd => zr_lret C hr ⟨hp, rfl⟩ hd) h)
def wp_X9_often_J111 (v1 : Int32) (v3 : Int32) (v5 : Int32) (v6 : Int64) (σ : zST) (Post : Int64 → Prop) : Prop := wp_X9_power v1 v3 σ (fun r17 => wp_X9_lowest v6 r17 v5 σ (fun r19 => Post r19))

set_option maxRecDepth 100000 in
set_option maxHeartbeats 4000000 in
theorem g_X9_often_J111 {p : Program} {l : Launch} {e : Env} {R : Room} {s : State} {m : MethodId} {args : Array Value} {below : List Frame} {meth : Method} {c : Code} {Q : State → Prop} {g : zG} {n1 n2 : Nat} (C : zCX p R s m args meth c g n1 n2 cX9_often 9 RX9 1 30) {v1 : Int32} {v3 : Int32} {v5 : Int32} {v6 : Int64} {σ : zST}  {Post : Int64 → Prop} (hret : ∀ (v : Int64) (pc : Nat) (lv : List (Nat × Value)), Post v → decode cX9_often pc = .ok (.lreturn, 1) → zGG p l e R s m args below meth c Q g n1 n2 9 pc lv [.long v] σ) (h : wp_X9_often_J111 v1 v3 v5 v6 σ Post) : zGG p l e R s m args below meth c Q g n1 n2 9 111 [(1, .int v1), (3, .int v3), (5, .int v5), (6, .long v6)] [] σ := by
  unfold wp_X9_often_J111 at h
  refine zr_lload C d_X9_often_111 rfl ?_
  refine zr_iload_n C d_X9_often_113 rfl ?_
  refine zr_iload_n C d_X9_often_114 rfl ?_
  refine zr_clp (zr_runS (As := [.int v1, .int v3]) (rest := [.long v6]) C sw_X9_292 (c_X9_power l g v1 v3 σ _ h) (by decide) (by decide) rfl rfl (Nat.le_of_ble_eq_true rfl) d_X9_often_115) (fun r17 h => ?_)
  refine zr_iload C d_X9_often_118 rfl ?_
  refine zr_clp (zr_runS (As := [.long v6, .long r17, .int v5]) (rest := []) C sw_X9_282 (c_X9_lowest l g v6 r17 v5 σ _ h) (by decide) (by decide) rfl rfl (Nat.le_of_ble_eq_true rfl) d_X9_often_120) (fun r19 h => ?_)
  exact hret _ _ _ h d_X9_often_123

def wp_X9_often_L70 (v1 : Int32) (v2 : Int32) (v3 : Int32) (v5 : Int32) (σ : zST) (Post : Int64 → Prop) : Nat → Int64 → Int32 → Prop
  | 0, _, _ => False
  | N + 1, v6, v8 => (if v3 < v8 then wp_X9_often_J111 v1 v3 v5 v6 σ Post else wp_X9_choose v3 v8 σ (fun r21 => wp_X9_power v2 v8 σ (fun r23 => wp_X9_power (v1 - v2) (v3 - v8) σ (fun r25 => ∀ x27 : Int64, x27 = (v6 + ((r21 * r23) * r25)) → wp_X9_often_L70 v1 v2 v3 v5 σ Post N x27 (v8 + 1)))))

set_option maxRecDepth 100000 in
set_option maxHeartbeats 4000000 in
theorem g_X9_often_L70 {p : Program} {l : Launch} {e : Env} {R : Room} {s : State} {m : MethodId} {args : Array Value} {below : List Frame} {meth : Method} {c : Code} {Q : State → Prop} {g : zG} {n1 n2 : Nat} (C : zCX p R s m args meth c g n1 n2 cX9_often 9 RX9 1 30) {v1 : Int32} {v2 : Int32} {v3 : Int32} {v5 : Int32} {σ : zST}  {Post : Int64 → Prop} (hret : ∀ (v : Int64) (pc : Nat) (lv : List (Nat × Value)), Post v → decode cX9_often pc = .ok (.lreturn, 1) → zGG p l e R s m args below meth c Q g n1 n2 9 pc lv [.long v] σ) : ∀ (N : Nat) (v6 : Int64) (v8 : Int32) , wp_X9_often_L70 v1 v2 v3 v5 σ Post N v6 v8 → zGG p l e R s m args below meth c Q g n1 n2 9 70 [(1, .int v1), (2, .int v2), (3, .int v3), (5, .int v5), (6, .long v6), (8, .int v8)] [] σ := by
  intro N
  induction N with
  | zero =>
    intro v6 v8 h
    exact h.elim
  | succ N ih =>
    intro v6 v8 h
    rw [wp_X9_often_L70] at h
    refine zr_iload C d_X9_often_70 rfl ?_
    refine zr_iload_n C d_X9_often_72 rfl ?_
    refine zr_icmp_gt C 111 d_X9_often_73 (by decide) (fun hc16 => ?_) (fun hc16 => ?_)
    · rw [if_pos hc16] at h
      exact zr_pick [0, 2, 3, 4] rfl (g_X9_often_J111 C hret h)
    · rw [if_neg hc16] at h
      refine zr_lload C d_X9_often_76 rfl ?_
      refine zr_iload_n C d_X9_often_78 rfl ?_
      refine zr_iload C d_X9_often_79 rfl ?_
      refine zr_clp (zr_runS (As := [.int v3, .int v8]) (rest := [.long v6]) C sw_X9_288 (c_X9_choose l g v3 v8 σ _ h) (by decide) (by decide) rfl rfl (Nat.le_of_ble_eq_true rfl) d_X9_often_81) (fun r21 h => ?_)
      refine zr_iload_n C d_X9_often_84 rfl ?_
      refine zr_iload C d_X9_often_85 rfl ?_
      refine zr_clp (zr_runS (As := [.int v2, .int v8]) (rest := [.long r21, .long v6]) C sw_X9_292 (c_X9_power l g v2 v8 σ _ h) (by decide) (by decide) rfl rfl (Nat.le_of_ble_eq_true rfl) d_X9_often_87) (fun r23 h => ?_)
      refine zr_lmul C d_X9_often_90 ?_
      refine zr_iload_n C d_X9_often_91 rfl ?_
      refine zr_iload_n C d_X9_often_92 rfl ?_
      refine zr_isub C d_X9_often_93 ?_
      refine zr_iload_n C d_X9_often_94 rfl ?_
      refine zr_iload C d_X9_often_95 rfl ?_
      refine zr_isub C d_X9_often_97 ?_
      refine zr_clp (zr_runS (As := [.int (v1 - v2), .int (v3 - v8)]) (rest := [.long (r21 * r23), .long v6]) C sw_X9_292 (c_X9_power l g (v1 - v2) (v3 - v8) σ _ h) (by decide) (by decide) rfl rfl (Nat.le_of_ble_eq_true rfl) d_X9_often_98) (fun r25 h => ?_)
      refine zr_lmul C d_X9_often_101 ?_
      refine zr_ladd C d_X9_often_102 ?_
      refine zr_topl (fun x27 hx27 => ?_)
      replace h := h x27 hx27
      refine zr_lstore C [(6, .long x27), (1, .int v1), (2, .int v2), (3, .int v3), (5, .int v5), (8, .int v8)] d_X9_often_103 (by decide) rfl ?_
      refine zr_iinc C (v8 + 1) [(8, .int (v8 + 1)), (6, .long x27), (1, .int v1), (2, .int v2), (3, .int v3), (5, .int v5)] d_X9_often_105 rfl rfl (by decide) rfl ?_
      refine zr_goto C 70 d_X9_often_108 (by decide) ?_
      exact zr_pick [2, 3, 4, 5, 1, 0] rfl (ih x27 (v8 + 1) h)

def wp_X9_often (p1 : Int32) (p2 : Int32) (p3 : Int32) (p4 : Int32) (p5 : Int32) (σ : zST) (Post : Int64 → Prop) : Prop := wp_X9_in (p1.toInt64) (1 : Int64) (8 : Int64) σ (fun r1 => (if r1 = (0) then Post (-1000000000000000002 : Int64) else wp_X9_in (p2.toInt64) (0 : Int64) (p1.toInt64) σ (fun r4 => (if r4 = (0) then Post (-1000000000000000002 : Int64) else wp_X9_in (p3.toInt64) (1 : Int64) (8 : Int64) σ (fun r7 => (if r7 = (0) then Post (-1000000000000000002 : Int64) else wp_X9_in (p4.toInt64) (0 : Int64) (8 : Int64) σ (fun r10 => (if r10 = (0) then Post (-1000000000000000002 : Int64) else wp_X9_in (p5.toInt64) (0 : Int64) (1 : Int64) σ (fun r13 => (if r13 = (0) then Post (-1000000000000000002 : Int64) else ∃ M28 : Nat, wp_X9_often_L70 p1 p2 p3 p5 σ Post M28 (0 : Int64) p4))))))))))
set_option maxRecDepth 100000 in
set_option maxHeartbeats 4000000 in
theorem g_X9_often {p : Program} {l : Launch} {e : Env} {R : Room} {s : State} {m : MethodId} {args : Array Value} {below : List Frame} {meth : Method} {c : Code} {Q : State → Prop} {g : zG} {n1 n2 : Nat} (C : zCX p R s m args meth c g n1 n2 cX9_often 9 RX9 1 30) {p1 : Int32} {p2 : Int32} {p3 : Int32} {p4 : Int32} {p5 : Int32} {σ : zST} {Post : Int64 → Prop} (hret : ∀ (v : Int64) (pc : Nat) (lv : List (Nat × Value)), Post v → decode cX9_often pc = .ok (.lreturn, 1) → zGG p l e R s m args below meth c Q g n1 n2 9 pc lv [.long v] σ) (h : wp_X9_often p1 p2 p3 p4 p5 σ Post) : zGG p l e R s m args below meth c Q g n1 n2 9 0 [(0, .ref (g.2.1 69)), (1, .int p1), (2, .int p2), (3, .int p3), (4, .int p4), (5, .int p5)] [] σ := by
  unfold wp_X9_often at h
  refine zr_iload_n C d_X9_often_0 rfl ?_
  refine zr_i2l C d_X9_often_1 ?_
  refine zr_lconst C (1 : Int64) d_X9_often_2 (by decide) ?_
  refine zr_ldc2 C (v := (8 : Int64)) cl_X9_286 d_X9_often_3 ?_
  refine zr_cip (zr_runS (As := [.long (p1.toInt64), .long (1 : Int64), .long (8 : Int64)]) (rest := []) C sw_X9_89 (c_X9_in l g (p1.toInt64) (1 : Int64) (8 : Int64) σ _ h) (by decide) (by decide) rfl rfl (Nat.le_of_ble_eq_true rfl) d_X9_often_6) (fun r1 h => ?_)
  refine zr_if_eq C 59 d_X9_often_9 (by decide) (fun hc3 => ?_) (fun hc3 => ?_)
  · rw [if_pos hc3] at h
    refine zr_ldc2 C (v := (-1000000000000000002 : Int64)) cl_X9_280 d_X9_often_59 ?_
    exact hret _ _ _ h d_X9_often_62
  · rw [if_neg hc3] at h
    refine zr_iload_n C d_X9_often_12 rfl ?_
    refine zr_i2l C d_X9_often_13 ?_
    refine zr_lconst C (0 : Int64) d_X9_often_14 (by decide) ?_
    refine zr_iload_n C d_X9_often_15 rfl ?_
    refine zr_i2l C d_X9_often_16 ?_
    refine zr_cip (zr_runS (As := [.long (p2.toInt64), .long (0 : Int64), .long (p1.toInt64)]) (rest := []) C sw_X9_89 (c_X9_in l g (p2.toInt64) (0 : Int64) (p1.toInt64) σ _ h) (by decide) (by decide) rfl rfl (Nat.le_of_ble_eq_true rfl) d_X9_often_17) (fun r4 h => ?_)
    refine zr_if_eq C 59 d_X9_often_20 (by decide) (fun hc6 => ?_) (fun hc6 => ?_)
    · rw [if_pos hc6] at h
      refine zr_ldc2 C (v := (-1000000000000000002 : Int64)) cl_X9_280 d_X9_often_59 ?_
      exact hret _ _ _ h d_X9_often_62
    · rw [if_neg hc6] at h
      refine zr_iload_n C d_X9_often_23 rfl ?_
      refine zr_i2l C d_X9_often_24 ?_
      refine zr_lconst C (1 : Int64) d_X9_often_25 (by decide) ?_
      refine zr_ldc2 C (v := (8 : Int64)) cl_X9_286 d_X9_often_26 ?_
      refine zr_cip (zr_runS (As := [.long (p3.toInt64), .long (1 : Int64), .long (8 : Int64)]) (rest := []) C sw_X9_89 (c_X9_in l g (p3.toInt64) (1 : Int64) (8 : Int64) σ _ h) (by decide) (by decide) rfl rfl (Nat.le_of_ble_eq_true rfl) d_X9_often_29) (fun r7 h => ?_)
      refine zr_if_eq C 59 d_X9_often_32 (by decide) (fun hc9 => ?_) (fun hc9 => ?_)
      · rw [if_pos hc9] at h
        refine zr_ldc2 C (v := (-1000000000000000002 : Int64)) cl_X9_280 d_X9_often_59 ?_
        exact hret _ _ _ h d_X9_often_62
      · rw [if_neg hc9] at h
        refine zr_iload C d_X9_often_35 rfl ?_
        refine zr_i2l C d_X9_often_37 ?_
        refine zr_lconst C (0 : Int64) d_X9_often_38 (by decide) ?_
        refine zr_ldc2 C (v := (8 : Int64)) cl_X9_286 d_X9_often_39 ?_
        refine zr_cip (zr_runS (As := [.long (p4.toInt64), .long (0 : Int64), .long (8 : Int64)]) (rest := []) C sw_X9_89 (c_X9_in l g (p4.toInt64) (0 : Int64) (8 : Int64) σ _ h) (by decide) (by decide) rfl rfl (Nat.le_of_ble_eq_true rfl) d_X9_often_42) (fun r10 h => ?_)
        refine zr_if_eq C 59 d_X9_often_45 (by decide) (fun hc12 => ?_) (fun hc12 => ?_)
        · rw [if_pos hc12] at h
          refine zr_ldc2 C (v := (-1000000000000000002 : Int64)) cl_X9_280 d_X9_often_59 ?_
          exact hret _ _ _ h d_X9_often_62
        · rw [if_neg hc12] at h
          refine zr_iload C d_X9_often_48 rfl ?_
          refine zr_i2l C d_X9_often_50 ?_
          refine zr_lconst C (0 : Int64) d_X9_often_51 (by decide) ?_
          refine zr_lconst C (1 : Int64) d_X9_often_52 (by decide) ?_
          refine zr_cip (zr_runS (As := [.long (p5.toInt64), .long (0 : Int64), .long (1 : Int64)]) (rest := []) C sw_X9_89 (c_X9_in l g (p5.toInt64) (0 : Int64) (1 : Int64) σ _ h) (by decide) (by decide) rfl rfl (Nat.le_of_ble_eq_true rfl) d_X9_often_53) (fun r13 h => ?_)
          refine zr_if_ne C 63 d_X9_often_56 (by decide) (fun hc15 => ?_) (fun hc15 => ?_)
          · rw [if_neg hc15] at h
            refine zr_lconst C (0 : Int64) d_X9_often_63 (by decide) ?_
            refine zr_lstore C [(6, .long (0 : Int64)), (0, .ref (g.2.1 69)), (1, .int p1), (2, .int p2), (3, .int p3), (4, .int p4), (5, .int p5)] d_X9_often_64 (by decide) rfl ?_
            refine zr_iload C d_X9_often_66 rfl ?_
            refine zr_istore C [(8, .int p4), (6, .long (0 : Int64)), (0, .ref (g.2.1 69)), (1, .int p1), (2, .int p2), (3, .int p3), (4, .int p4), (5, .int p5)] d_X9_often_68 (by decide) rfl ?_
            obtain ⟨M28, h⟩ := h
            exact zr_pick [3, 4, 5, 7, 1, 0] rfl (g_X9_often_L70 C hret M28 (0 : Int64) p4 h)
          · rw [if_pos hc15] at h
            refine zr_ldc2 C (v := (-1000000000000000002 : Int64)) cl_X9_280 d_X9_often_59 ?_
            exact hret _ _ _ h d_X9_often_62
set_option maxRecDepth 20000 in
theorem c_X9_often (l : Launch) (g : zG) (p1 : Int32) (p2 : Int32) (p3 : Int32) (p4 : Int32) (p5 : Int32) (σ : zST) (Post : Int64 → Prop) (h : wp_X9_often p1 p2 p3 p4 p5 σ Post) : Met l yX9_often (Cond.code yX9_often cX9_often 9 (some .long) :: zGW) (zRm 1 30) (va_Pc [.ref (g.2.1 69), .int p1, .int p2, .int p3, .int p4, .int p5] (zPP g σ)) (va_Ql (fun r u => Post r ∧ u = σ) (zBB g) (zA g)) 0 0 (zA g) :=
  zMet (by decide) (Nat.le_of_ble_eq_true rfl) (fun p e s m below meth c hr C => g_X9_often C (fun v pc lv hp hd => zr_lret C hr ⟨hp, rfl⟩ hd) h)
def wp_X9_roll (p1 : Int32) (p2 : Int32) (σ : zST) (Post : Int32 → zST → Prop) : Prop := wp_X9_in (p1.toInt64) (0 : Int64) (255 : Int64) σ (fun r1 => (if r1 = (0) then Post (-2 : Int32) σ else wp_X9_ones p1 σ (fun r4 => wp_X9_in (p2.toInt64) (r4.toInt64) (8 : Int64) σ (fun r6 => (if r6 = (0) then Post (-2 : Int32) σ else (if (σ.1 69 25) = (6 : Int32) then Post (-4 : Int32) σ else vp_in (σ.1 69 25) 6 ∧ ∀ σ11 : zST, σ11 = (wI σ 78 (σ.1 69 25).toNatClampNeg p1) → vp_in (σ11.1 69 25) 6 ∧ ∀ σ13 : zST, σ13 = (wI σ11 79 (σ11.1 69 25).toNatClampNeg p2) → ∀ σ14 : zST, σ14 = (wI σ13 69 25 ((σ13.1 69 25) + (1 : Int32))) → Post (σ14.1 69 25) σ14))))))
set_option maxRecDepth 100000 in
set_option maxHeartbeats 4000000 in
theorem g_X9_roll {p : Program} {l : Launch} {e : Env} {R : Room} {s : State} {m : MethodId} {args : Array Value} {below : List Frame} {meth : Method} {c : Code} {Q : State → Prop} {g : zG} {n1 n2 : Nat} (C : zCX p R s m args meth c g n1 n2 cX9_roll 3 RX9 1 25) {p1 : Int32} {p2 : Int32} {σ : zST} {Post : Int32 → zST → Prop} (hret : ∀ (v : Int32) (σ : zST) (pc : Nat) (lv : List (Nat × Value)), Post v σ → decode cX9_roll pc = .ok (.ireturn, 1) → zGG p l e R s m args below meth c Q g n1 n2 3 pc lv [.int v] σ) (h : wp_X9_roll p1 p2 σ Post) : zGG p l e R s m args below meth c Q g n1 n2 3 0 [(0, .ref (g.2.1 69)), (1, .int p1), (2, .int p2)] [] σ := by
  unfold wp_X9_roll at h
  refine zr_iload_n C d_X9_roll_0 rfl ?_
  refine zr_i2l C d_X9_roll_1 ?_
  refine zr_lconst C (0 : Int64) d_X9_roll_2 (by decide) ?_
  refine zr_ldc2 C (v := (255 : Int64)) cl_X9_295 d_X9_roll_3 ?_
  refine zr_cip (zr_runS (As := [.long (p1.toInt64), .long (0 : Int64), .long (255 : Int64)]) (rest := []) C sw_X9_89 (c_X9_in l g (p1.toInt64) (0 : Int64) (255 : Int64) σ _ h) (by decide) (by decide) rfl rfl (Nat.le_of_ble_eq_true rfl) d_X9_roll_6) (fun r1 h => ?_)
  refine zr_if_eq C 28 d_X9_roll_9 (by decide) (fun hc3 => ?_) (fun hc3 => ?_)
  · rw [if_pos hc3] at h
    refine zr_bipush C (-2 : Int32) d_X9_roll_28 (by decide) ?_
    exact hret _ _ _ _ h d_X9_roll_30
  · rw [if_neg hc3] at h
    refine zr_iload_n C d_X9_roll_12 rfl ?_
    refine zr_i2l C d_X9_roll_13 ?_
    refine zr_iload_n C d_X9_roll_14 rfl ?_
    refine zr_cip (zr_runS (As := [.int p1]) (rest := [.long (p2.toInt64)]) C sw_X9_108 (c_X9_ones l g p1 σ _ h) (by decide) (by decide) rfl rfl (Nat.le_of_ble_eq_true rfl) d_X9_roll_15) (fun r4 h => ?_)
    refine zr_i2l C d_X9_roll_18 ?_
    refine zr_ldc2 C (v := (8 : Int64)) cl_X9_286 d_X9_roll_19 ?_
    refine zr_cip (zr_runS (As := [.long (p2.toInt64), .long (r4.toInt64), .long (8 : Int64)]) (rest := []) C sw_X9_89 (c_X9_in l g (p2.toInt64) (r4.toInt64) (8 : Int64) σ _ h) (by decide) (by decide) rfl rfl (Nat.le_of_ble_eq_true rfl) d_X9_roll_22) (fun r6 h => ?_)
    refine zr_if_ne C 31 d_X9_roll_25 (by decide) (fun hc8 => ?_) (fun hc8 => ?_)
    · rw [if_neg hc8] at h
      refine zr_aload_n C d_X9_roll_31 rfl ?_
      refine zr_geti C fw_X9_297 (sh_69) rfl d_X9_roll_32 ?_
      refine zr_bipush C (6 : Int32) d_X9_roll_35 (by decide) ?_
      refine zr_icmp_ne C 43 d_X9_roll_37 (by decide) (fun hc9 => ?_) (fun hc9 => ?_)
      · rw [if_neg hc9] at h
        refine zr_aload_n C d_X9_roll_43 rfl ?_
        refine zr_getr (u := 78) C fw_X9_34 (sh_69) rfl d_X9_roll_44 ?_
        refine zr_aload_n C d_X9_roll_47 rfl ?_
        refine zr_geti C fw_X9_297 (sh_69) rfl d_X9_roll_48 ?_
        refine zr_iload_n C d_X9_roll_51 rfl ?_
        obtain ⟨ho10, h⟩ := h
        refine zr_iast C (sh_78) ho10 d_X9_roll_52 ?_
        refine zr_aload_n C d_X9_roll_53 rfl ?_
        refine zr_getr (u := 79) C fw_X9_37 (sh_69) rfl d_X9_roll_54 ?_
        refine zr_aload_n C d_X9_roll_57 rfl ?_
        refine zr_tops (fun σ11 hσ11 => ?_)
        replace h := h σ11 hσ11
        refine zr_geti C fw_X9_297 (sh_69) rfl d_X9_roll_58 ?_
        refine zr_iload_n C d_X9_roll_61 rfl ?_
        obtain ⟨ho12, h⟩ := h
        refine zr_iast C (sh_79) ho12 d_X9_roll_62 ?_
        refine zr_aload_n C d_X9_roll_63 rfl ?_
        refine zr_dup C d_X9_roll_64 rfl ?_
        refine zr_tops (fun σ13 hσ13 => ?_)
        replace h := h σ13 hσ13
        refine zr_geti C fw_X9_297 (sh_69) rfl d_X9_roll_65 ?_
        refine zr_iconst C (1 : Int32) d_X9_roll_68 (by decide) ?_
        refine zr_iadd C d_X9_roll_69 ?_
        refine zr_puti C fw_X9_297 pw_X9_25 (sh_69) rfl rfl rfl d_X9_roll_70 ?_
        refine zr_aload_n C d_X9_roll_73 rfl ?_
        refine zr_tops (fun σ14 hσ14 => ?_)
        replace h := h σ14 hσ14
        refine zr_geti C fw_X9_297 (sh_69) rfl d_X9_roll_74 ?_
        exact hret _ _ _ _ h d_X9_roll_77
      · rw [if_pos hc9] at h
        refine zr_bipush C (-4 : Int32) d_X9_roll_40 (by decide) ?_
        exact hret _ _ _ _ h d_X9_roll_42
    · rw [if_pos hc8] at h
      refine zr_bipush C (-2 : Int32) d_X9_roll_28 (by decide) ?_
      exact hret _ _ _ _ h d_X9_roll_30
set_option maxRecDepth 20000 in
theorem c_X9_roll (l : Launch) (g : zG) (p1 : Int32) (p2 : Int32) (σ : zST) (Post : Int32 → zST → Prop) (h : wp_X9_roll p1 p2 σ Post) : Met l yX9_roll (Cond.code yX9_roll cX9_roll 3 (some .int) :: zGW) (zRm 1 25) (va_Pc [.ref (g.2.1 69), .int p1, .int p2] (zPP g σ)) (va_Qi Post (zBB g) (zA g)) 0 0 (zA g) :=
  zMet (by decide) (Nat.le_of_ble_eq_true rfl) (fun p e s m below meth c hr C => g_X9_roll C (fun v σ pc lv hp hd => zr_iret C hr hp hd) h)
def wp_X9_forget (σ : zST) (Post : Int32 → zST → Prop) : Prop := ∀ x1 : Int32, x1 = σ.1 69 25 → Post x1 (wI σ 69 25 (0 : Int32))
set_option maxRecDepth 100000 in
set_option maxHeartbeats 4000000 in
theorem g_X9_forget {p : Program} {l : Launch} {e : Env} {R : Room} {s : State} {m : MethodId} {args : Array Value} {below : List Frame} {meth : Method} {c : Code} {Q : State → Prop} {g : zG} {n1 n2 : Nat} (C : zCX p R s m args meth c g n1 n2 cX9_forget 2 RX9 0 0) {σ : zST} {Post : Int32 → zST → Prop} (hret : ∀ (v : Int32) (σ : zST) (pc : Nat) (lv : List (Nat × Value)), Post v σ → decode cX9_forget pc = .ok (.ireturn, 1) → zGG p l e R s m args below meth c Q g n1 n2 2 pc lv [.int v] σ) (h : wp_X9_forget σ Post) : zGG p l e R s m args below meth c Q g n1 n2 2 0 [(0, .ref (g.2.1 69))] [] σ := by
  unfold wp_X9_forget at h
  refine zr_aload_n C d_X9_forget_0 rfl ?_
  refine zr_geti C fw_X9_297 (sh_69) rfl d_X9_forget_1 ?_
  refine zr_topi (fun x1 hx1 => ?_)
  replace h := h x1 hx1
  refine zr_istore_n C [(1, .int x1), (0, .ref (g.2.1 69))] d_X9_forget_4 (by decide) rfl ?_
  refine zr_aload_n C d_X9_forget_5 rfl ?_
  refine zr_iconst C (0 : Int32) d_X9_forget_6 (by decide) ?_
  refine zr_puti C fw_X9_297 pw_X9_25 (sh_69) rfl rfl rfl d_X9_forget_7 ?_
  refine zr_iload_n C d_X9_forget_10 rfl ?_
  exact hret _ _ _ _ h d_X9_forget_11
set_option maxRecDepth 20000 in
theorem c_X9_forget (l : Launch) (g : zG) (σ : zST) (Post : Int32 → zST → Prop) (h : wp_X9_forget σ Post) : Met l yX9_forget (Cond.code yX9_forget cX9_forget 2 (some .int) :: zGW) (zRm 0 0) (va_Pc [.ref (g.2.1 69)] (zPP g σ)) (va_Qi Post (zBB g) (zA g)) 0 0 (zA g) :=
  zMet (by decide) (Nat.le_of_ble_eq_true rfl) (fun p e s m below meth c hr C => g_X9_forget C (fun v σ pc lv hp hd => zr_iret C hr hp hd) h)
def wp_X9_twice_J90 (v1 : Int32) (v2 : Int32) (v3 : Int32) (v4 : Int32) (v5 : Int32) (v6 : Int32) (s0 : Int32) (σ : zST) (K29 : Int32 → Int32 → Prop) : Prop := ∀ z13 : Int32, z13 = (if v6 = (0) then (if s0 = (0) then (0 : Int32) else (1 : Int32)) else (1 : Int32)) → ∀ x17 : Int32, x17 = (v4 + z13) → K29 x17 (v5 + 1)

set_option maxRecDepth 100000 in
set_option maxHeartbeats 4000000 in
theorem g_X9_twice_J90 {p : Program} {l : Launch} {e : Env} {R : Room} {s : State} {m : MethodId} {args : Array Value} {below : List Frame} {meth : Method} {c : Code} {Q : State → Prop} {g : zG} {n1 n2 : Nat} (C : zCX p R s m args meth c g n1 n2 cX9_twice 8 RX9 1 25) {v1 : Int32} {v2 : Int32} {v3 : Int32} {v4 : Int32} {v5 : Int32} {v6 : Int32} {s0 : Int32} {σ : zST} {K29 : Int32 → Int32 → Prop} (hK29 : ∀ (w4 : Int32) (w5 : Int32), K29 w4 w5 → zGG p l e R s m args below meth c Q g n1 n2 8 29 [(0, .ref (g.2.1 69)), (1, .int v1), (2, .int v2), (3, .int v3), (4, .int w4), (5, .int w5)] [] σ) (h : wp_X9_twice_J90 v1 v2 v3 v4 v5 v6 s0 σ K29) : zGG p l e R s m args below meth c Q g n1 n2 8 90 [(0, .ref (g.2.1 69)), (1, .int v1), (2, .int v2), (3, .int v3), (4, .int v4), (5, .int v5), (6, .int v6)] [.int s0] σ := by
  unfold wp_X9_twice_J90 at h
  refine zr_istore C [(7, .int s0), (0, .ref (g.2.1 69)), (1, .int v1), (2, .int v2), (3, .int v3), (4, .int v4), (5, .int v5), (6, .int v6)] d_X9_twice_90 (by decide) rfl ?_
  refine zr_iload C d_X9_twice_92 rfl ?_
  refine zr_iload C d_X9_twice_94 rfl ?_
  have hJ14 : ∀ z13 : Int32, z13 = (if v6 = (0) then (if s0 = (0) then (0 : Int32) else (1 : Int32)) else (1 : Int32)) → zGG p l e R s m args below meth c Q g n1 n2 8 109 [(7, .int s0), (0, .ref (g.2.1 69)), (1, .int v1), (2, .int v2), (3, .int v3), (4, .int v4), (5, .int v5), (6, .int v6)] [.int z13, .int v4] σ := by
    intro z13 hz13
    replace h := h z13 hz13
    refine zr_iadd C d_X9_twice_109 ?_
    refine zr_topi (fun x17 hx17 => ?_)
    replace h := h x17 hx17
    refine zr_istore C [(4, .int x17), (7, .int s0), (0, .ref (g.2.1 69)), (1, .int v1), (2, .int v2), (3, .int v3), (5, .int v5), (6, .int v6)] d_X9_twice_110 (by decide) rfl ?_
    refine zr_iinc C (v5 + 1) [(5, .int (v5 + 1)), (4, .int x17), (7, .int s0), (0, .ref (g.2.1 69)), (1, .int v1), (2, .int v2), (3, .int v3), (6, .int v6)] d_X9_twice_112 rfl rfl (by decide) rfl ?_
    refine zr_goto C 29 d_X9_twice_115 (by decide) ?_
    exact zr_pick [3, 4, 5, 6, 1, 0] rfl (hK29 x17 (v5 + 1) h)
  refine zr_if_ne C 104 d_X9_twice_96 (by decide) (fun hc12 => ?_) (fun hc12 => ?_)
  · skip
    refine zr_iconst C (1 : Int32) d_X9_twice_104 (by decide) ?_
    refine zr_goto C 109 d_X9_twice_105 (by decide) ?_
    exact hJ14 _ (by rw [if_neg hc12])
  · skip
    refine zr_iload C d_X9_twice_99 rfl ?_
    refine zr_if_eq C 108 d_X9_twice_101 (by decide) (fun hc16 => ?_) (fun hc16 => ?_)
    · skip
      refine zr_iconst C (0 : Int32) d_X9_twice_108 (by decide) ?_
      exact hJ14 _ (by rw [if_pos hc12, if_pos hc16])
    · skip
      refine zr_iconst C (1 : Int32) d_X9_twice_104 (by decide) ?_
      refine zr_goto C 109 d_X9_twice_105 (by decide) ?_
      exact hJ14 _ (by rw [if_pos hc12, if_neg hc16])

def wp_X9_twice_L29 (v1 : Int32) (v2 : Int32) (v3 : Int32) (σ : zST) (K118 : Int32 → Prop) : Nat → Int32 → Int32 → Prop
  | 0, _, _ => False
  | N + 1, v4, v5 => (if (σ.1 69 25) ≤ v5 then K118 v4 else vp_in v5 6 ∧ ∀ z8 : Int32, z8 = (if (((σ.1 78 v5.toNatClampNeg) >>> (v3 &&& 31)) &&& (1 : Int32)) = (1 : Int32) then (1 : Int32) else (0 : Int32)) → (if v1 = (1 : Int32) then vp_in v5 6 ∧ vp_in v5 6 ∧ wp_X9_ones (σ.1 78 v5.toNatClampNeg) σ (fun r20 => ∀ z23 : Int32, z23 = (if (σ.1 79 v5.toNatClampNeg) ≤ r20 then (0 : Int32) else (1 : Int32)) → wp_X9_twice_J90 v1 v2 v3 v4 v5 z8 z23 σ (fun v4 v5 => wp_X9_twice_L29 v1 v2 v3 σ K118 N v4 v5)) else wp_X9_twice_J90 v1 v2 v3 v4 v5 z8 (0 : Int32) σ (fun v4 v5 => wp_X9_twice_L29 v1 v2 v3 σ K118 N v4 v5)))

set_option maxRecDepth 100000 in
set_option maxHeartbeats 4000000 in
theorem g_X9_twice_L29 {p : Program} {l : Launch} {e : Env} {R : Room} {s : State} {m : MethodId} {args : Array Value} {below : List Frame} {meth : Method} {c : Code} {Q : State → Prop} {g : zG} {n1 n2 : Nat} (C : zCX p R s m args meth c g n1 n2 cX9_twice 8 RX9 1 25) {v1 : Int32} {v2 : Int32} {v3 : Int32} {σ : zST} {K118 : Int32 → Prop} (hK118 : ∀ (w4 : Int32), K118 w4 → zGG p l e R s m args below meth c Q g n1 n2 8 118 [(0, .ref (g.2.1 69)), (1, .int v1), (2, .int v2), (3, .int v3), (4, .int w4)] [] σ) : ∀ (N : Nat) (v4 : Int32) (v5 : Int32) , wp_X9_twice_L29 v1 v2 v3 σ K118 N v4 v5 → zGG p l e R s m args below meth c Q g n1 n2 8 29 [(0, .ref (g.2.1 69)), (1, .int v1), (2, .int v2), (3, .int v3), (4, .int v4), (5, .int v5)] [] σ := by
  intro N
  induction N with
  | zero =>
    intro v4 v5 h
    exact h.elim
  | succ N ih =>
    intro v4 v5 h
    rw [wp_X9_twice_L29] at h
    refine zr_iload C d_X9_twice_29 rfl ?_
    refine zr_aload_n C d_X9_twice_31 rfl ?_
    refine zr_geti C fw_X9_297 (sh_69) rfl d_X9_twice_32 ?_
    refine zr_icmp_ge C 118 d_X9_twice_35 (by decide) (fun hc5 => ?_) (fun hc5 => ?_)
    · rw [if_pos hc5] at h
      exact zr_pick [0, 1, 2, 3, 4] rfl (hK118 v4 h)
    · rw [if_neg hc5] at h
      refine zr_aload_n C d_X9_twice_38 rfl ?_
      refine zr_getr (u := 78) C fw_X9_34 (sh_69) rfl d_X9_twice_39 ?_
      refine zr_iload C d_X9_twice_42 rfl ?_
      obtain ⟨ho6, h⟩ := h
      refine zr_iald C (sh_78) ho6 d_X9_twice_44 ?_
      refine zr_iload_n C d_X9_twice_45 rfl ?_
      refine zr_ishr C d_X9_twice_46 ?_
      refine zr_iconst C (1 : Int32) d_X9_twice_47 (by decide) ?_
      refine zr_iand C d_X9_twice_48 ?_
      refine zr_iconst C (1 : Int32) d_X9_twice_49 (by decide) ?_
      have hJ9 : ∀ z8 : Int32, z8 = (if (((σ.1 78 v5.toNatClampNeg) >>> (v3 &&& 31)) &&& (1 : Int32)) = (1 : Int32) then (1 : Int32) else (0 : Int32)) → zGG p l e R s m args below meth c Q g n1 n2 8 58 [(0, .ref (g.2.1 69)), (1, .int v1), (2, .int v2), (3, .int v3), (4, .int v4), (5, .int v5)] [.int z8] σ := by
        intro z8 hz8
        replace h := h z8 hz8
        refine zr_istore C [(6, .int z8), (0, .ref (g.2.1 69)), (1, .int v1), (2, .int v2), (3, .int v3), (4, .int v4), (5, .int v5)] d_X9_twice_58 (by decide) rfl ?_
        refine zr_iload_n C d_X9_twice_60 rfl ?_
        refine zr_iconst C (1 : Int32) d_X9_twice_61 (by decide) ?_
        refine zr_icmp_ne C 89 d_X9_twice_62 (by decide) (fun hc11 => ?_) (fun hc11 => ?_)
        · rw [if_neg hc11] at h
          refine zr_iconst C (0 : Int32) d_X9_twice_89 (by decide) ?_
          exact zr_pick [1, 2, 3, 4, 5, 6, 0] rfl (g_X9_twice_J90 C ih h)
        · rw [if_pos hc11] at h
          refine zr_aload_n C d_X9_twice_65 rfl ?_
          refine zr_getr (u := 79) C fw_X9_37 (sh_69) rfl d_X9_twice_66 ?_
          refine zr_iload C d_X9_twice_69 rfl ?_
          obtain ⟨ho18, h⟩ := h
          refine zr_iald C (sh_79) ho18 d_X9_twice_71 ?_
          refine zr_aload_n C d_X9_twice_72 rfl ?_
          refine zr_getr (u := 78) C fw_X9_34 (sh_69) rfl d_X9_twice_73 ?_
          refine zr_iload C d_X9_twice_76 rfl ?_
          obtain ⟨ho19, h⟩ := h
          refine zr_iald C (sh_78) ho19 d_X9_twice_78 ?_
          refine zr_cip (zr_runS (As := [.int (σ.1 78 v5.toNatClampNeg)]) (rest := [.int (σ.1 79 v5.toNatClampNeg)]) C sw_X9_108 (c_X9_ones l g (σ.1 78 v5.toNatClampNeg) σ _ h) (by decide) (by decide) rfl rfl (Nat.le_of_ble_eq_true rfl) d_X9_twice_79) (fun r20 h => ?_)
          have hJ24 : ∀ z23 : Int32, z23 = (if (σ.1 79 v5.toNatClampNeg) ≤ r20 then (0 : Int32) else (1 : Int32)) → zGG p l e R s m args below meth c Q g n1 n2 8 90 [(6, .int z8), (0, .ref (g.2.1 69)), (1, .int v1), (2, .int v2), (3, .int v3), (4, .int v4), (5, .int v5)] [.int z23] σ := by
            intro z23 hz23
            replace h := h z23 hz23
            exact zr_pick [1, 2, 3, 4, 5, 6, 0] rfl (g_X9_twice_J90 C ih h)
          refine zr_icmp_le C 89 d_X9_twice_82 (by decide) (fun hc22 => ?_) (fun hc22 => ?_)
          · skip
            refine zr_iconst C (0 : Int32) d_X9_twice_89 (by decide) ?_
            exact hJ24 _ (by rw [if_pos hc22])
          · skip
            refine zr_iconst C (1 : Int32) d_X9_twice_85 (by decide) ?_
            refine zr_goto C 90 d_X9_twice_86 (by decide) ?_
            exact hJ24 _ (by rw [if_neg hc22])
      refine zr_icmp_ne C 57 d_X9_twice_50 (by decide) (fun hc7 => ?_) (fun hc7 => ?_)
      · skip
        refine zr_iconst C (0 : Int32) d_X9_twice_57 (by decide) ?_
        exact hJ9 _ (by rw [if_neg hc7])
      · skip
        refine zr_iconst C (1 : Int32) d_X9_twice_53 (by decide) ?_
        refine zr_goto C 58 d_X9_twice_54 (by decide) ?_
        exact hJ9 _ (by rw [if_pos hc7])

def wp_X9_twice_L17 (v1 : Int32) (σ : zST) (Post : Int32 → Prop) : Nat → Int32 → Int32 → Prop
  | 0, _, _ => False
  | N + 1, v2, v3 => (if (8 : Int32) ≤ v3 then Post v2 else ∃ M37 : Nat, wp_X9_twice_L29 v1 v2 v3 σ (fun w4 => ∀ z33 : Int32, z33 = (if w4 ≤ (1 : Int32) then (0 : Int32) else ((1 : Int32) <<< (v3 &&& 31))) → ∀ x36 : Int32, x36 = (v2 ||| z33) → wp_X9_twice_L17 v1 σ Post N x36 (v3 + 1)) M37 (0 : Int32) (0 : Int32))

set_option maxRecDepth 100000 in
set_option maxHeartbeats 4000000 in
theorem g_X9_twice_L17 {p : Program} {l : Launch} {e : Env} {R : Room} {s : State} {m : MethodId} {args : Array Value} {below : List Frame} {meth : Method} {c : Code} {Q : State → Prop} {g : zG} {n1 n2 : Nat} (C : zCX p R s m args meth c g n1 n2 cX9_twice 8 RX9 1 25) {v1 : Int32} {σ : zST}  {Post : Int32 → Prop} (hret : ∀ (v : Int32) (pc : Nat) (lv : List (Nat × Value)), Post v → decode cX9_twice pc = .ok (.ireturn, 1) → zGG p l e R s m args below meth c Q g n1 n2 8 pc lv [.int v] σ) : ∀ (N : Nat) (v2 : Int32) (v3 : Int32) , wp_X9_twice_L17 v1 σ Post N v2 v3 → zGG p l e R s m args below meth c Q g n1 n2 8 17 [(0, .ref (g.2.1 69)), (1, .int v1), (2, .int v2), (3, .int v3)] [] σ := by
  intro N
  induction N with
  | zero =>
    intro v2 v3 h
    exact h.elim
  | succ N ih =>
    intro v2 v3 h
    rw [wp_X9_twice_L17] at h
    refine zr_iload_n C d_X9_twice_17 rfl ?_
    refine zr_bipush C (8 : Int32) d_X9_twice_18 (by decide) ?_
    refine zr_icmp_ge C 140 d_X9_twice_20 (by decide) (fun hc4 => ?_) (fun hc4 => ?_)
    · rw [if_pos hc4] at h
      refine zr_iload_n C d_X9_twice_140 rfl ?_
      exact hret _ _ _ h d_X9_twice_141
    · rw [if_neg hc4] at h
      refine zr_iconst C (0 : Int32) d_X9_twice_23 (by decide) ?_
      refine zr_istore C [(4, .int (0 : Int32)), (0, .ref (g.2.1 69)), (1, .int v1), (2, .int v2), (3, .int v3)] d_X9_twice_24 (by decide) rfl ?_
      refine zr_iconst C (0 : Int32) d_X9_twice_26 (by decide) ?_
      refine zr_istore C [(5, .int (0 : Int32)), (4, .int (0 : Int32)), (0, .ref (g.2.1 69)), (1, .int v1), (2, .int v2), (3, .int v3)] d_X9_twice_27 (by decide) rfl ?_
      obtain ⟨M37, h⟩ := h
      exact zr_pick [2, 3, 4, 5, 1, 0] rfl (g_X9_twice_L29 C (fun w4 h => by
          refine zr_iload_n C d_X9_twice_118 rfl ?_
          refine zr_iload C d_X9_twice_119 rfl ?_
          refine zr_iconst C (1 : Int32) d_X9_twice_121 (by decide) ?_
          have hJ34 : ∀ z33 : Int32, z33 = (if w4 ≤ (1 : Int32) then (0 : Int32) else ((1 : Int32) <<< (v3 &&& 31))) → zGG p l e R s m args below meth c Q g n1 n2 8 132 [(0, .ref (g.2.1 69)), (1, .int v1), (2, .int v2), (3, .int v3), (4, .int w4)] [.int z33, .int v2] σ := by
            intro z33 hz33
            replace h := h z33 hz33
            refine zr_ior C d_X9_twice_132 ?_
            refine zr_topi (fun x36 hx36 => ?_)
            replace h := h x36 hx36
            refine zr_istore_n C [(2, .int x36), (0, .ref (g.2.1 69)), (1, .int v1), (3, .int v3), (4, .int w4)] d_X9_twice_133 (by decide) rfl ?_
            refine zr_iinc C (v3 + 1) [(3, .int (v3 + 1)), (2, .int x36), (0, .ref (g.2.1 69)), (1, .int v1), (4, .int w4)] d_X9_twice_134 rfl rfl (by decide) rfl ?_
            refine zr_goto C 17 d_X9_twice_137 (by decide) ?_
            exact zr_pick [2, 3, 1, 0] rfl (ih x36 (v3 + 1) h)
          refine zr_icmp_le C 131 d_X9_twice_122 (by decide) (fun hc32 => ?_) (fun hc32 => ?_)
          · skip
            refine zr_iconst C (0 : Int32) d_X9_twice_131 (by decide) ?_
            exact hJ34 _ (by rw [if_pos hc32])
          · skip
            refine zr_iconst C (1 : Int32) d_X9_twice_125 (by decide) ?_
            refine zr_iload_n C d_X9_twice_126 rfl ?_
            refine zr_ishl C d_X9_twice_127 ?_
            refine zr_goto C 132 d_X9_twice_128 (by decide) ?_
            exact hJ34 _ (by rw [if_neg hc32])) M37 (0 : Int32) (0 : Int32) h)

def wp_X9_twice (p1 : Int32) (σ : zST) (Post : Int32 → Prop) : Prop := wp_X9_in (p1.toInt64) (0 : Int64) (1 : Int64) σ (fun r1 => (if r1 = (0) then Post (-2 : Int32) else ∃ M38 : Nat, wp_X9_twice_L17 p1 σ Post M38 (0 : Int32) (0 : Int32)))
set_option maxRecDepth 100000 in
set_option maxHeartbeats 4000000 in
theorem g_X9_twice {p : Program} {l : Launch} {e : Env} {R : Room} {s : State} {m : MethodId} {args : Array Value} {below : List Frame} {meth : Method} {c : Code} {Q : State → Prop} {g : zG} {n1 n2 : Nat} (C : zCX p R s m args meth c g n1 n2 cX9_twice 8 RX9 1 25) {p1 : Int32} {σ : zST} {Post : Int32 → Prop} (hret : ∀ (v : Int32) (pc : Nat) (lv : List (Nat × Value)), Post v → decode cX9_twice pc = .ok (.ireturn, 1) → zGG p l e R s m args below meth c Q g n1 n2 8 pc lv [.int v] σ) (h : wp_X9_twice p1 σ Post) : zGG p l e R s m args below meth c Q g n1 n2 8 0 [(0, .ref (g.2.1 69)), (1, .int p1)] [] σ := by
  unfold wp_X9_twice at h
  refine zr_iload_n C d_X9_twice_0 rfl ?_
  refine zr_i2l C d_X9_twice_1 ?_
  refine zr_lconst C (0 : Int64) d_X9_twice_2 (by decide) ?_
  refine zr_lconst C (1 : Int64) d_X9_twice_3 (by decide) ?_
  refine zr_cip (zr_runS (As := [.long (p1.toInt64), .long (0 : Int64), .long (1 : Int64)]) (rest := []) C sw_X9_89 (c_X9_in l g (p1.toInt64) (0 : Int64) (1 : Int64) σ _ h) (by decide) (by decide) rfl rfl (Nat.le_of_ble_eq_true rfl) d_X9_twice_4) (fun r1 h => ?_)
  refine zr_if_ne C 13 d_X9_twice_7 (by decide) (fun hc3 => ?_) (fun hc3 => ?_)
  · rw [if_neg hc3] at h
    refine zr_iconst C (0 : Int32) d_X9_twice_13 (by decide) ?_
    refine zr_istore_n C [(2, .int (0 : Int32)), (0, .ref (g.2.1 69)), (1, .int p1)] d_X9_twice_14 (by decide) rfl ?_
    refine zr_iconst C (0 : Int32) d_X9_twice_15 (by decide) ?_
    refine zr_istore_n C [(3, .int (0 : Int32)), (2, .int (0 : Int32)), (0, .ref (g.2.1 69)), (1, .int p1)] d_X9_twice_16 (by decide) rfl ?_
    obtain ⟨M38, h⟩ := h
    exact zr_pick [2, 3, 1, 0] rfl (g_X9_twice_L17 C hret M38 (0 : Int32) (0 : Int32) h)
  · rw [if_pos hc3] at h
    refine zr_bipush C (-2 : Int32) d_X9_twice_10 (by decide) ?_
    exact hret _ _ _ h d_X9_twice_12
set_option maxRecDepth 20000 in
theorem c_X9_twice (l : Launch) (g : zG) (p1 : Int32) (σ : zST) (Post : Int32 → Prop) (h : wp_X9_twice p1 σ Post) : Met l yX9_twice (Cond.code yX9_twice cX9_twice 8 (some .int) :: zGW) (zRm 1 25) (va_Pc [.ref (g.2.1 69), .int p1] (zPP g σ)) (va_Qi (fun r u => Post r ∧ u = σ) (zBB g) (zA g)) 0 0 (zA g) :=
  zMet (by decide) (Nat.le_of_ble_eq_true rfl) (fun p e s m below meth c hr C => g_X9_twice C (fun v pc lv hp hd => zr_iret C hr ⟨hp, rfl⟩ hd) h)
def wp_X9_burnt_L4 (σ : zST) (Post : Int64 → Prop) : Nat → Int64 → Int32 → Prop
  | 0, _, _ => False
  | N + 1, v1, v3 => (if (σ.1 69 25) ≤ v3 then Post v1 else vp_in v3 6 ∧ wp_X9_ones (σ.1 78 v3.toNatClampNeg) σ (fun r3 => vp_in v3 6 ∧ wp_X9_choose ((8 : Int32) - r3) ((σ.1 79 v3.toNatClampNeg) - r3) σ (fun r6 => ∀ x8 : Int64, x8 = (v1 * r6) → wp_X9_burnt_L4 σ Post N x8 (v3 + 1))))

set_option maxRecDepth 100000 in
set_option maxHeartbeats 4000000 in
theorem g_X9_burnt_L4 {p : Program} {l : Launch} {e : Env} {R : Room} {s : State} {m : MethodId} {args : Array Value} {below : List Frame} {meth : Method} {c : Code} {Q : State → Prop} {g : zG} {n1 n2 : Nat} (C : zCX p R s m args meth c g n1 n2 cX9_burnt 5 RX9 1 24) {σ : zST}  {Post : Int64 → Prop} (hret : ∀ (v : Int64) (pc : Nat) (lv : List (Nat × Value)), Post v → decode cX9_burnt pc = .ok (.lreturn, 1) → zGG p l e R s m args below meth c Q g n1 n2 5 pc lv [.long v] σ) : ∀ (N : Nat) (v1 : Int64) (v3 : Int32) , wp_X9_burnt_L4 σ Post N v1 v3 → zGG p l e R s m args below meth c Q g n1 n2 5 4 [(0, .ref (g.2.1 69)), (1, .long v1), (3, .int v3)] [] σ := by
  intro N
  induction N with
  | zero =>
    intro v1 v3 h
    exact h.elim
  | succ N ih =>
    intro v1 v3 h
    rw [wp_X9_burnt_L4] at h
    refine zr_iload_n C d_X9_burnt_4 rfl ?_
    refine zr_aload_n C d_X9_burnt_5 rfl ?_
    refine zr_geti C fw_X9_297 (sh_69) rfl d_X9_burnt_6 ?_
    refine zr_icmp_ge C 49 d_X9_burnt_9 (by decide) (fun hc1 => ?_) (fun hc1 => ?_)
    · rw [if_pos hc1] at h
      refine zr_lload_n C d_X9_burnt_49 rfl ?_
      exact hret _ _ _ h d_X9_burnt_50
    · rw [if_neg hc1] at h
      refine zr_aload_n C d_X9_burnt_12 rfl ?_
      refine zr_getr (u := 78) C fw_X9_34 (sh_69) rfl d_X9_burnt_13 ?_
      refine zr_iload_n C d_X9_burnt_16 rfl ?_
      obtain ⟨ho2, h⟩ := h
      refine zr_iald C (sh_78) ho2 d_X9_burnt_17 ?_
      refine zr_cip (zr_runS (As := [.int (σ.1 78 v3.toNatClampNeg)]) (rest := []) C sw_X9_108 (c_X9_ones l g (σ.1 78 v3.toNatClampNeg) σ _ h) (by decide) (by decide) rfl rfl (Nat.le_of_ble_eq_true rfl) d_X9_burnt_18) (fun r3 h => ?_)
      refine zr_istore C [(4, .int r3), (0, .ref (g.2.1 69)), (1, .long v1), (3, .int v3)] d_X9_burnt_21 (by decide) rfl ?_
      refine zr_lload_n C d_X9_burnt_23 rfl ?_
      refine zr_bipush C (8 : Int32) d_X9_burnt_24 (by decide) ?_
      refine zr_iload C d_X9_burnt_26 rfl ?_
      refine zr_isub C d_X9_burnt_28 ?_
      refine zr_aload_n C d_X9_burnt_29 rfl ?_
      refine zr_getr (u := 79) C fw_X9_37 (sh_69) rfl d_X9_burnt_30 ?_
      refine zr_iload_n C d_X9_burnt_33 rfl ?_
      obtain ⟨ho5, h⟩ := h
      refine zr_iald C (sh_79) ho5 d_X9_burnt_34 ?_
      refine zr_iload C d_X9_burnt_35 rfl ?_
      refine zr_isub C d_X9_burnt_37 ?_
      refine zr_clp (zr_runS (As := [.int ((8 : Int32) - r3), .int ((σ.1 79 v3.toNatClampNeg) - r3)]) (rest := [.long v1]) C sw_X9_288 (c_X9_choose l g ((8 : Int32) - r3) ((σ.1 79 v3.toNatClampNeg) - r3) σ _ h) (by decide) (by decide) rfl rfl (Nat.le_of_ble_eq_true rfl) d_X9_burnt_38) (fun r6 h => ?_)
      refine zr_lmul C d_X9_burnt_41 ?_
      refine zr_topl (fun x8 hx8 => ?_)
      replace h := h x8 hx8
      refine zr_lstore_n C [(1, .long x8), (4, .int r3), (0, .ref (g.2.1 69)), (3, .int v3)] d_X9_burnt_42 (by decide) rfl ?_
      refine zr_iinc C (v3 + 1) [(3, .int (v3 + 1)), (1, .long x8), (4, .int r3), (0, .ref (g.2.1 69))] d_X9_burnt_43 rfl rfl (by decide) rfl ?_
      refine zr_goto C 4 d_X9_burnt_46 (by decide) ?_
      exact zr_pick [3, 1, 0] rfl (ih x8 (v3 + 1) h)

def wp_X9_burnt (σ : zST) (Post : Int64 → Prop) : Prop := ∃ M9 : Nat, wp_X9_burnt_L4 σ Post M9 (1 : Int64) (0 : Int32)
set_option maxRecDepth 100000 in
set_option maxHeartbeats 4000000 in
theorem g_X9_burnt {p : Program} {l : Launch} {e : Env} {R : Room} {s : State} {m : MethodId} {args : Array Value} {below : List Frame} {meth : Method} {c : Code} {Q : State → Prop} {g : zG} {n1 n2 : Nat} (C : zCX p R s m args meth c g n1 n2 cX9_burnt 5 RX9 1 24) {σ : zST} {Post : Int64 → Prop} (hret : ∀ (v : Int64) (pc : Nat) (lv : List (Nat × Value)), Post v → decode cX9_burnt pc = .ok (.lreturn, 1) → zGG p l e R s m args below meth c Q g n1 n2 5 pc lv [.long v] σ) (h : wp_X9_burnt σ Post) : zGG p l e R s m args below meth c Q g n1 n2 5 0 [(0, .ref (g.2.1 69))] [] σ := by
  unfold wp_X9_burnt at h
  refine zr_lconst C (1 : Int64) d_X9_burnt_0 (by decide) ?_
  refine zr_lstore_n C [(1, .long (1 : Int64)), (0, .ref (g.2.1 69))] d_X9_burnt_1 (by decide) rfl ?_
  refine zr_iconst C (0 : Int32) d_X9_burnt_2 (by decide) ?_
  refine zr_istore_n C [(3, .int (0 : Int32)), (1, .long (1 : Int64)), (0, .ref (g.2.1 69))] d_X9_burnt_3 (by decide) rfl ?_
  obtain ⟨M9, h⟩ := h
  exact zr_pick [2, 1, 0] rfl (g_X9_burnt_L4 C hret M9 (1 : Int64) (0 : Int32) h)
set_option maxRecDepth 20000 in
theorem c_X9_burnt (l : Launch) (g : zG) (σ : zST) (Post : Int64 → Prop) (h : wp_X9_burnt σ Post) : Met l yX9_burnt (Cond.code yX9_burnt cX9_burnt 5 (some .long) :: zGW) (zRm 1 24) (va_Pc [.ref (g.2.1 69)] (zPP g σ)) (va_Ql (fun r u => Post r ∧ u = σ) (zBB g) (zA g)) 0 0 (zA g) :=
  zMet (by decide) (Nat.le_of_ble_eq_true rfl) (fun p e s m below meth c hr C => g_X9_burnt C (fun v pc lv hp hd => zr_lret C hr ⟨hp, rfl⟩ hd) h)
