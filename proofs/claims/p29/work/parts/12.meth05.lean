def wp_X9_convoy_J117 (v2 : Int32) (v3 : Int32) (v4 : Int32) (σ : zST) (Post : Int32 → Prop) : Prop := ∀ z9 : Int32, z9 = (if v2 = (0) then v3 else v4) → Post z9

set_option maxRecDepth 100000 in
set_option maxHeartbeats 4000000 in
theorem g_X9_convoy_J117 {p : Program} {l : Launch} {e : Env} {R : Room} {s : State} {m : MethodId} {args : Array Value} {below : List Frame} {meth : Method} {c : Code} {Q : State → Prop} {g : zG} {n1 n2 : Nat} (C : zCX p R s m args meth c g n1 n2 cX9_convoy 8 RX9 4 87) {v2 : Int32} {v3 : Int32} {v4 : Int32} {σ : zST}  {Post : Int32 → Prop} (hret : ∀ (v : Int32) (pc : Nat) (lv : List (Nat × Value)), Post v → decode cX9_convoy pc = .ok (.ireturn, 1) → zGG p l e R s m args below meth c Q g n1 n2 8 pc lv [.int v] σ) (h : wp_X9_convoy_J117 v2 v3 v4 σ Post) : zGG p l e R s m args below meth c Q g n1 n2 8 117 [(2, .int v2), (3, .int v3), (4, .int v4)] [] σ := by
  unfold wp_X9_convoy_J117 at h
  refine zr_iload_n C (zo_28 (p := 117) (zby_w zwX9_convoy_3 21 rfl)) rfl ?_
  have hJ10 : ∀ z9 : Int32, z9 = (if v2 = (0) then v3 else v4) → zGG p l e R s m args below meth c Q g n1 n2 8 127 [(2, .int v2), (3, .int v3), (4, .int v4)] [.int z9] σ := by
    intro z9 hz9
    replace h := h z9 hz9
    exact hret _ _ _ h (zo_172 (p := 127) (zby_w zwX9_convoy_3 31 rfl))
  refine zr_if_ne C 125 (zo_154 (p := 118) (k := 7) (a := 0) (b := 7) (zby_w zwX9_convoy_3 22 rfl) (zby_w zwX9_convoy_3 23 rfl) (zby_w zwX9_convoy_3 24 rfl) (by decide)) (by decide) (fun hc8 => ?_) (fun hc8 => ?_)
  · skip
    refine zr_iload C (zo_21 (p := 125) (k := 4) (a := 4) (zby_w zwX9_convoy_3 29 rfl) (zby_w zwX9_convoy_3 30 rfl) (by decide)) rfl ?_
    exact hJ10 _ (by rw [if_neg hc8])
  · skip
    refine zr_iload_n C (zo_29 (p := 121) (zby_w zwX9_convoy_3 25 rfl)) rfl ?_
    refine zr_goto C 127 (zo_167 (p := 122) (k := 5) (a := 0) (b := 5) (zby_w zwX9_convoy_3 26 rfl) (zby_w zwX9_convoy_3 27 rfl) (zby_w zwX9_convoy_3 28 rfl) (by decide)) (by decide) ?_
    exact hJ10 _ (by rw [if_pos hc8])

def wp_X9_convoy_L41 (v1 : Int32) (v2 : Int32) (v3 : Int32) (v4 : Int32) (v5 : Int32) (σ : zST) (K81 : Int32 → Prop) : Nat → Int32 → Int32 → Prop
  | 0, _, _ => False
  | N + 1, v6, v7 => (if (6 : Int32) ≤ v7 then K81 v6 else wp_X9_isInHarbour v7 σ (fun r13 => (if r13 = (0) then ∀ x16 : Int32, x16 = (v6 + (0 : Int32)) → wp_X9_convoy_L41 v1 v2 v3 v4 v5 σ K81 N x16 (v7 + 1) else wp_X9_meanOf v7 v5 v1 σ (fun r17 => ∀ x19 : Int32, x19 = (v6 + r17) → wp_X9_convoy_L41 v1 v2 v3 v4 v5 σ K81 N x19 (v7 + 1)))))

set_option maxRecDepth 100000 in
set_option maxHeartbeats 4000000 in
theorem g_X9_convoy_L41 {p : Program} {l : Launch} {e : Env} {R : Room} {s : State} {m : MethodId} {args : Array Value} {below : List Frame} {meth : Method} {c : Code} {Q : State → Prop} {g : zG} {n1 n2 : Nat} (C : zCX p R s m args meth c g n1 n2 cX9_convoy 8 RX9 4 87) {v1 : Int32} {v2 : Int32} {v3 : Int32} {v4 : Int32} {v5 : Int32} {σ : zST} {K81 : Int32 → Prop} (hK81 : ∀ (w6 : Int32), K81 w6 → zGG p l e R s m args below meth c Q g n1 n2 8 81 [(0, .ref (g.2.1 69)), (1, .int v1), (2, .int v2), (3, .int v3), (4, .int v4), (5, .int v5), (6, .int w6)] [] σ) : ∀ (N : Nat) (v6 : Int32) (v7 : Int32) , wp_X9_convoy_L41 v1 v2 v3 v4 v5 σ K81 N v6 v7 → zGG p l e R s m args below meth c Q g n1 n2 8 41 [(0, .ref (g.2.1 69)), (1, .int v1), (2, .int v2), (3, .int v3), (4, .int v4), (5, .int v5), (6, .int v6), (7, .int v7)] [] σ := by
  intro N
  induction N with
  | zero =>
    intro v6 v7 h
    exact h.elim
  | succ N ih =>
    intro v6 v7 h
    rw [wp_X9_convoy_L41] at h
    refine zr_iload C (zo_21 (p := 41) (k := 7) (a := 7) (zby_w zwX9_convoy_1 9 rfl) (zby_w zwX9_convoy_1 10 rfl) (by decide)) rfl ?_
    refine zr_bipush C (6 : Int32) (zo_16 (p := 43) (k := 6) (a := 6) (zby_w zwX9_convoy_1 11 rfl) (zby_w zwX9_convoy_1 12 rfl) (by decide)) (by decide) ?_
    refine zr_icmp_ge C 81 (zo_162 (p := 45) (k := 36) (a := 0) (b := 36) (zby_w zwX9_convoy_1 13 rfl) (zby_w zwX9_convoy_1 14 rfl) (zby_w zwX9_convoy_1 15 rfl) (by decide)) (by decide) (fun hc12 => ?_) (fun hc12 => ?_)
    · rw [if_pos hc12] at h
      exact zr_pick [0, 1, 2, 3, 4, 5, 6] rfl (hK81 v6 h)
    · rw [if_neg hc12] at h
      refine zr_iload C (zo_21 (p := 48) (k := 6) (a := 6) (zby_w zwX9_convoy_1 16 rfl) (zby_w zwX9_convoy_1 17 rfl) (by decide)) rfl ?_
      refine zr_aload_n C (zo_42 (p := 50) (zby_w zwX9_convoy_1 18 rfl)) rfl ?_
      refine zr_iload C (zo_21 (p := 51) (k := 7) (a := 7) (zby_w zwX9_convoy_1 19 rfl) (zby_w zwX9_convoy_1 20 rfl) (by decide)) rfl ?_
      refine zr_cip (zr_runV (As := [.int v7]) (rest := [.int v6]) C vw_X9_234 (c_X9_isInHarbour l g v7 σ _ h) (sh_69) rfl (by decide) (by decide) rfl rfl (Nat.le_of_ble_eq_true rfl) (zo_182 (p := 53) (k := 234) (a := 0) (b := 234) (zby_w zwX9_convoy_1 21 rfl) (zby_w zwX9_convoy_1 22 rfl) (zby_w zwX9_convoy_1 23 rfl) (by decide))) (fun r13 h => ?_)
      refine zr_if_eq C 71 (zo_153 (p := 56) (k := 15) (a := 0) (b := 15) (zby_w zwX9_convoy_1 24 rfl) (zby_w zwX9_convoy_1 25 rfl) (zby_w zwX9_convoy_1 26 rfl) (by decide)) (by decide) (fun hc15 => ?_) (fun hc15 => ?_)
      · rw [if_pos hc15] at h
        refine zr_iconst C (0 : Int32) (zo_3 (p := 71) (zby_w zwX9_convoy_2 7 rfl)) (by decide) ?_
        refine zr_iadd C d_X9_convoy_72 ?_
        refine zr_topi (fun x16 hx16 => ?_)
        replace h := h x16 hx16
        refine zr_istore C [(6, .int x16), (0, .ref (g.2.1 69)), (1, .int v1), (2, .int v2), (3, .int v3), (4, .int v4), (5, .int v5), (7, .int v7)] d_X9_convoy_73 (by decide) rfl ?_
        refine zr_iinc C (v7 + 1) [(7, .int (v7 + 1)), (6, .int x16), (0, .ref (g.2.1 69)), (1, .int v1), (2, .int v2), (3, .int v3), (4, .int v4), (5, .int v5)] d_X9_convoy_75 rfl rfl (by decide) rfl ?_
        refine zr_goto C 41 d_X9_convoy_78 (by decide) ?_
        exact zr_pick [2, 3, 4, 5, 6, 7, 1, 0] rfl (ih x16 (v7 + 1) h)
      · rw [if_neg hc15] at h
        refine zr_aload_n C (zo_42 (p := 59) (zby_w zwX9_convoy_1 27 rfl)) rfl ?_
        refine zr_iload C (zo_21 (p := 60) (k := 7) (a := 7) (zby_w zwX9_convoy_1 28 rfl) (zby_w zwX9_convoy_1 29 rfl) (by decide)) rfl ?_
        refine zr_iload C (zo_21 (p := 62) (k := 5) (a := 5) (zby_w zwX9_convoy_1 30 rfl) (zby_w zwX9_convoy_1 31 rfl) (by decide)) rfl ?_
        refine zr_iload_n C (zo_27 (p := 64) (zby_w zwX9_convoy_2 0 rfl)) rfl ?_
        refine zr_cip (zr_runV (As := [.int v7, .int v5, .int v1]) (rest := [.int v6]) C vw_X9_212 (c_X9_meanOf l g v7 v5 v1 σ _ h) (sh_69) rfl (by decide) (by decide) rfl rfl (Nat.le_of_ble_eq_true rfl) (zo_182 (p := 65) (k := 212) (a := 0) (b := 212) (zby_w zwX9_convoy_2 1 rfl) (zby_w zwX9_convoy_2 2 rfl) (zby_w zwX9_convoy_2 3 rfl) (by decide))) (fun r17 h => ?_)
        refine zr_goto C 72 (zo_167 (p := 68) (k := 4) (a := 0) (b := 4) (zby_w zwX9_convoy_2 4 rfl) (zby_w zwX9_convoy_2 5 rfl) (zby_w zwX9_convoy_2 6 rfl) (by decide)) (by decide) ?_
        refine zr_iadd C d_X9_convoy_72 ?_
        refine zr_topi (fun x19 hx19 => ?_)
        replace h := h x19 hx19
        refine zr_istore C [(6, .int x19), (0, .ref (g.2.1 69)), (1, .int v1), (2, .int v2), (3, .int v3), (4, .int v4), (5, .int v5), (7, .int v7)] d_X9_convoy_73 (by decide) rfl ?_
        refine zr_iinc C (v7 + 1) [(7, .int (v7 + 1)), (6, .int x19), (0, .ref (g.2.1 69)), (1, .int v1), (2, .int v2), (3, .int v3), (4, .int v4), (5, .int v5)] d_X9_convoy_75 rfl rfl (by decide) rfl ?_
        refine zr_goto C 41 d_X9_convoy_78 (by decide) ?_
        exact zr_pick [2, 3, 4, 5, 6, 7, 1, 0] rfl (ih x19 (v7 + 1) h)

def wp_X9_convoy_L29 (v1 : Int32) (v2 : Int32) (σ : zST) (Post : Int32 → Prop) : Nat → Int32 → Int32 → Int32 → Prop
  | 0, _, _, _ => False
  | N + 1, v3, v4, v5 => (if (3 : Int32) ≤ v5 then wp_X9_convoy_J117 v2 v3 v4 σ Post else ∃ M28 : Nat, wp_X9_convoy_L41 v1 v2 v3 v4 v5 σ (fun w6 => ∀ z21 : Int32, z21 = (if v4 ≤ w6 then v3 else v5) → ∀ z25 : Int32, z25 = (if v4 ≤ w6 then v4 else w6) → wp_X9_convoy_L29 v1 v2 σ Post N z21 z25 (v5 + 1)) M28 (0 : Int32) (0 : Int32))

set_option maxRecDepth 100000 in
set_option maxHeartbeats 4000000 in
theorem g_X9_convoy_L29 {p : Program} {l : Launch} {e : Env} {R : Room} {s : State} {m : MethodId} {args : Array Value} {below : List Frame} {meth : Method} {c : Code} {Q : State → Prop} {g : zG} {n1 n2 : Nat} (C : zCX p R s m args meth c g n1 n2 cX9_convoy 8 RX9 4 87) {v1 : Int32} {v2 : Int32} {σ : zST}  {Post : Int32 → Prop} (hret : ∀ (v : Int32) (pc : Nat) (lv : List (Nat × Value)), Post v → decode cX9_convoy pc = .ok (.ireturn, 1) → zGG p l e R s m args below meth c Q g n1 n2 8 pc lv [.int v] σ) : ∀ (N : Nat) (v3 : Int32) (v4 : Int32) (v5 : Int32) , wp_X9_convoy_L29 v1 v2 σ Post N v3 v4 v5 → zGG p l e R s m args below meth c Q g n1 n2 8 29 [(0, .ref (g.2.1 69)), (1, .int v1), (2, .int v2), (3, .int v3), (4, .int v4), (5, .int v5)] [] σ := by
  intro N
  induction N with
  | zero =>
    intro v3 v4 v5 h
    exact h.elim
  | succ N ih =>
    intro v3 v4 v5 h
    rw [wp_X9_convoy_L29] at h
    refine zr_iload C (zo_21 (p := 29) (k := 5) (a := 5) (zby_w zwX9_convoy_0 29 rfl) (zby_w zwX9_convoy_0 30 rfl) (by decide)) rfl ?_
    refine zr_iconst C (3 : Int32) (zo_6 (p := 31) (zby_w zwX9_convoy_0 31 rfl)) (by decide) ?_
    refine zr_icmp_ge C 117 (zo_162 (p := 32) (k := 85) (a := 0) (b := 85) (zby_w zwX9_convoy_1 0 rfl) (zby_w zwX9_convoy_1 1 rfl) (zby_w zwX9_convoy_1 2 rfl) (by decide)) (by decide) (fun hc7 => ?_) (fun hc7 => ?_)
    · rw [if_pos hc7] at h
      exact zr_pick [2, 3, 4] rfl (g_X9_convoy_J117 C hret h)
    · rw [if_neg hc7] at h
      refine zr_iconst C (0 : Int32) (zo_3 (p := 35) (zby_w zwX9_convoy_1 3 rfl)) (by decide) ?_
      refine zr_istore C [(6, .int (0 : Int32)), (0, .ref (g.2.1 69)), (1, .int v1), (2, .int v2), (3, .int v3), (4, .int v4), (5, .int v5)] (zo_54 (p := 36) (k := 6) (a := 6) (zby_w zwX9_convoy_1 4 rfl) (zby_w zwX9_convoy_1 5 rfl) (by decide)) (by decide) rfl ?_
      refine zr_iconst C (0 : Int32) (zo_3 (p := 38) (zby_w zwX9_convoy_1 6 rfl)) (by decide) ?_
      refine zr_istore C [(7, .int (0 : Int32)), (6, .int (0 : Int32)), (0, .ref (g.2.1 69)), (1, .int v1), (2, .int v2), (3, .int v3), (4, .int v4), (5, .int v5)] (zo_54 (p := 39) (k := 7) (a := 7) (zby_w zwX9_convoy_1 7 rfl) (zby_w zwX9_convoy_1 8 rfl) (by decide)) (by decide) rfl ?_
      obtain ⟨M28, h⟩ := h
      exact zr_pick [2, 3, 4, 5, 6, 7, 1, 0] rfl (g_X9_convoy_L41 C (fun w6 h => by
          refine zr_iload C (zo_21 (p := 81) (k := 6) (a := 6) (zby_w zwX9_convoy_2 17 rfl) (zby_w zwX9_convoy_2 18 rfl) (by decide)) rfl ?_
          refine zr_iload C (zo_21 (p := 83) (k := 4) (a := 4) (zby_w zwX9_convoy_2 19 rfl) (zby_w zwX9_convoy_2 20 rfl) (by decide)) rfl ?_
          have hJ22 : ∀ z21 : Int32, z21 = (if v4 ≤ w6 then v3 else v5) → zGG p l e R s m args below meth c Q g n1 n2 8 94 [(0, .ref (g.2.1 69)), (1, .int v1), (2, .int v2), (3, .int v3), (4, .int v4), (5, .int v5), (6, .int w6)] [.int z21] σ := by
            intro z21 hz21
            replace h := h z21 hz21
            refine zr_istore_n C [(3, .int z21), (0, .ref (g.2.1 69)), (1, .int v1), (2, .int v2), (4, .int v4), (5, .int v5), (6, .int w6)] (zo_62 (p := 94) (zby_w zwX9_convoy_2 30 rfl)) (by decide) rfl ?_
            refine zr_iload C (zo_21 (p := 95) (k := 6) (a := 6) (zby_w zwX9_convoy_2 31 rfl) (zby_w zwX9_convoy_2 32 rfl) (by decide)) rfl ?_
            refine zr_iload C (zo_21 (p := 97) (k := 4) (a := 4) (zby_w zwX9_convoy_3 1 rfl) (zby_w zwX9_convoy_3 2 rfl) (by decide)) rfl ?_
            have hJ26 : ∀ z25 : Int32, z25 = (if v4 ≤ w6 then v4 else w6) → zGG p l e R s m args below meth c Q g n1 n2 8 109 [(3, .int z21), (0, .ref (g.2.1 69)), (1, .int v1), (2, .int v2), (4, .int v4), (5, .int v5), (6, .int w6)] [.int z25] σ := by
              intro z25 hz25
              replace h := h z25 hz25
              refine zr_istore C [(4, .int z25), (3, .int z21), (0, .ref (g.2.1 69)), (1, .int v1), (2, .int v2), (5, .int v5), (6, .int w6)] (zo_54 (p := 109) (k := 4) (a := 4) (zby_w zwX9_convoy_3 13 rfl) (zby_w zwX9_convoy_3 14 rfl) (by decide)) (by decide) rfl ?_
              refine zr_iinc C (v5 + 1) [(5, .int (v5 + 1)), (4, .int z25), (3, .int z21), (0, .ref (g.2.1 69)), (1, .int v1), (2, .int v2), (6, .int w6)] d_X9_convoy_111 rfl rfl (by decide) rfl ?_
              refine zr_goto C 29 (zo_167 (p := 114) (k := (-85)) (a := 255) (b := 171) (zby_w zwX9_convoy_3 18 rfl) (zby_w zwX9_convoy_3 19 rfl) (zby_w zwX9_convoy_3 20 rfl) (by decide)) (by decide) ?_
              exact zr_pick [3, 4, 5, 2, 1, 0] rfl (ih z21 z25 (v5 + 1) h)
            refine zr_icmp_ge C 107 (zo_162 (p := 99) (k := 8) (a := 0) (b := 8) (zby_w zwX9_convoy_3 3 rfl) (zby_w zwX9_convoy_3 4 rfl) (zby_w zwX9_convoy_3 5 rfl) (by decide)) (by decide) (fun hc24 => ?_) (fun hc24 => ?_)
            · skip
              refine zr_iload C (zo_21 (p := 107) (k := 4) (a := 4) (zby_w zwX9_convoy_3 11 rfl) (zby_w zwX9_convoy_3 12 rfl) (by decide)) rfl ?_
              exact hJ26 _ (by rw [if_pos hc24])
            · skip
              refine zr_iload C (zo_21 (p := 102) (k := 6) (a := 6) (zby_w zwX9_convoy_3 6 rfl) (zby_w zwX9_convoy_3 7 rfl) (by decide)) rfl ?_
              refine zr_goto C 109 (zo_167 (p := 104) (k := 5) (a := 0) (b := 5) (zby_w zwX9_convoy_3 8 rfl) (zby_w zwX9_convoy_3 9 rfl) (zby_w zwX9_convoy_3 10 rfl) (by decide)) (by decide) ?_
              exact hJ26 _ (by rw [if_neg hc24])
          refine zr_icmp_ge C 93 (zo_162 (p := 85) (k := 8) (a := 0) (b := 8) (zby_w zwX9_convoy_2 21 rfl) (zby_w zwX9_convoy_2 22 rfl) (zby_w zwX9_convoy_2 23 rfl) (by decide)) (by decide) (fun hc20 => ?_) (fun hc20 => ?_)
          · skip
            refine zr_iload_n C (zo_29 (p := 93) (zby_w zwX9_convoy_2 29 rfl)) rfl ?_
            exact hJ22 _ (by rw [if_pos hc20])
          · skip
            refine zr_iload C (zo_21 (p := 88) (k := 5) (a := 5) (zby_w zwX9_convoy_2 24 rfl) (zby_w zwX9_convoy_2 25 rfl) (by decide)) rfl ?_
            refine zr_goto C 94 (zo_167 (p := 90) (k := 4) (a := 0) (b := 4) (zby_w zwX9_convoy_2 26 rfl) (zby_w zwX9_convoy_2 27 rfl) (zby_w zwX9_convoy_2 28 rfl) (by decide)) (by decide) ?_
            exact hJ22 _ (by rw [if_neg hc20])) M28 (0 : Int32) (0 : Int32) h)

def wp_X9_convoy (p1 : Int32) (p2 : Int32) (σ : zST) (Post : Int32 → Prop) : Prop := wp_X9_isHour p1 σ (fun r1 => (if r1 = (0) then Post (-2 : Int32) else wp_X9_in (p2.toInt64) (0 : Int64) (1 : Int64) σ (fun r4 => (if r4 = (0) then Post (-2 : Int32) else ∃ M29 : Nat, wp_X9_convoy_L29 p1 p2 σ Post M29 (0 : Int32) (1000000000 : Int32) (0 : Int32)))))
set_option maxRecDepth 100000 in
set_option maxHeartbeats 4000000 in
theorem g_X9_convoy {p : Program} {l : Launch} {e : Env} {R : Room} {s : State} {m : MethodId} {args : Array Value} {below : List Frame} {meth : Method} {c : Code} {Q : State → Prop} {g : zG} {n1 n2 : Nat} (C : zCX p R s m args meth c g n1 n2 cX9_convoy 8 RX9 4 87) {p1 : Int32} {p2 : Int32} {σ : zST} {Post : Int32 → Prop} (hret : ∀ (v : Int32) (pc : Nat) (lv : List (Nat × Value)), Post v → decode cX9_convoy pc = .ok (.ireturn, 1) → zGG p l e R s m args below meth c Q g n1 n2 8 pc lv [.int v] σ) (h : wp_X9_convoy p1 p2 σ Post) : zGG p l e R s m args below meth c Q g n1 n2 8 0 [(0, .ref (g.2.1 69)), (1, .int p1), (2, .int p2)] [] σ := by
  unfold wp_X9_convoy at h
  refine zr_iload_n C (zo_27 (p := 0) (zby_w zwX9_convoy_0 0 rfl)) rfl ?_
  refine zr_cip (zr_runS (As := [.int p1]) (rest := []) C sw_X9_219 (c_X9_isHour l g p1 σ _ h) (by decide) (by decide) rfl rfl (Nat.le_of_ble_eq_true rfl) (zo_184 (p := 1) (k := 219) (a := 0) (b := 219) (zby_w zwX9_convoy_0 1 rfl) (zby_w zwX9_convoy_0 2 rfl) (zby_w zwX9_convoy_0 3 rfl) (by decide))) (fun r1 h => ?_)
  refine zr_if_eq C 17 (zo_153 (p := 4) (k := 13) (a := 0) (b := 13) (zby_w zwX9_convoy_0 4 rfl) (zby_w zwX9_convoy_0 5 rfl) (zby_w zwX9_convoy_0 6 rfl) (by decide)) (by decide) (fun hc3 => ?_) (fun hc3 => ?_)
  · rw [if_pos hc3] at h
    refine zr_bipush C (-2 : Int32) d_X9_convoy_17 (by decide) ?_
    exact hret _ _ _ h d_X9_convoy_19
  · rw [if_neg hc3] at h
    refine zr_iload_n C (zo_28 (p := 7) (zby_w zwX9_convoy_0 7 rfl)) rfl ?_
    refine zr_i2l C (zo_133 (p := 8) (zby_w zwX9_convoy_0 8 rfl)) ?_
    refine zr_lconst C (0 : Int64) (zo_9 (p := 9) (zby_w zwX9_convoy_0 9 rfl)) (by decide) ?_
    refine zr_lconst C (1 : Int64) (zo_10 (p := 10) (zby_w zwX9_convoy_0 10 rfl)) (by decide) ?_
    refine zr_cip (zr_runS (As := [.long (p2.toInt64), .long (0 : Int64), .long (1 : Int64)]) (rest := []) C sw_X9_89 (c_X9_in l g (p2.toInt64) (0 : Int64) (1 : Int64) σ _ h) (by decide) (by decide) rfl rfl (Nat.le_of_ble_eq_true rfl) (zo_184 (p := 11) (k := 89) (a := 0) (b := 89) (zby_w zwX9_convoy_0 11 rfl) (zby_w zwX9_convoy_0 12 rfl) (zby_w zwX9_convoy_0 13 rfl) (by decide))) (fun r4 h => ?_)
    refine zr_if_ne C 20 (zo_154 (p := 14) (k := 6) (a := 0) (b := 6) (zby_w zwX9_convoy_0 14 rfl) (zby_w zwX9_convoy_0 15 rfl) (zby_w zwX9_convoy_0 16 rfl) (by decide)) (by decide) (fun hc6 => ?_) (fun hc6 => ?_)
    · rw [if_neg hc6] at h
      refine zr_iconst C (0 : Int32) (zo_3 (p := 20) (zby_w zwX9_convoy_0 20 rfl)) (by decide) ?_
      refine zr_istore_n C [(3, .int (0 : Int32)), (0, .ref (g.2.1 69)), (1, .int p1), (2, .int p2)] (zo_62 (p := 21) (zby_w zwX9_convoy_0 21 rfl)) (by decide) rfl ?_
      refine zr_ldc C (v := (1000000000 : Int32)) cw_X9_230 (zo_18 (p := 22) (k := 230) (a := 230) (zby_w zwX9_convoy_0 22 rfl) (zby_w zwX9_convoy_0 23 rfl) (by decide)) ?_
      refine zr_istore C [(4, .int (1000000000 : Int32)), (3, .int (0 : Int32)), (0, .ref (g.2.1 69)), (1, .int p1), (2, .int p2)] (zo_54 (p := 24) (k := 4) (a := 4) (zby_w zwX9_convoy_0 24 rfl) (zby_w zwX9_convoy_0 25 rfl) (by decide)) (by decide) rfl ?_
      refine zr_iconst C (0 : Int32) (zo_3 (p := 26) (zby_w zwX9_convoy_0 26 rfl)) (by decide) ?_
      refine zr_istore C [(5, .int (0 : Int32)), (4, .int (1000000000 : Int32)), (3, .int (0 : Int32)), (0, .ref (g.2.1 69)), (1, .int p1), (2, .int p2)] (zo_54 (p := 27) (k := 5) (a := 5) (zby_w zwX9_convoy_0 27 rfl) (zby_w zwX9_convoy_0 28 rfl) (by decide)) (by decide) rfl ?_
      obtain ⟨M29, h⟩ := h
      exact zr_pick [3, 4, 5, 2, 1, 0] rfl (g_X9_convoy_L29 C hret M29 (0 : Int32) (1000000000 : Int32) (0 : Int32) h)
    · rw [if_pos hc6] at h
      refine zr_bipush C (-2 : Int32) d_X9_convoy_17 (by decide) ?_
      exact hret _ _ _ h d_X9_convoy_19
set_option maxRecDepth 20000 in
theorem c_X9_convoy (l : Launch) (g : zG) (p1 : Int32) (p2 : Int32) (σ : zST) (Post : Int32 → Prop) (h : wp_X9_convoy p1 p2 σ Post) : Met l yX9_convoy (Cond.code yX9_convoy cX9_convoy 8 (some .int) :: zGW) (zRm 4 87) (va_Pc [.ref (g.2.1 69), .int p1, .int p2] (zPP g σ)) (va_Qi (fun r u => Post r ∧ u = σ) (zBB g) (zA g)) 0 0 (zA g) :=
  zMet (by decide) (Nat.le_of_ble_eq_true rfl) (fun p e s m below meth c hr C => g_X9_convoy C (fun v pc lv hp hd => zr_iret C hr ⟨hp, rfl⟩ hd) h)
def wp_X9_gets (p1 : Int32) (p2 : Int32) (p3 : Int32) (p4 : Int32) (σ : zST) (Post : Int32 → Prop) : Prop := vp_in p1 6 ∧ wp_X9_lostByTeeth p1 σ (fun r2 => ∀ x4 : Int32, x4 = ((σ.1 70 p1.toNatClampNeg) - r2) → (if p2 = (0) then ∀ z22 : Int32, z22 = (if x4 = (0) then (0 : Int32) else ((10 : Int32) * ((σ.1 69 10) + (p4 * x4)))) → Post z22 else vp_in p1 6 ∧ ∀ x7 : Int32, x7 = ((σ.1 69 10) + (p4 * (σ.1 70 p1.toNatClampNeg))) → (if p2 = (1 : Int32) then wp_X9_tenths p3 σ (fun r14 => vp_in p1 6 ∧ ∀ z18 : Int32, z18 = (if (σ.1 70 p1.toNatClampNeg) = (0) then (0 : Int32) else x7) → Post (((10 : Int32) - r14) * z18)) else vp_in p1 6 ∧ ∀ z11 : Int32, z11 = (if (σ.1 70 p1.toNatClampNeg) = (0) then (0 : Int32) else x7) → Post ((10 : Int32) * (z11 - (σ.1 69 8))))))
set_option maxRecDepth 100000 in
set_option maxHeartbeats 4000000 in
theorem g_X9_gets {p : Program} {l : Launch} {e : Env} {R : Room} {s : State} {m : MethodId} {args : Array Value} {below : List Frame} {meth : Method} {c : Code} {Q : State → Prop} {g : zG} {n1 n2 : Nat} (C : zCX p R s m args meth c g n1 n2 cX9_gets 7 RX9 1 22) {p1 : Int32} {p2 : Int32} {p3 : Int32} {p4 : Int32} {σ : zST} {Post : Int32 → Prop} (hret : ∀ (v : Int32) (pc : Nat) (lv : List (Nat × Value)), Post v → decode cX9_gets pc = .ok (.ireturn, 1) → zGG p l e R s m args below meth c Q g n1 n2 7 pc lv [.int v] σ) (h : wp_X9_gets p1 p2 p3 p4 σ Post) : zGG p l e R s m args below meth c Q g n1 n2 7 0 [(0, .ref (g.2.1 69)), (1, .int p1), (2, .int p2), (3, .int p3), (4, .int p4)] [] σ := by
  unfold wp_X9_gets at h
  refine zr_aload_n C (zo_42 (p := 0) (zby_w zwX9_gets_0 0 rfl)) rfl ?_
  refine zr_getr (u := 70) C fw_X9_7 (sh_69) rfl (zo_180 (p := 1) (k := 7) (a := 0) (b := 7) (zby_w zwX9_gets_0 1 rfl) (zby_w zwX9_gets_0 2 rfl) (zby_w zwX9_gets_0 3 rfl) (by decide)) ?_
  refine zr_iload_n C (zo_27 (p := 4) (zby_w zwX9_gets_0 4 rfl)) rfl ?_
  obtain ⟨ho1, h⟩ := h
  refine zr_iald C (sh_70) ho1 (zo_46 (p := 5) (zby_w zwX9_gets_0 5 rfl)) ?_
  refine zr_aload_n C (zo_42 (p := 6) (zby_w zwX9_gets_0 6 rfl)) rfl ?_
  refine zr_iload_n C (zo_27 (p := 7) (zby_w zwX9_gets_0 7 rfl)) rfl ?_
  refine zr_cip (zr_runV (As := [.int p1]) (rest := [.int (σ.1 70 p1.toNatClampNeg)]) C vw_X9_148 (c_X9_lostByTeeth l g p1 σ _ h) (sh_69) rfl (by decide) (by decide) rfl rfl (Nat.le_of_ble_eq_true rfl) (zo_182 (p := 8) (k := 148) (a := 0) (b := 148) (zby_w zwX9_gets_0 8 rfl) (zby_w zwX9_gets_0 9 rfl) (zby_w zwX9_gets_0 10 rfl) (by decide))) (fun r2 h => ?_)
  refine zr_isub C (zo_100 (p := 11) (zby_w zwX9_gets_0 11 rfl)) ?_
  refine zr_topi (fun x4 hx4 => ?_)
  replace h := h x4 hx4
  refine zr_istore C [(5, .int x4), (0, .ref (g.2.1 69)), (1, .int p1), (2, .int p2), (3, .int p3), (4, .int p4)] (zo_54 (p := 12) (k := 5) (a := 5) (zby_w zwX9_gets_0 12 rfl) (zby_w zwX9_gets_0 13 rfl) (by decide)) (by decide) rfl ?_
  refine zr_iload_n C (zo_28 (p := 14) (zby_w zwX9_gets_0 14 rfl)) rfl ?_
  refine zr_if_ne C 41 (zo_154 (p := 15) (k := 26) (a := 0) (b := 26) (zby_w zwX9_gets_0 15 rfl) (zby_w zwX9_gets_0 16 rfl) (zby_w zwX9_gets_0 17 rfl) (by decide)) (by decide) (fun hc5 => ?_) (fun hc5 => ?_)
  · rw [if_neg hc5] at h
    refine zr_aload_n C (zo_42 (p := 41) (zby_w zwX9_gets_1 9 rfl)) rfl ?_
    refine zr_geti C fw_X9_78 (sh_69) rfl (zo_180 (p := 42) (k := 78) (a := 0) (b := 78) (zby_w zwX9_gets_1 10 rfl) (zby_w zwX9_gets_1 11 rfl) (zby_w zwX9_gets_1 12 rfl) (by decide)) ?_
    refine zr_iload C (zo_21 (p := 45) (k := 4) (a := 4) (zby_w zwX9_gets_1 13 rfl) (zby_w zwX9_gets_1 14 rfl) (by decide)) rfl ?_
    refine zr_aload_n C (zo_42 (p := 47) (zby_w zwX9_gets_1 15 rfl)) rfl ?_
    refine zr_getr (u := 70) C fw_X9_7 (sh_69) rfl (zo_180 (p := 48) (k := 7) (a := 0) (b := 7) (zby_w zwX9_gets_1 16 rfl) (zby_w zwX9_gets_1 17 rfl) (zby_w zwX9_gets_1 18 rfl) (by decide)) ?_
    refine zr_iload_n C (zo_27 (p := 51) (zby_w zwX9_gets_1 19 rfl)) rfl ?_
    obtain ⟨ho6, h⟩ := h
    refine zr_iald C (sh_70) ho6 (zo_46 (p := 52) (zby_w zwX9_gets_1 20 rfl)) ?_
    refine zr_imul C (zo_104 (p := 53) (zby_w zwX9_gets_1 21 rfl)) ?_
    refine zr_iadd C (zo_96 (p := 54) (zby_w zwX9_gets_1 22 rfl)) ?_
    refine zr_topi (fun x7 hx7 => ?_)
    replace h := h x7 hx7
    refine zr_istore C [(6, .int x7), (5, .int x4), (0, .ref (g.2.1 69)), (1, .int p1), (2, .int p2), (3, .int p3), (4, .int p4)] (zo_54 (p := 55) (k := 6) (a := 6) (zby_w zwX9_gets_1 23 rfl) (zby_w zwX9_gets_1 24 rfl) (by decide)) (by decide) rfl ?_
    refine zr_iload_n C (zo_28 (p := 57) (zby_w zwX9_gets_1 25 rfl)) rfl ?_
    refine zr_iconst C (1 : Int32) (zo_4 (p := 58) (zby_w zwX9_gets_1 26 rfl)) (by decide) ?_
    refine zr_icmp_ne C 89 (zo_160 (p := 59) (k := 30) (a := 0) (b := 30) (zby_w zwX9_gets_1 27 rfl) (zby_w zwX9_gets_1 28 rfl) (zby_w zwX9_gets_1 29 rfl) (by decide)) (by decide) (fun hc8 => ?_) (fun hc8 => ?_)
    · rw [if_neg hc8] at h
      refine zr_bipush C (10 : Int32) (zo_16 (p := 89) (k := 10) (a := 10) (zby_w zwX9_gets_2 25 rfl) (zby_w zwX9_gets_2 26 rfl) (by decide)) (by decide) ?_
      refine zr_aload_n C (zo_42 (p := 91) (zby_w zwX9_gets_2 27 rfl)) rfl ?_
      refine zr_getr (u := 70) C fw_X9_7 (sh_69) rfl (zo_180 (p := 92) (k := 7) (a := 0) (b := 7) (zby_w zwX9_gets_2 28 rfl) (zby_w zwX9_gets_2 29 rfl) (zby_w zwX9_gets_2 30 rfl) (by decide)) ?_
      refine zr_iload_n C (zo_27 (p := 95) (zby_w zwX9_gets_2 31 rfl)) rfl ?_
      obtain ⟨ho9, h⟩ := h
      refine zr_iald C (sh_70) ho9 (zo_46 (p := 96) (zby_w zwX9_gets_3 0 rfl)) ?_
      have hJ12 : ∀ z11 : Int32, z11 = (if (σ.1 70 p1.toNatClampNeg) = (0) then (0 : Int32) else x7) → zGG p l e R s m args below meth c Q g n1 n2 7 106 [(6, .int x7), (5, .int x4), (0, .ref (g.2.1 69)), (1, .int p1), (2, .int p2), (3, .int p3), (4, .int p4)] [.int z11, .int (10 : Int32)] σ := by
        intro z11 hz11
        replace h := h z11 hz11
        refine zr_aload_n C (zo_42 (p := 106) (zby_w zwX9_gets_3 10 rfl)) rfl ?_
        refine zr_geti C fw_X9_72 (sh_69) rfl (zo_180 (p := 107) (k := 72) (a := 0) (b := 72) (zby_w zwX9_gets_3 11 rfl) (zby_w zwX9_gets_3 12 rfl) (zby_w zwX9_gets_3 13 rfl) (by decide)) ?_
        refine zr_isub C (zo_100 (p := 110) (zby_w zwX9_gets_3 14 rfl)) ?_
        refine zr_imul C (zo_104 (p := 111) (zby_w zwX9_gets_3 15 rfl)) ?_
        exact hret _ _ _ h d_X9_gets_112
      refine zr_if_ne C 104 (zo_154 (p := 97) (k := 7) (a := 0) (b := 7) (zby_w zwX9_gets_3 1 rfl) (zby_w zwX9_gets_3 2 rfl) (zby_w zwX9_gets_3 3 rfl) (by decide)) (by decide) (fun hc10 => ?_) (fun hc10 => ?_)
      · skip
        refine zr_iload C (zo_21 (p := 104) (k := 6) (a := 6) (zby_w zwX9_gets_3 8 rfl) (zby_w zwX9_gets_3 9 rfl) (by decide)) rfl ?_
        exact hJ12 _ (by rw [if_neg hc10])
      · skip
        refine zr_iconst C (0 : Int32) (zo_3 (p := 100) (zby_w zwX9_gets_3 4 rfl)) (by decide) ?_
        refine zr_goto C 106 (zo_167 (p := 101) (k := 5) (a := 0) (b := 5) (zby_w zwX9_gets_3 5 rfl) (zby_w zwX9_gets_3 6 rfl) (zby_w zwX9_gets_3 7 rfl) (by decide)) (by decide) ?_
        exact hJ12 _ (by rw [if_pos hc10])
    · rw [if_pos hc8] at h
      refine zr_bipush C (10 : Int32) (zo_16 (p := 62) (k := 10) (a := 10) (zby_w zwX9_gets_1 30 rfl) (zby_w zwX9_gets_1 31 rfl) (by decide)) (by decide) ?_
      refine zr_aload_n C (zo_42 (p := 64) (zby_w zwX9_gets_2 0 rfl)) rfl ?_
      refine zr_iload_n C (zo_29 (p := 65) (zby_w zwX9_gets_2 1 rfl)) rfl ?_
      refine zr_cip (zr_runV (As := [.int p3]) (rest := [.int (10 : Int32)]) C vw_X9_163 (c_X9_tenths l g p3 σ _ h) (sh_69) rfl (by decide) (by decide) rfl rfl (Nat.le_of_ble_eq_true rfl) (zo_182 (p := 66) (k := 163) (a := 0) (b := 163) (zby_w zwX9_gets_2 2 rfl) (zby_w zwX9_gets_2 3 rfl) (zby_w zwX9_gets_2 4 rfl) (by decide))) (fun r14 h => ?_)
      refine zr_isub C (zo_100 (p := 69) (zby_w zwX9_gets_2 5 rfl)) ?_
      refine zr_aload_n C (zo_42 (p := 70) (zby_w zwX9_gets_2 6 rfl)) rfl ?_
      refine zr_getr (u := 70) C fw_X9_7 (sh_69) rfl (zo_180 (p := 71) (k := 7) (a := 0) (b := 7) (zby_w zwX9_gets_2 7 rfl) (zby_w zwX9_gets_2 8 rfl) (zby_w zwX9_gets_2 9 rfl) (by decide)) ?_
      refine zr_iload_n C (zo_27 (p := 74) (zby_w zwX9_gets_2 10 rfl)) rfl ?_
      obtain ⟨ho16, h⟩ := h
      refine zr_iald C (sh_70) ho16 (zo_46 (p := 75) (zby_w zwX9_gets_2 11 rfl)) ?_
      have hJ19 : ∀ z18 : Int32, z18 = (if (σ.1 70 p1.toNatClampNeg) = (0) then (0 : Int32) else x7) → zGG p l e R s m args below meth c Q g n1 n2 7 85 [(6, .int x7), (5, .int x4), (0, .ref (g.2.1 69)), (1, .int p1), (2, .int p2), (3, .int p3), (4, .int p4)] [.int z18, .int ((10 : Int32) - r14)] σ := by
        intro z18 hz18
        replace h := h z18 hz18
        refine zr_imul C (zo_104 (p := 85) (zby_w zwX9_gets_2 21 rfl)) ?_
        refine zr_goto C 112 (zo_167 (p := 86) (k := 26) (a := 0) (b := 26) (zby_w zwX9_gets_2 22 rfl) (zby_w zwX9_gets_2 23 rfl) (zby_w zwX9_gets_2 24 rfl) (by decide)) (by decide) ?_
        exact hret _ _ _ h d_X9_gets_112
      refine zr_if_ne C 83 (zo_154 (p := 76) (k := 7) (a := 0) (b := 7) (zby_w zwX9_gets_2 12 rfl) (zby_w zwX9_gets_2 13 rfl) (zby_w zwX9_gets_2 14 rfl) (by decide)) (by decide) (fun hc17 => ?_) (fun hc17 => ?_)
      · skip
        refine zr_iload C (zo_21 (p := 83) (k := 6) (a := 6) (zby_w zwX9_gets_2 19 rfl) (zby_w zwX9_gets_2 20 rfl) (by decide)) rfl ?_
        exact hJ19 _ (by rw [if_neg hc17])
      · skip
        refine zr_iconst C (0 : Int32) (zo_3 (p := 79) (zby_w zwX9_gets_2 15 rfl)) (by decide) ?_
        refine zr_goto C 85 (zo_167 (p := 80) (k := 5) (a := 0) (b := 5) (zby_w zwX9_gets_2 16 rfl) (zby_w zwX9_gets_2 17 rfl) (zby_w zwX9_gets_2 18 rfl) (by decide)) (by decide) ?_
        exact hJ19 _ (by rw [if_pos hc17])
  · rw [if_pos hc5] at h
    refine zr_iload C (zo_21 (p := 18) (k := 5) (a := 5) (zby_w zwX9_gets_0 18 rfl) (zby_w zwX9_gets_0 19 rfl) (by decide)) rfl ?_
    have hJ23 : ∀ z22 : Int32, z22 = (if x4 = (0) then (0 : Int32) else ((10 : Int32) * ((σ.1 69 10) + (p4 * x4)))) → zGG p l e R s m args below meth c Q g n1 n2 7 40 [(5, .int x4), (0, .ref (g.2.1 69)), (1, .int p1), (2, .int p2), (3, .int p3), (4, .int p4)] [.int z22] σ := by
      intro z22 hz22
      replace h := h z22 hz22
      exact hret _ _ _ h (zo_172 (p := 40) (zby_w zwX9_gets_1 8 rfl))
    refine zr_if_ne C 27 (zo_154 (p := 20) (k := 7) (a := 0) (b := 7) (zby_w zwX9_gets_0 20 rfl) (zby_w zwX9_gets_0 21 rfl) (zby_w zwX9_gets_0 22 rfl) (by decide)) (by decide) (fun hc21 => ?_) (fun hc21 => ?_)
    · skip
      refine zr_bipush C (10 : Int32) (zo_16 (p := 27) (k := 10) (a := 10) (zby_w zwX9_gets_0 27 rfl) (zby_w zwX9_gets_0 28 rfl) (by decide)) (by decide) ?_
      refine zr_aload_n C (zo_42 (p := 29) (zby_w zwX9_gets_0 29 rfl)) rfl ?_
      refine zr_geti C fw_X9_78 (sh_69) rfl (zo_180 (p := 30) (k := 78) (a := 0) (b := 78) (zby_w zwX9_gets_0 30 rfl) (zby_w zwX9_gets_0 31 rfl) (zby_w zwX9_gets_0 32 rfl) (by decide)) ?_
      refine zr_iload C (zo_21 (p := 33) (k := 4) (a := 4) (zby_w zwX9_gets_1 1 rfl) (zby_w zwX9_gets_1 2 rfl) (by decide)) rfl ?_
      refine zr_iload C (zo_21 (p := 35) (k := 5) (a := 5) (zby_w zwX9_gets_1 3 rfl) (zby_w zwX9_gets_1 4 rfl) (by decide)) rfl ?_
      refine zr_imul C (zo_104 (p := 37) (zby_w zwX9_gets_1 5 rfl)) ?_
      refine zr_iadd C (zo_96 (p := 38) (zby_w zwX9_gets_1 6 rfl)) ?_
      refine zr_imul C (zo_104 (p := 39) (zby_w zwX9_gets_1 7 rfl)) ?_
      exact hJ23 _ (by rw [if_neg hc21])
    · skip
      refine zr_iconst C (0 : Int32) (zo_3 (p := 23) (zby_w zwX9_gets_0 23 rfl)) (by decide) ?_
      refine zr_goto C 40 (zo_167 (p := 24) (k := 16) (a := 0) (b := 16) (zby_w zwX9_gets_0 24 rfl) (zby_w zwX9_gets_0 25 rfl) (zby_w zwX9_gets_0 26 rfl) (by decide)) (by decide) ?_
      exact hJ23 _ (by rw [if_pos hc21])
set_option maxRecDepth 20000 in
theorem c_X9_gets (l : Launch) (g : zG) (p1 : Int32) (p2 : Int32) (p3 : Int32) (p4 : Int32) (σ : zST) (Post : Int32 → Prop) (h : wp_X9_gets p1 p2 p3 p4 σ Post) : Met l yX9_gets (Cond.code yX9_gets cX9_gets 7 (some .int) :: zGW) (zRm 1 22) (va_Pc [.ref (g.2.1 69), .int p1, .int p2, .int p3, .int p4] (zPP g σ)) (va_Qi (fun r u => Post r ∧ u = σ) (zBB g) (zA g)) 0 0 (zA g) :=
  zMet (by decide) (Nat.le_of_ble_eq_true rfl) (fun p e s m below meth c hr C => g_X9_gets C (fun v pc lv hp hd => zr_iret C hr ⟨hp, rfl⟩ hd) h)
def wp_X9_captainBy_L6 (v1 : Int32) (v2 : Int32) (v3 : Int32) (σ : zST) (Post : Int32 → Prop) : Nat → Int32 → Int32 → Prop
  | 0, _, _ => False
  | N + 1, v4, v5 => (if (3 : Int32) ≤ v5 then Post v4 else wp_X9_gets v1 v5 v2 v3 σ (fun r2 => wp_X9_gets v1 v4 v2 v3 σ (fun r4 => ∀ z7 : Int32, z7 = (if r2 ≤ r4 then v4 else v5) → wp_X9_captainBy_L6 v1 v2 v3 σ Post N z7 (v5 + 1))))

set_option maxRecDepth 100000 in
set_option maxHeartbeats 4000000 in
theorem g_X9_captainBy_L6 {p : Program} {l : Launch} {e : Env} {R : Room} {s : State} {m : MethodId} {args : Array Value} {below : List Frame} {meth : Method} {c : Code} {Q : State → Prop} {g : zG} {n1 n2 : Nat} (C : zCX p R s m args meth c g n1 n2 cX9_captainBy 6 RX9 2 48) {v1 : Int32} {v2 : Int32} {v3 : Int32} {σ : zST}  {Post : Int32 → Prop} (hret : ∀ (v : Int32) (pc : Nat) (lv : List (Nat × Value)), Post v → decode cX9_captainBy pc = .ok (.ireturn, 1) → zGG p l e R s m args below meth c Q g n1 n2 6 pc lv [.int v] σ) : ∀ (N : Nat) (v4 : Int32) (v5 : Int32) , wp_X9_captainBy_L6 v1 v2 v3 σ Post N v4 v5 → zGG p l e R s m args below meth c Q g n1 n2 6 6 [(0, .ref (g.2.1 69)), (1, .int v1), (2, .int v2), (3, .int v3), (4, .int v4), (5, .int v5)] [] σ := by
  intro N
  induction N with
  | zero =>
    intro v4 v5 h
    exact h.elim
  | succ N ih =>
    intro v4 v5 h
    rw [wp_X9_captainBy_L6] at h
    refine zr_iload C (zo_21 (p := 6) (k := 5) (a := 5) (zby_w zwX9_captainBy_0 6 rfl) (zby_w zwX9_captainBy_0 7 rfl) (by decide)) rfl ?_
    refine zr_iconst C (3 : Int32) (zo_6 (p := 8) (zby_w zwX9_captainBy_0 8 rfl)) (by decide) ?_
    refine zr_icmp_ge C 48 (zo_162 (p := 9) (k := 39) (a := 0) (b := 39) (zby_w zwX9_captainBy_0 9 rfl) (zby_w zwX9_captainBy_0 10 rfl) (zby_w zwX9_captainBy_0 11 rfl) (by decide)) (by decide) (fun hc1 => ?_) (fun hc1 => ?_)
    · rw [if_pos hc1] at h
      refine zr_iload C (zo_21 (p := 48) (k := 4) (a := 4) (zby_w zwX9_captainBy_1 16 rfl) (zby_w zwX9_captainBy_1 17 rfl) (by decide)) rfl ?_
      exact hret _ _ _ h (zo_172 (p := 50) (zby_w zwX9_captainBy_1 18 rfl))
    · rw [if_neg hc1] at h
      refine zr_aload_n C (zo_42 (p := 12) (zby_w zwX9_captainBy_0 12 rfl)) rfl ?_
      refine zr_iload_n C (zo_27 (p := 13) (zby_w zwX9_captainBy_0 13 rfl)) rfl ?_
      refine zr_iload C (zo_21 (p := 14) (k := 5) (a := 5) (zby_w zwX9_captainBy_0 14 rfl) (zby_w zwX9_captainBy_0 15 rfl) (by decide)) rfl ?_
      refine zr_iload_n C (zo_28 (p := 16) (zby_w zwX9_captainBy_0 16 rfl)) rfl ?_
      refine zr_iload_n C (zo_29 (p := 17) (zby_w zwX9_captainBy_0 17 rfl)) rfl ?_
      refine zr_cip (zr_runV (As := [.int v1, .int v5, .int v2, .int v3]) (rest := []) C vw_X9_251 (c_X9_gets l g v1 v5 v2 v3 σ _ h) (sh_69) rfl (by decide) (by decide) rfl rfl (Nat.le_of_ble_eq_true rfl) (zo_182 (p := 18) (k := 251) (a := 0) (b := 251) (zby_w zwX9_captainBy_0 18 rfl) (zby_w zwX9_captainBy_0 19 rfl) (zby_w zwX9_captainBy_0 20 rfl) (by decide))) (fun r2 h => ?_)
      refine zr_aload_n C (zo_42 (p := 21) (zby_w zwX9_captainBy_0 21 rfl)) rfl ?_
      refine zr_iload_n C (zo_27 (p := 22) (zby_w zwX9_captainBy_0 22 rfl)) rfl ?_
      refine zr_iload C (zo_21 (p := 23) (k := 4) (a := 4) (zby_w zwX9_captainBy_0 23 rfl) (zby_w zwX9_captainBy_0 24 rfl) (by decide)) rfl ?_
      refine zr_iload_n C (zo_28 (p := 25) (zby_w zwX9_captainBy_0 25 rfl)) rfl ?_
      refine zr_iload_n C (zo_29 (p := 26) (zby_w zwX9_captainBy_0 26 rfl)) rfl ?_
      refine zr_cip (zr_runV (As := [.int v1, .int v4, .int v2, .int v3]) (rest := [.int r2]) C vw_X9_251 (c_X9_gets l g v1 v4 v2 v3 σ _ h) (sh_69) rfl (by decide) (by decide) rfl rfl (Nat.le_of_ble_eq_true rfl) (zo_182 (p := 27) (k := 251) (a := 0) (b := 251) (zby_w zwX9_captainBy_0 27 rfl) (zby_w zwX9_captainBy_0 28 rfl) (zby_w zwX9_captainBy_0 29 rfl) (by decide))) (fun r4 h => ?_)
      have hJ8 : ∀ z7 : Int32, z7 = (if r2 ≤ r4 then v4 else v5) → zGG p l e R s m args below meth c Q g n1 n2 6 40 [(0, .ref (g.2.1 69)), (1, .int v1), (2, .int v2), (3, .int v3), (4, .int v4), (5, .int v5)] [.int z7] σ := by
        intro z7 hz7
        replace h := h z7 hz7
        refine zr_istore C [(4, .int z7), (0, .ref (g.2.1 69)), (1, .int v1), (2, .int v2), (3, .int v3), (5, .int v5)] (zo_54 (p := 40) (k := 4) (a := 4) (zby_w zwX9_captainBy_1 8 rfl) (zby_w zwX9_captainBy_1 9 rfl) (by decide)) (by decide) rfl ?_
        refine zr_iinc C (v5 + 1) [(5, .int (v5 + 1)), (4, .int z7), (0, .ref (g.2.1 69)), (1, .int v1), (2, .int v2), (3, .int v3)] d_X9_captainBy_42 rfl rfl (by decide) rfl ?_
        refine zr_goto C 6 (zo_167 (p := 45) (k := (-39)) (a := 255) (b := 217) (zby_w zwX9_captainBy_1 13 rfl) (zby_w zwX9_captainBy_1 14 rfl) (zby_w zwX9_captainBy_1 15 rfl) (by decide)) (by decide) ?_
        exact zr_pick [2, 3, 4, 5, 1, 0] rfl (ih z7 (v5 + 1) h)
      refine zr_icmp_le C 38 (zo_164 (p := 30) (k := 8) (a := 0) (b := 8) (zby_w zwX9_captainBy_0 30 rfl) (zby_w zwX9_captainBy_0 31 rfl) (zby_w zwX9_captainBy_0 32 rfl) (by decide)) (by decide) (fun hc6 => ?_) (fun hc6 => ?_)
      · skip
        refine zr_iload C (zo_21 (p := 38) (k := 4) (a := 4) (zby_w zwX9_captainBy_1 6 rfl) (zby_w zwX9_captainBy_1 7 rfl) (by decide)) rfl ?_
        exact hJ8 _ (by rw [if_pos hc6])
      · skip
        refine zr_iload C (zo_21 (p := 33) (k := 5) (a := 5) (zby_w zwX9_captainBy_1 1 rfl) (zby_w zwX9_captainBy_1 2 rfl) (by decide)) rfl ?_
        refine zr_goto C 40 (zo_167 (p := 35) (k := 5) (a := 0) (b := 5) (zby_w zwX9_captainBy_1 3 rfl) (zby_w zwX9_captainBy_1 4 rfl) (zby_w zwX9_captainBy_1 5 rfl) (by decide)) (by decide) ?_
        exact hJ8 _ (by rw [if_neg hc6])

def wp_X9_captainBy (p1 : Int32) (p2 : Int32) (p3 : Int32) (σ : zST) (Post : Int32 → Prop) : Prop := ∃ M10 : Nat, wp_X9_captainBy_L6 p1 p2 p3 σ Post M10 (0 : Int32) (1 : Int32)
set_option maxRecDepth 100000 in
set_option maxHeartbeats 4000000 in
theorem g_X9_captainBy {p : Program} {l : Launch} {e : Env} {R : Room} {s : State} {m : MethodId} {args : Array Value} {below : List Frame} {meth : Method} {c : Code} {Q : State → Prop} {g : zG} {n1 n2 : Nat} (C : zCX p R s m args meth c g n1 n2 cX9_captainBy 6 RX9 2 48) {p1 : Int32} {p2 : Int32} {p3 : Int32} {σ : zST} {Post : Int32 → Prop} (hret : ∀ (v : Int32) (pc : Nat) (lv : List (Nat × Value)), Post v → decode cX9_captainBy pc = .ok (.ireturn, 1) → zGG p l e R s m args below meth c Q g n1 n2 6 pc lv [.int v] σ) (h : wp_X9_captainBy p1 p2 p3 σ Post) : zGG p l e R s m args below meth c Q g n1 n2 6 0 [(0, .ref (g.2.1 69)), (1, .int p1), (2, .int p2), (3, .int p3)] [] σ := by
  unfold wp_X9_captainBy at h
  refine zr_iconst C (0 : Int32) (zo_3 (p := 0) (zby_w zwX9_captainBy_0 0 rfl)) (by decide) ?_
  refine zr_istore C [(4, .int (0 : Int32)), (0, .ref (g.2.1 69)), (1, .int p1), (2, .int p2), (3, .int p3)] (zo_54 (p := 1) (k := 4) (a := 4) (zby_w zwX9_captainBy_0 1 rfl) (zby_w zwX9_captainBy_0 2 rfl) (by decide)) (by decide) rfl ?_
  refine zr_iconst C (1 : Int32) (zo_4 (p := 3) (zby_w zwX9_captainBy_0 3 rfl)) (by decide) ?_
  refine zr_istore C [(5, .int (1 : Int32)), (4, .int (0 : Int32)), (0, .ref (g.2.1 69)), (1, .int p1), (2, .int p2), (3, .int p3)] (zo_54 (p := 4) (k := 5) (a := 5) (zby_w zwX9_captainBy_0 4 rfl) (zby_w zwX9_captainBy_0 5 rfl) (by decide)) (by decide) rfl ?_
  obtain ⟨M10, h⟩ := h
  exact zr_pick [2, 3, 4, 5, 1, 0] rfl (g_X9_captainBy_L6 C hret M10 (0 : Int32) (1 : Int32) h)
set_option maxRecDepth 20000 in
theorem c_X9_captainBy (l : Launch) (g : zG) (p1 : Int32) (p2 : Int32) (p3 : Int32) (σ : zST) (Post : Int32 → Prop) (h : wp_X9_captainBy p1 p2 p3 σ Post) : Met l yX9_captainBy (Cond.code yX9_captainBy cX9_captainBy 6 (some .int) :: zGW) (zRm 2 48) (va_Pc [.ref (g.2.1 69), .int p1, .int p2, .int p3] (zPP g σ)) (va_Qi (fun r u => Post r ∧ u = σ) (zBB g) (zA g)) 0 0 (zA g) :=
  zMet (by decide) (Nat.le_of_ble_eq_true rfl) (fun p e s m below meth c hr C => g_X9_captainBy C (fun v pc lv hp hd => zr_iret C hr ⟨hp, rfl⟩ hd) h)
def wp_X9_captain (p1 : Int32) (p2 : Int32) (σ : zST) (Post : Int32 → Prop) : Prop := wp_X9_isShip p1 σ (fun r1 => (if r1 = (0) then Post (-1 : Int32) else wp_X9_isHour p2 σ (fun r4 => (if r4 = (0) then Post (-2 : Int32) else wp_X9_captainBy p1 p2 (σ.1 69 11) σ (fun r7 => Post r7)))))
set_option maxRecDepth 100000 in
set_option maxHeartbeats 4000000 in
theorem g_X9_captain {p : Program} {l : Launch} {e : Env} {R : Room} {s : State} {m : MethodId} {args : Array Value} {below : List Frame} {meth : Method} {c : Code} {Q : State → Prop} {g : zG} {n1 n2 : Nat} (C : zCX p R s m args meth c g n1 n2 cX9_captain 3 RX9 3 73) {p1 : Int32} {p2 : Int32} {σ : zST} {Post : Int32 → Prop} (hret : ∀ (v : Int32) (pc : Nat) (lv : List (Nat × Value)), Post v → decode cX9_captain pc = .ok (.ireturn, 1) → zGG p l e R s m args below meth c Q g n1 n2 3 pc lv [.int v] σ) (h : wp_X9_captain p1 p2 σ Post) : zGG p l e R s m args below meth c Q g n1 n2 3 0 [(0, .ref (g.2.1 69)), (1, .int p1), (2, .int p2)] [] σ := by
  unfold wp_X9_captain at h
  refine zr_aload_n C (zo_42 (p := 0) (zby_w zwX9_captain_0 0 rfl)) rfl ?_
  refine zr_iload_n C (zo_27 (p := 1) (zby_w zwX9_captain_0 1 rfl)) rfl ?_
  refine zr_cip (zr_runV (As := [.int p1]) (rest := []) C vw_X9_112 (c_X9_isShip l g p1 σ _ h) (sh_69) rfl (by decide) (by decide) rfl rfl (Nat.le_of_ble_eq_true rfl) (zo_182 (p := 2) (k := 112) (a := 0) (b := 112) (zby_w zwX9_captain_0 2 rfl) (zby_w zwX9_captain_0 3 rfl) (zby_w zwX9_captain_0 4 rfl) (by decide))) (fun r1 h => ?_)
  refine zr_if_ne C 10 (zo_154 (p := 5) (k := 5) (a := 0) (b := 5) (zby_w zwX9_captain_0 5 rfl) (zby_w zwX9_captain_0 6 rfl) (zby_w zwX9_captain_0 7 rfl) (by decide)) (by decide) (fun hc3 => ?_) (fun hc3 => ?_)
  · rw [if_neg hc3] at h
    refine zr_iload_n C (zo_28 (p := 10) (zby_w zwX9_captain_0 10 rfl)) rfl ?_
    refine zr_cip (zr_runS (As := [.int p2]) (rest := []) C sw_X9_219 (c_X9_isHour l g p2 σ _ h) (by decide) (by decide) rfl rfl (Nat.le_of_ble_eq_true rfl) (zo_184 (p := 11) (k := 219) (a := 0) (b := 219) (zby_w zwX9_captain_0 11 rfl) (zby_w zwX9_captain_0 12 rfl) (zby_w zwX9_captain_0 13 rfl) (by decide))) (fun r4 h => ?_)
    refine zr_if_eq C 30 (zo_153 (p := 14) (k := 16) (a := 0) (b := 16) (zby_w zwX9_captain_0 14 rfl) (zby_w zwX9_captain_0 15 rfl) (zby_w zwX9_captain_0 16 rfl) (by decide)) (by decide) (fun hc6 => ?_) (fun hc6 => ?_)
    · rw [if_pos hc6] at h
      refine zr_bipush C (-2 : Int32) (zo_16 (p := 30) (k := (-2)) (a := 254) (zby_w zwX9_captain_0 30 rfl) (zby_w zwX9_captain_0 31 rfl) (by decide)) (by decide) ?_
      exact hret _ _ _ h d_X9_captain_32
    · rw [if_neg hc6] at h
      refine zr_aload_n C (zo_42 (p := 17) (zby_w zwX9_captain_0 17 rfl)) rfl ?_
      refine zr_iload_n C (zo_27 (p := 18) (zby_w zwX9_captain_0 18 rfl)) rfl ?_
      refine zr_iload_n C (zo_28 (p := 19) (zby_w zwX9_captain_0 19 rfl)) rfl ?_
      refine zr_aload_n C (zo_42 (p := 20) (zby_w zwX9_captain_0 20 rfl)) rfl ?_
      refine zr_geti C fw_X9_115 (sh_69) rfl (zo_180 (p := 21) (k := 115) (a := 0) (b := 115) (zby_w zwX9_captain_0 21 rfl) (zby_w zwX9_captain_0 22 rfl) (zby_w zwX9_captain_0 23 rfl) (by decide)) ?_
      refine zr_cip (zr_runV (As := [.int p1, .int p2, .int (σ.1 69 11)]) (rest := []) C vw_X9_255 (c_X9_captainBy l g p1 p2 (σ.1 69 11) σ _ h) (sh_69) rfl (by decide) (by decide) rfl rfl (Nat.le_of_ble_eq_true rfl) (zo_182 (p := 24) (k := 255) (a := 0) (b := 255) (zby_w zwX9_captain_0 24 rfl) (zby_w zwX9_captain_0 25 rfl) (zby_w zwX9_captain_0 26 rfl) (by decide))) (fun r7 h => ?_)
      refine zr_goto C 32 (zo_167 (p := 27) (k := 5) (a := 0) (b := 5) (zby_w zwX9_captain_0 27 rfl) (zby_w zwX9_captain_0 28 rfl) (zby_w zwX9_captain_0 29 rfl) (by decide)) (by decide) ?_
      exact hret _ _ _ h d_X9_captain_32
  · rw [if_pos hc3] at h
    refine zr_iconst C (-1 : Int32) (zo_2 (p := 8) (zby_w zwX9_captain_0 8 rfl)) (by decide) ?_
    exact hret _ _ _ h (zo_172 (p := 9) (zby_w zwX9_captain_0 9 rfl))
set_option maxRecDepth 20000 in
theorem c_X9_captain (l : Launch) (g : zG) (p1 : Int32) (p2 : Int32) (σ : zST) (Post : Int32 → Prop) (h : wp_X9_captain p1 p2 σ Post) : Met l yX9_captain (Cond.code yX9_captain cX9_captain 3 (some .int) :: zGW) (zRm 3 73) (va_Pc [.ref (g.2.1 69), .int p1, .int p2] (zPP g σ)) (va_Qi (fun r u => Post r ∧ u = σ) (zBB g) (zA g)) 0 0 (zA g) :=
  zMet (by decide) (Nat.le_of_ble_eq_true rfl) (fun p e s m below meth c hr C => g_X9_captain C (fun v pc lv hp hd => zr_iret C hr ⟨hp, rfl⟩ hd) h)
def wp_X9_persuaded_L30 (v1 : Int32) (v2 : Int32) (v3 : Int32) (σ : zST) (Post : Int32 → Prop) : Nat → Int32 → Prop
  | 0, _ => False
  | N + 1, v4 => (if (100 : Int32) ≤ v4 then Post (-6 : Int32) else wp_X9_captainBy v1 v2 v4 σ (fun r10 => (if r10 = v3 then Post v4 else wp_X9_persuaded_L30 v1 v2 v3 σ Post N (v4 + 1))))

set_option maxRecDepth 100000 in
set_option maxHeartbeats 4000000 in
theorem g_X9_persuaded_L30 {p : Program} {l : Launch} {e : Env} {R : Room} {s : State} {m : MethodId} {args : Array Value} {below : List Frame} {meth : Method} {c : Code} {Q : State → Prop} {g : zG} {n1 n2 : Nat} (C : zCX p R s m args meth c g n1 n2 cX9_persuaded 5 RX9 4 91) {v1 : Int32} {v2 : Int32} {v3 : Int32} {σ : zST}  {Post : Int32 → Prop} (hret : ∀ (v : Int32) (pc : Nat) (lv : List (Nat × Value)), Post v → decode cX9_persuaded pc = .ok (.ireturn, 1) → zGG p l e R s m args below meth c Q g n1 n2 5 pc lv [.int v] σ) : ∀ (N : Nat) (v4 : Int32) , wp_X9_persuaded_L30 v1 v2 v3 σ Post N v4 → zGG p l e R s m args below meth c Q g n1 n2 5 30 [(0, .ref (g.2.1 69)), (1, .int v1), (2, .int v2), (3, .int v3), (4, .int v4)] [] σ := by
  intro N
  induction N with
  | zero =>
    intro v4 h
    exact h.elim
  | succ N ih =>
    intro v4 h
    rw [wp_X9_persuaded_L30] at h
    refine zr_iload C (zo_21 (p := 30) (k := 4) (a := 4) (zby_w zwX9_persuaded_0 30 rfl) (zby_w zwX9_persuaded_0 31 rfl) (by decide)) rfl ?_
    refine zr_bipush C (100 : Int32) (zo_16 (p := 32) (k := 100) (a := 100) (zby_w zwX9_persuaded_1 0 rfl) (zby_w zwX9_persuaded_1 1 rfl) (by decide)) (by decide) ?_
    refine zr_icmp_ge C 58 (zo_162 (p := 34) (k := 24) (a := 0) (b := 24) (zby_w zwX9_persuaded_1 2 rfl) (zby_w zwX9_persuaded_1 3 rfl) (zby_w zwX9_persuaded_1 4 rfl) (by decide)) (by decide) (fun hc9 => ?_) (fun hc9 => ?_)
    · rw [if_pos hc9] at h
      refine zr_bipush C (-6 : Int32) (zo_16 (p := 58) (k := (-6)) (a := 250) (zby_w zwX9_persuaded_1 26 rfl) (zby_w zwX9_persuaded_1 27 rfl) (by decide)) (by decide) ?_
      exact hret _ _ _ h (zo_172 (p := 60) (zby_w zwX9_persuaded_1 28 rfl))
    · rw [if_neg hc9] at h
      refine zr_aload_n C (zo_42 (p := 37) (zby_w zwX9_persuaded_1 5 rfl)) rfl ?_
      refine zr_iload_n C (zo_27 (p := 38) (zby_w zwX9_persuaded_1 6 rfl)) rfl ?_
      refine zr_iload_n C (zo_28 (p := 39) (zby_w zwX9_persuaded_1 7 rfl)) rfl ?_
      refine zr_iload C (zo_21 (p := 40) (k := 4) (a := 4) (zby_w zwX9_persuaded_1 8 rfl) (zby_w zwX9_persuaded_1 9 rfl) (by decide)) rfl ?_
      refine zr_cip (zr_runV (As := [.int v1, .int v2, .int v4]) (rest := []) C vw_X9_255 (c_X9_captainBy l g v1 v2 v4 σ _ h) (sh_69) rfl (by decide) (by decide) rfl rfl (Nat.le_of_ble_eq_true rfl) (zo_182 (p := 42) (k := 255) (a := 0) (b := 255) (zby_w zwX9_persuaded_1 10 rfl) (zby_w zwX9_persuaded_1 11 rfl) (zby_w zwX9_persuaded_1 12 rfl) (by decide))) (fun r10 h => ?_)
      refine zr_iload_n C (zo_29 (p := 45) (zby_w zwX9_persuaded_1 13 rfl)) rfl ?_
      refine zr_icmp_ne C 52 (zo_160 (p := 46) (k := 6) (a := 0) (b := 6) (zby_w zwX9_persuaded_1 14 rfl) (zby_w zwX9_persuaded_1 15 rfl) (zby_w zwX9_persuaded_1 16 rfl) (by decide)) (by decide) (fun hc12 => ?_) (fun hc12 => ?_)
      · rw [if_neg hc12] at h
        refine zr_iinc C (v4 + 1) [(4, .int (v4 + 1)), (0, .ref (g.2.1 69)), (1, .int v1), (2, .int v2), (3, .int v3)] d_X9_persuaded_52 rfl rfl (by decide) rfl ?_
        refine zr_goto C 30 (zo_167 (p := 55) (k := (-25)) (a := 255) (b := 231) (zby_w zwX9_persuaded_1 23 rfl) (zby_w zwX9_persuaded_1 24 rfl) (zby_w zwX9_persuaded_1 25 rfl) (by decide)) (by decide) ?_
        exact zr_pick [1, 2, 3, 4, 0] rfl (ih (v4 + 1) h)
      · rw [if_pos hc12] at h
        refine zr_iload C (zo_21 (p := 49) (k := 4) (a := 4) (zby_w zwX9_persuaded_1 17 rfl) (zby_w zwX9_persuaded_1 18 rfl) (by decide)) rfl ?_
        exact hret _ _ _ h (zo_172 (p := 51) (zby_w zwX9_persuaded_1 19 rfl))

def wp_X9_persuaded (p1 : Int32) (p2 : Int32) (σ : zST) (Post : Int32 → Prop) : Prop := wp_X9_isShip p1 σ (fun r1 => (if r1 = (0) then Post (-1 : Int32) else wp_X9_isHour p2 σ (fun r4 => (if r4 = (0) then Post (-2 : Int32) else wp_X9_choiceOf p1 p2 σ (fun r7 => ∃ M13 : Nat, wp_X9_persuaded_L30 p1 p2 r7 σ Post M13 (0 : Int32))))))
set_option maxRecDepth 100000 in
set_option maxHeartbeats 4000000 in
theorem g_X9_persuaded {p : Program} {l : Launch} {e : Env} {R : Room} {s : State} {m : MethodId} {args : Array Value} {below : List Frame} {meth : Method} {c : Code} {Q : State → Prop} {g : zG} {n1 n2 : Nat} (C : zCX p R s m args meth c g n1 n2 cX9_persuaded 5 RX9 4 91) {p1 : Int32} {p2 : Int32} {σ : zST} {Post : Int32 → Prop} (hret : ∀ (v : Int32) (pc : Nat) (lv : List (Nat × Value)), Post v → decode cX9_persuaded pc = .ok (.ireturn, 1) → zGG p l e R s m args below meth c Q g n1 n2 5 pc lv [.int v] σ) (h : wp_X9_persuaded p1 p2 σ Post) : zGG p l e R s m args below meth c Q g n1 n2 5 0 [(0, .ref (g.2.1 69)), (1, .int p1), (2, .int p2)] [] σ := by
  unfold wp_X9_persuaded at h
  refine zr_aload_n C (zo_42 (p := 0) (zby_w zwX9_persuaded_0 0 rfl)) rfl ?_
  refine zr_iload_n C (zo_27 (p := 1) (zby_w zwX9_persuaded_0 1 rfl)) rfl ?_
  refine zr_cip (zr_runV (As := [.int p1]) (rest := []) C vw_X9_112 (c_X9_isShip l g p1 σ _ h) (sh_69) rfl (by decide) (by decide) rfl rfl (Nat.le_of_ble_eq_true rfl) (zo_182 (p := 2) (k := 112) (a := 0) (b := 112) (zby_w zwX9_persuaded_0 2 rfl) (zby_w zwX9_persuaded_0 3 rfl) (zby_w zwX9_persuaded_0 4 rfl) (by decide))) (fun r1 h => ?_)
  refine zr_if_ne C 10 (zo_154 (p := 5) (k := 5) (a := 0) (b := 5) (zby_w zwX9_persuaded_0 5 rfl) (zby_w zwX9_persuaded_0 6 rfl) (zby_w zwX9_persuaded_0 7 rfl) (by decide)) (by decide) (fun hc3 => ?_) (fun hc3 => ?_)
  · rw [if_neg hc3] at h
    refine zr_iload_n C (zo_28 (p := 10) (zby_w zwX9_persuaded_0 10 rfl)) rfl ?_
    refine zr_cip (zr_runS (As := [.int p2]) (rest := []) C sw_X9_219 (c_X9_isHour l g p2 σ _ h) (by decide) (by decide) rfl rfl (Nat.le_of_ble_eq_true rfl) (zo_184 (p := 11) (k := 219) (a := 0) (b := 219) (zby_w zwX9_persuaded_0 11 rfl) (zby_w zwX9_persuaded_0 12 rfl) (zby_w zwX9_persuaded_0 13 rfl) (by decide))) (fun r4 h => ?_)
    refine zr_if_ne C 20 (zo_154 (p := 14) (k := 6) (a := 0) (b := 6) (zby_w zwX9_persuaded_0 14 rfl) (zby_w zwX9_persuaded_0 15 rfl) (zby_w zwX9_persuaded_0 16 rfl) (by decide)) (by decide) (fun hc6 => ?_) (fun hc6 => ?_)
    · rw [if_neg hc6] at h
      refine zr_aload_n C (zo_42 (p := 20) (zby_w zwX9_persuaded_0 20 rfl)) rfl ?_
      refine zr_iload_n C (zo_27 (p := 21) (zby_w zwX9_persuaded_0 21 rfl)) rfl ?_
      refine zr_iload_n C (zo_28 (p := 22) (zby_w zwX9_persuaded_0 22 rfl)) rfl ?_
      refine zr_cip (zr_runV (As := [.int p1, .int p2]) (rest := []) C vw_X9_225 (c_X9_choiceOf l g p1 p2 σ _ h) (sh_69) rfl (by decide) (by decide) rfl rfl (Nat.le_of_ble_eq_true rfl) (zo_182 (p := 23) (k := 225) (a := 0) (b := 225) (zby_w zwX9_persuaded_0 23 rfl) (zby_w zwX9_persuaded_0 24 rfl) (zby_w zwX9_persuaded_0 25 rfl) (by decide))) (fun r7 h => ?_)
      refine zr_istore_n C [(3, .int r7), (0, .ref (g.2.1 69)), (1, .int p1), (2, .int p2)] (zo_62 (p := 26) (zby_w zwX9_persuaded_0 26 rfl)) (by decide) rfl ?_
      refine zr_iconst C (0 : Int32) (zo_3 (p := 27) (zby_w zwX9_persuaded_0 27 rfl)) (by decide) ?_
      refine zr_istore C [(4, .int (0 : Int32)), (3, .int r7), (0, .ref (g.2.1 69)), (1, .int p1), (2, .int p2)] (zo_54 (p := 28) (k := 4) (a := 4) (zby_w zwX9_persuaded_0 28 rfl) (zby_w zwX9_persuaded_0 29 rfl) (by decide)) (by decide) rfl ?_
      obtain ⟨M13, h⟩ := h
      exact zr_pick [2, 3, 4, 1, 0] rfl (g_X9_persuaded_L30 C hret M13 (0 : Int32) h)
    · rw [if_pos hc6] at h
      refine zr_bipush C (-2 : Int32) (zo_16 (p := 17) (k := (-2)) (a := 254) (zby_w zwX9_persuaded_0 17 rfl) (zby_w zwX9_persuaded_0 18 rfl) (by decide)) (by decide) ?_
      exact hret _ _ _ h (zo_172 (p := 19) (zby_w zwX9_persuaded_0 19 rfl))
  · rw [if_pos hc3] at h
    refine zr_iconst C (-1 : Int32) (zo_2 (p := 8) (zby_w zwX9_persuaded_0 8 rfl)) (by decide) ?_
    exact hret _ _ _ h (zo_172 (p := 9) (zby_w zwX9_persuaded_0 9 rfl))
set_option maxRecDepth 20000 in
theorem c_X9_persuaded (l : Launch) (g : zG) (p1 : Int32) (p2 : Int32) (σ : zST) (Post : Int32 → Prop) (h : wp_X9_persuaded p1 p2 σ Post) : Met l yX9_persuaded (Cond.code yX9_persuaded cX9_persuaded 5 (some .int) :: zGW) (zRm 4 91) (va_Pc [.ref (g.2.1 69), .int p1, .int p2] (zPP g σ)) (va_Qi (fun r u => Post r ∧ u = σ) (zBB g) (zA g)) 0 0 (zA g) :=
  zMet (by decide) (Nat.le_of_ble_eq_true rfl) (fun p e s m below meth c hr C => g_X9_persuaded C (fun v pc lv hp hd => zr_iret C hr ⟨hp, rfl⟩ hd) h)
def wp_X9_offer (p1 : Int32) (p2 : Int32) (p3 : Int32) (σ : zST) (Post : Int32 → zST → Prop) : Prop := wp_X9_in (p1.toInt64) (0 : Int64) (3 : Int64) σ (fun r1 => (if r1 = (0) then Post (-2 : Int32) σ else wp_X9_in (p2.toInt64) (0 : Int64) (999 : Int64) σ (fun r4 => (if r4 = (0) then Post (-2 : Int32) σ else wp_X9_in (p3.toInt64) (0 : Int64) (9999 : Int64) σ (fun r7 => (if r7 = (0) then Post (-2 : Int32) σ else vp_in p1 4 ∧ vp_in p1 4 ∧ ∀ σ12 : zST, σ12 = (wI (wI σ 75 p1.toNatClampNeg p2) 76 p1.toNatClampNeg p3) → ∀ σ13 : zST, σ13 = (wI σ12 69 18 ((σ12.1 69 18) ||| ((1 : Int32) <<< (p1 &&& 31)))) → wp_X9_ones (σ13.1 69 18) σ13 (fun r14 => Post r14 σ13)))))))
set_option maxRecDepth 100000 in
set_option maxHeartbeats 4000000 in
theorem g_X9_offer {p : Program} {l : Launch} {e : Env} {R : Room} {s : State} {m : MethodId} {args : Array Value} {below : List Frame} {meth : Method} {c : Code} {Q : State → Prop} {g : zG} {n1 n2 : Nat} (C : zCX p R s m args meth c g n1 n2 cX9_offer 4 RX9 1 25) {p1 : Int32} {p2 : Int32} {p3 : Int32} {σ : zST} {Post : Int32 → zST → Prop} (hret : ∀ (v : Int32) (σ : zST) (pc : Nat) (lv : List (Nat × Value)), Post v σ → decode cX9_offer pc = .ok (.ireturn, 1) → zGG p l e R s m args below meth c Q g n1 n2 4 pc lv [.int v] σ) (h : wp_X9_offer p1 p2 p3 σ Post) : zGG p l e R s m args below meth c Q g n1 n2 4 0 [(0, .ref (g.2.1 69)), (1, .int p1), (2, .int p2), (3, .int p3)] [] σ := by
  unfold wp_X9_offer at h
  refine zr_iload_n C (zo_27 (p := 0) (zby_w zwX9_offer_0 0 rfl)) rfl ?_
  refine zr_i2l C (zo_133 (p := 1) (zby_w zwX9_offer_0 1 rfl)) ?_
  refine zr_lconst C (0 : Int64) (zo_9 (p := 2) (zby_w zwX9_offer_0 2 rfl)) (by decide) ?_
  refine zr_ldc2 C (v := (3 : Int64)) cl_X9_258 (zo_20 (p := 3) (k := 258) (a := 1) (b := 2) (zby_w zwX9_offer_0 3 rfl) (zby_w zwX9_offer_0 4 rfl) (zby_w zwX9_offer_0 5 rfl) (by decide)) ?_
  refine zr_cip (zr_runS (As := [.long (p1.toInt64), .long (0 : Int64), .long (3 : Int64)]) (rest := []) C sw_X9_89 (c_X9_in l g (p1.toInt64) (0 : Int64) (3 : Int64) σ _ h) (by decide) (by decide) rfl rfl (Nat.le_of_ble_eq_true rfl) (zo_184 (p := 6) (k := 89) (a := 0) (b := 89) (zby_w zwX9_offer_0 6 rfl) (zby_w zwX9_offer_0 7 rfl) (zby_w zwX9_offer_0 8 rfl) (by decide))) (fun r1 h => ?_)
  refine zr_if_eq C 36 (zo_153 (p := 9) (k := 27) (a := 0) (b := 27) (zby_w zwX9_offer_0 9 rfl) (zby_w zwX9_offer_0 10 rfl) (zby_w zwX9_offer_0 11 rfl) (by decide)) (by decide) (fun hc3 => ?_) (fun hc3 => ?_)
  · rw [if_pos hc3] at h
    refine zr_bipush C (-2 : Int32) d_X9_offer_36 (by decide) ?_
    exact hret _ _ _ _ h d_X9_offer_38
  · rw [if_neg hc3] at h
    refine zr_iload_n C (zo_28 (p := 12) (zby_w zwX9_offer_0 12 rfl)) rfl ?_
    refine zr_i2l C (zo_133 (p := 13) (zby_w zwX9_offer_0 13 rfl)) ?_
    refine zr_lconst C (0 : Int64) (zo_9 (p := 14) (zby_w zwX9_offer_0 14 rfl)) (by decide) ?_
    refine zr_ldc2 C (v := (999 : Int64)) cl_X9_100 (zo_20 (p := 15) (k := 100) (a := 0) (b := 100) (zby_w zwX9_offer_0 15 rfl) (zby_w zwX9_offer_0 16 rfl) (zby_w zwX9_offer_0 17 rfl) (by decide)) ?_
    refine zr_cip (zr_runS (As := [.long (p2.toInt64), .long (0 : Int64), .long (999 : Int64)]) (rest := []) C sw_X9_89 (c_X9_in l g (p2.toInt64) (0 : Int64) (999 : Int64) σ _ h) (by decide) (by decide) rfl rfl (Nat.le_of_ble_eq_true rfl) (zo_184 (p := 18) (k := 89) (a := 0) (b := 89) (zby_w zwX9_offer_0 18 rfl) (zby_w zwX9_offer_0 19 rfl) (zby_w zwX9_offer_0 20 rfl) (by decide))) (fun r4 h => ?_)
    refine zr_if_eq C 36 (zo_153 (p := 21) (k := 15) (a := 0) (b := 15) (zby_w zwX9_offer_0 21 rfl) (zby_w zwX9_offer_0 22 rfl) (zby_w zwX9_offer_0 23 rfl) (by decide)) (by decide) (fun hc6 => ?_) (fun hc6 => ?_)
    · rw [if_pos hc6] at h
      refine zr_bipush C (-2 : Int32) d_X9_offer_36 (by decide) ?_
      exact hret _ _ _ _ h d_X9_offer_38
    · rw [if_neg hc6] at h
      refine zr_iload_n C (zo_29 (p := 24) (zby_w zwX9_offer_0 24 rfl)) rfl ?_
      refine zr_i2l C (zo_133 (p := 25) (zby_w zwX9_offer_0 25 rfl)) ?_
      refine zr_lconst C (0 : Int64) (zo_9 (p := 26) (zby_w zwX9_offer_0 26 rfl)) (by decide) ?_
      refine zr_ldc2 C (v := (9999 : Int64)) cl_X9_260 (zo_20 (p := 27) (k := 260) (a := 1) (b := 4) (zby_w zwX9_offer_0 27 rfl) (zby_w zwX9_offer_0 28 rfl) (zby_w zwX9_offer_0 29 rfl) (by decide)) ?_
      refine zr_cip (zr_runS (As := [.long (p3.toInt64), .long (0 : Int64), .long (9999 : Int64)]) (rest := []) C sw_X9_89 (c_X9_in l g (p3.toInt64) (0 : Int64) (9999 : Int64) σ _ h) (by decide) (by decide) rfl rfl (Nat.le_of_ble_eq_true rfl) (zo_184 (p := 30) (k := 89) (a := 0) (b := 89) (zby_w zwX9_offer_0 30 rfl) (zby_w zwX9_offer_0 31 rfl) (zby_w zwX9_offer_0 32 rfl) (by decide))) (fun r7 h => ?_)
      refine zr_if_ne C 39 (zo_154 (p := 33) (k := 6) (a := 0) (b := 6) (zby_w zwX9_offer_1 1 rfl) (zby_w zwX9_offer_1 2 rfl) (zby_w zwX9_offer_1 3 rfl) (by decide)) (by decide) (fun hc9 => ?_) (fun hc9 => ?_)
      · rw [if_neg hc9] at h
        refine zr_aload_n C (zo_42 (p := 39) (zby_w zwX9_offer_1 7 rfl)) rfl ?_
        refine zr_getr (u := 75) C fw_X9_25 (sh_69) rfl (zo_180 (p := 40) (k := 25) (a := 0) (b := 25) (zby_w zwX9_offer_1 8 rfl) (zby_w zwX9_offer_1 9 rfl) (zby_w zwX9_offer_1 10 rfl) (by decide)) ?_
        refine zr_iload_n C (zo_27 (p := 43) (zby_w zwX9_offer_1 11 rfl)) rfl ?_
        refine zr_iload_n C (zo_28 (p := 44) (zby_w zwX9_offer_1 12 rfl)) rfl ?_
        obtain ⟨ho10, h⟩ := h
        refine zr_iast C (sh_75) ho10 (zo_79 (p := 45) (zby_w zwX9_offer_1 13 rfl)) ?_
        refine zr_aload_n C (zo_42 (p := 46) (zby_w zwX9_offer_1 14 rfl)) rfl ?_
        refine zr_getr (u := 76) C fw_X9_28 (sh_69) rfl (zo_180 (p := 47) (k := 28) (a := 0) (b := 28) (zby_w zwX9_offer_1 15 rfl) (zby_w zwX9_offer_1 16 rfl) (zby_w zwX9_offer_1 17 rfl) (by decide)) ?_
        refine zr_iload_n C (zo_27 (p := 50) (zby_w zwX9_offer_1 18 rfl)) rfl ?_
        refine zr_iload_n C (zo_29 (p := 51) (zby_w zwX9_offer_1 19 rfl)) rfl ?_
        obtain ⟨ho11, h⟩ := h
        refine zr_iast C (sh_76) ho11 (zo_79 (p := 52) (zby_w zwX9_offer_1 20 rfl)) ?_
        refine zr_aload_n C (zo_42 (p := 53) (zby_w zwX9_offer_1 21 rfl)) rfl ?_
        refine zr_dup C (zo_89 (p := 54) (zby_w zwX9_offer_1 22 rfl)) rfl ?_
        refine zr_tops (fun σ12 hσ12 => ?_)
        replace h := h σ12 hσ12
        refine zr_geti C fw_X9_262 (sh_69) rfl (zo_180 (p := 55) (k := 262) (a := 1) (b := 6) (zby_w zwX9_offer_1 23 rfl) (zby_w zwX9_offer_1 24 rfl) (zby_w zwX9_offer_1 25 rfl) (by decide)) ?_
        refine zr_iconst C (1 : Int32) (zo_4 (p := 58) (zby_w zwX9_offer_1 26 rfl)) (by decide) ?_
        refine zr_iload_n C (zo_27 (p := 59) (zby_w zwX9_offer_1 27 rfl)) rfl ?_
        refine zr_ishl C (zo_120 (p := 60) (zby_w zwX9_offer_1 28 rfl)) ?_
        refine zr_ior C (zo_128 (p := 61) (zby_w zwX9_offer_1 29 rfl)) ?_
        refine zr_puti C fw_X9_262 pw_X9_18 (sh_69) rfl rfl rfl (zo_181 (p := 62) (k := 262) (a := 1) (b := 6) (zby_w zwX9_offer_1 30 rfl) (zby_w zwX9_offer_1 31 rfl) (zby_w zwX9_offer_1 32 rfl) (by decide)) ?_
        refine zr_aload_n C (zo_42 (p := 65) (zby_w zwX9_offer_2 1 rfl)) rfl ?_
        refine zr_tops (fun σ13 hσ13 => ?_)
        replace h := h σ13 hσ13
        refine zr_geti C fw_X9_262 (sh_69) rfl (zo_180 (p := 66) (k := 262) (a := 1) (b := 6) (zby_w zwX9_offer_2 2 rfl) (zby_w zwX9_offer_2 3 rfl) (zby_w zwX9_offer_2 4 rfl) (by decide)) ?_
        refine zr_cip (zr_runS (As := [.int (σ13.1 69 18)]) (rest := []) C sw_X9_108 (c_X9_ones l g (σ13.1 69 18) σ13 _ h) (by decide) (by decide) rfl rfl (Nat.le_of_ble_eq_true rfl) (zo_184 (p := 69) (k := 108) (a := 0) (b := 108) (zby_w zwX9_offer_2 5 rfl) (zby_w zwX9_offer_2 6 rfl) (zby_w zwX9_offer_2 7 rfl) (by decide))) (fun r14 h => ?_)
        exact hret _ _ _ _ h (zo_172 (p := 72) (zby_w zwX9_offer_2 8 rfl))
      · rw [if_pos hc9] at h
        refine zr_bipush C (-2 : Int32) d_X9_offer_36 (by decide) ?_
        exact hret _ _ _ _ h d_X9_offer_38
set_option maxRecDepth 20000 in
theorem c_X9_offer (l : Launch) (g : zG) (p1 : Int32) (p2 : Int32) (p3 : Int32) (σ : zST) (Post : Int32 → zST → Prop) (h : wp_X9_offer p1 p2 p3 σ Post) : Met l yX9_offer (Cond.code yX9_offer cX9_offer 4 (some .int) :: zGW) (zRm 1 25) (va_Pc [.ref (g.2.1 69), .int p1, .int p2, .int p3] (zPP g σ)) (va_Qi Post (zBB g) (zA g)) 0 0 (zA g) :=
  zMet (by decide) (Nat.le_of_ble_eq_true rfl) (fun p e s m below meth c hr C => g_X9_offer C (fun v σ pc lv hp hd => zr_iret C hr hp hd) h)
def wp_X9_noOffers (σ : zST) (Post : Int32 → zST → Prop) : Prop := wp_X9_ones (σ.1 69 18) σ (fun r1 => Post r1 (wI σ 69 18 (0 : Int32)))
set_option maxRecDepth 100000 in
set_option maxHeartbeats 4000000 in
theorem g_X9_noOffers {p : Program} {l : Launch} {e : Env} {R : Room} {s : State} {m : MethodId} {args : Array Value} {below : List Frame} {meth : Method} {c : Code} {Q : State → Prop} {g : zG} {n1 n2 : Nat} (C : zCX p R s m args meth c g n1 n2 cX9_noOffers 2 RX9 1 22) {σ : zST} {Post : Int32 → zST → Prop} (hret : ∀ (v : Int32) (σ : zST) (pc : Nat) (lv : List (Nat × Value)), Post v σ → decode cX9_noOffers pc = .ok (.ireturn, 1) → zGG p l e R s m args below meth c Q g n1 n2 2 pc lv [.int v] σ) (h : wp_X9_noOffers σ Post) : zGG p l e R s m args below meth c Q g n1 n2 2 0 [(0, .ref (g.2.1 69))] [] σ := by
  unfold wp_X9_noOffers at h
  refine zr_aload_n C (zo_42 (p := 0) (zby_w zwX9_noOffers_0 0 rfl)) rfl ?_
  refine zr_geti C fw_X9_262 (sh_69) rfl (zo_180 (p := 1) (k := 262) (a := 1) (b := 6) (zby_w zwX9_noOffers_0 1 rfl) (zby_w zwX9_noOffers_0 2 rfl) (zby_w zwX9_noOffers_0 3 rfl) (by decide)) ?_
  refine zr_cip (zr_runS (As := [.int (σ.1 69 18)]) (rest := []) C sw_X9_108 (c_X9_ones l g (σ.1 69 18) σ _ h) (by decide) (by decide) rfl rfl (Nat.le_of_ble_eq_true rfl) (zo_184 (p := 4) (k := 108) (a := 0) (b := 108) (zby_w zwX9_noOffers_0 4 rfl) (zby_w zwX9_noOffers_0 5 rfl) (zby_w zwX9_noOffers_0 6 rfl) (by decide))) (fun r1 h => ?_)
  refine zr_istore_n C [(1, .int r1), (0, .ref (g.2.1 69))] (zo_60 (p := 7) (zby_w zwX9_noOffers_0 7 rfl)) (by decide) rfl ?_
  refine zr_aload_n C (zo_42 (p := 8) (zby_w zwX9_noOffers_0 8 rfl)) rfl ?_
  refine zr_iconst C (0 : Int32) (zo_3 (p := 9) (zby_w zwX9_noOffers_0 9 rfl)) (by decide) ?_
  refine zr_puti C fw_X9_262 pw_X9_18 (sh_69) rfl rfl rfl (zo_181 (p := 10) (k := 262) (a := 1) (b := 6) (zby_w zwX9_noOffers_0 10 rfl) (zby_w zwX9_noOffers_0 11 rfl) (zby_w zwX9_noOffers_0 12 rfl) (by decide)) ?_
  refine zr_iload_n C (zo_27 (p := 13) (zby_w zwX9_noOffers_0 13 rfl)) rfl ?_
  exact hret _ _ _ _ h (zo_172 (p := 14) (zby_w zwX9_noOffers_0 14 rfl))
set_option maxRecDepth 20000 in
theorem c_X9_noOffers (l : Launch) (g : zG) (σ : zST) (Post : Int32 → zST → Prop) (h : wp_X9_noOffers σ Post) : Met l yX9_noOffers (Cond.code yX9_noOffers cX9_noOffers 2 (some .int) :: zGW) (zRm 1 22) (va_Pc [.ref (g.2.1 69)] (zPP g σ)) (va_Qi Post (zBB g) (zA g)) 0 0 (zA g) :=
  zMet (by decide) (Nat.le_of_ble_eq_true rfl) (fun p e s m below meth c hr C => g_X9_noOffers C (fun v σ pc lv hp hd => zr_iret C hr hp hd) h)
def wp_X9_premiums_L4 (v1 : Int32) (σ : zST) (Post : Int32 → Prop) : Nat → Int32 → Int32 → Prop
  | 0, _, _ => False
  | N + 1, v2, v3 => (if (4 : Int32) ≤ v3 then Post v2 else (if ((v1 >>> (v3 &&& 31)) &&& (1 : Int32)) = (1 : Int32) then vp_in v3 4 ∧ True else True) ∧ ∀ z3 : Int32, z3 = (if ((v1 >>> (v3 &&& 31)) &&& (1 : Int32)) = (1 : Int32) then (σ.1 75 v3.toNatClampNeg) else (0 : Int32)) → ∀ x7 : Int32, x7 = (v2 + z3) → wp_X9_premiums_L4 v1 σ Post N x7 (v3 + 1))

set_option maxRecDepth 100000 in
set_option maxHeartbeats 4000000 in
theorem g_X9_premiums_L4 {p : Program} {l : Launch} {e : Env} {R : Room} {s : State} {m : MethodId} {args : Array Value} {below : List Frame} {meth : Method} {c : Code} {Q : State → Prop} {g : zG} {n1 n2 : Nat} (C : zCX p R s m args meth c g n1 n2 cX9_premiums 4 RX9 0 0) {v1 : Int32} {σ : zST}  {Post : Int32 → Prop} (hret : ∀ (v : Int32) (pc : Nat) (lv : List (Nat × Value)), Post v → decode cX9_premiums pc = .ok (.ireturn, 1) → zGG p l e R s m args below meth c Q g n1 n2 4 pc lv [.int v] σ) : ∀ (N : Nat) (v2 : Int32) (v3 : Int32) , wp_X9_premiums_L4 v1 σ Post N v2 v3 → zGG p l e R s m args below meth c Q g n1 n2 4 4 [(0, .ref (g.2.1 69)), (1, .int v1), (2, .int v2), (3, .int v3)] [] σ := by
  intro N
  induction N with
  | zero =>
    intro v2 v3 h
    exact h.elim
  | succ N ih =>
    intro v2 v3 h
    rw [wp_X9_premiums_L4] at h
    refine zr_iload_n C (zo_29 (p := 4) (zby_w zwX9_premiums_0 4 rfl)) rfl ?_
    refine zr_iconst C (4 : Int32) (zo_7 (p := 5) (zby_w zwX9_premiums_0 5 rfl)) (by decide) ?_
    refine zr_icmp_ge C 37 (zo_162 (p := 6) (k := 31) (a := 0) (b := 31) (zby_w zwX9_premiums_0 6 rfl) (zby_w zwX9_premiums_0 7 rfl) (zby_w zwX9_premiums_0 8 rfl) (by decide)) (by decide) (fun hc1 => ?_) (fun hc1 => ?_)
    · rw [if_pos hc1] at h
      refine zr_iload_n C (zo_28 (p := 37) (zby_w zwX9_premiums_1 5 rfl)) rfl ?_
      exact hret _ _ _ h (zo_172 (p := 38) (zby_w zwX9_premiums_1 6 rfl))
    · rw [if_neg hc1] at h
      refine zr_iload_n C (zo_28 (p := 9) (zby_w zwX9_premiums_0 9 rfl)) rfl ?_
      refine zr_iload_n C (zo_27 (p := 10) (zby_w zwX9_premiums_0 10 rfl)) rfl ?_
      refine zr_iload_n C (zo_29 (p := 11) (zby_w zwX9_premiums_0 11 rfl)) rfl ?_
      refine zr_ishr C (zo_122 (p := 12) (zby_w zwX9_premiums_0 12 rfl)) ?_
      refine zr_iconst C (1 : Int32) (zo_4 (p := 13) (zby_w zwX9_premiums_0 13 rfl)) (by decide) ?_
      refine zr_iand C (zo_126 (p := 14) (zby_w zwX9_premiums_0 14 rfl)) ?_
      refine zr_iconst C (1 : Int32) (zo_4 (p := 15) (zby_w zwX9_premiums_0 15 rfl)) (by decide) ?_
      obtain ⟨ho5, h⟩ := h
      have hJ4 : ∀ z3 : Int32, z3 = (if ((v1 >>> (v3 &&& 31)) &&& (1 : Int32)) = (1 : Int32) then (σ.1 75 v3.toNatClampNeg) else (0 : Int32)) → zGG p l e R s m args below meth c Q g n1 n2 4 29 [(0, .ref (g.2.1 69)), (1, .int v1), (2, .int v2), (3, .int v3)] [.int z3, .int v2] σ := by
        intro z3 hz3
        replace h := h z3 hz3
        refine zr_iadd C (zo_96 (p := 29) (zby_w zwX9_premiums_0 29 rfl)) ?_
        refine zr_topi (fun x7 hx7 => ?_)
        replace h := h x7 hx7
        refine zr_istore_n C [(2, .int x7), (0, .ref (g.2.1 69)), (1, .int v1), (3, .int v3)] (zo_61 (p := 30) (zby_w zwX9_premiums_0 30 rfl)) (by decide) rfl ?_
        refine zr_iinc C (v3 + 1) [(3, .int (v3 + 1)), (2, .int x7), (0, .ref (g.2.1 69)), (1, .int v1)] d_X9_premiums_31 rfl rfl (by decide) rfl ?_
        refine zr_goto C 4 (zo_167 (p := 34) (k := (-30)) (a := 255) (b := 226) (zby_w zwX9_premiums_1 2 rfl) (zby_w zwX9_premiums_1 3 rfl) (zby_w zwX9_premiums_1 4 rfl) (by decide)) (by decide) ?_
        exact zr_pick [2, 3, 1, 0] rfl (ih x7 (v3 + 1) h)
      refine zr_icmp_ne C 28 (zo_160 (p := 16) (k := 12) (a := 0) (b := 12) (zby_w zwX9_premiums_0 16 rfl) (zby_w zwX9_premiums_0 17 rfl) (zby_w zwX9_premiums_0 18 rfl) (by decide)) (by decide) (fun hc2 => ?_) (fun hc2 => ?_)
      · skip
        rw [if_neg hc2] at ho5
        refine zr_iconst C (0 : Int32) (zo_3 (p := 28) (zby_w zwX9_premiums_0 28 rfl)) (by decide) ?_
        exact hJ4 _ (by rw [if_neg hc2])
      · skip
        rw [if_pos hc2] at ho5
        refine zr_aload_n C (zo_42 (p := 19) (zby_w zwX9_premiums_0 19 rfl)) rfl ?_
        refine zr_getr (u := 75) C fw_X9_25 (sh_69) rfl (zo_180 (p := 20) (k := 25) (a := 0) (b := 25) (zby_w zwX9_premiums_0 20 rfl) (zby_w zwX9_premiums_0 21 rfl) (zby_w zwX9_premiums_0 22 rfl) (by decide)) ?_
        refine zr_iload_n C (zo_29 (p := 23) (zby_w zwX9_premiums_0 23 rfl)) rfl ?_
        obtain ⟨ho6, ho5⟩ := ho5
        refine zr_iald C (sh_75) ho6 (zo_46 (p := 24) (zby_w zwX9_premiums_0 24 rfl)) ?_
        refine zr_goto C 29 (zo_167 (p := 25) (k := 4) (a := 0) (b := 4) (zby_w zwX9_premiums_0 25 rfl) (zby_w zwX9_premiums_0 26 rfl) (zby_w zwX9_premiums_0 27 rfl) (by decide)) (by decide) ?_
        exact hJ4 _ (by rw [if_pos hc2])

def wp_X9_premiums (p1 : Int32) (σ : zST) (Post : Int32 → Prop) : Prop := ∃ M8 : Nat, wp_X9_premiums_L4 p1 σ Post M8 (0 : Int32) (0 : Int32)
set_option maxRecDepth 100000 in
set_option maxHeartbeats 4000000 in
theorem g_X9_premiums {p : Program} {l : Launch} {e : Env} {R : Room} {s : State} {m : MethodId} {args : Array Value} {below : List Frame} {meth : Method} {c : Code} {Q : State → Prop} {g : zG} {n1 n2 : Nat} (C : zCX p R s m args meth c g n1 n2 cX9_premiums 4 RX9 0 0) {p1 : Int32} {σ : zST} {Post : Int32 → Prop} (hret : ∀ (v : Int32) (pc : Nat) (lv : List (Nat × Value)), Post v → decode cX9_premiums pc = .ok (.ireturn, 1) → zGG p l e R s m args below meth c Q g n1 n2 4 pc lv [.int v] σ) (h : wp_X9_premiums p1 σ Post) : zGG p l e R s m args below meth c Q g n1 n2 4 0 [(0, .ref (g.2.1 69)), (1, .int p1)] [] σ := by
  unfold wp_X9_premiums at h
  refine zr_iconst C (0 : Int32) (zo_3 (p := 0) (zby_w zwX9_premiums_0 0 rfl)) (by decide) ?_
  refine zr_istore_n C [(2, .int (0 : Int32)), (0, .ref (g.2.1 69)), (1, .int p1)] (zo_61 (p := 1) (zby_w zwX9_premiums_0 1 rfl)) (by decide) rfl ?_
  refine zr_iconst C (0 : Int32) (zo_3 (p := 2) (zby_w zwX9_premiums_0 2 rfl)) (by decide) ?_
  refine zr_istore_n C [(3, .int (0 : Int32)), (2, .int (0 : Int32)), (0, .ref (g.2.1 69)), (1, .int p1)] (zo_62 (p := 3) (zby_w zwX9_premiums_0 3 rfl)) (by decide) rfl ?_
  obtain ⟨M8, h⟩ := h
  exact zr_pick [2, 3, 1, 0] rfl (g_X9_premiums_L4 C hret M8 (0 : Int32) (0 : Int32) h)
set_option maxRecDepth 20000 in
theorem c_X9_premiums (l : Launch) (g : zG) (p1 : Int32) (σ : zST) (Post : Int32 → Prop) (h : wp_X9_premiums p1 σ Post) : Met l yX9_premiums (Cond.code yX9_premiums cX9_premiums 4 (some .int) :: zGW) (zRm 0 0) (va_Pc [.ref (g.2.1 69), .int p1] (zPP g σ)) (va_Qi (fun r u => Post r ∧ u = σ) (zBB g) (zA g)) 0 0 (zA g) :=
  zMet (by decide) (Nat.le_of_ble_eq_true rfl) (fun p e s m below meth c hr C => g_X9_premiums C (fun v pc lv hp hd => zr_iret C hr ⟨hp, rfl⟩ hd) h)
def wp_X9_got_L4 (v1 : Int32) (σ : zST) (Post : Int32 → Prop) : Nat → Int32 → Int32 → Prop
  | 0, _, _ => False
  | N + 1, v2, v3 => (if (4 : Int32) ≤ v3 then Post v2 else (if ((v1 >>> (v3 &&& 31)) &&& (1 : Int32)) = (1 : Int32) then vp_in v3 4 ∧ True else True) ∧ ∀ z3 : Int32, z3 = (if ((v1 >>> (v3 &&& 31)) &&& (1 : Int32)) = (1 : Int32) then (σ.1 76 v3.toNatClampNeg) else (0 : Int32)) → ∀ x7 : Int32, x7 = (v2 + z3) → wp_X9_got_L4 v1 σ Post N x7 (v3 + 1))

set_option maxRecDepth 100000 in
set_option maxHeartbeats 4000000 in
theorem g_X9_got_L4 {p : Program} {l : Launch} {e : Env} {R : Room} {s : State} {m : MethodId} {args : Array Value} {below : List Frame} {meth : Method} {c : Code} {Q : State → Prop} {g : zG} {n1 n2 : Nat} (C : zCX p R s m args meth c g n1 n2 cX9_got 4 RX9 0 0) {v1 : Int32} {σ : zST}  {Post : Int32 → Prop} (hret : ∀ (v : Int32) (pc : Nat) (lv : List (Nat × Value)), Post v → decode cX9_got pc = .ok (.ireturn, 1) → zGG p l e R s m args below meth c Q g n1 n2 4 pc lv [.int v] σ) : ∀ (N : Nat) (v2 : Int32) (v3 : Int32) , wp_X9_got_L4 v1 σ Post N v2 v3 → zGG p l e R s m args below meth c Q g n1 n2 4 4 [(0, .ref (g.2.1 69)), (1, .int v1), (2, .int v2), (3, .int v3)] [] σ := by
  intro N
  induction N with
  | zero =>
    intro v2 v3 h
    exact h.elim
  | succ N ih =>
    intro v2 v3 h
    rw [wp_X9_got_L4] at h
    refine zr_iload_n C (zo_29 (p := 4) (zby_w zwX9_got_0 4 rfl)) rfl ?_
    refine zr_iconst C (4 : Int32) (zo_7 (p := 5) (zby_w zwX9_got_0 5 rfl)) (by decide) ?_
    refine zr_icmp_ge C 37 (zo_162 (p := 6) (k := 31) (a := 0) (b := 31) (zby_w zwX9_got_0 6 rfl) (zby_w zwX9_got_0 7 rfl) (zby_w zwX9_got_0 8 rfl) (by decide)) (by decide) (fun hc1 => ?_) (fun hc1 => ?_)
    · rw [if_pos hc1] at h
      refine zr_iload_n C (zo_28 (p := 37) (zby_w zwX9_got_1 5 rfl)) rfl ?_
      exact hret _ _ _ h (zo_172 (p := 38) (zby_w zwX9_got_1 6 rfl))
    · rw [if_neg hc1] at h
      refine zr_iload_n C (zo_28 (p := 9) (zby_w zwX9_got_0 9 rfl)) rfl ?_
      refine zr_iload_n C (zo_27 (p := 10) (zby_w zwX9_got_0 10 rfl)) rfl ?_
      refine zr_iload_n C (zo_29 (p := 11) (zby_w zwX9_got_0 11 rfl)) rfl ?_
      refine zr_ishr C (zo_122 (p := 12) (zby_w zwX9_got_0 12 rfl)) ?_
      refine zr_iconst C (1 : Int32) (zo_4 (p := 13) (zby_w zwX9_got_0 13 rfl)) (by decide) ?_
      refine zr_iand C (zo_126 (p := 14) (zby_w zwX9_got_0 14 rfl)) ?_
      refine zr_iconst C (1 : Int32) (zo_4 (p := 15) (zby_w zwX9_got_0 15 rfl)) (by decide) ?_
      obtain ⟨ho5, h⟩ := h
      have hJ4 : ∀ z3 : Int32, z3 = (if ((v1 >>> (v3 &&& 31)) &&& (1 : Int32)) = (1 : Int32) then (σ.1 76 v3.toNatClampNeg) else (0 : Int32)) → zGG p l e R s m args below meth c Q g n1 n2 4 29 [(0, .ref (g.2.1 69)), (1, .int v1), (2, .int v2), (3, .int v3)] [.int z3, .int v2] σ := by
        intro z3 hz3
        replace h := h z3 hz3
        refine zr_iadd C (zo_96 (p := 29) (zby_w zwX9_got_0 29 rfl)) ?_
        refine zr_topi (fun x7 hx7 => ?_)
        replace h := h x7 hx7
        refine zr_istore_n C [(2, .int x7), (0, .ref (g.2.1 69)), (1, .int v1), (3, .int v3)] (zo_61 (p := 30) (zby_w zwX9_got_0 30 rfl)) (by decide) rfl ?_
        refine zr_iinc C (v3 + 1) [(3, .int (v3 + 1)), (2, .int x7), (0, .ref (g.2.1 69)), (1, .int v1)] d_X9_got_31 rfl rfl (by decide) rfl ?_
        refine zr_goto C 4 (zo_167 (p := 34) (k := (-30)) (a := 255) (b := 226) (zby_w zwX9_got_1 2 rfl) (zby_w zwX9_got_1 3 rfl) (zby_w zwX9_got_1 4 rfl) (by decide)) (by decide) ?_
        exact zr_pick [2, 3, 1, 0] rfl (ih x7 (v3 + 1) h)
      refine zr_icmp_ne C 28 (zo_160 (p := 16) (k := 12) (a := 0) (b := 12) (zby_w zwX9_got_0 16 rfl) (zby_w zwX9_got_0 17 rfl) (zby_w zwX9_got_0 18 rfl) (by decide)) (by decide) (fun hc2 => ?_) (fun hc2 => ?_)
      · skip
        rw [if_neg hc2] at ho5
        refine zr_iconst C (0 : Int32) (zo_3 (p := 28) (zby_w zwX9_got_0 28 rfl)) (by decide) ?_
        exact hJ4 _ (by rw [if_neg hc2])
      · skip
        rw [if_pos hc2] at ho5
        refine zr_aload_n C (zo_42 (p := 19) (zby_w zwX9_got_0 19 rfl)) rfl ?_
        refine zr_getr (u := 76) C fw_X9_28 (sh_69) rfl (zo_180 (p := 20) (k := 28) (a := 0) (b := 28) (zby_w zwX9_got_0 20 rfl) (zby_w zwX9_got_0 21 rfl) (zby_w zwX9_got_0 22 rfl) (by decide)) ?_
        refine zr_iload_n C (zo_29 (p := 23) (zby_w zwX9_got_0 23 rfl)) rfl ?_
        obtain ⟨ho6, ho5⟩ := ho5
        refine zr_iald C (sh_76) ho6 (zo_46 (p := 24) (zby_w zwX9_got_0 24 rfl)) ?_
        refine zr_goto C 29 (zo_167 (p := 25) (k := 4) (a := 0) (b := 4) (zby_w zwX9_got_0 25 rfl) (zby_w zwX9_got_0 26 rfl) (zby_w zwX9_got_0 27 rfl) (by decide)) (by decide) ?_
        exact hJ4 _ (by rw [if_pos hc2])

def wp_X9_got (p1 : Int32) (σ : zST) (Post : Int32 → Prop) : Prop := ∃ M8 : Nat, wp_X9_got_L4 p1 σ Post M8 (0 : Int32) (0 : Int32)
set_option maxRecDepth 100000 in
set_option maxHeartbeats 4000000 in
theorem g_X9_got {p : Program} {l : Launch} {e : Env} {R : Room} {s : State} {m : MethodId} {args : Array Value} {below : List Frame} {meth : Method} {c : Code} {Q : State → Prop} {g : zG} {n1 n2 : Nat} (C : zCX p R s m args meth c g n1 n2 cX9_got 4 RX9 0 0) {p1 : Int32} {σ : zST} {Post : Int32 → Prop} (hret : ∀ (v : Int32) (pc : Nat) (lv : List (Nat × Value)), Post v → decode cX9_got pc = .ok (.ireturn, 1) → zGG p l e R s m args below meth c Q g n1 n2 4 pc lv [.int v] σ) (h : wp_X9_got p1 σ Post) : zGG p l e R s m args below meth c Q g n1 n2 4 0 [(0, .ref (g.2.1 69)), (1, .int p1)] [] σ := by
  unfold wp_X9_got at h
  refine zr_iconst C (0 : Int32) (zo_3 (p := 0) (zby_w zwX9_got_0 0 rfl)) (by decide) ?_
  refine zr_istore_n C [(2, .int (0 : Int32)), (0, .ref (g.2.1 69)), (1, .int p1)] (zo_61 (p := 1) (zby_w zwX9_got_0 1 rfl)) (by decide) rfl ?_
  refine zr_iconst C (0 : Int32) (zo_3 (p := 2) (zby_w zwX9_got_0 2 rfl)) (by decide) ?_
  refine zr_istore_n C [(3, .int (0 : Int32)), (2, .int (0 : Int32)), (0, .ref (g.2.1 69)), (1, .int p1)] (zo_62 (p := 3) (zby_w zwX9_got_0 3 rfl)) (by decide) rfl ?_
  obtain ⟨M8, h⟩ := h
  exact zr_pick [2, 3, 1, 0] rfl (g_X9_got_L4 C hret M8 (0 : Int32) (0 : Int32) h)
set_option maxRecDepth 20000 in
theorem c_X9_got (l : Launch) (g : zG) (p1 : Int32) (σ : zST) (Post : Int32 → Prop) (h : wp_X9_got p1 σ Post) : Met l yX9_got (Cond.code yX9_got cX9_got 4 (some .int) :: zGW) (zRm 0 0) (va_Pc [.ref (g.2.1 69), .int p1] (zPP g σ)) (va_Qi (fun r u => Post r ∧ u = σ) (zBB g) (zA g)) 0 0 (zA g) :=
  zMet (by decide) (Nat.le_of_ble_eq_true rfl) (fun p e s m below meth c hr C => g_X9_got C (fun v pc lv hp hd => zr_iret C hr ⟨hp, rfl⟩ hd) h)
def wp_X9_insured_L49 (v1 : Int32) (v3 : Int32) (v4 : Int32) (σ : zST) (K143 : Int32 → Int32 → Prop) : Nat → Int32 → Int32 → Int32 → Prop
  | 0, _, _, _ => False
  | N + 1, v5, v6, v7 => (if (16 : Int32) ≤ v7 then K143 v5 v6 else wp_X9_allOf v1 σ (fun r13 => wp_X9_got v7 σ (fun r15 => wp_X9_premiums v7 σ (fun r17 => ∀ x19 : Int32, x19 = ((v4 * (r13 - r15)) + ((10 : Int32) * r17)) → ∀ z21 : Int32, z21 = (if (v7 &&& ((σ.1 69 18) ^^^ (-1 : Int32))) = (0) then (if v6 ≤ x19 then (0 : Int32) else (1 : Int32)) else (0 : Int32)) → ∀ z26 : Int32, z26 = (if z21 = (0) then v5 else v7) → ∀ z30 : Int32, z30 = (if z21 = (0) then v6 else x19) → wp_X9_insured_L49 v1 v3 v4 σ K143 N z26 z30 (v7 + 1)))))

set_option maxRecDepth 100000 in
set_option maxHeartbeats 4000000 in
theorem g_X9_insured_L49 {p : Program} {l : Launch} {e : Env} {R : Room} {s : State} {m : MethodId} {args : Array Value} {below : List Frame} {meth : Method} {c : Code} {Q : State → Prop} {g : zG} {n1 n2 : Nat} (C : zCX p R s m args meth c g n1 n2 cX9_insured 10 RX9 3 66) {v1 : Int32} {v3 : Int32} {v4 : Int32} {σ : zST} {K143 : Int32 → Int32 → Prop} (hK143 : ∀ (w5 : Int32) (w6 : Int32), K143 w5 w6 → zGG p l e R s m args below meth c Q g n1 n2 10 143 [(0, .ref (g.2.1 69)), (1, .int v1), (3, .int v3), (4, .int v4), (5, .int w5), (6, .int w6)] [] σ) : ∀ (N : Nat) (v5 : Int32) (v6 : Int32) (v7 : Int32) , wp_X9_insured_L49 v1 v3 v4 σ K143 N v5 v6 v7 → zGG p l e R s m args below meth c Q g n1 n2 10 49 [(0, .ref (g.2.1 69)), (1, .int v1), (3, .int v3), (4, .int v4), (5, .int v5), (6, .int v6), (7, .int v7)] [] σ := by
  intro N
  induction N with
  | zero =>
    intro v5 v6 v7 h
    exact h.elim
  | succ N ih =>
    intro v5 v6 v7 h
    rw [wp_X9_insured_L49] at h
    refine zr_iload C (zo_21 (p := 49) (k := 7) (a := 7) (zby_w zwX9_insured_1 17 rfl) (zby_w zwX9_insured_1 18 rfl) (by decide)) rfl ?_
    refine zr_bipush C (16 : Int32) (zo_16 (p := 51) (k := 16) (a := 16) (zby_w zwX9_insured_1 19 rfl) (zby_w zwX9_insured_1 20 rfl) (by decide)) (by decide) ?_
    refine zr_icmp_ge C 143 (zo_162 (p := 53) (k := 90) (a := 0) (b := 90) (zby_w zwX9_insured_1 21 rfl) (zby_w zwX9_insured_1 22 rfl) (zby_w zwX9_insured_1 23 rfl) (by decide)) (by decide) (fun hc12 => ?_) (fun hc12 => ?_)
    · rw [if_pos hc12] at h
      exact zr_pick [0, 1, 2, 3, 4, 5] rfl (hK143 v5 v6 h)
    · rw [if_neg hc12] at h
      refine zr_iload C (zo_21 (p := 56) (k := 4) (a := 4) (zby_w zwX9_insured_1 24 rfl) (zby_w zwX9_insured_1 25 rfl) (by decide)) rfl ?_
      refine zr_aload_n C (zo_42 (p := 58) (zby_w zwX9_insured_1 26 rfl)) rfl ?_
      refine zr_iload_n C (zo_27 (p := 59) (zby_w zwX9_insured_1 27 rfl)) rfl ?_
      refine zr_cip (zr_runV (As := [.int v1]) (rest := [.int v4]) C vw_X9_209 (c_X9_allOf l g v1 σ _ h) (sh_69) rfl (by decide) (by decide) rfl rfl (Nat.le_of_ble_eq_true rfl) (zo_182 (p := 60) (k := 209) (a := 0) (b := 209) (zby_w zwX9_insured_1 28 rfl) (zby_w zwX9_insured_1 29 rfl) (zby_w zwX9_insured_1 30 rfl) (by decide))) (fun r13 h => ?_)
      refine zr_aload_n C (zo_42 (p := 63) (zby_w zwX9_insured_1 31 rfl)) rfl ?_
      refine zr_iload C (zo_21 (p := 64) (k := 7) (a := 7) (zby_w zwX9_insured_2 0 rfl) (zby_w zwX9_insured_2 1 rfl) (by decide)) rfl ?_
      refine zr_cip (zr_runV (As := [.int v7]) (rest := [.int r13, .int v4]) C vw_X9_265 (c_X9_got l g v7 σ _ h) (sh_69) rfl (by decide) (by decide) rfl rfl (Nat.le_of_ble_eq_true rfl) (zo_182 (p := 66) (k := 265) (a := 1) (b := 9) (zby_w zwX9_insured_2 2 rfl) (zby_w zwX9_insured_2 3 rfl) (zby_w zwX9_insured_2 4 rfl) (by decide))) (fun r15 h => ?_)
      refine zr_isub C (zo_100 (p := 69) (zby_w zwX9_insured_2 5 rfl)) ?_
      refine zr_imul C (zo_104 (p := 70) (zby_w zwX9_insured_2 6 rfl)) ?_
      refine zr_bipush C (10 : Int32) (zo_16 (p := 71) (k := 10) (a := 10) (zby_w zwX9_insured_2 7 rfl) (zby_w zwX9_insured_2 8 rfl) (by decide)) (by decide) ?_
      refine zr_aload_n C (zo_42 (p := 73) (zby_w zwX9_insured_2 9 rfl)) rfl ?_
      refine zr_iload C (zo_21 (p := 74) (k := 7) (a := 7) (zby_w zwX9_insured_2 10 rfl) (zby_w zwX9_insured_2 11 rfl) (by decide)) rfl ?_
      refine zr_cip (zr_runV (As := [.int v7]) (rest := [.int (10 : Int32), .int (v4 * (r13 - r15))]) C vw_X9_268 (c_X9_premiums l g v7 σ _ h) (sh_69) rfl (by decide) (by decide) rfl rfl (Nat.le_of_ble_eq_true rfl) (zo_182 (p := 76) (k := 268) (a := 1) (b := 12) (zby_w zwX9_insured_2 12 rfl) (zby_w zwX9_insured_2 13 rfl) (zby_w zwX9_insured_2 14 rfl) (by decide))) (fun r17 h => ?_)
      refine zr_imul C (zo_104 (p := 79) (zby_w zwX9_insured_2 15 rfl)) ?_
      refine zr_iadd C (zo_96 (p := 80) (zby_w zwX9_insured_2 16 rfl)) ?_
      refine zr_topi (fun x19 hx19 => ?_)
      replace h := h x19 hx19
      refine zr_istore C [(8, .int x19), (0, .ref (g.2.1 69)), (1, .int v1), (3, .int v3), (4, .int v4), (5, .int v5), (6, .int v6), (7, .int v7)] (zo_54 (p := 81) (k := 8) (a := 8) (zby_w zwX9_insured_2 17 rfl) (zby_w zwX9_insured_2 18 rfl) (by decide)) (by decide) rfl ?_
      refine zr_iload C (zo_21 (p := 83) (k := 7) (a := 7) (zby_w zwX9_insured_2 19 rfl) (zby_w zwX9_insured_2 20 rfl) (by decide)) rfl ?_
      refine zr_aload_n C (zo_42 (p := 85) (zby_w zwX9_insured_2 21 rfl)) rfl ?_
      refine zr_geti C fw_X9_262 (sh_69) rfl (zo_180 (p := 86) (k := 262) (a := 1) (b := 6) (zby_w zwX9_insured_2 22 rfl) (zby_w zwX9_insured_2 23 rfl) (zby_w zwX9_insured_2 24 rfl) (by decide)) ?_
      refine zr_iconst C (-1 : Int32) (zo_2 (p := 89) (zby_w zwX9_insured_2 25 rfl)) (by decide) ?_
      refine zr_ixor C (zo_130 (p := 90) (zby_w zwX9_insured_2 26 rfl)) ?_
      refine zr_iand C (zo_126 (p := 91) (zby_w zwX9_insured_2 27 rfl)) ?_
      have hJ22 : ∀ z21 : Int32, z21 = (if (v7 &&& ((σ.1 69 18) ^^^ (-1 : Int32))) = (0) then (if v6 ≤ x19 then (0 : Int32) else (1 : Int32)) else (0 : Int32)) → zGG p l e R s m args below meth c Q g n1 n2 10 107 [(8, .int x19), (0, .ref (g.2.1 69)), (1, .int v1), (3, .int v3), (4, .int v4), (5, .int v5), (6, .int v6), (7, .int v7)] [.int z21] σ := by
        intro z21 hz21
        replace h := h z21 hz21
        refine zr_istore C [(9, .int z21), (8, .int x19), (0, .ref (g.2.1 69)), (1, .int v1), (3, .int v3), (4, .int v4), (5, .int v5), (6, .int v6), (7, .int v7)] (zo_54 (p := 107) (k := 9) (a := 9) (zby_w zwX9_insured_3 11 rfl) (zby_w zwX9_insured_3 12 rfl) (by decide)) (by decide) rfl ?_
        refine zr_iload C (zo_21 (p := 109) (k := 9) (a := 9) (zby_w zwX9_insured_3 13 rfl) (zby_w zwX9_insured_3 14 rfl) (by decide)) rfl ?_
        have hJ27 : ∀ z26 : Int32, z26 = (if z21 = (0) then v5 else v7) → zGG p l e R s m args below meth c Q g n1 n2 10 121 [(9, .int z21), (8, .int x19), (0, .ref (g.2.1 69)), (1, .int v1), (3, .int v3), (4, .int v4), (5, .int v5), (6, .int v6), (7, .int v7)] [.int z26] σ := by
          intro z26 hz26
          replace h := h z26 hz26
          refine zr_istore C [(5, .int z26), (9, .int z21), (8, .int x19), (0, .ref (g.2.1 69)), (1, .int v1), (3, .int v3), (4, .int v4), (6, .int v6), (7, .int v7)] (zo_54 (p := 121) (k := 5) (a := 5) (zby_w zwX9_insured_3 25 rfl) (zby_w zwX9_insured_3 26 rfl) (by decide)) (by decide) rfl ?_
          refine zr_iload C (zo_21 (p := 123) (k := 9) (a := 9) (zby_w zwX9_insured_3 27 rfl) (zby_w zwX9_insured_3 28 rfl) (by decide)) rfl ?_
          have hJ31 : ∀ z30 : Int32, z30 = (if z21 = (0) then v6 else x19) → zGG p l e R s m args below meth c Q g n1 n2 10 135 [(5, .int z26), (9, .int z21), (8, .int x19), (0, .ref (g.2.1 69)), (1, .int v1), (3, .int v3), (4, .int v4), (6, .int v6), (7, .int v7)] [.int z30] σ := by
            intro z30 hz30
            replace h := h z30 hz30
            refine zr_istore C [(6, .int z30), (5, .int z26), (9, .int z21), (8, .int x19), (0, .ref (g.2.1 69)), (1, .int v1), (3, .int v3), (4, .int v4), (7, .int v7)] (zo_54 (p := 135) (k := 6) (a := 6) (zby_w zwX9_insured_4 7 rfl) (zby_w zwX9_insured_4 8 rfl) (by decide)) (by decide) rfl ?_
            refine zr_iinc C (v7 + 1) [(7, .int (v7 + 1)), (6, .int z30), (5, .int z26), (9, .int z21), (8, .int x19), (0, .ref (g.2.1 69)), (1, .int v1), (3, .int v3), (4, .int v4)] d_X9_insured_137 rfl rfl (by decide) rfl ?_
            refine zr_goto C 49 (zo_167 (p := 140) (k := (-91)) (a := 255) (b := 165) (zby_w zwX9_insured_4 12 rfl) (zby_w zwX9_insured_4 13 rfl) (zby_w zwX9_insured_4 14 rfl) (by decide)) (by decide) ?_
            exact zr_pick [5, 6, 7, 8, 2, 1, 0] rfl (ih z26 z30 (v7 + 1) h)
          refine zr_if_eq C 133 (zo_153 (p := 125) (k := 8) (a := 0) (b := 8) (zby_w zwX9_insured_3 29 rfl) (zby_w zwX9_insured_3 30 rfl) (zby_w zwX9_insured_3 31 rfl) (by decide)) (by decide) (fun hc29 => ?_) (fun hc29 => ?_)
          · skip
            refine zr_iload C (zo_21 (p := 133) (k := 6) (a := 6) (zby_w zwX9_insured_4 5 rfl) (zby_w zwX9_insured_4 6 rfl) (by decide)) rfl ?_
            exact hJ31 _ (by rw [if_pos hc29])
          · skip
            refine zr_iload C (zo_21 (p := 128) (k := 8) (a := 8) (zby_w zwX9_insured_4 0 rfl) (zby_w zwX9_insured_4 1 rfl) (by decide)) rfl ?_
            refine zr_goto C 135 (zo_167 (p := 130) (k := 5) (a := 0) (b := 5) (zby_w zwX9_insured_4 2 rfl) (zby_w zwX9_insured_4 3 rfl) (zby_w zwX9_insured_4 4 rfl) (by decide)) (by decide) ?_
            exact hJ31 _ (by rw [if_neg hc29])
        refine zr_if_eq C 119 (zo_153 (p := 111) (k := 8) (a := 0) (b := 8) (zby_w zwX9_insured_3 15 rfl) (zby_w zwX9_insured_3 16 rfl) (zby_w zwX9_insured_3 17 rfl) (by decide)) (by decide) (fun hc25 => ?_) (fun hc25 => ?_)
        · skip
          refine zr_iload C (zo_21 (p := 119) (k := 5) (a := 5) (zby_w zwX9_insured_3 23 rfl) (zby_w zwX9_insured_3 24 rfl) (by decide)) rfl ?_
          exact hJ27 _ (by rw [if_pos hc25])
        · skip
          refine zr_iload C (zo_21 (p := 114) (k := 7) (a := 7) (zby_w zwX9_insured_3 18 rfl) (zby_w zwX9_insured_3 19 rfl) (by decide)) rfl ?_
          refine zr_goto C 121 (zo_167 (p := 116) (k := 5) (a := 0) (b := 5) (zby_w zwX9_insured_3 20 rfl) (zby_w zwX9_insured_3 21 rfl) (zby_w zwX9_insured_3 22 rfl) (by decide)) (by decide) ?_
          exact hJ27 _ (by rw [if_neg hc25])
      refine zr_if_ne C 106 (zo_154 (p := 92) (k := 14) (a := 0) (b := 14) (zby_w zwX9_insured_2 28 rfl) (zby_w zwX9_insured_2 29 rfl) (zby_w zwX9_insured_2 30 rfl) (by decide)) (by decide) (fun hc20 => ?_) (fun hc20 => ?_)
      · skip
        refine zr_iconst C (0 : Int32) d_X9_insured_106 (by decide) ?_
        exact hJ22 _ (by rw [if_neg hc20])
      · skip
        refine zr_iload C (zo_21 (p := 95) (k := 8) (a := 8) (zby_w zwX9_insured_2 31 rfl) (zby_w zwX9_insured_2 32 rfl) (by decide)) rfl ?_
        refine zr_iload C (zo_21 (p := 97) (k := 6) (a := 6) (zby_w zwX9_insured_3 1 rfl) (zby_w zwX9_insured_3 2 rfl) (by decide)) rfl ?_
        refine zr_icmp_ge C 106 (zo_162 (p := 99) (k := 7) (a := 0) (b := 7) (zby_w zwX9_insured_3 3 rfl) (zby_w zwX9_insured_3 4 rfl) (zby_w zwX9_insured_3 5 rfl) (by decide)) (by decide) (fun hc24 => ?_) (fun hc24 => ?_)
        · skip
          refine zr_iconst C (0 : Int32) d_X9_insured_106 (by decide) ?_
          exact hJ22 _ (by rw [if_pos hc20, if_pos hc24])
        · skip
          refine zr_iconst C (1 : Int32) (zo_4 (p := 102) (zby_w zwX9_insured_3 6 rfl)) (by decide) ?_
          refine zr_goto C 107 (zo_167 (p := 103) (k := 4) (a := 0) (b := 4) (zby_w zwX9_insured_3 7 rfl) (zby_w zwX9_insured_3 8 rfl) (zby_w zwX9_insured_3 9 rfl) (by decide)) (by decide) ?_
          exact hJ22 _ (by rw [if_pos hc20, if_neg hc24])

def wp_X9_insured_J216 (s0 : Int32) (σ : zST) (Post : Int32 → Prop) : Prop := ∀ z39 : Int32, z39 = (if s0 ≤ (0) then (0 : Int32) else s0) → Post z39

set_option maxRecDepth 100000 in
set_option maxHeartbeats 4000000 in
theorem g_X9_insured_J216 {p : Program} {l : Launch} {e : Env} {R : Room} {s : State} {m : MethodId} {args : Array Value} {below : List Frame} {meth : Method} {c : Code} {Q : State → Prop} {g : zG} {n1 n2 : Nat} (C : zCX p R s m args meth c g n1 n2 cX9_insured 10 RX9 3 66) {s0 : Int32} {σ : zST}  {Post : Int32 → Prop} (hret : ∀ (v : Int32) (pc : Nat) (lv : List (Nat × Value)), Post v → decode cX9_insured pc = .ok (.ireturn, 1) → zGG p l e R s m args below meth c Q g n1 n2 10 pc lv [.int v] σ) (h : wp_X9_insured_J216 s0 σ Post) : zGG p l e R s m args below meth c Q g n1 n2 10 216 [] [.int s0] σ := by
  unfold wp_X9_insured_J216 at h
  refine zr_istore C [(8, .int s0)] (zo_54 (p := 216) (k := 8) (a := 8) (zby_w zwX9_insured_6 24 rfl) (zby_w zwX9_insured_6 25 rfl) (by decide)) (by decide) rfl ?_
  refine zr_iload C (zo_21 (p := 218) (k := 8) (a := 8) (zby_w zwX9_insured_6 26 rfl) (zby_w zwX9_insured_6 27 rfl) (by decide)) rfl ?_
  have hJ40 : ∀ z39 : Int32, z39 = (if s0 ≤ (0) then (0 : Int32) else s0) → zGG p l e R s m args below meth c Q g n1 n2 10 229 [(8, .int s0)] [.int z39] σ := by
    intro z39 hz39
    replace h := h z39 hz39
    exact hret _ _ _ h (zo_172 (p := 229) (zby_w zwX9_insured_7 5 rfl))
  refine zr_if_le C 228 (zo_158 (p := 220) (k := 8) (a := 0) (b := 8) (zby_w zwX9_insured_6 28 rfl) (zby_w zwX9_insured_6 29 rfl) (zby_w zwX9_insured_6 30 rfl) (by decide)) (by decide) (fun hc38 => ?_) (fun hc38 => ?_)
  · skip
    refine zr_iconst C (0 : Int32) (zo_3 (p := 228) (zby_w zwX9_insured_7 4 rfl)) (by decide) ?_
    exact hJ40 _ (by rw [if_pos hc38])
  · skip
    refine zr_iload C (zo_21 (p := 223) (k := 8) (a := 8) (zby_w zwX9_insured_6 31 rfl) (zby_w zwX9_insured_6 32 rfl) (by decide)) rfl ?_
    refine zr_goto C 229 (zo_167 (p := 225) (k := 4) (a := 0) (b := 4) (zby_w zwX9_insured_7 1 rfl) (zby_w zwX9_insured_7 2 rfl) (zby_w zwX9_insured_7 3 rfl) (by decide)) (by decide) ?_
    exact hJ40 _ (by rw [if_neg hc38])

def wp_X9_insured_J192 (v5 : Int32) (s0 : Int32) (σ : zST) (Post : Int32 → Prop) : Prop := wp_X9_premiums v5 σ (fun r35 => (if r35 ≤ s0 then wp_X9_insured_J216 s0 σ Post else wp_X9_premiums v5 σ (fun r42 => wp_X9_insured_J216 r42 σ Post)))

set_option maxRecDepth 100000 in
set_option maxHeartbeats 4000000 in
theorem g_X9_insured_J192 {p : Program} {l : Launch} {e : Env} {R : Room} {s : State} {m : MethodId} {args : Array Value} {below : List Frame} {meth : Method} {c : Code} {Q : State → Prop} {g : zG} {n1 n2 : Nat} (C : zCX p R s m args meth c g n1 n2 cX9_insured 10 RX9 3 66) {v5 : Int32} {s0 : Int32} {σ : zST}  {Post : Int32 → Prop} (hret : ∀ (v : Int32) (pc : Nat) (lv : List (Nat × Value)), Post v → decode cX9_insured pc = .ok (.ireturn, 1) → zGG p l e R s m args below meth c Q g n1 n2 10 pc lv [.int v] σ) (h : wp_X9_insured_J192 v5 s0 σ Post) : zGG p l e R s m args below meth c Q g n1 n2 10 192 [(0, .ref (g.2.1 69)), (5, .int v5)] [.int s0] σ := by
  unfold wp_X9_insured_J192 at h
  refine zr_istore C [(7, .int s0), (0, .ref (g.2.1 69)), (5, .int v5)] (zo_54 (p := 192) (k := 7) (a := 7) (zby_w zwX9_insured_6 0 rfl) (zby_w zwX9_insured_6 1 rfl) (by decide)) (by decide) rfl ?_
  refine zr_aload_n C (zo_42 (p := 194) (zby_w zwX9_insured_6 2 rfl)) rfl ?_
  refine zr_iload C (zo_21 (p := 195) (k := 5) (a := 5) (zby_w zwX9_insured_6 3 rfl) (zby_w zwX9_insured_6 4 rfl) (by decide)) rfl ?_
  refine zr_cip (zr_runV (As := [.int v5]) (rest := []) C vw_X9_268 (c_X9_premiums l g v5 σ _ h) (sh_69) rfl (by decide) (by decide) rfl rfl (Nat.le_of_ble_eq_true rfl) (zo_182 (p := 197) (k := 268) (a := 1) (b := 12) (zby_w zwX9_insured_6 5 rfl) (zby_w zwX9_insured_6 6 rfl) (zby_w zwX9_insured_6 7 rfl) (by decide))) (fun r35 h => ?_)
  refine zr_iload C (zo_21 (p := 200) (k := 7) (a := 7) (zby_w zwX9_insured_6 8 rfl) (zby_w zwX9_insured_6 9 rfl) (by decide)) rfl ?_
  refine zr_icmp_le C 214 (zo_164 (p := 202) (k := 12) (a := 0) (b := 12) (zby_w zwX9_insured_6 10 rfl) (zby_w zwX9_insured_6 11 rfl) (zby_w zwX9_insured_6 12 rfl) (by decide)) (by decide) (fun hc37 => ?_) (fun hc37 => ?_)
  · rw [if_pos hc37] at h
    refine zr_iload C (zo_21 (p := 214) (k := 7) (a := 7) (zby_w zwX9_insured_6 22 rfl) (zby_w zwX9_insured_6 23 rfl) (by decide)) rfl ?_
    exact zr_pick [] rfl (g_X9_insured_J216 C hret h)
  · rw [if_neg hc37] at h
    refine zr_aload_n C (zo_42 (p := 205) (zby_w zwX9_insured_6 13 rfl)) rfl ?_
    refine zr_iload C (zo_21 (p := 206) (k := 5) (a := 5) (zby_w zwX9_insured_6 14 rfl) (zby_w zwX9_insured_6 15 rfl) (by decide)) rfl ?_
    refine zr_cip (zr_runV (As := [.int v5]) (rest := []) C vw_X9_268 (c_X9_premiums l g v5 σ _ h) (sh_69) rfl (by decide) (by decide) rfl rfl (Nat.le_of_ble_eq_true rfl) (zo_182 (p := 208) (k := 268) (a := 1) (b := 12) (zby_w zwX9_insured_6 16 rfl) (zby_w zwX9_insured_6 17 rfl) (zby_w zwX9_insured_6 18 rfl) (by decide))) (fun r42 h => ?_)
    refine zr_goto C 216 (zo_167 (p := 211) (k := 5) (a := 0) (b := 5) (zby_w zwX9_insured_6 19 rfl) (zby_w zwX9_insured_6 20 rfl) (zby_w zwX9_insured_6 21 rfl) (by decide)) (by decide) ?_
    exact zr_pick [] rfl (g_X9_insured_J216 C hret h)

def wp_X9_insured (p1 : Int32) (p2 : Int32) (p3 : Int32) (σ : zST) (Post : Int32 → Prop) : Prop := wp_X9_isShip p1 σ (fun r1 => (if r1 = (0) then Post (-1 : Int32) else wp_X9_isHour p2 σ (fun r4 => (if r4 = (0) then Post (-2 : Int32) else wp_X9_in (p3.toInt64) (0 : Int64) (2 : Int64) σ (fun r7 => (if r7 = (0) then Post (-2 : Int32) else wp_X9_tenths p2 σ (fun r10 => ∃ M71 : Nat, wp_X9_insured_L49 p1 p3 r10 σ (fun w5 w6 => (if (2 : Int32) ≤ p3 then (if r10 ≤ (0) then wp_X9_insured_J192 w5 (0 : Int32) σ Post else wp_X9_allOf p1 σ (fun r48 => wp_X9_got w5 σ (fun r50 => wp_X9_premiums w5 σ (fun r52 => wp_X9_insured_J192 w5 ((r48 - r50) + r52) σ Post)))) else ∀ z68 : Int32, z68 = (if p3 = (0) then (w6 + (1000000 : Int32)) else w5) → Post z68)) M71 (0 : Int32) (1000000000 : Int32) (0 : Int32))))))))
set_option maxRecDepth 100000 in
set_option maxHeartbeats 4000000 in
theorem g_X9_insured {p : Program} {l : Launch} {e : Env} {R : Room} {s : State} {m : MethodId} {args : Array Value} {below : List Frame} {meth : Method} {c : Code} {Q : State → Prop} {g : zG} {n1 n2 : Nat} (C : zCX p R s m args meth c g n1 n2 cX9_insured 10 RX9 3 66) {p1 : Int32} {p2 : Int32} {p3 : Int32} {σ : zST} {Post : Int32 → Prop} (hret : ∀ (v : Int32) (pc : Nat) (lv : List (Nat × Value)), Post v → decode cX9_insured pc = .ok (.ireturn, 1) → zGG p l e R s m args below meth c Q g n1 n2 10 pc lv [.int v] σ) (h : wp_X9_insured p1 p2 p3 σ Post) : zGG p l e R s m args below meth c Q g n1 n2 10 0 [(0, .ref (g.2.1 69)), (1, .int p1), (2, .int p2), (3, .int p3)] [] σ := by
  unfold wp_X9_insured at h
  refine zr_aload_n C (zo_42 (p := 0) (zby_w zwX9_insured_0 0 rfl)) rfl ?_
  refine zr_iload_n C (zo_27 (p := 1) (zby_w zwX9_insured_0 1 rfl)) rfl ?_
  refine zr_cip (zr_runV (As := [.int p1]) (rest := []) C vw_X9_112 (c_X9_isShip l g p1 σ _ h) (sh_69) rfl (by decide) (by decide) rfl rfl (Nat.le_of_ble_eq_true rfl) (zo_182 (p := 2) (k := 112) (a := 0) (b := 112) (zby_w zwX9_insured_0 2 rfl) (zby_w zwX9_insured_0 3 rfl) (zby_w zwX9_insured_0 4 rfl) (by decide))) (fun r1 h => ?_)
  refine zr_if_ne C 10 (zo_154 (p := 5) (k := 5) (a := 0) (b := 5) (zby_w zwX9_insured_0 5 rfl) (zby_w zwX9_insured_0 6 rfl) (zby_w zwX9_insured_0 7 rfl) (by decide)) (by decide) (fun hc3 => ?_) (fun hc3 => ?_)
  · rw [if_neg hc3] at h
    refine zr_iload_n C (zo_28 (p := 10) (zby_w zwX9_insured_0 10 rfl)) rfl ?_
    refine zr_cip (zr_runS (As := [.int p2]) (rest := []) C sw_X9_219 (c_X9_isHour l g p2 σ _ h) (by decide) (by decide) rfl rfl (Nat.le_of_ble_eq_true rfl) (zo_184 (p := 11) (k := 219) (a := 0) (b := 219) (zby_w zwX9_insured_0 11 rfl) (zby_w zwX9_insured_0 12 rfl) (zby_w zwX9_insured_0 13 rfl) (by decide))) (fun r4 h => ?_)
    refine zr_if_eq C 29 (zo_153 (p := 14) (k := 15) (a := 0) (b := 15) (zby_w zwX9_insured_0 14 rfl) (zby_w zwX9_insured_0 15 rfl) (zby_w zwX9_insured_0 16 rfl) (by decide)) (by decide) (fun hc6 => ?_) (fun hc6 => ?_)
    · rw [if_pos hc6] at h
      refine zr_bipush C (-2 : Int32) d_X9_insured_29 (by decide) ?_
      exact hret _ _ _ h d_X9_insured_31
    · rw [if_neg hc6] at h
      refine zr_iload_n C (zo_29 (p := 17) (zby_w zwX9_insured_0 17 rfl)) rfl ?_
      refine zr_i2l C (zo_133 (p := 18) (zby_w zwX9_insured_0 18 rfl)) ?_
      refine zr_lconst C (0 : Int64) (zo_9 (p := 19) (zby_w zwX9_insured_0 19 rfl)) (by decide) ?_
      refine zr_ldc2 C (v := (2 : Int64)) cl_X9_102 (zo_20 (p := 20) (k := 102) (a := 0) (b := 102) (zby_w zwX9_insured_0 20 rfl) (zby_w zwX9_insured_0 21 rfl) (zby_w zwX9_insured_0 22 rfl) (by decide)) ?_
      refine zr_cip (zr_runS (As := [.long (p3.toInt64), .long (0 : Int64), .long (2 : Int64)]) (rest := []) C sw_X9_89 (c_X9_in l g (p3.toInt64) (0 : Int64) (2 : Int64) σ _ h) (by decide) (by decide) rfl rfl (Nat.le_of_ble_eq_true rfl) (zo_184 (p := 23) (k := 89) (a := 0) (b := 89) (zby_w zwX9_insured_0 23 rfl) (zby_w zwX9_insured_0 24 rfl) (zby_w zwX9_insured_0 25 rfl) (by decide))) (fun r7 h => ?_)
      refine zr_if_ne C 32 (zo_154 (p := 26) (k := 6) (a := 0) (b := 6) (zby_w zwX9_insured_0 26 rfl) (zby_w zwX9_insured_0 27 rfl) (zby_w zwX9_insured_0 28 rfl) (by decide)) (by decide) (fun hc9 => ?_) (fun hc9 => ?_)
      · rw [if_neg hc9] at h
        refine zr_aload_n C (zo_42 (p := 32) (zby_w zwX9_insured_1 0 rfl)) rfl ?_
        refine zr_iload_n C (zo_28 (p := 33) (zby_w zwX9_insured_1 1 rfl)) rfl ?_
        refine zr_cip (zr_runV (As := [.int p2]) (rest := []) C vw_X9_163 (c_X9_tenths l g p2 σ _ h) (sh_69) rfl (by decide) (by decide) rfl rfl (Nat.le_of_ble_eq_true rfl) (zo_182 (p := 34) (k := 163) (a := 0) (b := 163) (zby_w zwX9_insured_1 2 rfl) (zby_w zwX9_insured_1 3 rfl) (zby_w zwX9_insured_1 4 rfl) (by decide))) (fun r10 h => ?_)
        refine zr_istore C [(4, .int r10), (0, .ref (g.2.1 69)), (1, .int p1), (2, .int p2), (3, .int p3)] (zo_54 (p := 37) (k := 4) (a := 4) (zby_w zwX9_insured_1 5 rfl) (zby_w zwX9_insured_1 6 rfl) (by decide)) (by decide) rfl ?_
        refine zr_iconst C (0 : Int32) (zo_3 (p := 39) (zby_w zwX9_insured_1 7 rfl)) (by decide) ?_
        refine zr_istore C [(5, .int (0 : Int32)), (4, .int r10), (0, .ref (g.2.1 69)), (1, .int p1), (2, .int p2), (3, .int p3)] (zo_54 (p := 40) (k := 5) (a := 5) (zby_w zwX9_insured_1 8 rfl) (zby_w zwX9_insured_1 9 rfl) (by decide)) (by decide) rfl ?_
        refine zr_ldc C (v := (1000000000 : Int32)) cw_X9_230 (zo_18 (p := 42) (k := 230) (a := 230) (zby_w zwX9_insured_1 10 rfl) (zby_w zwX9_insured_1 11 rfl) (by decide)) ?_
        refine zr_istore C [(6, .int (1000000000 : Int32)), (5, .int (0 : Int32)), (4, .int r10), (0, .ref (g.2.1 69)), (1, .int p1), (2, .int p2), (3, .int p3)] (zo_54 (p := 44) (k := 6) (a := 6) (zby_w zwX9_insured_1 12 rfl) (zby_w zwX9_insured_1 13 rfl) (by decide)) (by decide) rfl ?_
        refine zr_iconst C (0 : Int32) (zo_3 (p := 46) (zby_w zwX9_insured_1 14 rfl)) (by decide) ?_
        refine zr_istore C [(7, .int (0 : Int32)), (6, .int (1000000000 : Int32)), (5, .int (0 : Int32)), (4, .int r10), (0, .ref (g.2.1 69)), (1, .int p1), (2, .int p2), (3, .int p3)] (zo_54 (p := 47) (k := 7) (a := 7) (zby_w zwX9_insured_1 15 rfl) (zby_w zwX9_insured_1 16 rfl) (by decide)) (by decide) rfl ?_
        obtain ⟨M71, h⟩ := h
        exact zr_pick [4, 5, 7, 3, 2, 1, 0] rfl (g_X9_insured_L49 C (fun w5 w6 h => by
            refine zr_iload_n C (zo_29 (p := 143) (zby_w zwX9_insured_4 15 rfl)) rfl ?_
            refine zr_iconst C (2 : Int32) (zo_5 (p := 144) (zby_w zwX9_insured_4 16 rfl)) (by decide) ?_
            refine zr_icmp_ge C 164 (zo_162 (p := 145) (k := 19) (a := 0) (b := 19) (zby_w zwX9_insured_4 17 rfl) (zby_w zwX9_insured_4 18 rfl) (zby_w zwX9_insured_4 19 rfl) (by decide)) (by decide) (fun hc33 => ?_) (fun hc33 => ?_)
            · rw [if_pos hc33] at h
              refine zr_iload C (zo_21 (p := 164) (k := 4) (a := 4) (zby_w zwX9_insured_5 4 rfl) (zby_w zwX9_insured_5 5 rfl) (by decide)) rfl ?_
              refine zr_if_le C 191 (zo_158 (p := 166) (k := 25) (a := 0) (b := 25) (zby_w zwX9_insured_5 6 rfl) (zby_w zwX9_insured_5 7 rfl) (zby_w zwX9_insured_5 8 rfl) (by decide)) (by decide) (fun hc34 => ?_) (fun hc34 => ?_)
              · rw [if_pos hc34] at h
                refine zr_iconst C (0 : Int32) (zo_3 (p := 191) (zby_w zwX9_insured_5 31 rfl)) (by decide) ?_
                exact zr_pick [0, 4] rfl (g_X9_insured_J192 C hret h)
              · rw [if_neg hc34] at h
                refine zr_aload_n C (zo_42 (p := 169) (zby_w zwX9_insured_5 9 rfl)) rfl ?_
                refine zr_iload_n C (zo_27 (p := 170) (zby_w zwX9_insured_5 10 rfl)) rfl ?_
                refine zr_cip (zr_runV (As := [.int p1]) (rest := []) C vw_X9_209 (c_X9_allOf l g p1 σ _ h) (sh_69) rfl (by decide) (by decide) rfl rfl (Nat.le_of_ble_eq_true rfl) (zo_182 (p := 171) (k := 209) (a := 0) (b := 209) (zby_w zwX9_insured_5 11 rfl) (zby_w zwX9_insured_5 12 rfl) (zby_w zwX9_insured_5 13 rfl) (by decide))) (fun r48 h => ?_)
                refine zr_aload_n C (zo_42 (p := 174) (zby_w zwX9_insured_5 14 rfl)) rfl ?_
                refine zr_iload C (zo_21 (p := 175) (k := 5) (a := 5) (zby_w zwX9_insured_5 15 rfl) (zby_w zwX9_insured_5 16 rfl) (by decide)) rfl ?_
                refine zr_cip (zr_runV (As := [.int w5]) (rest := [.int r48]) C vw_X9_265 (c_X9_got l g w5 σ _ h) (sh_69) rfl (by decide) (by decide) rfl rfl (Nat.le_of_ble_eq_true rfl) (zo_182 (p := 177) (k := 265) (a := 1) (b := 9) (zby_w zwX9_insured_5 17 rfl) (zby_w zwX9_insured_5 18 rfl) (zby_w zwX9_insured_5 19 rfl) (by decide))) (fun r50 h => ?_)
                refine zr_isub C (zo_100 (p := 180) (zby_w zwX9_insured_5 20 rfl)) ?_
                refine zr_aload_n C (zo_42 (p := 181) (zby_w zwX9_insured_5 21 rfl)) rfl ?_
                refine zr_iload C (zo_21 (p := 182) (k := 5) (a := 5) (zby_w zwX9_insured_5 22 rfl) (zby_w zwX9_insured_5 23 rfl) (by decide)) rfl ?_
                refine zr_cip (zr_runV (As := [.int w5]) (rest := [.int (r48 - r50)]) C vw_X9_268 (c_X9_premiums l g w5 σ _ h) (sh_69) rfl (by decide) (by decide) rfl rfl (Nat.le_of_ble_eq_true rfl) (zo_182 (p := 184) (k := 268) (a := 1) (b := 12) (zby_w zwX9_insured_5 24 rfl) (zby_w zwX9_insured_5 25 rfl) (zby_w zwX9_insured_5 26 rfl) (by decide))) (fun r52 h => ?_)
                refine zr_iadd C (zo_96 (p := 187) (zby_w zwX9_insured_5 27 rfl)) ?_
                refine zr_goto C 192 (zo_167 (p := 188) (k := 4) (a := 0) (b := 4) (zby_w zwX9_insured_5 28 rfl) (zby_w zwX9_insured_5 29 rfl) (zby_w zwX9_insured_5 30 rfl) (by decide)) (by decide) ?_
                exact zr_pick [0, 4] rfl (g_X9_insured_J192 C hret h)
            · rw [if_neg hc33] at h
              refine zr_iload_n C (zo_29 (p := 148) (zby_w zwX9_insured_4 20 rfl)) rfl ?_
              have hJ69 : ∀ z68 : Int32, z68 = (if p3 = (0) then (w6 + (1000000 : Int32)) else w5) → zGG p l e R s m args below meth c Q g n1 n2 10 163 [(0, .ref (g.2.1 69)), (1, .int p1), (3, .int p3), (4, .int r10), (5, .int w5), (6, .int w6)] [.int z68] σ := by
                intro z68 hz68
                replace h := h z68 hz68
                exact hret _ _ _ h (zo_172 (p := 163) (zby_w zwX9_insured_5 3 rfl))
              refine zr_if_ne C 161 (zo_154 (p := 149) (k := 12) (a := 0) (b := 12) (zby_w zwX9_insured_4 21 rfl) (zby_w zwX9_insured_4 22 rfl) (zby_w zwX9_insured_4 23 rfl) (by decide)) (by decide) (fun hc67 => ?_) (fun hc67 => ?_)
              · skip
                refine zr_iload C (zo_21 (p := 161) (k := 5) (a := 5) (zby_w zwX9_insured_5 1 rfl) (zby_w zwX9_insured_5 2 rfl) (by decide)) rfl ?_
                exact hJ69 _ (by rw [if_neg hc67])
              · skip
                refine zr_iload C (zo_21 (p := 152) (k := 6) (a := 6) (zby_w zwX9_insured_4 24 rfl) (zby_w zwX9_insured_4 25 rfl) (by decide)) rfl ?_
                refine zr_ldcw C (v := (1000000 : Int32)) cw_X9_271 (zo_19 (p := 154) (k := 271) (a := 1) (b := 15) (zby_w zwX9_insured_4 26 rfl) (zby_w zwX9_insured_4 27 rfl) (zby_w zwX9_insured_4 28 rfl) (by decide)) ?_
                refine zr_iadd C (zo_96 (p := 157) (zby_w zwX9_insured_4 29 rfl)) ?_
                refine zr_goto C 163 (zo_167 (p := 158) (k := 5) (a := 0) (b := 5) (zby_w zwX9_insured_4 30 rfl) (zby_w zwX9_insured_4 31 rfl) (zby_w zwX9_insured_4 32 rfl) (by decide)) (by decide) ?_
                exact hJ69 _ (by rw [if_pos hc67])) M71 (0 : Int32) (1000000000 : Int32) (0 : Int32) h)
      · rw [if_pos hc9] at h
        refine zr_bipush C (-2 : Int32) d_X9_insured_29 (by decide) ?_
        exact hret _ _ _ h d_X9_insured_31
  · rw [if_pos hc3] at h
    refine zr_iconst C (-1 : Int32) (zo_2 (p := 8) (zby_w zwX9_insured_0 8 rfl)) (by decide) ?_
    exact hret _ _ _ h (zo_172 (p := 9) (zby_w zwX9_insured_0 9 rfl))
set_option maxRecDepth 20000 in
theorem c_X9_insured (l : Launch) (g : zG) (p1 : Int32) (p2 : Int32) (p3 : Int32) (σ : zST) (Post : Int32 → Prop) (h : wp_X9_insured p1 p2 p3 σ Post) : Met l yX9_insured (Cond.code yX9_insured cX9_insured 10 (some .int) :: zGW) (zRm 3 66) (va_Pc [.ref (g.2.1 69), .int p1, .int p2, .int p3] (zPP g σ)) (va_Qi (fun r u => Post r ∧ u = σ) (zBB g) (zA g)) 0 0 (zA g) :=
  zMet (by decide) (Nat.le_of_ble_eq_true rfl) (fun p e s m below meth c hr C => g_X9_insured C (fun v pc lv hp hd => zr_iret C hr ⟨hp, rfl⟩ hd) h)
def wp_X9_isAboard (p1 : Int32) (σ : zST) (Post : Int32 → Prop) : Prop := wp_X9_in (p1.toInt64) (0 : Int64) (7 : Int64) σ (fun r1 => ∀ z4 : Int32, z4 = (if r1 = (0) then (0 : Int32) else (if (((σ.1 69 21) >>> (p1 &&& 31)) &&& (1 : Int32)) = (1 : Int32) then (1 : Int32) else (0 : Int32))) → zB z4 ∧ Post z4)
set_option maxRecDepth 100000 in
set_option maxHeartbeats 4000000 in
theorem g_X9_isAboard {p : Program} {l : Launch} {e : Env} {R : Room} {s : State} {m : MethodId} {args : Array Value} {below : List Frame} {meth : Method} {c : Code} {Q : State → Prop} {g : zG} {n1 n2 : Nat} (C : zCX p R s m args meth c g n1 n2 cX9_isAboard 2 RX9 1 25) {p1 : Int32} {σ : zST} {Post : Int32 → Prop} (hret : ∀ (v : Int32) (pc : Nat) (lv : List (Nat × Value)), zB v → Post v → decode cX9_isAboard pc = .ok (.ireturn, 1) → zGG p l e R s m args below meth c Q g n1 n2 2 pc lv [.int v] σ) (h : wp_X9_isAboard p1 σ Post) : zGG p l e R s m args below meth c Q g n1 n2 2 0 [(0, .ref (g.2.1 69)), (1, .int p1)] [] σ := by
  unfold wp_X9_isAboard at h
  refine zr_iload_n C (zo_27 (p := 0) (zby_w zwX9_isAboard_0 0 rfl)) rfl ?_
  refine zr_i2l C (zo_133 (p := 1) (zby_w zwX9_isAboard_0 1 rfl)) ?_
  refine zr_lconst C (0 : Int64) (zo_9 (p := 2) (zby_w zwX9_isAboard_0 2 rfl)) (by decide) ?_
  refine zr_ldc2 C (v := (7 : Int64)) cl_X9_118 (zo_20 (p := 3) (k := 118) (a := 0) (b := 118) (zby_w zwX9_isAboard_0 3 rfl) (zby_w zwX9_isAboard_0 4 rfl) (zby_w zwX9_isAboard_0 5 rfl) (by decide)) ?_
  refine zr_cip (zr_runS (As := [.long (p1.toInt64), .long (0 : Int64), .long (7 : Int64)]) (rest := []) C sw_X9_89 (c_X9_in l g (p1.toInt64) (0 : Int64) (7 : Int64) σ _ h) (by decide) (by decide) rfl rfl (Nat.le_of_ble_eq_true rfl) (zo_184 (p := 6) (k := 89) (a := 0) (b := 89) (zby_w zwX9_isAboard_0 6 rfl) (zby_w zwX9_isAboard_0 7 rfl) (zby_w zwX9_isAboard_0 8 rfl) (by decide))) (fun r1 h => ?_)
  have hJ5 : ∀ z4 : Int32, z4 = (if r1 = (0) then (0 : Int32) else (if (((σ.1 69 21) >>> (p1 &&& 31)) &&& (1 : Int32)) = (1 : Int32) then (1 : Int32) else (0 : Int32))) → zGG p l e R s m args below meth c Q g n1 n2 2 29 [(0, .ref (g.2.1 69)), (1, .int p1)] [.int z4] σ := by
    intro z4 hz4
    replace h := h z4 hz4
    exact hret _ _ _ h.1 h.2 (zo_172 (p := 29) (zby_w zwX9_isAboard_0 29 rfl))
  refine zr_if_eq C 28 (zo_153 (p := 9) (k := 19) (a := 0) (b := 19) (zby_w zwX9_isAboard_0 9 rfl) (zby_w zwX9_isAboard_0 10 rfl) (zby_w zwX9_isAboard_0 11 rfl) (by decide)) (by decide) (fun hc3 => ?_) (fun hc3 => ?_)
  · skip
    refine zr_iconst C (0 : Int32) d_X9_isAboard_28 (by decide) ?_
    exact hJ5 _ (by rw [if_pos hc3])
  · skip
    refine zr_aload_n C (zo_42 (p := 12) (zby_w zwX9_isAboard_0 12 rfl)) rfl ?_
    refine zr_geti C fw_X9_272 (sh_69) rfl (zo_180 (p := 13) (k := 272) (a := 1) (b := 16) (zby_w zwX9_isAboard_0 13 rfl) (zby_w zwX9_isAboard_0 14 rfl) (zby_w zwX9_isAboard_0 15 rfl) (by decide)) ?_
    refine zr_iload_n C (zo_27 (p := 16) (zby_w zwX9_isAboard_0 16 rfl)) rfl ?_
    refine zr_ishr C (zo_122 (p := 17) (zby_w zwX9_isAboard_0 17 rfl)) ?_
    refine zr_iconst C (1 : Int32) (zo_4 (p := 18) (zby_w zwX9_isAboard_0 18 rfl)) (by decide) ?_
    refine zr_iand C (zo_126 (p := 19) (zby_w zwX9_isAboard_0 19 rfl)) ?_
    refine zr_iconst C (1 : Int32) (zo_4 (p := 20) (zby_w zwX9_isAboard_0 20 rfl)) (by decide) ?_
    refine zr_icmp_ne C 28 (zo_160 (p := 21) (k := 7) (a := 0) (b := 7) (zby_w zwX9_isAboard_0 21 rfl) (zby_w zwX9_isAboard_0 22 rfl) (zby_w zwX9_isAboard_0 23 rfl) (by decide)) (by decide) (fun hc7 => ?_) (fun hc7 => ?_)
    · skip
      refine zr_iconst C (0 : Int32) d_X9_isAboard_28 (by decide) ?_
      exact hJ5 _ (by rw [if_neg hc3, if_neg hc7])
    · skip
      refine zr_iconst C (1 : Int32) (zo_4 (p := 24) (zby_w zwX9_isAboard_0 24 rfl)) (by decide) ?_
      refine zr_goto C 29 (zo_167 (p := 25) (k := 4) (a := 0) (b := 4) (zby_w zwX9_isAboard_0 25 rfl) (zby_w zwX9_isAboard_0 26 rfl) (zby_w zwX9_isAboard_0 27 rfl) (by decide)) (by decide) ?_
      exact hJ5 _ (by rw [if_neg hc3, if_pos hc7])
set_option maxRecDepth 20000 in
theorem c_X9_isAboard (l : Launch) (g : zG) (p1 : Int32) (σ : zST) (Post : Int32 → Prop) (h : wp_X9_isAboard p1 σ Post) : Met l yX9_isAboard (Cond.code yX9_isAboard cX9_isAboard 2 (some .boolean) :: zGW) (zRm 1 25) (va_Pc [.ref (g.2.1 69), .int p1] (zPP g σ)) (va_Qi (fun r u => Post r ∧ u = σ) (zBB g) (zA g)) 0 0 (zA g) :=
  zMet (by decide) (Nat.le_of_ble_eq_true rfl) (fun p e s m below meth c hr C => g_X9_isAboard C (fun v pc lv hz hp hd => zr_zret C hr hz ⟨hp, rfl⟩ hd) h)
def wp_X9_aboard (p1 : Int32) (p2 : Int32) (σ : zST) (Post : Int32 → zST → Prop) : Prop := wp_X9_in (p1.toInt64) (0 : Int64) (7 : Int64) σ (fun r1 => (if r1 = (0) then Post (-1 : Int32) σ else wp_X9_in (p2.toInt64) (0 : Int64) (9 : Int64) σ (fun r4 => (if r4 = (0) then Post (-2 : Int32) σ else vp_in p1 8 ∧ ∀ σ8 : zST, σ8 = (wI σ 77 p1.toNatClampNeg p2) → ∀ σ9 : zST, σ9 = (wI σ8 69 21 ((σ8.1 69 21) ||| ((1 : Int32) <<< (p1 &&& 31)))) → wp_X9_ones (σ9.1 69 21) σ9 (fun r10 => Post r10 σ9)))))
set_option maxRecDepth 100000 in
set_option maxHeartbeats 4000000 in
theorem g_X9_aboard {p : Program} {l : Launch} {e : Env} {R : Room} {s : State} {m : MethodId} {args : Array Value} {below : List Frame} {meth : Method} {c : Code} {Q : State → Prop} {g : zG} {n1 n2 : Nat} (C : zCX p R s m args meth c g n1 n2 cX9_aboard 3 RX9 1 25) {p1 : Int32} {p2 : Int32} {σ : zST} {Post : Int32 → zST → Prop} (hret : ∀ (v : Int32) (σ : zST) (pc : Nat) (lv : List (Nat × Value)), Post v σ → decode cX9_aboard pc = .ok (.ireturn, 1) → zGG p l e R s m args below meth c Q g n1 n2 3 pc lv [.int v] σ) (h : wp_X9_aboard p1 p2 σ Post) : zGG p l e R s m args below meth c Q g n1 n2 3 0 [(0, .ref (g.2.1 69)), (1, .int p1), (2, .int p2)] [] σ := by
  unfold wp_X9_aboard at h
  refine zr_iload_n C (zo_27 (p := 0) (zby_w zwX9_aboard_0 0 rfl)) rfl ?_
  refine zr_i2l C (zo_133 (p := 1) (zby_w zwX9_aboard_0 1 rfl)) ?_
  refine zr_lconst C (0 : Int64) (zo_9 (p := 2) (zby_w zwX9_aboard_0 2 rfl)) (by decide) ?_
  refine zr_ldc2 C (v := (7 : Int64)) cl_X9_118 (zo_20 (p := 3) (k := 118) (a := 0) (b := 118) (zby_w zwX9_aboard_0 3 rfl) (zby_w zwX9_aboard_0 4 rfl) (zby_w zwX9_aboard_0 5 rfl) (by decide)) ?_
  refine zr_cip (zr_runS (As := [.long (p1.toInt64), .long (0 : Int64), .long (7 : Int64)]) (rest := []) C sw_X9_89 (c_X9_in l g (p1.toInt64) (0 : Int64) (7 : Int64) σ _ h) (by decide) (by decide) rfl rfl (Nat.le_of_ble_eq_true rfl) (zo_184 (p := 6) (k := 89) (a := 0) (b := 89) (zby_w zwX9_aboard_0 6 rfl) (zby_w zwX9_aboard_0 7 rfl) (zby_w zwX9_aboard_0 8 rfl) (by decide))) (fun r1 h => ?_)
  refine zr_if_ne C 14 (zo_154 (p := 9) (k := 5) (a := 0) (b := 5) (zby_w zwX9_aboard_0 9 rfl) (zby_w zwX9_aboard_0 10 rfl) (zby_w zwX9_aboard_0 11 rfl) (by decide)) (by decide) (fun hc3 => ?_) (fun hc3 => ?_)
  · rw [if_neg hc3] at h
    refine zr_iload_n C (zo_28 (p := 14) (zby_w zwX9_aboard_0 14 rfl)) rfl ?_
    refine zr_i2l C (zo_133 (p := 15) (zby_w zwX9_aboard_0 15 rfl)) ?_
    refine zr_lconst C (0 : Int64) (zo_9 (p := 16) (zby_w zwX9_aboard_0 16 rfl)) (by decide) ?_
    refine zr_ldc2 C (v := (9 : Int64)) cl_X9_106 (zo_20 (p := 17) (k := 106) (a := 0) (b := 106) (zby_w zwX9_aboard_0 17 rfl) (zby_w zwX9_aboard_0 18 rfl) (zby_w zwX9_aboard_0 19 rfl) (by decide)) ?_
    refine zr_cip (zr_runS (As := [.long (p2.toInt64), .long (0 : Int64), .long (9 : Int64)]) (rest := []) C sw_X9_89 (c_X9_in l g (p2.toInt64) (0 : Int64) (9 : Int64) σ _ h) (by decide) (by decide) rfl rfl (Nat.le_of_ble_eq_true rfl) (zo_184 (p := 20) (k := 89) (a := 0) (b := 89) (zby_w zwX9_aboard_0 20 rfl) (zby_w zwX9_aboard_0 21 rfl) (zby_w zwX9_aboard_0 22 rfl) (by decide))) (fun r4 h => ?_)
    refine zr_if_ne C 29 (zo_154 (p := 23) (k := 6) (a := 0) (b := 6) (zby_w zwX9_aboard_0 23 rfl) (zby_w zwX9_aboard_0 24 rfl) (zby_w zwX9_aboard_0 25 rfl) (by decide)) (by decide) (fun hc6 => ?_) (fun hc6 => ?_)
    · rw [if_neg hc6] at h
      refine zr_aload_n C (zo_42 (p := 29) (zby_w zwX9_aboard_0 29 rfl)) rfl ?_
      refine zr_getr (u := 77) C fw_X9_31 (sh_69) rfl (zo_180 (p := 30) (k := 31) (a := 0) (b := 31) (zby_w zwX9_aboard_0 30 rfl) (zby_w zwX9_aboard_0 31 rfl) (zby_w zwX9_aboard_0 32 rfl) (by decide)) ?_
      refine zr_iload_n C (zo_27 (p := 33) (zby_w zwX9_aboard_1 1 rfl)) rfl ?_
      refine zr_iload_n C (zo_28 (p := 34) (zby_w zwX9_aboard_1 2 rfl)) rfl ?_
      obtain ⟨ho7, h⟩ := h
      refine zr_iast C (sh_77) ho7 (zo_79 (p := 35) (zby_w zwX9_aboard_1 3 rfl)) ?_
      refine zr_aload_n C (zo_42 (p := 36) (zby_w zwX9_aboard_1 4 rfl)) rfl ?_
      refine zr_dup C (zo_89 (p := 37) (zby_w zwX9_aboard_1 5 rfl)) rfl ?_
      refine zr_tops (fun σ8 hσ8 => ?_)
      replace h := h σ8 hσ8
      refine zr_geti C fw_X9_272 (sh_69) rfl (zo_180 (p := 38) (k := 272) (a := 1) (b := 16) (zby_w zwX9_aboard_1 6 rfl) (zby_w zwX9_aboard_1 7 rfl) (zby_w zwX9_aboard_1 8 rfl) (by decide)) ?_
      refine zr_iconst C (1 : Int32) (zo_4 (p := 41) (zby_w zwX9_aboard_1 9 rfl)) (by decide) ?_
      refine zr_iload_n C (zo_27 (p := 42) (zby_w zwX9_aboard_1 10 rfl)) rfl ?_
      refine zr_ishl C (zo_120 (p := 43) (zby_w zwX9_aboard_1 11 rfl)) ?_
      refine zr_ior C (zo_128 (p := 44) (zby_w zwX9_aboard_1 12 rfl)) ?_
      refine zr_puti C fw_X9_272 pw_X9_21 (sh_69) rfl rfl rfl (zo_181 (p := 45) (k := 272) (a := 1) (b := 16) (zby_w zwX9_aboard_1 13 rfl) (zby_w zwX9_aboard_1 14 rfl) (zby_w zwX9_aboard_1 15 rfl) (by decide)) ?_
      refine zr_aload_n C (zo_42 (p := 48) (zby_w zwX9_aboard_1 16 rfl)) rfl ?_
      refine zr_tops (fun σ9 hσ9 => ?_)
      replace h := h σ9 hσ9
      refine zr_geti C fw_X9_272 (sh_69) rfl (zo_180 (p := 49) (k := 272) (a := 1) (b := 16) (zby_w zwX9_aboard_1 17 rfl) (zby_w zwX9_aboard_1 18 rfl) (zby_w zwX9_aboard_1 19 rfl) (by decide)) ?_
      refine zr_cip (zr_runS (As := [.int (σ9.1 69 21)]) (rest := []) C sw_X9_108 (c_X9_ones l g (σ9.1 69 21) σ9 _ h) (by decide) (by decide) rfl rfl (Nat.le_of_ble_eq_true rfl) (zo_184 (p := 52) (k := 108) (a := 0) (b := 108) (zby_w zwX9_aboard_1 20 rfl) (zby_w zwX9_aboard_1 21 rfl) (zby_w zwX9_aboard_1 22 rfl) (by decide))) (fun r10 h => ?_)
      exact hret _ _ _ _ h (zo_172 (p := 55) (zby_w zwX9_aboard_1 23 rfl))
    · rw [if_pos hc6] at h
      refine zr_bipush C (-2 : Int32) (zo_16 (p := 26) (k := (-2)) (a := 254) (zby_w zwX9_aboard_0 26 rfl) (zby_w zwX9_aboard_0 27 rfl) (by decide)) (by decide) ?_
      exact hret _ _ _ _ h (zo_172 (p := 28) (zby_w zwX9_aboard_0 28 rfl))
  · rw [if_pos hc3] at h
    refine zr_iconst C (-1 : Int32) (zo_2 (p := 12) (zby_w zwX9_aboard_0 12 rfl)) (by decide) ?_
    exact hret _ _ _ _ h (zo_172 (p := 13) (zby_w zwX9_aboard_0 13 rfl))
set_option maxRecDepth 20000 in
theorem c_X9_aboard (l : Launch) (g : zG) (p1 : Int32) (p2 : Int32) (σ : zST) (Post : Int32 → zST → Prop) (h : wp_X9_aboard p1 p2 σ Post) : Met l yX9_aboard (Cond.code yX9_aboard cX9_aboard 3 (some .int) :: zGW) (zRm 1 25) (va_Pc [.ref (g.2.1 69), .int p1, .int p2] (zPP g σ)) (va_Qi Post (zBB g) (zA g)) 0 0 (zA g) :=
  zMet (by decide) (Nat.le_of_ble_eq_true rfl) (fun p e s m below meth c hr C => g_X9_aboard C (fun v σ pc lv hp hd => zr_iret C hr hp hd) h)
def wp_X9_ashore (p1 : Int32) (σ : zST) (Post : Int32 → zST → Prop) : Prop := wp_X9_isAboard p1 σ (fun r1 => (if r1 = (0) then Post (-1 : Int32) σ else ∀ σ4 : zST, σ4 = (wI σ 69 21 ((σ.1 69 21) &&& (((1 : Int32) <<< (p1 &&& 31)) ^^^ (-1 : Int32)))) → wp_X9_ones (σ4.1 69 21) σ4 (fun r5 => Post r5 σ4)))
set_option maxRecDepth 100000 in
set_option maxHeartbeats 4000000 in
theorem g_X9_ashore {p : Program} {l : Launch} {e : Env} {R : Room} {s : State} {m : MethodId} {args : Array Value} {below : List Frame} {meth : Method} {c : Code} {Q : State → Prop} {g : zG} {n1 n2 : Nat} (C : zCX p R s m args meth c g n1 n2 cX9_ashore 2 RX9 2 46) {p1 : Int32} {σ : zST} {Post : Int32 → zST → Prop} (hret : ∀ (v : Int32) (σ : zST) (pc : Nat) (lv : List (Nat × Value)), Post v σ → decode cX9_ashore pc = .ok (.ireturn, 1) → zGG p l e R s m args below meth c Q g n1 n2 2 pc lv [.int v] σ) (h : wp_X9_ashore p1 σ Post) : zGG p l e R s m args below meth c Q g n1 n2 2 0 [(0, .ref (g.2.1 69)), (1, .int p1)] [] σ := by
  unfold wp_X9_ashore at h
  refine zr_aload_n C (zo_42 (p := 0) (zby_w zwX9_ashore_0 0 rfl)) rfl ?_
  refine zr_iload_n C (zo_27 (p := 1) (zby_w zwX9_ashore_0 1 rfl)) rfl ?_
  refine zr_cip (zr_runV (As := [.int p1]) (rest := []) C vw_X9_275 (c_X9_isAboard l g p1 σ _ h) (sh_69) rfl (by decide) (by decide) rfl rfl (Nat.le_of_ble_eq_true rfl) (zo_182 (p := 2) (k := 275) (a := 1) (b := 19) (zby_w zwX9_ashore_0 2 rfl) (zby_w zwX9_ashore_0 3 rfl) (zby_w zwX9_ashore_0 4 rfl) (by decide))) (fun r1 h => ?_)
  refine zr_if_ne C 10 (zo_154 (p := 5) (k := 5) (a := 0) (b := 5) (zby_w zwX9_ashore_0 5 rfl) (zby_w zwX9_ashore_0 6 rfl) (zby_w zwX9_ashore_0 7 rfl) (by decide)) (by decide) (fun hc3 => ?_) (fun hc3 => ?_)
  · rw [if_neg hc3] at h
    refine zr_aload_n C (zo_42 (p := 10) (zby_w zwX9_ashore_0 10 rfl)) rfl ?_
    refine zr_dup C (zo_89 (p := 11) (zby_w zwX9_ashore_0 11 rfl)) rfl ?_
    refine zr_geti C fw_X9_272 (sh_69) rfl (zo_180 (p := 12) (k := 272) (a := 1) (b := 16) (zby_w zwX9_ashore_0 12 rfl) (zby_w zwX9_ashore_0 13 rfl) (zby_w zwX9_ashore_0 14 rfl) (by decide)) ?_
    refine zr_iconst C (1 : Int32) (zo_4 (p := 15) (zby_w zwX9_ashore_0 15 rfl)) (by decide) ?_
    refine zr_iload_n C (zo_27 (p := 16) (zby_w zwX9_ashore_0 16 rfl)) rfl ?_
    refine zr_ishl C (zo_120 (p := 17) (zby_w zwX9_ashore_0 17 rfl)) ?_
    refine zr_iconst C (-1 : Int32) (zo_2 (p := 18) (zby_w zwX9_ashore_0 18 rfl)) (by decide) ?_
    refine zr_ixor C (zo_130 (p := 19) (zby_w zwX9_ashore_0 19 rfl)) ?_
    refine zr_iand C (zo_126 (p := 20) (zby_w zwX9_ashore_0 20 rfl)) ?_
    refine zr_puti C fw_X9_272 pw_X9_21 (sh_69) rfl rfl rfl (zo_181 (p := 21) (k := 272) (a := 1) (b := 16) (zby_w zwX9_ashore_0 21 rfl) (zby_w zwX9_ashore_0 22 rfl) (zby_w zwX9_ashore_0 23 rfl) (by decide)) ?_
    refine zr_aload_n C (zo_42 (p := 24) (zby_w zwX9_ashore_0 24 rfl)) rfl ?_
    refine zr_tops (fun σ4 hσ4 => ?_)
    replace h := h σ4 hσ4
    refine zr_geti C fw_X9_272 (sh_69) rfl (zo_180 (p := 25) (k := 272) (a := 1) (b := 16) (zby_w zwX9_ashore_0 25 rfl) (zby_w zwX9_ashore_0 26 rfl) (zby_w zwX9_ashore_0 27 rfl) (by decide)) ?_
    refine zr_cip (zr_runS (As := [.int (σ4.1 69 21)]) (rest := []) C sw_X9_108 (c_X9_ones l g (σ4.1 69 21) σ4 _ h) (by decide) (by decide) rfl rfl (Nat.le_of_ble_eq_true rfl) (zo_184 (p := 28) (k := 108) (a := 0) (b := 108) (zby_w zwX9_ashore_0 28 rfl) (zby_w zwX9_ashore_0 29 rfl) (zby_w zwX9_ashore_0 30 rfl) (by decide))) (fun r5 h => ?_)
    exact hret _ _ _ _ h (zo_172 (p := 31) (zby_w zwX9_ashore_0 31 rfl))
  · rw [if_pos hc3] at h
    refine zr_iconst C (-1 : Int32) (zo_2 (p := 8) (zby_w zwX9_ashore_0 8 rfl)) (by decide) ?_
    exact hret _ _ _ _ h (zo_172 (p := 9) (zby_w zwX9_ashore_0 9 rfl))
set_option maxRecDepth 20000 in
theorem c_X9_ashore (l : Launch) (g : zG) (p1 : Int32) (σ : zST) (Post : Int32 → zST → Prop) (h : wp_X9_ashore p1 σ Post) : Met l yX9_ashore (Cond.code yX9_ashore cX9_ashore 2 (some .int) :: zGW) (zRm 2 46) (va_Pc [.ref (g.2.1 69), .int p1] (zPP g σ)) (va_Qi Post (zBB g) (zA g)) 0 0 (zA g) :=
  zMet (by decide) (Nat.le_of_ble_eq_true rfl) (fun p e s m below meth c hr C => g_X9_ashore C (fun v σ pc lv hp hd => zr_iret C hr hp hd) h)
def wp_X9_lowest_J31 (v0 : Int64) (v2 : Int64) (v4 : Int32) (v5 : Int64) (σ : zST) (Post : Int64 → Prop) : Prop := (if v4 = (0) then ¬ v5 = 0 ∧ True else ¬ v5 = 0 ∧ True) ∧ ∀ z3 : Int64, z3 = (if v4 = (0) then (v0 / v5) else (v2 / v5)) → Post z3

set_option maxRecDepth 100000 in
set_option maxHeartbeats 4000000 in
theorem g_X9_lowest_J31 {p : Program} {l : Launch} {e : Env} {R : Room} {s : State} {m : MethodId} {args : Array Value} {below : List Frame} {meth : Method} {c : Code} {Q : State → Prop} {g : zG} {n1 n2 : Nat} (C : zCX p R s m args meth c g n1 n2 cX9_lowest 11 RX9 0 0) {v0 : Int64} {v2 : Int64} {v4 : Int32} {v5 : Int64} {σ : zST}  {Post : Int64 → Prop} (hret : ∀ (v : Int64) (pc : Nat) (lv : List (Nat × Value)), Post v → decode cX9_lowest pc = .ok (.lreturn, 1) → zGG p l e R s m args below meth c Q g n1 n2 11 pc lv [.long v] σ) (h : wp_X9_lowest_J31 v0 v2 v4 v5 σ Post) : zGG p l e R s m args below meth c Q g n1 n2 11 31 [(0, .long v0), (2, .long v2), (4, .int v4), (5, .long v5)] [] σ := by
  unfold wp_X9_lowest_J31 at h
  refine zr_iload C (zo_21 (p := 31) (k := 4) (a := 4) (zby_w zwX9_lowest_0 31 rfl) (zby_w zwX9_lowest_0 32 rfl) (by decide)) rfl ?_
  obtain ⟨ho5, h⟩ := h
  have hJ4 : ∀ z3 : Int64, z3 = (if v4 = (0) then (v0 / v5) else (v2 / v5)) → zGG p l e R s m args below meth c Q g n1 n2 11 47 [(0, .long v0), (2, .long v2), (4, .int v4), (5, .long v5)] [.long z3] σ := by
    intro z3 hz3
    replace h := h z3 hz3
    exact hret _ _ _ h (zo_173 (p := 47) (zby_w zwX9_lowest_1 15 rfl))
  refine zr_if_ne C 43 (zo_154 (p := 33) (k := 10) (a := 0) (b := 10) (zby_w zwX9_lowest_1 1 rfl) (zby_w zwX9_lowest_1 2 rfl) (zby_w zwX9_lowest_1 3 rfl) (by decide)) (by decide) (fun hc2 => ?_) (fun hc2 => ?_)
  · skip
    rw [if_neg hc2] at ho5
    refine zr_lload_n C (zo_32 (p := 43) (zby_w zwX9_lowest_1 11 rfl)) rfl ?_
    refine zr_lload C (zo_22 (p := 44) (k := 5) (a := 5) (zby_w zwX9_lowest_1 12 rfl) (zby_w zwX9_lowest_1 13 rfl) (by decide)) rfl ?_
    obtain ⟨ho6, ho5⟩ := ho5
    refine zr_ldiv C (zo_109 (p := 46) (zby_w zwX9_lowest_1 14 rfl)) ho6 ?_
    exact hJ4 _ (by rw [if_neg hc2])
  · skip
    rw [if_pos hc2] at ho5
    refine zr_lload_n C (zo_30 (p := 36) (zby_w zwX9_lowest_1 4 rfl)) rfl ?_
    refine zr_lload C (zo_22 (p := 37) (k := 5) (a := 5) (zby_w zwX9_lowest_1 5 rfl) (zby_w zwX9_lowest_1 6 rfl) (by decide)) rfl ?_
    obtain ⟨ho7, ho5⟩ := ho5
    refine zr_ldiv C (zo_109 (p := 39) (zby_w zwX9_lowest_1 7 rfl)) ho7 ?_
    refine zr_goto C 47 (zo_167 (p := 40) (k := 7) (a := 0) (b := 7) (zby_w zwX9_lowest_1 8 rfl) (zby_w zwX9_lowest_1 9 rfl) (zby_w zwX9_lowest_1 10 rfl) (by decide)) (by decide) ?_
    exact hJ4 _ (by rw [if_pos hc2])

def wp_X9_lowest_L6 (v0 : Int64) (v2 : Int64) (v4 : Int32) (σ : zST) (Post : Int64 → Prop) : Nat → Int64 → Int64 → Prop
  | 0, _, _ => False
  | N + 1, v5, v7 => (if (lg_cmp v7 (0 : Int64)) = (0) then wp_X9_lowest_J31 v0 v2 v4 v5 σ Post else ¬ v7 = 0 ∧ ∀ x9 : Int64, x9 = (v5 - v5 / v7 * v7) → wp_X9_lowest_L6 v0 v2 v4 σ Post N v7 x9)

set_option maxRecDepth 100000 in
set_option maxHeartbeats 4000000 in
theorem g_X9_lowest_L6 {p : Program} {l : Launch} {e : Env} {R : Room} {s : State} {m : MethodId} {args : Array Value} {below : List Frame} {meth : Method} {c : Code} {Q : State → Prop} {g : zG} {n1 n2 : Nat} (C : zCX p R s m args meth c g n1 n2 cX9_lowest 11 RX9 0 0) {v0 : Int64} {v2 : Int64} {v4 : Int32} {σ : zST}  {Post : Int64 → Prop} (hret : ∀ (v : Int64) (pc : Nat) (lv : List (Nat × Value)), Post v → decode cX9_lowest pc = .ok (.lreturn, 1) → zGG p l e R s m args below meth c Q g n1 n2 11 pc lv [.long v] σ) : ∀ (N : Nat) (v5 : Int64) (v7 : Int64) , wp_X9_lowest_L6 v0 v2 v4 σ Post N v5 v7 → zGG p l e R s m args below meth c Q g n1 n2 11 6 [(0, .long v0), (2, .long v2), (4, .int v4), (5, .long v5), (7, .long v7)] [] σ := by
  intro N
  induction N with
  | zero =>
    intro v5 v7 h
    exact h.elim
  | succ N ih =>
    intro v5 v7 h
    rw [wp_X9_lowest_L6] at h
    refine zr_lload C (zo_22 (p := 6) (k := 7) (a := 7) (zby_w zwX9_lowest_0 6 rfl) (zby_w zwX9_lowest_0 7 rfl) (by decide)) rfl ?_
    refine zr_lconst C (0 : Int64) (zo_9 (p := 8) (zby_w zwX9_lowest_0 8 rfl)) (by decide) ?_
    refine zr_lcmp C (zo_148 (p := 9) (zby_w zwX9_lowest_0 9 rfl)) ?_
    refine zr_if_eq C 31 (zo_153 (p := 10) (k := 21) (a := 0) (b := 21) (zby_w zwX9_lowest_0 10 rfl) (zby_w zwX9_lowest_0 11 rfl) (zby_w zwX9_lowest_0 12 rfl) (by decide)) (by decide) (fun hc1 => ?_) (fun hc1 => ?_)
    · rw [if_pos hc1] at h
      exact zr_pick [0, 1, 2, 3] rfl (g_X9_lowest_J31 C hret h)
    · rw [if_neg hc1] at h
      refine zr_lload C (zo_22 (p := 13) (k := 5) (a := 5) (zby_w zwX9_lowest_0 13 rfl) (zby_w zwX9_lowest_0 14 rfl) (by decide)) rfl ?_
      refine zr_lload C (zo_22 (p := 15) (k := 7) (a := 7) (zby_w zwX9_lowest_0 15 rfl) (zby_w zwX9_lowest_0 16 rfl) (by decide)) rfl ?_
      obtain ⟨ho8, h⟩ := h
      refine zr_lrem C (zo_113 (p := 17) (zby_w zwX9_lowest_0 17 rfl)) ho8 ?_
      refine zr_topl (fun x9 hx9 => ?_)
      replace h := h x9 hx9
      refine zr_lstore C [(9, .long x9), (0, .long v0), (2, .long v2), (4, .int v4), (5, .long v5), (7, .long v7)] (zo_55 (p := 18) (k := 9) (a := 9) (zby_w zwX9_lowest_0 18 rfl) (zby_w zwX9_lowest_0 19 rfl) (by decide)) (by decide) rfl ?_
      refine zr_lload C (zo_22 (p := 20) (k := 7) (a := 7) (zby_w zwX9_lowest_0 20 rfl) (zby_w zwX9_lowest_0 21 rfl) (by decide)) rfl ?_
      refine zr_lstore C [(5, .long v7), (9, .long x9), (0, .long v0), (2, .long v2), (4, .int v4), (7, .long v7)] (zo_55 (p := 22) (k := 5) (a := 5) (zby_w zwX9_lowest_0 22 rfl) (zby_w zwX9_lowest_0 23 rfl) (by decide)) (by decide) rfl ?_
      refine zr_lload C (zo_22 (p := 24) (k := 9) (a := 9) (zby_w zwX9_lowest_0 24 rfl) (zby_w zwX9_lowest_0 25 rfl) (by decide)) rfl ?_
      refine zr_lstore C [(7, .long x9), (5, .long v7), (9, .long x9), (0, .long v0), (2, .long v2), (4, .int v4)] (zo_55 (p := 26) (k := 7) (a := 7) (zby_w zwX9_lowest_0 26 rfl) (zby_w zwX9_lowest_0 27 rfl) (by decide)) (by decide) rfl ?_
      refine zr_goto C 6 (zo_167 (p := 28) (k := (-22)) (a := 255) (b := 234) (zby_w zwX9_lowest_0 28 rfl) (zby_w zwX9_lowest_0 29 rfl) (zby_w zwX9_lowest_0 30 rfl) (by decide)) (by decide) ?_
      exact zr_pick [3, 4, 5, 1, 0] rfl (ih v7 x9 h)

def wp_X9_lowest (p0 : Int64) (p2 : Int64) (p4 : Int32) (σ : zST) (Post : Int64 → Prop) : Prop := ∃ M10 : Nat, wp_X9_lowest_L6 p0 p2 p4 σ Post M10 p2 p0
set_option maxRecDepth 100000 in
set_option maxHeartbeats 4000000 in
theorem g_X9_lowest {p : Program} {l : Launch} {e : Env} {R : Room} {s : State} {m : MethodId} {args : Array Value} {below : List Frame} {meth : Method} {c : Code} {Q : State → Prop} {g : zG} {n1 n2 : Nat} (C : zCX p R s m args meth c g n1 n2 cX9_lowest 11 RX9 0 0) {p0 : Int64} {p2 : Int64} {p4 : Int32} {σ : zST} {Post : Int64 → Prop} (hret : ∀ (v : Int64) (pc : Nat) (lv : List (Nat × Value)), Post v → decode cX9_lowest pc = .ok (.lreturn, 1) → zGG p l e R s m args below meth c Q g n1 n2 11 pc lv [.long v] σ) (h : wp_X9_lowest p0 p2 p4 σ Post) : zGG p l e R s m args below meth c Q g n1 n2 11 0 [(0, .long p0), (2, .long p2), (4, .int p4)] [] σ := by
  unfold wp_X9_lowest at h
  refine zr_lload_n C (zo_32 (p := 0) (zby_w zwX9_lowest_0 0 rfl)) rfl ?_
  refine zr_lstore C [(5, .long p2), (0, .long p0), (2, .long p2), (4, .int p4)] (zo_55 (p := 1) (k := 5) (a := 5) (zby_w zwX9_lowest_0 1 rfl) (zby_w zwX9_lowest_0 2 rfl) (by decide)) (by decide) rfl ?_
  refine zr_lload_n C (zo_30 (p := 3) (zby_w zwX9_lowest_0 3 rfl)) rfl ?_
  refine zr_lstore C [(7, .long p0), (5, .long p2), (0, .long p0), (2, .long p2), (4, .int p4)] (zo_55 (p := 4) (k := 7) (a := 7) (zby_w zwX9_lowest_0 4 rfl) (zby_w zwX9_lowest_0 5 rfl) (by decide)) (by decide) rfl ?_
  obtain ⟨M10, h⟩ := h
  exact zr_pick [2, 3, 4, 1, 0] rfl (g_X9_lowest_L6 C hret M10 p2 p0 h)
set_option maxRecDepth 20000 in
theorem c_X9_lowest (l : Launch) (g : zG) (p0 : Int64) (p2 : Int64) (p4 : Int32) (σ : zST) (Post : Int64 → Prop) (h : wp_X9_lowest p0 p2 p4 σ Post) : Met l yX9_lowest (Cond.code yX9_lowest cX9_lowest 11 (some .long) :: zGW) (zRm 0 0) (va_Pc [.long p0, .long p2, .int p4] (zPP g σ)) (va_Ql (fun r u => Post r ∧ u = σ) (zBB g) (zA g)) 0 0 (zA g) :=
  zMet (by decide) (Nat.le_of_ble_eq_true rfl) (fun p e s m below meth c hr C => g_X9_lowest C (fun v pc lv hp hd => zr_lret C hr ⟨hp, rfl⟩ hd) h)
def wp_X9_lot_L52 (v1 : Int32) (v2 : Int32) (v3 : Int32) (σ : zST) (K135 : Int32 → Int32 → Prop) : Nat → Int32 → Int32 → Int32 → Prop
  | 0, _, _, _ => False
  | N + 1, v4, v5, v6 => (if (8 : Int32) ≤ v6 then K135 v4 v5 else wp_X9_isAboard v6 σ (fun r13 => (if r13 = (0) then True else vp_in v6 8 ∧ vp_in v2 8 ∧ True) ∧ ∀ z16 : Int32, z16 = (if r13 = (0) then (0 : Int32) else (if (σ.1 77 v2.toNatClampNeg) ≤ (σ.1 77 v6.toNatClampNeg) then (0 : Int32) else (1 : Int32))) → ∀ x22 : Int32, x22 = (v4 + z16) → wp_X9_isAboard v6 σ (fun r23 => (if r23 = (0) then True else vp_in v6 8 ∧ vp_in v2 8 ∧ True) ∧ ∀ z26 : Int32, z26 = (if r23 = (0) then (0 : Int32) else (if (σ.1 77 v6.toNatClampNeg) = (σ.1 77 v2.toNatClampNeg) then (1 : Int32) else (0 : Int32))) → ∀ x32 : Int32, x32 = (v5 + z26) → wp_X9_lot_L52 v1 v2 v3 σ K135 N x22 x32 (v6 + 1))))

set_option maxRecDepth 100000 in
set_option maxHeartbeats 4000000 in
theorem g_X9_lot_L52 {p : Program} {l : Launch} {e : Env} {R : Room} {s : State} {m : MethodId} {args : Array Value} {below : List Frame} {meth : Method} {c : Code} {Q : State → Prop} {g : zG} {n1 n2 : Nat} (C : zCX p R s m args meth c g n1 n2 cX9_lot 7 RX9 2 46) {v1 : Int32} {v2 : Int32} {v3 : Int32} {σ : zST} {K135 : Int32 → Int32 → Prop} (hK135 : ∀ (w4 : Int32) (w5 : Int32), K135 w4 w5 → zGG p l e R s m args below meth c Q g n1 n2 7 135 [(1, .int v1), (3, .int v3), (4, .int w4), (5, .int w5)] [] σ) : ∀ (N : Nat) (v4 : Int32) (v5 : Int32) (v6 : Int32) , wp_X9_lot_L52 v1 v2 v3 σ K135 N v4 v5 v6 → zGG p l e R s m args below meth c Q g n1 n2 7 52 [(0, .ref (g.2.1 69)), (1, .int v1), (2, .int v2), (3, .int v3), (4, .int v4), (5, .int v5), (6, .int v6)] [] σ := by
  intro N
  induction N with
  | zero =>
    intro v4 v5 v6 h
    exact h.elim
  | succ N ih =>
    intro v4 v5 v6 h
    rw [wp_X9_lot_L52] at h
    refine zr_iload C (zo_21 (p := 52) (k := 6) (a := 6) (zby_w zwX9_lot_1 20 rfl) (zby_w zwX9_lot_1 21 rfl) (by decide)) rfl ?_
    refine zr_bipush C (8 : Int32) (zo_16 (p := 54) (k := 8) (a := 8) (zby_w zwX9_lot_1 22 rfl) (zby_w zwX9_lot_1 23 rfl) (by decide)) (by decide) ?_
    refine zr_icmp_ge C 135 (zo_162 (p := 56) (k := 79) (a := 0) (b := 79) (zby_w zwX9_lot_1 24 rfl) (zby_w zwX9_lot_1 25 rfl) (zby_w zwX9_lot_1 26 rfl) (by decide)) (by decide) (fun hc12 => ?_) (fun hc12 => ?_)
    · rw [if_pos hc12] at h
      exact zr_pick [1, 3, 4, 5] rfl (hK135 v4 v5 h)
    · rw [if_neg hc12] at h
      refine zr_iload C (zo_21 (p := 59) (k := 4) (a := 4) (zby_w zwX9_lot_1 27 rfl) (zby_w zwX9_lot_1 28 rfl) (by decide)) rfl ?_
      refine zr_aload_n C (zo_42 (p := 61) (zby_w zwX9_lot_1 29 rfl)) rfl ?_
      refine zr_iload C (zo_21 (p := 62) (k := 6) (a := 6) (zby_w zwX9_lot_1 30 rfl) (zby_w zwX9_lot_1 31 rfl) (by decide)) rfl ?_
      refine zr_cip (zr_runV (As := [.int v6]) (rest := [.int v4]) C vw_X9_275 (c_X9_isAboard l g v6 σ _ h) (sh_69) rfl (by decide) (by decide) rfl rfl (Nat.le_of_ble_eq_true rfl) (zo_182 (p := 64) (k := 275) (a := 1) (b := 19) (zby_w zwX9_lot_2 0 rfl) (zby_w zwX9_lot_2 1 rfl) (zby_w zwX9_lot_2 2 rfl) (by decide))) (fun r13 h => ?_)
      obtain ⟨ho18, h⟩ := h
      have hJ17 : ∀ z16 : Int32, z16 = (if r13 = (0) then (0 : Int32) else (if (σ.1 77 v2.toNatClampNeg) ≤ (σ.1 77 v6.toNatClampNeg) then (0 : Int32) else (1 : Int32))) → zGG p l e R s m args below meth c Q g n1 n2 7 91 [(0, .ref (g.2.1 69)), (1, .int v1), (2, .int v2), (3, .int v3), (4, .int v4), (5, .int v5), (6, .int v6)] [.int z16, .int v4] σ := by
        intro z16 hz16
        replace h := h z16 hz16
        refine zr_iadd C (zo_96 (p := 91) (zby_w zwX9_lot_2 27 rfl)) ?_
        refine zr_topi (fun x22 hx22 => ?_)
        replace h := h x22 hx22
        refine zr_istore C [(4, .int x22), (0, .ref (g.2.1 69)), (1, .int v1), (2, .int v2), (3, .int v3), (5, .int v5), (6, .int v6)] (zo_54 (p := 92) (k := 4) (a := 4) (zby_w zwX9_lot_2 28 rfl) (zby_w zwX9_lot_2 29 rfl) (by decide)) (by decide) rfl ?_
        refine zr_iload C (zo_21 (p := 94) (k := 5) (a := 5) (zby_w zwX9_lot_2 30 rfl) (zby_w zwX9_lot_2 31 rfl) (by decide)) rfl ?_
        refine zr_aload_n C (zo_42 (p := 96) (zby_w zwX9_lot_3 0 rfl)) rfl ?_
        refine zr_iload C (zo_21 (p := 97) (k := 6) (a := 6) (zby_w zwX9_lot_3 1 rfl) (zby_w zwX9_lot_3 2 rfl) (by decide)) rfl ?_
        refine zr_cip (zr_runV (As := [.int v6]) (rest := [.int v5]) C vw_X9_275 (c_X9_isAboard l g v6 σ _ h) (sh_69) rfl (by decide) (by decide) rfl rfl (Nat.le_of_ble_eq_true rfl) (zo_182 (p := 99) (k := 275) (a := 1) (b := 19) (zby_w zwX9_lot_3 3 rfl) (zby_w zwX9_lot_3 4 rfl) (zby_w zwX9_lot_3 5 rfl) (by decide))) (fun r23 h => ?_)
        obtain ⟨ho28, h⟩ := h
        have hJ27 : ∀ z26 : Int32, z26 = (if r23 = (0) then (0 : Int32) else (if (σ.1 77 v6.toNatClampNeg) = (σ.1 77 v2.toNatClampNeg) then (1 : Int32) else (0 : Int32))) → zGG p l e R s m args below meth c Q g n1 n2 7 126 [(4, .int x22), (0, .ref (g.2.1 69)), (1, .int v1), (2, .int v2), (3, .int v3), (5, .int v5), (6, .int v6)] [.int z26, .int v5] σ := by
          intro z26 hz26
          replace h := h z26 hz26
          refine zr_iadd C (zo_96 (p := 126) (zby_w zwX9_lot_3 30 rfl)) ?_
          refine zr_topi (fun x32 hx32 => ?_)
          replace h := h x32 hx32
          refine zr_istore C [(5, .int x32), (4, .int x22), (0, .ref (g.2.1 69)), (1, .int v1), (2, .int v2), (3, .int v3), (6, .int v6)] (zo_54 (p := 127) (k := 5) (a := 5) (zby_w zwX9_lot_3 31 rfl) (zby_w zwX9_lot_3 32 rfl) (by decide)) (by decide) rfl ?_
          refine zr_iinc C (v6 + 1) [(6, .int (v6 + 1)), (5, .int x32), (4, .int x22), (0, .ref (g.2.1 69)), (1, .int v1), (2, .int v2), (3, .int v3)] d_X9_lot_129 rfl rfl (by decide) rfl ?_
          refine zr_goto C 52 (zo_167 (p := 132) (k := (-80)) (a := 255) (b := 176) (zby_w zwX9_lot_4 4 rfl) (zby_w zwX9_lot_4 5 rfl) (zby_w zwX9_lot_4 6 rfl) (by decide)) (by decide) ?_
          exact zr_pick [3, 4, 5, 6, 2, 1, 0] rfl (ih x22 x32 (v6 + 1) h)
        refine zr_if_eq C 125 (zo_153 (p := 102) (k := 23) (a := 0) (b := 23) (zby_w zwX9_lot_3 6 rfl) (zby_w zwX9_lot_3 7 rfl) (zby_w zwX9_lot_3 8 rfl) (by decide)) (by decide) (fun hc25 => ?_) (fun hc25 => ?_)
        · skip
          rw [if_pos hc25] at ho28
          refine zr_iconst C (0 : Int32) d_X9_lot_125 (by decide) ?_
          exact hJ27 _ (by rw [if_pos hc25])
        · skip
          rw [if_neg hc25] at ho28
          refine zr_aload_n C (zo_42 (p := 105) (zby_w zwX9_lot_3 9 rfl)) rfl ?_
          refine zr_getr (u := 77) C fw_X9_31 (sh_69) rfl (zo_180 (p := 106) (k := 31) (a := 0) (b := 31) (zby_w zwX9_lot_3 10 rfl) (zby_w zwX9_lot_3 11 rfl) (zby_w zwX9_lot_3 12 rfl) (by decide)) ?_
          refine zr_iload C (zo_21 (p := 109) (k := 6) (a := 6) (zby_w zwX9_lot_3 13 rfl) (zby_w zwX9_lot_3 14 rfl) (by decide)) rfl ?_
          obtain ⟨ho29, ho28⟩ := ho28
          refine zr_iald C (sh_77) ho29 (zo_46 (p := 111) (zby_w zwX9_lot_3 15 rfl)) ?_
          refine zr_aload_n C (zo_42 (p := 112) (zby_w zwX9_lot_3 16 rfl)) rfl ?_
          refine zr_getr (u := 77) C fw_X9_31 (sh_69) rfl (zo_180 (p := 113) (k := 31) (a := 0) (b := 31) (zby_w zwX9_lot_3 17 rfl) (zby_w zwX9_lot_3 18 rfl) (zby_w zwX9_lot_3 19 rfl) (by decide)) ?_
          refine zr_iload_n C (zo_28 (p := 116) (zby_w zwX9_lot_3 20 rfl)) rfl ?_
          obtain ⟨ho30, ho28⟩ := ho28
          refine zr_iald C (sh_77) ho30 (zo_46 (p := 117) (zby_w zwX9_lot_3 21 rfl)) ?_
          refine zr_icmp_ne C 125 (zo_160 (p := 118) (k := 7) (a := 0) (b := 7) (zby_w zwX9_lot_3 22 rfl) (zby_w zwX9_lot_3 23 rfl) (zby_w zwX9_lot_3 24 rfl) (by decide)) (by decide) (fun hc31 => ?_) (fun hc31 => ?_)
          · skip
            refine zr_iconst C (0 : Int32) d_X9_lot_125 (by decide) ?_
            exact hJ27 _ (by rw [if_neg hc25, if_neg hc31])
          · skip
            refine zr_iconst C (1 : Int32) (zo_4 (p := 121) (zby_w zwX9_lot_3 25 rfl)) (by decide) ?_
            refine zr_goto C 126 (zo_167 (p := 122) (k := 4) (a := 0) (b := 4) (zby_w zwX9_lot_3 26 rfl) (zby_w zwX9_lot_3 27 rfl) (zby_w zwX9_lot_3 28 rfl) (by decide)) (by decide) ?_
            exact hJ27 _ (by rw [if_neg hc25, if_pos hc31])
      refine zr_if_eq C 90 (zo_153 (p := 67) (k := 23) (a := 0) (b := 23) (zby_w zwX9_lot_2 3 rfl) (zby_w zwX9_lot_2 4 rfl) (zby_w zwX9_lot_2 5 rfl) (by decide)) (by decide) (fun hc15 => ?_) (fun hc15 => ?_)
      · skip
        rw [if_pos hc15] at ho18
        refine zr_iconst C (0 : Int32) d_X9_lot_90 (by decide) ?_
        exact hJ17 _ (by rw [if_pos hc15])
      · skip
        rw [if_neg hc15] at ho18
        refine zr_aload_n C (zo_42 (p := 70) (zby_w zwX9_lot_2 6 rfl)) rfl ?_
        refine zr_getr (u := 77) C fw_X9_31 (sh_69) rfl (zo_180 (p := 71) (k := 31) (a := 0) (b := 31) (zby_w zwX9_lot_2 7 rfl) (zby_w zwX9_lot_2 8 rfl) (zby_w zwX9_lot_2 9 rfl) (by decide)) ?_
        refine zr_iload C (zo_21 (p := 74) (k := 6) (a := 6) (zby_w zwX9_lot_2 10 rfl) (zby_w zwX9_lot_2 11 rfl) (by decide)) rfl ?_
        obtain ⟨ho19, ho18⟩ := ho18
        refine zr_iald C (sh_77) ho19 (zo_46 (p := 76) (zby_w zwX9_lot_2 12 rfl)) ?_
        refine zr_aload_n C (zo_42 (p := 77) (zby_w zwX9_lot_2 13 rfl)) rfl ?_
        refine zr_getr (u := 77) C fw_X9_31 (sh_69) rfl (zo_180 (p := 78) (k := 31) (a := 0) (b := 31) (zby_w zwX9_lot_2 14 rfl) (zby_w zwX9_lot_2 15 rfl) (zby_w zwX9_lot_2 16 rfl) (by decide)) ?_
        refine zr_iload_n C (zo_28 (p := 81) (zby_w zwX9_lot_2 17 rfl)) rfl ?_
        obtain ⟨ho20, ho18⟩ := ho18
        refine zr_iald C (sh_77) ho20 (zo_46 (p := 82) (zby_w zwX9_lot_2 18 rfl)) ?_
        refine zr_icmp_ge C 90 (zo_162 (p := 83) (k := 7) (a := 0) (b := 7) (zby_w zwX9_lot_2 19 rfl) (zby_w zwX9_lot_2 20 rfl) (zby_w zwX9_lot_2 21 rfl) (by decide)) (by decide) (fun hc21 => ?_) (fun hc21 => ?_)
        · skip
          refine zr_iconst C (0 : Int32) d_X9_lot_90 (by decide) ?_
          exact hJ17 _ (by rw [if_neg hc15, if_pos hc21])
        · skip
          refine zr_iconst C (1 : Int32) (zo_4 (p := 86) (zby_w zwX9_lot_2 22 rfl)) (by decide) ?_
          refine zr_goto C 91 (zo_167 (p := 87) (k := 4) (a := 0) (b := 4) (zby_w zwX9_lot_2 23 rfl) (zby_w zwX9_lot_2 24 rfl) (zby_w zwX9_lot_2 25 rfl) (by decide)) (by decide) ?_
          exact hJ17 _ (by rw [if_neg hc15, if_neg hc21])

def wp_X9_lot (p1 : Int32) (p2 : Int32) (p3 : Int32) (σ : zST) (Post : Int64 → Prop) : Prop := wp_X9_isAboard p2 σ (fun r1 => (if r1 = (0) then Post (-1000000000000000001 : Int64) else wp_X9_ones (σ.1 69 21) σ (fun r4 => wp_X9_in (p1.toInt64) (1 : Int64) (r4.toInt64) σ (fun r6 => (if r6 = (0) then Post (-1000000000000000002 : Int64) else wp_X9_in (p3.toInt64) (0 : Int64) (1 : Int64) σ (fun r9 => (if r9 = (0) then Post (-1000000000000000002 : Int64) else ∃ M41 : Nat, wp_X9_lot_L52 p1 p2 p3 σ (fun w4 w5 => ∀ x33 : Int32, x33 = (p1 - w4) → ∀ z35 : Int64, z35 = (if (0) ≤ x33 then (if x33 ≤ w5 then (x33.toInt64) else (w5.toInt64)) else (0 : Int64)) → wp_X9_lowest z35 (w5.toInt64) p3 σ (fun r39 => Post r39)) M41 (0 : Int32) (0 : Int32) (0 : Int32))))))))
set_option maxRecDepth 100000 in
set_option maxHeartbeats 4000000 in
theorem g_X9_lot {p : Program} {l : Launch} {e : Env} {R : Room} {s : State} {m : MethodId} {args : Array Value} {below : List Frame} {meth : Method} {c : Code} {Q : State → Prop} {g : zG} {n1 n2 : Nat} (C : zCX p R s m args meth c g n1 n2 cX9_lot 7 RX9 2 46) {p1 : Int32} {p2 : Int32} {p3 : Int32} {σ : zST} {Post : Int64 → Prop} (hret : ∀ (v : Int64) (pc : Nat) (lv : List (Nat × Value)), Post v → decode cX9_lot pc = .ok (.lreturn, 1) → zGG p l e R s m args below meth c Q g n1 n2 7 pc lv [.long v] σ) (h : wp_X9_lot p1 p2 p3 σ Post) : zGG p l e R s m args below meth c Q g n1 n2 7 0 [(0, .ref (g.2.1 69)), (1, .int p1), (2, .int p2), (3, .int p3)] [] σ := by
  unfold wp_X9_lot at h
  refine zr_aload_n C (zo_42 (p := 0) (zby_w zwX9_lot_0 0 rfl)) rfl ?_
  refine zr_iload_n C (zo_28 (p := 1) (zby_w zwX9_lot_0 1 rfl)) rfl ?_
  refine zr_cip (zr_runV (As := [.int p2]) (rest := []) C vw_X9_275 (c_X9_isAboard l g p2 σ _ h) (sh_69) rfl (by decide) (by decide) rfl rfl (Nat.le_of_ble_eq_true rfl) (zo_182 (p := 2) (k := 275) (a := 1) (b := 19) (zby_w zwX9_lot_0 2 rfl) (zby_w zwX9_lot_0 3 rfl) (zby_w zwX9_lot_0 4 rfl) (by decide))) (fun r1 h => ?_)
  refine zr_if_ne C 12 (zo_154 (p := 5) (k := 7) (a := 0) (b := 7) (zby_w zwX9_lot_0 5 rfl) (zby_w zwX9_lot_0 6 rfl) (zby_w zwX9_lot_0 7 rfl) (by decide)) (by decide) (fun hc3 => ?_) (fun hc3 => ?_)
  · rw [if_neg hc3] at h
    refine zr_iload_n C (zo_27 (p := 12) (zby_w zwX9_lot_0 12 rfl)) rfl ?_
    refine zr_i2l C (zo_133 (p := 13) (zby_w zwX9_lot_0 13 rfl)) ?_
    refine zr_lconst C (1 : Int64) (zo_10 (p := 14) (zby_w zwX9_lot_0 14 rfl)) (by decide) ?_
    refine zr_aload_n C (zo_42 (p := 15) (zby_w zwX9_lot_0 15 rfl)) rfl ?_
    refine zr_geti C fw_X9_272 (sh_69) rfl (zo_180 (p := 16) (k := 272) (a := 1) (b := 16) (zby_w zwX9_lot_0 16 rfl) (zby_w zwX9_lot_0 17 rfl) (zby_w zwX9_lot_0 18 rfl) (by decide)) ?_
    refine zr_cip (zr_runS (As := [.int (σ.1 69 21)]) (rest := [.long (1 : Int64), .long (p1.toInt64)]) C sw_X9_108 (c_X9_ones l g (σ.1 69 21) σ _ h) (by decide) (by decide) rfl rfl (Nat.le_of_ble_eq_true rfl) (zo_184 (p := 19) (k := 108) (a := 0) (b := 108) (zby_w zwX9_lot_0 19 rfl) (zby_w zwX9_lot_0 20 rfl) (zby_w zwX9_lot_0 21 rfl) (by decide))) (fun r4 h => ?_)
    refine zr_i2l C (zo_133 (p := 22) (zby_w zwX9_lot_0 22 rfl)) ?_
    refine zr_cip (zr_runS (As := [.long (p1.toInt64), .long (1 : Int64), .long (r4.toInt64)]) (rest := []) C sw_X9_89 (c_X9_in l g (p1.toInt64) (1 : Int64) (r4.toInt64) σ _ h) (by decide) (by decide) rfl rfl (Nat.le_of_ble_eq_true rfl) (zo_184 (p := 23) (k := 89) (a := 0) (b := 89) (zby_w zwX9_lot_0 23 rfl) (zby_w zwX9_lot_0 24 rfl) (zby_w zwX9_lot_0 25 rfl) (by decide))) (fun r6 h => ?_)
    refine zr_if_eq C 39 (zo_153 (p := 26) (k := 13) (a := 0) (b := 13) (zby_w zwX9_lot_0 26 rfl) (zby_w zwX9_lot_0 27 rfl) (zby_w zwX9_lot_0 28 rfl) (by decide)) (by decide) (fun hc8 => ?_) (fun hc8 => ?_)
    · rw [if_pos hc8] at h
      refine zr_ldc2 C (v := (-1000000000000000002 : Int64)) cl_X9_280 d_X9_lot_39 ?_
      exact hret _ _ _ h d_X9_lot_42
    · rw [if_neg hc8] at h
      refine zr_iload_n C (zo_29 (p := 29) (zby_w zwX9_lot_0 29 rfl)) rfl ?_
      refine zr_i2l C (zo_133 (p := 30) (zby_w zwX9_lot_0 30 rfl)) ?_
      refine zr_lconst C (0 : Int64) (zo_9 (p := 31) (zby_w zwX9_lot_0 31 rfl)) (by decide) ?_
      refine zr_lconst C (1 : Int64) (zo_10 (p := 32) (zby_w zwX9_lot_1 0 rfl)) (by decide) ?_
      refine zr_cip (zr_runS (As := [.long (p3.toInt64), .long (0 : Int64), .long (1 : Int64)]) (rest := []) C sw_X9_89 (c_X9_in l g (p3.toInt64) (0 : Int64) (1 : Int64) σ _ h) (by decide) (by decide) rfl rfl (Nat.le_of_ble_eq_true rfl) (zo_184 (p := 33) (k := 89) (a := 0) (b := 89) (zby_w zwX9_lot_1 1 rfl) (zby_w zwX9_lot_1 2 rfl) (zby_w zwX9_lot_1 3 rfl) (by decide))) (fun r9 h => ?_)
      refine zr_if_ne C 43 (zo_154 (p := 36) (k := 7) (a := 0) (b := 7) (zby_w zwX9_lot_1 4 rfl) (zby_w zwX9_lot_1 5 rfl) (zby_w zwX9_lot_1 6 rfl) (by decide)) (by decide) (fun hc11 => ?_) (fun hc11 => ?_)
      · rw [if_neg hc11] at h
        refine zr_iconst C (0 : Int32) (zo_3 (p := 43) (zby_w zwX9_lot_1 11 rfl)) (by decide) ?_
        refine zr_istore C [(4, .int (0 : Int32)), (0, .ref (g.2.1 69)), (1, .int p1), (2, .int p2), (3, .int p3)] (zo_54 (p := 44) (k := 4) (a := 4) (zby_w zwX9_lot_1 12 rfl) (zby_w zwX9_lot_1 13 rfl) (by decide)) (by decide) rfl ?_
        refine zr_iconst C (0 : Int32) (zo_3 (p := 46) (zby_w zwX9_lot_1 14 rfl)) (by decide) ?_
        refine zr_istore C [(5, .int (0 : Int32)), (4, .int (0 : Int32)), (0, .ref (g.2.1 69)), (1, .int p1), (2, .int p2), (3, .int p3)] (zo_54 (p := 47) (k := 5) (a := 5) (zby_w zwX9_lot_1 15 rfl) (zby_w zwX9_lot_1 16 rfl) (by decide)) (by decide) rfl ?_
        refine zr_iconst C (0 : Int32) (zo_3 (p := 49) (zby_w zwX9_lot_1 17 rfl)) (by decide) ?_
        refine zr_istore C [(6, .int (0 : Int32)), (5, .int (0 : Int32)), (4, .int (0 : Int32)), (0, .ref (g.2.1 69)), (1, .int p1), (2, .int p2), (3, .int p3)] (zo_54 (p := 50) (k := 6) (a := 6) (zby_w zwX9_lot_1 18 rfl) (zby_w zwX9_lot_1 19 rfl) (by decide)) (by decide) rfl ?_
        obtain ⟨M41, h⟩ := h
        exact zr_pick [3, 4, 5, 6, 2, 1, 0] rfl (g_X9_lot_L52 C (fun w4 w5 h => by
            refine zr_iload_n C (zo_27 (p := 135) (zby_w zwX9_lot_4 7 rfl)) rfl ?_
            refine zr_iload C (zo_21 (p := 136) (k := 4) (a := 4) (zby_w zwX9_lot_4 8 rfl) (zby_w zwX9_lot_4 9 rfl) (by decide)) rfl ?_
            refine zr_isub C (zo_100 (p := 138) (zby_w zwX9_lot_4 10 rfl)) ?_
            refine zr_topi (fun x33 hx33 => ?_)
            replace h := h x33 hx33
            refine zr_istore C [(6, .int x33), (1, .int p1), (3, .int p3), (4, .int w4), (5, .int w5)] (zo_54 (p := 139) (k := 6) (a := 6) (zby_w zwX9_lot_4 11 rfl) (zby_w zwX9_lot_4 12 rfl) (by decide)) (by decide) rfl ?_
            refine zr_iload C (zo_21 (p := 141) (k := 6) (a := 6) (zby_w zwX9_lot_4 13 rfl) (zby_w zwX9_lot_4 14 rfl) (by decide)) rfl ?_
            have hJ36 : ∀ z35 : Int64, z35 = (if (0) ≤ x33 then (if x33 ≤ w5 then (x33.toInt64) else (w5.toInt64)) else (0 : Int64)) → zGG p l e R s m args below meth c Q g n1 n2 7 166 [(6, .int x33), (1, .int p1), (3, .int p3), (4, .int w4), (5, .int w5)] [.long z35] σ := by
              intro z35 hz35
              replace h := h z35 hz35
              refine zr_iload C (zo_21 (p := 166) (k := 5) (a := 5) (zby_w zwX9_lot_5 6 rfl) (zby_w zwX9_lot_5 7 rfl) (by decide)) rfl ?_
              refine zr_i2l C (zo_133 (p := 168) (zby_w zwX9_lot_5 8 rfl)) ?_
              refine zr_iload_n C (zo_29 (p := 169) (zby_w zwX9_lot_5 9 rfl)) rfl ?_
              refine zr_clp (zr_runS (As := [.long z35, .long (w5.toInt64), .int p3]) (rest := []) C sw_X9_282 (c_X9_lowest l g z35 (w5.toInt64) p3 σ _ h) (by decide) (by decide) rfl rfl (Nat.le_of_ble_eq_true rfl) (zo_184 (p := 170) (k := 282) (a := 1) (b := 26) (zby_w zwX9_lot_5 10 rfl) (zby_w zwX9_lot_5 11 rfl) (zby_w zwX9_lot_5 12 rfl) (by decide))) (fun r39 h => ?_)
              exact hret _ _ _ h (zo_173 (p := 173) (zby_w zwX9_lot_5 13 rfl))
            refine zr_if_ge C 150 (zo_156 (p := 143) (k := 7) (a := 0) (b := 7) (zby_w zwX9_lot_4 15 rfl) (zby_w zwX9_lot_4 16 rfl) (zby_w zwX9_lot_4 17 rfl) (by decide)) (by decide) (fun hc34 => ?_) (fun hc34 => ?_)
            · skip
              refine zr_iload C (zo_21 (p := 150) (k := 6) (a := 6) (zby_w zwX9_lot_4 22 rfl) (zby_w zwX9_lot_4 23 rfl) (by decide)) rfl ?_
              refine zr_iload C (zo_21 (p := 152) (k := 5) (a := 5) (zby_w zwX9_lot_4 24 rfl) (zby_w zwX9_lot_4 25 rfl) (by decide)) rfl ?_
              refine zr_icmp_le C 163 (zo_164 (p := 154) (k := 9) (a := 0) (b := 9) (zby_w zwX9_lot_4 26 rfl) (zby_w zwX9_lot_4 27 rfl) (zby_w zwX9_lot_4 28 rfl) (by decide)) (by decide) (fun hc38 => ?_) (fun hc38 => ?_)
              · skip
                refine zr_iload C (zo_21 (p := 163) (k := 6) (a := 6) (zby_w zwX9_lot_5 3 rfl) (zby_w zwX9_lot_5 4 rfl) (by decide)) rfl ?_
                refine zr_i2l C (zo_133 (p := 165) (zby_w zwX9_lot_5 5 rfl)) ?_
                exact hJ36 _ (by rw [if_pos hc34, if_pos hc38])
              · skip
                refine zr_iload C (zo_21 (p := 157) (k := 5) (a := 5) (zby_w zwX9_lot_4 29 rfl) (zby_w zwX9_lot_4 30 rfl) (by decide)) rfl ?_
                refine zr_i2l C (zo_133 (p := 159) (zby_w zwX9_lot_4 31 rfl)) ?_
                refine zr_goto C 166 (zo_167 (p := 160) (k := 6) (a := 0) (b := 6) (zby_w zwX9_lot_5 0 rfl) (zby_w zwX9_lot_5 1 rfl) (zby_w zwX9_lot_5 2 rfl) (by decide)) (by decide) ?_
                exact hJ36 _ (by rw [if_pos hc34, if_neg hc38])
            · skip
              refine zr_lconst C (0 : Int64) (zo_9 (p := 146) (zby_w zwX9_lot_4 18 rfl)) (by decide) ?_
              refine zr_goto C 166 (zo_167 (p := 147) (k := 19) (a := 0) (b := 19) (zby_w zwX9_lot_4 19 rfl) (zby_w zwX9_lot_4 20 rfl) (zby_w zwX9_lot_4 21 rfl) (by decide)) (by decide) ?_
              exact hJ36 _ (by rw [if_neg hc34])) M41 (0 : Int32) (0 : Int32) (0 : Int32) h)
      · rw [if_pos hc11] at h
        refine zr_ldc2 C (v := (-1000000000000000002 : Int64)) cl_X9_280 d_X9_lot_39 ?_
        exact hret _ _ _ h d_X9_lot_42
  · rw [if_pos hc3] at h
    refine zr_ldc2 C (v := (-1000000000000000001 : Int64)) cl_X9_278 (zo_20 (p := 8) (k := 278) (a := 1) (b := 22) (zby_w zwX9_lot_0 8 rfl) (zby_w zwX9_lot_0 9 rfl) (zby_w zwX9_lot_0 10 rfl) (by decide)) ?_
    exact hret _ _ _ h (zo_173 (p := 11) (zby_w zwX9_lot_0 11 rfl))
set_option maxRecDepth 20000 in
theorem c_X9_lot (l : Launch) (g : zG) (p1 : Int32) (p2 : Int32) (p3 : Int32) (σ : zST) (Post : Int64 → Prop) (h : wp_X9_lot p1 p2 p3 σ Post) : Met l yX9_lot (Cond.code yX9_lot cX9_lot 7 (some .long) :: zGW) (zRm 2 46) (va_Pc [.ref (g.2.1 69), .int p1, .int p2, .int p3] (zPP g σ)) (va_Ql (fun r u => Post r ∧ u = σ) (zBB g) (zA g)) 0 0 (zA g) :=
  zMet (by decide) (Nat.le_of_ble_eq_true rfl) (fun p e s m below meth c hr C => g_X9_lot C (fun v pc lv hp hd => zr_lret C hr ⟨hp, rfl⟩ hd) h)
def wp_X9_choose_L5 (v0 : Int32) (v1 : Int32) (σ : zST) (Post : Int64 → Prop) : Nat → Int64 → Int32 → Prop
  | 0, _, _ => False
  | N + 1, v2, v4 => (if v1 < v4 then Post v2 else ¬ (v4.toInt64) = 0 ∧ ∀ x3 : Int64, x3 = ((v2 * (((v0 - v1) + v4).toInt64)) / (v4.toInt64)) → wp_X9_choose_L5 v0 v1 σ Post N x3 (v4 + 1))

set_option maxRecDepth 100000 in
set_option maxHeartbeats 4000000 in
theorem g_X9_choose_L5 {p : Program} {l : Launch} {e : Env} {R : Room} {s : State} {m : MethodId} {args : Array Value} {below : List Frame} {meth : Method} {c : Code} {Q : State → Prop} {g : zG} {n1 n2 : Nat} (C : zCX p R s m args meth c g n1 n2 cX9_choose 5 RX9 0 0) {v0 : Int32} {v1 : Int32} {σ : zST}  {Post : Int64 → Prop} (hret : ∀ (v : Int64) (pc : Nat) (lv : List (Nat × Value)), Post v → decode cX9_choose pc = .ok (.lreturn, 1) → zGG p l e R s m args below meth c Q g n1 n2 5 pc lv [.long v] σ) : ∀ (N : Nat) (v2 : Int64) (v4 : Int32) , wp_X9_choose_L5 v0 v1 σ Post N v2 v4 → zGG p l e R s m args below meth c Q g n1 n2 5 5 [(0, .int v0), (1, .int v1), (2, .long v2), (4, .int v4)] [] σ := by
  intro N
  induction N with
  | zero =>
    intro v2 v4 h
    exact h.elim
  | succ N ih =>
    intro v2 v4 h
    rw [wp_X9_choose_L5] at h
    refine zr_iload C (zo_21 (p := 5) (k := 4) (a := 4) (zby_w zwX9_choose_0 5 rfl) (zby_w zwX9_choose_0 6 rfl) (by decide)) rfl ?_
    refine zr_iload_n C (zo_27 (p := 7) (zby_w zwX9_choose_0 7 rfl)) rfl ?_
    refine zr_icmp_gt C 31 (zo_163 (p := 8) (k := 23) (a := 0) (b := 23) (zby_w zwX9_choose_0 8 rfl) (zby_w zwX9_choose_0 9 rfl) (zby_w zwX9_choose_0 10 rfl) (by decide)) (by decide) (fun hc1 => ?_) (fun hc1 => ?_)
    · rw [if_pos hc1] at h
      refine zr_lload_n C (zo_32 (p := 31) (zby_w zwX9_choose_0 31 rfl)) rfl ?_
      exact hret _ _ _ h (zo_173 (p := 32) (zby_w zwX9_choose_1 0 rfl))
    · rw [if_neg hc1] at h
      refine zr_lload_n C (zo_32 (p := 11) (zby_w zwX9_choose_0 11 rfl)) rfl ?_
      refine zr_iload_n C (zo_26 (p := 12) (zby_w zwX9_choose_0 12 rfl)) rfl ?_
      refine zr_iload_n C (zo_27 (p := 13) (zby_w zwX9_choose_0 13 rfl)) rfl ?_
      refine zr_isub C (zo_100 (p := 14) (zby_w zwX9_choose_0 14 rfl)) ?_
      refine zr_iload C (zo_21 (p := 15) (k := 4) (a := 4) (zby_w zwX9_choose_0 15 rfl) (zby_w zwX9_choose_0 16 rfl) (by decide)) rfl ?_
      refine zr_iadd C (zo_96 (p := 17) (zby_w zwX9_choose_0 17 rfl)) ?_
      refine zr_i2l C (zo_133 (p := 18) (zby_w zwX9_choose_0 18 rfl)) ?_
      refine zr_lmul C (zo_105 (p := 19) (zby_w zwX9_choose_0 19 rfl)) ?_
      refine zr_iload C (zo_21 (p := 20) (k := 4) (a := 4) (zby_w zwX9_choose_0 20 rfl) (zby_w zwX9_choose_0 21 rfl) (by decide)) rfl ?_
      refine zr_i2l C (zo_133 (p := 22) (zby_w zwX9_choose_0 22 rfl)) ?_
      obtain ⟨ho2, h⟩ := h
      refine zr_ldiv C (zo_109 (p := 23) (zby_w zwX9_choose_0 23 rfl)) ho2 ?_
      refine zr_topl (fun x3 hx3 => ?_)
      replace h := h x3 hx3
      refine zr_lstore_n C [(2, .long x3), (0, .int v0), (1, .int v1), (4, .int v4)] (zo_65 (p := 24) (zby_w zwX9_choose_0 24 rfl)) (by decide) rfl ?_
      refine zr_iinc C (v4 + 1) [(4, .int (v4 + 1)), (2, .long x3), (0, .int v0), (1, .int v1)] d_X9_choose_25 rfl rfl (by decide) rfl ?_
      refine zr_goto C 5 (zo_167 (p := 28) (k := (-23)) (a := 255) (b := 233) (zby_w zwX9_choose_0 28 rfl) (zby_w zwX9_choose_0 29 rfl) (zby_w zwX9_choose_0 30 rfl) (by decide)) (by decide) ?_
      exact zr_pick [2, 3, 1, 0] rfl (ih x3 (v4 + 1) h)

def wp_X9_choose (p0 : Int32) (p1 : Int32) (σ : zST) (Post : Int64 → Prop) : Prop := ∃ M4 : Nat, wp_X9_choose_L5 p0 p1 σ Post M4 (1 : Int64) (1 : Int32)
set_option maxRecDepth 100000 in
set_option maxHeartbeats 4000000 in
theorem g_X9_choose {p : Program} {l : Launch} {e : Env} {R : Room} {s : State} {m : MethodId} {args : Array Value} {below : List Frame} {meth : Method} {c : Code} {Q : State → Prop} {g : zG} {n1 n2 : Nat} (C : zCX p R s m args meth c g n1 n2 cX9_choose 5 RX9 0 0) {p0 : Int32} {p1 : Int32} {σ : zST} {Post : Int64 → Prop} (hret : ∀ (v : Int64) (pc : Nat) (lv : List (Nat × Value)), Post v → decode cX9_choose pc = .ok (.lreturn, 1) → zGG p l e R s m args below meth c Q g n1 n2 5 pc lv [.long v] σ) (h : wp_X9_choose p0 p1 σ Post) : zGG p l e R s m args below meth c Q g n1 n2 5 0 [(0, .int p0), (1, .int p1)] [] σ := by
  unfold wp_X9_choose at h
  refine zr_lconst C (1 : Int64) (zo_10 (p := 0) (zby_w zwX9_choose_0 0 rfl)) (by decide) ?_
  refine zr_lstore_n C [(2, .long (1 : Int64)), (0, .int p0), (1, .int p1)] (zo_65 (p := 1) (zby_w zwX9_choose_0 1 rfl)) (by decide) rfl ?_
  refine zr_iconst C (1 : Int32) (zo_4 (p := 2) (zby_w zwX9_choose_0 2 rfl)) (by decide) ?_
  refine zr_istore C [(4, .int (1 : Int32)), (2, .long (1 : Int64)), (0, .int p0), (1, .int p1)] (zo_54 (p := 3) (k := 4) (a := 4) (zby_w zwX9_choose_0 3 rfl) (zby_w zwX9_choose_0 4 rfl) (by decide)) (by decide) rfl ?_
  obtain ⟨M4, h⟩ := h
  exact zr_pick [2, 3, 1, 0] rfl (g_X9_choose_L5 C hret M4 (1 : Int64) (1 : Int32) h)
set_option maxRecDepth 20000 in
theorem c_X9_choose (l : Launch) (g : zG) (p0 : Int32) (p1 : Int32) (σ : zST) (Post : Int64 → Prop) (h : wp_X9_choose p0 p1 σ Post) : Met l yX9_choose (Cond.code yX9_choose cX9_choose 5 (some .long) :: zGW) (zRm 0 0) (va_Pc [.int p0, .int p1] (zPP g σ)) (va_Ql (fun r u => Post r ∧ u = σ) (zBB g) (zA g)) 0 0 (zA g) :=
  zMet (by decide) (Nat.le_of_ble_eq_true rfl) (fun p e s m below meth c hr C => g_X9_choose C (fun v pc lv hp hd => zr_lret C hr ⟨hp, rfl⟩ hd) h)
def wp_X9_power_L5 (v0 : Int32) (v1 : Int32) (σ : zST) (Post : Int64 → Prop) : Nat → Int64 → Int32 → Prop
  | 0, _, _ => False
  | N + 1, v2, v4 => (if v1 ≤ v4 then Post v2 else ∀ x2 : Int64, x2 = (v2 * (v0.toInt64)) → wp_X9_power_L5 v0 v1 σ Post N x2 (v4 + 1))

set_option maxRecDepth 100000 in
set_option maxHeartbeats 4000000 in
theorem g_X9_power_L5 {p : Program} {l : Launch} {e : Env} {R : Room} {s : State} {m : MethodId} {args : Array Value} {below : List Frame} {meth : Method} {c : Code} {Q : State → Prop} {g : zG} {n1 n2 : Nat} (C : zCX p R s m args meth c g n1 n2 cX9_power 5 RX9 0 0) {v0 : Int32} {v1 : Int32} {σ : zST}  {Post : Int64 → Prop} (hret : ∀ (v : Int64) (pc : Nat) (lv : List (Nat × Value)), Post v → decode cX9_power pc = .ok (.lreturn, 1) → zGG p l e R s m args below meth c Q g n1 n2 5 pc lv [.long v] σ) : ∀ (N : Nat) (v2 : Int64) (v4 : Int32) , wp_X9_power_L5 v0 v1 σ Post N v2 v4 → zGG p l e R s m args below meth c Q g n1 n2 5 5 [(0, .int v0), (1, .int v1), (2, .long v2), (4, .int v4)] [] σ := by
  intro N
  induction N with
  | zero =>
    intro v2 v4 h
    exact h.elim
  | succ N ih =>
    intro v2 v4 h
    rw [wp_X9_power_L5] at h
    refine zr_iload C (zo_21 (p := 5) (k := 4) (a := 4) (zby_w zwX9_power_0 5 rfl) (zby_w zwX9_power_0 6 rfl) (by decide)) rfl ?_
    refine zr_iload_n C (zo_27 (p := 7) (zby_w zwX9_power_0 7 rfl)) rfl ?_
    refine zr_icmp_ge C 22 (zo_162 (p := 8) (k := 14) (a := 0) (b := 14) (zby_w zwX9_power_0 8 rfl) (zby_w zwX9_power_0 9 rfl) (zby_w zwX9_power_0 10 rfl) (by decide)) (by decide) (fun hc1 => ?_) (fun hc1 => ?_)
    · rw [if_pos hc1] at h
      refine zr_lload_n C (zo_32 (p := 22) (zby_w zwX9_power_0 22 rfl)) rfl ?_
      exact hret _ _ _ h (zo_173 (p := 23) (zby_w zwX9_power_0 23 rfl))
    · rw [if_neg hc1] at h
      refine zr_lload_n C (zo_32 (p := 11) (zby_w zwX9_power_0 11 rfl)) rfl ?_
      refine zr_iload_n C (zo_26 (p := 12) (zby_w zwX9_power_0 12 rfl)) rfl ?_
      refine zr_i2l C (zo_133 (p := 13) (zby_w zwX9_power_0 13 rfl)) ?_
      refine zr_lmul C (zo_105 (p := 14) (zby_w zwX9_power_0 14 rfl)) ?_
      refine zr_topl (fun x2 hx2 => ?_)
      replace h := h x2 hx2
      refine zr_lstore_n C [(2, .long x2), (0, .int v0), (1, .int v1), (4, .int v4)] (zo_65 (p := 15) (zby_w zwX9_power_0 15 rfl)) (by decide) rfl ?_
      refine zr_iinc C (v4 + 1) [(4, .int (v4 + 1)), (2, .long x2), (0, .int v0), (1, .int v1)] d_X9_power_16 rfl rfl (by decide) rfl ?_
      refine zr_goto C 5 (zo_167 (p := 19) (k := (-14)) (a := 255) (b := 242) (zby_w zwX9_power_0 19 rfl) (zby_w zwX9_power_0 20 rfl) (zby_w zwX9_power_0 21 rfl) (by decide)) (by decide) ?_
      exact zr_pick [2, 3, 1, 0] rfl (ih x2 (v4 + 1) h)

def wp_X9_power (p0 : Int32) (p1 : Int32) (σ : zST) (Post : Int64 → Prop) : Prop := ∃ M3 : Nat, wp_X9_power_L5 p0 p1 σ Post M3 (1 : Int64) (0 : Int32)
set_option maxRecDepth 100000 in
set_option maxHeartbeats 4000000 in
theorem g_X9_power {p : Program} {l : Launch} {e : Env} {R : Room} {s : State} {m : MethodId} {args : Array Value} {below : List Frame} {meth : Method} {c : Code} {Q : State → Prop} {g : zG} {n1 n2 : Nat} (C : zCX p R s m args meth c g n1 n2 cX9_power 5 RX9 0 0) {p0 : Int32} {p1 : Int32} {σ : zST} {Post : Int64 → Prop} (hret : ∀ (v : Int64) (pc : Nat) (lv : List (Nat × Value)), Post v → decode cX9_power pc = .ok (.lreturn, 1) → zGG p l e R s m args below meth c Q g n1 n2 5 pc lv [.long v] σ) (h : wp_X9_power p0 p1 σ Post) : zGG p l e R s m args below meth c Q g n1 n2 5 0 [(0, .int p0), (1, .int p1)] [] σ := by
  unfold wp_X9_power at h
  refine zr_lconst C (1 : Int64) (zo_10 (p := 0) (zby_w zwX9_power_0 0 rfl)) (by decide) ?_
  refine zr_lstore_n C [(2, .long (1 : Int64)), (0, .int p0), (1, .int p1)] (zo_65 (p := 1) (zby_w zwX9_power_0 1 rfl)) (by decide) rfl ?_
  refine zr_iconst C (0 : Int32) (zo_3 (p := 2) (zby_w zwX9_power_0 2 rfl)) (by decide) ?_
  refine zr_istore C [(4, .int (0 : Int32)), (2, .long (1 : Int64)), (0, .int p0), (1, .int p1)] (zo_54 (p := 3) (k := 4) (a := 4) (zby_w zwX9_power_0 3 rfl) (zby_w zwX9_power_0 4 rfl) (by decide)) (by decide) rfl ?_
  obtain ⟨M3, h⟩ := h
  exact zr_pick [2, 3, 1, 0] rfl (g_X9_power_L5 C hret M3 (1 : Int64) (0 : Int32) h)
set_option maxRecDepth 20000 in
theorem c_X9_power (l : Launch) (g : zG) (p0 : Int32) (p1 : Int32) (σ : zST) (Post : Int64 → Prop) (h : wp_X9_power p0 p1 σ Post) : Met l yX9_power (Cond.code yX9_power cX9_power 5 (some .long) :: zGW) (zRm 0 0) (va_Pc [.int p0, .int p1] (zPP g σ)) (va_Ql (fun r u => Post r ∧ u = σ) (zBB g) (zA g)) 0 0 (zA g) :=
  zMet (by decide) (Nat.le_of_ble_eq_true rfl) (fun p e s m below meth c hr C => g_X9_power C (fun v pc lv hp hd => zr_lret C hr ⟨hp, rfl⟩ hd) h)
def wp_X9_often_J111 (v1 : Int32) (v3 : Int32) (v5 : Int32) (v6 : Int64) (σ : zST) (Post : Int64 → Prop) : Prop := wp_X9_power v1 v3 σ (fun r17 => wp_X9_lowest v6 r17 v5 σ (fun r19 => Post r19))

set_option maxRecDepth 100000 in
set_option maxHeartbeats 4000000 in
theorem g_X9_often_J111 {p : Program} {l : Launch} {e : Env} {R : Room} {s : State} {m : MethodId} {args : Array Value} {below : List Frame} {meth : Method} {c : Code} {Q : State → Prop} {g : zG} {n1 n2 : Nat} (C : zCX p R s m args meth c g n1 n2 cX9_often 9 RX9 1 30) {v1 : Int32} {v3 : Int32} {v5 : Int32} {v6 : Int64} {σ : zST}  {Post : Int64 → Prop} (hret : ∀ (v : Int64) (pc : Nat) (lv : List (Nat × Value)), Post v → decode cX9_often pc = .ok (.lreturn, 1) → zGG p l e R s m args below meth c Q g n1 n2 9 pc lv [.long v] σ) (h : wp_X9_often_J111 v1 v3 v5 v6 σ Post) : zGG p l e R s m args below meth c Q g n1 n2 9 111 [(1, .int v1), (3, .int v3), (5, .int v5), (6, .long v6)] [] σ := by
  unfold wp_X9_often_J111 at h
  refine zr_lload C (zo_22 (p := 111) (k := 6) (a := 6) (zby_w zwX9_often_3 15 rfl) (zby_w zwX9_often_3 16 rfl) (by decide)) rfl ?_
  refine zr_iload_n C (zo_27 (p := 113) (zby_w zwX9_often_3 17 rfl)) rfl ?_
  refine zr_iload_n C (zo_29 (p := 114) (zby_w zwX9_often_3 18 rfl)) rfl ?_
  refine zr_clp (zr_runS (As := [.int v1, .int v3]) (rest := [.long v6]) C sw_X9_292 (c_X9_power l g v1 v3 σ _ h) (by decide) (by decide) rfl rfl (Nat.le_of_ble_eq_true rfl) (zo_184 (p := 115) (k := 292) (a := 1) (b := 36) (zby_w zwX9_often_3 19 rfl) (zby_w zwX9_often_3 20 rfl) (zby_w zwX9_often_3 21 rfl) (by decide))) (fun r17 h => ?_)
  refine zr_iload C (zo_21 (p := 118) (k := 5) (a := 5) (zby_w zwX9_often_3 22 rfl) (zby_w zwX9_often_3 23 rfl) (by decide)) rfl ?_
  refine zr_clp (zr_runS (As := [.long v6, .long r17, .int v5]) (rest := []) C sw_X9_282 (c_X9_lowest l g v6 r17 v5 σ _ h) (by decide) (by decide) rfl rfl (Nat.le_of_ble_eq_true rfl) (zo_184 (p := 120) (k := 282) (a := 1) (b := 26) (zby_w zwX9_often_3 24 rfl) (zby_w zwX9_often_3 25 rfl) (zby_w zwX9_often_3 26 rfl) (by decide))) (fun r19 h => ?_)
  exact hret _ _ _ h (zo_173 (p := 123) (zby_w zwX9_often_3 27 rfl))

def wp_X9_often_L70 (v1 : Int32) (v2 : Int32) (v3 : Int32) (v5 : Int32) (σ : zST) (Post : Int64 → Prop) : Nat → Int64 → Int32 → Prop
  | 0, _, _ => False
  | N + 1, v6, v8 => (if v3 < v8 then wp_X9_often_J111 v1 v3 v5 v6 σ Post else wp_X9_choose v3 v8 σ (fun r21 => wp_X9_power v2 v8 σ (fun r23 => wp_X9_power (v1 - v2) (v3 - v8) σ (fun r25 => ∀ x27 : Int64, x27 = (v6 + ((r21 * r23) * r25)) → wp_X9_often_L70 v1 v2 v3 v5 σ Post N x27 (v8 + 1)))))

set_option maxRecDepth 100000 in
set_option maxHeartbeats 4000000 in
theorem g_X9_often_L70 {p : Program} {l : Launch} {e : Env} {R : Room} {s : State} {m : MethodId} {args : Array Value} {below : List Frame} {meth : Method} {c : Code} {Q : State → Prop} {g : zG} {n1 n2 : Nat} (C : zCX p R s m args meth c g n1 n2 cX9_often 9 RX9 1 30) {v1 : Int32} {v2 : Int32} {v3 : Int32} {v5 : Int32} {σ : zST}  {Post : Int64 → Prop} (hret : ∀ (v : Int64) (pc : Nat) (lv : List (Nat × Value)), Post v → decode cX9_often pc = .ok (.lreturn, 1) → zGG p l e R s m args below meth c Q g n1 n2 9 pc lv [.long v] σ) : ∀ (N : Nat) (v6 : Int64) (v8 : Int32) , wp_X9_often_L70 v1 v2 v3 v5 σ Post N v6 v8 → zGG p l e R s m args below meth c Q g n1 n2 9 70 [(1, .int v1), (2, .int v2), (3, .int v3), (5, .int v5), (6, .long v6), (8, .int v8)] [] σ := by
  intro N
  induction N with
  | zero =>
    intro v6 v8 h
    exact h.elim
  | succ N ih =>
    intro v6 v8 h
    rw [wp_X9_often_L70] at h
    refine zr_iload C (zo_21 (p := 70) (k := 8) (a := 8) (zby_w zwX9_often_2 6 rfl) (zby_w zwX9_often_2 7 rfl) (by decide)) rfl ?_
    refine zr_iload_n C (zo_29 (p := 72) (zby_w zwX9_often_2 8 rfl)) rfl ?_
    refine zr_icmp_gt C 111 (zo_163 (p := 73) (k := 38) (a := 0) (b := 38) (zby_w zwX9_often_2 9 rfl) (zby_w zwX9_often_2 10 rfl) (zby_w zwX9_often_2 11 rfl) (by decide)) (by decide) (fun hc16 => ?_) (fun hc16 => ?_)
    · rw [if_pos hc16] at h
      exact zr_pick [0, 2, 3, 4] rfl (g_X9_often_J111 C hret h)
    · rw [if_neg hc16] at h
      refine zr_lload C (zo_22 (p := 76) (k := 6) (a := 6) (zby_w zwX9_often_2 12 rfl) (zby_w zwX9_often_2 13 rfl) (by decide)) rfl ?_
      refine zr_iload_n C (zo_29 (p := 78) (zby_w zwX9_often_2 14 rfl)) rfl ?_
      refine zr_iload C (zo_21 (p := 79) (k := 8) (a := 8) (zby_w zwX9_often_2 15 rfl) (zby_w zwX9_often_2 16 rfl) (by decide)) rfl ?_
      refine zr_clp (zr_runS (As := [.int v3, .int v8]) (rest := [.long v6]) C sw_X9_288 (c_X9_choose l g v3 v8 σ _ h) (by decide) (by decide) rfl rfl (Nat.le_of_ble_eq_true rfl) (zo_184 (p := 81) (k := 288) (a := 1) (b := 32) (zby_w zwX9_often_2 17 rfl) (zby_w zwX9_often_2 18 rfl) (zby_w zwX9_often_2 19 rfl) (by decide))) (fun r21 h => ?_)
      refine zr_iload_n C (zo_28 (p := 84) (zby_w zwX9_often_2 20 rfl)) rfl ?_
      refine zr_iload C (zo_21 (p := 85) (k := 8) (a := 8) (zby_w zwX9_often_2 21 rfl) (zby_w zwX9_often_2 22 rfl) (by decide)) rfl ?_
      refine zr_clp (zr_runS (As := [.int v2, .int v8]) (rest := [.long r21, .long v6]) C sw_X9_292 (c_X9_power l g v2 v8 σ _ h) (by decide) (by decide) rfl rfl (Nat.le_of_ble_eq_true rfl) (zo_184 (p := 87) (k := 292) (a := 1) (b := 36) (zby_w zwX9_often_2 23 rfl) (zby_w zwX9_often_2 24 rfl) (zby_w zwX9_often_2 25 rfl) (by decide))) (fun r23 h => ?_)
      refine zr_lmul C (zo_105 (p := 90) (zby_w zwX9_often_2 26 rfl)) ?_
      refine zr_iload_n C (zo_27 (p := 91) (zby_w zwX9_often_2 27 rfl)) rfl ?_
      refine zr_iload_n C (zo_28 (p := 92) (zby_w zwX9_often_2 28 rfl)) rfl ?_
      refine zr_isub C (zo_100 (p := 93) (zby_w zwX9_often_2 29 rfl)) ?_
      refine zr_iload_n C (zo_29 (p := 94) (zby_w zwX9_often_2 30 rfl)) rfl ?_
      refine zr_iload C (zo_21 (p := 95) (k := 8) (a := 8) (zby_w zwX9_often_2 31 rfl) (zby_w zwX9_often_2 32 rfl) (by decide)) rfl ?_
      refine zr_isub C (zo_100 (p := 97) (zby_w zwX9_often_3 1 rfl)) ?_
      refine zr_clp (zr_runS (As := [.int (v1 - v2), .int (v3 - v8)]) (rest := [.long (r21 * r23), .long v6]) C sw_X9_292 (c_X9_power l g (v1 - v2) (v3 - v8) σ _ h) (by decide) (by decide) rfl rfl (Nat.le_of_ble_eq_true rfl) (zo_184 (p := 98) (k := 292) (a := 1) (b := 36) (zby_w zwX9_often_3 2 rfl) (zby_w zwX9_often_3 3 rfl) (zby_w zwX9_often_3 4 rfl) (by decide))) (fun r25 h => ?_)
      refine zr_lmul C (zo_105 (p := 101) (zby_w zwX9_often_3 5 rfl)) ?_
      refine zr_ladd C (zo_97 (p := 102) (zby_w zwX9_often_3 6 rfl)) ?_
      refine zr_topl (fun x27 hx27 => ?_)
      replace h := h x27 hx27
      refine zr_lstore C [(6, .long x27), (1, .int v1), (2, .int v2), (3, .int v3), (5, .int v5), (8, .int v8)] (zo_55 (p := 103) (k := 6) (a := 6) (zby_w zwX9_often_3 7 rfl) (zby_w zwX9_often_3 8 rfl) (by decide)) (by decide) rfl ?_
      refine zr_iinc C (v8 + 1) [(8, .int (v8 + 1)), (6, .long x27), (1, .int v1), (2, .int v2), (3, .int v3), (5, .int v5)] d_X9_often_105 rfl rfl (by decide) rfl ?_
      refine zr_goto C 70 (zo_167 (p := 108) (k := (-38)) (a := 255) (b := 218) (zby_w zwX9_often_3 12 rfl) (zby_w zwX9_often_3 13 rfl) (zby_w zwX9_often_3 14 rfl) (by decide)) (by decide) ?_
      exact zr_pick [2, 3, 4, 5, 1, 0] rfl (ih x27 (v8 + 1) h)

def wp_X9_often (p1 : Int32) (p2 : Int32) (p3 : Int32) (p4 : Int32) (p5 : Int32) (σ : zST) (Post : Int64 → Prop) : Prop := wp_X9_in (p1.toInt64) (1 : Int64) (8 : Int64) σ (fun r1 => (if r1 = (0) then Post (-1000000000000000002 : Int64) else wp_X9_in (p2.toInt64) (0 : Int64) (p1.toInt64) σ (fun r4 => (if r4 = (0) then Post (-1000000000000000002 : Int64) else wp_X9_in (p3.toInt64) (1 : Int64) (8 : Int64) σ (fun r7 => (if r7 = (0) then Post (-1000000000000000002 : Int64) else wp_X9_in (p4.toInt64) (0 : Int64) (8 : Int64) σ (fun r10 => (if r10 = (0) then Post (-1000000000000000002 : Int64) else wp_X9_in (p5.toInt64) (0 : Int64) (1 : Int64) σ (fun r13 => (if r13 = (0) then Post (-1000000000000000002 : Int64) else ∃ M28 : Nat, wp_X9_often_L70 p1 p2 p3 p5 σ Post M28 (0 : Int64) p4))))))))))
set_option maxRecDepth 100000 in
set_option maxHeartbeats 4000000 in
theorem g_X9_often {p : Program} {l : Launch} {e : Env} {R : Room} {s : State} {m : MethodId} {args : Array Value} {below : List Frame} {meth : Method} {c : Code} {Q : State → Prop} {g : zG} {n1 n2 : Nat} (C : zCX p R s m args meth c g n1 n2 cX9_often 9 RX9 1 30) {p1 : Int32} {p2 : Int32} {p3 : Int32} {p4 : Int32} {p5 : Int32} {σ : zST} {Post : Int64 → Prop} (hret : ∀ (v : Int64) (pc : Nat) (lv : List (Nat × Value)), Post v → decode cX9_often pc = .ok (.lreturn, 1) → zGG p l e R s m args below meth c Q g n1 n2 9 pc lv [.long v] σ) (h : wp_X9_often p1 p2 p3 p4 p5 σ Post) : zGG p l e R s m args below meth c Q g n1 n2 9 0 [(0, .ref (g.2.1 69)), (1, .int p1), (2, .int p2), (3, .int p3), (4, .int p4), (5, .int p5)] [] σ := by
  unfold wp_X9_often at h
  refine zr_iload_n C (zo_27 (p := 0) (zby_w zwX9_often_0 0 rfl)) rfl ?_
  refine zr_i2l C (zo_133 (p := 1) (zby_w zwX9_often_0 1 rfl)) ?_
  refine zr_lconst C (1 : Int64) (zo_10 (p := 2) (zby_w zwX9_often_0 2 rfl)) (by decide) ?_
  refine zr_ldc2 C (v := (8 : Int64)) cl_X9_286 (zo_20 (p := 3) (k := 286) (a := 1) (b := 30) (zby_w zwX9_often_0 3 rfl) (zby_w zwX9_often_0 4 rfl) (zby_w zwX9_often_0 5 rfl) (by decide)) ?_
  refine zr_cip (zr_runS (As := [.long (p1.toInt64), .long (1 : Int64), .long (8 : Int64)]) (rest := []) C sw_X9_89 (c_X9_in l g (p1.toInt64) (1 : Int64) (8 : Int64) σ _ h) (by decide) (by decide) rfl rfl (Nat.le_of_ble_eq_true rfl) (zo_184 (p := 6) (k := 89) (a := 0) (b := 89) (zby_w zwX9_often_0 6 rfl) (zby_w zwX9_often_0 7 rfl) (zby_w zwX9_often_0 8 rfl) (by decide))) (fun r1 h => ?_)
  refine zr_if_eq C 59 (zo_153 (p := 9) (k := 50) (a := 0) (b := 50) (zby_w zwX9_often_0 9 rfl) (zby_w zwX9_often_0 10 rfl) (zby_w zwX9_often_0 11 rfl) (by decide)) (by decide) (fun hc3 => ?_) (fun hc3 => ?_)
  · rw [if_pos hc3] at h
    refine zr_ldc2 C (v := (-1000000000000000002 : Int64)) cl_X9_280 d_X9_often_59 ?_
    exact hret _ _ _ h d_X9_often_62
  · rw [if_neg hc3] at h
    refine zr_iload_n C (zo_28 (p := 12) (zby_w zwX9_often_0 12 rfl)) rfl ?_
    refine zr_i2l C (zo_133 (p := 13) (zby_w zwX9_often_0 13 rfl)) ?_
    refine zr_lconst C (0 : Int64) (zo_9 (p := 14) (zby_w zwX9_often_0 14 rfl)) (by decide) ?_
    refine zr_iload_n C (zo_27 (p := 15) (zby_w zwX9_often_0 15 rfl)) rfl ?_
    refine zr_i2l C (zo_133 (p := 16) (zby_w zwX9_often_0 16 rfl)) ?_
    refine zr_cip (zr_runS (As := [.long (p2.toInt64), .long (0 : Int64), .long (p1.toInt64)]) (rest := []) C sw_X9_89 (c_X9_in l g (p2.toInt64) (0 : Int64) (p1.toInt64) σ _ h) (by decide) (by decide) rfl rfl (Nat.le_of_ble_eq_true rfl) (zo_184 (p := 17) (k := 89) (a := 0) (b := 89) (zby_w zwX9_often_0 17 rfl) (zby_w zwX9_often_0 18 rfl) (zby_w zwX9_often_0 19 rfl) (by decide))) (fun r4 h => ?_)
    refine zr_if_eq C 59 (zo_153 (p := 20) (k := 39) (a := 0) (b := 39) (zby_w zwX9_often_0 20 rfl) (zby_w zwX9_often_0 21 rfl) (zby_w zwX9_often_0 22 rfl) (by decide)) (by decide) (fun hc6 => ?_) (fun hc6 => ?_)
    · rw [if_pos hc6] at h
      refine zr_ldc2 C (v := (-1000000000000000002 : Int64)) cl_X9_280 d_X9_often_59 ?_
      exact hret _ _ _ h d_X9_often_62
    · rw [if_neg hc6] at h
      refine zr_iload_n C (zo_29 (p := 23) (zby_w zwX9_often_0 23 rfl)) rfl ?_
      refine zr_i2l C (zo_133 (p := 24) (zby_w zwX9_often_0 24 rfl)) ?_
      refine zr_lconst C (1 : Int64) (zo_10 (p := 25) (zby_w zwX9_often_0 25 rfl)) (by decide) ?_
      refine zr_ldc2 C (v := (8 : Int64)) cl_X9_286 (zo_20 (p := 26) (k := 286) (a := 1) (b := 30) (zby_w zwX9_often_0 26 rfl) (zby_w zwX9_often_0 27 rfl) (zby_w zwX9_often_0 28 rfl) (by decide)) ?_
      refine zr_cip (zr_runS (As := [.long (p3.toInt64), .long (1 : Int64), .long (8 : Int64)]) (rest := []) C sw_X9_89 (c_X9_in l g (p3.toInt64) (1 : Int64) (8 : Int64) σ _ h) (by decide) (by decide) rfl rfl (Nat.le_of_ble_eq_true rfl) (zo_184 (p := 29) (k := 89) (a := 0) (b := 89) (zby_w zwX9_often_0 29 rfl) (zby_w zwX9_often_0 30 rfl) (zby_w zwX9_often_0 31 rfl) (by decide))) (fun r7 h => ?_)
      refine zr_if_eq C 59 (zo_153 (p := 32) (k := 27) (a := 0) (b := 27) (zby_w zwX9_often_1 0 rfl) (zby_w zwX9_often_1 1 rfl) (zby_w zwX9_often_1 2 rfl) (by decide)) (by decide) (fun hc9 => ?_) (fun hc9 => ?_)
      · rw [if_pos hc9] at h
        refine zr_ldc2 C (v := (-1000000000000000002 : Int64)) cl_X9_280 d_X9_often_59 ?_
        exact hret _ _ _ h d_X9_often_62
      · rw [if_neg hc9] at h
        refine zr_iload C (zo_21 (p := 35) (k := 4) (a := 4) (zby_w zwX9_often_1 3 rfl) (zby_w zwX9_often_1 4 rfl) (by decide)) rfl ?_
        refine zr_i2l C (zo_133 (p := 37) (zby_w zwX9_often_1 5 rfl)) ?_
        refine zr_lconst C (0 : Int64) (zo_9 (p := 38) (zby_w zwX9_often_1 6 rfl)) (by decide) ?_
        refine zr_ldc2 C (v := (8 : Int64)) cl_X9_286 (zo_20 (p := 39) (k := 286) (a := 1) (b := 30) (zby_w zwX9_often_1 7 rfl) (zby_w zwX9_often_1 8 rfl) (zby_w zwX9_often_1 9 rfl) (by decide)) ?_
        refine zr_cip (zr_runS (As := [.long (p4.toInt64), .long (0 : Int64), .long (8 : Int64)]) (rest := []) C sw_X9_89 (c_X9_in l g (p4.toInt64) (0 : Int64) (8 : Int64) σ _ h) (by decide) (by decide) rfl rfl (Nat.le_of_ble_eq_true rfl) (zo_184 (p := 42) (k := 89) (a := 0) (b := 89) (zby_w zwX9_often_1 10 rfl) (zby_w zwX9_often_1 11 rfl) (zby_w zwX9_often_1 12 rfl) (by decide))) (fun r10 h => ?_)
        refine zr_if_eq C 59 (zo_153 (p := 45) (k := 14) (a := 0) (b := 14) (zby_w zwX9_often_1 13 rfl) (zby_w zwX9_often_1 14 rfl) (zby_w zwX9_often_1 15 rfl) (by decide)) (by decide) (fun hc12 => ?_) (fun hc12 => ?_)
        · rw [if_pos hc12] at h
          refine zr_ldc2 C (v := (-1000000000000000002 : Int64)) cl_X9_280 d_X9_often_59 ?_
          exact hret _ _ _ h d_X9_often_62
        · rw [if_neg hc12] at h
          refine zr_iload C (zo_21 (p := 48) (k := 5) (a := 5) (zby_w zwX9_often_1 16 rfl) (zby_w zwX9_often_1 17 rfl) (by decide)) rfl ?_
          refine zr_i2l C (zo_133 (p := 50) (zby_w zwX9_often_1 18 rfl)) ?_
          refine zr_lconst C (0 : Int64) (zo_9 (p := 51) (zby_w zwX9_often_1 19 rfl)) (by decide) ?_
          refine zr_lconst C (1 : Int64) (zo_10 (p := 52) (zby_w zwX9_often_1 20 rfl)) (by decide) ?_
          refine zr_cip (zr_runS (As := [.long (p5.toInt64), .long (0 : Int64), .long (1 : Int64)]) (rest := []) C sw_X9_89 (c_X9_in l g (p5.toInt64) (0 : Int64) (1 : Int64) σ _ h) (by decide) (by decide) rfl rfl (Nat.le_of_ble_eq_true rfl) (zo_184 (p := 53) (k := 89) (a := 0) (b := 89) (zby_w zwX9_often_1 21 rfl) (zby_w zwX9_often_1 22 rfl) (zby_w zwX9_often_1 23 rfl) (by decide))) (fun r13 h => ?_)
          refine zr_if_ne C 63 (zo_154 (p := 56) (k := 7) (a := 0) (b := 7) (zby_w zwX9_often_1 24 rfl) (zby_w zwX9_often_1 25 rfl) (zby_w zwX9_often_1 26 rfl) (by decide)) (by decide) (fun hc15 => ?_) (fun hc15 => ?_)
          · rw [if_neg hc15] at h
            refine zr_lconst C (0 : Int64) (zo_9 (p := 63) (zby_w zwX9_often_1 31 rfl)) (by decide) ?_
            refine zr_lstore C [(6, .long (0 : Int64)), (0, .ref (g.2.1 69)), (1, .int p1), (2, .int p2), (3, .int p3), (4, .int p4), (5, .int p5)] (zo_55 (p := 64) (k := 6) (a := 6) (zby_w zwX9_often_2 0 rfl) (zby_w zwX9_often_2 1 rfl) (by decide)) (by decide) rfl ?_
            refine zr_iload C (zo_21 (p := 66) (k := 4) (a := 4) (zby_w zwX9_often_2 2 rfl) (zby_w zwX9_often_2 3 rfl) (by decide)) rfl ?_
            refine zr_istore C [(8, .int p4), (6, .long (0 : Int64)), (0, .ref (g.2.1 69)), (1, .int p1), (2, .int p2), (3, .int p3), (4, .int p4), (5, .int p5)] (zo_54 (p := 68) (k := 8) (a := 8) (zby_w zwX9_often_2 4 rfl) (zby_w zwX9_often_2 5 rfl) (by decide)) (by decide) rfl ?_
            obtain ⟨M28, h⟩ := h
            exact zr_pick [3, 4, 5, 7, 1, 0] rfl (g_X9_often_L70 C hret M28 (0 : Int64) p4 h)
          · rw [if_pos hc15] at h
            refine zr_ldc2 C (v := (-1000000000000000002 : Int64)) cl_X9_280 d_X9_often_59 ?_
            exact hret _ _ _ h d_X9_often_62
set_option maxRecDepth 20000 in
theorem c_X9_often (l : Launch) (g : zG) (p1 : Int32) (p2 : Int32) (p3 : Int32) (p4 : Int32) (p5 : Int32) (σ : zST) (Post : Int64 → Prop) (h : wp_X9_often p1 p2 p3 p4 p5 σ Post) : Met l yX9_often (Cond.code yX9_often cX9_often 9 (some .long) :: zGW) (zRm 1 30) (va_Pc [.ref (g.2.1 69), .int p1, .int p2, .int p3, .int p4, .int p5] (zPP g σ)) (va_Ql (fun r u => Post r ∧ u = σ) (zBB g) (zA g)) 0 0 (zA g) :=
  zMet (by decide) (Nat.le_of_ble_eq_true rfl) (fun p e s m below meth c hr C => g_X9_often C (fun v pc lv hp hd => zr_lret C hr ⟨hp, rfl⟩ hd) h)
def wp_X9_roll (p1 : Int32) (p2 : Int32) (σ : zST) (Post : Int32 → zST → Prop) : Prop := wp_X9_in (p1.toInt64) (0 : Int64) (255 : Int64) σ (fun r1 => (if r1 = (0) then Post (-2 : Int32) σ else wp_X9_ones p1 σ (fun r4 => wp_X9_in (p2.toInt64) (r4.toInt64) (8 : Int64) σ (fun r6 => (if r6 = (0) then Post (-2 : Int32) σ else (if (σ.1 69 25) = (6 : Int32) then Post (-4 : Int32) σ else vp_in (σ.1 69 25) 6 ∧ ∀ σ11 : zST, σ11 = (wI σ 78 (σ.1 69 25).toNatClampNeg p1) → vp_in (σ11.1 69 25) 6 ∧ ∀ σ13 : zST, σ13 = (wI σ11 79 (σ11.1 69 25).toNatClampNeg p2) → ∀ σ14 : zST, σ14 = (wI σ13 69 25 ((σ13.1 69 25) + (1 : Int32))) → Post (σ14.1 69 25) σ14))))))
set_option maxRecDepth 100000 in
set_option maxHeartbeats 4000000 in
theorem g_X9_roll {p : Program} {l : Launch} {e : Env} {R : Room} {s : State} {m : MethodId} {args : Array Value} {below : List Frame} {meth : Method} {c : Code} {Q : State → Prop} {g : zG} {n1 n2 : Nat} (C : zCX p R s m args meth c g n1 n2 cX9_roll 3 RX9 1 25) {p1 : Int32} {p2 : Int32} {σ : zST} {Post : Int32 → zST → Prop} (hret : ∀ (v : Int32) (σ : zST) (pc : Nat) (lv : List (Nat × Value)), Post v σ → decode cX9_roll pc = .ok (.ireturn, 1) → zGG p l e R s m args below meth c Q g n1 n2 3 pc lv [.int v] σ) (h : wp_X9_roll p1 p2 σ Post) : zGG p l e R s m args below meth c Q g n1 n2 3 0 [(0, .ref (g.2.1 69)), (1, .int p1), (2, .int p2)] [] σ := by
  unfold wp_X9_roll at h
  refine zr_iload_n C (zo_27 (p := 0) (zby_w zwX9_roll_0 0 rfl)) rfl ?_
  refine zr_i2l C (zo_133 (p := 1) (zby_w zwX9_roll_0 1 rfl)) ?_
  refine zr_lconst C (0 : Int64) (zo_9 (p := 2) (zby_w zwX9_roll_0 2 rfl)) (by decide) ?_
  refine zr_ldc2 C (v := (255 : Int64)) cl_X9_295 (zo_20 (p := 3) (k := 295) (a := 1) (b := 39) (zby_w zwX9_roll_0 3 rfl) (zby_w zwX9_roll_0 4 rfl) (zby_w zwX9_roll_0 5 rfl) (by decide)) ?_
  refine zr_cip (zr_runS (As := [.long (p1.toInt64), .long (0 : Int64), .long (255 : Int64)]) (rest := []) C sw_X9_89 (c_X9_in l g (p1.toInt64) (0 : Int64) (255 : Int64) σ _ h) (by decide) (by decide) rfl rfl (Nat.le_of_ble_eq_true rfl) (zo_184 (p := 6) (k := 89) (a := 0) (b := 89) (zby_w zwX9_roll_0 6 rfl) (zby_w zwX9_roll_0 7 rfl) (zby_w zwX9_roll_0 8 rfl) (by decide))) (fun r1 h => ?_)
  refine zr_if_eq C 28 (zo_153 (p := 9) (k := 19) (a := 0) (b := 19) (zby_w zwX9_roll_0 9 rfl) (zby_w zwX9_roll_0 10 rfl) (zby_w zwX9_roll_0 11 rfl) (by decide)) (by decide) (fun hc3 => ?_) (fun hc3 => ?_)
  · rw [if_pos hc3] at h
    refine zr_bipush C (-2 : Int32) d_X9_roll_28 (by decide) ?_
    exact hret _ _ _ _ h d_X9_roll_30
  · rw [if_neg hc3] at h
    refine zr_iload_n C (zo_28 (p := 12) (zby_w zwX9_roll_0 12 rfl)) rfl ?_
    refine zr_i2l C (zo_133 (p := 13) (zby_w zwX9_roll_0 13 rfl)) ?_
    refine zr_iload_n C (zo_27 (p := 14) (zby_w zwX9_roll_0 14 rfl)) rfl ?_
    refine zr_cip (zr_runS (As := [.int p1]) (rest := [.long (p2.toInt64)]) C sw_X9_108 (c_X9_ones l g p1 σ _ h) (by decide) (by decide) rfl rfl (Nat.le_of_ble_eq_true rfl) (zo_184 (p := 15) (k := 108) (a := 0) (b := 108) (zby_w zwX9_roll_0 15 rfl) (zby_w zwX9_roll_0 16 rfl) (zby_w zwX9_roll_0 17 rfl) (by decide))) (fun r4 h => ?_)
    refine zr_i2l C (zo_133 (p := 18) (zby_w zwX9_roll_0 18 rfl)) ?_
    refine zr_ldc2 C (v := (8 : Int64)) cl_X9_286 (zo_20 (p := 19) (k := 286) (a := 1) (b := 30) (zby_w zwX9_roll_0 19 rfl) (zby_w zwX9_roll_0 20 rfl) (zby_w zwX9_roll_0 21 rfl) (by decide)) ?_
    refine zr_cip (zr_runS (As := [.long (p2.toInt64), .long (r4.toInt64), .long (8 : Int64)]) (rest := []) C sw_X9_89 (c_X9_in l g (p2.toInt64) (r4.toInt64) (8 : Int64) σ _ h) (by decide) (by decide) rfl rfl (Nat.le_of_ble_eq_true rfl) (zo_184 (p := 22) (k := 89) (a := 0) (b := 89) (zby_w zwX9_roll_0 22 rfl) (zby_w zwX9_roll_0 23 rfl) (zby_w zwX9_roll_0 24 rfl) (by decide))) (fun r6 h => ?_)
    refine zr_if_ne C 31 (zo_154 (p := 25) (k := 6) (a := 0) (b := 6) (zby_w zwX9_roll_0 25 rfl) (zby_w zwX9_roll_0 26 rfl) (zby_w zwX9_roll_0 27 rfl) (by decide)) (by decide) (fun hc8 => ?_) (fun hc8 => ?_)
    · rw [if_neg hc8] at h
      refine zr_aload_n C (zo_42 (p := 31) (zby_w zwX9_roll_0 31 rfl)) rfl ?_
      refine zr_geti C fw_X9_297 (sh_69) rfl (zo_180 (p := 32) (k := 297) (a := 1) (b := 41) (zby_w zwX9_roll_1 0 rfl) (zby_w zwX9_roll_1 1 rfl) (zby_w zwX9_roll_1 2 rfl) (by decide)) ?_
      refine zr_bipush C (6 : Int32) (zo_16 (p := 35) (k := 6) (a := 6) (zby_w zwX9_roll_1 3 rfl) (zby_w zwX9_roll_1 4 rfl) (by decide)) (by decide) ?_
      refine zr_icmp_ne C 43 (zo_160 (p := 37) (k := 6) (a := 0) (b := 6) (zby_w zwX9_roll_1 5 rfl) (zby_w zwX9_roll_1 6 rfl) (zby_w zwX9_roll_1 7 rfl) (by decide)) (by decide) (fun hc9 => ?_) (fun hc9 => ?_)
      · rw [if_neg hc9] at h
        refine zr_aload_n C (zo_42 (p := 43) (zby_w zwX9_roll_1 11 rfl)) rfl ?_
        refine zr_getr (u := 78) C fw_X9_34 (sh_69) rfl (zo_180 (p := 44) (k := 34) (a := 0) (b := 34) (zby_w zwX9_roll_1 12 rfl) (zby_w zwX9_roll_1 13 rfl) (zby_w zwX9_roll_1 14 rfl) (by decide)) ?_
        refine zr_aload_n C (zo_42 (p := 47) (zby_w zwX9_roll_1 15 rfl)) rfl ?_
        refine zr_geti C fw_X9_297 (sh_69) rfl (zo_180 (p := 48) (k := 297) (a := 1) (b := 41) (zby_w zwX9_roll_1 16 rfl) (zby_w zwX9_roll_1 17 rfl) (zby_w zwX9_roll_1 18 rfl) (by decide)) ?_
        refine zr_iload_n C (zo_27 (p := 51) (zby_w zwX9_roll_1 19 rfl)) rfl ?_
        obtain ⟨ho10, h⟩ := h
        refine zr_iast C (sh_78) ho10 (zo_79 (p := 52) (zby_w zwX9_roll_1 20 rfl)) ?_
        refine zr_aload_n C (zo_42 (p := 53) (zby_w zwX9_roll_1 21 rfl)) rfl ?_
        refine zr_getr (u := 79) C fw_X9_37 (sh_69) rfl (zo_180 (p := 54) (k := 37) (a := 0) (b := 37) (zby_w zwX9_roll_1 22 rfl) (zby_w zwX9_roll_1 23 rfl) (zby_w zwX9_roll_1 24 rfl) (by decide)) ?_
        refine zr_aload_n C (zo_42 (p := 57) (zby_w zwX9_roll_1 25 rfl)) rfl ?_
        refine zr_tops (fun σ11 hσ11 => ?_)
        replace h := h σ11 hσ11
        refine zr_geti C fw_X9_297 (sh_69) rfl (zo_180 (p := 58) (k := 297) (a := 1) (b := 41) (zby_w zwX9_roll_1 26 rfl) (zby_w zwX9_roll_1 27 rfl) (zby_w zwX9_roll_1 28 rfl) (by decide)) ?_
        refine zr_iload_n C (zo_28 (p := 61) (zby_w zwX9_roll_1 29 rfl)) rfl ?_
        obtain ⟨ho12, h⟩ := h
        refine zr_iast C (sh_79) ho12 (zo_79 (p := 62) (zby_w zwX9_roll_1 30 rfl)) ?_
        refine zr_aload_n C (zo_42 (p := 63) (zby_w zwX9_roll_1 31 rfl)) rfl ?_
        refine zr_dup C (zo_89 (p := 64) (zby_w zwX9_roll_2 0 rfl)) rfl ?_
        refine zr_tops (fun σ13 hσ13 => ?_)
        replace h := h σ13 hσ13
        refine zr_geti C fw_X9_297 (sh_69) rfl (zo_180 (p := 65) (k := 297) (a := 1) (b := 41) (zby_w zwX9_roll_2 1 rfl) (zby_w zwX9_roll_2 2 rfl) (zby_w zwX9_roll_2 3 rfl) (by decide)) ?_
        refine zr_iconst C (1 : Int32) (zo_4 (p := 68) (zby_w zwX9_roll_2 4 rfl)) (by decide) ?_
        refine zr_iadd C (zo_96 (p := 69) (zby_w zwX9_roll_2 5 rfl)) ?_
        refine zr_puti C fw_X9_297 pw_X9_25 (sh_69) rfl rfl rfl (zo_181 (p := 70) (k := 297) (a := 1) (b := 41) (zby_w zwX9_roll_2 6 rfl) (zby_w zwX9_roll_2 7 rfl) (zby_w zwX9_roll_2 8 rfl) (by decide)) ?_
        refine zr_aload_n C (zo_42 (p := 73) (zby_w zwX9_roll_2 9 rfl)) rfl ?_
        refine zr_tops (fun σ14 hσ14 => ?_)
        replace h := h σ14 hσ14
        refine zr_geti C fw_X9_297 (sh_69) rfl (zo_180 (p := 74) (k := 297) (a := 1) (b := 41) (zby_w zwX9_roll_2 10 rfl) (zby_w zwX9_roll_2 11 rfl) (zby_w zwX9_roll_2 12 rfl) (by decide)) ?_
        exact hret _ _ _ _ h (zo_172 (p := 77) (zby_w zwX9_roll_2 13 rfl))
      · rw [if_pos hc9] at h
        refine zr_bipush C (-4 : Int32) (zo_16 (p := 40) (k := (-4)) (a := 252) (zby_w zwX9_roll_1 8 rfl) (zby_w zwX9_roll_1 9 rfl) (by decide)) (by decide) ?_
        exact hret _ _ _ _ h (zo_172 (p := 42) (zby_w zwX9_roll_1 10 rfl))
    · rw [if_pos hc8] at h
      refine zr_bipush C (-2 : Int32) d_X9_roll_28 (by decide) ?_
      exact hret _ _ _ _ h d_X9_roll_30
set_option maxRecDepth 20000 in
theorem c_X9_roll (l : Launch) (g : zG) (p1 : Int32) (p2 : Int32) (σ : zST) (Post : Int32 → zST → Prop) (h : wp_X9_roll p1 p2 σ Post) : Met l yX9_roll (Cond.code yX9_roll cX9_roll 3 (some .int) :: zGW) (zRm 1 25) (va_Pc [.ref (g.2.1 69), .int p1, .int p2] (zPP g σ)) (va_Qi Post (zBB g) (zA g)) 0 0 (zA g) :=
  zMet (by decide) (Nat.le_of_ble_eq_true rfl) (fun p e s m below meth c hr C => g_X9_roll C (fun v σ pc lv hp hd => zr_iret C hr hp hd) h)
def wp_X9_forget (σ : zST) (Post : Int32 → zST → Prop) : Prop := ∀ x1 : Int32, x1 = σ.1 69 25 → Post x1 (wI σ 69 25 (0 : Int32))
set_option maxRecDepth 100000 in
set_option maxHeartbeats 4000000 in
theorem g_X9_forget {p : Program} {l : Launch} {e : Env} {R : Room} {s : State} {m : MethodId} {args : Array Value} {below : List Frame} {meth : Method} {c : Code} {Q : State → Prop} {g : zG} {n1 n2 : Nat} (C : zCX p R s m args meth c g n1 n2 cX9_forget 2 RX9 0 0) {σ : zST} {Post : Int32 → zST → Prop} (hret : ∀ (v : Int32) (σ : zST) (pc : Nat) (lv : List (Nat × Value)), Post v σ → decode cX9_forget pc = .ok (.ireturn, 1) → zGG p l e R s m args below meth c Q g n1 n2 2 pc lv [.int v] σ) (h : wp_X9_forget σ Post) : zGG p l e R s m args below meth c Q g n1 n2 2 0 [(0, .ref (g.2.1 69))] [] σ := by
  unfold wp_X9_forget at h
  refine zr_aload_n C (zo_42 (p := 0) (zby_w zwX9_forget_0 0 rfl)) rfl ?_
  refine zr_geti C fw_X9_297 (sh_69) rfl (zo_180 (p := 1) (k := 297) (a := 1) (b := 41) (zby_w zwX9_forget_0 1 rfl) (zby_w zwX9_forget_0 2 rfl) (zby_w zwX9_forget_0 3 rfl) (by decide)) ?_
  refine zr_topi (fun x1 hx1 => ?_)
  replace h := h x1 hx1
  refine zr_istore_n C [(1, .int x1), (0, .ref (g.2.1 69))] (zo_60 (p := 4) (zby_w zwX9_forget_0 4 rfl)) (by decide) rfl ?_
  refine zr_aload_n C (zo_42 (p := 5) (zby_w zwX9_forget_0 5 rfl)) rfl ?_
  refine zr_iconst C (0 : Int32) (zo_3 (p := 6) (zby_w zwX9_forget_0 6 rfl)) (by decide) ?_
  refine zr_puti C fw_X9_297 pw_X9_25 (sh_69) rfl rfl rfl (zo_181 (p := 7) (k := 297) (a := 1) (b := 41) (zby_w zwX9_forget_0 7 rfl) (zby_w zwX9_forget_0 8 rfl) (zby_w zwX9_forget_0 9 rfl) (by decide)) ?_
  refine zr_iload_n C (zo_27 (p := 10) (zby_w zwX9_forget_0 10 rfl)) rfl ?_
  exact hret _ _ _ _ h (zo_172 (p := 11) (zby_w zwX9_forget_0 11 rfl))
set_option maxRecDepth 20000 in
theorem c_X9_forget (l : Launch) (g : zG) (σ : zST) (Post : Int32 → zST → Prop) (h : wp_X9_forget σ Post) : Met l yX9_forget (Cond.code yX9_forget cX9_forget 2 (some .int) :: zGW) (zRm 0 0) (va_Pc [.ref (g.2.1 69)] (zPP g σ)) (va_Qi Post (zBB g) (zA g)) 0 0 (zA g) :=
  zMet (by decide) (Nat.le_of_ble_eq_true rfl) (fun p e s m below meth c hr C => g_X9_forget C (fun v σ pc lv hp hd => zr_iret C hr hp hd) h)
def wp_X9_twice_J90 (v1 : Int32) (v2 : Int32) (v3 : Int32) (v4 : Int32) (v5 : Int32) (v6 : Int32) (s0 : Int32) (σ : zST) (K29 : Int32 → Int32 → Prop) : Prop := ∀ z13 : Int32, z13 = (if v6 = (0) then (if s0 = (0) then (0 : Int32) else (1 : Int32)) else (1 : Int32)) → ∀ x17 : Int32, x17 = (v4 + z13) → K29 x17 (v5 + 1)

set_option maxRecDepth 100000 in
set_option maxHeartbeats 4000000 in
theorem g_X9_twice_J90 {p : Program} {l : Launch} {e : Env} {R : Room} {s : State} {m : MethodId} {args : Array Value} {below : List Frame} {meth : Method} {c : Code} {Q : State → Prop} {g : zG} {n1 n2 : Nat} (C : zCX p R s m args meth c g n1 n2 cX9_twice 8 RX9 1 25) {v1 : Int32} {v2 : Int32} {v3 : Int32} {v4 : Int32} {v5 : Int32} {v6 : Int32} {s0 : Int32} {σ : zST} {K29 : Int32 → Int32 → Prop} (hK29 : ∀ (w4 : Int32) (w5 : Int32), K29 w4 w5 → zGG p l e R s m args below meth c Q g n1 n2 8 29 [(0, .ref (g.2.1 69)), (1, .int v1), (2, .int v2), (3, .int v3), (4, .int w4), (5, .int w5)] [] σ) (h : wp_X9_twice_J90 v1 v2 v3 v4 v5 v6 s0 σ K29) : zGG p l e R s m args below meth c Q g n1 n2 8 90 [(0, .ref (g.2.1 69)), (1, .int v1), (2, .int v2), (3, .int v3), (4, .int v4), (5, .int v5), (6, .int v6)] [.int s0] σ := by
  unfold wp_X9_twice_J90 at h
  refine zr_istore C [(7, .int s0), (0, .ref (g.2.1 69)), (1, .int v1), (2, .int v2), (3, .int v3), (4, .int v4), (5, .int v5), (6, .int v6)] (zo_54 (p := 90) (k := 7) (a := 7) (zby_w zwX9_twice_2 26 rfl) (zby_w zwX9_twice_2 27 rfl) (by decide)) (by decide) rfl ?_
  refine zr_iload C (zo_21 (p := 92) (k := 4) (a := 4) (zby_w zwX9_twice_2 28 rfl) (zby_w zwX9_twice_2 29 rfl) (by decide)) rfl ?_
  refine zr_iload C (zo_21 (p := 94) (k := 6) (a := 6) (zby_w zwX9_twice_2 30 rfl) (zby_w zwX9_twice_2 31 rfl) (by decide)) rfl ?_
  have hJ14 : ∀ z13 : Int32, z13 = (if v6 = (0) then (if s0 = (0) then (0 : Int32) else (1 : Int32)) else (1 : Int32)) → zGG p l e R s m args below meth c Q g n1 n2 8 109 [(7, .int s0), (0, .ref (g.2.1 69)), (1, .int v1), (2, .int v2), (3, .int v3), (4, .int v4), (5, .int v5), (6, .int v6)] [.int z13, .int v4] σ := by
    intro z13 hz13
    replace h := h z13 hz13
    refine zr_iadd C (zo_96 (p := 109) (zby_w zwX9_twice_3 13 rfl)) ?_
    refine zr_topi (fun x17 hx17 => ?_)
    replace h := h x17 hx17
    refine zr_istore C [(4, .int x17), (7, .int s0), (0, .ref (g.2.1 69)), (1, .int v1), (2, .int v2), (3, .int v3), (5, .int v5), (6, .int v6)] (zo_54 (p := 110) (k := 4) (a := 4) (zby_w zwX9_twice_3 14 rfl) (zby_w zwX9_twice_3 15 rfl) (by decide)) (by decide) rfl ?_
    refine zr_iinc C (v5 + 1) [(5, .int (v5 + 1)), (4, .int x17), (7, .int s0), (0, .ref (g.2.1 69)), (1, .int v1), (2, .int v2), (3, .int v3), (6, .int v6)] d_X9_twice_112 rfl rfl (by decide) rfl ?_
    refine zr_goto C 29 (zo_167 (p := 115) (k := (-86)) (a := 255) (b := 170) (zby_w zwX9_twice_3 19 rfl) (zby_w zwX9_twice_3 20 rfl) (zby_w zwX9_twice_3 21 rfl) (by decide)) (by decide) ?_
    exact zr_pick [3, 4, 5, 6, 1, 0] rfl (hK29 x17 (v5 + 1) h)
  refine zr_if_ne C 104 (zo_154 (p := 96) (k := 8) (a := 0) (b := 8) (zby_w zwX9_twice_3 0 rfl) (zby_w zwX9_twice_3 1 rfl) (zby_w zwX9_twice_3 2 rfl) (by decide)) (by decide) (fun hc12 => ?_) (fun hc12 => ?_)
  · skip
    refine zr_iconst C (1 : Int32) d_X9_twice_104 (by decide) ?_
    refine zr_goto C 109 d_X9_twice_105 (by decide) ?_
    exact hJ14 _ (by rw [if_neg hc12])
  · skip
    refine zr_iload C (zo_21 (p := 99) (k := 7) (a := 7) (zby_w zwX9_twice_3 3 rfl) (zby_w zwX9_twice_3 4 rfl) (by decide)) rfl ?_
    refine zr_if_eq C 108 (zo_153 (p := 101) (k := 7) (a := 0) (b := 7) (zby_w zwX9_twice_3 5 rfl) (zby_w zwX9_twice_3 6 rfl) (zby_w zwX9_twice_3 7 rfl) (by decide)) (by decide) (fun hc16 => ?_) (fun hc16 => ?_)
    · skip
      refine zr_iconst C (0 : Int32) (zo_3 (p := 108) (zby_w zwX9_twice_3 12 rfl)) (by decide) ?_
      exact hJ14 _ (by rw [if_pos hc12, if_pos hc16])
    · skip
      refine zr_iconst C (1 : Int32) d_X9_twice_104 (by decide) ?_
      refine zr_goto C 109 d_X9_twice_105 (by decide) ?_
      exact hJ14 _ (by rw [if_pos hc12, if_neg hc16])

def wp_X9_twice_L29 (v1 : Int32) (v2 : Int32) (v3 : Int32) (σ : zST) (K118 : Int32 → Prop) : Nat → Int32 → Int32 → Prop
  | 0, _, _ => False
  | N + 1, v4, v5 => (if (σ.1 69 25) ≤ v5 then K118 v4 else vp_in v5 6 ∧ ∀ z8 : Int32, z8 = (if (((σ.1 78 v5.toNatClampNeg) >>> (v3 &&& 31)) &&& (1 : Int32)) = (1 : Int32) then (1 : Int32) else (0 : Int32)) → (if v1 = (1 : Int32) then vp_in v5 6 ∧ vp_in v5 6 ∧ wp_X9_ones (σ.1 78 v5.toNatClampNeg) σ (fun r20 => ∀ z23 : Int32, z23 = (if (σ.1 79 v5.toNatClampNeg) ≤ r20 then (0 : Int32) else (1 : Int32)) → wp_X9_twice_J90 v1 v2 v3 v4 v5 z8 z23 σ (fun v4 v5 => wp_X9_twice_L29 v1 v2 v3 σ K118 N v4 v5)) else wp_X9_twice_J90 v1 v2 v3 v4 v5 z8 (0 : Int32) σ (fun v4 v5 => wp_X9_twice_L29 v1 v2 v3 σ K118 N v4 v5)))

set_option maxRecDepth 100000 in
set_option maxHeartbeats 4000000 in
theorem g_X9_twice_L29 {p : Program} {l : Launch} {e : Env} {R : Room} {s : State} {m : MethodId} {args : Array Value} {below : List Frame} {meth : Method} {c : Code} {Q : State → Prop} {g : zG} {n1 n2 : Nat} (C : zCX p R s m args meth c g n1 n2 cX9_twice 8 RX9 1 25) {v1 : Int32} {v2 : Int32} {v3 : Int32} {σ : zST} {K118 : Int32 → Prop} (hK118 : ∀ (w4 : Int32), K118 w4 → zGG p l e R s m args below meth c Q g n1 n2 8 118 [(0, .ref (g.2.1 69)), (1, .int v1), (2, .int v2), (3, .int v3), (4, .int w4)] [] σ) : ∀ (N : Nat) (v4 : Int32) (v5 : Int32) , wp_X9_twice_L29 v1 v2 v3 σ K118 N v4 v5 → zGG p l e R s m args below meth c Q g n1 n2 8 29 [(0, .ref (g.2.1 69)), (1, .int v1), (2, .int v2), (3, .int v3), (4, .int v4), (5, .int v5)] [] σ := by
  intro N
  induction N with
  | zero =>
    intro v4 v5 h
    exact h.elim
  | succ N ih =>
    intro v4 v5 h
    rw [wp_X9_twice_L29] at h
    refine zr_iload C (zo_21 (p := 29) (k := 5) (a := 5) (zby_w zwX9_twice_0 29 rfl) (zby_w zwX9_twice_0 30 rfl) (by decide)) rfl ?_
    refine zr_aload_n C (zo_42 (p := 31) (zby_w zwX9_twice_0 31 rfl)) rfl ?_
    refine zr_geti C fw_X9_297 (sh_69) rfl (zo_180 (p := 32) (k := 297) (a := 1) (b := 41) (zby_w zwX9_twice_1 0 rfl) (zby_w zwX9_twice_1 1 rfl) (zby_w zwX9_twice_1 2 rfl) (by decide)) ?_
    refine zr_icmp_ge C 118 (zo_162 (p := 35) (k := 83) (a := 0) (b := 83) (zby_w zwX9_twice_1 3 rfl) (zby_w zwX9_twice_1 4 rfl) (zby_w zwX9_twice_1 5 rfl) (by decide)) (by decide) (fun hc5 => ?_) (fun hc5 => ?_)
    · rw [if_pos hc5] at h
      exact zr_pick [0, 1, 2, 3, 4] rfl (hK118 v4 h)
    · rw [if_neg hc5] at h
      refine zr_aload_n C (zo_42 (p := 38) (zby_w zwX9_twice_1 6 rfl)) rfl ?_
      refine zr_getr (u := 78) C fw_X9_34 (sh_69) rfl (zo_180 (p := 39) (k := 34) (a := 0) (b := 34) (zby_w zwX9_twice_1 7 rfl) (zby_w zwX9_twice_1 8 rfl) (zby_w zwX9_twice_1 9 rfl) (by decide)) ?_
      refine zr_iload C (zo_21 (p := 42) (k := 5) (a := 5) (zby_w zwX9_twice_1 10 rfl) (zby_w zwX9_twice_1 11 rfl) (by decide)) rfl ?_
      obtain ⟨ho6, h⟩ := h
      refine zr_iald C (sh_78) ho6 (zo_46 (p := 44) (zby_w zwX9_twice_1 12 rfl)) ?_
      refine zr_iload_n C (zo_29 (p := 45) (zby_w zwX9_twice_1 13 rfl)) rfl ?_
      refine zr_ishr C (zo_122 (p := 46) (zby_w zwX9_twice_1 14 rfl)) ?_
      refine zr_iconst C (1 : Int32) (zo_4 (p := 47) (zby_w zwX9_twice_1 15 rfl)) (by decide) ?_
      refine zr_iand C (zo_126 (p := 48) (zby_w zwX9_twice_1 16 rfl)) ?_
      refine zr_iconst C (1 : Int32) (zo_4 (p := 49) (zby_w zwX9_twice_1 17 rfl)) (by decide) ?_
      have hJ9 : ∀ z8 : Int32, z8 = (if (((σ.1 78 v5.toNatClampNeg) >>> (v3 &&& 31)) &&& (1 : Int32)) = (1 : Int32) then (1 : Int32) else (0 : Int32)) → zGG p l e R s m args below meth c Q g n1 n2 8 58 [(0, .ref (g.2.1 69)), (1, .int v1), (2, .int v2), (3, .int v3), (4, .int v4), (5, .int v5)] [.int z8] σ := by
        intro z8 hz8
        replace h := h z8 hz8
        refine zr_istore C [(6, .int z8), (0, .ref (g.2.1 69)), (1, .int v1), (2, .int v2), (3, .int v3), (4, .int v4), (5, .int v5)] (zo_54 (p := 58) (k := 6) (a := 6) (zby_w zwX9_twice_1 26 rfl) (zby_w zwX9_twice_1 27 rfl) (by decide)) (by decide) rfl ?_
        refine zr_iload_n C (zo_27 (p := 60) (zby_w zwX9_twice_1 28 rfl)) rfl ?_
        refine zr_iconst C (1 : Int32) (zo_4 (p := 61) (zby_w zwX9_twice_1 29 rfl)) (by decide) ?_
        refine zr_icmp_ne C 89 (zo_160 (p := 62) (k := 27) (a := 0) (b := 27) (zby_w zwX9_twice_1 30 rfl) (zby_w zwX9_twice_1 31 rfl) (zby_w zwX9_twice_1 32 rfl) (by decide)) (by decide) (fun hc11 => ?_) (fun hc11 => ?_)
        · rw [if_neg hc11] at h
          refine zr_iconst C (0 : Int32) d_X9_twice_89 (by decide) ?_
          exact zr_pick [1, 2, 3, 4, 5, 6, 0] rfl (g_X9_twice_J90 C ih h)
        · rw [if_pos hc11] at h
          refine zr_aload_n C (zo_42 (p := 65) (zby_w zwX9_twice_2 1 rfl)) rfl ?_
          refine zr_getr (u := 79) C fw_X9_37 (sh_69) rfl (zo_180 (p := 66) (k := 37) (a := 0) (b := 37) (zby_w zwX9_twice_2 2 rfl) (zby_w zwX9_twice_2 3 rfl) (zby_w zwX9_twice_2 4 rfl) (by decide)) ?_
          refine zr_iload C (zo_21 (p := 69) (k := 5) (a := 5) (zby_w zwX9_twice_2 5 rfl) (zby_w zwX9_twice_2 6 rfl) (by decide)) rfl ?_
          obtain ⟨ho18, h⟩ := h
          refine zr_iald C (sh_79) ho18 (zo_46 (p := 71) (zby_w zwX9_twice_2 7 rfl)) ?_
          refine zr_aload_n C (zo_42 (p := 72) (zby_w zwX9_twice_2 8 rfl)) rfl ?_
          refine zr_getr (u := 78) C fw_X9_34 (sh_69) rfl (zo_180 (p := 73) (k := 34) (a := 0) (b := 34) (zby_w zwX9_twice_2 9 rfl) (zby_w zwX9_twice_2 10 rfl) (zby_w zwX9_twice_2 11 rfl) (by decide)) ?_
          refine zr_iload C (zo_21 (p := 76) (k := 5) (a := 5) (zby_w zwX9_twice_2 12 rfl) (zby_w zwX9_twice_2 13 rfl) (by decide)) rfl ?_
          obtain ⟨ho19, h⟩ := h
          refine zr_iald C (sh_78) ho19 (zo_46 (p := 78) (zby_w zwX9_twice_2 14 rfl)) ?_
          refine zr_cip (zr_runS (As := [.int (σ.1 78 v5.toNatClampNeg)]) (rest := [.int (σ.1 79 v5.toNatClampNeg)]) C sw_X9_108 (c_X9_ones l g (σ.1 78 v5.toNatClampNeg) σ _ h) (by decide) (by decide) rfl rfl (Nat.le_of_ble_eq_true rfl) (zo_184 (p := 79) (k := 108) (a := 0) (b := 108) (zby_w zwX9_twice_2 15 rfl) (zby_w zwX9_twice_2 16 rfl) (zby_w zwX9_twice_2 17 rfl) (by decide))) (fun r20 h => ?_)
          have hJ24 : ∀ z23 : Int32, z23 = (if (σ.1 79 v5.toNatClampNeg) ≤ r20 then (0 : Int32) else (1 : Int32)) → zGG p l e R s m args below meth c Q g n1 n2 8 90 [(6, .int z8), (0, .ref (g.2.1 69)), (1, .int v1), (2, .int v2), (3, .int v3), (4, .int v4), (5, .int v5)] [.int z23] σ := by
            intro z23 hz23
            replace h := h z23 hz23
            exact zr_pick [1, 2, 3, 4, 5, 6, 0] rfl (g_X9_twice_J90 C ih h)
          refine zr_icmp_le C 89 (zo_164 (p := 82) (k := 7) (a := 0) (b := 7) (zby_w zwX9_twice_2 18 rfl) (zby_w zwX9_twice_2 19 rfl) (zby_w zwX9_twice_2 20 rfl) (by decide)) (by decide) (fun hc22 => ?_) (fun hc22 => ?_)
          · skip
            refine zr_iconst C (0 : Int32) d_X9_twice_89 (by decide) ?_
            exact hJ24 _ (by rw [if_pos hc22])
          · skip
            refine zr_iconst C (1 : Int32) (zo_4 (p := 85) (zby_w zwX9_twice_2 21 rfl)) (by decide) ?_
            refine zr_goto C 90 (zo_167 (p := 86) (k := 4) (a := 0) (b := 4) (zby_w zwX9_twice_2 22 rfl) (zby_w zwX9_twice_2 23 rfl) (zby_w zwX9_twice_2 24 rfl) (by decide)) (by decide) ?_
            exact hJ24 _ (by rw [if_neg hc22])
      refine zr_icmp_ne C 57 (zo_160 (p := 50) (k := 7) (a := 0) (b := 7) (zby_w zwX9_twice_1 18 rfl) (zby_w zwX9_twice_1 19 rfl) (zby_w zwX9_twice_1 20 rfl) (by decide)) (by decide) (fun hc7 => ?_) (fun hc7 => ?_)
      · skip
        refine zr_iconst C (0 : Int32) (zo_3 (p := 57) (zby_w zwX9_twice_1 25 rfl)) (by decide) ?_
        exact hJ9 _ (by rw [if_neg hc7])
      · skip
        refine zr_iconst C (1 : Int32) (zo_4 (p := 53) (zby_w zwX9_twice_1 21 rfl)) (by decide) ?_
        refine zr_goto C 58 (zo_167 (p := 54) (k := 4) (a := 0) (b := 4) (zby_w zwX9_twice_1 22 rfl) (zby_w zwX9_twice_1 23 rfl) (zby_w zwX9_twice_1 24 rfl) (by decide)) (by decide) ?_
        exact hJ9 _ (by rw [if_pos hc7])

def wp_X9_twice_L17 (v1 : Int32) (σ : zST) (Post : Int32 → Prop) : Nat → Int32 → Int32 → Prop
  | 0, _, _ => False
  | N + 1, v2, v3 => (if (8 : Int32) ≤ v3 then Post v2 else ∃ M37 : Nat, wp_X9_twice_L29 v1 v2 v3 σ (fun w4 => ∀ z33 : Int32, z33 = (if w4 ≤ (1 : Int32) then (0 : Int32) else ((1 : Int32) <<< (v3 &&& 31))) → ∀ x36 : Int32, x36 = (v2 ||| z33) → wp_X9_twice_L17 v1 σ Post N x36 (v3 + 1)) M37 (0 : Int32) (0 : Int32))

set_option maxRecDepth 100000 in
set_option maxHeartbeats 4000000 in
theorem g_X9_twice_L17 {p : Program} {l : Launch} {e : Env} {R : Room} {s : State} {m : MethodId} {args : Array Value} {below : List Frame} {meth : Method} {c : Code} {Q : State → Prop} {g : zG} {n1 n2 : Nat} (C : zCX p R s m args meth c g n1 n2 cX9_twice 8 RX9 1 25) {v1 : Int32} {σ : zST}  {Post : Int32 → Prop} (hret : ∀ (v : Int32) (pc : Nat) (lv : List (Nat × Value)), Post v → decode cX9_twice pc = .ok (.ireturn, 1) → zGG p l e R s m args below meth c Q g n1 n2 8 pc lv [.int v] σ) : ∀ (N : Nat) (v2 : Int32) (v3 : Int32) , wp_X9_twice_L17 v1 σ Post N v2 v3 → zGG p l e R s m args below meth c Q g n1 n2 8 17 [(0, .ref (g.2.1 69)), (1, .int v1), (2, .int v2), (3, .int v3)] [] σ := by
  intro N
  induction N with
  | zero =>
    intro v2 v3 h
    exact h.elim
  | succ N ih =>
    intro v2 v3 h
    rw [wp_X9_twice_L17] at h
    refine zr_iload_n C (zo_29 (p := 17) (zby_w zwX9_twice_0 17 rfl)) rfl ?_
    refine zr_bipush C (8 : Int32) (zo_16 (p := 18) (k := 8) (a := 8) (zby_w zwX9_twice_0 18 rfl) (zby_w zwX9_twice_0 19 rfl) (by decide)) (by decide) ?_
    refine zr_icmp_ge C 140 (zo_162 (p := 20) (k := 120) (a := 0) (b := 120) (zby_w zwX9_twice_0 20 rfl) (zby_w zwX9_twice_0 21 rfl) (zby_w zwX9_twice_0 22 rfl) (by decide)) (by decide) (fun hc4 => ?_) (fun hc4 => ?_)
    · rw [if_pos hc4] at h
      refine zr_iload_n C (zo_28 (p := 140) (zby_w zwX9_twice_4 12 rfl)) rfl ?_
      exact hret _ _ _ h (zo_172 (p := 141) (zby_w zwX9_twice_4 13 rfl))
    · rw [if_neg hc4] at h
      refine zr_iconst C (0 : Int32) (zo_3 (p := 23) (zby_w zwX9_twice_0 23 rfl)) (by decide) ?_
      refine zr_istore C [(4, .int (0 : Int32)), (0, .ref (g.2.1 69)), (1, .int v1), (2, .int v2), (3, .int v3)] (zo_54 (p := 24) (k := 4) (a := 4) (zby_w zwX9_twice_0 24 rfl) (zby_w zwX9_twice_0 25 rfl) (by decide)) (by decide) rfl ?_
      refine zr_iconst C (0 : Int32) (zo_3 (p := 26) (zby_w zwX9_twice_0 26 rfl)) (by decide) ?_
      refine zr_istore C [(5, .int (0 : Int32)), (4, .int (0 : Int32)), (0, .ref (g.2.1 69)), (1, .int v1), (2, .int v2), (3, .int v3)] (zo_54 (p := 27) (k := 5) (a := 5) (zby_w zwX9_twice_0 27 rfl) (zby_w zwX9_twice_0 28 rfl) (by decide)) (by decide) rfl ?_
      obtain ⟨M37, h⟩ := h
      exact zr_pick [2, 3, 4, 5, 1, 0] rfl (g_X9_twice_L29 C (fun w4 h => by
          refine zr_iload_n C (zo_28 (p := 118) (zby_w zwX9_twice_3 22 rfl)) rfl ?_
          refine zr_iload C (zo_21 (p := 119) (k := 4) (a := 4) (zby_w zwX9_twice_3 23 rfl) (zby_w zwX9_twice_3 24 rfl) (by decide)) rfl ?_
          refine zr_iconst C (1 : Int32) (zo_4 (p := 121) (zby_w zwX9_twice_3 25 rfl)) (by decide) ?_
          have hJ34 : ∀ z33 : Int32, z33 = (if w4 ≤ (1 : Int32) then (0 : Int32) else ((1 : Int32) <<< (v3 &&& 31))) → zGG p l e R s m args below meth c Q g n1 n2 8 132 [(0, .ref (g.2.1 69)), (1, .int v1), (2, .int v2), (3, .int v3), (4, .int w4)] [.int z33, .int v2] σ := by
            intro z33 hz33
            replace h := h z33 hz33
            refine zr_ior C (zo_128 (p := 132) (zby_w zwX9_twice_4 4 rfl)) ?_
            refine zr_topi (fun x36 hx36 => ?_)
            replace h := h x36 hx36
            refine zr_istore_n C [(2, .int x36), (0, .ref (g.2.1 69)), (1, .int v1), (3, .int v3), (4, .int w4)] (zo_61 (p := 133) (zby_w zwX9_twice_4 5 rfl)) (by decide) rfl ?_
            refine zr_iinc C (v3 + 1) [(3, .int (v3 + 1)), (2, .int x36), (0, .ref (g.2.1 69)), (1, .int v1), (4, .int w4)] d_X9_twice_134 rfl rfl (by decide) rfl ?_
            refine zr_goto C 17 (zo_167 (p := 137) (k := (-120)) (a := 255) (b := 136) (zby_w zwX9_twice_4 9 rfl) (zby_w zwX9_twice_4 10 rfl) (zby_w zwX9_twice_4 11 rfl) (by decide)) (by decide) ?_
            exact zr_pick [2, 3, 1, 0] rfl (ih x36 (v3 + 1) h)
          refine zr_icmp_le C 131 (zo_164 (p := 122) (k := 9) (a := 0) (b := 9) (zby_w zwX9_twice_3 26 rfl) (zby_w zwX9_twice_3 27 rfl) (zby_w zwX9_twice_3 28 rfl) (by decide)) (by decide) (fun hc32 => ?_) (fun hc32 => ?_)
          · skip
            refine zr_iconst C (0 : Int32) (zo_3 (p := 131) (zby_w zwX9_twice_4 3 rfl)) (by decide) ?_
            exact hJ34 _ (by rw [if_pos hc32])
          · skip
            refine zr_iconst C (1 : Int32) (zo_4 (p := 125) (zby_w zwX9_twice_3 29 rfl)) (by decide) ?_
            refine zr_iload_n C (zo_29 (p := 126) (zby_w zwX9_twice_3 30 rfl)) rfl ?_
            refine zr_ishl C (zo_120 (p := 127) (zby_w zwX9_twice_3 31 rfl)) ?_
            refine zr_goto C 132 (zo_167 (p := 128) (k := 4) (a := 0) (b := 4) (zby_w zwX9_twice_4 0 rfl) (zby_w zwX9_twice_4 1 rfl) (zby_w zwX9_twice_4 2 rfl) (by decide)) (by decide) ?_
            exact hJ34 _ (by rw [if_neg hc32])) M37 (0 : Int32) (0 : Int32) h)

def wp_X9_twice (p1 : Int32) (σ : zST) (Post : Int32 → Prop) : Prop := wp_X9_in (p1.toInt64) (0 : Int64) (1 : Int64) σ (fun r1 => (if r1 = (0) then Post (-2 : Int32) else ∃ M38 : Nat, wp_X9_twice_L17 p1 σ Post M38 (0 : Int32) (0 : Int32)))
set_option maxRecDepth 100000 in
set_option maxHeartbeats 4000000 in
theorem g_X9_twice {p : Program} {l : Launch} {e : Env} {R : Room} {s : State} {m : MethodId} {args : Array Value} {below : List Frame} {meth : Method} {c : Code} {Q : State → Prop} {g : zG} {n1 n2 : Nat} (C : zCX p R s m args meth c g n1 n2 cX9_twice 8 RX9 1 25) {p1 : Int32} {σ : zST} {Post : Int32 → Prop} (hret : ∀ (v : Int32) (pc : Nat) (lv : List (Nat × Value)), Post v → decode cX9_twice pc = .ok (.ireturn, 1) → zGG p l e R s m args below meth c Q g n1 n2 8 pc lv [.int v] σ) (h : wp_X9_twice p1 σ Post) : zGG p l e R s m args below meth c Q g n1 n2 8 0 [(0, .ref (g.2.1 69)), (1, .int p1)] [] σ := by
  unfold wp_X9_twice at h
  refine zr_iload_n C (zo_27 (p := 0) (zby_w zwX9_twice_0 0 rfl)) rfl ?_
  refine zr_i2l C (zo_133 (p := 1) (zby_w zwX9_twice_0 1 rfl)) ?_
  refine zr_lconst C (0 : Int64) (zo_9 (p := 2) (zby_w zwX9_twice_0 2 rfl)) (by decide) ?_
  refine zr_lconst C (1 : Int64) (zo_10 (p := 3) (zby_w zwX9_twice_0 3 rfl)) (by decide) ?_
  refine zr_cip (zr_runS (As := [.long (p1.toInt64), .long (0 : Int64), .long (1 : Int64)]) (rest := []) C sw_X9_89 (c_X9_in l g (p1.toInt64) (0 : Int64) (1 : Int64) σ _ h) (by decide) (by decide) rfl rfl (Nat.le_of_ble_eq_true rfl) (zo_184 (p := 4) (k := 89) (a := 0) (b := 89) (zby_w zwX9_twice_0 4 rfl) (zby_w zwX9_twice_0 5 rfl) (zby_w zwX9_twice_0 6 rfl) (by decide))) (fun r1 h => ?_)
  refine zr_if_ne C 13 (zo_154 (p := 7) (k := 6) (a := 0) (b := 6) (zby_w zwX9_twice_0 7 rfl) (zby_w zwX9_twice_0 8 rfl) (zby_w zwX9_twice_0 9 rfl) (by decide)) (by decide) (fun hc3 => ?_) (fun hc3 => ?_)
  · rw [if_neg hc3] at h
    refine zr_iconst C (0 : Int32) (zo_3 (p := 13) (zby_w zwX9_twice_0 13 rfl)) (by decide) ?_
    refine zr_istore_n C [(2, .int (0 : Int32)), (0, .ref (g.2.1 69)), (1, .int p1)] (zo_61 (p := 14) (zby_w zwX9_twice_0 14 rfl)) (by decide) rfl ?_
    refine zr_iconst C (0 : Int32) (zo_3 (p := 15) (zby_w zwX9_twice_0 15 rfl)) (by decide) ?_
    refine zr_istore_n C [(3, .int (0 : Int32)), (2, .int (0 : Int32)), (0, .ref (g.2.1 69)), (1, .int p1)] (zo_62 (p := 16) (zby_w zwX9_twice_0 16 rfl)) (by decide) rfl ?_
    obtain ⟨M38, h⟩ := h
    exact zr_pick [2, 3, 1, 0] rfl (g_X9_twice_L17 C hret M38 (0 : Int32) (0 : Int32) h)
  · rw [if_pos hc3] at h
    refine zr_bipush C (-2 : Int32) (zo_16 (p := 10) (k := (-2)) (a := 254) (zby_w zwX9_twice_0 10 rfl) (zby_w zwX9_twice_0 11 rfl) (by decide)) (by decide) ?_
    exact hret _ _ _ h (zo_172 (p := 12) (zby_w zwX9_twice_0 12 rfl))
set_option maxRecDepth 20000 in
theorem c_X9_twice (l : Launch) (g : zG) (p1 : Int32) (σ : zST) (Post : Int32 → Prop) (h : wp_X9_twice p1 σ Post) : Met l yX9_twice (Cond.code yX9_twice cX9_twice 8 (some .int) :: zGW) (zRm 1 25) (va_Pc [.ref (g.2.1 69), .int p1] (zPP g σ)) (va_Qi (fun r u => Post r ∧ u = σ) (zBB g) (zA g)) 0 0 (zA g) :=
  zMet (by decide) (Nat.le_of_ble_eq_true rfl) (fun p e s m below meth c hr C => g_X9_twice C (fun v pc lv hp hd => zr_iret C hr ⟨hp, rfl⟩ hd) h)
def wp_X9_burnt_L4 (σ : zST) (Post : Int64 → Prop) : Nat → Int64 → Int32 → Prop
  | 0, _, _ => False
  | N + 1, v1, v3 => (if (σ.1 69 25) ≤ v3 then Post v1 else vp_in v3 6 ∧ wp_X9_ones (σ.1 78 v3.toNatClampNeg) σ (fun r3 => vp_in v3 6 ∧ wp_X9_choose ((8 : Int32) - r3) ((σ.1 79 v3.toNatClampNeg) - r3) σ (fun r6 => ∀ x8 : Int64, x8 = (v1 * r6) → wp_X9_burnt_L4 σ Post N x8 (v3 + 1))))

set_option maxRecDepth 100000 in
set_option maxHeartbeats 4000000 in
theorem g_X9_burnt_L4 {p : Program} {l : Launch} {e : Env} {R : Room} {s : State} {m : MethodId} {args : Array Value} {below : List Frame} {meth : Method} {c : Code} {Q : State → Prop} {g : zG} {n1 n2 : Nat} (C : zCX p R s m args meth c g n1 n2 cX9_burnt 5 RX9 1 24) {σ : zST}  {Post : Int64 → Prop} (hret : ∀ (v : Int64) (pc : Nat) (lv : List (Nat × Value)), Post v → decode cX9_burnt pc = .ok (.lreturn, 1) → zGG p l e R s m args below meth c Q g n1 n2 5 pc lv [.long v] σ) : ∀ (N : Nat) (v1 : Int64) (v3 : Int32) , wp_X9_burnt_L4 σ Post N v1 v3 → zGG p l e R s m args below meth c Q g n1 n2 5 4 [(0, .ref (g.2.1 69)), (1, .long v1), (3, .int v3)] [] σ := by
  intro N
  induction N with
  | zero =>
    intro v1 v3 h
    exact h.elim
  | succ N ih =>
    intro v1 v3 h
    rw [wp_X9_burnt_L4] at h
    refine zr_iload_n C (zo_29 (p := 4) (zby_w zwX9_burnt_0 4 rfl)) rfl ?_
    refine zr_aload_n C (zo_42 (p := 5) (zby_w zwX9_burnt_0 5 rfl)) rfl ?_
    refine zr_geti C fw_X9_297 (sh_69) rfl (zo_180 (p := 6) (k := 297) (a := 1) (b := 41) (zby_w zwX9_burnt_0 6 rfl) (zby_w zwX9_burnt_0 7 rfl) (zby_w zwX9_burnt_0 8 rfl) (by decide)) ?_
    refine zr_icmp_ge C 49 (zo_162 (p := 9) (k := 40) (a := 0) (b := 40) (zby_w zwX9_burnt_0 9 rfl) (zby_w zwX9_burnt_0 10 rfl) (zby_w zwX9_burnt_0 11 rfl) (by decide)) (by decide) (fun hc1 => ?_) (fun hc1 => ?_)
    · rw [if_pos hc1] at h
      refine zr_lload_n C (zo_31 (p := 49) (zby_w zwX9_burnt_1 17 rfl)) rfl ?_
      exact hret _ _ _ h (zo_173 (p := 50) (zby_w zwX9_burnt_1 18 rfl))
    · rw [if_neg hc1] at h
      refine zr_aload_n C (zo_42 (p := 12) (zby_w zwX9_burnt_0 12 rfl)) rfl ?_
      refine zr_getr (u := 78) C fw_X9_34 (sh_69) rfl (zo_180 (p := 13) (k := 34) (a := 0) (b := 34) (zby_w zwX9_burnt_0 13 rfl) (zby_w zwX9_burnt_0 14 rfl) (zby_w zwX9_burnt_0 15 rfl) (by decide)) ?_
      refine zr_iload_n C (zo_29 (p := 16) (zby_w zwX9_burnt_0 16 rfl)) rfl ?_
      obtain ⟨ho2, h⟩ := h
      refine zr_iald C (sh_78) ho2 (zo_46 (p := 17) (zby_w zwX9_burnt_0 17 rfl)) ?_
      refine zr_cip (zr_runS (As := [.int (σ.1 78 v3.toNatClampNeg)]) (rest := []) C sw_X9_108 (c_X9_ones l g (σ.1 78 v3.toNatClampNeg) σ _ h) (by decide) (by decide) rfl rfl (Nat.le_of_ble_eq_true rfl) (zo_184 (p := 18) (k := 108) (a := 0) (b := 108) (zby_w zwX9_burnt_0 18 rfl) (zby_w zwX9_burnt_0 19 rfl) (zby_w zwX9_burnt_0 20 rfl) (by decide))) (fun r3 h => ?_)
      refine zr_istore C [(4, .int r3), (0, .ref (g.2.1 69)), (1, .long v1), (3, .int v3)] (zo_54 (p := 21) (k := 4) (a := 4) (zby_w zwX9_burnt_0 21 rfl) (zby_w zwX9_burnt_0 22 rfl) (by decide)) (by decide) rfl ?_
      refine zr_lload_n C (zo_31 (p := 23) (zby_w zwX9_burnt_0 23 rfl)) rfl ?_
      refine zr_bipush C (8 : Int32) (zo_16 (p := 24) (k := 8) (a := 8) (zby_w zwX9_burnt_0 24 rfl) (zby_w zwX9_burnt_0 25 rfl) (by decide)) (by decide) ?_
      refine zr_iload C (zo_21 (p := 26) (k := 4) (a := 4) (zby_w zwX9_burnt_0 26 rfl) (zby_w zwX9_burnt_0 27 rfl) (by decide)) rfl ?_
      refine zr_isub C (zo_100 (p := 28) (zby_w zwX9_burnt_0 28 rfl)) ?_
      refine zr_aload_n C (zo_42 (p := 29) (zby_w zwX9_burnt_0 29 rfl)) rfl ?_
      refine zr_getr (u := 79) C fw_X9_37 (sh_69) rfl (zo_180 (p := 30) (k := 37) (a := 0) (b := 37) (zby_w zwX9_burnt_0 30 rfl) (zby_w zwX9_burnt_0 31 rfl) (zby_w zwX9_burnt_0 32 rfl) (by decide)) ?_
      refine zr_iload_n C (zo_29 (p := 33) (zby_w zwX9_burnt_1 1 rfl)) rfl ?_
      obtain ⟨ho5, h⟩ := h
      refine zr_iald C (sh_79) ho5 (zo_46 (p := 34) (zby_w zwX9_burnt_1 2 rfl)) ?_
      refine zr_iload C (zo_21 (p := 35) (k := 4) (a := 4) (zby_w zwX9_burnt_1 3 rfl) (zby_w zwX9_burnt_1 4 rfl) (by decide)) rfl ?_
      refine zr_isub C (zo_100 (p := 37) (zby_w zwX9_burnt_1 5 rfl)) ?_
      refine zr_clp (zr_runS (As := [.int ((8 : Int32) - r3), .int ((σ.1 79 v3.toNatClampNeg) - r3)]) (rest := [.long v1]) C sw_X9_288 (c_X9_choose l g ((8 : Int32) - r3) ((σ.1 79 v3.toNatClampNeg) - r3) σ _ h) (by decide) (by decide) rfl rfl (Nat.le_of_ble_eq_true rfl) (zo_184 (p := 38) (k := 288) (a := 1) (b := 32) (zby_w zwX9_burnt_1 6 rfl) (zby_w zwX9_burnt_1 7 rfl) (zby_w zwX9_burnt_1 8 rfl) (by decide))) (fun r6 h => ?_)
      refine zr_lmul C (zo_105 (p := 41) (zby_w zwX9_burnt_1 9 rfl)) ?_
      refine zr_topl (fun x8 hx8 => ?_)
      replace h := h x8 hx8
      refine zr_lstore_n C [(1, .long x8), (4, .int r3), (0, .ref (g.2.1 69)), (3, .int v3)] (zo_64 (p := 42) (zby_w zwX9_burnt_1 10 rfl)) (by decide) rfl ?_
      refine zr_iinc C (v3 + 1) [(3, .int (v3 + 1)), (1, .long x8), (4, .int r3), (0, .ref (g.2.1 69))] d_X9_burnt_43 rfl rfl (by decide) rfl ?_
      refine zr_goto C 4 (zo_167 (p := 46) (k := (-42)) (a := 255) (b := 214) (zby_w zwX9_burnt_1 14 rfl) (zby_w zwX9_burnt_1 15 rfl) (zby_w zwX9_burnt_1 16 rfl) (by decide)) (by decide) ?_
      exact zr_pick [3, 1, 0] rfl (ih x8 (v3 + 1) h)

def wp_X9_burnt (σ : zST) (Post : Int64 → Prop) : Prop := ∃ M9 : Nat, wp_X9_burnt_L4 σ Post M9 (1 : Int64) (0 : Int32)
set_option maxRecDepth 100000 in
set_option maxHeartbeats 4000000 in
theorem g_X9_burnt {p : Program} {l : Launch} {e : Env} {R : Room} {s : State} {m : MethodId} {args : Array Value} {below : List Frame} {meth : Method} {c : Code} {Q : State → Prop} {g : zG} {n1 n2 : Nat} (C : zCX p R s m args meth c g n1 n2 cX9_burnt 5 RX9 1 24) {σ : zST} {Post : Int64 → Prop} (hret : ∀ (v : Int64) (pc : Nat) (lv : List (Nat × Value)), Post v → decode cX9_burnt pc = .ok (.lreturn, 1) → zGG p l e R s m args below meth c Q g n1 n2 5 pc lv [.long v] σ) (h : wp_X9_burnt σ Post) : zGG p l e R s m args below meth c Q g n1 n2 5 0 [(0, .ref (g.2.1 69))] [] σ := by
  unfold wp_X9_burnt at h
  refine zr_lconst C (1 : Int64) (zo_10 (p := 0) (zby_w zwX9_burnt_0 0 rfl)) (by decide) ?_
  refine zr_lstore_n C [(1, .long (1 : Int64)), (0, .ref (g.2.1 69))] (zo_64 (p := 1) (zby_w zwX9_burnt_0 1 rfl)) (by decide) rfl ?_
  refine zr_iconst C (0 : Int32) (zo_3 (p := 2) (zby_w zwX9_burnt_0 2 rfl)) (by decide) ?_
  refine zr_istore_n C [(3, .int (0 : Int32)), (1, .long (1 : Int64)), (0, .ref (g.2.1 69))] (zo_62 (p := 3) (zby_w zwX9_burnt_0 3 rfl)) (by decide) rfl ?_
  obtain ⟨M9, h⟩ := h
  exact zr_pick [2, 1, 0] rfl (g_X9_burnt_L4 C hret M9 (1 : Int64) (0 : Int32) h)
set_option maxRecDepth 20000 in
theorem c_X9_burnt (l : Launch) (g : zG) (σ : zST) (Post : Int64 → Prop) (h : wp_X9_burnt σ Post) : Met l yX9_burnt (Cond.code yX9_burnt cX9_burnt 5 (some .long) :: zGW) (zRm 1 24) (va_Pc [.ref (g.2.1 69)] (zPP g σ)) (va_Ql (fun r u => Post r ∧ u = σ) (zBB g) (zA g)) 0 0 (zA g) :=
  zMet (by decide) (Nat.le_of_ble_eq_true rfl) (fun p e s m below meth c hr C => g_X9_burnt C (fun v pc lv hp hd => zr_lret C hr ⟨hp, rfl⟩ hd) h)
