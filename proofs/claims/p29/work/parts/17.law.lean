section ZS
variable {p : Program} {l : Launch} {e : Env} {R : Room} {s : State} {m : MethodId} {args : Array Value} {below : List Frame} {meth : Method} {c : Code} {Q : State → Prop} {g : zG} {n1 n2 nL F Lc : Nat} {cc : ByteArray} {own : String} {pc : Nat} {lv : List (Nat × Value)} {st : List Value} {σ : zST} {b L : Nat} {xs : Nat → Int32}
theorem zr_sld (C : zCX p R s m args meth c g n1 n2 cc nL own F Lc) (hX : va_X b L xs s s.heap) (hbl : b < s.heap.size) (hbA : ¬ zA g b) {i : Int32} (hin : vp_in i L) (hdg : decode cc pc = .ok (.iaload, 1)) (k : zGG p l e R s m args below meth c Q g n1 n2 nL (pc + 1) lv (.int (xs i.toNatClampNeg) :: st) σ) : zGG p l e R s m args below meth c Q g n1 n2 nL pc lv (.int i :: .ref b :: st) σ :=
  fun H locs ls hP hS hl => va_sld C.1 C.2.1 hX hbl hbA hS hin hdg (k H locs ls hP hS hl)
theorem zr_slen (C : zCX p R s m args meth c g n1 n2 cc nL own F Lc) (hX : va_X b L xs s s.heap) (hbl : b < s.heap.size) (hbA : ¬ zA g b) (hdg : decode cc pc = .ok (.arraylength, 1)) (k : zGG p l e R s m args below meth c Q g n1 n2 nL (pc + 1) lv (.int (Int32.ofNat L) :: st) σ) : zGG p l e R s m args below meth c Q g n1 n2 nL pc lv (.ref b :: st) σ :=
  fun H locs ls hP hS hl => va_slen C.1 C.2.1 hX hbl hbA hS hdg (k H locs ls hP hS hl)
end ZS
def wL_0 (a1 a2 a3 a4 a5 : Int32) (σ : zST) (K : zST → Prop) : Prop := wp_X8_ship a1 a2 a3 a4 σ (fun r1 σ2 => wp_X9_ship a1 a2 a3 a4 σ2 (fun r3 σ4 => K σ4))
set_option maxRecDepth 100000 in
set_option maxHeartbeats 4000000 in
theorem gL_0 {p : Program} {l : Launch} {e : Env} {R : Room} {s : State} {m : MethodId} {args : Array Value} {below : List Frame} {meth : Method} {c : Code} {Q : State → Prop} {g : zG} {n1 n2 : Nat} (C : zCX p R s m args meth c g n1 n2 cL_law 4 RL 7 164) {b L : Nat} {xs : Nat → Int32} (hX : va_X b L xs s s.heap) (hbl : b < s.heap.size) (hbA : ¬ zA g b) {v3 : Int32} (hi0 : vp_in v3 L) (hi1 : vp_in (v3 + 1) L) (hi2 : vp_in (v3 + 2) L) (hi3 : vp_in (v3 + 3) L) (hi4 : vp_in (v3 + 4) L) (hi5 : vp_in (v3 + 5) L) {σ : zST} {K : zST → Prop} (hK : ∀ σ : zST, K σ → zGG p l e R s m args below meth c Q g n1 n2 4 1311 [(0, .ref b), (1, .ref (g.2.1 0)), (2, .ref (g.2.1 69)), (3, .int v3)] [] σ) (h : wL_0 (xs (v3 + (1 : Int32)).toNatClampNeg) (xs (v3 + (2 : Int32)).toNatClampNeg) (xs (v3 + (3 : Int32)).toNatClampNeg) (xs (v3 + (4 : Int32)).toNatClampNeg) (xs (v3 + (5 : Int32)).toNatClampNeg) σ K) : zGG p l e R s m args below meth c Q g n1 n2 4 192 [(0, .ref b), (1, .ref (g.2.1 0)), (2, .ref (g.2.1 69)), (3, .int v3)] [] σ := by
  unfold wL_0 at h
  refine zr_aload_n C (zo_43 (p := 192) (zby_w zwL_law_6 0 rfl)) rfl ?_
  refine zr_aload_n C (zo_42 (p := 193) (zby_w zwL_law_6 1 rfl)) rfl ?_
  refine zr_iload_n C (zo_29 (p := 194) (zby_w zwL_law_6 2 rfl)) rfl ?_
  refine zr_iconst C (1 : Int32) (zo_4 (p := 195) (zby_w zwL_law_6 3 rfl)) (by decide) ?_
  refine zr_iadd C (zo_96 (p := 196) (zby_w zwL_law_6 4 rfl)) ?_
  refine zr_sld C hX hbl hbA hi1 (zo_46 (p := 197) (zby_w zwL_law_6 5 rfl)) ?_
  refine zr_aload_n C (zo_42 (p := 198) (zby_w zwL_law_6 6 rfl)) rfl ?_
  refine zr_iload_n C (zo_29 (p := 199) (zby_w zwL_law_6 7 rfl)) rfl ?_
  refine zr_iconst C (2 : Int32) (zo_5 (p := 200) (zby_w zwL_law_6 8 rfl)) (by decide) ?_
  refine zr_iadd C (zo_96 (p := 201) (zby_w zwL_law_6 9 rfl)) ?_
  refine zr_sld C hX hbl hbA hi2 (zo_46 (p := 202) (zby_w zwL_law_6 10 rfl)) ?_
  refine zr_aload_n C (zo_42 (p := 203) (zby_w zwL_law_6 11 rfl)) rfl ?_
  refine zr_iload_n C (zo_29 (p := 204) (zby_w zwL_law_6 12 rfl)) rfl ?_
  refine zr_iconst C (3 : Int32) (zo_6 (p := 205) (zby_w zwL_law_6 13 rfl)) (by decide) ?_
  refine zr_iadd C (zo_96 (p := 206) (zby_w zwL_law_6 14 rfl)) ?_
  refine zr_sld C hX hbl hbA hi3 (zo_46 (p := 207) (zby_w zwL_law_6 15 rfl)) ?_
  refine zr_aload_n C (zo_42 (p := 208) (zby_w zwL_law_6 16 rfl)) rfl ?_
  refine zr_iload_n C (zo_29 (p := 209) (zby_w zwL_law_6 17 rfl)) rfl ?_
  refine zr_iconst C (4 : Int32) (zo_7 (p := 210) (zby_w zwL_law_6 18 rfl)) (by decide) ?_
  refine zr_iadd C (zo_96 (p := 211) (zby_w zwL_law_6 19 rfl)) ?_
  refine zr_sld C hX hbl hbA hi4 (zo_46 (p := 212) (zby_w zwL_law_6 20 rfl)) ?_
  refine zr_ci (zr_runV (As := [.int (xs (v3 + (1 : Int32)).toNatClampNeg), .int (xs (v3 + (2 : Int32)).toNatClampNeg), .int (xs (v3 + (3 : Int32)).toNatClampNeg), .int (xs (v3 + (4 : Int32)).toNatClampNeg)]) (rest := []) C vw_L_13 (c_X8_ship l g (xs (v3 + (1 : Int32)).toNatClampNeg) (xs (v3 + (2 : Int32)).toNatClampNeg) (xs (v3 + (3 : Int32)).toNatClampNeg) (xs (v3 + (4 : Int32)).toNatClampNeg) σ _ h) (sh_0) rfl (by decide) (by decide) rfl rfl (Nat.le_of_ble_eq_true rfl) (zo_182 (p := 213) (k := 13) (a := 0) (b := 13) (zby_w zwL_law_6 21 rfl) (zby_w zwL_law_6 22 rfl) (zby_w zwL_law_6 23 rfl) (by decide))) (fun r1 σ2 h => ?_)
  refine zr_pop C (zo_87 (p := 216) (zby_w zwL_law_6 24 rfl)) rfl ?_
  refine zr_aload_n C (zo_44 (p := 217) (zby_w zwL_law_6 25 rfl)) rfl ?_
  refine zr_aload_n C (zo_42 (p := 218) (zby_w zwL_law_6 26 rfl)) rfl ?_
  refine zr_iload_n C (zo_29 (p := 219) (zby_w zwL_law_6 27 rfl)) rfl ?_
  refine zr_iconst C (1 : Int32) (zo_4 (p := 220) (zby_w zwL_law_6 28 rfl)) (by decide) ?_
  refine zr_iadd C (zo_96 (p := 221) (zby_w zwL_law_6 29 rfl)) ?_
  refine zr_sld C hX hbl hbA hi1 (zo_46 (p := 222) (zby_w zwL_law_6 30 rfl)) ?_
  refine zr_aload_n C (zo_42 (p := 223) (zby_w zwL_law_6 31 rfl)) rfl ?_
  refine zr_iload_n C (zo_29 (p := 224) (zby_w zwL_law_7 0 rfl)) rfl ?_
  refine zr_iconst C (2 : Int32) (zo_5 (p := 225) (zby_w zwL_law_7 1 rfl)) (by decide) ?_
  refine zr_iadd C (zo_96 (p := 226) (zby_w zwL_law_7 2 rfl)) ?_
  refine zr_sld C hX hbl hbA hi2 (zo_46 (p := 227) (zby_w zwL_law_7 3 rfl)) ?_
  refine zr_aload_n C (zo_42 (p := 228) (zby_w zwL_law_7 4 rfl)) rfl ?_
  refine zr_iload_n C (zo_29 (p := 229) (zby_w zwL_law_7 5 rfl)) rfl ?_
  refine zr_iconst C (3 : Int32) (zo_6 (p := 230) (zby_w zwL_law_7 6 rfl)) (by decide) ?_
  refine zr_iadd C (zo_96 (p := 231) (zby_w zwL_law_7 7 rfl)) ?_
  refine zr_sld C hX hbl hbA hi3 (zo_46 (p := 232) (zby_w zwL_law_7 8 rfl)) ?_
  refine zr_aload_n C (zo_42 (p := 233) (zby_w zwL_law_7 9 rfl)) rfl ?_
  refine zr_iload_n C (zo_29 (p := 234) (zby_w zwL_law_7 10 rfl)) rfl ?_
  refine zr_iconst C (4 : Int32) (zo_7 (p := 235) (zby_w zwL_law_7 11 rfl)) (by decide) ?_
  refine zr_iadd C (zo_96 (p := 236) (zby_w zwL_law_7 12 rfl)) ?_
  refine zr_sld C hX hbl hbA hi4 (zo_46 (p := 237) (zby_w zwL_law_7 13 rfl)) ?_
  refine zr_ci (zr_runV (As := [.int (xs (v3 + (1 : Int32)).toNatClampNeg), .int (xs (v3 + (2 : Int32)).toNatClampNeg), .int (xs (v3 + (3 : Int32)).toNatClampNeg), .int (xs (v3 + (4 : Int32)).toNatClampNeg)]) (rest := []) C vw_L_17 (c_X9_ship l g (xs (v3 + (1 : Int32)).toNatClampNeg) (xs (v3 + (2 : Int32)).toNatClampNeg) (xs (v3 + (3 : Int32)).toNatClampNeg) (xs (v3 + (4 : Int32)).toNatClampNeg) σ2 _ h) (sh_69) rfl (by decide) (by decide) rfl rfl (Nat.le_of_ble_eq_true rfl) (zo_182 (p := 238) (k := 17) (a := 0) (b := 17) (zby_w zwL_law_7 14 rfl) (zby_w zwL_law_7 15 rfl) (zby_w zwL_law_7 16 rfl) (by decide))) (fun r3 σ4 h => ?_)
  refine zr_pop C (zo_87 (p := 241) (zby_w zwL_law_7 17 rfl)) rfl ?_
  refine zr_goto C 1311 (zo_167 (p := 242) (k := 1069) (a := 4) (b := 45) (zby_w zwL_law_7 18 rfl) (zby_w zwL_law_7 19 rfl) (zby_w zwL_law_7 20 rfl) (by decide)) (by decide) ?_
  exact zr_pick [0, 1, 2, 3] rfl (hK σ4 h)
def wL_1 (a1 a2 a3 a4 a5 : Int32) (σ : zST) (K : zST → Prop) : Prop := wp_X8_scrap a1 σ (fun r1 σ2 => wp_X9_scrap a1 σ2 (fun r3 σ4 => K σ4))
set_option maxRecDepth 100000 in
set_option maxHeartbeats 4000000 in
theorem gL_1 {p : Program} {l : Launch} {e : Env} {R : Room} {s : State} {m : MethodId} {args : Array Value} {below : List Frame} {meth : Method} {c : Code} {Q : State → Prop} {g : zG} {n1 n2 : Nat} (C : zCX p R s m args meth c g n1 n2 cL_law 4 RL 7 164) {b L : Nat} {xs : Nat → Int32} (hX : va_X b L xs s s.heap) (hbl : b < s.heap.size) (hbA : ¬ zA g b) {v3 : Int32} (hi0 : vp_in v3 L) (hi1 : vp_in (v3 + 1) L) (hi2 : vp_in (v3 + 2) L) (hi3 : vp_in (v3 + 3) L) (hi4 : vp_in (v3 + 4) L) (hi5 : vp_in (v3 + 5) L) {σ : zST} {K : zST → Prop} (hK : ∀ σ : zST, K σ → zGG p l e R s m args below meth c Q g n1 n2 4 1311 [(0, .ref b), (1, .ref (g.2.1 0)), (2, .ref (g.2.1 69)), (3, .int v3)] [] σ) (h : wL_1 (xs (v3 + (1 : Int32)).toNatClampNeg) (xs (v3 + (2 : Int32)).toNatClampNeg) (xs (v3 + (3 : Int32)).toNatClampNeg) (xs (v3 + (4 : Int32)).toNatClampNeg) (xs (v3 + (5 : Int32)).toNatClampNeg) σ K) : zGG p l e R s m args below meth c Q g n1 n2 4 245 [(0, .ref b), (1, .ref (g.2.1 0)), (2, .ref (g.2.1 69)), (3, .int v3)] [] σ := by
  unfold wL_1 at h
  refine zr_aload_n C (zo_43 (p := 245) (zby_w zwL_law_7 21 rfl)) rfl ?_
  refine zr_aload_n C (zo_42 (p := 246) (zby_w zwL_law_7 22 rfl)) rfl ?_
  refine zr_iload_n C (zo_29 (p := 247) (zby_w zwL_law_7 23 rfl)) rfl ?_
  refine zr_iconst C (1 : Int32) (zo_4 (p := 248) (zby_w zwL_law_7 24 rfl)) (by decide) ?_
  refine zr_iadd C (zo_96 (p := 249) (zby_w zwL_law_7 25 rfl)) ?_
  refine zr_sld C hX hbl hbA hi1 (zo_46 (p := 250) (zby_w zwL_law_7 26 rfl)) ?_
  refine zr_ci (zr_runV (As := [.int (xs (v3 + (1 : Int32)).toNatClampNeg)]) (rest := []) C vw_L_18 (c_X8_scrap l g (xs (v3 + (1 : Int32)).toNatClampNeg) σ _ h) (sh_0) rfl (by decide) (by decide) rfl rfl (Nat.le_of_ble_eq_true rfl) (zo_182 (p := 251) (k := 18) (a := 0) (b := 18) (zby_w zwL_law_7 27 rfl) (zby_w zwL_law_7 28 rfl) (zby_w zwL_law_7 29 rfl) (by decide))) (fun r1 σ2 h => ?_)
  refine zr_pop C (zo_87 (p := 254) (zby_w zwL_law_7 30 rfl)) rfl ?_
  refine zr_aload_n C (zo_44 (p := 255) (zby_w zwL_law_7 31 rfl)) rfl ?_
  refine zr_aload_n C (zo_42 (p := 256) (zby_w zwL_law_8 0 rfl)) rfl ?_
  refine zr_iload_n C (zo_29 (p := 257) (zby_w zwL_law_8 1 rfl)) rfl ?_
  refine zr_iconst C (1 : Int32) (zo_4 (p := 258) (zby_w zwL_law_8 2 rfl)) (by decide) ?_
  refine zr_iadd C (zo_96 (p := 259) (zby_w zwL_law_8 3 rfl)) ?_
  refine zr_sld C hX hbl hbA hi1 (zo_46 (p := 260) (zby_w zwL_law_8 4 rfl)) ?_
  refine zr_ci (zr_runV (As := [.int (xs (v3 + (1 : Int32)).toNatClampNeg)]) (rest := []) C vw_L_22 (c_X9_scrap l g (xs (v3 + (1 : Int32)).toNatClampNeg) σ2 _ h) (sh_69) rfl (by decide) (by decide) rfl rfl (Nat.le_of_ble_eq_true rfl) (zo_182 (p := 261) (k := 22) (a := 0) (b := 22) (zby_w zwL_law_8 5 rfl) (zby_w zwL_law_8 6 rfl) (zby_w zwL_law_8 7 rfl) (by decide))) (fun r3 σ4 h => ?_)
  refine zr_pop C (zo_87 (p := 264) (zby_w zwL_law_8 8 rfl)) rfl ?_
  refine zr_goto C 1311 (zo_167 (p := 265) (k := 1046) (a := 4) (b := 22) (zby_w zwL_law_8 9 rfl) (zby_w zwL_law_8 10 rfl) (zby_w zwL_law_8 11 rfl) (by decide)) (by decide) ?_
  exact zr_pick [0, 1, 2, 3] rfl (hK σ4 h)
def wL_2 (a1 a2 a3 a4 a5 : Int32) (σ : zST) (K : zST → Prop) : Prop := wp_X8_set a1 a2 σ (fun r1 σ2 => wp_X9_set a1 a2 σ2 (fun r3 σ4 => K σ4))
set_option maxRecDepth 100000 in
set_option maxHeartbeats 4000000 in
theorem gL_2 {p : Program} {l : Launch} {e : Env} {R : Room} {s : State} {m : MethodId} {args : Array Value} {below : List Frame} {meth : Method} {c : Code} {Q : State → Prop} {g : zG} {n1 n2 : Nat} (C : zCX p R s m args meth c g n1 n2 cL_law 4 RL 7 164) {b L : Nat} {xs : Nat → Int32} (hX : va_X b L xs s s.heap) (hbl : b < s.heap.size) (hbA : ¬ zA g b) {v3 : Int32} (hi0 : vp_in v3 L) (hi1 : vp_in (v3 + 1) L) (hi2 : vp_in (v3 + 2) L) (hi3 : vp_in (v3 + 3) L) (hi4 : vp_in (v3 + 4) L) (hi5 : vp_in (v3 + 5) L) {σ : zST} {K : zST → Prop} (hK : ∀ σ : zST, K σ → zGG p l e R s m args below meth c Q g n1 n2 4 1311 [(0, .ref b), (1, .ref (g.2.1 0)), (2, .ref (g.2.1 69)), (3, .int v3)] [] σ) (h : wL_2 (xs (v3 + (1 : Int32)).toNatClampNeg) (xs (v3 + (2 : Int32)).toNatClampNeg) (xs (v3 + (3 : Int32)).toNatClampNeg) (xs (v3 + (4 : Int32)).toNatClampNeg) (xs (v3 + (5 : Int32)).toNatClampNeg) σ K) : zGG p l e R s m args below meth c Q g n1 n2 4 268 [(0, .ref b), (1, .ref (g.2.1 0)), (2, .ref (g.2.1 69)), (3, .int v3)] [] σ := by
  unfold wL_2 at h
  refine zr_aload_n C (zo_43 (p := 268) (zby_w zwL_law_8 12 rfl)) rfl ?_
  refine zr_aload_n C (zo_42 (p := 269) (zby_w zwL_law_8 13 rfl)) rfl ?_
  refine zr_iload_n C (zo_29 (p := 270) (zby_w zwL_law_8 14 rfl)) rfl ?_
  refine zr_iconst C (1 : Int32) (zo_4 (p := 271) (zby_w zwL_law_8 15 rfl)) (by decide) ?_
  refine zr_iadd C (zo_96 (p := 272) (zby_w zwL_law_8 16 rfl)) ?_
  refine zr_sld C hX hbl hbA hi1 (zo_46 (p := 273) (zby_w zwL_law_8 17 rfl)) ?_
  refine zr_aload_n C (zo_42 (p := 274) (zby_w zwL_law_8 18 rfl)) rfl ?_
  refine zr_iload_n C (zo_29 (p := 275) (zby_w zwL_law_8 19 rfl)) rfl ?_
  refine zr_iconst C (2 : Int32) (zo_5 (p := 276) (zby_w zwL_law_8 20 rfl)) (by decide) ?_
  refine zr_iadd C (zo_96 (p := 277) (zby_w zwL_law_8 21 rfl)) ?_
  refine zr_sld C hX hbl hbA hi2 (zo_46 (p := 278) (zby_w zwL_law_8 22 rfl)) ?_
  refine zr_ci (zr_runV (As := [.int (xs (v3 + (1 : Int32)).toNatClampNeg), .int (xs (v3 + (2 : Int32)).toNatClampNeg)]) (rest := []) C vw_L_23 (c_X8_set l g (xs (v3 + (1 : Int32)).toNatClampNeg) (xs (v3 + (2 : Int32)).toNatClampNeg) σ _ h) (sh_0) rfl (by decide) (by decide) rfl rfl (Nat.le_of_ble_eq_true rfl) (zo_182 (p := 279) (k := 23) (a := 0) (b := 23) (zby_w zwL_law_8 23 rfl) (zby_w zwL_law_8 24 rfl) (zby_w zwL_law_8 25 rfl) (by decide))) (fun r1 σ2 h => ?_)
  refine zr_pop C (zo_87 (p := 282) (zby_w zwL_law_8 26 rfl)) rfl ?_
  refine zr_aload_n C (zo_44 (p := 283) (zby_w zwL_law_8 27 rfl)) rfl ?_
  refine zr_aload_n C (zo_42 (p := 284) (zby_w zwL_law_8 28 rfl)) rfl ?_
  refine zr_iload_n C (zo_29 (p := 285) (zby_w zwL_law_8 29 rfl)) rfl ?_
  refine zr_iconst C (1 : Int32) (zo_4 (p := 286) (zby_w zwL_law_8 30 rfl)) (by decide) ?_
  refine zr_iadd C (zo_96 (p := 287) (zby_w zwL_law_8 31 rfl)) ?_
  refine zr_sld C hX hbl hbA hi1 (zo_46 (p := 288) (zby_w zwL_law_9 0 rfl)) ?_
  refine zr_aload_n C (zo_42 (p := 289) (zby_w zwL_law_9 1 rfl)) rfl ?_
  refine zr_iload_n C (zo_29 (p := 290) (zby_w zwL_law_9 2 rfl)) rfl ?_
  refine zr_iconst C (2 : Int32) (zo_5 (p := 291) (zby_w zwL_law_9 3 rfl)) (by decide) ?_
  refine zr_iadd C (zo_96 (p := 292) (zby_w zwL_law_9 4 rfl)) ?_
  refine zr_sld C hX hbl hbA hi2 (zo_46 (p := 293) (zby_w zwL_law_9 5 rfl)) ?_
  refine zr_ci (zr_runV (As := [.int (xs (v3 + (1 : Int32)).toNatClampNeg), .int (xs (v3 + (2 : Int32)).toNatClampNeg)]) (rest := []) C vw_L_27 (c_X9_set l g (xs (v3 + (1 : Int32)).toNatClampNeg) (xs (v3 + (2 : Int32)).toNatClampNeg) σ2 _ h) (sh_69) rfl (by decide) (by decide) rfl rfl (Nat.le_of_ble_eq_true rfl) (zo_182 (p := 294) (k := 27) (a := 0) (b := 27) (zby_w zwL_law_9 6 rfl) (zby_w zwL_law_9 7 rfl) (zby_w zwL_law_9 8 rfl) (by decide))) (fun r3 σ4 h => ?_)
  refine zr_pop C (zo_87 (p := 297) (zby_w zwL_law_9 9 rfl)) rfl ?_
  refine zr_goto C 1311 (zo_167 (p := 298) (k := 1013) (a := 3) (b := 245) (zby_w zwL_law_9 10 rfl) (zby_w zwL_law_9 11 rfl) (zby_w zwL_law_9 12 rfl) (by decide)) (by decide) ?_
  exact zr_pick [0, 1, 2, 3] rfl (hK σ4 h)
def wL_3 (a1 a2 a3 a4 a5 : Int32) (σ : zST) (K : zST → Prop) : Prop := wp_X8_say a1 σ (fun r1 σ2 => wp_X9_say a1 σ2 (fun r3 σ4 => K σ4))
set_option maxRecDepth 100000 in
set_option maxHeartbeats 4000000 in
theorem gL_3 {p : Program} {l : Launch} {e : Env} {R : Room} {s : State} {m : MethodId} {args : Array Value} {below : List Frame} {meth : Method} {c : Code} {Q : State → Prop} {g : zG} {n1 n2 : Nat} (C : zCX p R s m args meth c g n1 n2 cL_law 4 RL 7 164) {b L : Nat} {xs : Nat → Int32} (hX : va_X b L xs s s.heap) (hbl : b < s.heap.size) (hbA : ¬ zA g b) {v3 : Int32} (hi0 : vp_in v3 L) (hi1 : vp_in (v3 + 1) L) (hi2 : vp_in (v3 + 2) L) (hi3 : vp_in (v3 + 3) L) (hi4 : vp_in (v3 + 4) L) (hi5 : vp_in (v3 + 5) L) {σ : zST} {K : zST → Prop} (hK : ∀ σ : zST, K σ → zGG p l e R s m args below meth c Q g n1 n2 4 1311 [(0, .ref b), (1, .ref (g.2.1 0)), (2, .ref (g.2.1 69)), (3, .int v3)] [] σ) (h : wL_3 (xs (v3 + (1 : Int32)).toNatClampNeg) (xs (v3 + (2 : Int32)).toNatClampNeg) (xs (v3 + (3 : Int32)).toNatClampNeg) (xs (v3 + (4 : Int32)).toNatClampNeg) (xs (v3 + (5 : Int32)).toNatClampNeg) σ K) : zGG p l e R s m args below meth c Q g n1 n2 4 301 [(0, .ref b), (1, .ref (g.2.1 0)), (2, .ref (g.2.1 69)), (3, .int v3)] [] σ := by
  unfold wL_3 at h
  refine zr_aload_n C (zo_43 (p := 301) (zby_w zwL_law_9 13 rfl)) rfl ?_
  refine zr_aload_n C (zo_42 (p := 302) (zby_w zwL_law_9 14 rfl)) rfl ?_
  refine zr_iload_n C (zo_29 (p := 303) (zby_w zwL_law_9 15 rfl)) rfl ?_
  refine zr_iconst C (1 : Int32) (zo_4 (p := 304) (zby_w zwL_law_9 16 rfl)) (by decide) ?_
  refine zr_iadd C (zo_96 (p := 305) (zby_w zwL_law_9 17 rfl)) ?_
  refine zr_sld C hX hbl hbA hi1 (zo_46 (p := 306) (zby_w zwL_law_9 18 rfl)) ?_
  refine zr_ci (zr_runV (As := [.int (xs (v3 + (1 : Int32)).toNatClampNeg)]) (rest := []) C vw_L_28 (c_X8_say l g (xs (v3 + (1 : Int32)).toNatClampNeg) σ _ h) (sh_0) rfl (by decide) (by decide) rfl rfl (Nat.le_of_ble_eq_true rfl) (zo_182 (p := 307) (k := 28) (a := 0) (b := 28) (zby_w zwL_law_9 19 rfl) (zby_w zwL_law_9 20 rfl) (zby_w zwL_law_9 21 rfl) (by decide))) (fun r1 σ2 h => ?_)
  refine zr_pop C (zo_87 (p := 310) (zby_w zwL_law_9 22 rfl)) rfl ?_
  refine zr_aload_n C (zo_44 (p := 311) (zby_w zwL_law_9 23 rfl)) rfl ?_
  refine zr_aload_n C (zo_42 (p := 312) (zby_w zwL_law_9 24 rfl)) rfl ?_
  refine zr_iload_n C (zo_29 (p := 313) (zby_w zwL_law_9 25 rfl)) rfl ?_
  refine zr_iconst C (1 : Int32) (zo_4 (p := 314) (zby_w zwL_law_9 26 rfl)) (by decide) ?_
  refine zr_iadd C (zo_96 (p := 315) (zby_w zwL_law_9 27 rfl)) ?_
  refine zr_sld C hX hbl hbA hi1 (zo_46 (p := 316) (zby_w zwL_law_9 28 rfl)) ?_
  refine zr_ci (zr_runV (As := [.int (xs (v3 + (1 : Int32)).toNatClampNeg)]) (rest := []) C vw_L_31 (c_X9_say l g (xs (v3 + (1 : Int32)).toNatClampNeg) σ2 _ h) (sh_69) rfl (by decide) (by decide) rfl rfl (Nat.le_of_ble_eq_true rfl) (zo_182 (p := 317) (k := 31) (a := 0) (b := 31) (zby_w zwL_law_9 29 rfl) (zby_w zwL_law_9 30 rfl) (zby_w zwL_law_9 31 rfl) (by decide))) (fun r3 σ4 h => ?_)
  refine zr_pop C (zo_87 (p := 320) (zby_w zwL_law_10 0 rfl)) rfl ?_
  refine zr_goto C 1311 (zo_167 (p := 321) (k := 990) (a := 3) (b := 222) (zby_w zwL_law_10 1 rfl) (zby_w zwL_law_10 2 rfl) (zby_w zwL_law_10 3 rfl) (by decide)) (by decide) ?_
  exact zr_pick [0, 1, 2, 3] rfl (hK σ4 h)
def wL_4 (a1 a2 a3 a4 a5 : Int32) (σ : zST) (K : zST → Prop) : Prop := wp_X8_wipe σ (fun r1 σ2 => wp_X9_wipe σ2 (fun r3 σ4 => K σ4))
set_option maxRecDepth 100000 in
set_option maxHeartbeats 4000000 in
theorem gL_4 {p : Program} {l : Launch} {e : Env} {R : Room} {s : State} {m : MethodId} {args : Array Value} {below : List Frame} {meth : Method} {c : Code} {Q : State → Prop} {g : zG} {n1 n2 : Nat} (C : zCX p R s m args meth c g n1 n2 cL_law 4 RL 7 164) {b L : Nat} {xs : Nat → Int32} (hX : va_X b L xs s s.heap) (hbl : b < s.heap.size) (hbA : ¬ zA g b) {v3 : Int32} (hi0 : vp_in v3 L) (hi1 : vp_in (v3 + 1) L) (hi2 : vp_in (v3 + 2) L) (hi3 : vp_in (v3 + 3) L) (hi4 : vp_in (v3 + 4) L) (hi5 : vp_in (v3 + 5) L) {σ : zST} {K : zST → Prop} (hK : ∀ σ : zST, K σ → zGG p l e R s m args below meth c Q g n1 n2 4 1311 [(0, .ref b), (1, .ref (g.2.1 0)), (2, .ref (g.2.1 69)), (3, .int v3)] [] σ) (h : wL_4 (xs (v3 + (1 : Int32)).toNatClampNeg) (xs (v3 + (2 : Int32)).toNatClampNeg) (xs (v3 + (3 : Int32)).toNatClampNeg) (xs (v3 + (4 : Int32)).toNatClampNeg) (xs (v3 + (5 : Int32)).toNatClampNeg) σ K) : zGG p l e R s m args below meth c Q g n1 n2 4 324 [(0, .ref b), (1, .ref (g.2.1 0)), (2, .ref (g.2.1 69)), (3, .int v3)] [] σ := by
  unfold wL_4 at h
  refine zr_aload_n C (zo_43 (p := 324) (zby_w zwL_law_10 4 rfl)) rfl ?_
  refine zr_ci (zr_runV (As := []) (rest := []) C vw_L_32 (c_X8_wipe l g σ _ h) (sh_0) rfl (by decide) (by decide) rfl rfl (Nat.le_of_ble_eq_true rfl) (zo_182 (p := 325) (k := 32) (a := 0) (b := 32) (zby_w zwL_law_10 5 rfl) (zby_w zwL_law_10 6 rfl) (zby_w zwL_law_10 7 rfl) (by decide))) (fun r1 σ2 h => ?_)
  refine zr_pop C (zo_87 (p := 328) (zby_w zwL_law_10 8 rfl)) rfl ?_
  refine zr_aload_n C (zo_44 (p := 329) (zby_w zwL_law_10 9 rfl)) rfl ?_
  refine zr_ci (zr_runV (As := []) (rest := []) C vw_L_36 (c_X9_wipe l g σ2 _ h) (sh_69) rfl (by decide) (by decide) rfl rfl (Nat.le_of_ble_eq_true rfl) (zo_182 (p := 330) (k := 36) (a := 0) (b := 36) (zby_w zwL_law_10 10 rfl) (zby_w zwL_law_10 11 rfl) (zby_w zwL_law_10 12 rfl) (by decide))) (fun r3 σ4 h => ?_)
  refine zr_pop C (zo_87 (p := 333) (zby_w zwL_law_10 13 rfl)) rfl ?_
  refine zr_goto C 1311 (zo_167 (p := 334) (k := 977) (a := 3) (b := 209) (zby_w zwL_law_10 14 rfl) (zby_w zwL_law_10 15 rfl) (zby_w zwL_law_10 16 rfl) (by decide)) (by decide) ?_
  exact zr_pick [0, 1, 2, 3] rfl (hK σ4 h)
def wL_5 (a1 a2 a3 a4 a5 : Int32) (σ : zST) (K : zST → Prop) : Prop := wp_X8_fault a1 σ (fun r1 => wp_X9_fault a1 σ (fun r3 => K σ))
set_option maxRecDepth 100000 in
set_option maxHeartbeats 4000000 in
theorem gL_5 {p : Program} {l : Launch} {e : Env} {R : Room} {s : State} {m : MethodId} {args : Array Value} {below : List Frame} {meth : Method} {c : Code} {Q : State → Prop} {g : zG} {n1 n2 : Nat} (C : zCX p R s m args meth c g n1 n2 cL_law 4 RL 7 164) {b L : Nat} {xs : Nat → Int32} (hX : va_X b L xs s s.heap) (hbl : b < s.heap.size) (hbA : ¬ zA g b) {v3 : Int32} (hi0 : vp_in v3 L) (hi1 : vp_in (v3 + 1) L) (hi2 : vp_in (v3 + 2) L) (hi3 : vp_in (v3 + 3) L) (hi4 : vp_in (v3 + 4) L) (hi5 : vp_in (v3 + 5) L) {σ : zST} {K : zST → Prop} (hK : ∀ σ : zST, K σ → zGG p l e R s m args below meth c Q g n1 n2 4 1311 [(0, .ref b), (1, .ref (g.2.1 0)), (2, .ref (g.2.1 69)), (3, .int v3)] [] σ) (h : wL_5 (xs (v3 + (1 : Int32)).toNatClampNeg) (xs (v3 + (2 : Int32)).toNatClampNeg) (xs (v3 + (3 : Int32)).toNatClampNeg) (xs (v3 + (4 : Int32)).toNatClampNeg) (xs (v3 + (5 : Int32)).toNatClampNeg) σ K) : zGG p l e R s m args below meth c Q g n1 n2 4 337 [(0, .ref b), (1, .ref (g.2.1 0)), (2, .ref (g.2.1 69)), (3, .int v3)] [] σ := by
  unfold wL_5 at h
  refine zr_aload_n C (zo_43 (p := 337) (zby_w zwL_law_10 17 rfl)) rfl ?_
  refine zr_aload_n C (zo_42 (p := 338) (zby_w zwL_law_10 18 rfl)) rfl ?_
  refine zr_iload_n C (zo_29 (p := 339) (zby_w zwL_law_10 19 rfl)) rfl ?_
  refine zr_iconst C (1 : Int32) (zo_4 (p := 340) (zby_w zwL_law_10 20 rfl)) (by decide) ?_
  refine zr_iadd C (zo_96 (p := 341) (zby_w zwL_law_10 21 rfl)) ?_
  refine zr_sld C hX hbl hbA hi1 (zo_46 (p := 342) (zby_w zwL_law_10 22 rfl)) ?_
  refine zr_cip (zr_runV (As := [.int (xs (v3 + (1 : Int32)).toNatClampNeg)]) (rest := []) C vw_L_37 (c_X8_fault l g (xs (v3 + (1 : Int32)).toNatClampNeg) σ _ h) (sh_0) rfl (by decide) (by decide) rfl rfl (Nat.le_of_ble_eq_true rfl) (zo_182 (p := 343) (k := 37) (a := 0) (b := 37) (zby_w zwL_law_10 23 rfl) (zby_w zwL_law_10 24 rfl) (zby_w zwL_law_10 25 rfl) (by decide))) (fun r1 h => ?_)
  refine zr_pop C (zo_87 (p := 346) (zby_w zwL_law_10 26 rfl)) rfl ?_
  refine zr_aload_n C (zo_44 (p := 347) (zby_w zwL_law_10 27 rfl)) rfl ?_
  refine zr_aload_n C (zo_42 (p := 348) (zby_w zwL_law_10 28 rfl)) rfl ?_
  refine zr_iload_n C (zo_29 (p := 349) (zby_w zwL_law_10 29 rfl)) rfl ?_
  refine zr_iconst C (1 : Int32) (zo_4 (p := 350) (zby_w zwL_law_10 30 rfl)) (by decide) ?_
  refine zr_iadd C (zo_96 (p := 351) (zby_w zwL_law_10 31 rfl)) ?_
  refine zr_sld C hX hbl hbA hi1 (zo_46 (p := 352) (zby_w zwL_law_11 0 rfl)) ?_
  refine zr_cip (zr_runV (As := [.int (xs (v3 + (1 : Int32)).toNatClampNeg)]) (rest := []) C vw_L_40 (c_X9_fault l g (xs (v3 + (1 : Int32)).toNatClampNeg) σ _ h) (sh_69) rfl (by decide) (by decide) rfl rfl (Nat.le_of_ble_eq_true rfl) (zo_182 (p := 353) (k := 40) (a := 0) (b := 40) (zby_w zwL_law_11 1 rfl) (zby_w zwL_law_11 2 rfl) (zby_w zwL_law_11 3 rfl) (by decide))) (fun r3 h => ?_)
  refine zr_pop C (zo_87 (p := 356) (zby_w zwL_law_11 4 rfl)) rfl ?_
  refine zr_goto C 1311 (zo_167 (p := 357) (k := 954) (a := 3) (b := 186) (zby_w zwL_law_11 5 rfl) (zby_w zwL_law_11 6 rfl) (zby_w zwL_law_11 7 rfl) (by decide)) (by decide) ?_
  exact zr_pick [0, 1, 2, 3] rfl (hK σ h)
def wL_6 (a1 a2 a3 a4 a5 : Int32) (σ : zST) (K : zST → Prop) : Prop := wp_X8_tide σ (fun r1 σ2 => wp_X9_tide σ2 (fun r3 σ4 => K σ4))
set_option maxRecDepth 100000 in
set_option maxHeartbeats 4000000 in
theorem gL_6 {p : Program} {l : Launch} {e : Env} {R : Room} {s : State} {m : MethodId} {args : Array Value} {below : List Frame} {meth : Method} {c : Code} {Q : State → Prop} {g : zG} {n1 n2 : Nat} (C : zCX p R s m args meth c g n1 n2 cL_law 4 RL 7 164) {b L : Nat} {xs : Nat → Int32} (hX : va_X b L xs s s.heap) (hbl : b < s.heap.size) (hbA : ¬ zA g b) {v3 : Int32} (hi0 : vp_in v3 L) (hi1 : vp_in (v3 + 1) L) (hi2 : vp_in (v3 + 2) L) (hi3 : vp_in (v3 + 3) L) (hi4 : vp_in (v3 + 4) L) (hi5 : vp_in (v3 + 5) L) {σ : zST} {K : zST → Prop} (hK : ∀ σ : zST, K σ → zGG p l e R s m args below meth c Q g n1 n2 4 1311 [(0, .ref b), (1, .ref (g.2.1 0)), (2, .ref (g.2.1 69)), (3, .int v3)] [] σ) (h : wL_6 (xs (v3 + (1 : Int32)).toNatClampNeg) (xs (v3 + (2 : Int32)).toNatClampNeg) (xs (v3 + (3 : Int32)).toNatClampNeg) (xs (v3 + (4 : Int32)).toNatClampNeg) (xs (v3 + (5 : Int32)).toNatClampNeg) σ K) : zGG p l e R s m args below meth c Q g n1 n2 4 360 [(0, .ref b), (1, .ref (g.2.1 0)), (2, .ref (g.2.1 69)), (3, .int v3)] [] σ := by
  unfold wL_6 at h
  refine zr_aload_n C (zo_43 (p := 360) (zby_w zwL_law_11 8 rfl)) rfl ?_
  refine zr_ci (zr_runV (As := []) (rest := []) C vw_L_41 (c_X8_tide l g σ _ h) (sh_0) rfl (by decide) (by decide) rfl rfl (Nat.le_of_ble_eq_true rfl) (zo_182 (p := 361) (k := 41) (a := 0) (b := 41) (zby_w zwL_law_11 9 rfl) (zby_w zwL_law_11 10 rfl) (zby_w zwL_law_11 11 rfl) (by decide))) (fun r1 σ2 h => ?_)
  refine zr_pop C (zo_87 (p := 364) (zby_w zwL_law_11 12 rfl)) rfl ?_
  refine zr_aload_n C (zo_44 (p := 365) (zby_w zwL_law_11 13 rfl)) rfl ?_
  refine zr_ci (zr_runV (As := []) (rest := []) C vw_L_44 (c_X9_tide l g σ2 _ h) (sh_69) rfl (by decide) (by decide) rfl rfl (Nat.le_of_ble_eq_true rfl) (zo_182 (p := 366) (k := 44) (a := 0) (b := 44) (zby_w zwL_law_11 14 rfl) (zby_w zwL_law_11 15 rfl) (zby_w zwL_law_11 16 rfl) (by decide))) (fun r3 σ4 h => ?_)
  refine zr_pop C (zo_87 (p := 369) (zby_w zwL_law_11 17 rfl)) rfl ?_
  refine zr_goto C 1311 (zo_167 (p := 370) (k := 941) (a := 3) (b := 173) (zby_w zwL_law_11 18 rfl) (zby_w zwL_law_11 19 rfl) (zby_w zwL_law_11 20 rfl) (by decide)) (by decide) ?_
  exact zr_pick [0, 1, 2, 3] rfl (hK σ4 h)
def wL_7 (a1 a2 a3 a4 a5 : Int32) (σ : zST) (K : zST → Prop) : Prop := wp_X8_judge a1 σ (fun r1 σ2 => wp_X9_judge a1 σ2 (fun r3 σ4 => K σ4))
set_option maxRecDepth 100000 in
set_option maxHeartbeats 4000000 in
theorem gL_7 {p : Program} {l : Launch} {e : Env} {R : Room} {s : State} {m : MethodId} {args : Array Value} {below : List Frame} {meth : Method} {c : Code} {Q : State → Prop} {g : zG} {n1 n2 : Nat} (C : zCX p R s m args meth c g n1 n2 cL_law 4 RL 7 164) {b L : Nat} {xs : Nat → Int32} (hX : va_X b L xs s s.heap) (hbl : b < s.heap.size) (hbA : ¬ zA g b) {v3 : Int32} (hi0 : vp_in v3 L) (hi1 : vp_in (v3 + 1) L) (hi2 : vp_in (v3 + 2) L) (hi3 : vp_in (v3 + 3) L) (hi4 : vp_in (v3 + 4) L) (hi5 : vp_in (v3 + 5) L) {σ : zST} {K : zST → Prop} (hK : ∀ σ : zST, K σ → zGG p l e R s m args below meth c Q g n1 n2 4 1311 [(0, .ref b), (1, .ref (g.2.1 0)), (2, .ref (g.2.1 69)), (3, .int v3)] [] σ) (h : wL_7 (xs (v3 + (1 : Int32)).toNatClampNeg) (xs (v3 + (2 : Int32)).toNatClampNeg) (xs (v3 + (3 : Int32)).toNatClampNeg) (xs (v3 + (4 : Int32)).toNatClampNeg) (xs (v3 + (5 : Int32)).toNatClampNeg) σ K) : zGG p l e R s m args below meth c Q g n1 n2 4 373 [(0, .ref b), (1, .ref (g.2.1 0)), (2, .ref (g.2.1 69)), (3, .int v3)] [] σ := by
  unfold wL_7 at h
  refine zr_aload_n C (zo_43 (p := 373) (zby_w zwL_law_11 21 rfl)) rfl ?_
  refine zr_aload_n C (zo_42 (p := 374) (zby_w zwL_law_11 22 rfl)) rfl ?_
  refine zr_iload_n C (zo_29 (p := 375) (zby_w zwL_law_11 23 rfl)) rfl ?_
  refine zr_iconst C (1 : Int32) (zo_4 (p := 376) (zby_w zwL_law_11 24 rfl)) (by decide) ?_
  refine zr_iadd C (zo_96 (p := 377) (zby_w zwL_law_11 25 rfl)) ?_
  refine zr_sld C hX hbl hbA hi1 (zo_46 (p := 378) (zby_w zwL_law_11 26 rfl)) ?_
  refine zr_ci (zr_runV (As := [.int (xs (v3 + (1 : Int32)).toNatClampNeg)]) (rest := []) C vw_L_45 (c_X8_judge l g (xs (v3 + (1 : Int32)).toNatClampNeg) σ _ h) (sh_0) rfl (by decide) (by decide) rfl rfl (Nat.le_of_ble_eq_true rfl) (zo_182 (p := 379) (k := 45) (a := 0) (b := 45) (zby_w zwL_law_11 27 rfl) (zby_w zwL_law_11 28 rfl) (zby_w zwL_law_11 29 rfl) (by decide))) (fun r1 σ2 h => ?_)
  refine zr_pop C (zo_87 (p := 382) (zby_w zwL_law_11 30 rfl)) rfl ?_
  refine zr_aload_n C (zo_44 (p := 383) (zby_w zwL_law_11 31 rfl)) rfl ?_
  refine zr_aload_n C (zo_42 (p := 384) (zby_w zwL_law_12 0 rfl)) rfl ?_
  refine zr_iload_n C (zo_29 (p := 385) (zby_w zwL_law_12 1 rfl)) rfl ?_
  refine zr_iconst C (1 : Int32) (zo_4 (p := 386) (zby_w zwL_law_12 2 rfl)) (by decide) ?_
  refine zr_iadd C (zo_96 (p := 387) (zby_w zwL_law_12 3 rfl)) ?_
  refine zr_sld C hX hbl hbA hi1 (zo_46 (p := 388) (zby_w zwL_law_12 4 rfl)) ?_
  refine zr_ci (zr_runV (As := [.int (xs (v3 + (1 : Int32)).toNatClampNeg)]) (rest := []) C vw_L_48 (c_X9_judge l g (xs (v3 + (1 : Int32)).toNatClampNeg) σ2 _ h) (sh_69) rfl (by decide) (by decide) rfl rfl (Nat.le_of_ble_eq_true rfl) (zo_182 (p := 389) (k := 48) (a := 0) (b := 48) (zby_w zwL_law_12 5 rfl) (zby_w zwL_law_12 6 rfl) (zby_w zwL_law_12 7 rfl) (by decide))) (fun r3 σ4 h => ?_)
  refine zr_pop C (zo_87 (p := 392) (zby_w zwL_law_12 8 rfl)) rfl ?_
  refine zr_goto C 1311 (zo_167 (p := 393) (k := 918) (a := 3) (b := 150) (zby_w zwL_law_12 9 rfl) (zby_w zwL_law_12 10 rfl) (zby_w zwL_law_12 11 rfl) (by decide)) (by decide) ?_
  exact zr_pick [0, 1, 2, 3] rfl (hK σ4 h)
def wL_8 (a1 a2 a3 a4 a5 : Int32) (σ : zST) (K : zST → Prop) : Prop := wp_X8_state a1 a2 σ (fun r1 => wp_X9_state a1 a2 σ (fun r3 => K σ))
set_option maxRecDepth 100000 in
set_option maxHeartbeats 4000000 in
theorem gL_8 {p : Program} {l : Launch} {e : Env} {R : Room} {s : State} {m : MethodId} {args : Array Value} {below : List Frame} {meth : Method} {c : Code} {Q : State → Prop} {g : zG} {n1 n2 : Nat} (C : zCX p R s m args meth c g n1 n2 cL_law 4 RL 7 164) {b L : Nat} {xs : Nat → Int32} (hX : va_X b L xs s s.heap) (hbl : b < s.heap.size) (hbA : ¬ zA g b) {v3 : Int32} (hi0 : vp_in v3 L) (hi1 : vp_in (v3 + 1) L) (hi2 : vp_in (v3 + 2) L) (hi3 : vp_in (v3 + 3) L) (hi4 : vp_in (v3 + 4) L) (hi5 : vp_in (v3 + 5) L) {σ : zST} {K : zST → Prop} (hK : ∀ σ : zST, K σ → zGG p l e R s m args below meth c Q g n1 n2 4 1311 [(0, .ref b), (1, .ref (g.2.1 0)), (2, .ref (g.2.1 69)), (3, .int v3)] [] σ) (h : wL_8 (xs (v3 + (1 : Int32)).toNatClampNeg) (xs (v3 + (2 : Int32)).toNatClampNeg) (xs (v3 + (3 : Int32)).toNatClampNeg) (xs (v3 + (4 : Int32)).toNatClampNeg) (xs (v3 + (5 : Int32)).toNatClampNeg) σ K) : zGG p l e R s m args below meth c Q g n1 n2 4 396 [(0, .ref b), (1, .ref (g.2.1 0)), (2, .ref (g.2.1 69)), (3, .int v3)] [] σ := by
  unfold wL_8 at h
  refine zr_aload_n C (zo_43 (p := 396) (zby_w zwL_law_12 12 rfl)) rfl ?_
  refine zr_aload_n C (zo_42 (p := 397) (zby_w zwL_law_12 13 rfl)) rfl ?_
  refine zr_iload_n C (zo_29 (p := 398) (zby_w zwL_law_12 14 rfl)) rfl ?_
  refine zr_iconst C (1 : Int32) (zo_4 (p := 399) (zby_w zwL_law_12 15 rfl)) (by decide) ?_
  refine zr_iadd C (zo_96 (p := 400) (zby_w zwL_law_12 16 rfl)) ?_
  refine zr_sld C hX hbl hbA hi1 (zo_46 (p := 401) (zby_w zwL_law_12 17 rfl)) ?_
  refine zr_aload_n C (zo_42 (p := 402) (zby_w zwL_law_12 18 rfl)) rfl ?_
  refine zr_iload_n C (zo_29 (p := 403) (zby_w zwL_law_12 19 rfl)) rfl ?_
  refine zr_iconst C (2 : Int32) (zo_5 (p := 404) (zby_w zwL_law_12 20 rfl)) (by decide) ?_
  refine zr_iadd C (zo_96 (p := 405) (zby_w zwL_law_12 21 rfl)) ?_
  refine zr_sld C hX hbl hbA hi2 (zo_46 (p := 406) (zby_w zwL_law_12 22 rfl)) ?_
  refine zr_cip (zr_runV (As := [.int (xs (v3 + (1 : Int32)).toNatClampNeg), .int (xs (v3 + (2 : Int32)).toNatClampNeg)]) (rest := []) C vw_L_49 (c_X8_state l g (xs (v3 + (1 : Int32)).toNatClampNeg) (xs (v3 + (2 : Int32)).toNatClampNeg) σ _ h) (sh_0) rfl (by decide) (by decide) rfl rfl (Nat.le_of_ble_eq_true rfl) (zo_182 (p := 407) (k := 49) (a := 0) (b := 49) (zby_w zwL_law_12 23 rfl) (zby_w zwL_law_12 24 rfl) (zby_w zwL_law_12 25 rfl) (by decide))) (fun r1 h => ?_)
  refine zr_pop C (zo_87 (p := 410) (zby_w zwL_law_12 26 rfl)) rfl ?_
  refine zr_aload_n C (zo_44 (p := 411) (zby_w zwL_law_12 27 rfl)) rfl ?_
  refine zr_aload_n C (zo_42 (p := 412) (zby_w zwL_law_12 28 rfl)) rfl ?_
  refine zr_iload_n C (zo_29 (p := 413) (zby_w zwL_law_12 29 rfl)) rfl ?_
  refine zr_iconst C (1 : Int32) (zo_4 (p := 414) (zby_w zwL_law_12 30 rfl)) (by decide) ?_
  refine zr_iadd C (zo_96 (p := 415) (zby_w zwL_law_12 31 rfl)) ?_
  refine zr_sld C hX hbl hbA hi1 (zo_46 (p := 416) (zby_w zwL_law_13 0 rfl)) ?_
  refine zr_aload_n C (zo_42 (p := 417) (zby_w zwL_law_13 1 rfl)) rfl ?_
  refine zr_iload_n C (zo_29 (p := 418) (zby_w zwL_law_13 2 rfl)) rfl ?_
  refine zr_iconst C (2 : Int32) (zo_5 (p := 419) (zby_w zwL_law_13 3 rfl)) (by decide) ?_
  refine zr_iadd C (zo_96 (p := 420) (zby_w zwL_law_13 4 rfl)) ?_
  refine zr_sld C hX hbl hbA hi2 (zo_46 (p := 421) (zby_w zwL_law_13 5 rfl)) ?_
  refine zr_cip (zr_runV (As := [.int (xs (v3 + (1 : Int32)).toNatClampNeg), .int (xs (v3 + (2 : Int32)).toNatClampNeg)]) (rest := []) C vw_L_52 (c_X9_state l g (xs (v3 + (1 : Int32)).toNatClampNeg) (xs (v3 + (2 : Int32)).toNatClampNeg) σ _ h) (sh_69) rfl (by decide) (by decide) rfl rfl (Nat.le_of_ble_eq_true rfl) (zo_182 (p := 422) (k := 52) (a := 0) (b := 52) (zby_w zwL_law_13 6 rfl) (zby_w zwL_law_13 7 rfl) (zby_w zwL_law_13 8 rfl) (by decide))) (fun r3 h => ?_)
  refine zr_pop C (zo_87 (p := 425) (zby_w zwL_law_13 9 rfl)) rfl ?_
  refine zr_goto C 1311 (zo_167 (p := 426) (k := 885) (a := 3) (b := 117) (zby_w zwL_law_13 10 rfl) (zby_w zwL_law_13 11 rfl) (zby_w zwL_law_13 12 rfl) (by decide)) (by decide) ?_
  exact zr_pick [0, 1, 2, 3] rfl (hK σ h)
def wL_9 (a1 a2 a3 a4 a5 : Int32) (σ : zST) (K : zST → Prop) : Prop := wp_X8_behind a1 a2 σ (fun r1 σ2 => wp_X9_behind a1 a2 σ2 (fun r3 σ4 => K σ4))
set_option maxRecDepth 100000 in
set_option maxHeartbeats 4000000 in
theorem gL_9 {p : Program} {l : Launch} {e : Env} {R : Room} {s : State} {m : MethodId} {args : Array Value} {below : List Frame} {meth : Method} {c : Code} {Q : State → Prop} {g : zG} {n1 n2 : Nat} (C : zCX p R s m args meth c g n1 n2 cL_law 4 RL 7 164) {b L : Nat} {xs : Nat → Int32} (hX : va_X b L xs s s.heap) (hbl : b < s.heap.size) (hbA : ¬ zA g b) {v3 : Int32} (hi0 : vp_in v3 L) (hi1 : vp_in (v3 + 1) L) (hi2 : vp_in (v3 + 2) L) (hi3 : vp_in (v3 + 3) L) (hi4 : vp_in (v3 + 4) L) (hi5 : vp_in (v3 + 5) L) {σ : zST} {K : zST → Prop} (hK : ∀ σ : zST, K σ → zGG p l e R s m args below meth c Q g n1 n2 4 1311 [(0, .ref b), (1, .ref (g.2.1 0)), (2, .ref (g.2.1 69)), (3, .int v3)] [] σ) (h : wL_9 (xs (v3 + (1 : Int32)).toNatClampNeg) (xs (v3 + (2 : Int32)).toNatClampNeg) (xs (v3 + (3 : Int32)).toNatClampNeg) (xs (v3 + (4 : Int32)).toNatClampNeg) (xs (v3 + (5 : Int32)).toNatClampNeg) σ K) : zGG p l e R s m args below meth c Q g n1 n2 4 429 [(0, .ref b), (1, .ref (g.2.1 0)), (2, .ref (g.2.1 69)), (3, .int v3)] [] σ := by
  unfold wL_9 at h
  refine zr_aload_n C (zo_43 (p := 429) (zby_w zwL_law_13 13 rfl)) rfl ?_
  refine zr_aload_n C (zo_42 (p := 430) (zby_w zwL_law_13 14 rfl)) rfl ?_
  refine zr_iload_n C (zo_29 (p := 431) (zby_w zwL_law_13 15 rfl)) rfl ?_
  refine zr_iconst C (1 : Int32) (zo_4 (p := 432) (zby_w zwL_law_13 16 rfl)) (by decide) ?_
  refine zr_iadd C (zo_96 (p := 433) (zby_w zwL_law_13 17 rfl)) ?_
  refine zr_sld C hX hbl hbA hi1 (zo_46 (p := 434) (zby_w zwL_law_13 18 rfl)) ?_
  refine zr_aload_n C (zo_42 (p := 435) (zby_w zwL_law_13 19 rfl)) rfl ?_
  refine zr_iload_n C (zo_29 (p := 436) (zby_w zwL_law_13 20 rfl)) rfl ?_
  refine zr_iconst C (2 : Int32) (zo_5 (p := 437) (zby_w zwL_law_13 21 rfl)) (by decide) ?_
  refine zr_iadd C (zo_96 (p := 438) (zby_w zwL_law_13 22 rfl)) ?_
  refine zr_sld C hX hbl hbA hi2 (zo_46 (p := 439) (zby_w zwL_law_13 23 rfl)) ?_
  refine zr_ci (zr_runV (As := [.int (xs (v3 + (1 : Int32)).toNatClampNeg), .int (xs (v3 + (2 : Int32)).toNatClampNeg)]) (rest := []) C vw_L_53 (c_X8_behind l g (xs (v3 + (1 : Int32)).toNatClampNeg) (xs (v3 + (2 : Int32)).toNatClampNeg) σ _ h) (sh_0) rfl (by decide) (by decide) rfl rfl (Nat.le_of_ble_eq_true rfl) (zo_182 (p := 440) (k := 53) (a := 0) (b := 53) (zby_w zwL_law_13 24 rfl) (zby_w zwL_law_13 25 rfl) (zby_w zwL_law_13 26 rfl) (by decide))) (fun r1 σ2 h => ?_)
  refine zr_pop C (zo_87 (p := 443) (zby_w zwL_law_13 27 rfl)) rfl ?_
  refine zr_aload_n C (zo_44 (p := 444) (zby_w zwL_law_13 28 rfl)) rfl ?_
  refine zr_aload_n C (zo_42 (p := 445) (zby_w zwL_law_13 29 rfl)) rfl ?_
  refine zr_iload_n C (zo_29 (p := 446) (zby_w zwL_law_13 30 rfl)) rfl ?_
  refine zr_iconst C (1 : Int32) (zo_4 (p := 447) (zby_w zwL_law_13 31 rfl)) (by decide) ?_
  refine zr_iadd C (zo_96 (p := 448) (zby_w zwL_law_14 0 rfl)) ?_
  refine zr_sld C hX hbl hbA hi1 (zo_46 (p := 449) (zby_w zwL_law_14 1 rfl)) ?_
  refine zr_aload_n C (zo_42 (p := 450) (zby_w zwL_law_14 2 rfl)) rfl ?_
  refine zr_iload_n C (zo_29 (p := 451) (zby_w zwL_law_14 3 rfl)) rfl ?_
  refine zr_iconst C (2 : Int32) (zo_5 (p := 452) (zby_w zwL_law_14 4 rfl)) (by decide) ?_
  refine zr_iadd C (zo_96 (p := 453) (zby_w zwL_law_14 5 rfl)) ?_
  refine zr_sld C hX hbl hbA hi2 (zo_46 (p := 454) (zby_w zwL_law_14 6 rfl)) ?_
  refine zr_ci (zr_runV (As := [.int (xs (v3 + (1 : Int32)).toNatClampNeg), .int (xs (v3 + (2 : Int32)).toNatClampNeg)]) (rest := []) C vw_L_56 (c_X9_behind l g (xs (v3 + (1 : Int32)).toNatClampNeg) (xs (v3 + (2 : Int32)).toNatClampNeg) σ2 _ h) (sh_69) rfl (by decide) (by decide) rfl rfl (Nat.le_of_ble_eq_true rfl) (zo_182 (p := 455) (k := 56) (a := 0) (b := 56) (zby_w zwL_law_14 7 rfl) (zby_w zwL_law_14 8 rfl) (zby_w zwL_law_14 9 rfl) (by decide))) (fun r3 σ4 h => ?_)
  refine zr_pop C (zo_87 (p := 458) (zby_w zwL_law_14 10 rfl)) rfl ?_
  refine zr_goto C 1311 (zo_167 (p := 459) (k := 852) (a := 3) (b := 84) (zby_w zwL_law_14 11 rfl) (zby_w zwL_law_14 12 rfl) (zby_w zwL_law_14 13 rfl) (by decide)) (by decide) ?_
  exact zr_pick [0, 1, 2, 3] rfl (hK σ4 h)
def wL_10 (a1 a2 a3 a4 a5 : Int32) (σ : zST) (K : zST → Prop) : Prop := wp_X8_done σ (fun r1 σ2 => wp_X9_done σ2 (fun r3 σ4 => K σ4))
set_option maxRecDepth 100000 in
set_option maxHeartbeats 4000000 in
theorem gL_10 {p : Program} {l : Launch} {e : Env} {R : Room} {s : State} {m : MethodId} {args : Array Value} {below : List Frame} {meth : Method} {c : Code} {Q : State → Prop} {g : zG} {n1 n2 : Nat} (C : zCX p R s m args meth c g n1 n2 cL_law 4 RL 7 164) {b L : Nat} {xs : Nat → Int32} (hX : va_X b L xs s s.heap) (hbl : b < s.heap.size) (hbA : ¬ zA g b) {v3 : Int32} (hi0 : vp_in v3 L) (hi1 : vp_in (v3 + 1) L) (hi2 : vp_in (v3 + 2) L) (hi3 : vp_in (v3 + 3) L) (hi4 : vp_in (v3 + 4) L) (hi5 : vp_in (v3 + 5) L) {σ : zST} {K : zST → Prop} (hK : ∀ σ : zST, K σ → zGG p l e R s m args below meth c Q g n1 n2 4 1311 [(0, .ref b), (1, .ref (g.2.1 0)), (2, .ref (g.2.1 69)), (3, .int v3)] [] σ) (h : wL_10 (xs (v3 + (1 : Int32)).toNatClampNeg) (xs (v3 + (2 : Int32)).toNatClampNeg) (xs (v3 + (3 : Int32)).toNatClampNeg) (xs (v3 + (4 : Int32)).toNatClampNeg) (xs (v3 + (5 : Int32)).toNatClampNeg) σ K) : zGG p l e R s m args below meth c Q g n1 n2 4 462 [(0, .ref b), (1, .ref (g.2.1 0)), (2, .ref (g.2.1 69)), (3, .int v3)] [] σ := by
  unfold wL_10 at h
  refine zr_aload_n C (zo_43 (p := 462) (zby_w zwL_law_14 14 rfl)) rfl ?_
  refine zr_ci (zr_runV (As := []) (rest := []) C vw_L_57 (c_X8_done l g σ _ h) (sh_0) rfl (by decide) (by decide) rfl rfl (Nat.le_of_ble_eq_true rfl) (zo_182 (p := 463) (k := 57) (a := 0) (b := 57) (zby_w zwL_law_14 15 rfl) (zby_w zwL_law_14 16 rfl) (zby_w zwL_law_14 17 rfl) (by decide))) (fun r1 σ2 h => ?_)
  refine zr_pop C (zo_87 (p := 466) (zby_w zwL_law_14 18 rfl)) rfl ?_
  refine zr_aload_n C (zo_44 (p := 467) (zby_w zwL_law_14 19 rfl)) rfl ?_
  refine zr_ci (zr_runV (As := []) (rest := []) C vw_L_60 (c_X9_done l g σ2 _ h) (sh_69) rfl (by decide) (by decide) rfl rfl (Nat.le_of_ble_eq_true rfl) (zo_182 (p := 468) (k := 60) (a := 0) (b := 60) (zby_w zwL_law_14 20 rfl) (zby_w zwL_law_14 21 rfl) (zby_w zwL_law_14 22 rfl) (by decide))) (fun r3 σ4 h => ?_)
  refine zr_pop C (zo_87 (p := 471) (zby_w zwL_law_14 23 rfl)) rfl ?_
  refine zr_goto C 1311 (zo_167 (p := 472) (k := 839) (a := 3) (b := 71) (zby_w zwL_law_14 24 rfl) (zby_w zwL_law_14 25 rfl) (zby_w zwL_law_14 26 rfl) (by decide)) (by decide) ?_
  exact zr_pick [0, 1, 2, 3] rfl (hK σ4 h)
def wL_11 (a1 a2 a3 a4 a5 : Int32) (σ : zST) (K : zST → Prop) : Prop := wp_X8_sum a1 σ (fun r1 => wp_X9_sum a1 σ (fun r3 => K σ))
set_option maxRecDepth 100000 in
set_option maxHeartbeats 4000000 in
theorem gL_11 {p : Program} {l : Launch} {e : Env} {R : Room} {s : State} {m : MethodId} {args : Array Value} {below : List Frame} {meth : Method} {c : Code} {Q : State → Prop} {g : zG} {n1 n2 : Nat} (C : zCX p R s m args meth c g n1 n2 cL_law 4 RL 7 164) {b L : Nat} {xs : Nat → Int32} (hX : va_X b L xs s s.heap) (hbl : b < s.heap.size) (hbA : ¬ zA g b) {v3 : Int32} (hi0 : vp_in v3 L) (hi1 : vp_in (v3 + 1) L) (hi2 : vp_in (v3 + 2) L) (hi3 : vp_in (v3 + 3) L) (hi4 : vp_in (v3 + 4) L) (hi5 : vp_in (v3 + 5) L) {σ : zST} {K : zST → Prop} (hK : ∀ σ : zST, K σ → zGG p l e R s m args below meth c Q g n1 n2 4 1311 [(0, .ref b), (1, .ref (g.2.1 0)), (2, .ref (g.2.1 69)), (3, .int v3)] [] σ) (h : wL_11 (xs (v3 + (1 : Int32)).toNatClampNeg) (xs (v3 + (2 : Int32)).toNatClampNeg) (xs (v3 + (3 : Int32)).toNatClampNeg) (xs (v3 + (4 : Int32)).toNatClampNeg) (xs (v3 + (5 : Int32)).toNatClampNeg) σ K) : zGG p l e R s m args below meth c Q g n1 n2 4 475 [(0, .ref b), (1, .ref (g.2.1 0)), (2, .ref (g.2.1 69)), (3, .int v3)] [] σ := by
  unfold wL_11 at h
  refine zr_aload_n C (zo_43 (p := 475) (zby_w zwL_law_14 27 rfl)) rfl ?_
  refine zr_aload_n C (zo_42 (p := 476) (zby_w zwL_law_14 28 rfl)) rfl ?_
  refine zr_iload_n C (zo_29 (p := 477) (zby_w zwL_law_14 29 rfl)) rfl ?_
  refine zr_iconst C (1 : Int32) (zo_4 (p := 478) (zby_w zwL_law_14 30 rfl)) (by decide) ?_
  refine zr_iadd C (zo_96 (p := 479) (zby_w zwL_law_14 31 rfl)) ?_
  refine zr_sld C hX hbl hbA hi1 (zo_46 (p := 480) (zby_w zwL_law_15 0 rfl)) ?_
  refine zr_cip (zr_runV (As := [.int (xs (v3 + (1 : Int32)).toNatClampNeg)]) (rest := []) C vw_L_61 (c_X8_sum l g (xs (v3 + (1 : Int32)).toNatClampNeg) σ _ h) (sh_0) rfl (by decide) (by decide) rfl rfl (Nat.le_of_ble_eq_true rfl) (zo_182 (p := 481) (k := 61) (a := 0) (b := 61) (zby_w zwL_law_15 1 rfl) (zby_w zwL_law_15 2 rfl) (zby_w zwL_law_15 3 rfl) (by decide))) (fun r1 h => ?_)
  refine zr_pop C (zo_87 (p := 484) (zby_w zwL_law_15 4 rfl)) rfl ?_
  refine zr_aload_n C (zo_44 (p := 485) (zby_w zwL_law_15 5 rfl)) rfl ?_
  refine zr_aload_n C (zo_42 (p := 486) (zby_w zwL_law_15 6 rfl)) rfl ?_
  refine zr_iload_n C (zo_29 (p := 487) (zby_w zwL_law_15 7 rfl)) rfl ?_
  refine zr_iconst C (1 : Int32) (zo_4 (p := 488) (zby_w zwL_law_15 8 rfl)) (by decide) ?_
  refine zr_iadd C (zo_96 (p := 489) (zby_w zwL_law_15 9 rfl)) ?_
  refine zr_sld C hX hbl hbA hi1 (zo_46 (p := 490) (zby_w zwL_law_15 10 rfl)) ?_
  refine zr_cip (zr_runV (As := [.int (xs (v3 + (1 : Int32)).toNatClampNeg)]) (rest := []) C vw_L_64 (c_X9_sum l g (xs (v3 + (1 : Int32)).toNatClampNeg) σ _ h) (sh_69) rfl (by decide) (by decide) rfl rfl (Nat.le_of_ble_eq_true rfl) (zo_182 (p := 491) (k := 64) (a := 0) (b := 64) (zby_w zwL_law_15 11 rfl) (zby_w zwL_law_15 12 rfl) (zby_w zwL_law_15 13 rfl) (by decide))) (fun r3 h => ?_)
  refine zr_pop C (zo_87 (p := 494) (zby_w zwL_law_15 14 rfl)) rfl ?_
  refine zr_goto C 1311 (zo_167 (p := 495) (k := 816) (a := 3) (b := 48) (zby_w zwL_law_15 15 rfl) (zby_w zwL_law_15 16 rfl) (zby_w zwL_law_15 17 rfl) (by decide)) (by decide) ?_
  exact zr_pick [0, 1, 2, 3] rfl (hK σ h)
def wL_12 (a1 a2 a3 a4 a5 : Int32) (σ : zST) (K : zST → Prop) : Prop := wp_X8_mean a1 a2 a3 σ (fun r1 => wp_X9_mean a1 a2 a3 σ (fun r3 => K σ))
set_option maxRecDepth 100000 in
set_option maxHeartbeats 4000000 in
theorem gL_12 {p : Program} {l : Launch} {e : Env} {R : Room} {s : State} {m : MethodId} {args : Array Value} {below : List Frame} {meth : Method} {c : Code} {Q : State → Prop} {g : zG} {n1 n2 : Nat} (C : zCX p R s m args meth c g n1 n2 cL_law 4 RL 7 164) {b L : Nat} {xs : Nat → Int32} (hX : va_X b L xs s s.heap) (hbl : b < s.heap.size) (hbA : ¬ zA g b) {v3 : Int32} (hi0 : vp_in v3 L) (hi1 : vp_in (v3 + 1) L) (hi2 : vp_in (v3 + 2) L) (hi3 : vp_in (v3 + 3) L) (hi4 : vp_in (v3 + 4) L) (hi5 : vp_in (v3 + 5) L) {σ : zST} {K : zST → Prop} (hK : ∀ σ : zST, K σ → zGG p l e R s m args below meth c Q g n1 n2 4 1311 [(0, .ref b), (1, .ref (g.2.1 0)), (2, .ref (g.2.1 69)), (3, .int v3)] [] σ) (h : wL_12 (xs (v3 + (1 : Int32)).toNatClampNeg) (xs (v3 + (2 : Int32)).toNatClampNeg) (xs (v3 + (3 : Int32)).toNatClampNeg) (xs (v3 + (4 : Int32)).toNatClampNeg) (xs (v3 + (5 : Int32)).toNatClampNeg) σ K) : zGG p l e R s m args below meth c Q g n1 n2 4 498 [(0, .ref b), (1, .ref (g.2.1 0)), (2, .ref (g.2.1 69)), (3, .int v3)] [] σ := by
  unfold wL_12 at h
  refine zr_aload_n C (zo_43 (p := 498) (zby_w zwL_law_15 18 rfl)) rfl ?_
  refine zr_aload_n C (zo_42 (p := 499) (zby_w zwL_law_15 19 rfl)) rfl ?_
  refine zr_iload_n C (zo_29 (p := 500) (zby_w zwL_law_15 20 rfl)) rfl ?_
  refine zr_iconst C (1 : Int32) (zo_4 (p := 501) (zby_w zwL_law_15 21 rfl)) (by decide) ?_
  refine zr_iadd C (zo_96 (p := 502) (zby_w zwL_law_15 22 rfl)) ?_
  refine zr_sld C hX hbl hbA hi1 (zo_46 (p := 503) (zby_w zwL_law_15 23 rfl)) ?_
  refine zr_aload_n C (zo_42 (p := 504) (zby_w zwL_law_15 24 rfl)) rfl ?_
  refine zr_iload_n C (zo_29 (p := 505) (zby_w zwL_law_15 25 rfl)) rfl ?_
  refine zr_iconst C (2 : Int32) (zo_5 (p := 506) (zby_w zwL_law_15 26 rfl)) (by decide) ?_
  refine zr_iadd C (zo_96 (p := 507) (zby_w zwL_law_15 27 rfl)) ?_
  refine zr_sld C hX hbl hbA hi2 (zo_46 (p := 508) (zby_w zwL_law_15 28 rfl)) ?_
  refine zr_aload_n C (zo_42 (p := 509) (zby_w zwL_law_15 29 rfl)) rfl ?_
  refine zr_iload_n C (zo_29 (p := 510) (zby_w zwL_law_15 30 rfl)) rfl ?_
  refine zr_iconst C (3 : Int32) (zo_6 (p := 511) (zby_w zwL_law_15 31 rfl)) (by decide) ?_
  refine zr_iadd C (zo_96 (p := 512) (zby_w zwL_law_16 0 rfl)) ?_
  refine zr_sld C hX hbl hbA hi3 (zo_46 (p := 513) (zby_w zwL_law_16 1 rfl)) ?_
  refine zr_cip (zr_runV (As := [.int (xs (v3 + (1 : Int32)).toNatClampNeg), .int (xs (v3 + (2 : Int32)).toNatClampNeg), .int (xs (v3 + (3 : Int32)).toNatClampNeg)]) (rest := []) C vw_L_65 (c_X8_mean l g (xs (v3 + (1 : Int32)).toNatClampNeg) (xs (v3 + (2 : Int32)).toNatClampNeg) (xs (v3 + (3 : Int32)).toNatClampNeg) σ _ h) (sh_0) rfl (by decide) (by decide) rfl rfl (Nat.le_of_ble_eq_true rfl) (zo_182 (p := 514) (k := 65) (a := 0) (b := 65) (zby_w zwL_law_16 2 rfl) (zby_w zwL_law_16 3 rfl) (zby_w zwL_law_16 4 rfl) (by decide))) (fun r1 h => ?_)
  refine zr_pop C (zo_87 (p := 517) (zby_w zwL_law_16 5 rfl)) rfl ?_
  refine zr_aload_n C (zo_44 (p := 518) (zby_w zwL_law_16 6 rfl)) rfl ?_
  refine zr_aload_n C (zo_42 (p := 519) (zby_w zwL_law_16 7 rfl)) rfl ?_
  refine zr_iload_n C (zo_29 (p := 520) (zby_w zwL_law_16 8 rfl)) rfl ?_
  refine zr_iconst C (1 : Int32) (zo_4 (p := 521) (zby_w zwL_law_16 9 rfl)) (by decide) ?_
  refine zr_iadd C (zo_96 (p := 522) (zby_w zwL_law_16 10 rfl)) ?_
  refine zr_sld C hX hbl hbA hi1 (zo_46 (p := 523) (zby_w zwL_law_16 11 rfl)) ?_
  refine zr_aload_n C (zo_42 (p := 524) (zby_w zwL_law_16 12 rfl)) rfl ?_
  refine zr_iload_n C (zo_29 (p := 525) (zby_w zwL_law_16 13 rfl)) rfl ?_
  refine zr_iconst C (2 : Int32) (zo_5 (p := 526) (zby_w zwL_law_16 14 rfl)) (by decide) ?_
  refine zr_iadd C (zo_96 (p := 527) (zby_w zwL_law_16 15 rfl)) ?_
  refine zr_sld C hX hbl hbA hi2 (zo_46 (p := 528) (zby_w zwL_law_16 16 rfl)) ?_
  refine zr_aload_n C (zo_42 (p := 529) (zby_w zwL_law_16 17 rfl)) rfl ?_
  refine zr_iload_n C (zo_29 (p := 530) (zby_w zwL_law_16 18 rfl)) rfl ?_
  refine zr_iconst C (3 : Int32) (zo_6 (p := 531) (zby_w zwL_law_16 19 rfl)) (by decide) ?_
  refine zr_iadd C (zo_96 (p := 532) (zby_w zwL_law_16 20 rfl)) ?_
  refine zr_sld C hX hbl hbA hi3 (zo_46 (p := 533) (zby_w zwL_law_16 21 rfl)) ?_
  refine zr_cip (zr_runV (As := [.int (xs (v3 + (1 : Int32)).toNatClampNeg), .int (xs (v3 + (2 : Int32)).toNatClampNeg), .int (xs (v3 + (3 : Int32)).toNatClampNeg)]) (rest := []) C vw_L_69 (c_X9_mean l g (xs (v3 + (1 : Int32)).toNatClampNeg) (xs (v3 + (2 : Int32)).toNatClampNeg) (xs (v3 + (3 : Int32)).toNatClampNeg) σ _ h) (sh_69) rfl (by decide) (by decide) rfl rfl (Nat.le_of_ble_eq_true rfl) (zo_182 (p := 534) (k := 69) (a := 0) (b := 69) (zby_w zwL_law_16 22 rfl) (zby_w zwL_law_16 23 rfl) (zby_w zwL_law_16 24 rfl) (by decide))) (fun r3 h => ?_)
  refine zr_pop C (zo_87 (p := 537) (zby_w zwL_law_16 25 rfl)) rfl ?_
  refine zr_goto C 1311 (zo_167 (p := 538) (k := 773) (a := 3) (b := 5) (zby_w zwL_law_16 26 rfl) (zby_w zwL_law_16 27 rfl) (zby_w zwL_law_16 28 rfl) (by decide)) (by decide) ?_
  exact zr_pick [0, 1, 2, 3] rfl (hK σ h)
def wL_13 (a1 a2 a3 a4 a5 : Int32) (σ : zST) (K : zST → Prop) : Prop := wp_X8_worst a1 a2 a3 σ (fun r1 => wp_X9_worst a1 a2 a3 σ (fun r3 => K σ))
set_option maxRecDepth 100000 in
set_option maxHeartbeats 4000000 in
theorem gL_13 {p : Program} {l : Launch} {e : Env} {R : Room} {s : State} {m : MethodId} {args : Array Value} {below : List Frame} {meth : Method} {c : Code} {Q : State → Prop} {g : zG} {n1 n2 : Nat} (C : zCX p R s m args meth c g n1 n2 cL_law 4 RL 7 164) {b L : Nat} {xs : Nat → Int32} (hX : va_X b L xs s s.heap) (hbl : b < s.heap.size) (hbA : ¬ zA g b) {v3 : Int32} (hi0 : vp_in v3 L) (hi1 : vp_in (v3 + 1) L) (hi2 : vp_in (v3 + 2) L) (hi3 : vp_in (v3 + 3) L) (hi4 : vp_in (v3 + 4) L) (hi5 : vp_in (v3 + 5) L) {σ : zST} {K : zST → Prop} (hK : ∀ σ : zST, K σ → zGG p l e R s m args below meth c Q g n1 n2 4 1311 [(0, .ref b), (1, .ref (g.2.1 0)), (2, .ref (g.2.1 69)), (3, .int v3)] [] σ) (h : wL_13 (xs (v3 + (1 : Int32)).toNatClampNeg) (xs (v3 + (2 : Int32)).toNatClampNeg) (xs (v3 + (3 : Int32)).toNatClampNeg) (xs (v3 + (4 : Int32)).toNatClampNeg) (xs (v3 + (5 : Int32)).toNatClampNeg) σ K) : zGG p l e R s m args below meth c Q g n1 n2 4 541 [(0, .ref b), (1, .ref (g.2.1 0)), (2, .ref (g.2.1 69)), (3, .int v3)] [] σ := by
  unfold wL_13 at h
  refine zr_aload_n C (zo_43 (p := 541) (zby_w zwL_law_16 29 rfl)) rfl ?_
  refine zr_aload_n C (zo_42 (p := 542) (zby_w zwL_law_16 30 rfl)) rfl ?_
  refine zr_iload_n C (zo_29 (p := 543) (zby_w zwL_law_16 31 rfl)) rfl ?_
  refine zr_iconst C (1 : Int32) (zo_4 (p := 544) (zby_w zwL_law_17 0 rfl)) (by decide) ?_
  refine zr_iadd C (zo_96 (p := 545) (zby_w zwL_law_17 1 rfl)) ?_
  refine zr_sld C hX hbl hbA hi1 (zo_46 (p := 546) (zby_w zwL_law_17 2 rfl)) ?_
  refine zr_aload_n C (zo_42 (p := 547) (zby_w zwL_law_17 3 rfl)) rfl ?_
  refine zr_iload_n C (zo_29 (p := 548) (zby_w zwL_law_17 4 rfl)) rfl ?_
  refine zr_iconst C (2 : Int32) (zo_5 (p := 549) (zby_w zwL_law_17 5 rfl)) (by decide) ?_
  refine zr_iadd C (zo_96 (p := 550) (zby_w zwL_law_17 6 rfl)) ?_
  refine zr_sld C hX hbl hbA hi2 (zo_46 (p := 551) (zby_w zwL_law_17 7 rfl)) ?_
  refine zr_aload_n C (zo_42 (p := 552) (zby_w zwL_law_17 8 rfl)) rfl ?_
  refine zr_iload_n C (zo_29 (p := 553) (zby_w zwL_law_17 9 rfl)) rfl ?_
  refine zr_iconst C (3 : Int32) (zo_6 (p := 554) (zby_w zwL_law_17 10 rfl)) (by decide) ?_
  refine zr_iadd C (zo_96 (p := 555) (zby_w zwL_law_17 11 rfl)) ?_
  refine zr_sld C hX hbl hbA hi3 (zo_46 (p := 556) (zby_w zwL_law_17 12 rfl)) ?_
  refine zr_cip (zr_runV (As := [.int (xs (v3 + (1 : Int32)).toNatClampNeg), .int (xs (v3 + (2 : Int32)).toNatClampNeg), .int (xs (v3 + (3 : Int32)).toNatClampNeg)]) (rest := []) C vw_L_70 (c_X8_worst l g (xs (v3 + (1 : Int32)).toNatClampNeg) (xs (v3 + (2 : Int32)).toNatClampNeg) (xs (v3 + (3 : Int32)).toNatClampNeg) σ _ h) (sh_0) rfl (by decide) (by decide) rfl rfl (Nat.le_of_ble_eq_true rfl) (zo_182 (p := 557) (k := 70) (a := 0) (b := 70) (zby_w zwL_law_17 13 rfl) (zby_w zwL_law_17 14 rfl) (zby_w zwL_law_17 15 rfl) (by decide))) (fun r1 h => ?_)
  refine zr_pop C (zo_87 (p := 560) (zby_w zwL_law_17 16 rfl)) rfl ?_
  refine zr_aload_n C (zo_44 (p := 561) (zby_w zwL_law_17 17 rfl)) rfl ?_
  refine zr_aload_n C (zo_42 (p := 562) (zby_w zwL_law_17 18 rfl)) rfl ?_
  refine zr_iload_n C (zo_29 (p := 563) (zby_w zwL_law_17 19 rfl)) rfl ?_
  refine zr_iconst C (1 : Int32) (zo_4 (p := 564) (zby_w zwL_law_17 20 rfl)) (by decide) ?_
  refine zr_iadd C (zo_96 (p := 565) (zby_w zwL_law_17 21 rfl)) ?_
  refine zr_sld C hX hbl hbA hi1 (zo_46 (p := 566) (zby_w zwL_law_17 22 rfl)) ?_
  refine zr_aload_n C (zo_42 (p := 567) (zby_w zwL_law_17 23 rfl)) rfl ?_
  refine zr_iload_n C (zo_29 (p := 568) (zby_w zwL_law_17 24 rfl)) rfl ?_
  refine zr_iconst C (2 : Int32) (zo_5 (p := 569) (zby_w zwL_law_17 25 rfl)) (by decide) ?_
  refine zr_iadd C (zo_96 (p := 570) (zby_w zwL_law_17 26 rfl)) ?_
  refine zr_sld C hX hbl hbA hi2 (zo_46 (p := 571) (zby_w zwL_law_17 27 rfl)) ?_
  refine zr_aload_n C (zo_42 (p := 572) (zby_w zwL_law_17 28 rfl)) rfl ?_
  refine zr_iload_n C (zo_29 (p := 573) (zby_w zwL_law_17 29 rfl)) rfl ?_
  refine zr_iconst C (3 : Int32) (zo_6 (p := 574) (zby_w zwL_law_17 30 rfl)) (by decide) ?_
  refine zr_iadd C (zo_96 (p := 575) (zby_w zwL_law_17 31 rfl)) ?_
  refine zr_sld C hX hbl hbA hi3 (zo_46 (p := 576) (zby_w zwL_law_18 0 rfl)) ?_
  refine zr_cip (zr_runV (As := [.int (xs (v3 + (1 : Int32)).toNatClampNeg), .int (xs (v3 + (2 : Int32)).toNatClampNeg), .int (xs (v3 + (3 : Int32)).toNatClampNeg)]) (rest := []) C vw_L_73 (c_X9_worst l g (xs (v3 + (1 : Int32)).toNatClampNeg) (xs (v3 + (2 : Int32)).toNatClampNeg) (xs (v3 + (3 : Int32)).toNatClampNeg) σ _ h) (sh_69) rfl (by decide) (by decide) rfl rfl (Nat.le_of_ble_eq_true rfl) (zo_182 (p := 577) (k := 73) (a := 0) (b := 73) (zby_w zwL_law_18 1 rfl) (zby_w zwL_law_18 2 rfl) (zby_w zwL_law_18 3 rfl) (by decide))) (fun r3 h => ?_)
  refine zr_pop C (zo_87 (p := 580) (zby_w zwL_law_18 4 rfl)) rfl ?_
  refine zr_goto C 1311 (zo_167 (p := 581) (k := 730) (a := 2) (b := 218) (zby_w zwL_law_18 5 rfl) (zby_w zwL_law_18 6 rfl) (zby_w zwL_law_18 7 rfl) (by decide)) (by decide) ?_
  exact zr_pick [0, 1, 2, 3] rfl (hK σ h)
def wL_14 (a1 a2 a3 a4 a5 : Int32) (σ : zST) (K : zST → Prop) : Prop := wp_X8_choice a1 a2 σ (fun r1 => wp_X9_choice a1 a2 σ (fun r3 => K σ))
set_option maxRecDepth 100000 in
set_option maxHeartbeats 4000000 in
theorem gL_14 {p : Program} {l : Launch} {e : Env} {R : Room} {s : State} {m : MethodId} {args : Array Value} {below : List Frame} {meth : Method} {c : Code} {Q : State → Prop} {g : zG} {n1 n2 : Nat} (C : zCX p R s m args meth c g n1 n2 cL_law 4 RL 7 164) {b L : Nat} {xs : Nat → Int32} (hX : va_X b L xs s s.heap) (hbl : b < s.heap.size) (hbA : ¬ zA g b) {v3 : Int32} (hi0 : vp_in v3 L) (hi1 : vp_in (v3 + 1) L) (hi2 : vp_in (v3 + 2) L) (hi3 : vp_in (v3 + 3) L) (hi4 : vp_in (v3 + 4) L) (hi5 : vp_in (v3 + 5) L) {σ : zST} {K : zST → Prop} (hK : ∀ σ : zST, K σ → zGG p l e R s m args below meth c Q g n1 n2 4 1311 [(0, .ref b), (1, .ref (g.2.1 0)), (2, .ref (g.2.1 69)), (3, .int v3)] [] σ) (h : wL_14 (xs (v3 + (1 : Int32)).toNatClampNeg) (xs (v3 + (2 : Int32)).toNatClampNeg) (xs (v3 + (3 : Int32)).toNatClampNeg) (xs (v3 + (4 : Int32)).toNatClampNeg) (xs (v3 + (5 : Int32)).toNatClampNeg) σ K) : zGG p l e R s m args below meth c Q g n1 n2 4 584 [(0, .ref b), (1, .ref (g.2.1 0)), (2, .ref (g.2.1 69)), (3, .int v3)] [] σ := by
  unfold wL_14 at h
  refine zr_aload_n C (zo_43 (p := 584) (zby_w zwL_law_18 8 rfl)) rfl ?_
  refine zr_aload_n C (zo_42 (p := 585) (zby_w zwL_law_18 9 rfl)) rfl ?_
  refine zr_iload_n C (zo_29 (p := 586) (zby_w zwL_law_18 10 rfl)) rfl ?_
  refine zr_iconst C (1 : Int32) (zo_4 (p := 587) (zby_w zwL_law_18 11 rfl)) (by decide) ?_
  refine zr_iadd C (zo_96 (p := 588) (zby_w zwL_law_18 12 rfl)) ?_
  refine zr_sld C hX hbl hbA hi1 (zo_46 (p := 589) (zby_w zwL_law_18 13 rfl)) ?_
  refine zr_aload_n C (zo_42 (p := 590) (zby_w zwL_law_18 14 rfl)) rfl ?_
  refine zr_iload_n C (zo_29 (p := 591) (zby_w zwL_law_18 15 rfl)) rfl ?_
  refine zr_iconst C (2 : Int32) (zo_5 (p := 592) (zby_w zwL_law_18 16 rfl)) (by decide) ?_
  refine zr_iadd C (zo_96 (p := 593) (zby_w zwL_law_18 17 rfl)) ?_
  refine zr_sld C hX hbl hbA hi2 (zo_46 (p := 594) (zby_w zwL_law_18 18 rfl)) ?_
  refine zr_cip (zr_runV (As := [.int (xs (v3 + (1 : Int32)).toNatClampNeg), .int (xs (v3 + (2 : Int32)).toNatClampNeg)]) (rest := []) C vw_L_74 (c_X8_choice l g (xs (v3 + (1 : Int32)).toNatClampNeg) (xs (v3 + (2 : Int32)).toNatClampNeg) σ _ h) (sh_0) rfl (by decide) (by decide) rfl rfl (Nat.le_of_ble_eq_true rfl) (zo_182 (p := 595) (k := 74) (a := 0) (b := 74) (zby_w zwL_law_18 19 rfl) (zby_w zwL_law_18 20 rfl) (zby_w zwL_law_18 21 rfl) (by decide))) (fun r1 h => ?_)
  refine zr_pop C (zo_87 (p := 598) (zby_w zwL_law_18 22 rfl)) rfl ?_
  refine zr_aload_n C (zo_44 (p := 599) (zby_w zwL_law_18 23 rfl)) rfl ?_
  refine zr_aload_n C (zo_42 (p := 600) (zby_w zwL_law_18 24 rfl)) rfl ?_
  refine zr_iload_n C (zo_29 (p := 601) (zby_w zwL_law_18 25 rfl)) rfl ?_
  refine zr_iconst C (1 : Int32) (zo_4 (p := 602) (zby_w zwL_law_18 26 rfl)) (by decide) ?_
  refine zr_iadd C (zo_96 (p := 603) (zby_w zwL_law_18 27 rfl)) ?_
  refine zr_sld C hX hbl hbA hi1 (zo_46 (p := 604) (zby_w zwL_law_18 28 rfl)) ?_
  refine zr_aload_n C (zo_42 (p := 605) (zby_w zwL_law_18 29 rfl)) rfl ?_
  refine zr_iload_n C (zo_29 (p := 606) (zby_w zwL_law_18 30 rfl)) rfl ?_
  refine zr_iconst C (2 : Int32) (zo_5 (p := 607) (zby_w zwL_law_18 31 rfl)) (by decide) ?_
  refine zr_iadd C (zo_96 (p := 608) (zby_w zwL_law_19 0 rfl)) ?_
  refine zr_sld C hX hbl hbA hi2 (zo_46 (p := 609) (zby_w zwL_law_19 1 rfl)) ?_
  refine zr_cip (zr_runV (As := [.int (xs (v3 + (1 : Int32)).toNatClampNeg), .int (xs (v3 + (2 : Int32)).toNatClampNeg)]) (rest := []) C vw_L_77 (c_X9_choice l g (xs (v3 + (1 : Int32)).toNatClampNeg) (xs (v3 + (2 : Int32)).toNatClampNeg) σ _ h) (sh_69) rfl (by decide) (by decide) rfl rfl (Nat.le_of_ble_eq_true rfl) (zo_182 (p := 610) (k := 77) (a := 0) (b := 77) (zby_w zwL_law_19 2 rfl) (zby_w zwL_law_19 3 rfl) (zby_w zwL_law_19 4 rfl) (by decide))) (fun r3 h => ?_)
  refine zr_pop C (zo_87 (p := 613) (zby_w zwL_law_19 5 rfl)) rfl ?_
  refine zr_goto C 1311 (zo_167 (p := 614) (k := 697) (a := 2) (b := 185) (zby_w zwL_law_19 6 rfl) (zby_w zwL_law_19 7 rfl) (zby_w zwL_law_19 8 rfl) (by decide)) (by decide) ?_
  exact zr_pick [0, 1, 2, 3] rfl (hK σ h)
def wL_15 (a1 a2 a3 a4 a5 : Int32) (σ : zST) (K : zST → Prop) : Prop := wp_X8_held a1 a2 a3 σ (fun r1 => wp_X9_held a1 a2 a3 σ (fun r3 => K σ))
set_option maxRecDepth 100000 in
set_option maxHeartbeats 4000000 in
theorem gL_15 {p : Program} {l : Launch} {e : Env} {R : Room} {s : State} {m : MethodId} {args : Array Value} {below : List Frame} {meth : Method} {c : Code} {Q : State → Prop} {g : zG} {n1 n2 : Nat} (C : zCX p R s m args meth c g n1 n2 cL_law 4 RL 7 164) {b L : Nat} {xs : Nat → Int32} (hX : va_X b L xs s s.heap) (hbl : b < s.heap.size) (hbA : ¬ zA g b) {v3 : Int32} (hi0 : vp_in v3 L) (hi1 : vp_in (v3 + 1) L) (hi2 : vp_in (v3 + 2) L) (hi3 : vp_in (v3 + 3) L) (hi4 : vp_in (v3 + 4) L) (hi5 : vp_in (v3 + 5) L) {σ : zST} {K : zST → Prop} (hK : ∀ σ : zST, K σ → zGG p l e R s m args below meth c Q g n1 n2 4 1311 [(0, .ref b), (1, .ref (g.2.1 0)), (2, .ref (g.2.1 69)), (3, .int v3)] [] σ) (h : wL_15 (xs (v3 + (1 : Int32)).toNatClampNeg) (xs (v3 + (2 : Int32)).toNatClampNeg) (xs (v3 + (3 : Int32)).toNatClampNeg) (xs (v3 + (4 : Int32)).toNatClampNeg) (xs (v3 + (5 : Int32)).toNatClampNeg) σ K) : zGG p l e R s m args below meth c Q g n1 n2 4 617 [(0, .ref b), (1, .ref (g.2.1 0)), (2, .ref (g.2.1 69)), (3, .int v3)] [] σ := by
  unfold wL_15 at h
  refine zr_aload_n C (zo_43 (p := 617) (zby_w zwL_law_19 9 rfl)) rfl ?_
  refine zr_aload_n C (zo_42 (p := 618) (zby_w zwL_law_19 10 rfl)) rfl ?_
  refine zr_iload_n C (zo_29 (p := 619) (zby_w zwL_law_19 11 rfl)) rfl ?_
  refine zr_iconst C (1 : Int32) (zo_4 (p := 620) (zby_w zwL_law_19 12 rfl)) (by decide) ?_
  refine zr_iadd C (zo_96 (p := 621) (zby_w zwL_law_19 13 rfl)) ?_
  refine zr_sld C hX hbl hbA hi1 (zo_46 (p := 622) (zby_w zwL_law_19 14 rfl)) ?_
  refine zr_aload_n C (zo_42 (p := 623) (zby_w zwL_law_19 15 rfl)) rfl ?_
  refine zr_iload_n C (zo_29 (p := 624) (zby_w zwL_law_19 16 rfl)) rfl ?_
  refine zr_iconst C (2 : Int32) (zo_5 (p := 625) (zby_w zwL_law_19 17 rfl)) (by decide) ?_
  refine zr_iadd C (zo_96 (p := 626) (zby_w zwL_law_19 18 rfl)) ?_
  refine zr_sld C hX hbl hbA hi2 (zo_46 (p := 627) (zby_w zwL_law_19 19 rfl)) ?_
  refine zr_aload_n C (zo_42 (p := 628) (zby_w zwL_law_19 20 rfl)) rfl ?_
  refine zr_iload_n C (zo_29 (p := 629) (zby_w zwL_law_19 21 rfl)) rfl ?_
  refine zr_iconst C (3 : Int32) (zo_6 (p := 630) (zby_w zwL_law_19 22 rfl)) (by decide) ?_
  refine zr_iadd C (zo_96 (p := 631) (zby_w zwL_law_19 23 rfl)) ?_
  refine zr_sld C hX hbl hbA hi3 (zo_46 (p := 632) (zby_w zwL_law_19 24 rfl)) ?_
  refine zr_cip (zr_runV (As := [.int (xs (v3 + (1 : Int32)).toNatClampNeg), .int (xs (v3 + (2 : Int32)).toNatClampNeg), .int (xs (v3 + (3 : Int32)).toNatClampNeg)]) (rest := []) C vw_L_78 (c_X8_held l g (xs (v3 + (1 : Int32)).toNatClampNeg) (xs (v3 + (2 : Int32)).toNatClampNeg) (xs (v3 + (3 : Int32)).toNatClampNeg) σ _ h) (sh_0) rfl (by decide) (by decide) rfl rfl (Nat.le_of_ble_eq_true rfl) (zo_182 (p := 633) (k := 78) (a := 0) (b := 78) (zby_w zwL_law_19 25 rfl) (zby_w zwL_law_19 26 rfl) (zby_w zwL_law_19 27 rfl) (by decide))) (fun r1 h => ?_)
  refine zr_pop C (zo_87 (p := 636) (zby_w zwL_law_19 28 rfl)) rfl ?_
  refine zr_aload_n C (zo_44 (p := 637) (zby_w zwL_law_19 29 rfl)) rfl ?_
  refine zr_aload_n C (zo_42 (p := 638) (zby_w zwL_law_19 30 rfl)) rfl ?_
  refine zr_iload_n C (zo_29 (p := 639) (zby_w zwL_law_19 31 rfl)) rfl ?_
  refine zr_iconst C (1 : Int32) (zo_4 (p := 640) (zby_w zwL_law_20 0 rfl)) (by decide) ?_
  refine zr_iadd C (zo_96 (p := 641) (zby_w zwL_law_20 1 rfl)) ?_
  refine zr_sld C hX hbl hbA hi1 (zo_46 (p := 642) (zby_w zwL_law_20 2 rfl)) ?_
  refine zr_aload_n C (zo_42 (p := 643) (zby_w zwL_law_20 3 rfl)) rfl ?_
  refine zr_iload_n C (zo_29 (p := 644) (zby_w zwL_law_20 4 rfl)) rfl ?_
  refine zr_iconst C (2 : Int32) (zo_5 (p := 645) (zby_w zwL_law_20 5 rfl)) (by decide) ?_
  refine zr_iadd C (zo_96 (p := 646) (zby_w zwL_law_20 6 rfl)) ?_
  refine zr_sld C hX hbl hbA hi2 (zo_46 (p := 647) (zby_w zwL_law_20 7 rfl)) ?_
  refine zr_aload_n C (zo_42 (p := 648) (zby_w zwL_law_20 8 rfl)) rfl ?_
  refine zr_iload_n C (zo_29 (p := 649) (zby_w zwL_law_20 9 rfl)) rfl ?_
  refine zr_iconst C (3 : Int32) (zo_6 (p := 650) (zby_w zwL_law_20 10 rfl)) (by decide) ?_
  refine zr_iadd C (zo_96 (p := 651) (zby_w zwL_law_20 11 rfl)) ?_
  refine zr_sld C hX hbl hbA hi3 (zo_46 (p := 652) (zby_w zwL_law_20 12 rfl)) ?_
  refine zr_cip (zr_runV (As := [.int (xs (v3 + (1 : Int32)).toNatClampNeg), .int (xs (v3 + (2 : Int32)).toNatClampNeg), .int (xs (v3 + (3 : Int32)).toNatClampNeg)]) (rest := []) C vw_L_81 (c_X9_held l g (xs (v3 + (1 : Int32)).toNatClampNeg) (xs (v3 + (2 : Int32)).toNatClampNeg) (xs (v3 + (3 : Int32)).toNatClampNeg) σ _ h) (sh_69) rfl (by decide) (by decide) rfl rfl (Nat.le_of_ble_eq_true rfl) (zo_182 (p := 653) (k := 81) (a := 0) (b := 81) (zby_w zwL_law_20 13 rfl) (zby_w zwL_law_20 14 rfl) (zby_w zwL_law_20 15 rfl) (by decide))) (fun r3 h => ?_)
  refine zr_pop C (zo_87 (p := 656) (zby_w zwL_law_20 16 rfl)) rfl ?_
  refine zr_goto C 1311 (zo_167 (p := 657) (k := 654) (a := 2) (b := 142) (zby_w zwL_law_20 17 rfl) (zby_w zwL_law_20 18 rfl) (zby_w zwL_law_20 19 rfl) (by decide)) (by decide) ?_
  exact zr_pick [0, 1, 2, 3] rfl (hK σ h)
def wL_16 (a1 a2 a3 a4 a5 : Int32) (σ : zST) (K : zST → Prop) : Prop := wp_X8_bound a1 a2 a3 σ (fun r1 σ2 => wp_X9_bound a1 a2 a3 σ2 (fun r3 σ4 => K σ4))
set_option maxRecDepth 100000 in
set_option maxHeartbeats 4000000 in
theorem gL_16 {p : Program} {l : Launch} {e : Env} {R : Room} {s : State} {m : MethodId} {args : Array Value} {below : List Frame} {meth : Method} {c : Code} {Q : State → Prop} {g : zG} {n1 n2 : Nat} (C : zCX p R s m args meth c g n1 n2 cL_law 4 RL 7 164) {b L : Nat} {xs : Nat → Int32} (hX : va_X b L xs s s.heap) (hbl : b < s.heap.size) (hbA : ¬ zA g b) {v3 : Int32} (hi0 : vp_in v3 L) (hi1 : vp_in (v3 + 1) L) (hi2 : vp_in (v3 + 2) L) (hi3 : vp_in (v3 + 3) L) (hi4 : vp_in (v3 + 4) L) (hi5 : vp_in (v3 + 5) L) {σ : zST} {K : zST → Prop} (hK : ∀ σ : zST, K σ → zGG p l e R s m args below meth c Q g n1 n2 4 1311 [(0, .ref b), (1, .ref (g.2.1 0)), (2, .ref (g.2.1 69)), (3, .int v3)] [] σ) (h : wL_16 (xs (v3 + (1 : Int32)).toNatClampNeg) (xs (v3 + (2 : Int32)).toNatClampNeg) (xs (v3 + (3 : Int32)).toNatClampNeg) (xs (v3 + (4 : Int32)).toNatClampNeg) (xs (v3 + (5 : Int32)).toNatClampNeg) σ K) : zGG p l e R s m args below meth c Q g n1 n2 4 660 [(0, .ref b), (1, .ref (g.2.1 0)), (2, .ref (g.2.1 69)), (3, .int v3)] [] σ := by
  unfold wL_16 at h
  refine zr_aload_n C (zo_43 (p := 660) (zby_w zwL_law_20 20 rfl)) rfl ?_
  refine zr_aload_n C (zo_42 (p := 661) (zby_w zwL_law_20 21 rfl)) rfl ?_
  refine zr_iload_n C (zo_29 (p := 662) (zby_w zwL_law_20 22 rfl)) rfl ?_
  refine zr_iconst C (1 : Int32) (zo_4 (p := 663) (zby_w zwL_law_20 23 rfl)) (by decide) ?_
  refine zr_iadd C (zo_96 (p := 664) (zby_w zwL_law_20 24 rfl)) ?_
  refine zr_sld C hX hbl hbA hi1 (zo_46 (p := 665) (zby_w zwL_law_20 25 rfl)) ?_
  refine zr_aload_n C (zo_42 (p := 666) (zby_w zwL_law_20 26 rfl)) rfl ?_
  refine zr_iload_n C (zo_29 (p := 667) (zby_w zwL_law_20 27 rfl)) rfl ?_
  refine zr_iconst C (2 : Int32) (zo_5 (p := 668) (zby_w zwL_law_20 28 rfl)) (by decide) ?_
  refine zr_iadd C (zo_96 (p := 669) (zby_w zwL_law_20 29 rfl)) ?_
  refine zr_sld C hX hbl hbA hi2 (zo_46 (p := 670) (zby_w zwL_law_20 30 rfl)) ?_
  refine zr_aload_n C (zo_42 (p := 671) (zby_w zwL_law_20 31 rfl)) rfl ?_
  refine zr_iload_n C (zo_29 (p := 672) (zby_w zwL_law_21 0 rfl)) rfl ?_
  refine zr_iconst C (3 : Int32) (zo_6 (p := 673) (zby_w zwL_law_21 1 rfl)) (by decide) ?_
  refine zr_iadd C (zo_96 (p := 674) (zby_w zwL_law_21 2 rfl)) ?_
  refine zr_sld C hX hbl hbA hi3 (zo_46 (p := 675) (zby_w zwL_law_21 3 rfl)) ?_
  refine zr_ci (zr_runV (As := [.int (xs (v3 + (1 : Int32)).toNatClampNeg), .int (xs (v3 + (2 : Int32)).toNatClampNeg), .int (xs (v3 + (3 : Int32)).toNatClampNeg)]) (rest := []) C vw_L_82 (c_X8_bound l g (xs (v3 + (1 : Int32)).toNatClampNeg) (xs (v3 + (2 : Int32)).toNatClampNeg) (xs (v3 + (3 : Int32)).toNatClampNeg) σ _ h) (sh_0) rfl (by decide) (by decide) rfl rfl (Nat.le_of_ble_eq_true rfl) (zo_182 (p := 676) (k := 82) (a := 0) (b := 82) (zby_w zwL_law_21 4 rfl) (zby_w zwL_law_21 5 rfl) (zby_w zwL_law_21 6 rfl) (by decide))) (fun r1 σ2 h => ?_)
  refine zr_pop C (zo_87 (p := 679) (zby_w zwL_law_21 7 rfl)) rfl ?_
  refine zr_aload_n C (zo_44 (p := 680) (zby_w zwL_law_21 8 rfl)) rfl ?_
  refine zr_aload_n C (zo_42 (p := 681) (zby_w zwL_law_21 9 rfl)) rfl ?_
  refine zr_iload_n C (zo_29 (p := 682) (zby_w zwL_law_21 10 rfl)) rfl ?_
  refine zr_iconst C (1 : Int32) (zo_4 (p := 683) (zby_w zwL_law_21 11 rfl)) (by decide) ?_
  refine zr_iadd C (zo_96 (p := 684) (zby_w zwL_law_21 12 rfl)) ?_
  refine zr_sld C hX hbl hbA hi1 (zo_46 (p := 685) (zby_w zwL_law_21 13 rfl)) ?_
  refine zr_aload_n C (zo_42 (p := 686) (zby_w zwL_law_21 14 rfl)) rfl ?_
  refine zr_iload_n C (zo_29 (p := 687) (zby_w zwL_law_21 15 rfl)) rfl ?_
  refine zr_iconst C (2 : Int32) (zo_5 (p := 688) (zby_w zwL_law_21 16 rfl)) (by decide) ?_
  refine zr_iadd C (zo_96 (p := 689) (zby_w zwL_law_21 17 rfl)) ?_
  refine zr_sld C hX hbl hbA hi2 (zo_46 (p := 690) (zby_w zwL_law_21 18 rfl)) ?_
  refine zr_aload_n C (zo_42 (p := 691) (zby_w zwL_law_21 19 rfl)) rfl ?_
  refine zr_iload_n C (zo_29 (p := 692) (zby_w zwL_law_21 20 rfl)) rfl ?_
  refine zr_iconst C (3 : Int32) (zo_6 (p := 693) (zby_w zwL_law_21 21 rfl)) (by decide) ?_
  refine zr_iadd C (zo_96 (p := 694) (zby_w zwL_law_21 22 rfl)) ?_
  refine zr_sld C hX hbl hbA hi3 (zo_46 (p := 695) (zby_w zwL_law_21 23 rfl)) ?_
  refine zr_ci (zr_runV (As := [.int (xs (v3 + (1 : Int32)).toNatClampNeg), .int (xs (v3 + (2 : Int32)).toNatClampNeg), .int (xs (v3 + (3 : Int32)).toNatClampNeg)]) (rest := []) C vw_L_85 (c_X9_bound l g (xs (v3 + (1 : Int32)).toNatClampNeg) (xs (v3 + (2 : Int32)).toNatClampNeg) (xs (v3 + (3 : Int32)).toNatClampNeg) σ2 _ h) (sh_69) rfl (by decide) (by decide) rfl rfl (Nat.le_of_ble_eq_true rfl) (zo_182 (p := 696) (k := 85) (a := 0) (b := 85) (zby_w zwL_law_21 24 rfl) (zby_w zwL_law_21 25 rfl) (zby_w zwL_law_21 26 rfl) (by decide))) (fun r3 σ4 h => ?_)
  refine zr_pop C (zo_87 (p := 699) (zby_w zwL_law_21 27 rfl)) rfl ?_
  refine zr_goto C 1311 (zo_167 (p := 700) (k := 611) (a := 2) (b := 99) (zby_w zwL_law_21 28 rfl) (zby_w zwL_law_21 29 rfl) (zby_w zwL_law_21 30 rfl) (by decide)) (by decide) ?_
  exact zr_pick [0, 1, 2, 3] rfl (hK σ4 h)
def wL_17 (a1 a2 a3 a4 a5 : Int32) (σ : zST) (K : zST → Prop) : Prop := wp_X8_line a1 a2 a3 σ (fun r1 σ2 => wp_X9_line a1 a2 a3 σ2 (fun r3 σ4 => K σ4))
set_option maxRecDepth 100000 in
set_option maxHeartbeats 4000000 in
theorem gL_17 {p : Program} {l : Launch} {e : Env} {R : Room} {s : State} {m : MethodId} {args : Array Value} {below : List Frame} {meth : Method} {c : Code} {Q : State → Prop} {g : zG} {n1 n2 : Nat} (C : zCX p R s m args meth c g n1 n2 cL_law 4 RL 7 164) {b L : Nat} {xs : Nat → Int32} (hX : va_X b L xs s s.heap) (hbl : b < s.heap.size) (hbA : ¬ zA g b) {v3 : Int32} (hi0 : vp_in v3 L) (hi1 : vp_in (v3 + 1) L) (hi2 : vp_in (v3 + 2) L) (hi3 : vp_in (v3 + 3) L) (hi4 : vp_in (v3 + 4) L) (hi5 : vp_in (v3 + 5) L) {σ : zST} {K : zST → Prop} (hK : ∀ σ : zST, K σ → zGG p l e R s m args below meth c Q g n1 n2 4 1311 [(0, .ref b), (1, .ref (g.2.1 0)), (2, .ref (g.2.1 69)), (3, .int v3)] [] σ) (h : wL_17 (xs (v3 + (1 : Int32)).toNatClampNeg) (xs (v3 + (2 : Int32)).toNatClampNeg) (xs (v3 + (3 : Int32)).toNatClampNeg) (xs (v3 + (4 : Int32)).toNatClampNeg) (xs (v3 + (5 : Int32)).toNatClampNeg) σ K) : zGG p l e R s m args below meth c Q g n1 n2 4 703 [(0, .ref b), (1, .ref (g.2.1 0)), (2, .ref (g.2.1 69)), (3, .int v3)] [] σ := by
  unfold wL_17 at h
  refine zr_aload_n C (zo_43 (p := 703) (zby_w zwL_law_21 31 rfl)) rfl ?_
  refine zr_aload_n C (zo_42 (p := 704) (zby_w zwL_law_22 0 rfl)) rfl ?_
  refine zr_iload_n C (zo_29 (p := 705) (zby_w zwL_law_22 1 rfl)) rfl ?_
  refine zr_iconst C (1 : Int32) (zo_4 (p := 706) (zby_w zwL_law_22 2 rfl)) (by decide) ?_
  refine zr_iadd C (zo_96 (p := 707) (zby_w zwL_law_22 3 rfl)) ?_
  refine zr_sld C hX hbl hbA hi1 (zo_46 (p := 708) (zby_w zwL_law_22 4 rfl)) ?_
  refine zr_aload_n C (zo_42 (p := 709) (zby_w zwL_law_22 5 rfl)) rfl ?_
  refine zr_iload_n C (zo_29 (p := 710) (zby_w zwL_law_22 6 rfl)) rfl ?_
  refine zr_iconst C (2 : Int32) (zo_5 (p := 711) (zby_w zwL_law_22 7 rfl)) (by decide) ?_
  refine zr_iadd C (zo_96 (p := 712) (zby_w zwL_law_22 8 rfl)) ?_
  refine zr_sld C hX hbl hbA hi2 (zo_46 (p := 713) (zby_w zwL_law_22 9 rfl)) ?_
  refine zr_aload_n C (zo_42 (p := 714) (zby_w zwL_law_22 10 rfl)) rfl ?_
  refine zr_iload_n C (zo_29 (p := 715) (zby_w zwL_law_22 11 rfl)) rfl ?_
  refine zr_iconst C (3 : Int32) (zo_6 (p := 716) (zby_w zwL_law_22 12 rfl)) (by decide) ?_
  refine zr_iadd C (zo_96 (p := 717) (zby_w zwL_law_22 13 rfl)) ?_
  refine zr_sld C hX hbl hbA hi3 (zo_46 (p := 718) (zby_w zwL_law_22 14 rfl)) ?_
  refine zr_ci (zr_runV (As := [.int (xs (v3 + (1 : Int32)).toNatClampNeg), .int (xs (v3 + (2 : Int32)).toNatClampNeg), .int (xs (v3 + (3 : Int32)).toNatClampNeg)]) (rest := []) C vw_L_86 (c_X8_line l g (xs (v3 + (1 : Int32)).toNatClampNeg) (xs (v3 + (2 : Int32)).toNatClampNeg) (xs (v3 + (3 : Int32)).toNatClampNeg) σ _ h) (sh_0) rfl (by decide) (by decide) rfl rfl (Nat.le_of_ble_eq_true rfl) (zo_182 (p := 719) (k := 86) (a := 0) (b := 86) (zby_w zwL_law_22 15 rfl) (zby_w zwL_law_22 16 rfl) (zby_w zwL_law_22 17 rfl) (by decide))) (fun r1 σ2 h => ?_)
  refine zr_pop C (zo_87 (p := 722) (zby_w zwL_law_22 18 rfl)) rfl ?_
  refine zr_aload_n C (zo_44 (p := 723) (zby_w zwL_law_22 19 rfl)) rfl ?_
  refine zr_aload_n C (zo_42 (p := 724) (zby_w zwL_law_22 20 rfl)) rfl ?_
  refine zr_iload_n C (zo_29 (p := 725) (zby_w zwL_law_22 21 rfl)) rfl ?_
  refine zr_iconst C (1 : Int32) (zo_4 (p := 726) (zby_w zwL_law_22 22 rfl)) (by decide) ?_
  refine zr_iadd C (zo_96 (p := 727) (zby_w zwL_law_22 23 rfl)) ?_
  refine zr_sld C hX hbl hbA hi1 (zo_46 (p := 728) (zby_w zwL_law_22 24 rfl)) ?_
  refine zr_aload_n C (zo_42 (p := 729) (zby_w zwL_law_22 25 rfl)) rfl ?_
  refine zr_iload_n C (zo_29 (p := 730) (zby_w zwL_law_22 26 rfl)) rfl ?_
  refine zr_iconst C (2 : Int32) (zo_5 (p := 731) (zby_w zwL_law_22 27 rfl)) (by decide) ?_
  refine zr_iadd C (zo_96 (p := 732) (zby_w zwL_law_22 28 rfl)) ?_
  refine zr_sld C hX hbl hbA hi2 (zo_46 (p := 733) (zby_w zwL_law_22 29 rfl)) ?_
  refine zr_aload_n C (zo_42 (p := 734) (zby_w zwL_law_22 30 rfl)) rfl ?_
  refine zr_iload_n C (zo_29 (p := 735) (zby_w zwL_law_22 31 rfl)) rfl ?_
  refine zr_iconst C (3 : Int32) (zo_6 (p := 736) (zby_w zwL_law_23 0 rfl)) (by decide) ?_
  refine zr_iadd C (zo_96 (p := 737) (zby_w zwL_law_23 1 rfl)) ?_
  refine zr_sld C hX hbl hbA hi3 (zo_46 (p := 738) (zby_w zwL_law_23 2 rfl)) ?_
  refine zr_ci (zr_runV (As := [.int (xs (v3 + (1 : Int32)).toNatClampNeg), .int (xs (v3 + (2 : Int32)).toNatClampNeg), .int (xs (v3 + (3 : Int32)).toNatClampNeg)]) (rest := []) C vw_L_89 (c_X9_line l g (xs (v3 + (1 : Int32)).toNatClampNeg) (xs (v3 + (2 : Int32)).toNatClampNeg) (xs (v3 + (3 : Int32)).toNatClampNeg) σ2 _ h) (sh_69) rfl (by decide) (by decide) rfl rfl (Nat.le_of_ble_eq_true rfl) (zo_182 (p := 739) (k := 89) (a := 0) (b := 89) (zby_w zwL_law_23 3 rfl) (zby_w zwL_law_23 4 rfl) (zby_w zwL_law_23 5 rfl) (by decide))) (fun r3 σ4 h => ?_)
  refine zr_pop C (zo_87 (p := 742) (zby_w zwL_law_23 6 rfl)) rfl ?_
  refine zr_goto C 1311 (zo_167 (p := 743) (k := 568) (a := 2) (b := 56) (zby_w zwL_law_23 7 rfl) (zby_w zwL_law_23 8 rfl) (zby_w zwL_law_23 9 rfl) (by decide)) (by decide) ?_
  exact zr_pick [0, 1, 2, 3] rfl (hK σ4 h)
def wL_18 (a1 a2 a3 a4 a5 : Int32) (σ : zST) (K : zST → Prop) : Prop := wp_X8_convoy a1 a2 σ (fun r1 σ2 => wp_X9_convoy a1 a2 σ2 (fun r3 => K σ2))
set_option maxRecDepth 100000 in
set_option maxHeartbeats 4000000 in
theorem gL_18 {p : Program} {l : Launch} {e : Env} {R : Room} {s : State} {m : MethodId} {args : Array Value} {below : List Frame} {meth : Method} {c : Code} {Q : State → Prop} {g : zG} {n1 n2 : Nat} (C : zCX p R s m args meth c g n1 n2 cL_law 4 RL 7 164) {b L : Nat} {xs : Nat → Int32} (hX : va_X b L xs s s.heap) (hbl : b < s.heap.size) (hbA : ¬ zA g b) {v3 : Int32} (hi0 : vp_in v3 L) (hi1 : vp_in (v3 + 1) L) (hi2 : vp_in (v3 + 2) L) (hi3 : vp_in (v3 + 3) L) (hi4 : vp_in (v3 + 4) L) (hi5 : vp_in (v3 + 5) L) {σ : zST} {K : zST → Prop} (hK : ∀ σ : zST, K σ → zGG p l e R s m args below meth c Q g n1 n2 4 1311 [(0, .ref b), (1, .ref (g.2.1 0)), (2, .ref (g.2.1 69)), (3, .int v3)] [] σ) (h : wL_18 (xs (v3 + (1 : Int32)).toNatClampNeg) (xs (v3 + (2 : Int32)).toNatClampNeg) (xs (v3 + (3 : Int32)).toNatClampNeg) (xs (v3 + (4 : Int32)).toNatClampNeg) (xs (v3 + (5 : Int32)).toNatClampNeg) σ K) : zGG p l e R s m args below meth c Q g n1 n2 4 746 [(0, .ref b), (1, .ref (g.2.1 0)), (2, .ref (g.2.1 69)), (3, .int v3)] [] σ := by
  unfold wL_18 at h
  refine zr_aload_n C (zo_43 (p := 746) (zby_w zwL_law_23 10 rfl)) rfl ?_
  refine zr_aload_n C (zo_42 (p := 747) (zby_w zwL_law_23 11 rfl)) rfl ?_
  refine zr_iload_n C (zo_29 (p := 748) (zby_w zwL_law_23 12 rfl)) rfl ?_
  refine zr_iconst C (1 : Int32) (zo_4 (p := 749) (zby_w zwL_law_23 13 rfl)) (by decide) ?_
  refine zr_iadd C (zo_96 (p := 750) (zby_w zwL_law_23 14 rfl)) ?_
  refine zr_sld C hX hbl hbA hi1 (zo_46 (p := 751) (zby_w zwL_law_23 15 rfl)) ?_
  refine zr_aload_n C (zo_42 (p := 752) (zby_w zwL_law_23 16 rfl)) rfl ?_
  refine zr_iload_n C (zo_29 (p := 753) (zby_w zwL_law_23 17 rfl)) rfl ?_
  refine zr_iconst C (2 : Int32) (zo_5 (p := 754) (zby_w zwL_law_23 18 rfl)) (by decide) ?_
  refine zr_iadd C (zo_96 (p := 755) (zby_w zwL_law_23 19 rfl)) ?_
  refine zr_sld C hX hbl hbA hi2 (zo_46 (p := 756) (zby_w zwL_law_23 20 rfl)) ?_
  refine zr_ci (zr_runV (As := [.int (xs (v3 + (1 : Int32)).toNatClampNeg), .int (xs (v3 + (2 : Int32)).toNatClampNeg)]) (rest := []) C vw_L_90 (c_X8_convoy l g (xs (v3 + (1 : Int32)).toNatClampNeg) (xs (v3 + (2 : Int32)).toNatClampNeg) σ _ h) (sh_0) rfl (by decide) (by decide) rfl rfl (Nat.le_of_ble_eq_true rfl) (zo_182 (p := 757) (k := 90) (a := 0) (b := 90) (zby_w zwL_law_23 21 rfl) (zby_w zwL_law_23 22 rfl) (zby_w zwL_law_23 23 rfl) (by decide))) (fun r1 σ2 h => ?_)
  refine zr_pop C (zo_87 (p := 760) (zby_w zwL_law_23 24 rfl)) rfl ?_
  refine zr_aload_n C (zo_44 (p := 761) (zby_w zwL_law_23 25 rfl)) rfl ?_
  refine zr_aload_n C (zo_42 (p := 762) (zby_w zwL_law_23 26 rfl)) rfl ?_
  refine zr_iload_n C (zo_29 (p := 763) (zby_w zwL_law_23 27 rfl)) rfl ?_
  refine zr_iconst C (1 : Int32) (zo_4 (p := 764) (zby_w zwL_law_23 28 rfl)) (by decide) ?_
  refine zr_iadd C (zo_96 (p := 765) (zby_w zwL_law_23 29 rfl)) ?_
  refine zr_sld C hX hbl hbA hi1 (zo_46 (p := 766) (zby_w zwL_law_23 30 rfl)) ?_
  refine zr_aload_n C (zo_42 (p := 767) (zby_w zwL_law_23 31 rfl)) rfl ?_
  refine zr_iload_n C (zo_29 (p := 768) (zby_w zwL_law_24 0 rfl)) rfl ?_
  refine zr_iconst C (2 : Int32) (zo_5 (p := 769) (zby_w zwL_law_24 1 rfl)) (by decide) ?_
  refine zr_iadd C (zo_96 (p := 770) (zby_w zwL_law_24 2 rfl)) ?_
  refine zr_sld C hX hbl hbA hi2 (zo_46 (p := 771) (zby_w zwL_law_24 3 rfl)) ?_
  refine zr_cip (zr_runV (As := [.int (xs (v3 + (1 : Int32)).toNatClampNeg), .int (xs (v3 + (2 : Int32)).toNatClampNeg)]) (rest := []) C vw_L_93 (c_X9_convoy l g (xs (v3 + (1 : Int32)).toNatClampNeg) (xs (v3 + (2 : Int32)).toNatClampNeg) σ2 _ h) (sh_69) rfl (by decide) (by decide) rfl rfl (Nat.le_of_ble_eq_true rfl) (zo_182 (p := 772) (k := 93) (a := 0) (b := 93) (zby_w zwL_law_24 4 rfl) (zby_w zwL_law_24 5 rfl) (zby_w zwL_law_24 6 rfl) (by decide))) (fun r3 h => ?_)
  refine zr_pop C (zo_87 (p := 775) (zby_w zwL_law_24 7 rfl)) rfl ?_
  refine zr_goto C 1311 (zo_167 (p := 776) (k := 535) (a := 2) (b := 23) (zby_w zwL_law_24 8 rfl) (zby_w zwL_law_24 9 rfl) (zby_w zwL_law_24 10 rfl) (by decide)) (by decide) ?_
  exact zr_pick [0, 1, 2, 3] rfl (hK σ2 h)
def wL_19 (a1 a2 a3 a4 a5 : Int32) (σ : zST) (K : zST → Prop) : Prop := wp_X8_captain a1 a2 σ (fun r1 => wp_X9_captain a1 a2 σ (fun r3 => K σ))
set_option maxRecDepth 100000 in
set_option maxHeartbeats 4000000 in
theorem gL_19 {p : Program} {l : Launch} {e : Env} {R : Room} {s : State} {m : MethodId} {args : Array Value} {below : List Frame} {meth : Method} {c : Code} {Q : State → Prop} {g : zG} {n1 n2 : Nat} (C : zCX p R s m args meth c g n1 n2 cL_law 4 RL 7 164) {b L : Nat} {xs : Nat → Int32} (hX : va_X b L xs s s.heap) (hbl : b < s.heap.size) (hbA : ¬ zA g b) {v3 : Int32} (hi0 : vp_in v3 L) (hi1 : vp_in (v3 + 1) L) (hi2 : vp_in (v3 + 2) L) (hi3 : vp_in (v3 + 3) L) (hi4 : vp_in (v3 + 4) L) (hi5 : vp_in (v3 + 5) L) {σ : zST} {K : zST → Prop} (hK : ∀ σ : zST, K σ → zGG p l e R s m args below meth c Q g n1 n2 4 1311 [(0, .ref b), (1, .ref (g.2.1 0)), (2, .ref (g.2.1 69)), (3, .int v3)] [] σ) (h : wL_19 (xs (v3 + (1 : Int32)).toNatClampNeg) (xs (v3 + (2 : Int32)).toNatClampNeg) (xs (v3 + (3 : Int32)).toNatClampNeg) (xs (v3 + (4 : Int32)).toNatClampNeg) (xs (v3 + (5 : Int32)).toNatClampNeg) σ K) : zGG p l e R s m args below meth c Q g n1 n2 4 779 [(0, .ref b), (1, .ref (g.2.1 0)), (2, .ref (g.2.1 69)), (3, .int v3)] [] σ := by
  unfold wL_19 at h
  refine zr_aload_n C (zo_43 (p := 779) (zby_w zwL_law_24 11 rfl)) rfl ?_
  refine zr_aload_n C (zo_42 (p := 780) (zby_w zwL_law_24 12 rfl)) rfl ?_
  refine zr_iload_n C (zo_29 (p := 781) (zby_w zwL_law_24 13 rfl)) rfl ?_
  refine zr_iconst C (1 : Int32) (zo_4 (p := 782) (zby_w zwL_law_24 14 rfl)) (by decide) ?_
  refine zr_iadd C (zo_96 (p := 783) (zby_w zwL_law_24 15 rfl)) ?_
  refine zr_sld C hX hbl hbA hi1 (zo_46 (p := 784) (zby_w zwL_law_24 16 rfl)) ?_
  refine zr_aload_n C (zo_42 (p := 785) (zby_w zwL_law_24 17 rfl)) rfl ?_
  refine zr_iload_n C (zo_29 (p := 786) (zby_w zwL_law_24 18 rfl)) rfl ?_
  refine zr_iconst C (2 : Int32) (zo_5 (p := 787) (zby_w zwL_law_24 19 rfl)) (by decide) ?_
  refine zr_iadd C (zo_96 (p := 788) (zby_w zwL_law_24 20 rfl)) ?_
  refine zr_sld C hX hbl hbA hi2 (zo_46 (p := 789) (zby_w zwL_law_24 21 rfl)) ?_
  refine zr_cip (zr_runV (As := [.int (xs (v3 + (1 : Int32)).toNatClampNeg), .int (xs (v3 + (2 : Int32)).toNatClampNeg)]) (rest := []) C vw_L_94 (c_X8_captain l g (xs (v3 + (1 : Int32)).toNatClampNeg) (xs (v3 + (2 : Int32)).toNatClampNeg) σ _ h) (sh_0) rfl (by decide) (by decide) rfl rfl (Nat.le_of_ble_eq_true rfl) (zo_182 (p := 790) (k := 94) (a := 0) (b := 94) (zby_w zwL_law_24 22 rfl) (zby_w zwL_law_24 23 rfl) (zby_w zwL_law_24 24 rfl) (by decide))) (fun r1 h => ?_)
  refine zr_pop C (zo_87 (p := 793) (zby_w zwL_law_24 25 rfl)) rfl ?_
  refine zr_aload_n C (zo_44 (p := 794) (zby_w zwL_law_24 26 rfl)) rfl ?_
  refine zr_aload_n C (zo_42 (p := 795) (zby_w zwL_law_24 27 rfl)) rfl ?_
  refine zr_iload_n C (zo_29 (p := 796) (zby_w zwL_law_24 28 rfl)) rfl ?_
  refine zr_iconst C (1 : Int32) (zo_4 (p := 797) (zby_w zwL_law_24 29 rfl)) (by decide) ?_
  refine zr_iadd C (zo_96 (p := 798) (zby_w zwL_law_24 30 rfl)) ?_
  refine zr_sld C hX hbl hbA hi1 (zo_46 (p := 799) (zby_w zwL_law_24 31 rfl)) ?_
  refine zr_aload_n C (zo_42 (p := 800) (zby_w zwL_law_25 0 rfl)) rfl ?_
  refine zr_iload_n C (zo_29 (p := 801) (zby_w zwL_law_25 1 rfl)) rfl ?_
  refine zr_iconst C (2 : Int32) (zo_5 (p := 802) (zby_w zwL_law_25 2 rfl)) (by decide) ?_
  refine zr_iadd C (zo_96 (p := 803) (zby_w zwL_law_25 3 rfl)) ?_
  refine zr_sld C hX hbl hbA hi2 (zo_46 (p := 804) (zby_w zwL_law_25 4 rfl)) ?_
  refine zr_cip (zr_runV (As := [.int (xs (v3 + (1 : Int32)).toNatClampNeg), .int (xs (v3 + (2 : Int32)).toNatClampNeg)]) (rest := []) C vw_L_97 (c_X9_captain l g (xs (v3 + (1 : Int32)).toNatClampNeg) (xs (v3 + (2 : Int32)).toNatClampNeg) σ _ h) (sh_69) rfl (by decide) (by decide) rfl rfl (Nat.le_of_ble_eq_true rfl) (zo_182 (p := 805) (k := 97) (a := 0) (b := 97) (zby_w zwL_law_25 5 rfl) (zby_w zwL_law_25 6 rfl) (zby_w zwL_law_25 7 rfl) (by decide))) (fun r3 h => ?_)
  refine zr_pop C (zo_87 (p := 808) (zby_w zwL_law_25 8 rfl)) rfl ?_
  refine zr_goto C 1311 (zo_167 (p := 809) (k := 502) (a := 1) (b := 246) (zby_w zwL_law_25 9 rfl) (zby_w zwL_law_25 10 rfl) (zby_w zwL_law_25 11 rfl) (by decide)) (by decide) ?_
  exact zr_pick [0, 1, 2, 3] rfl (hK σ h)
def wL_20 (a1 a2 a3 a4 a5 : Int32) (σ : zST) (K : zST → Prop) : Prop := wp_X8_persuaded a1 a2 σ (fun r1 => wp_X9_persuaded a1 a2 σ (fun r3 => K σ))
set_option maxRecDepth 100000 in
set_option maxHeartbeats 4000000 in
theorem gL_20 {p : Program} {l : Launch} {e : Env} {R : Room} {s : State} {m : MethodId} {args : Array Value} {below : List Frame} {meth : Method} {c : Code} {Q : State → Prop} {g : zG} {n1 n2 : Nat} (C : zCX p R s m args meth c g n1 n2 cL_law 4 RL 7 164) {b L : Nat} {xs : Nat → Int32} (hX : va_X b L xs s s.heap) (hbl : b < s.heap.size) (hbA : ¬ zA g b) {v3 : Int32} (hi0 : vp_in v3 L) (hi1 : vp_in (v3 + 1) L) (hi2 : vp_in (v3 + 2) L) (hi3 : vp_in (v3 + 3) L) (hi4 : vp_in (v3 + 4) L) (hi5 : vp_in (v3 + 5) L) {σ : zST} {K : zST → Prop} (hK : ∀ σ : zST, K σ → zGG p l e R s m args below meth c Q g n1 n2 4 1311 [(0, .ref b), (1, .ref (g.2.1 0)), (2, .ref (g.2.1 69)), (3, .int v3)] [] σ) (h : wL_20 (xs (v3 + (1 : Int32)).toNatClampNeg) (xs (v3 + (2 : Int32)).toNatClampNeg) (xs (v3 + (3 : Int32)).toNatClampNeg) (xs (v3 + (4 : Int32)).toNatClampNeg) (xs (v3 + (5 : Int32)).toNatClampNeg) σ K) : zGG p l e R s m args below meth c Q g n1 n2 4 812 [(0, .ref b), (1, .ref (g.2.1 0)), (2, .ref (g.2.1 69)), (3, .int v3)] [] σ := by
  unfold wL_20 at h
  refine zr_aload_n C (zo_43 (p := 812) (zby_w zwL_law_25 12 rfl)) rfl ?_
  refine zr_aload_n C (zo_42 (p := 813) (zby_w zwL_law_25 13 rfl)) rfl ?_
  refine zr_iload_n C (zo_29 (p := 814) (zby_w zwL_law_25 14 rfl)) rfl ?_
  refine zr_iconst C (1 : Int32) (zo_4 (p := 815) (zby_w zwL_law_25 15 rfl)) (by decide) ?_
  refine zr_iadd C (zo_96 (p := 816) (zby_w zwL_law_25 16 rfl)) ?_
  refine zr_sld C hX hbl hbA hi1 (zo_46 (p := 817) (zby_w zwL_law_25 17 rfl)) ?_
  refine zr_aload_n C (zo_42 (p := 818) (zby_w zwL_law_25 18 rfl)) rfl ?_
  refine zr_iload_n C (zo_29 (p := 819) (zby_w zwL_law_25 19 rfl)) rfl ?_
  refine zr_iconst C (2 : Int32) (zo_5 (p := 820) (zby_w zwL_law_25 20 rfl)) (by decide) ?_
  refine zr_iadd C (zo_96 (p := 821) (zby_w zwL_law_25 21 rfl)) ?_
  refine zr_sld C hX hbl hbA hi2 (zo_46 (p := 822) (zby_w zwL_law_25 22 rfl)) ?_
  refine zr_cip (zr_runV (As := [.int (xs (v3 + (1 : Int32)).toNatClampNeg), .int (xs (v3 + (2 : Int32)).toNatClampNeg)]) (rest := []) C vw_L_98 (c_X8_persuaded l g (xs (v3 + (1 : Int32)).toNatClampNeg) (xs (v3 + (2 : Int32)).toNatClampNeg) σ _ h) (sh_0) rfl (by decide) (by decide) rfl rfl (Nat.le_of_ble_eq_true rfl) (zo_182 (p := 823) (k := 98) (a := 0) (b := 98) (zby_w zwL_law_25 23 rfl) (zby_w zwL_law_25 24 rfl) (zby_w zwL_law_25 25 rfl) (by decide))) (fun r1 h => ?_)
  refine zr_pop C (zo_87 (p := 826) (zby_w zwL_law_25 26 rfl)) rfl ?_
  refine zr_aload_n C (zo_44 (p := 827) (zby_w zwL_law_25 27 rfl)) rfl ?_
  refine zr_aload_n C (zo_42 (p := 828) (zby_w zwL_law_25 28 rfl)) rfl ?_
  refine zr_iload_n C (zo_29 (p := 829) (zby_w zwL_law_25 29 rfl)) rfl ?_
  refine zr_iconst C (1 : Int32) (zo_4 (p := 830) (zby_w zwL_law_25 30 rfl)) (by decide) ?_
  refine zr_iadd C (zo_96 (p := 831) (zby_w zwL_law_25 31 rfl)) ?_
  refine zr_sld C hX hbl hbA hi1 (zo_46 (p := 832) (zby_w zwL_law_26 0 rfl)) ?_
  refine zr_aload_n C (zo_42 (p := 833) (zby_w zwL_law_26 1 rfl)) rfl ?_
  refine zr_iload_n C (zo_29 (p := 834) (zby_w zwL_law_26 2 rfl)) rfl ?_
  refine zr_iconst C (2 : Int32) (zo_5 (p := 835) (zby_w zwL_law_26 3 rfl)) (by decide) ?_
  refine zr_iadd C (zo_96 (p := 836) (zby_w zwL_law_26 4 rfl)) ?_
  refine zr_sld C hX hbl hbA hi2 (zo_46 (p := 837) (zby_w zwL_law_26 5 rfl)) ?_
  refine zr_cip (zr_runV (As := [.int (xs (v3 + (1 : Int32)).toNatClampNeg), .int (xs (v3 + (2 : Int32)).toNatClampNeg)]) (rest := []) C vw_L_101 (c_X9_persuaded l g (xs (v3 + (1 : Int32)).toNatClampNeg) (xs (v3 + (2 : Int32)).toNatClampNeg) σ _ h) (sh_69) rfl (by decide) (by decide) rfl rfl (Nat.le_of_ble_eq_true rfl) (zo_182 (p := 838) (k := 101) (a := 0) (b := 101) (zby_w zwL_law_26 6 rfl) (zby_w zwL_law_26 7 rfl) (zby_w zwL_law_26 8 rfl) (by decide))) (fun r3 h => ?_)
  refine zr_pop C (zo_87 (p := 841) (zby_w zwL_law_26 9 rfl)) rfl ?_
  refine zr_goto C 1311 (zo_167 (p := 842) (k := 469) (a := 1) (b := 213) (zby_w zwL_law_26 10 rfl) (zby_w zwL_law_26 11 rfl) (zby_w zwL_law_26 12 rfl) (by decide)) (by decide) ?_
  exact zr_pick [0, 1, 2, 3] rfl (hK σ h)
def wL_21 (a1 a2 a3 a4 a5 : Int32) (σ : zST) (K : zST → Prop) : Prop := wp_X8_offer a1 a2 a3 σ (fun r1 σ2 => wp_X9_offer a1 a2 a3 σ2 (fun r3 σ4 => K σ4))
set_option maxRecDepth 100000 in
set_option maxHeartbeats 4000000 in
theorem gL_21 {p : Program} {l : Launch} {e : Env} {R : Room} {s : State} {m : MethodId} {args : Array Value} {below : List Frame} {meth : Method} {c : Code} {Q : State → Prop} {g : zG} {n1 n2 : Nat} (C : zCX p R s m args meth c g n1 n2 cL_law 4 RL 7 164) {b L : Nat} {xs : Nat → Int32} (hX : va_X b L xs s s.heap) (hbl : b < s.heap.size) (hbA : ¬ zA g b) {v3 : Int32} (hi0 : vp_in v3 L) (hi1 : vp_in (v3 + 1) L) (hi2 : vp_in (v3 + 2) L) (hi3 : vp_in (v3 + 3) L) (hi4 : vp_in (v3 + 4) L) (hi5 : vp_in (v3 + 5) L) {σ : zST} {K : zST → Prop} (hK : ∀ σ : zST, K σ → zGG p l e R s m args below meth c Q g n1 n2 4 1311 [(0, .ref b), (1, .ref (g.2.1 0)), (2, .ref (g.2.1 69)), (3, .int v3)] [] σ) (h : wL_21 (xs (v3 + (1 : Int32)).toNatClampNeg) (xs (v3 + (2 : Int32)).toNatClampNeg) (xs (v3 + (3 : Int32)).toNatClampNeg) (xs (v3 + (4 : Int32)).toNatClampNeg) (xs (v3 + (5 : Int32)).toNatClampNeg) σ K) : zGG p l e R s m args below meth c Q g n1 n2 4 845 [(0, .ref b), (1, .ref (g.2.1 0)), (2, .ref (g.2.1 69)), (3, .int v3)] [] σ := by
  unfold wL_21 at h
  refine zr_aload_n C (zo_43 (p := 845) (zby_w zwL_law_26 13 rfl)) rfl ?_
  refine zr_aload_n C (zo_42 (p := 846) (zby_w zwL_law_26 14 rfl)) rfl ?_
  refine zr_iload_n C (zo_29 (p := 847) (zby_w zwL_law_26 15 rfl)) rfl ?_
  refine zr_iconst C (1 : Int32) (zo_4 (p := 848) (zby_w zwL_law_26 16 rfl)) (by decide) ?_
  refine zr_iadd C (zo_96 (p := 849) (zby_w zwL_law_26 17 rfl)) ?_
  refine zr_sld C hX hbl hbA hi1 (zo_46 (p := 850) (zby_w zwL_law_26 18 rfl)) ?_
  refine zr_aload_n C (zo_42 (p := 851) (zby_w zwL_law_26 19 rfl)) rfl ?_
  refine zr_iload_n C (zo_29 (p := 852) (zby_w zwL_law_26 20 rfl)) rfl ?_
  refine zr_iconst C (2 : Int32) (zo_5 (p := 853) (zby_w zwL_law_26 21 rfl)) (by decide) ?_
  refine zr_iadd C (zo_96 (p := 854) (zby_w zwL_law_26 22 rfl)) ?_
  refine zr_sld C hX hbl hbA hi2 (zo_46 (p := 855) (zby_w zwL_law_26 23 rfl)) ?_
  refine zr_aload_n C (zo_42 (p := 856) (zby_w zwL_law_26 24 rfl)) rfl ?_
  refine zr_iload_n C (zo_29 (p := 857) (zby_w zwL_law_26 25 rfl)) rfl ?_
  refine zr_iconst C (3 : Int32) (zo_6 (p := 858) (zby_w zwL_law_26 26 rfl)) (by decide) ?_
  refine zr_iadd C (zo_96 (p := 859) (zby_w zwL_law_26 27 rfl)) ?_
  refine zr_sld C hX hbl hbA hi3 (zo_46 (p := 860) (zby_w zwL_law_26 28 rfl)) ?_
  refine zr_ci (zr_runV (As := [.int (xs (v3 + (1 : Int32)).toNatClampNeg), .int (xs (v3 + (2 : Int32)).toNatClampNeg), .int (xs (v3 + (3 : Int32)).toNatClampNeg)]) (rest := []) C vw_L_102 (c_X8_offer l g (xs (v3 + (1 : Int32)).toNatClampNeg) (xs (v3 + (2 : Int32)).toNatClampNeg) (xs (v3 + (3 : Int32)).toNatClampNeg) σ _ h) (sh_0) rfl (by decide) (by decide) rfl rfl (Nat.le_of_ble_eq_true rfl) (zo_182 (p := 861) (k := 102) (a := 0) (b := 102) (zby_w zwL_law_26 29 rfl) (zby_w zwL_law_26 30 rfl) (zby_w zwL_law_26 31 rfl) (by decide))) (fun r1 σ2 h => ?_)
  refine zr_pop C (zo_87 (p := 864) (zby_w zwL_law_27 0 rfl)) rfl ?_
  refine zr_aload_n C (zo_44 (p := 865) (zby_w zwL_law_27 1 rfl)) rfl ?_
  refine zr_aload_n C (zo_42 (p := 866) (zby_w zwL_law_27 2 rfl)) rfl ?_
  refine zr_iload_n C (zo_29 (p := 867) (zby_w zwL_law_27 3 rfl)) rfl ?_
  refine zr_iconst C (1 : Int32) (zo_4 (p := 868) (zby_w zwL_law_27 4 rfl)) (by decide) ?_
  refine zr_iadd C (zo_96 (p := 869) (zby_w zwL_law_27 5 rfl)) ?_
  refine zr_sld C hX hbl hbA hi1 (zo_46 (p := 870) (zby_w zwL_law_27 6 rfl)) ?_
  refine zr_aload_n C (zo_42 (p := 871) (zby_w zwL_law_27 7 rfl)) rfl ?_
  refine zr_iload_n C (zo_29 (p := 872) (zby_w zwL_law_27 8 rfl)) rfl ?_
  refine zr_iconst C (2 : Int32) (zo_5 (p := 873) (zby_w zwL_law_27 9 rfl)) (by decide) ?_
  refine zr_iadd C (zo_96 (p := 874) (zby_w zwL_law_27 10 rfl)) ?_
  refine zr_sld C hX hbl hbA hi2 (zo_46 (p := 875) (zby_w zwL_law_27 11 rfl)) ?_
  refine zr_aload_n C (zo_42 (p := 876) (zby_w zwL_law_27 12 rfl)) rfl ?_
  refine zr_iload_n C (zo_29 (p := 877) (zby_w zwL_law_27 13 rfl)) rfl ?_
  refine zr_iconst C (3 : Int32) (zo_6 (p := 878) (zby_w zwL_law_27 14 rfl)) (by decide) ?_
  refine zr_iadd C (zo_96 (p := 879) (zby_w zwL_law_27 15 rfl)) ?_
  refine zr_sld C hX hbl hbA hi3 (zo_46 (p := 880) (zby_w zwL_law_27 16 rfl)) ?_
  refine zr_ci (zr_runV (As := [.int (xs (v3 + (1 : Int32)).toNatClampNeg), .int (xs (v3 + (2 : Int32)).toNatClampNeg), .int (xs (v3 + (3 : Int32)).toNatClampNeg)]) (rest := []) C vw_L_105 (c_X9_offer l g (xs (v3 + (1 : Int32)).toNatClampNeg) (xs (v3 + (2 : Int32)).toNatClampNeg) (xs (v3 + (3 : Int32)).toNatClampNeg) σ2 _ h) (sh_69) rfl (by decide) (by decide) rfl rfl (Nat.le_of_ble_eq_true rfl) (zo_182 (p := 881) (k := 105) (a := 0) (b := 105) (zby_w zwL_law_27 17 rfl) (zby_w zwL_law_27 18 rfl) (zby_w zwL_law_27 19 rfl) (by decide))) (fun r3 σ4 h => ?_)
  refine zr_pop C (zo_87 (p := 884) (zby_w zwL_law_27 20 rfl)) rfl ?_
  refine zr_goto C 1311 (zo_167 (p := 885) (k := 426) (a := 1) (b := 170) (zby_w zwL_law_27 21 rfl) (zby_w zwL_law_27 22 rfl) (zby_w zwL_law_27 23 rfl) (by decide)) (by decide) ?_
  exact zr_pick [0, 1, 2, 3] rfl (hK σ4 h)
def wL_22 (a1 a2 a3 a4 a5 : Int32) (σ : zST) (K : zST → Prop) : Prop := wp_X8_noOffers σ (fun r1 σ2 => wp_X9_noOffers σ2 (fun r3 σ4 => K σ4))
set_option maxRecDepth 100000 in
set_option maxHeartbeats 4000000 in
theorem gL_22 {p : Program} {l : Launch} {e : Env} {R : Room} {s : State} {m : MethodId} {args : Array Value} {below : List Frame} {meth : Method} {c : Code} {Q : State → Prop} {g : zG} {n1 n2 : Nat} (C : zCX p R s m args meth c g n1 n2 cL_law 4 RL 7 164) {b L : Nat} {xs : Nat → Int32} (hX : va_X b L xs s s.heap) (hbl : b < s.heap.size) (hbA : ¬ zA g b) {v3 : Int32} (hi0 : vp_in v3 L) (hi1 : vp_in (v3 + 1) L) (hi2 : vp_in (v3 + 2) L) (hi3 : vp_in (v3 + 3) L) (hi4 : vp_in (v3 + 4) L) (hi5 : vp_in (v3 + 5) L) {σ : zST} {K : zST → Prop} (hK : ∀ σ : zST, K σ → zGG p l e R s m args below meth c Q g n1 n2 4 1311 [(0, .ref b), (1, .ref (g.2.1 0)), (2, .ref (g.2.1 69)), (3, .int v3)] [] σ) (h : wL_22 (xs (v3 + (1 : Int32)).toNatClampNeg) (xs (v3 + (2 : Int32)).toNatClampNeg) (xs (v3 + (3 : Int32)).toNatClampNeg) (xs (v3 + (4 : Int32)).toNatClampNeg) (xs (v3 + (5 : Int32)).toNatClampNeg) σ K) : zGG p l e R s m args below meth c Q g n1 n2 4 888 [(0, .ref b), (1, .ref (g.2.1 0)), (2, .ref (g.2.1 69)), (3, .int v3)] [] σ := by
  unfold wL_22 at h
  refine zr_aload_n C (zo_43 (p := 888) (zby_w zwL_law_27 24 rfl)) rfl ?_
  refine zr_ci (zr_runV (As := []) (rest := []) C vw_L_106 (c_X8_noOffers l g σ _ h) (sh_0) rfl (by decide) (by decide) rfl rfl (Nat.le_of_ble_eq_true rfl) (zo_182 (p := 889) (k := 106) (a := 0) (b := 106) (zby_w zwL_law_27 25 rfl) (zby_w zwL_law_27 26 rfl) (zby_w zwL_law_27 27 rfl) (by decide))) (fun r1 σ2 h => ?_)
  refine zr_pop C (zo_87 (p := 892) (zby_w zwL_law_27 28 rfl)) rfl ?_
  refine zr_aload_n C (zo_44 (p := 893) (zby_w zwL_law_27 29 rfl)) rfl ?_
  refine zr_ci (zr_runV (As := []) (rest := []) C vw_L_109 (c_X9_noOffers l g σ2 _ h) (sh_69) rfl (by decide) (by decide) rfl rfl (Nat.le_of_ble_eq_true rfl) (zo_182 (p := 894) (k := 109) (a := 0) (b := 109) (zby_w zwL_law_27 30 rfl) (zby_w zwL_law_27 31 rfl) (zby_w zwL_law_27 32 rfl) (by decide))) (fun r3 σ4 h => ?_)
  refine zr_pop C (zo_87 (p := 897) (zby_w zwL_law_28 1 rfl)) rfl ?_
  refine zr_goto C 1311 (zo_167 (p := 898) (k := 413) (a := 1) (b := 157) (zby_w zwL_law_28 2 rfl) (zby_w zwL_law_28 3 rfl) (zby_w zwL_law_28 4 rfl) (by decide)) (by decide) ?_
  exact zr_pick [0, 1, 2, 3] rfl (hK σ4 h)
def wL_23 (a1 a2 a3 a4 a5 : Int32) (σ : zST) (K : zST → Prop) : Prop := wp_X8_insured a1 a2 a3 σ (fun r1 => wp_X9_insured a1 a2 a3 σ (fun r3 => K σ))
set_option maxRecDepth 100000 in
set_option maxHeartbeats 4000000 in
theorem gL_23 {p : Program} {l : Launch} {e : Env} {R : Room} {s : State} {m : MethodId} {args : Array Value} {below : List Frame} {meth : Method} {c : Code} {Q : State → Prop} {g : zG} {n1 n2 : Nat} (C : zCX p R s m args meth c g n1 n2 cL_law 4 RL 7 164) {b L : Nat} {xs : Nat → Int32} (hX : va_X b L xs s s.heap) (hbl : b < s.heap.size) (hbA : ¬ zA g b) {v3 : Int32} (hi0 : vp_in v3 L) (hi1 : vp_in (v3 + 1) L) (hi2 : vp_in (v3 + 2) L) (hi3 : vp_in (v3 + 3) L) (hi4 : vp_in (v3 + 4) L) (hi5 : vp_in (v3 + 5) L) {σ : zST} {K : zST → Prop} (hK : ∀ σ : zST, K σ → zGG p l e R s m args below meth c Q g n1 n2 4 1311 [(0, .ref b), (1, .ref (g.2.1 0)), (2, .ref (g.2.1 69)), (3, .int v3)] [] σ) (h : wL_23 (xs (v3 + (1 : Int32)).toNatClampNeg) (xs (v3 + (2 : Int32)).toNatClampNeg) (xs (v3 + (3 : Int32)).toNatClampNeg) (xs (v3 + (4 : Int32)).toNatClampNeg) (xs (v3 + (5 : Int32)).toNatClampNeg) σ K) : zGG p l e R s m args below meth c Q g n1 n2 4 901 [(0, .ref b), (1, .ref (g.2.1 0)), (2, .ref (g.2.1 69)), (3, .int v3)] [] σ := by
  unfold wL_23 at h
  refine zr_aload_n C (zo_43 (p := 901) (zby_w zwL_law_28 5 rfl)) rfl ?_
  refine zr_aload_n C (zo_42 (p := 902) (zby_w zwL_law_28 6 rfl)) rfl ?_
  refine zr_iload_n C (zo_29 (p := 903) (zby_w zwL_law_28 7 rfl)) rfl ?_
  refine zr_iconst C (1 : Int32) (zo_4 (p := 904) (zby_w zwL_law_28 8 rfl)) (by decide) ?_
  refine zr_iadd C (zo_96 (p := 905) (zby_w zwL_law_28 9 rfl)) ?_
  refine zr_sld C hX hbl hbA hi1 (zo_46 (p := 906) (zby_w zwL_law_28 10 rfl)) ?_
  refine zr_aload_n C (zo_42 (p := 907) (zby_w zwL_law_28 11 rfl)) rfl ?_
  refine zr_iload_n C (zo_29 (p := 908) (zby_w zwL_law_28 12 rfl)) rfl ?_
  refine zr_iconst C (2 : Int32) (zo_5 (p := 909) (zby_w zwL_law_28 13 rfl)) (by decide) ?_
  refine zr_iadd C (zo_96 (p := 910) (zby_w zwL_law_28 14 rfl)) ?_
  refine zr_sld C hX hbl hbA hi2 (zo_46 (p := 911) (zby_w zwL_law_28 15 rfl)) ?_
  refine zr_aload_n C (zo_42 (p := 912) (zby_w zwL_law_28 16 rfl)) rfl ?_
  refine zr_iload_n C (zo_29 (p := 913) (zby_w zwL_law_28 17 rfl)) rfl ?_
  refine zr_iconst C (3 : Int32) (zo_6 (p := 914) (zby_w zwL_law_28 18 rfl)) (by decide) ?_
  refine zr_iadd C (zo_96 (p := 915) (zby_w zwL_law_28 19 rfl)) ?_
  refine zr_sld C hX hbl hbA hi3 (zo_46 (p := 916) (zby_w zwL_law_28 20 rfl)) ?_
  refine zr_cip (zr_runV (As := [.int (xs (v3 + (1 : Int32)).toNatClampNeg), .int (xs (v3 + (2 : Int32)).toNatClampNeg), .int (xs (v3 + (3 : Int32)).toNatClampNeg)]) (rest := []) C vw_L_110 (c_X8_insured l g (xs (v3 + (1 : Int32)).toNatClampNeg) (xs (v3 + (2 : Int32)).toNatClampNeg) (xs (v3 + (3 : Int32)).toNatClampNeg) σ _ h) (sh_0) rfl (by decide) (by decide) rfl rfl (Nat.le_of_ble_eq_true rfl) (zo_182 (p := 917) (k := 110) (a := 0) (b := 110) (zby_w zwL_law_28 21 rfl) (zby_w zwL_law_28 22 rfl) (zby_w zwL_law_28 23 rfl) (by decide))) (fun r1 h => ?_)
  refine zr_pop C (zo_87 (p := 920) (zby_w zwL_law_28 24 rfl)) rfl ?_
  refine zr_aload_n C (zo_44 (p := 921) (zby_w zwL_law_28 25 rfl)) rfl ?_
  refine zr_aload_n C (zo_42 (p := 922) (zby_w zwL_law_28 26 rfl)) rfl ?_
  refine zr_iload_n C (zo_29 (p := 923) (zby_w zwL_law_28 27 rfl)) rfl ?_
  refine zr_iconst C (1 : Int32) (zo_4 (p := 924) (zby_w zwL_law_28 28 rfl)) (by decide) ?_
  refine zr_iadd C (zo_96 (p := 925) (zby_w zwL_law_28 29 rfl)) ?_
  refine zr_sld C hX hbl hbA hi1 (zo_46 (p := 926) (zby_w zwL_law_28 30 rfl)) ?_
  refine zr_aload_n C (zo_42 (p := 927) (zby_w zwL_law_28 31 rfl)) rfl ?_
  refine zr_iload_n C (zo_29 (p := 928) (zby_w zwL_law_29 0 rfl)) rfl ?_
  refine zr_iconst C (2 : Int32) (zo_5 (p := 929) (zby_w zwL_law_29 1 rfl)) (by decide) ?_
  refine zr_iadd C (zo_96 (p := 930) (zby_w zwL_law_29 2 rfl)) ?_
  refine zr_sld C hX hbl hbA hi2 (zo_46 (p := 931) (zby_w zwL_law_29 3 rfl)) ?_
  refine zr_aload_n C (zo_42 (p := 932) (zby_w zwL_law_29 4 rfl)) rfl ?_
  refine zr_iload_n C (zo_29 (p := 933) (zby_w zwL_law_29 5 rfl)) rfl ?_
  refine zr_iconst C (3 : Int32) (zo_6 (p := 934) (zby_w zwL_law_29 6 rfl)) (by decide) ?_
  refine zr_iadd C (zo_96 (p := 935) (zby_w zwL_law_29 7 rfl)) ?_
  refine zr_sld C hX hbl hbA hi3 (zo_46 (p := 936) (zby_w zwL_law_29 8 rfl)) ?_
  refine zr_cip (zr_runV (As := [.int (xs (v3 + (1 : Int32)).toNatClampNeg), .int (xs (v3 + (2 : Int32)).toNatClampNeg), .int (xs (v3 + (3 : Int32)).toNatClampNeg)]) (rest := []) C vw_L_113 (c_X9_insured l g (xs (v3 + (1 : Int32)).toNatClampNeg) (xs (v3 + (2 : Int32)).toNatClampNeg) (xs (v3 + (3 : Int32)).toNatClampNeg) σ _ h) (sh_69) rfl (by decide) (by decide) rfl rfl (Nat.le_of_ble_eq_true rfl) (zo_182 (p := 937) (k := 113) (a := 0) (b := 113) (zby_w zwL_law_29 9 rfl) (zby_w zwL_law_29 10 rfl) (zby_w zwL_law_29 11 rfl) (by decide))) (fun r3 h => ?_)
  refine zr_pop C (zo_87 (p := 940) (zby_w zwL_law_29 12 rfl)) rfl ?_
  refine zr_goto C 1311 (zo_167 (p := 941) (k := 370) (a := 1) (b := 114) (zby_w zwL_law_29 13 rfl) (zby_w zwL_law_29 14 rfl) (zby_w zwL_law_29 15 rfl) (by decide)) (by decide) ?_
  exact zr_pick [0, 1, 2, 3] rfl (hK σ h)
def wL_24 (a1 a2 a3 a4 a5 : Int32) (σ : zST) (K : zST → Prop) : Prop := wp_X8_aboard a1 a2 σ (fun r1 σ2 => wp_X9_aboard a1 a2 σ2 (fun r3 σ4 => K σ4))
set_option maxRecDepth 100000 in
set_option maxHeartbeats 4000000 in
theorem gL_24 {p : Program} {l : Launch} {e : Env} {R : Room} {s : State} {m : MethodId} {args : Array Value} {below : List Frame} {meth : Method} {c : Code} {Q : State → Prop} {g : zG} {n1 n2 : Nat} (C : zCX p R s m args meth c g n1 n2 cL_law 4 RL 7 164) {b L : Nat} {xs : Nat → Int32} (hX : va_X b L xs s s.heap) (hbl : b < s.heap.size) (hbA : ¬ zA g b) {v3 : Int32} (hi0 : vp_in v3 L) (hi1 : vp_in (v3 + 1) L) (hi2 : vp_in (v3 + 2) L) (hi3 : vp_in (v3 + 3) L) (hi4 : vp_in (v3 + 4) L) (hi5 : vp_in (v3 + 5) L) {σ : zST} {K : zST → Prop} (hK : ∀ σ : zST, K σ → zGG p l e R s m args below meth c Q g n1 n2 4 1311 [(0, .ref b), (1, .ref (g.2.1 0)), (2, .ref (g.2.1 69)), (3, .int v3)] [] σ) (h : wL_24 (xs (v3 + (1 : Int32)).toNatClampNeg) (xs (v3 + (2 : Int32)).toNatClampNeg) (xs (v3 + (3 : Int32)).toNatClampNeg) (xs (v3 + (4 : Int32)).toNatClampNeg) (xs (v3 + (5 : Int32)).toNatClampNeg) σ K) : zGG p l e R s m args below meth c Q g n1 n2 4 944 [(0, .ref b), (1, .ref (g.2.1 0)), (2, .ref (g.2.1 69)), (3, .int v3)] [] σ := by
  unfold wL_24 at h
  refine zr_aload_n C (zo_43 (p := 944) (zby_w zwL_law_29 16 rfl)) rfl ?_
  refine zr_aload_n C (zo_42 (p := 945) (zby_w zwL_law_29 17 rfl)) rfl ?_
  refine zr_iload_n C (zo_29 (p := 946) (zby_w zwL_law_29 18 rfl)) rfl ?_
  refine zr_iconst C (1 : Int32) (zo_4 (p := 947) (zby_w zwL_law_29 19 rfl)) (by decide) ?_
  refine zr_iadd C (zo_96 (p := 948) (zby_w zwL_law_29 20 rfl)) ?_
  refine zr_sld C hX hbl hbA hi1 (zo_46 (p := 949) (zby_w zwL_law_29 21 rfl)) ?_
  refine zr_aload_n C (zo_42 (p := 950) (zby_w zwL_law_29 22 rfl)) rfl ?_
  refine zr_iload_n C (zo_29 (p := 951) (zby_w zwL_law_29 23 rfl)) rfl ?_
  refine zr_iconst C (2 : Int32) (zo_5 (p := 952) (zby_w zwL_law_29 24 rfl)) (by decide) ?_
  refine zr_iadd C (zo_96 (p := 953) (zby_w zwL_law_29 25 rfl)) ?_
  refine zr_sld C hX hbl hbA hi2 (zo_46 (p := 954) (zby_w zwL_law_29 26 rfl)) ?_
  refine zr_ci (zr_runV (As := [.int (xs (v3 + (1 : Int32)).toNatClampNeg), .int (xs (v3 + (2 : Int32)).toNatClampNeg)]) (rest := []) C vw_L_114 (c_X8_aboard l g (xs (v3 + (1 : Int32)).toNatClampNeg) (xs (v3 + (2 : Int32)).toNatClampNeg) σ _ h) (sh_0) rfl (by decide) (by decide) rfl rfl (Nat.le_of_ble_eq_true rfl) (zo_182 (p := 955) (k := 114) (a := 0) (b := 114) (zby_w zwL_law_29 27 rfl) (zby_w zwL_law_29 28 rfl) (zby_w zwL_law_29 29 rfl) (by decide))) (fun r1 σ2 h => ?_)
  refine zr_pop C (zo_87 (p := 958) (zby_w zwL_law_29 30 rfl)) rfl ?_
  refine zr_aload_n C (zo_44 (p := 959) (zby_w zwL_law_29 31 rfl)) rfl ?_
  refine zr_aload_n C (zo_42 (p := 960) (zby_w zwL_law_30 0 rfl)) rfl ?_
  refine zr_iload_n C (zo_29 (p := 961) (zby_w zwL_law_30 1 rfl)) rfl ?_
  refine zr_iconst C (1 : Int32) (zo_4 (p := 962) (zby_w zwL_law_30 2 rfl)) (by decide) ?_
  refine zr_iadd C (zo_96 (p := 963) (zby_w zwL_law_30 3 rfl)) ?_
  refine zr_sld C hX hbl hbA hi1 (zo_46 (p := 964) (zby_w zwL_law_30 4 rfl)) ?_
  refine zr_aload_n C (zo_42 (p := 965) (zby_w zwL_law_30 5 rfl)) rfl ?_
  refine zr_iload_n C (zo_29 (p := 966) (zby_w zwL_law_30 6 rfl)) rfl ?_
  refine zr_iconst C (2 : Int32) (zo_5 (p := 967) (zby_w zwL_law_30 7 rfl)) (by decide) ?_
  refine zr_iadd C (zo_96 (p := 968) (zby_w zwL_law_30 8 rfl)) ?_
  refine zr_sld C hX hbl hbA hi2 (zo_46 (p := 969) (zby_w zwL_law_30 9 rfl)) ?_
  refine zr_ci (zr_runV (As := [.int (xs (v3 + (1 : Int32)).toNatClampNeg), .int (xs (v3 + (2 : Int32)).toNatClampNeg)]) (rest := []) C vw_L_117 (c_X9_aboard l g (xs (v3 + (1 : Int32)).toNatClampNeg) (xs (v3 + (2 : Int32)).toNatClampNeg) σ2 _ h) (sh_69) rfl (by decide) (by decide) rfl rfl (Nat.le_of_ble_eq_true rfl) (zo_182 (p := 970) (k := 117) (a := 0) (b := 117) (zby_w zwL_law_30 10 rfl) (zby_w zwL_law_30 11 rfl) (zby_w zwL_law_30 12 rfl) (by decide))) (fun r3 σ4 h => ?_)
  refine zr_pop C (zo_87 (p := 973) (zby_w zwL_law_30 13 rfl)) rfl ?_
  refine zr_goto C 1311 (zo_167 (p := 974) (k := 337) (a := 1) (b := 81) (zby_w zwL_law_30 14 rfl) (zby_w zwL_law_30 15 rfl) (zby_w zwL_law_30 16 rfl) (by decide)) (by decide) ?_
  exact zr_pick [0, 1, 2, 3] rfl (hK σ4 h)
def wL_25 (a1 a2 a3 a4 a5 : Int32) (σ : zST) (K : zST → Prop) : Prop := wp_X8_ashore a1 σ (fun r1 σ2 => wp_X9_ashore a1 σ2 (fun r3 σ4 => K σ4))
set_option maxRecDepth 100000 in
set_option maxHeartbeats 4000000 in
theorem gL_25 {p : Program} {l : Launch} {e : Env} {R : Room} {s : State} {m : MethodId} {args : Array Value} {below : List Frame} {meth : Method} {c : Code} {Q : State → Prop} {g : zG} {n1 n2 : Nat} (C : zCX p R s m args meth c g n1 n2 cL_law 4 RL 7 164) {b L : Nat} {xs : Nat → Int32} (hX : va_X b L xs s s.heap) (hbl : b < s.heap.size) (hbA : ¬ zA g b) {v3 : Int32} (hi0 : vp_in v3 L) (hi1 : vp_in (v3 + 1) L) (hi2 : vp_in (v3 + 2) L) (hi3 : vp_in (v3 + 3) L) (hi4 : vp_in (v3 + 4) L) (hi5 : vp_in (v3 + 5) L) {σ : zST} {K : zST → Prop} (hK : ∀ σ : zST, K σ → zGG p l e R s m args below meth c Q g n1 n2 4 1311 [(0, .ref b), (1, .ref (g.2.1 0)), (2, .ref (g.2.1 69)), (3, .int v3)] [] σ) (h : wL_25 (xs (v3 + (1 : Int32)).toNatClampNeg) (xs (v3 + (2 : Int32)).toNatClampNeg) (xs (v3 + (3 : Int32)).toNatClampNeg) (xs (v3 + (4 : Int32)).toNatClampNeg) (xs (v3 + (5 : Int32)).toNatClampNeg) σ K) : zGG p l e R s m args below meth c Q g n1 n2 4 977 [(0, .ref b), (1, .ref (g.2.1 0)), (2, .ref (g.2.1 69)), (3, .int v3)] [] σ := by
  unfold wL_25 at h
  refine zr_aload_n C (zo_43 (p := 977) (zby_w zwL_law_30 17 rfl)) rfl ?_
  refine zr_aload_n C (zo_42 (p := 978) (zby_w zwL_law_30 18 rfl)) rfl ?_
  refine zr_iload_n C (zo_29 (p := 979) (zby_w zwL_law_30 19 rfl)) rfl ?_
  refine zr_iconst C (1 : Int32) (zo_4 (p := 980) (zby_w zwL_law_30 20 rfl)) (by decide) ?_
  refine zr_iadd C (zo_96 (p := 981) (zby_w zwL_law_30 21 rfl)) ?_
  refine zr_sld C hX hbl hbA hi1 (zo_46 (p := 982) (zby_w zwL_law_30 22 rfl)) ?_
  refine zr_ci (zr_runV (As := [.int (xs (v3 + (1 : Int32)).toNatClampNeg)]) (rest := []) C vw_L_118 (c_X8_ashore l g (xs (v3 + (1 : Int32)).toNatClampNeg) σ _ h) (sh_0) rfl (by decide) (by decide) rfl rfl (Nat.le_of_ble_eq_true rfl) (zo_182 (p := 983) (k := 118) (a := 0) (b := 118) (zby_w zwL_law_30 23 rfl) (zby_w zwL_law_30 24 rfl) (zby_w zwL_law_30 25 rfl) (by decide))) (fun r1 σ2 h => ?_)
  refine zr_pop C (zo_87 (p := 986) (zby_w zwL_law_30 26 rfl)) rfl ?_
  refine zr_aload_n C (zo_44 (p := 987) (zby_w zwL_law_30 27 rfl)) rfl ?_
  refine zr_aload_n C (zo_42 (p := 988) (zby_w zwL_law_30 28 rfl)) rfl ?_
  refine zr_iload_n C (zo_29 (p := 989) (zby_w zwL_law_30 29 rfl)) rfl ?_
  refine zr_iconst C (1 : Int32) (zo_4 (p := 990) (zby_w zwL_law_30 30 rfl)) (by decide) ?_
  refine zr_iadd C (zo_96 (p := 991) (zby_w zwL_law_30 31 rfl)) ?_
  refine zr_sld C hX hbl hbA hi1 (zo_46 (p := 992) (zby_w zwL_law_31 0 rfl)) ?_
  refine zr_ci (zr_runV (As := [.int (xs (v3 + (1 : Int32)).toNatClampNeg)]) (rest := []) C vw_L_121 (c_X9_ashore l g (xs (v3 + (1 : Int32)).toNatClampNeg) σ2 _ h) (sh_69) rfl (by decide) (by decide) rfl rfl (Nat.le_of_ble_eq_true rfl) (zo_182 (p := 993) (k := 121) (a := 0) (b := 121) (zby_w zwL_law_31 1 rfl) (zby_w zwL_law_31 2 rfl) (zby_w zwL_law_31 3 rfl) (by decide))) (fun r3 σ4 h => ?_)
  refine zr_pop C (zo_87 (p := 996) (zby_w zwL_law_31 4 rfl)) rfl ?_
  refine zr_goto C 1311 (zo_167 (p := 997) (k := 314) (a := 1) (b := 58) (zby_w zwL_law_31 5 rfl) (zby_w zwL_law_31 6 rfl) (zby_w zwL_law_31 7 rfl) (by decide)) (by decide) ?_
  exact zr_pick [0, 1, 2, 3] rfl (hK σ4 h)
def wL_26 (a1 a2 a3 a4 a5 : Int32) (σ : zST) (K : zST → Prop) : Prop := wp_X8_lot a1 a2 a3 σ (fun r1 => wp_X9_lot a1 a2 a3 σ (fun r3 => K σ))
set_option maxRecDepth 100000 in
set_option maxHeartbeats 4000000 in
theorem gL_26 {p : Program} {l : Launch} {e : Env} {R : Room} {s : State} {m : MethodId} {args : Array Value} {below : List Frame} {meth : Method} {c : Code} {Q : State → Prop} {g : zG} {n1 n2 : Nat} (C : zCX p R s m args meth c g n1 n2 cL_law 4 RL 7 164) {b L : Nat} {xs : Nat → Int32} (hX : va_X b L xs s s.heap) (hbl : b < s.heap.size) (hbA : ¬ zA g b) {v3 : Int32} (hi0 : vp_in v3 L) (hi1 : vp_in (v3 + 1) L) (hi2 : vp_in (v3 + 2) L) (hi3 : vp_in (v3 + 3) L) (hi4 : vp_in (v3 + 4) L) (hi5 : vp_in (v3 + 5) L) {σ : zST} {K : zST → Prop} (hK : ∀ σ : zST, K σ → zGG p l e R s m args below meth c Q g n1 n2 4 1311 [(0, .ref b), (1, .ref (g.2.1 0)), (2, .ref (g.2.1 69)), (3, .int v3)] [] σ) (h : wL_26 (xs (v3 + (1 : Int32)).toNatClampNeg) (xs (v3 + (2 : Int32)).toNatClampNeg) (xs (v3 + (3 : Int32)).toNatClampNeg) (xs (v3 + (4 : Int32)).toNatClampNeg) (xs (v3 + (5 : Int32)).toNatClampNeg) σ K) : zGG p l e R s m args below meth c Q g n1 n2 4 1000 [(0, .ref b), (1, .ref (g.2.1 0)), (2, .ref (g.2.1 69)), (3, .int v3)] [] σ := by
  unfold wL_26 at h
  refine zr_aload_n C (zo_43 (p := 1000) (zby_w zwL_law_31 8 rfl)) rfl ?_
  refine zr_aload_n C (zo_42 (p := 1001) (zby_w zwL_law_31 9 rfl)) rfl ?_
  refine zr_iload_n C (zo_29 (p := 1002) (zby_w zwL_law_31 10 rfl)) rfl ?_
  refine zr_iconst C (1 : Int32) (zo_4 (p := 1003) (zby_w zwL_law_31 11 rfl)) (by decide) ?_
  refine zr_iadd C (zo_96 (p := 1004) (zby_w zwL_law_31 12 rfl)) ?_
  refine zr_sld C hX hbl hbA hi1 (zo_46 (p := 1005) (zby_w zwL_law_31 13 rfl)) ?_
  refine zr_aload_n C (zo_42 (p := 1006) (zby_w zwL_law_31 14 rfl)) rfl ?_
  refine zr_iload_n C (zo_29 (p := 1007) (zby_w zwL_law_31 15 rfl)) rfl ?_
  refine zr_iconst C (2 : Int32) (zo_5 (p := 1008) (zby_w zwL_law_31 16 rfl)) (by decide) ?_
  refine zr_iadd C (zo_96 (p := 1009) (zby_w zwL_law_31 17 rfl)) ?_
  refine zr_sld C hX hbl hbA hi2 (zo_46 (p := 1010) (zby_w zwL_law_31 18 rfl)) ?_
  refine zr_aload_n C (zo_42 (p := 1011) (zby_w zwL_law_31 19 rfl)) rfl ?_
  refine zr_iload_n C (zo_29 (p := 1012) (zby_w zwL_law_31 20 rfl)) rfl ?_
  refine zr_iconst C (3 : Int32) (zo_6 (p := 1013) (zby_w zwL_law_31 21 rfl)) (by decide) ?_
  refine zr_iadd C (zo_96 (p := 1014) (zby_w zwL_law_31 22 rfl)) ?_
  refine zr_sld C hX hbl hbA hi3 (zo_46 (p := 1015) (zby_w zwL_law_31 23 rfl)) ?_
  refine zr_clp (zr_runV (As := [.int (xs (v3 + (1 : Int32)).toNatClampNeg), .int (xs (v3 + (2 : Int32)).toNatClampNeg), .int (xs (v3 + (3 : Int32)).toNatClampNeg)]) (rest := []) C vw_L_122 (c_X8_lot l g (xs (v3 + (1 : Int32)).toNatClampNeg) (xs (v3 + (2 : Int32)).toNatClampNeg) (xs (v3 + (3 : Int32)).toNatClampNeg) σ _ h) (sh_0) rfl (by decide) (by decide) rfl rfl (Nat.le_of_ble_eq_true rfl) (zo_182 (p := 1016) (k := 122) (a := 0) (b := 122) (zby_w zwL_law_31 24 rfl) (zby_w zwL_law_31 25 rfl) (zby_w zwL_law_31 26 rfl) (by decide))) (fun r1 h => ?_)
  refine zr_pop2 C (zo_88 (p := 1019) (zby_w zwL_law_31 27 rfl)) rfl ?_
  refine zr_aload_n C (zo_44 (p := 1020) (zby_w zwL_law_31 28 rfl)) rfl ?_
  refine zr_aload_n C (zo_42 (p := 1021) (zby_w zwL_law_31 29 rfl)) rfl ?_
  refine zr_iload_n C (zo_29 (p := 1022) (zby_w zwL_law_31 30 rfl)) rfl ?_
  refine zr_iconst C (1 : Int32) (zo_4 (p := 1023) (zby_w zwL_law_31 31 rfl)) (by decide) ?_
  refine zr_iadd C (zo_96 (p := 1024) (zby_w zwL_law_32 0 rfl)) ?_
  refine zr_sld C hX hbl hbA hi1 (zo_46 (p := 1025) (zby_w zwL_law_32 1 rfl)) ?_
  refine zr_aload_n C (zo_42 (p := 1026) (zby_w zwL_law_32 2 rfl)) rfl ?_
  refine zr_iload_n C (zo_29 (p := 1027) (zby_w zwL_law_32 3 rfl)) rfl ?_
  refine zr_iconst C (2 : Int32) (zo_5 (p := 1028) (zby_w zwL_law_32 4 rfl)) (by decide) ?_
  refine zr_iadd C (zo_96 (p := 1029) (zby_w zwL_law_32 5 rfl)) ?_
  refine zr_sld C hX hbl hbA hi2 (zo_46 (p := 1030) (zby_w zwL_law_32 6 rfl)) ?_
  refine zr_aload_n C (zo_42 (p := 1031) (zby_w zwL_law_32 7 rfl)) rfl ?_
  refine zr_iload_n C (zo_29 (p := 1032) (zby_w zwL_law_32 8 rfl)) rfl ?_
  refine zr_iconst C (3 : Int32) (zo_6 (p := 1033) (zby_w zwL_law_32 9 rfl)) (by decide) ?_
  refine zr_iadd C (zo_96 (p := 1034) (zby_w zwL_law_32 10 rfl)) ?_
  refine zr_sld C hX hbl hbA hi3 (zo_46 (p := 1035) (zby_w zwL_law_32 11 rfl)) ?_
  refine zr_clp (zr_runV (As := [.int (xs (v3 + (1 : Int32)).toNatClampNeg), .int (xs (v3 + (2 : Int32)).toNatClampNeg), .int (xs (v3 + (3 : Int32)).toNatClampNeg)]) (rest := []) C vw_L_126 (c_X9_lot l g (xs (v3 + (1 : Int32)).toNatClampNeg) (xs (v3 + (2 : Int32)).toNatClampNeg) (xs (v3 + (3 : Int32)).toNatClampNeg) σ _ h) (sh_69) rfl (by decide) (by decide) rfl rfl (Nat.le_of_ble_eq_true rfl) (zo_182 (p := 1036) (k := 126) (a := 0) (b := 126) (zby_w zwL_law_32 12 rfl) (zby_w zwL_law_32 13 rfl) (zby_w zwL_law_32 14 rfl) (by decide))) (fun r3 h => ?_)
  refine zr_pop2 C (zo_88 (p := 1039) (zby_w zwL_law_32 15 rfl)) rfl ?_
  refine zr_goto C 1311 (zo_167 (p := 1040) (k := 271) (a := 1) (b := 15) (zby_w zwL_law_32 16 rfl) (zby_w zwL_law_32 17 rfl) (zby_w zwL_law_32 18 rfl) (by decide)) (by decide) ?_
  exact zr_pick [0, 1, 2, 3] rfl (hK σ h)
def wL_27 (a1 a2 a3 a4 a5 : Int32) (σ : zST) (K : zST → Prop) : Prop := wp_X8_often a1 a2 a3 a4 a5 σ (fun r1 => wp_X9_often a1 a2 a3 a4 a5 σ (fun r3 => (if (lg_cmp r1 r3) = (0) then K σ else False)))
set_option maxRecDepth 100000 in
set_option maxHeartbeats 4000000 in
theorem gL_27 {p : Program} {l : Launch} {e : Env} {R : Room} {s : State} {m : MethodId} {args : Array Value} {below : List Frame} {meth : Method} {c : Code} {Q : State → Prop} {g : zG} {n1 n2 : Nat} (C : zCX p R s m args meth c g n1 n2 cL_law 4 RL 7 164) {b L : Nat} {xs : Nat → Int32} (hX : va_X b L xs s s.heap) (hbl : b < s.heap.size) (hbA : ¬ zA g b) {v3 : Int32} (hi0 : vp_in v3 L) (hi1 : vp_in (v3 + 1) L) (hi2 : vp_in (v3 + 2) L) (hi3 : vp_in (v3 + 3) L) (hi4 : vp_in (v3 + 4) L) (hi5 : vp_in (v3 + 5) L) {σ : zST} {K : zST → Prop} (hK : ∀ σ : zST, K σ → zGG p l e R s m args below meth c Q g n1 n2 4 1311 [(0, .ref b), (1, .ref (g.2.1 0)), (2, .ref (g.2.1 69)), (3, .int v3)] [] σ) (h : wL_27 (xs (v3 + (1 : Int32)).toNatClampNeg) (xs (v3 + (2 : Int32)).toNatClampNeg) (xs (v3 + (3 : Int32)).toNatClampNeg) (xs (v3 + (4 : Int32)).toNatClampNeg) (xs (v3 + (5 : Int32)).toNatClampNeg) σ K) : zGG p l e R s m args below meth c Q g n1 n2 4 1043 [(0, .ref b), (1, .ref (g.2.1 0)), (2, .ref (g.2.1 69)), (3, .int v3)] [] σ := by
  unfold wL_27 at h
  refine zr_aload_n C (zo_43 (p := 1043) (zby_w zwL_law_32 19 rfl)) rfl ?_
  refine zr_aload_n C (zo_42 (p := 1044) (zby_w zwL_law_32 20 rfl)) rfl ?_
  refine zr_iload_n C (zo_29 (p := 1045) (zby_w zwL_law_32 21 rfl)) rfl ?_
  refine zr_iconst C (1 : Int32) (zo_4 (p := 1046) (zby_w zwL_law_32 22 rfl)) (by decide) ?_
  refine zr_iadd C (zo_96 (p := 1047) (zby_w zwL_law_32 23 rfl)) ?_
  refine zr_sld C hX hbl hbA hi1 (zo_46 (p := 1048) (zby_w zwL_law_32 24 rfl)) ?_
  refine zr_aload_n C (zo_42 (p := 1049) (zby_w zwL_law_32 25 rfl)) rfl ?_
  refine zr_iload_n C (zo_29 (p := 1050) (zby_w zwL_law_32 26 rfl)) rfl ?_
  refine zr_iconst C (2 : Int32) (zo_5 (p := 1051) (zby_w zwL_law_32 27 rfl)) (by decide) ?_
  refine zr_iadd C (zo_96 (p := 1052) (zby_w zwL_law_32 28 rfl)) ?_
  refine zr_sld C hX hbl hbA hi2 (zo_46 (p := 1053) (zby_w zwL_law_32 29 rfl)) ?_
  refine zr_aload_n C (zo_42 (p := 1054) (zby_w zwL_law_32 30 rfl)) rfl ?_
  refine zr_iload_n C (zo_29 (p := 1055) (zby_w zwL_law_32 31 rfl)) rfl ?_
  refine zr_iconst C (3 : Int32) (zo_6 (p := 1056) (zby_w zwL_law_33 0 rfl)) (by decide) ?_
  refine zr_iadd C (zo_96 (p := 1057) (zby_w zwL_law_33 1 rfl)) ?_
  refine zr_sld C hX hbl hbA hi3 (zo_46 (p := 1058) (zby_w zwL_law_33 2 rfl)) ?_
  refine zr_aload_n C (zo_42 (p := 1059) (zby_w zwL_law_33 3 rfl)) rfl ?_
  refine zr_iload_n C (zo_29 (p := 1060) (zby_w zwL_law_33 4 rfl)) rfl ?_
  refine zr_iconst C (4 : Int32) (zo_7 (p := 1061) (zby_w zwL_law_33 5 rfl)) (by decide) ?_
  refine zr_iadd C (zo_96 (p := 1062) (zby_w zwL_law_33 6 rfl)) ?_
  refine zr_sld C hX hbl hbA hi4 (zo_46 (p := 1063) (zby_w zwL_law_33 7 rfl)) ?_
  refine zr_aload_n C (zo_42 (p := 1064) (zby_w zwL_law_33 8 rfl)) rfl ?_
  refine zr_iload_n C (zo_29 (p := 1065) (zby_w zwL_law_33 9 rfl)) rfl ?_
  refine zr_iconst C (5 : Int32) (zo_8 (p := 1066) (zby_w zwL_law_33 10 rfl)) (by decide) ?_
  refine zr_iadd C (zo_96 (p := 1067) (zby_w zwL_law_33 11 rfl)) ?_
  refine zr_sld C hX hbl hbA hi5 (zo_46 (p := 1068) (zby_w zwL_law_33 12 rfl)) ?_
  refine zr_clp (zr_runV (As := [.int (xs (v3 + (1 : Int32)).toNatClampNeg), .int (xs (v3 + (2 : Int32)).toNatClampNeg), .int (xs (v3 + (3 : Int32)).toNatClampNeg), .int (xs (v3 + (4 : Int32)).toNatClampNeg), .int (xs (v3 + (5 : Int32)).toNatClampNeg)]) (rest := []) C vw_L_127 (c_X8_often l g (xs (v3 + (1 : Int32)).toNatClampNeg) (xs (v3 + (2 : Int32)).toNatClampNeg) (xs (v3 + (3 : Int32)).toNatClampNeg) (xs (v3 + (4 : Int32)).toNatClampNeg) (xs (v3 + (5 : Int32)).toNatClampNeg) σ _ h) (sh_0) rfl (by decide) (by decide) rfl rfl (Nat.le_of_ble_eq_true rfl) (zo_182 (p := 1069) (k := 127) (a := 0) (b := 127) (zby_w zwL_law_33 13 rfl) (zby_w zwL_law_33 14 rfl) (zby_w zwL_law_33 15 rfl) (by decide))) (fun r1 h => ?_)
  refine zr_aload_n C (zo_44 (p := 1072) (zby_w zwL_law_33 16 rfl)) rfl ?_
  refine zr_aload_n C (zo_42 (p := 1073) (zby_w zwL_law_33 17 rfl)) rfl ?_
  refine zr_iload_n C (zo_29 (p := 1074) (zby_w zwL_law_33 18 rfl)) rfl ?_
  refine zr_iconst C (1 : Int32) (zo_4 (p := 1075) (zby_w zwL_law_33 19 rfl)) (by decide) ?_
  refine zr_iadd C (zo_96 (p := 1076) (zby_w zwL_law_33 20 rfl)) ?_
  refine zr_sld C hX hbl hbA hi1 (zo_46 (p := 1077) (zby_w zwL_law_33 21 rfl)) ?_
  refine zr_aload_n C (zo_42 (p := 1078) (zby_w zwL_law_33 22 rfl)) rfl ?_
  refine zr_iload_n C (zo_29 (p := 1079) (zby_w zwL_law_33 23 rfl)) rfl ?_
  refine zr_iconst C (2 : Int32) (zo_5 (p := 1080) (zby_w zwL_law_33 24 rfl)) (by decide) ?_
  refine zr_iadd C (zo_96 (p := 1081) (zby_w zwL_law_33 25 rfl)) ?_
  refine zr_sld C hX hbl hbA hi2 (zo_46 (p := 1082) (zby_w zwL_law_33 26 rfl)) ?_
  refine zr_aload_n C (zo_42 (p := 1083) (zby_w zwL_law_33 27 rfl)) rfl ?_
  refine zr_iload_n C (zo_29 (p := 1084) (zby_w zwL_law_33 28 rfl)) rfl ?_
  refine zr_iconst C (3 : Int32) (zo_6 (p := 1085) (zby_w zwL_law_33 29 rfl)) (by decide) ?_
  refine zr_iadd C (zo_96 (p := 1086) (zby_w zwL_law_33 30 rfl)) ?_
  refine zr_sld C hX hbl hbA hi3 (zo_46 (p := 1087) (zby_w zwL_law_33 31 rfl)) ?_
  refine zr_aload_n C (zo_42 (p := 1088) (zby_w zwL_law_34 0 rfl)) rfl ?_
  refine zr_iload_n C (zo_29 (p := 1089) (zby_w zwL_law_34 1 rfl)) rfl ?_
  refine zr_iconst C (4 : Int32) (zo_7 (p := 1090) (zby_w zwL_law_34 2 rfl)) (by decide) ?_
  refine zr_iadd C (zo_96 (p := 1091) (zby_w zwL_law_34 3 rfl)) ?_
  refine zr_sld C hX hbl hbA hi4 (zo_46 (p := 1092) (zby_w zwL_law_34 4 rfl)) ?_
  refine zr_aload_n C (zo_42 (p := 1093) (zby_w zwL_law_34 5 rfl)) rfl ?_
  refine zr_iload_n C (zo_29 (p := 1094) (zby_w zwL_law_34 6 rfl)) rfl ?_
  refine zr_iconst C (5 : Int32) (zo_8 (p := 1095) (zby_w zwL_law_34 7 rfl)) (by decide) ?_
  refine zr_iadd C (zo_96 (p := 1096) (zby_w zwL_law_34 8 rfl)) ?_
  refine zr_sld C hX hbl hbA hi5 (zo_46 (p := 1097) (zby_w zwL_law_34 9 rfl)) ?_
  refine zr_clp (zr_runV (As := [.int (xs (v3 + (1 : Int32)).toNatClampNeg), .int (xs (v3 + (2 : Int32)).toNatClampNeg), .int (xs (v3 + (3 : Int32)).toNatClampNeg), .int (xs (v3 + (4 : Int32)).toNatClampNeg), .int (xs (v3 + (5 : Int32)).toNatClampNeg)]) (rest := [.long r1]) C vw_L_131 (c_X9_often l g (xs (v3 + (1 : Int32)).toNatClampNeg) (xs (v3 + (2 : Int32)).toNatClampNeg) (xs (v3 + (3 : Int32)).toNatClampNeg) (xs (v3 + (4 : Int32)).toNatClampNeg) (xs (v3 + (5 : Int32)).toNatClampNeg) σ _ h) (sh_69) rfl (by decide) (by decide) rfl rfl (Nat.le_of_ble_eq_true rfl) (zo_182 (p := 1098) (k := 131) (a := 0) (b := 131) (zby_w zwL_law_34 10 rfl) (zby_w zwL_law_34 11 rfl) (zby_w zwL_law_34 12 rfl) (by decide))) (fun r3 h => ?_)
  refine zr_lcmp C (zo_148 (p := 1101) (zby_w zwL_law_34 13 rfl)) ?_
  refine zr_if_eq C 1311 (zo_153 (p := 1102) (k := 209) (a := 0) (b := 209) (zby_w zwL_law_34 14 rfl) (zby_w zwL_law_34 15 rfl) (zby_w zwL_law_34 16 rfl) (by decide)) (by decide) (fun hc5 => ?_) (fun hc5 => ?_)
  · rw [if_pos hc5] at h
    exact zr_pick [0, 1, 2, 3] rfl (hK σ h)
  · rw [if_neg hc5] at h
    exact h.elim
def wL_28 (a1 a2 a3 a4 a5 : Int32) (σ : zST) (K : zST → Prop) : Prop := wp_X8_roll a1 a2 σ (fun r1 σ2 => wp_X9_roll a1 a2 σ2 (fun r3 σ4 => K σ4))
set_option maxRecDepth 100000 in
set_option maxHeartbeats 4000000 in
theorem gL_28 {p : Program} {l : Launch} {e : Env} {R : Room} {s : State} {m : MethodId} {args : Array Value} {below : List Frame} {meth : Method} {c : Code} {Q : State → Prop} {g : zG} {n1 n2 : Nat} (C : zCX p R s m args meth c g n1 n2 cL_law 4 RL 7 164) {b L : Nat} {xs : Nat → Int32} (hX : va_X b L xs s s.heap) (hbl : b < s.heap.size) (hbA : ¬ zA g b) {v3 : Int32} (hi0 : vp_in v3 L) (hi1 : vp_in (v3 + 1) L) (hi2 : vp_in (v3 + 2) L) (hi3 : vp_in (v3 + 3) L) (hi4 : vp_in (v3 + 4) L) (hi5 : vp_in (v3 + 5) L) {σ : zST} {K : zST → Prop} (hK : ∀ σ : zST, K σ → zGG p l e R s m args below meth c Q g n1 n2 4 1311 [(0, .ref b), (1, .ref (g.2.1 0)), (2, .ref (g.2.1 69)), (3, .int v3)] [] σ) (h : wL_28 (xs (v3 + (1 : Int32)).toNatClampNeg) (xs (v3 + (2 : Int32)).toNatClampNeg) (xs (v3 + (3 : Int32)).toNatClampNeg) (xs (v3 + (4 : Int32)).toNatClampNeg) (xs (v3 + (5 : Int32)).toNatClampNeg) σ K) : zGG p l e R s m args below meth c Q g n1 n2 4 1107 [(0, .ref b), (1, .ref (g.2.1 0)), (2, .ref (g.2.1 69)), (3, .int v3)] [] σ := by
  unfold wL_28 at h
  refine zr_aload_n C (zo_43 (p := 1107) (zby_w zwL_law_34 19 rfl)) rfl ?_
  refine zr_aload_n C (zo_42 (p := 1108) (zby_w zwL_law_34 20 rfl)) rfl ?_
  refine zr_iload_n C (zo_29 (p := 1109) (zby_w zwL_law_34 21 rfl)) rfl ?_
  refine zr_iconst C (1 : Int32) (zo_4 (p := 1110) (zby_w zwL_law_34 22 rfl)) (by decide) ?_
  refine zr_iadd C (zo_96 (p := 1111) (zby_w zwL_law_34 23 rfl)) ?_
  refine zr_sld C hX hbl hbA hi1 (zo_46 (p := 1112) (zby_w zwL_law_34 24 rfl)) ?_
  refine zr_aload_n C (zo_42 (p := 1113) (zby_w zwL_law_34 25 rfl)) rfl ?_
  refine zr_iload_n C (zo_29 (p := 1114) (zby_w zwL_law_34 26 rfl)) rfl ?_
  refine zr_iconst C (2 : Int32) (zo_5 (p := 1115) (zby_w zwL_law_34 27 rfl)) (by decide) ?_
  refine zr_iadd C (zo_96 (p := 1116) (zby_w zwL_law_34 28 rfl)) ?_
  refine zr_sld C hX hbl hbA hi2 (zo_46 (p := 1117) (zby_w zwL_law_34 29 rfl)) ?_
  refine zr_ci (zr_runV (As := [.int (xs (v3 + (1 : Int32)).toNatClampNeg), .int (xs (v3 + (2 : Int32)).toNatClampNeg)]) (rest := []) C vw_L_132 (c_X8_roll l g (xs (v3 + (1 : Int32)).toNatClampNeg) (xs (v3 + (2 : Int32)).toNatClampNeg) σ _ h) (sh_0) rfl (by decide) (by decide) rfl rfl (Nat.le_of_ble_eq_true rfl) (zo_182 (p := 1118) (k := 132) (a := 0) (b := 132) (zby_w zwL_law_34 30 rfl) (zby_w zwL_law_34 31 rfl) (zby_w zwL_law_34 32 rfl) (by decide))) (fun r1 σ2 h => ?_)
  refine zr_pop C (zo_87 (p := 1121) (zby_w zwL_law_35 1 rfl)) rfl ?_
  refine zr_aload_n C (zo_44 (p := 1122) (zby_w zwL_law_35 2 rfl)) rfl ?_
  refine zr_aload_n C (zo_42 (p := 1123) (zby_w zwL_law_35 3 rfl)) rfl ?_
  refine zr_iload_n C (zo_29 (p := 1124) (zby_w zwL_law_35 4 rfl)) rfl ?_
  refine zr_iconst C (1 : Int32) (zo_4 (p := 1125) (zby_w zwL_law_35 5 rfl)) (by decide) ?_
  refine zr_iadd C (zo_96 (p := 1126) (zby_w zwL_law_35 6 rfl)) ?_
  refine zr_sld C hX hbl hbA hi1 (zo_46 (p := 1127) (zby_w zwL_law_35 7 rfl)) ?_
  refine zr_aload_n C (zo_42 (p := 1128) (zby_w zwL_law_35 8 rfl)) rfl ?_
  refine zr_iload_n C (zo_29 (p := 1129) (zby_w zwL_law_35 9 rfl)) rfl ?_
  refine zr_iconst C (2 : Int32) (zo_5 (p := 1130) (zby_w zwL_law_35 10 rfl)) (by decide) ?_
  refine zr_iadd C (zo_96 (p := 1131) (zby_w zwL_law_35 11 rfl)) ?_
  refine zr_sld C hX hbl hbA hi2 (zo_46 (p := 1132) (zby_w zwL_law_35 12 rfl)) ?_
  refine zr_ci (zr_runV (As := [.int (xs (v3 + (1 : Int32)).toNatClampNeg), .int (xs (v3 + (2 : Int32)).toNatClampNeg)]) (rest := []) C vw_L_135 (c_X9_roll l g (xs (v3 + (1 : Int32)).toNatClampNeg) (xs (v3 + (2 : Int32)).toNatClampNeg) σ2 _ h) (sh_69) rfl (by decide) (by decide) rfl rfl (Nat.le_of_ble_eq_true rfl) (zo_182 (p := 1133) (k := 135) (a := 0) (b := 135) (zby_w zwL_law_35 13 rfl) (zby_w zwL_law_35 14 rfl) (zby_w zwL_law_35 15 rfl) (by decide))) (fun r3 σ4 h => ?_)
  refine zr_pop C (zo_87 (p := 1136) (zby_w zwL_law_35 16 rfl)) rfl ?_
  refine zr_goto C 1311 (zo_167 (p := 1137) (k := 174) (a := 0) (b := 174) (zby_w zwL_law_35 17 rfl) (zby_w zwL_law_35 18 rfl) (zby_w zwL_law_35 19 rfl) (by decide)) (by decide) ?_
  exact zr_pick [0, 1, 2, 3] rfl (hK σ4 h)
def wL_29 (a1 a2 a3 a4 a5 : Int32) (σ : zST) (K : zST → Prop) : Prop := wp_X8_forget σ (fun r1 σ2 => wp_X9_forget σ2 (fun r3 σ4 => K σ4))
set_option maxRecDepth 100000 in
set_option maxHeartbeats 4000000 in
theorem gL_29 {p : Program} {l : Launch} {e : Env} {R : Room} {s : State} {m : MethodId} {args : Array Value} {below : List Frame} {meth : Method} {c : Code} {Q : State → Prop} {g : zG} {n1 n2 : Nat} (C : zCX p R s m args meth c g n1 n2 cL_law 4 RL 7 164) {b L : Nat} {xs : Nat → Int32} (hX : va_X b L xs s s.heap) (hbl : b < s.heap.size) (hbA : ¬ zA g b) {v3 : Int32} (hi0 : vp_in v3 L) (hi1 : vp_in (v3 + 1) L) (hi2 : vp_in (v3 + 2) L) (hi3 : vp_in (v3 + 3) L) (hi4 : vp_in (v3 + 4) L) (hi5 : vp_in (v3 + 5) L) {σ : zST} {K : zST → Prop} (hK : ∀ σ : zST, K σ → zGG p l e R s m args below meth c Q g n1 n2 4 1311 [(0, .ref b), (1, .ref (g.2.1 0)), (2, .ref (g.2.1 69)), (3, .int v3)] [] σ) (h : wL_29 (xs (v3 + (1 : Int32)).toNatClampNeg) (xs (v3 + (2 : Int32)).toNatClampNeg) (xs (v3 + (3 : Int32)).toNatClampNeg) (xs (v3 + (4 : Int32)).toNatClampNeg) (xs (v3 + (5 : Int32)).toNatClampNeg) σ K) : zGG p l e R s m args below meth c Q g n1 n2 4 1140 [(0, .ref b), (1, .ref (g.2.1 0)), (2, .ref (g.2.1 69)), (3, .int v3)] [] σ := by
  unfold wL_29 at h
  refine zr_aload_n C (zo_43 (p := 1140) (zby_w zwL_law_35 20 rfl)) rfl ?_
  refine zr_ci (zr_runV (As := []) (rest := []) C vw_L_136 (c_X8_forget l g σ _ h) (sh_0) rfl (by decide) (by decide) rfl rfl (Nat.le_of_ble_eq_true rfl) (zo_182 (p := 1141) (k := 136) (a := 0) (b := 136) (zby_w zwL_law_35 21 rfl) (zby_w zwL_law_35 22 rfl) (zby_w zwL_law_35 23 rfl) (by decide))) (fun r1 σ2 h => ?_)
  refine zr_pop C (zo_87 (p := 1144) (zby_w zwL_law_35 24 rfl)) rfl ?_
  refine zr_aload_n C (zo_44 (p := 1145) (zby_w zwL_law_35 25 rfl)) rfl ?_
  refine zr_ci (zr_runV (As := []) (rest := []) C vw_L_139 (c_X9_forget l g σ2 _ h) (sh_69) rfl (by decide) (by decide) rfl rfl (Nat.le_of_ble_eq_true rfl) (zo_182 (p := 1146) (k := 139) (a := 0) (b := 139) (zby_w zwL_law_35 26 rfl) (zby_w zwL_law_35 27 rfl) (zby_w zwL_law_35 28 rfl) (by decide))) (fun r3 σ4 h => ?_)
  refine zr_pop C (zo_87 (p := 1149) (zby_w zwL_law_35 29 rfl)) rfl ?_
  refine zr_goto C 1311 (zo_167 (p := 1150) (k := 161) (a := 0) (b := 161) (zby_w zwL_law_35 30 rfl) (zby_w zwL_law_35 31 rfl) (zby_w zwL_law_35 32 rfl) (by decide)) (by decide) ?_
  exact zr_pick [0, 1, 2, 3] rfl (hK σ4 h)
def wL_30 (a1 a2 a3 a4 a5 : Int32) (σ : zST) (K : zST → Prop) : Prop := wp_X8_twice a1 σ (fun r1 => wp_X9_twice a1 σ (fun r3 => K σ))
set_option maxRecDepth 100000 in
set_option maxHeartbeats 4000000 in
theorem gL_30 {p : Program} {l : Launch} {e : Env} {R : Room} {s : State} {m : MethodId} {args : Array Value} {below : List Frame} {meth : Method} {c : Code} {Q : State → Prop} {g : zG} {n1 n2 : Nat} (C : zCX p R s m args meth c g n1 n2 cL_law 4 RL 7 164) {b L : Nat} {xs : Nat → Int32} (hX : va_X b L xs s s.heap) (hbl : b < s.heap.size) (hbA : ¬ zA g b) {v3 : Int32} (hi0 : vp_in v3 L) (hi1 : vp_in (v3 + 1) L) (hi2 : vp_in (v3 + 2) L) (hi3 : vp_in (v3 + 3) L) (hi4 : vp_in (v3 + 4) L) (hi5 : vp_in (v3 + 5) L) {σ : zST} {K : zST → Prop} (hK : ∀ σ : zST, K σ → zGG p l e R s m args below meth c Q g n1 n2 4 1311 [(0, .ref b), (1, .ref (g.2.1 0)), (2, .ref (g.2.1 69)), (3, .int v3)] [] σ) (h : wL_30 (xs (v3 + (1 : Int32)).toNatClampNeg) (xs (v3 + (2 : Int32)).toNatClampNeg) (xs (v3 + (3 : Int32)).toNatClampNeg) (xs (v3 + (4 : Int32)).toNatClampNeg) (xs (v3 + (5 : Int32)).toNatClampNeg) σ K) : zGG p l e R s m args below meth c Q g n1 n2 4 1153 [(0, .ref b), (1, .ref (g.2.1 0)), (2, .ref (g.2.1 69)), (3, .int v3)] [] σ := by
  unfold wL_30 at h
  refine zr_aload_n C (zo_43 (p := 1153) (zby_w zwL_law_36 1 rfl)) rfl ?_
  refine zr_aload_n C (zo_42 (p := 1154) (zby_w zwL_law_36 2 rfl)) rfl ?_
  refine zr_iload_n C (zo_29 (p := 1155) (zby_w zwL_law_36 3 rfl)) rfl ?_
  refine zr_iconst C (1 : Int32) (zo_4 (p := 1156) (zby_w zwL_law_36 4 rfl)) (by decide) ?_
  refine zr_iadd C (zo_96 (p := 1157) (zby_w zwL_law_36 5 rfl)) ?_
  refine zr_sld C hX hbl hbA hi1 (zo_46 (p := 1158) (zby_w zwL_law_36 6 rfl)) ?_
  refine zr_cip (zr_runV (As := [.int (xs (v3 + (1 : Int32)).toNatClampNeg)]) (rest := []) C vw_L_140 (c_X8_twice l g (xs (v3 + (1 : Int32)).toNatClampNeg) σ _ h) (sh_0) rfl (by decide) (by decide) rfl rfl (Nat.le_of_ble_eq_true rfl) (zo_182 (p := 1159) (k := 140) (a := 0) (b := 140) (zby_w zwL_law_36 7 rfl) (zby_w zwL_law_36 8 rfl) (zby_w zwL_law_36 9 rfl) (by decide))) (fun r1 h => ?_)
  refine zr_pop C (zo_87 (p := 1162) (zby_w zwL_law_36 10 rfl)) rfl ?_
  refine zr_aload_n C (zo_44 (p := 1163) (zby_w zwL_law_36 11 rfl)) rfl ?_
  refine zr_aload_n C (zo_42 (p := 1164) (zby_w zwL_law_36 12 rfl)) rfl ?_
  refine zr_iload_n C (zo_29 (p := 1165) (zby_w zwL_law_36 13 rfl)) rfl ?_
  refine zr_iconst C (1 : Int32) (zo_4 (p := 1166) (zby_w zwL_law_36 14 rfl)) (by decide) ?_
  refine zr_iadd C (zo_96 (p := 1167) (zby_w zwL_law_36 15 rfl)) ?_
  refine zr_sld C hX hbl hbA hi1 (zo_46 (p := 1168) (zby_w zwL_law_36 16 rfl)) ?_
  refine zr_cip (zr_runV (As := [.int (xs (v3 + (1 : Int32)).toNatClampNeg)]) (rest := []) C vw_L_143 (c_X9_twice l g (xs (v3 + (1 : Int32)).toNatClampNeg) σ _ h) (sh_69) rfl (by decide) (by decide) rfl rfl (Nat.le_of_ble_eq_true rfl) (zo_182 (p := 1169) (k := 143) (a := 0) (b := 143) (zby_w zwL_law_36 17 rfl) (zby_w zwL_law_36 18 rfl) (zby_w zwL_law_36 19 rfl) (by decide))) (fun r3 h => ?_)
  refine zr_pop C (zo_87 (p := 1172) (zby_w zwL_law_36 20 rfl)) rfl ?_
  refine zr_goto C 1311 (zo_167 (p := 1173) (k := 138) (a := 0) (b := 138) (zby_w zwL_law_36 21 rfl) (zby_w zwL_law_36 22 rfl) (zby_w zwL_law_36 23 rfl) (by decide)) (by decide) ?_
  exact zr_pick [0, 1, 2, 3] rfl (hK σ h)
def wL_31 (a1 a2 a3 a4 a5 : Int32) (σ : zST) (K : zST → Prop) : Prop := wp_X8_burnt σ (fun r1 => wp_X9_burnt σ (fun r3 => K σ))
set_option maxRecDepth 100000 in
set_option maxHeartbeats 4000000 in
theorem gL_31 {p : Program} {l : Launch} {e : Env} {R : Room} {s : State} {m : MethodId} {args : Array Value} {below : List Frame} {meth : Method} {c : Code} {Q : State → Prop} {g : zG} {n1 n2 : Nat} (C : zCX p R s m args meth c g n1 n2 cL_law 4 RL 7 164) {b L : Nat} {xs : Nat → Int32} (hX : va_X b L xs s s.heap) (hbl : b < s.heap.size) (hbA : ¬ zA g b) {v3 : Int32} (hi0 : vp_in v3 L) (hi1 : vp_in (v3 + 1) L) (hi2 : vp_in (v3 + 2) L) (hi3 : vp_in (v3 + 3) L) (hi4 : vp_in (v3 + 4) L) (hi5 : vp_in (v3 + 5) L) {σ : zST} {K : zST → Prop} (hK : ∀ σ : zST, K σ → zGG p l e R s m args below meth c Q g n1 n2 4 1311 [(0, .ref b), (1, .ref (g.2.1 0)), (2, .ref (g.2.1 69)), (3, .int v3)] [] σ) (h : wL_31 (xs (v3 + (1 : Int32)).toNatClampNeg) (xs (v3 + (2 : Int32)).toNatClampNeg) (xs (v3 + (3 : Int32)).toNatClampNeg) (xs (v3 + (4 : Int32)).toNatClampNeg) (xs (v3 + (5 : Int32)).toNatClampNeg) σ K) : zGG p l e R s m args below meth c Q g n1 n2 4 1176 [(0, .ref b), (1, .ref (g.2.1 0)), (2, .ref (g.2.1 69)), (3, .int v3)] [] σ := by
  unfold wL_31 at h
  refine zr_aload_n C (zo_43 (p := 1176) (zby_w zwL_law_36 24 rfl)) rfl ?_
  refine zr_clp (zr_runV (As := []) (rest := []) C vw_L_144 (c_X8_burnt l g σ _ h) (sh_0) rfl (by decide) (by decide) rfl rfl (Nat.le_of_ble_eq_true rfl) (zo_182 (p := 1177) (k := 144) (a := 0) (b := 144) (zby_w zwL_law_36 25 rfl) (zby_w zwL_law_36 26 rfl) (zby_w zwL_law_36 27 rfl) (by decide))) (fun r1 h => ?_)
  refine zr_pop2 C (zo_88 (p := 1180) (zby_w zwL_law_36 28 rfl)) rfl ?_
  refine zr_aload_n C (zo_44 (p := 1181) (zby_w zwL_law_36 29 rfl)) rfl ?_
  refine zr_clp (zr_runV (As := []) (rest := []) C vw_L_148 (c_X9_burnt l g σ _ h) (sh_69) rfl (by decide) (by decide) rfl rfl (Nat.le_of_ble_eq_true rfl) (zo_182 (p := 1182) (k := 148) (a := 0) (b := 148) (zby_w zwL_law_36 30 rfl) (zby_w zwL_law_36 31 rfl) (zby_w zwL_law_36 32 rfl) (by decide))) (fun r3 h => ?_)
  refine zr_pop2 C (zo_88 (p := 1185) (zby_w zwL_law_37 1 rfl)) rfl ?_
  refine zr_goto C 1311 (zo_167 (p := 1186) (k := 125) (a := 0) (b := 125) (zby_w zwL_law_37 2 rfl) (zby_w zwL_law_37 3 rfl) (zby_w zwL_law_37 4 rfl) (by decide)) (by decide) ?_
  exact zr_pick [0, 1, 2, 3] rfl (hK σ h)
def wL_32 (a1 a2 a3 a4 a5 : Int32) (σ : zST) (K : zST → Prop) : Prop := wp_X8_years a1 a2 a3 a4 σ (fun r1 => wp_X9_years a1 a2 a3 a4 σ (fun r3 => K σ))
set_option maxRecDepth 100000 in
set_option maxHeartbeats 4000000 in
theorem gL_32 {p : Program} {l : Launch} {e : Env} {R : Room} {s : State} {m : MethodId} {args : Array Value} {below : List Frame} {meth : Method} {c : Code} {Q : State → Prop} {g : zG} {n1 n2 : Nat} (C : zCX p R s m args meth c g n1 n2 cL_law 4 RL 7 164) {b L : Nat} {xs : Nat → Int32} (hX : va_X b L xs s s.heap) (hbl : b < s.heap.size) (hbA : ¬ zA g b) {v3 : Int32} (hi0 : vp_in v3 L) (hi1 : vp_in (v3 + 1) L) (hi2 : vp_in (v3 + 2) L) (hi3 : vp_in (v3 + 3) L) (hi4 : vp_in (v3 + 4) L) (hi5 : vp_in (v3 + 5) L) {σ : zST} {K : zST → Prop} (hK : ∀ σ : zST, K σ → zGG p l e R s m args below meth c Q g n1 n2 4 1311 [(0, .ref b), (1, .ref (g.2.1 0)), (2, .ref (g.2.1 69)), (3, .int v3)] [] σ) (h : wL_32 (xs (v3 + (1 : Int32)).toNatClampNeg) (xs (v3 + (2 : Int32)).toNatClampNeg) (xs (v3 + (3 : Int32)).toNatClampNeg) (xs (v3 + (4 : Int32)).toNatClampNeg) (xs (v3 + (5 : Int32)).toNatClampNeg) σ K) : zGG p l e R s m args below meth c Q g n1 n2 4 1189 [(0, .ref b), (1, .ref (g.2.1 0)), (2, .ref (g.2.1 69)), (3, .int v3)] [] σ := by
  unfold wL_32 at h
  refine zr_aload_n C (zo_43 (p := 1189) (zby_w zwL_law_37 5 rfl)) rfl ?_
  refine zr_aload_n C (zo_42 (p := 1190) (zby_w zwL_law_37 6 rfl)) rfl ?_
  refine zr_iload_n C (zo_29 (p := 1191) (zby_w zwL_law_37 7 rfl)) rfl ?_
  refine zr_iconst C (1 : Int32) (zo_4 (p := 1192) (zby_w zwL_law_37 8 rfl)) (by decide) ?_
  refine zr_iadd C (zo_96 (p := 1193) (zby_w zwL_law_37 9 rfl)) ?_
  refine zr_sld C hX hbl hbA hi1 (zo_46 (p := 1194) (zby_w zwL_law_37 10 rfl)) ?_
  refine zr_aload_n C (zo_42 (p := 1195) (zby_w zwL_law_37 11 rfl)) rfl ?_
  refine zr_iload_n C (zo_29 (p := 1196) (zby_w zwL_law_37 12 rfl)) rfl ?_
  refine zr_iconst C (2 : Int32) (zo_5 (p := 1197) (zby_w zwL_law_37 13 rfl)) (by decide) ?_
  refine zr_iadd C (zo_96 (p := 1198) (zby_w zwL_law_37 14 rfl)) ?_
  refine zr_sld C hX hbl hbA hi2 (zo_46 (p := 1199) (zby_w zwL_law_37 15 rfl)) ?_
  refine zr_aload_n C (zo_42 (p := 1200) (zby_w zwL_law_37 16 rfl)) rfl ?_
  refine zr_iload_n C (zo_29 (p := 1201) (zby_w zwL_law_37 17 rfl)) rfl ?_
  refine zr_iconst C (3 : Int32) (zo_6 (p := 1202) (zby_w zwL_law_37 18 rfl)) (by decide) ?_
  refine zr_iadd C (zo_96 (p := 1203) (zby_w zwL_law_37 19 rfl)) ?_
  refine zr_sld C hX hbl hbA hi3 (zo_46 (p := 1204) (zby_w zwL_law_37 20 rfl)) ?_
  refine zr_aload_n C (zo_42 (p := 1205) (zby_w zwL_law_37 21 rfl)) rfl ?_
  refine zr_iload_n C (zo_29 (p := 1206) (zby_w zwL_law_37 22 rfl)) rfl ?_
  refine zr_iconst C (4 : Int32) (zo_7 (p := 1207) (zby_w zwL_law_37 23 rfl)) (by decide) ?_
  refine zr_iadd C (zo_96 (p := 1208) (zby_w zwL_law_37 24 rfl)) ?_
  refine zr_sld C hX hbl hbA hi4 (zo_46 (p := 1209) (zby_w zwL_law_37 25 rfl)) ?_
  refine zr_cip (zr_runV (As := [.int (xs (v3 + (1 : Int32)).toNatClampNeg), .int (xs (v3 + (2 : Int32)).toNatClampNeg), .int (xs (v3 + (3 : Int32)).toNatClampNeg), .int (xs (v3 + (4 : Int32)).toNatClampNeg)]) (rest := []) C vw_L_149 (c_X8_years l g (xs (v3 + (1 : Int32)).toNatClampNeg) (xs (v3 + (2 : Int32)).toNatClampNeg) (xs (v3 + (3 : Int32)).toNatClampNeg) (xs (v3 + (4 : Int32)).toNatClampNeg) σ _ h) (sh_0) rfl (by decide) (by decide) rfl rfl (Nat.le_of_ble_eq_true rfl) (zo_182 (p := 1210) (k := 149) (a := 0) (b := 149) (zby_w zwL_law_37 26 rfl) (zby_w zwL_law_37 27 rfl) (zby_w zwL_law_37 28 rfl) (by decide))) (fun r1 h => ?_)
  refine zr_pop C (zo_87 (p := 1213) (zby_w zwL_law_37 29 rfl)) rfl ?_
  refine zr_aload_n C (zo_44 (p := 1214) (zby_w zwL_law_37 30 rfl)) rfl ?_
  refine zr_aload_n C (zo_42 (p := 1215) (zby_w zwL_law_37 31 rfl)) rfl ?_
  refine zr_iload_n C (zo_29 (p := 1216) (zby_w zwL_law_38 0 rfl)) rfl ?_
  refine zr_iconst C (1 : Int32) (zo_4 (p := 1217) (zby_w zwL_law_38 1 rfl)) (by decide) ?_
  refine zr_iadd C (zo_96 (p := 1218) (zby_w zwL_law_38 2 rfl)) ?_
  refine zr_sld C hX hbl hbA hi1 (zo_46 (p := 1219) (zby_w zwL_law_38 3 rfl)) ?_
  refine zr_aload_n C (zo_42 (p := 1220) (zby_w zwL_law_38 4 rfl)) rfl ?_
  refine zr_iload_n C (zo_29 (p := 1221) (zby_w zwL_law_38 5 rfl)) rfl ?_
  refine zr_iconst C (2 : Int32) (zo_5 (p := 1222) (zby_w zwL_law_38 6 rfl)) (by decide) ?_
  refine zr_iadd C (zo_96 (p := 1223) (zby_w zwL_law_38 7 rfl)) ?_
  refine zr_sld C hX hbl hbA hi2 (zo_46 (p := 1224) (zby_w zwL_law_38 8 rfl)) ?_
  refine zr_aload_n C (zo_42 (p := 1225) (zby_w zwL_law_38 9 rfl)) rfl ?_
  refine zr_iload_n C (zo_29 (p := 1226) (zby_w zwL_law_38 10 rfl)) rfl ?_
  refine zr_iconst C (3 : Int32) (zo_6 (p := 1227) (zby_w zwL_law_38 11 rfl)) (by decide) ?_
  refine zr_iadd C (zo_96 (p := 1228) (zby_w zwL_law_38 12 rfl)) ?_
  refine zr_sld C hX hbl hbA hi3 (zo_46 (p := 1229) (zby_w zwL_law_38 13 rfl)) ?_
  refine zr_aload_n C (zo_42 (p := 1230) (zby_w zwL_law_38 14 rfl)) rfl ?_
  refine zr_iload_n C (zo_29 (p := 1231) (zby_w zwL_law_38 15 rfl)) rfl ?_
  refine zr_iconst C (4 : Int32) (zo_7 (p := 1232) (zby_w zwL_law_38 16 rfl)) (by decide) ?_
  refine zr_iadd C (zo_96 (p := 1233) (zby_w zwL_law_38 17 rfl)) ?_
  refine zr_sld C hX hbl hbA hi4 (zo_46 (p := 1234) (zby_w zwL_law_38 18 rfl)) ?_
  refine zr_cip (zr_runV (As := [.int (xs (v3 + (1 : Int32)).toNatClampNeg), .int (xs (v3 + (2 : Int32)).toNatClampNeg), .int (xs (v3 + (3 : Int32)).toNatClampNeg), .int (xs (v3 + (4 : Int32)).toNatClampNeg)]) (rest := []) C vw_L_152 (c_X9_years l g (xs (v3 + (1 : Int32)).toNatClampNeg) (xs (v3 + (2 : Int32)).toNatClampNeg) (xs (v3 + (3 : Int32)).toNatClampNeg) (xs (v3 + (4 : Int32)).toNatClampNeg) σ _ h) (sh_69) rfl (by decide) (by decide) rfl rfl (Nat.le_of_ble_eq_true rfl) (zo_182 (p := 1235) (k := 152) (a := 0) (b := 152) (zby_w zwL_law_38 19 rfl) (zby_w zwL_law_38 20 rfl) (zby_w zwL_law_38 21 rfl) (by decide))) (fun r3 h => ?_)
  refine zr_pop C (zo_87 (p := 1238) (zby_w zwL_law_38 22 rfl)) rfl ?_
  refine zr_goto C 1311 (zo_167 (p := 1239) (k := 72) (a := 0) (b := 72) (zby_w zwL_law_38 23 rfl) (zby_w zwL_law_38 24 rfl) (zby_w zwL_law_38 25 rfl) (by decide)) (by decide) ?_
  exact zr_pick [0, 1, 2, 3] rfl (hK σ h)
def wL_33 (a1 a2 a3 a4 a5 : Int32) (σ : zST) (K : zST → Prop) : Prop := wp_X8_image a1 σ (fun r1 σ2 => wp_X9_image a1 σ2 (fun r3 σ4 => K σ4))
set_option maxRecDepth 100000 in
set_option maxHeartbeats 4000000 in
theorem gL_33 {p : Program} {l : Launch} {e : Env} {R : Room} {s : State} {m : MethodId} {args : Array Value} {below : List Frame} {meth : Method} {c : Code} {Q : State → Prop} {g : zG} {n1 n2 : Nat} (C : zCX p R s m args meth c g n1 n2 cL_law 4 RL 7 164) {b L : Nat} {xs : Nat → Int32} (hX : va_X b L xs s s.heap) (hbl : b < s.heap.size) (hbA : ¬ zA g b) {v3 : Int32} (hi0 : vp_in v3 L) (hi1 : vp_in (v3 + 1) L) (hi2 : vp_in (v3 + 2) L) (hi3 : vp_in (v3 + 3) L) (hi4 : vp_in (v3 + 4) L) (hi5 : vp_in (v3 + 5) L) {σ : zST} {K : zST → Prop} (hK : ∀ σ : zST, K σ → zGG p l e R s m args below meth c Q g n1 n2 4 1311 [(0, .ref b), (1, .ref (g.2.1 0)), (2, .ref (g.2.1 69)), (3, .int v3)] [] σ) (h : wL_33 (xs (v3 + (1 : Int32)).toNatClampNeg) (xs (v3 + (2 : Int32)).toNatClampNeg) (xs (v3 + (3 : Int32)).toNatClampNeg) (xs (v3 + (4 : Int32)).toNatClampNeg) (xs (v3 + (5 : Int32)).toNatClampNeg) σ K) : zGG p l e R s m args below meth c Q g n1 n2 4 1242 [(0, .ref b), (1, .ref (g.2.1 0)), (2, .ref (g.2.1 69)), (3, .int v3)] [] σ := by
  unfold wL_33 at h
  refine zr_aload_n C (zo_43 (p := 1242) (zby_w zwL_law_38 26 rfl)) rfl ?_
  refine zr_aload_n C (zo_42 (p := 1243) (zby_w zwL_law_38 27 rfl)) rfl ?_
  refine zr_iload_n C (zo_29 (p := 1244) (zby_w zwL_law_38 28 rfl)) rfl ?_
  refine zr_iconst C (1 : Int32) (zo_4 (p := 1245) (zby_w zwL_law_38 29 rfl)) (by decide) ?_
  refine zr_iadd C (zo_96 (p := 1246) (zby_w zwL_law_38 30 rfl)) ?_
  refine zr_sld C hX hbl hbA hi1 (zo_46 (p := 1247) (zby_w zwL_law_38 31 rfl)) ?_
  refine zr_ci (zr_runV (As := [.int (xs (v3 + (1 : Int32)).toNatClampNeg)]) (rest := []) C vw_L_153 (c_X8_image l g (xs (v3 + (1 : Int32)).toNatClampNeg) σ _ h) (sh_0) rfl (by decide) (by decide) rfl rfl (Nat.le_of_ble_eq_true rfl) (zo_182 (p := 1248) (k := 153) (a := 0) (b := 153) (zby_w zwL_law_39 0 rfl) (zby_w zwL_law_39 1 rfl) (zby_w zwL_law_39 2 rfl) (by decide))) (fun r1 σ2 h => ?_)
  refine zr_pop C (zo_87 (p := 1251) (zby_w zwL_law_39 3 rfl)) rfl ?_
  refine zr_aload_n C (zo_44 (p := 1252) (zby_w zwL_law_39 4 rfl)) rfl ?_
  refine zr_aload_n C (zo_42 (p := 1253) (zby_w zwL_law_39 5 rfl)) rfl ?_
  refine zr_iload_n C (zo_29 (p := 1254) (zby_w zwL_law_39 6 rfl)) rfl ?_
  refine zr_iconst C (1 : Int32) (zo_4 (p := 1255) (zby_w zwL_law_39 7 rfl)) (by decide) ?_
  refine zr_iadd C (zo_96 (p := 1256) (zby_w zwL_law_39 8 rfl)) ?_
  refine zr_sld C hX hbl hbA hi1 (zo_46 (p := 1257) (zby_w zwL_law_39 9 rfl)) ?_
  refine zr_ci (zr_runV (As := [.int (xs (v3 + (1 : Int32)).toNatClampNeg)]) (rest := []) C vw_L_156 (c_X9_image l g (xs (v3 + (1 : Int32)).toNatClampNeg) σ2 _ h) (sh_69) rfl (by decide) (by decide) rfl rfl (Nat.le_of_ble_eq_true rfl) (zo_182 (p := 1258) (k := 156) (a := 0) (b := 156) (zby_w zwL_law_39 10 rfl) (zby_w zwL_law_39 11 rfl) (zby_w zwL_law_39 12 rfl) (by decide))) (fun r3 σ4 h => ?_)
  refine zr_pop C (zo_87 (p := 1261) (zby_w zwL_law_39 13 rfl)) rfl ?_
  refine zr_goto C 1311 (zo_167 (p := 1262) (k := 49) (a := 0) (b := 49) (zby_w zwL_law_39 14 rfl) (zby_w zwL_law_39 15 rfl) (zby_w zwL_law_39 16 rfl) (by decide)) (by decide) ?_
  exact zr_pick [0, 1, 2, 3] rfl (hK σ4 h)
def wL_34 (a1 a2 a3 a4 a5 : Int32) (σ : zST) (K : zST → Prop) : Prop := wp_X8_restore a1 σ (fun r1 σ2 => wp_X9_restore a1 σ2 (fun r3 σ4 => K σ4))
set_option maxRecDepth 100000 in
set_option maxHeartbeats 4000000 in
theorem gL_34 {p : Program} {l : Launch} {e : Env} {R : Room} {s : State} {m : MethodId} {args : Array Value} {below : List Frame} {meth : Method} {c : Code} {Q : State → Prop} {g : zG} {n1 n2 : Nat} (C : zCX p R s m args meth c g n1 n2 cL_law 4 RL 7 164) {b L : Nat} {xs : Nat → Int32} (hX : va_X b L xs s s.heap) (hbl : b < s.heap.size) (hbA : ¬ zA g b) {v3 : Int32} (hi0 : vp_in v3 L) (hi1 : vp_in (v3 + 1) L) (hi2 : vp_in (v3 + 2) L) (hi3 : vp_in (v3 + 3) L) (hi4 : vp_in (v3 + 4) L) (hi5 : vp_in (v3 + 5) L) {σ : zST} {K : zST → Prop} (hK : ∀ σ : zST, K σ → zGG p l e R s m args below meth c Q g n1 n2 4 1311 [(0, .ref b), (1, .ref (g.2.1 0)), (2, .ref (g.2.1 69)), (3, .int v3)] [] σ) (h : wL_34 (xs (v3 + (1 : Int32)).toNatClampNeg) (xs (v3 + (2 : Int32)).toNatClampNeg) (xs (v3 + (3 : Int32)).toNatClampNeg) (xs (v3 + (4 : Int32)).toNatClampNeg) (xs (v3 + (5 : Int32)).toNatClampNeg) σ K) : zGG p l e R s m args below meth c Q g n1 n2 4 1265 [(0, .ref b), (1, .ref (g.2.1 0)), (2, .ref (g.2.1 69)), (3, .int v3)] [] σ := by
  unfold wL_34 at h
  refine zr_aload_n C (zo_43 (p := 1265) (zby_w zwL_law_39 17 rfl)) rfl ?_
  refine zr_aload_n C (zo_42 (p := 1266) (zby_w zwL_law_39 18 rfl)) rfl ?_
  refine zr_iload_n C (zo_29 (p := 1267) (zby_w zwL_law_39 19 rfl)) rfl ?_
  refine zr_iconst C (1 : Int32) (zo_4 (p := 1268) (zby_w zwL_law_39 20 rfl)) (by decide) ?_
  refine zr_iadd C (zo_96 (p := 1269) (zby_w zwL_law_39 21 rfl)) ?_
  refine zr_sld C hX hbl hbA hi1 (zo_46 (p := 1270) (zby_w zwL_law_39 22 rfl)) ?_
  refine zr_ci (zr_runV (As := [.int (xs (v3 + (1 : Int32)).toNatClampNeg)]) (rest := []) C vw_L_157 (c_X8_restore l g (xs (v3 + (1 : Int32)).toNatClampNeg) σ _ h) (sh_0) rfl (by decide) (by decide) rfl rfl (Nat.le_of_ble_eq_true rfl) (zo_182 (p := 1271) (k := 157) (a := 0) (b := 157) (zby_w zwL_law_39 23 rfl) (zby_w zwL_law_39 24 rfl) (zby_w zwL_law_39 25 rfl) (by decide))) (fun r1 σ2 h => ?_)
  refine zr_pop C (zo_87 (p := 1274) (zby_w zwL_law_39 26 rfl)) rfl ?_
  refine zr_aload_n C (zo_44 (p := 1275) (zby_w zwL_law_39 27 rfl)) rfl ?_
  refine zr_aload_n C (zo_42 (p := 1276) (zby_w zwL_law_39 28 rfl)) rfl ?_
  refine zr_iload_n C (zo_29 (p := 1277) (zby_w zwL_law_39 29 rfl)) rfl ?_
  refine zr_iconst C (1 : Int32) (zo_4 (p := 1278) (zby_w zwL_law_39 30 rfl)) (by decide) ?_
  refine zr_iadd C (zo_96 (p := 1279) (zby_w zwL_law_39 31 rfl)) ?_
  refine zr_sld C hX hbl hbA hi1 (zo_46 (p := 1280) (zby_w zwL_law_40 0 rfl)) ?_
  refine zr_ci (zr_runV (As := [.int (xs (v3 + (1 : Int32)).toNatClampNeg)]) (rest := []) C vw_L_160 (c_X9_restore l g (xs (v3 + (1 : Int32)).toNatClampNeg) σ2 _ h) (sh_69) rfl (by decide) (by decide) rfl rfl (Nat.le_of_ble_eq_true rfl) (zo_182 (p := 1281) (k := 160) (a := 0) (b := 160) (zby_w zwL_law_40 1 rfl) (zby_w zwL_law_40 2 rfl) (zby_w zwL_law_40 3 rfl) (by decide))) (fun r3 σ4 h => ?_)
  refine zr_pop C (zo_87 (p := 1284) (zby_w zwL_law_40 4 rfl)) rfl ?_
  refine zr_goto C 1311 (zo_167 (p := 1285) (k := 26) (a := 0) (b := 26) (zby_w zwL_law_40 5 rfl) (zby_w zwL_law_40 6 rfl) (zby_w zwL_law_40 7 rfl) (by decide)) (by decide) ?_
  exact zr_pick [0, 1, 2, 3] rfl (hK σ4 h)
def wL_35 (a1 a2 a3 a4 a5 : Int32) (σ : zST) (K : zST → Prop) : Prop := wp_X8_told a1 σ (fun r1 => wp_X9_told a1 σ (fun r3 => K σ))
set_option maxRecDepth 100000 in
set_option maxHeartbeats 4000000 in
theorem gL_35 {p : Program} {l : Launch} {e : Env} {R : Room} {s : State} {m : MethodId} {args : Array Value} {below : List Frame} {meth : Method} {c : Code} {Q : State → Prop} {g : zG} {n1 n2 : Nat} (C : zCX p R s m args meth c g n1 n2 cL_law 4 RL 7 164) {b L : Nat} {xs : Nat → Int32} (hX : va_X b L xs s s.heap) (hbl : b < s.heap.size) (hbA : ¬ zA g b) {v3 : Int32} (hi0 : vp_in v3 L) (hi1 : vp_in (v3 + 1) L) (hi2 : vp_in (v3 + 2) L) (hi3 : vp_in (v3 + 3) L) (hi4 : vp_in (v3 + 4) L) (hi5 : vp_in (v3 + 5) L) {σ : zST} {K : zST → Prop} (hK : ∀ σ : zST, K σ → zGG p l e R s m args below meth c Q g n1 n2 4 1311 [(0, .ref b), (1, .ref (g.2.1 0)), (2, .ref (g.2.1 69)), (3, .int v3)] [] σ) (h : wL_35 (xs (v3 + (1 : Int32)).toNatClampNeg) (xs (v3 + (2 : Int32)).toNatClampNeg) (xs (v3 + (3 : Int32)).toNatClampNeg) (xs (v3 + (4 : Int32)).toNatClampNeg) (xs (v3 + (5 : Int32)).toNatClampNeg) σ K) : zGG p l e R s m args below meth c Q g n1 n2 4 1288 [(0, .ref b), (1, .ref (g.2.1 0)), (2, .ref (g.2.1 69)), (3, .int v3)] [] σ := by
  unfold wL_35 at h
  refine zr_aload_n C (zo_43 (p := 1288) (zby_w zwL_law_40 8 rfl)) rfl ?_
  refine zr_aload_n C (zo_42 (p := 1289) (zby_w zwL_law_40 9 rfl)) rfl ?_
  refine zr_iload_n C (zo_29 (p := 1290) (zby_w zwL_law_40 10 rfl)) rfl ?_
  refine zr_iconst C (1 : Int32) (zo_4 (p := 1291) (zby_w zwL_law_40 11 rfl)) (by decide) ?_
  refine zr_iadd C (zo_96 (p := 1292) (zby_w zwL_law_40 12 rfl)) ?_
  refine zr_sld C hX hbl hbA hi1 (zo_46 (p := 1293) (zby_w zwL_law_40 13 rfl)) ?_
  refine zr_cip (zr_runV (As := [.int (xs (v3 + (1 : Int32)).toNatClampNeg)]) (rest := []) C vw_L_161 (c_X8_told l g (xs (v3 + (1 : Int32)).toNatClampNeg) σ _ h) (sh_0) rfl (by decide) (by decide) rfl rfl (Nat.le_of_ble_eq_true rfl) (zo_182 (p := 1294) (k := 161) (a := 0) (b := 161) (zby_w zwL_law_40 14 rfl) (zby_w zwL_law_40 15 rfl) (zby_w zwL_law_40 16 rfl) (by decide))) (fun r1 h => ?_)
  refine zr_pop C (zo_87 (p := 1297) (zby_w zwL_law_40 17 rfl)) rfl ?_
  refine zr_aload_n C (zo_44 (p := 1298) (zby_w zwL_law_40 18 rfl)) rfl ?_
  refine zr_aload_n C (zo_42 (p := 1299) (zby_w zwL_law_40 19 rfl)) rfl ?_
  refine zr_iload_n C (zo_29 (p := 1300) (zby_w zwL_law_40 20 rfl)) rfl ?_
  refine zr_iconst C (1 : Int32) (zo_4 (p := 1301) (zby_w zwL_law_40 21 rfl)) (by decide) ?_
  refine zr_iadd C (zo_96 (p := 1302) (zby_w zwL_law_40 22 rfl)) ?_
  refine zr_sld C hX hbl hbA hi1 (zo_46 (p := 1303) (zby_w zwL_law_40 23 rfl)) ?_
  refine zr_cip (zr_runV (As := [.int (xs (v3 + (1 : Int32)).toNatClampNeg)]) (rest := []) C vw_L_164 (c_X9_told l g (xs (v3 + (1 : Int32)).toNatClampNeg) σ _ h) (sh_69) rfl (by decide) (by decide) rfl rfl (Nat.le_of_ble_eq_true rfl) (zo_182 (p := 1304) (k := 164) (a := 0) (b := 164) (zby_w zwL_law_40 24 rfl) (zby_w zwL_law_40 25 rfl) (zby_w zwL_law_40 26 rfl) (by decide))) (fun r3 h => ?_)
  refine zr_pop C (zo_87 (p := 1307) (zby_w zwL_law_40 27 rfl)) rfl ?_
  refine zr_goto C 1311 (zo_167 (p := 1308) (k := 3) (a := 0) (b := 3) (zby_w zwL_law_40 28 rfl) (zby_w zwL_law_40 29 rfl) (zby_w zwL_law_40 30 rfl) (by decide)) (by decide) ?_
  exact zr_pick [0, 1, 2, 3] rfl (hK σ h)
def wLaw (x a1 a2 a3 a4 a5 : Int32) (σ : zST) (K : zST → Prop) : Prop := (if x = 0 then wL_0 a1 a2 a3 a4 a5 σ K else (if x = 1 then wL_1 a1 a2 a3 a4 a5 σ K else (if x = 2 then wL_2 a1 a2 a3 a4 a5 σ K else (if x = 3 then wL_3 a1 a2 a3 a4 a5 σ K else (if x = 4 then wL_4 a1 a2 a3 a4 a5 σ K else (if x = 5 then wL_5 a1 a2 a3 a4 a5 σ K else (if x = 6 then wL_6 a1 a2 a3 a4 a5 σ K else (if x = 7 then wL_7 a1 a2 a3 a4 a5 σ K else (if x = 8 then wL_8 a1 a2 a3 a4 a5 σ K else (if x = 9 then wL_9 a1 a2 a3 a4 a5 σ K else (if x = 10 then wL_10 a1 a2 a3 a4 a5 σ K else (if x = 11 then wL_11 a1 a2 a3 a4 a5 σ K else (if x = 12 then wL_12 a1 a2 a3 a4 a5 σ K else (if x = 13 then wL_13 a1 a2 a3 a4 a5 σ K else (if x = 14 then wL_14 a1 a2 a3 a4 a5 σ K else (if x = 15 then wL_15 a1 a2 a3 a4 a5 σ K else (if x = 16 then wL_16 a1 a2 a3 a4 a5 σ K else (if x = 17 then wL_17 a1 a2 a3 a4 a5 σ K else (if x = 18 then wL_18 a1 a2 a3 a4 a5 σ K else (if x = 19 then wL_19 a1 a2 a3 a4 a5 σ K else (if x = 20 then wL_20 a1 a2 a3 a4 a5 σ K else (if x = 21 then wL_21 a1 a2 a3 a4 a5 σ K else (if x = 22 then wL_22 a1 a2 a3 a4 a5 σ K else (if x = 23 then wL_23 a1 a2 a3 a4 a5 σ K else (if x = 24 then wL_24 a1 a2 a3 a4 a5 σ K else (if x = 25 then wL_25 a1 a2 a3 a4 a5 σ K else (if x = 26 then wL_26 a1 a2 a3 a4 a5 σ K else (if x = 27 then wL_27 a1 a2 a3 a4 a5 σ K else (if x = 28 then wL_28 a1 a2 a3 a4 a5 σ K else (if x = 29 then wL_29 a1 a2 a3 a4 a5 σ K else (if x = 30 then wL_30 a1 a2 a3 a4 a5 σ K else (if x = 31 then wL_31 a1 a2 a3 a4 a5 σ K else (if x = 32 then wL_32 a1 a2 a3 a4 a5 σ K else (if x = 33 then wL_33 a1 a2 a3 a4 a5 σ K else (if x = 34 then wL_34 a1 a2 a3 a4 a5 σ K else (if x = 35 then wL_35 a1 a2 a3 a4 a5 σ K else K σ))))))))))))))))))))))))))))))))))))
set_option maxRecDepth 100000 in
set_option maxHeartbeats 4000000 in
theorem gL_body {p : Program} {l : Launch} {e : Env} {R : Room} {s : State} {m : MethodId} {args : Array Value} {below : List Frame} {meth : Method} {c : Code} {Q : State → Prop} {g : zG} {n1 n2 : Nat} (C : zCX p R s m args meth c g n1 n2 cL_law 4 RL 7 164) {b L : Nat} {xs : Nat → Int32} (hX : va_X b L xs s s.heap) (hbl : b < s.heap.size) (hbA : ¬ zA g b) {v3 : Int32} (hi0 : vp_in v3 L) (hi1 : vp_in (v3 + 1) L) (hi2 : vp_in (v3 + 2) L) (hi3 : vp_in (v3 + 3) L) (hi4 : vp_in (v3 + 4) L) (hi5 : vp_in (v3 + 5) L) {σ : zST} {K : zST → Prop} (hK : ∀ σ : zST, K σ → zGG p l e R s m args below meth c Q g n1 n2 4 1311 [(0, .ref b), (1, .ref (g.2.1 0)), (2, .ref (g.2.1 69)), (3, .int v3)] [] σ) (h : wLaw ((xs v3.toNatClampNeg) &&& (63 : Int32)) (xs (v3 + (1 : Int32)).toNatClampNeg) (xs (v3 + (2 : Int32)).toNatClampNeg) (xs (v3 + (3 : Int32)).toNatClampNeg) (xs (v3 + (4 : Int32)).toNatClampNeg) (xs (v3 + (5 : Int32)).toNatClampNeg) σ K) : zGG p l e R s m args below meth c Q g n1 n2 4 27 [(0, .ref b), (1, .ref (g.2.1 0)), (2, .ref (g.2.1 69)), (3, .int v3)] [] σ := by
  unfold wLaw at h
  refine zr_aload_n C (zo_42 (p := 27) (zby_w zwL_law_0 27 rfl)) rfl ?_
  refine zr_iload_n C (zo_29 (p := 28) (zby_w zwL_law_0 28 rfl)) rfl ?_
  refine zr_sld C hX hbl hbA hi0 (zo_46 (p := 29) (zby_w zwL_law_0 29 rfl)) ?_
  refine zr_bipush C (63 : Int32) (zo_16 (p := 30) (k := 63) (a := 63) (zby_w zwL_law_0 30 rfl) (zby_w zwL_law_0 31 rfl) (by decide)) (by decide) ?_
  refine zr_iand C (zo_126 (p := 32) (zby_w zwL_law_1 0 rfl)) ?_
  by_cases hc0 : ((xs v3.toNatClampNeg) &&& (63 : Int32)) = 0
  · rw [if_pos hc0] at h
    refine zr_tabIn C (off := 159) 192 d_L_law_33 (by rw [hc0]; decide) (by rw [hc0]; decide) (by rw [hc0]; rfl) (by decide) ?_
    exact gL_0 C hX hbl hbA hi0 hi1 hi2 hi3 hi4 hi5 hK h
  rw [if_neg hc0] at h
  by_cases hc1 : ((xs v3.toNatClampNeg) &&& (63 : Int32)) = 1
  · rw [if_pos hc1] at h
    refine zr_tabIn C (off := 212) 245 d_L_law_33 (by rw [hc1]; decide) (by rw [hc1]; decide) (by rw [hc1]; rfl) (by decide) ?_
    exact gL_1 C hX hbl hbA hi0 hi1 hi2 hi3 hi4 hi5 hK h
  rw [if_neg hc1] at h
  by_cases hc2 : ((xs v3.toNatClampNeg) &&& (63 : Int32)) = 2
  · rw [if_pos hc2] at h
    refine zr_tabIn C (off := 235) 268 d_L_law_33 (by rw [hc2]; decide) (by rw [hc2]; decide) (by rw [hc2]; rfl) (by decide) ?_
    exact gL_2 C hX hbl hbA hi0 hi1 hi2 hi3 hi4 hi5 hK h
  rw [if_neg hc2] at h
  by_cases hc3 : ((xs v3.toNatClampNeg) &&& (63 : Int32)) = 3
  · rw [if_pos hc3] at h
    refine zr_tabIn C (off := 268) 301 d_L_law_33 (by rw [hc3]; decide) (by rw [hc3]; decide) (by rw [hc3]; rfl) (by decide) ?_
    exact gL_3 C hX hbl hbA hi0 hi1 hi2 hi3 hi4 hi5 hK h
  rw [if_neg hc3] at h
  by_cases hc4 : ((xs v3.toNatClampNeg) &&& (63 : Int32)) = 4
  · rw [if_pos hc4] at h
    refine zr_tabIn C (off := 291) 324 d_L_law_33 (by rw [hc4]; decide) (by rw [hc4]; decide) (by rw [hc4]; rfl) (by decide) ?_
    exact gL_4 C hX hbl hbA hi0 hi1 hi2 hi3 hi4 hi5 hK h
  rw [if_neg hc4] at h
  by_cases hc5 : ((xs v3.toNatClampNeg) &&& (63 : Int32)) = 5
  · rw [if_pos hc5] at h
    refine zr_tabIn C (off := 304) 337 d_L_law_33 (by rw [hc5]; decide) (by rw [hc5]; decide) (by rw [hc5]; rfl) (by decide) ?_
    exact gL_5 C hX hbl hbA hi0 hi1 hi2 hi3 hi4 hi5 hK h
  rw [if_neg hc5] at h
  by_cases hc6 : ((xs v3.toNatClampNeg) &&& (63 : Int32)) = 6
  · rw [if_pos hc6] at h
    refine zr_tabIn C (off := 327) 360 d_L_law_33 (by rw [hc6]; decide) (by rw [hc6]; decide) (by rw [hc6]; rfl) (by decide) ?_
    exact gL_6 C hX hbl hbA hi0 hi1 hi2 hi3 hi4 hi5 hK h
  rw [if_neg hc6] at h
  by_cases hc7 : ((xs v3.toNatClampNeg) &&& (63 : Int32)) = 7
  · rw [if_pos hc7] at h
    refine zr_tabIn C (off := 340) 373 d_L_law_33 (by rw [hc7]; decide) (by rw [hc7]; decide) (by rw [hc7]; rfl) (by decide) ?_
    exact gL_7 C hX hbl hbA hi0 hi1 hi2 hi3 hi4 hi5 hK h
  rw [if_neg hc7] at h
  by_cases hc8 : ((xs v3.toNatClampNeg) &&& (63 : Int32)) = 8
  · rw [if_pos hc8] at h
    refine zr_tabIn C (off := 363) 396 d_L_law_33 (by rw [hc8]; decide) (by rw [hc8]; decide) (by rw [hc8]; rfl) (by decide) ?_
    exact gL_8 C hX hbl hbA hi0 hi1 hi2 hi3 hi4 hi5 hK h
  rw [if_neg hc8] at h
  by_cases hc9 : ((xs v3.toNatClampNeg) &&& (63 : Int32)) = 9
  · rw [if_pos hc9] at h
    refine zr_tabIn C (off := 396) 429 d_L_law_33 (by rw [hc9]; decide) (by rw [hc9]; decide) (by rw [hc9]; rfl) (by decide) ?_
    exact gL_9 C hX hbl hbA hi0 hi1 hi2 hi3 hi4 hi5 hK h
  rw [if_neg hc9] at h
  by_cases hc10 : ((xs v3.toNatClampNeg) &&& (63 : Int32)) = 10
  · rw [if_pos hc10] at h
    refine zr_tabIn C (off := 429) 462 d_L_law_33 (by rw [hc10]; decide) (by rw [hc10]; decide) (by rw [hc10]; rfl) (by decide) ?_
    exact gL_10 C hX hbl hbA hi0 hi1 hi2 hi3 hi4 hi5 hK h
  rw [if_neg hc10] at h
  by_cases hc11 : ((xs v3.toNatClampNeg) &&& (63 : Int32)) = 11
  · rw [if_pos hc11] at h
    refine zr_tabIn C (off := 442) 475 d_L_law_33 (by rw [hc11]; decide) (by rw [hc11]; decide) (by rw [hc11]; rfl) (by decide) ?_
    exact gL_11 C hX hbl hbA hi0 hi1 hi2 hi3 hi4 hi5 hK h
  rw [if_neg hc11] at h
  by_cases hc12 : ((xs v3.toNatClampNeg) &&& (63 : Int32)) = 12
  · rw [if_pos hc12] at h
    refine zr_tabIn C (off := 465) 498 d_L_law_33 (by rw [hc12]; decide) (by rw [hc12]; decide) (by rw [hc12]; rfl) (by decide) ?_
    exact gL_12 C hX hbl hbA hi0 hi1 hi2 hi3 hi4 hi5 hK h
  rw [if_neg hc12] at h
  by_cases hc13 : ((xs v3.toNatClampNeg) &&& (63 : Int32)) = 13
  · rw [if_pos hc13] at h
    refine zr_tabIn C (off := 508) 541 d_L_law_33 (by rw [hc13]; decide) (by rw [hc13]; decide) (by rw [hc13]; rfl) (by decide) ?_
    exact gL_13 C hX hbl hbA hi0 hi1 hi2 hi3 hi4 hi5 hK h
  rw [if_neg hc13] at h
  by_cases hc14 : ((xs v3.toNatClampNeg) &&& (63 : Int32)) = 14
  · rw [if_pos hc14] at h
    refine zr_tabIn C (off := 551) 584 d_L_law_33 (by rw [hc14]; decide) (by rw [hc14]; decide) (by rw [hc14]; rfl) (by decide) ?_
    exact gL_14 C hX hbl hbA hi0 hi1 hi2 hi3 hi4 hi5 hK h
  rw [if_neg hc14] at h
  by_cases hc15 : ((xs v3.toNatClampNeg) &&& (63 : Int32)) = 15
  · rw [if_pos hc15] at h
    refine zr_tabIn C (off := 584) 617 d_L_law_33 (by rw [hc15]; decide) (by rw [hc15]; decide) (by rw [hc15]; rfl) (by decide) ?_
    exact gL_15 C hX hbl hbA hi0 hi1 hi2 hi3 hi4 hi5 hK h
  rw [if_neg hc15] at h
  by_cases hc16 : ((xs v3.toNatClampNeg) &&& (63 : Int32)) = 16
  · rw [if_pos hc16] at h
    refine zr_tabIn C (off := 627) 660 d_L_law_33 (by rw [hc16]; decide) (by rw [hc16]; decide) (by rw [hc16]; rfl) (by decide) ?_
    exact gL_16 C hX hbl hbA hi0 hi1 hi2 hi3 hi4 hi5 hK h
  rw [if_neg hc16] at h
  by_cases hc17 : ((xs v3.toNatClampNeg) &&& (63 : Int32)) = 17
  · rw [if_pos hc17] at h
    refine zr_tabIn C (off := 670) 703 d_L_law_33 (by rw [hc17]; decide) (by rw [hc17]; decide) (by rw [hc17]; rfl) (by decide) ?_
    exact gL_17 C hX hbl hbA hi0 hi1 hi2 hi3 hi4 hi5 hK h
  rw [if_neg hc17] at h
  by_cases hc18 : ((xs v3.toNatClampNeg) &&& (63 : Int32)) = 18
  · rw [if_pos hc18] at h
    refine zr_tabIn C (off := 713) 746 d_L_law_33 (by rw [hc18]; decide) (by rw [hc18]; decide) (by rw [hc18]; rfl) (by decide) ?_
    exact gL_18 C hX hbl hbA hi0 hi1 hi2 hi3 hi4 hi5 hK h
  rw [if_neg hc18] at h
  by_cases hc19 : ((xs v3.toNatClampNeg) &&& (63 : Int32)) = 19
  · rw [if_pos hc19] at h
    refine zr_tabIn C (off := 746) 779 d_L_law_33 (by rw [hc19]; decide) (by rw [hc19]; decide) (by rw [hc19]; rfl) (by decide) ?_
    exact gL_19 C hX hbl hbA hi0 hi1 hi2 hi3 hi4 hi5 hK h
  rw [if_neg hc19] at h
  by_cases hc20 : ((xs v3.toNatClampNeg) &&& (63 : Int32)) = 20
  · rw [if_pos hc20] at h
    refine zr_tabIn C (off := 779) 812 d_L_law_33 (by rw [hc20]; decide) (by rw [hc20]; decide) (by rw [hc20]; rfl) (by decide) ?_
    exact gL_20 C hX hbl hbA hi0 hi1 hi2 hi3 hi4 hi5 hK h
  rw [if_neg hc20] at h
  by_cases hc21 : ((xs v3.toNatClampNeg) &&& (63 : Int32)) = 21
  · rw [if_pos hc21] at h
    refine zr_tabIn C (off := 812) 845 d_L_law_33 (by rw [hc21]; decide) (by rw [hc21]; decide) (by rw [hc21]; rfl) (by decide) ?_
    exact gL_21 C hX hbl hbA hi0 hi1 hi2 hi3 hi4 hi5 hK h
  rw [if_neg hc21] at h
  by_cases hc22 : ((xs v3.toNatClampNeg) &&& (63 : Int32)) = 22
  · rw [if_pos hc22] at h
    refine zr_tabIn C (off := 855) 888 d_L_law_33 (by rw [hc22]; decide) (by rw [hc22]; decide) (by rw [hc22]; rfl) (by decide) ?_
    exact gL_22 C hX hbl hbA hi0 hi1 hi2 hi3 hi4 hi5 hK h
  rw [if_neg hc22] at h
  by_cases hc23 : ((xs v3.toNatClampNeg) &&& (63 : Int32)) = 23
  · rw [if_pos hc23] at h
    refine zr_tabIn C (off := 868) 901 d_L_law_33 (by rw [hc23]; decide) (by rw [hc23]; decide) (by rw [hc23]; rfl) (by decide) ?_
    exact gL_23 C hX hbl hbA hi0 hi1 hi2 hi3 hi4 hi5 hK h
  rw [if_neg hc23] at h
  by_cases hc24 : ((xs v3.toNatClampNeg) &&& (63 : Int32)) = 24
  · rw [if_pos hc24] at h
    refine zr_tabIn C (off := 911) 944 d_L_law_33 (by rw [hc24]; decide) (by rw [hc24]; decide) (by rw [hc24]; rfl) (by decide) ?_
    exact gL_24 C hX hbl hbA hi0 hi1 hi2 hi3 hi4 hi5 hK h
  rw [if_neg hc24] at h
  by_cases hc25 : ((xs v3.toNatClampNeg) &&& (63 : Int32)) = 25
  · rw [if_pos hc25] at h
    refine zr_tabIn C (off := 944) 977 d_L_law_33 (by rw [hc25]; decide) (by rw [hc25]; decide) (by rw [hc25]; rfl) (by decide) ?_
    exact gL_25 C hX hbl hbA hi0 hi1 hi2 hi3 hi4 hi5 hK h
  rw [if_neg hc25] at h
  by_cases hc26 : ((xs v3.toNatClampNeg) &&& (63 : Int32)) = 26
  · rw [if_pos hc26] at h
    refine zr_tabIn C (off := 967) 1000 d_L_law_33 (by rw [hc26]; decide) (by rw [hc26]; decide) (by rw [hc26]; rfl) (by decide) ?_
    exact gL_26 C hX hbl hbA hi0 hi1 hi2 hi3 hi4 hi5 hK h
  rw [if_neg hc26] at h
  by_cases hc27 : ((xs v3.toNatClampNeg) &&& (63 : Int32)) = 27
  · rw [if_pos hc27] at h
    refine zr_tabIn C (off := 1010) 1043 d_L_law_33 (by rw [hc27]; decide) (by rw [hc27]; decide) (by rw [hc27]; rfl) (by decide) ?_
    exact gL_27 C hX hbl hbA hi0 hi1 hi2 hi3 hi4 hi5 hK h
  rw [if_neg hc27] at h
  by_cases hc28 : ((xs v3.toNatClampNeg) &&& (63 : Int32)) = 28
  · rw [if_pos hc28] at h
    refine zr_tabIn C (off := 1074) 1107 d_L_law_33 (by rw [hc28]; decide) (by rw [hc28]; decide) (by rw [hc28]; rfl) (by decide) ?_
    exact gL_28 C hX hbl hbA hi0 hi1 hi2 hi3 hi4 hi5 hK h
  rw [if_neg hc28] at h
  by_cases hc29 : ((xs v3.toNatClampNeg) &&& (63 : Int32)) = 29
  · rw [if_pos hc29] at h
    refine zr_tabIn C (off := 1107) 1140 d_L_law_33 (by rw [hc29]; decide) (by rw [hc29]; decide) (by rw [hc29]; rfl) (by decide) ?_
    exact gL_29 C hX hbl hbA hi0 hi1 hi2 hi3 hi4 hi5 hK h
  rw [if_neg hc29] at h
  by_cases hc30 : ((xs v3.toNatClampNeg) &&& (63 : Int32)) = 30
  · rw [if_pos hc30] at h
    refine zr_tabIn C (off := 1120) 1153 d_L_law_33 (by rw [hc30]; decide) (by rw [hc30]; decide) (by rw [hc30]; rfl) (by decide) ?_
    exact gL_30 C hX hbl hbA hi0 hi1 hi2 hi3 hi4 hi5 hK h
  rw [if_neg hc30] at h
  by_cases hc31 : ((xs v3.toNatClampNeg) &&& (63 : Int32)) = 31
  · rw [if_pos hc31] at h
    refine zr_tabIn C (off := 1143) 1176 d_L_law_33 (by rw [hc31]; decide) (by rw [hc31]; decide) (by rw [hc31]; rfl) (by decide) ?_
    exact gL_31 C hX hbl hbA hi0 hi1 hi2 hi3 hi4 hi5 hK h
  rw [if_neg hc31] at h
  by_cases hc32 : ((xs v3.toNatClampNeg) &&& (63 : Int32)) = 32
  · rw [if_pos hc32] at h
    refine zr_tabIn C (off := 1156) 1189 d_L_law_33 (by rw [hc32]; decide) (by rw [hc32]; decide) (by rw [hc32]; rfl) (by decide) ?_
    exact gL_32 C hX hbl hbA hi0 hi1 hi2 hi3 hi4 hi5 hK h
  rw [if_neg hc32] at h
  by_cases hc33 : ((xs v3.toNatClampNeg) &&& (63 : Int32)) = 33
  · rw [if_pos hc33] at h
    refine zr_tabIn C (off := 1209) 1242 d_L_law_33 (by rw [hc33]; decide) (by rw [hc33]; decide) (by rw [hc33]; rfl) (by decide) ?_
    exact gL_33 C hX hbl hbA hi0 hi1 hi2 hi3 hi4 hi5 hK h
  rw [if_neg hc33] at h
  by_cases hc34 : ((xs v3.toNatClampNeg) &&& (63 : Int32)) = 34
  · rw [if_pos hc34] at h
    refine zr_tabIn C (off := 1232) 1265 d_L_law_33 (by rw [hc34]; decide) (by rw [hc34]; decide) (by rw [hc34]; rfl) (by decide) ?_
    exact gL_34 C hX hbl hbA hi0 hi1 hi2 hi3 hi4 hi5 hK h
  rw [if_neg hc34] at h
  by_cases hc35 : ((xs v3.toNatClampNeg) &&& (63 : Int32)) = 35
  · rw [if_pos hc35] at h
    refine zr_tabIn C (off := 1255) 1288 d_L_law_33 (by rw [hc35]; decide) (by rw [hc35]; decide) (by rw [hc35]; rfl) (by decide) ?_
    exact gL_35 C hX hbl hbA hi0 hi1 hi2 hi3 hi4 hi5 hK h
  rw [if_neg hc35] at h
  have e0 := lv_neT hc0 (show (0 : Int32).toInt = 0 by decide)
  have e1 := lv_neT hc1 (show (1 : Int32).toInt = 1 by decide)
  have e2 := lv_neT hc2 (show (2 : Int32).toInt = 2 by decide)
  have e3 := lv_neT hc3 (show (3 : Int32).toInt = 3 by decide)
  have e4 := lv_neT hc4 (show (4 : Int32).toInt = 4 by decide)
  have e5 := lv_neT hc5 (show (5 : Int32).toInt = 5 by decide)
  have e6 := lv_neT hc6 (show (6 : Int32).toInt = 6 by decide)
  have e7 := lv_neT hc7 (show (7 : Int32).toInt = 7 by decide)
  have e8 := lv_neT hc8 (show (8 : Int32).toInt = 8 by decide)
  have e9 := lv_neT hc9 (show (9 : Int32).toInt = 9 by decide)
  have e10 := lv_neT hc10 (show (10 : Int32).toInt = 10 by decide)
  have e11 := lv_neT hc11 (show (11 : Int32).toInt = 11 by decide)
  have e12 := lv_neT hc12 (show (12 : Int32).toInt = 12 by decide)
  have e13 := lv_neT hc13 (show (13 : Int32).toInt = 13 by decide)
  have e14 := lv_neT hc14 (show (14 : Int32).toInt = 14 by decide)
  have e15 := lv_neT hc15 (show (15 : Int32).toInt = 15 by decide)
  have e16 := lv_neT hc16 (show (16 : Int32).toInt = 16 by decide)
  have e17 := lv_neT hc17 (show (17 : Int32).toInt = 17 by decide)
  have e18 := lv_neT hc18 (show (18 : Int32).toInt = 18 by decide)
  have e19 := lv_neT hc19 (show (19 : Int32).toInt = 19 by decide)
  have e20 := lv_neT hc20 (show (20 : Int32).toInt = 20 by decide)
  have e21 := lv_neT hc21 (show (21 : Int32).toInt = 21 by decide)
  have e22 := lv_neT hc22 (show (22 : Int32).toInt = 22 by decide)
  have e23 := lv_neT hc23 (show (23 : Int32).toInt = 23 by decide)
  have e24 := lv_neT hc24 (show (24 : Int32).toInt = 24 by decide)
  have e25 := lv_neT hc25 (show (25 : Int32).toInt = 25 by decide)
  have e26 := lv_neT hc26 (show (26 : Int32).toInt = 26 by decide)
  have e27 := lv_neT hc27 (show (27 : Int32).toInt = 27 by decide)
  have e28 := lv_neT hc28 (show (28 : Int32).toInt = 28 by decide)
  have e29 := lv_neT hc29 (show (29 : Int32).toInt = 29 by decide)
  have e30 := lv_neT hc30 (show (30 : Int32).toInt = 30 by decide)
  have e31 := lv_neT hc31 (show (31 : Int32).toInt = 31 by decide)
  have e32 := lv_neT hc32 (show (32 : Int32).toInt = 32 by decide)
  have e33 := lv_neT hc33 (show (33 : Int32).toInt = 33 by decide)
  have e34 := lv_neT hc34 (show (34 : Int32).toInt = 34 by decide)
  have e35 := lv_neT hc35 (show (35 : Int32).toInt = 35 by decide)
  refine zr_tabOut C 1311 d_L_law_33 (by omega) (by decide) ?_
  exact hK σ h
