section ZS
variable {p : Program} {l : Launch} {e : Env} {R : Room} {s : State} {m : MethodId} {args : Array Value} {below : List Frame} {meth : Method} {c : Code} {Q : State → Prop} {g : zG} {n1 n2 nL F Lc : Nat} {cc : ByteArray} {own : String} {pc : Nat} {lv : List (Nat × Value)} {st : List Value} {σ : zST} {b L : Nat} {xs : Nat → Int32}
theorem zr_sld (C : zCX p R s m args meth c g n1 n2 cc nL own F Lc) (hX : va_X b L xs s s.heap) (hbl : b < s.heap.size) (hbA : ¬ zA g b) {i : Int32} (hin : vp_in i L) (hdg : decode cc pc = .ok (.iaload, 1)) (k : zGG p l e R s m args below meth c Q g n1 n2 nL (pc + 1) lv (.int (xs i.toNatClampNeg) :: st) σ) : zGG p l e R s m args below meth c Q g n1 n2 nL pc lv (.int i :: .ref b :: st) σ :=
  fun H locs ls hP hS hl => va_sld C.1 C.2.1 hX hbl hbA hS hin hdg (k H locs ls hP hS hl)
theorem zr_slen (C : zCX p R s m args meth c g n1 n2 cc nL own F Lc) (hX : va_X b L xs s s.heap) (hbl : b < s.heap.size) (hbA : ¬ zA g b) (hdg : decode cc pc = .ok (.arraylength, 1)) (k : zGG p l e R s m args below meth c Q g n1 n2 nL (pc + 1) lv (.int (Int32.ofNat L) :: st) σ) : zGG p l e R s m args below meth c Q g n1 n2 nL pc lv (.ref b :: st) σ :=
  fun H locs ls hP hS hl => va_slen C.1 C.2.1 hX hbl hbA hS hdg (k H locs ls hP hS hl)
end ZS
def wL_0 (a1 a2 a3 a4 a5 : Int32) (σ : zST) (K : zST → Prop) : Prop := wp_X8_ship a1 a2 a3 a4 σ (fun r1 σ2 => wp_X9_ship a1 a2 a3 a4 σ2 (fun r3 σ4 => K σ4))
set_option maxRecDepth 100000 in
set_option maxHeartbeats 4000000 in
theorem gL_0 {p : Program} {l : Launch} {e : Env} {R : Room} {s : State} {m : MethodId} {args : Array Value} {below : List Frame} {meth : Method} {c : Code} {Q : State → Prop} {g : zG} {n1 n2 : Nat} (C : zCX p R s m args meth c g n1 n2 cL_law 4 RL 7 164) {b L : Nat} {xs : Nat → Int32} (hX : va_X b L xs s s.heap) (hbl : b < s.heap.size) (hbA : ¬ zA g b) {v3 : Int32} (hi0 : vp_in v3 L) (hi1 : vp_in (v3 + 1) L) (hi2 : vp_in (v3 + 2) L) (hi3 : vp_in (v3 + 3) L) (hi4 : vp_in (v3 + 4) L) (hi5 : vp_in (v3 + 5) L) {σ : zST} {K : zST → Prop} (hK : ∀ σ : zST, K σ → zGG p l e R s m args below meth c Q g n1 n2 4 1310 [(0, .ref b), (1, .ref (g.2.1 0)), (2, .ref (g.2.1 69)), (3, .int v3)] [] σ) (h : wL_0 (xs (v3 + (1 : Int32)).toNatClampNeg) (xs (v3 + (2 : Int32)).toNatClampNeg) (xs (v3 + (3 : Int32)).toNatClampNeg) (xs (v3 + (4 : Int32)).toNatClampNeg) (xs (v3 + (5 : Int32)).toNatClampNeg) σ K) : zGG p l e R s m args below meth c Q g n1 n2 4 192 [(0, .ref b), (1, .ref (g.2.1 0)), (2, .ref (g.2.1 69)), (3, .int v3)] [] σ := by
  unfold wL_0 at h
  refine zr_aload_n C d_L_law_192 rfl ?_
  refine zr_aload_n C d_L_law_193 rfl ?_
  refine zr_iload_n C d_L_law_194 rfl ?_
  refine zr_iconst C (1 : Int32) d_L_law_195 (by decide) ?_
  refine zr_iadd C d_L_law_196 ?_
  refine zr_sld C hX hbl hbA hi1 d_L_law_197 ?_
  refine zr_aload_n C d_L_law_198 rfl ?_
  refine zr_iload_n C d_L_law_199 rfl ?_
  refine zr_iconst C (2 : Int32) d_L_law_200 (by decide) ?_
  refine zr_iadd C d_L_law_201 ?_
  refine zr_sld C hX hbl hbA hi2 d_L_law_202 ?_
  refine zr_aload_n C d_L_law_203 rfl ?_
  refine zr_iload_n C d_L_law_204 rfl ?_
  refine zr_iconst C (3 : Int32) d_L_law_205 (by decide) ?_
  refine zr_iadd C d_L_law_206 ?_
  refine zr_sld C hX hbl hbA hi3 d_L_law_207 ?_
  refine zr_aload_n C d_L_law_208 rfl ?_
  refine zr_iload_n C d_L_law_209 rfl ?_
  refine zr_iconst C (4 : Int32) d_L_law_210 (by decide) ?_
  refine zr_iadd C d_L_law_211 ?_
  refine zr_sld C hX hbl hbA hi4 d_L_law_212 ?_
  refine zr_ci (zr_runV (As := [.int (xs (v3 + (1 : Int32)).toNatClampNeg), .int (xs (v3 + (2 : Int32)).toNatClampNeg), .int (xs (v3 + (3 : Int32)).toNatClampNeg), .int (xs (v3 + (4 : Int32)).toNatClampNeg)]) (rest := []) C vw_L_13 (c_X8_ship l g (xs (v3 + (1 : Int32)).toNatClampNeg) (xs (v3 + (2 : Int32)).toNatClampNeg) (xs (v3 + (3 : Int32)).toNatClampNeg) (xs (v3 + (4 : Int32)).toNatClampNeg) σ _ h) (sh_0) rfl (by decide) (by decide) rfl rfl (Nat.le_of_ble_eq_true rfl) d_L_law_213) (fun r1 σ2 h => ?_)
  refine zr_pop C d_L_law_216 rfl ?_
  refine zr_aload_n C d_L_law_217 rfl ?_
  refine zr_aload_n C d_L_law_218 rfl ?_
  refine zr_iload_n C d_L_law_219 rfl ?_
  refine zr_iconst C (1 : Int32) d_L_law_220 (by decide) ?_
  refine zr_iadd C d_L_law_221 ?_
  refine zr_sld C hX hbl hbA hi1 d_L_law_222 ?_
  refine zr_aload_n C d_L_law_223 rfl ?_
  refine zr_iload_n C d_L_law_224 rfl ?_
  refine zr_iconst C (2 : Int32) d_L_law_225 (by decide) ?_
  refine zr_iadd C d_L_law_226 ?_
  refine zr_sld C hX hbl hbA hi2 d_L_law_227 ?_
  refine zr_aload_n C d_L_law_228 rfl ?_
  refine zr_iload_n C d_L_law_229 rfl ?_
  refine zr_iconst C (3 : Int32) d_L_law_230 (by decide) ?_
  refine zr_iadd C d_L_law_231 ?_
  refine zr_sld C hX hbl hbA hi3 d_L_law_232 ?_
  refine zr_aload_n C d_L_law_233 rfl ?_
  refine zr_iload_n C d_L_law_234 rfl ?_
  refine zr_iconst C (4 : Int32) d_L_law_235 (by decide) ?_
  refine zr_iadd C d_L_law_236 ?_
  refine zr_sld C hX hbl hbA hi4 d_L_law_237 ?_
  refine zr_ci (zr_runV (As := [.int (xs (v3 + (1 : Int32)).toNatClampNeg), .int (xs (v3 + (2 : Int32)).toNatClampNeg), .int (xs (v3 + (3 : Int32)).toNatClampNeg), .int (xs (v3 + (4 : Int32)).toNatClampNeg)]) (rest := []) C vw_L_17 (c_X9_ship l g (xs (v3 + (1 : Int32)).toNatClampNeg) (xs (v3 + (2 : Int32)).toNatClampNeg) (xs (v3 + (3 : Int32)).toNatClampNeg) (xs (v3 + (4 : Int32)).toNatClampNeg) σ2 _ h) (sh_69) rfl (by decide) (by decide) rfl rfl (Nat.le_of_ble_eq_true rfl) d_L_law_238) (fun r3 σ4 h => ?_)
  refine zr_pop C d_L_law_241 rfl ?_
  refine zr_goto C 1310 d_L_law_242 (by decide) ?_
  exact zr_pick [0, 1, 2, 3] rfl (hK σ4 h)
def wL_1 (a1 a2 a3 a4 a5 : Int32) (σ : zST) (K : zST → Prop) : Prop := wp_X8_scrap a1 σ (fun r1 σ2 => wp_X9_scrap a1 σ2 (fun r3 σ4 => K σ4))
set_option maxRecDepth 100000 in
set_option maxHeartbeats 4000000 in
theorem gL_1 {p : Program} {l : Launch} {e : Env} {R : Room} {s : State} {m : MethodId} {args : Array Value} {below : List Frame} {meth : Method} {c : Code} {Q : State → Prop} {g : zG} {n1 n2 : Nat} (C : zCX p R s m args meth c g n1 n2 cL_law 4 RL 7 164) {b L : Nat} {xs : Nat → Int32} (hX : va_X b L xs s s.heap) (hbl : b < s.heap.size) (hbA : ¬ zA g b) {v3 : Int32} (hi0 : vp_in v3 L) (hi1 : vp_in (v3 + 1) L) (hi2 : vp_in (v3 + 2) L) (hi3 : vp_in (v3 + 3) L) (hi4 : vp_in (v3 + 4) L) (hi5 : vp_in (v3 + 5) L) {σ : zST} {K : zST → Prop} (hK : ∀ σ : zST, K σ → zGG p l e R s m args below meth c Q g n1 n2 4 1310 [(0, .ref b), (1, .ref (g.2.1 0)), (2, .ref (g.2.1 69)), (3, .int v3)] [] σ) (h : wL_1 (xs (v3 + (1 : Int32)).toNatClampNeg) (xs (v3 + (2 : Int32)).toNatClampNeg) (xs (v3 + (3 : Int32)).toNatClampNeg) (xs (v3 + (4 : Int32)).toNatClampNeg) (xs (v3 + (5 : Int32)).toNatClampNeg) σ K) : zGG p l e R s m args below meth c Q g n1 n2 4 245 [(0, .ref b), (1, .ref (g.2.1 0)), (2, .ref (g.2.1 69)), (3, .int v3)] [] σ := by
  unfold wL_1 at h
  refine zr_aload_n C d_L_law_245 rfl ?_
  refine zr_aload_n C d_L_law_246 rfl ?_
  refine zr_iload_n C d_L_law_247 rfl ?_
  refine zr_iconst C (1 : Int32) d_L_law_248 (by decide) ?_
  refine zr_iadd C d_L_law_249 ?_
  refine zr_sld C hX hbl hbA hi1 d_L_law_250 ?_
  refine zr_ci (zr_runV (As := [.int (xs (v3 + (1 : Int32)).toNatClampNeg)]) (rest := []) C vw_L_18 (c_X8_scrap l g (xs (v3 + (1 : Int32)).toNatClampNeg) σ _ h) (sh_0) rfl (by decide) (by decide) rfl rfl (Nat.le_of_ble_eq_true rfl) d_L_law_251) (fun r1 σ2 h => ?_)
  refine zr_pop C d_L_law_254 rfl ?_
  refine zr_aload_n C d_L_law_255 rfl ?_
  refine zr_aload_n C d_L_law_256 rfl ?_
  refine zr_iload_n C d_L_law_257 rfl ?_
  refine zr_iconst C (1 : Int32) d_L_law_258 (by decide) ?_
  refine zr_iadd C d_L_law_259 ?_
  refine zr_sld C hX hbl hbA hi1 d_L_law_260 ?_
  refine zr_ci (zr_runV (As := [.int (xs (v3 + (1 : Int32)).toNatClampNeg)]) (rest := []) C vw_L_22 (c_X9_scrap l g (xs (v3 + (1 : Int32)).toNatClampNeg) σ2 _ h) (sh_69) rfl (by decide) (by decide) rfl rfl (Nat.le_of_ble_eq_true rfl) d_L_law_261) (fun r3 σ4 h => ?_)
  refine zr_pop C d_L_law_264 rfl ?_
  refine zr_goto C 1310 d_L_law_265 (by decide) ?_
  exact zr_pick [0, 1, 2, 3] rfl (hK σ4 h)
def wL_2 (a1 a2 a3 a4 a5 : Int32) (σ : zST) (K : zST → Prop) : Prop := wp_X8_set a1 a2 σ (fun r1 σ2 => wp_X9_set a1 a2 σ2 (fun r3 σ4 => K σ4))
set_option maxRecDepth 100000 in
set_option maxHeartbeats 4000000 in
theorem gL_2 {p : Program} {l : Launch} {e : Env} {R : Room} {s : State} {m : MethodId} {args : Array Value} {below : List Frame} {meth : Method} {c : Code} {Q : State → Prop} {g : zG} {n1 n2 : Nat} (C : zCX p R s m args meth c g n1 n2 cL_law 4 RL 7 164) {b L : Nat} {xs : Nat → Int32} (hX : va_X b L xs s s.heap) (hbl : b < s.heap.size) (hbA : ¬ zA g b) {v3 : Int32} (hi0 : vp_in v3 L) (hi1 : vp_in (v3 + 1) L) (hi2 : vp_in (v3 + 2) L) (hi3 : vp_in (v3 + 3) L) (hi4 : vp_in (v3 + 4) L) (hi5 : vp_in (v3 + 5) L) {σ : zST} {K : zST → Prop} (hK : ∀ σ : zST, K σ → zGG p l e R s m args below meth c Q g n1 n2 4 1310 [(0, .ref b), (1, .ref (g.2.1 0)), (2, .ref (g.2.1 69)), (3, .int v3)] [] σ) (h : wL_2 (xs (v3 + (1 : Int32)).toNatClampNeg) (xs (v3 + (2 : Int32)).toNatClampNeg) (xs (v3 + (3 : Int32)).toNatClampNeg) (xs (v3 + (4 : Int32)).toNatClampNeg) (xs (v3 + (5 : Int32)).toNatClampNeg) σ K) : zGG p l e R s m args below meth c Q g n1 n2 4 268 [(0, .ref b), (1, .ref (g.2.1 0)), (2, .ref (g.2.1 69)), (3, .int v3)] [] σ := by
  unfold wL_2 at h
  refine zr_aload_n C d_L_law_268 rfl ?_
  refine zr_aload_n C d_L_law_269 rfl ?_
  refine zr_iload_n C d_L_law_270 rfl ?_
  refine zr_iconst C (1 : Int32) d_L_law_271 (by decide) ?_
  refine zr_iadd C d_L_law_272 ?_
  refine zr_sld C hX hbl hbA hi1 d_L_law_273 ?_
  refine zr_aload_n C d_L_law_274 rfl ?_
  refine zr_iload_n C d_L_law_275 rfl ?_
  refine zr_iconst C (2 : Int32) d_L_law_276 (by decide) ?_
  refine zr_iadd C d_L_law_277 ?_
  refine zr_sld C hX hbl hbA hi2 d_L_law_278 ?_
  refine zr_ci (zr_runV (As := [.int (xs (v3 + (1 : Int32)).toNatClampNeg), .int (xs (v3 + (2 : Int32)).toNatClampNeg)]) (rest := []) C vw_L_23 (c_X8_set l g (xs (v3 + (1 : Int32)).toNatClampNeg) (xs (v3 + (2 : Int32)).toNatClampNeg) σ _ h) (sh_0) rfl (by decide) (by decide) rfl rfl (Nat.le_of_ble_eq_true rfl) d_L_law_279) (fun r1 σ2 h => ?_)
  refine zr_pop C d_L_law_282 rfl ?_
  refine zr_aload_n C d_L_law_283 rfl ?_
  refine zr_aload_n C d_L_law_284 rfl ?_
  refine zr_iload_n C d_L_law_285 rfl ?_
  refine zr_iconst C (1 : Int32) d_L_law_286 (by decide) ?_
  refine zr_iadd C d_L_law_287 ?_
  refine zr_sld C hX hbl hbA hi1 d_L_law_288 ?_
  refine zr_aload_n C d_L_law_289 rfl ?_
  refine zr_iload_n C d_L_law_290 rfl ?_
  refine zr_iconst C (2 : Int32) d_L_law_291 (by decide) ?_
  refine zr_iadd C d_L_law_292 ?_
  refine zr_sld C hX hbl hbA hi2 d_L_law_293 ?_
  refine zr_ci (zr_runV (As := [.int (xs (v3 + (1 : Int32)).toNatClampNeg), .int (xs (v3 + (2 : Int32)).toNatClampNeg)]) (rest := []) C vw_L_27 (c_X9_set l g (xs (v3 + (1 : Int32)).toNatClampNeg) (xs (v3 + (2 : Int32)).toNatClampNeg) σ2 _ h) (sh_69) rfl (by decide) (by decide) rfl rfl (Nat.le_of_ble_eq_true rfl) d_L_law_294) (fun r3 σ4 h => ?_)
  refine zr_pop C d_L_law_297 rfl ?_
  refine zr_goto C 1310 d_L_law_298 (by decide) ?_
  exact zr_pick [0, 1, 2, 3] rfl (hK σ4 h)
def wL_3 (a1 a2 a3 a4 a5 : Int32) (σ : zST) (K : zST → Prop) : Prop := wp_X8_say a1 σ (fun r1 σ2 => wp_X9_say a1 σ2 (fun r3 σ4 => K σ4))
set_option maxRecDepth 100000 in
set_option maxHeartbeats 4000000 in
theorem gL_3 {p : Program} {l : Launch} {e : Env} {R : Room} {s : State} {m : MethodId} {args : Array Value} {below : List Frame} {meth : Method} {c : Code} {Q : State → Prop} {g : zG} {n1 n2 : Nat} (C : zCX p R s m args meth c g n1 n2 cL_law 4 RL 7 164) {b L : Nat} {xs : Nat → Int32} (hX : va_X b L xs s s.heap) (hbl : b < s.heap.size) (hbA : ¬ zA g b) {v3 : Int32} (hi0 : vp_in v3 L) (hi1 : vp_in (v3 + 1) L) (hi2 : vp_in (v3 + 2) L) (hi3 : vp_in (v3 + 3) L) (hi4 : vp_in (v3 + 4) L) (hi5 : vp_in (v3 + 5) L) {σ : zST} {K : zST → Prop} (hK : ∀ σ : zST, K σ → zGG p l e R s m args below meth c Q g n1 n2 4 1310 [(0, .ref b), (1, .ref (g.2.1 0)), (2, .ref (g.2.1 69)), (3, .int v3)] [] σ) (h : wL_3 (xs (v3 + (1 : Int32)).toNatClampNeg) (xs (v3 + (2 : Int32)).toNatClampNeg) (xs (v3 + (3 : Int32)).toNatClampNeg) (xs (v3 + (4 : Int32)).toNatClampNeg) (xs (v3 + (5 : Int32)).toNatClampNeg) σ K) : zGG p l e R s m args below meth c Q g n1 n2 4 301 [(0, .ref b), (1, .ref (g.2.1 0)), (2, .ref (g.2.1 69)), (3, .int v3)] [] σ := by
  unfold wL_3 at h
  refine zr_aload_n C d_L_law_301 rfl ?_
  refine zr_aload_n C d_L_law_302 rfl ?_
  refine zr_iload_n C d_L_law_303 rfl ?_
  refine zr_iconst C (1 : Int32) d_L_law_304 (by decide) ?_
  refine zr_iadd C d_L_law_305 ?_
  refine zr_sld C hX hbl hbA hi1 d_L_law_306 ?_
  refine zr_ci (zr_runV (As := [.int (xs (v3 + (1 : Int32)).toNatClampNeg)]) (rest := []) C vw_L_28 (c_X8_say l g (xs (v3 + (1 : Int32)).toNatClampNeg) σ _ h) (sh_0) rfl (by decide) (by decide) rfl rfl (Nat.le_of_ble_eq_true rfl) d_L_law_307) (fun r1 σ2 h => ?_)
  refine zr_pop C d_L_law_310 rfl ?_
  refine zr_aload_n C d_L_law_311 rfl ?_
  refine zr_aload_n C d_L_law_312 rfl ?_
  refine zr_iload_n C d_L_law_313 rfl ?_
  refine zr_iconst C (1 : Int32) d_L_law_314 (by decide) ?_
  refine zr_iadd C d_L_law_315 ?_
  refine zr_sld C hX hbl hbA hi1 d_L_law_316 ?_
  refine zr_ci (zr_runV (As := [.int (xs (v3 + (1 : Int32)).toNatClampNeg)]) (rest := []) C vw_L_31 (c_X9_say l g (xs (v3 + (1 : Int32)).toNatClampNeg) σ2 _ h) (sh_69) rfl (by decide) (by decide) rfl rfl (Nat.le_of_ble_eq_true rfl) d_L_law_317) (fun r3 σ4 h => ?_)
  refine zr_pop C d_L_law_320 rfl ?_
  refine zr_goto C 1310 d_L_law_321 (by decide) ?_
  exact zr_pick [0, 1, 2, 3] rfl (hK σ4 h)
def wL_4 (a1 a2 a3 a4 a5 : Int32) (σ : zST) (K : zST → Prop) : Prop := wp_X8_wipe σ (fun r1 σ2 => wp_X9_wipe σ2 (fun r3 σ4 => K σ4))
set_option maxRecDepth 100000 in
set_option maxHeartbeats 4000000 in
theorem gL_4 {p : Program} {l : Launch} {e : Env} {R : Room} {s : State} {m : MethodId} {args : Array Value} {below : List Frame} {meth : Method} {c : Code} {Q : State → Prop} {g : zG} {n1 n2 : Nat} (C : zCX p R s m args meth c g n1 n2 cL_law 4 RL 7 164) {b L : Nat} {xs : Nat → Int32} (hX : va_X b L xs s s.heap) (hbl : b < s.heap.size) (hbA : ¬ zA g b) {v3 : Int32} (hi0 : vp_in v3 L) (hi1 : vp_in (v3 + 1) L) (hi2 : vp_in (v3 + 2) L) (hi3 : vp_in (v3 + 3) L) (hi4 : vp_in (v3 + 4) L) (hi5 : vp_in (v3 + 5) L) {σ : zST} {K : zST → Prop} (hK : ∀ σ : zST, K σ → zGG p l e R s m args below meth c Q g n1 n2 4 1310 [(0, .ref b), (1, .ref (g.2.1 0)), (2, .ref (g.2.1 69)), (3, .int v3)] [] σ) (h : wL_4 (xs (v3 + (1 : Int32)).toNatClampNeg) (xs (v3 + (2 : Int32)).toNatClampNeg) (xs (v3 + (3 : Int32)).toNatClampNeg) (xs (v3 + (4 : Int32)).toNatClampNeg) (xs (v3 + (5 : Int32)).toNatClampNeg) σ K) : zGG p l e R s m args below meth c Q g n1 n2 4 324 [(0, .ref b), (1, .ref (g.2.1 0)), (2, .ref (g.2.1 69)), (3, .int v3)] [] σ := by
  unfold wL_4 at h
  refine zr_aload_n C d_L_law_324 rfl ?_
  refine zr_ci (zr_runV (As := []) (rest := []) C vw_L_32 (c_X8_wipe l g σ _ h) (sh_0) rfl (by decide) (by decide) rfl rfl (Nat.le_of_ble_eq_true rfl) d_L_law_325) (fun r1 σ2 h => ?_)
  refine zr_pop C d_L_law_328 rfl ?_
  refine zr_aload_n C d_L_law_329 rfl ?_
  refine zr_ci (zr_runV (As := []) (rest := []) C vw_L_36 (c_X9_wipe l g σ2 _ h) (sh_69) rfl (by decide) (by decide) rfl rfl (Nat.le_of_ble_eq_true rfl) d_L_law_330) (fun r3 σ4 h => ?_)
  refine zr_pop C d_L_law_333 rfl ?_
  refine zr_goto C 1310 d_L_law_334 (by decide) ?_
  exact zr_pick [0, 1, 2, 3] rfl (hK σ4 h)
def wL_5 (a1 a2 a3 a4 a5 : Int32) (σ : zST) (K : zST → Prop) : Prop := wp_X8_fault a1 σ (fun r1 => wp_X9_fault a1 σ (fun r3 => K σ))
set_option maxRecDepth 100000 in
set_option maxHeartbeats 4000000 in
theorem gL_5 {p : Program} {l : Launch} {e : Env} {R : Room} {s : State} {m : MethodId} {args : Array Value} {below : List Frame} {meth : Method} {c : Code} {Q : State → Prop} {g : zG} {n1 n2 : Nat} (C : zCX p R s m args meth c g n1 n2 cL_law 4 RL 7 164) {b L : Nat} {xs : Nat → Int32} (hX : va_X b L xs s s.heap) (hbl : b < s.heap.size) (hbA : ¬ zA g b) {v3 : Int32} (hi0 : vp_in v3 L) (hi1 : vp_in (v3 + 1) L) (hi2 : vp_in (v3 + 2) L) (hi3 : vp_in (v3 + 3) L) (hi4 : vp_in (v3 + 4) L) (hi5 : vp_in (v3 + 5) L) {σ : zST} {K : zST → Prop} (hK : ∀ σ : zST, K σ → zGG p l e R s m args below meth c Q g n1 n2 4 1310 [(0, .ref b), (1, .ref (g.2.1 0)), (2, .ref (g.2.1 69)), (3, .int v3)] [] σ) (h : wL_5 (xs (v3 + (1 : Int32)).toNatClampNeg) (xs (v3 + (2 : Int32)).toNatClampNeg) (xs (v3 + (3 : Int32)).toNatClampNeg) (xs (v3 + (4 : Int32)).toNatClampNeg) (xs (v3 + (5 : Int32)).toNatClampNeg) σ K) : zGG p l e R s m args below meth c Q g n1 n2 4 337 [(0, .ref b), (1, .ref (g.2.1 0)), (2, .ref (g.2.1 69)), (3, .int v3)] [] σ := by
  unfold wL_5 at h
  refine zr_aload_n C d_L_law_337 rfl ?_
  refine zr_aload_n C d_L_law_338 rfl ?_
  refine zr_iload_n C d_L_law_339 rfl ?_
  refine zr_iconst C (1 : Int32) d_L_law_340 (by decide) ?_
  refine zr_iadd C d_L_law_341 ?_
  refine zr_sld C hX hbl hbA hi1 d_L_law_342 ?_
  refine zr_cip (zr_runV (As := [.int (xs (v3 + (1 : Int32)).toNatClampNeg)]) (rest := []) C vw_L_37 (c_X8_fault l g (xs (v3 + (1 : Int32)).toNatClampNeg) σ _ h) (sh_0) rfl (by decide) (by decide) rfl rfl (Nat.le_of_ble_eq_true rfl) d_L_law_343) (fun r1 h => ?_)
  refine zr_pop C d_L_law_346 rfl ?_
  refine zr_aload_n C d_L_law_347 rfl ?_
  refine zr_aload_n C d_L_law_348 rfl ?_
  refine zr_iload_n C d_L_law_349 rfl ?_
  refine zr_iconst C (1 : Int32) d_L_law_350 (by decide) ?_
  refine zr_iadd C d_L_law_351 ?_
  refine zr_sld C hX hbl hbA hi1 d_L_law_352 ?_
  refine zr_cip (zr_runV (As := [.int (xs (v3 + (1 : Int32)).toNatClampNeg)]) (rest := []) C vw_L_40 (c_X9_fault l g (xs (v3 + (1 : Int32)).toNatClampNeg) σ _ h) (sh_69) rfl (by decide) (by decide) rfl rfl (Nat.le_of_ble_eq_true rfl) d_L_law_353) (fun r3 h => ?_)
  refine zr_pop C d_L_law_356 rfl ?_
  refine zr_goto C 1310 d_L_law_357 (by decide) ?_
  exact zr_pick [0, 1, 2, 3] rfl (hK σ h)
def wL_6 (a1 a2 a3 a4 a5 : Int32) (σ : zST) (K : zST → Prop) : Prop := wp_X8_tide σ (fun r1 σ2 => wp_X9_tide σ2 (fun r3 σ4 => K σ4))
set_option maxRecDepth 100000 in
set_option maxHeartbeats 4000000 in
theorem gL_6 {p : Program} {l : Launch} {e : Env} {R : Room} {s : State} {m : MethodId} {args : Array Value} {below : List Frame} {meth : Method} {c : Code} {Q : State → Prop} {g : zG} {n1 n2 : Nat} (C : zCX p R s m args meth c g n1 n2 cL_law 4 RL 7 164) {b L : Nat} {xs : Nat → Int32} (hX : va_X b L xs s s.heap) (hbl : b < s.heap.size) (hbA : ¬ zA g b) {v3 : Int32} (hi0 : vp_in v3 L) (hi1 : vp_in (v3 + 1) L) (hi2 : vp_in (v3 + 2) L) (hi3 : vp_in (v3 + 3) L) (hi4 : vp_in (v3 + 4) L) (hi5 : vp_in (v3 + 5) L) {σ : zST} {K : zST → Prop} (hK : ∀ σ : zST, K σ → zGG p l e R s m args below meth c Q g n1 n2 4 1310 [(0, .ref b), (1, .ref (g.2.1 0)), (2, .ref (g.2.1 69)), (3, .int v3)] [] σ) (h : wL_6 (xs (v3 + (1 : Int32)).toNatClampNeg) (xs (v3 + (2 : Int32)).toNatClampNeg) (xs (v3 + (3 : Int32)).toNatClampNeg) (xs (v3 + (4 : Int32)).toNatClampNeg) (xs (v3 + (5 : Int32)).toNatClampNeg) σ K) : zGG p l e R s m args below meth c Q g n1 n2 4 360 [(0, .ref b), (1, .ref (g.2.1 0)), (2, .ref (g.2.1 69)), (3, .int v3)] [] σ := by
  unfold wL_6 at h
  refine zr_aload_n C d_L_law_360 rfl ?_
  refine zr_ci (zr_runV (As := []) (rest := []) C vw_L_41 (c_X8_tide l g σ _ h) (sh_0) rfl (by decide) (by decide) rfl rfl (Nat.le_of_ble_eq_true rfl) d_L_law_361) (fun r1 σ2 h => ?_)
  refine zr_pop C d_L_law_364 rfl ?_
  refine zr_aload_n C d_L_law_365 rfl ?_
  refine zr_ci (zr_runV (As := []) (rest := []) C vw_L_44 (c_X9_tide l g σ2 _ h) (sh_69) rfl (by decide) (by decide) rfl rfl (Nat.le_of_ble_eq_true rfl) d_L_law_366) (fun r3 σ4 h => ?_)
  refine zr_pop C d_L_law_369 rfl ?_
  refine zr_goto C 1310 d_L_law_370 (by decide) ?_
  exact zr_pick [0, 1, 2, 3] rfl (hK σ4 h)
def wL_7 (a1 a2 a3 a4 a5 : Int32) (σ : zST) (K : zST → Prop) : Prop := wp_X8_judge a1 σ (fun r1 σ2 => wp_X9_judge a1 σ2 (fun r3 σ4 => K σ4))
set_option maxRecDepth 100000 in
set_option maxHeartbeats 4000000 in
theorem gL_7 {p : Program} {l : Launch} {e : Env} {R : Room} {s : State} {m : MethodId} {args : Array Value} {below : List Frame} {meth : Method} {c : Code} {Q : State → Prop} {g : zG} {n1 n2 : Nat} (C : zCX p R s m args meth c g n1 n2 cL_law 4 RL 7 164) {b L : Nat} {xs : Nat → Int32} (hX : va_X b L xs s s.heap) (hbl : b < s.heap.size) (hbA : ¬ zA g b) {v3 : Int32} (hi0 : vp_in v3 L) (hi1 : vp_in (v3 + 1) L) (hi2 : vp_in (v3 + 2) L) (hi3 : vp_in (v3 + 3) L) (hi4 : vp_in (v3 + 4) L) (hi5 : vp_in (v3 + 5) L) {σ : zST} {K : zST → Prop} (hK : ∀ σ : zST, K σ → zGG p l e R s m args below meth c Q g n1 n2 4 1310 [(0, .ref b), (1, .ref (g.2.1 0)), (2, .ref (g.2.1 69)), (3, .int v3)] [] σ) (h : wL_7 (xs (v3 + (1 : Int32)).toNatClampNeg) (xs (v3 + (2 : Int32)).toNatClampNeg) (xs (v3 + (3 : Int32)).toNatClampNeg) (xs (v3 + (4 : Int32)).toNatClampNeg) (xs (v3 + (5 : Int32)).toNatClampNeg) σ K) : zGG p l e R s m args below meth c Q g n1 n2 4 373 [(0, .ref b), (1, .ref (g.2.1 0)), (2, .ref (g.2.1 69)), (3, .int v3)] [] σ := by
  unfold wL_7 at h
  refine zr_aload_n C d_L_law_373 rfl ?_
  refine zr_aload_n C d_L_law_374 rfl ?_
  refine zr_iload_n C d_L_law_375 rfl ?_
  refine zr_iconst C (1 : Int32) d_L_law_376 (by decide) ?_
  refine zr_iadd C d_L_law_377 ?_
  refine zr_sld C hX hbl hbA hi1 d_L_law_378 ?_
  refine zr_ci (zr_runV (As := [.int (xs (v3 + (1 : Int32)).toNatClampNeg)]) (rest := []) C vw_L_45 (c_X8_judge l g (xs (v3 + (1 : Int32)).toNatClampNeg) σ _ h) (sh_0) rfl (by decide) (by decide) rfl rfl (Nat.le_of_ble_eq_true rfl) d_L_law_379) (fun r1 σ2 h => ?_)
  refine zr_pop C d_L_law_382 rfl ?_
  refine zr_aload_n C d_L_law_383 rfl ?_
  refine zr_aload_n C d_L_law_384 rfl ?_
  refine zr_iload_n C d_L_law_385 rfl ?_
  refine zr_iconst C (1 : Int32) d_L_law_386 (by decide) ?_
  refine zr_iadd C d_L_law_387 ?_
  refine zr_sld C hX hbl hbA hi1 d_L_law_388 ?_
  refine zr_ci (zr_runV (As := [.int (xs (v3 + (1 : Int32)).toNatClampNeg)]) (rest := []) C vw_L_48 (c_X9_judge l g (xs (v3 + (1 : Int32)).toNatClampNeg) σ2 _ h) (sh_69) rfl (by decide) (by decide) rfl rfl (Nat.le_of_ble_eq_true rfl) d_L_law_389) (fun r3 σ4 h => ?_)
  refine zr_pop C d_L_law_392 rfl ?_
  refine zr_goto C 1310 d_L_law_393 (by decide) ?_
  exact zr_pick [0, 1, 2, 3] rfl (hK σ4 h)
def wL_8 (a1 a2 a3 a4 a5 : Int32) (σ : zST) (K : zST → Prop) : Prop := wp_X8_state a1 a2 σ (fun r1 => wp_X9_state a1 a2 σ (fun r3 => K σ))
set_option maxRecDepth 100000 in
set_option maxHeartbeats 4000000 in
theorem gL_8 {p : Program} {l : Launch} {e : Env} {R : Room} {s : State} {m : MethodId} {args : Array Value} {below : List Frame} {meth : Method} {c : Code} {Q : State → Prop} {g : zG} {n1 n2 : Nat} (C : zCX p R s m args meth c g n1 n2 cL_law 4 RL 7 164) {b L : Nat} {xs : Nat → Int32} (hX : va_X b L xs s s.heap) (hbl : b < s.heap.size) (hbA : ¬ zA g b) {v3 : Int32} (hi0 : vp_in v3 L) (hi1 : vp_in (v3 + 1) L) (hi2 : vp_in (v3 + 2) L) (hi3 : vp_in (v3 + 3) L) (hi4 : vp_in (v3 + 4) L) (hi5 : vp_in (v3 + 5) L) {σ : zST} {K : zST → Prop} (hK : ∀ σ : zST, K σ → zGG p l e R s m args below meth c Q g n1 n2 4 1310 [(0, .ref b), (1, .ref (g.2.1 0)), (2, .ref (g.2.1 69)), (3, .int v3)] [] σ) (h : wL_8 (xs (v3 + (1 : Int32)).toNatClampNeg) (xs (v3 + (2 : Int32)).toNatClampNeg) (xs (v3 + (3 : Int32)).toNatClampNeg) (xs (v3 + (4 : Int32)).toNatClampNeg) (xs (v3 + (5 : Int32)).toNatClampNeg) σ K) : zGG p l e R s m args below meth c Q g n1 n2 4 396 [(0, .ref b), (1, .ref (g.2.1 0)), (2, .ref (g.2.1 69)), (3, .int v3)] [] σ := by
  unfold wL_8 at h
  refine zr_aload_n C d_L_law_396 rfl ?_
  refine zr_aload_n C d_L_law_397 rfl ?_
  refine zr_iload_n C d_L_law_398 rfl ?_
  refine zr_iconst C (1 : Int32) d_L_law_399 (by decide) ?_
  refine zr_iadd C d_L_law_400 ?_
  refine zr_sld C hX hbl hbA hi1 d_L_law_401 ?_
  refine zr_aload_n C d_L_law_402 rfl ?_
  refine zr_iload_n C d_L_law_403 rfl ?_
  refine zr_iconst C (2 : Int32) d_L_law_404 (by decide) ?_
  refine zr_iadd C d_L_law_405 ?_
  refine zr_sld C hX hbl hbA hi2 d_L_law_406 ?_
  refine zr_cip (zr_runV (As := [.int (xs (v3 + (1 : Int32)).toNatClampNeg), .int (xs (v3 + (2 : Int32)).toNatClampNeg)]) (rest := []) C vw_L_49 (c_X8_state l g (xs (v3 + (1 : Int32)).toNatClampNeg) (xs (v3 + (2 : Int32)).toNatClampNeg) σ _ h) (sh_0) rfl (by decide) (by decide) rfl rfl (Nat.le_of_ble_eq_true rfl) d_L_law_407) (fun r1 h => ?_)
  refine zr_pop C d_L_law_410 rfl ?_
  refine zr_aload_n C d_L_law_411 rfl ?_
  refine zr_aload_n C d_L_law_412 rfl ?_
  refine zr_iload_n C d_L_law_413 rfl ?_
  refine zr_iconst C (1 : Int32) d_L_law_414 (by decide) ?_
  refine zr_iadd C d_L_law_415 ?_
  refine zr_sld C hX hbl hbA hi1 d_L_law_416 ?_
  refine zr_aload_n C d_L_law_417 rfl ?_
  refine zr_iload_n C d_L_law_418 rfl ?_
  refine zr_iconst C (2 : Int32) d_L_law_419 (by decide) ?_
  refine zr_iadd C d_L_law_420 ?_
  refine zr_sld C hX hbl hbA hi2 d_L_law_421 ?_
  refine zr_cip (zr_runV (As := [.int (xs (v3 + (1 : Int32)).toNatClampNeg), .int (xs (v3 + (2 : Int32)).toNatClampNeg)]) (rest := []) C vw_L_52 (c_X9_state l g (xs (v3 + (1 : Int32)).toNatClampNeg) (xs (v3 + (2 : Int32)).toNatClampNeg) σ _ h) (sh_69) rfl (by decide) (by decide) rfl rfl (Nat.le_of_ble_eq_true rfl) d_L_law_422) (fun r3 h => ?_)
  refine zr_pop C d_L_law_425 rfl ?_
  refine zr_goto C 1310 d_L_law_426 (by decide) ?_
  exact zr_pick [0, 1, 2, 3] rfl (hK σ h)
def wL_9 (a1 a2 a3 a4 a5 : Int32) (σ : zST) (K : zST → Prop) : Prop := wp_X8_behind a1 a2 σ (fun r1 σ2 => wp_X9_behind a1 a2 σ2 (fun r3 σ4 => K σ4))
set_option maxRecDepth 100000 in
set_option maxHeartbeats 4000000 in
theorem gL_9 {p : Program} {l : Launch} {e : Env} {R : Room} {s : State} {m : MethodId} {args : Array Value} {below : List Frame} {meth : Method} {c : Code} {Q : State → Prop} {g : zG} {n1 n2 : Nat} (C : zCX p R s m args meth c g n1 n2 cL_law 4 RL 7 164) {b L : Nat} {xs : Nat → Int32} (hX : va_X b L xs s s.heap) (hbl : b < s.heap.size) (hbA : ¬ zA g b) {v3 : Int32} (hi0 : vp_in v3 L) (hi1 : vp_in (v3 + 1) L) (hi2 : vp_in (v3 + 2) L) (hi3 : vp_in (v3 + 3) L) (hi4 : vp_in (v3 + 4) L) (hi5 : vp_in (v3 + 5) L) {σ : zST} {K : zST → Prop} (hK : ∀ σ : zST, K σ → zGG p l e R s m args below meth c Q g n1 n2 4 1310 [(0, .ref b), (1, .ref (g.2.1 0)), (2, .ref (g.2.1 69)), (3, .int v3)] [] σ) (h : wL_9 (xs (v3 + (1 : Int32)).toNatClampNeg) (xs (v3 + (2 : Int32)).toNatClampNeg) (xs (v3 + (3 : Int32)).toNatClampNeg) (xs (v3 + (4 : Int32)).toNatClampNeg) (xs (v3 + (5 : Int32)).toNatClampNeg) σ K) : zGG p l e R s m args below meth c Q g n1 n2 4 429 [(0, .ref b), (1, .ref (g.2.1 0)), (2, .ref (g.2.1 69)), (3, .int v3)] [] σ := by
  unfold wL_9 at h
  refine zr_aload_n C d_L_law_429 rfl ?_
  refine zr_aload_n C d_L_law_430 rfl ?_
  refine zr_iload_n C d_L_law_431 rfl ?_
  refine zr_iconst C (1 : Int32) d_L_law_432 (by decide) ?_
  refine zr_iadd C d_L_law_433 ?_
  refine zr_sld C hX hbl hbA hi1 d_L_law_434 ?_
  refine zr_aload_n C d_L_law_435 rfl ?_
  refine zr_iload_n C d_L_law_436 rfl ?_
  refine zr_iconst C (2 : Int32) d_L_law_437 (by decide) ?_
  refine zr_iadd C d_L_law_438 ?_
  refine zr_sld C hX hbl hbA hi2 d_L_law_439 ?_
  refine zr_ci (zr_runV (As := [.int (xs (v3 + (1 : Int32)).toNatClampNeg), .int (xs (v3 + (2 : Int32)).toNatClampNeg)]) (rest := []) C vw_L_53 (c_X8_behind l g (xs (v3 + (1 : Int32)).toNatClampNeg) (xs (v3 + (2 : Int32)).toNatClampNeg) σ _ h) (sh_0) rfl (by decide) (by decide) rfl rfl (Nat.le_of_ble_eq_true rfl) d_L_law_440) (fun r1 σ2 h => ?_)
  refine zr_pop C d_L_law_443 rfl ?_
  refine zr_aload_n C d_L_law_444 rfl ?_
  refine zr_aload_n C d_L_law_445 rfl ?_
  refine zr_iload_n C d_L_law_446 rfl ?_
  refine zr_iconst C (1 : Int32) d_L_law_447 (by decide) ?_
  refine zr_iadd C d_L_law_448 ?_
  refine zr_sld C hX hbl hbA hi1 d_L_law_449 ?_
  refine zr_aload_n C d_L_law_450 rfl ?_
  refine zr_iload_n C d_L_law_451 rfl ?_
  refine zr_iconst C (2 : Int32) d_L_law_452 (by decide) ?_
  refine zr_iadd C d_L_law_453 ?_
  refine zr_sld C hX hbl hbA hi2 d_L_law_454 ?_
  refine zr_ci (zr_runV (As := [.int (xs (v3 + (1 : Int32)).toNatClampNeg), .int (xs (v3 + (2 : Int32)).toNatClampNeg)]) (rest := []) C vw_L_56 (c_X9_behind l g (xs (v3 + (1 : Int32)).toNatClampNeg) (xs (v3 + (2 : Int32)).toNatClampNeg) σ2 _ h) (sh_69) rfl (by decide) (by decide) rfl rfl (Nat.le_of_ble_eq_true rfl) d_L_law_455) (fun r3 σ4 h => ?_)
  refine zr_pop C d_L_law_458 rfl ?_
  refine zr_goto C 1310 d_L_law_459 (by decide) ?_
  exact zr_pick [0, 1, 2, 3] rfl (hK σ4 h)
def wL_10 (a1 a2 a3 a4 a5 : Int32) (σ : zST) (K : zST → Prop) : Prop := wp_X8_done σ (fun r1 σ2 => wp_X9_done σ2 (fun r3 σ4 => K σ4))
set_option maxRecDepth 100000 in
set_option maxHeartbeats 4000000 in
theorem gL_10 {p : Program} {l : Launch} {e : Env} {R : Room} {s : State} {m : MethodId} {args : Array Value} {below : List Frame} {meth : Method} {c : Code} {Q : State → Prop} {g : zG} {n1 n2 : Nat} (C : zCX p R s m args meth c g n1 n2 cL_law 4 RL 7 164) {b L : Nat} {xs : Nat → Int32} (hX : va_X b L xs s s.heap) (hbl : b < s.heap.size) (hbA : ¬ zA g b) {v3 : Int32} (hi0 : vp_in v3 L) (hi1 : vp_in (v3 + 1) L) (hi2 : vp_in (v3 + 2) L) (hi3 : vp_in (v3 + 3) L) (hi4 : vp_in (v3 + 4) L) (hi5 : vp_in (v3 + 5) L) {σ : zST} {K : zST → Prop} (hK : ∀ σ : zST, K σ → zGG p l e R s m args below meth c Q g n1 n2 4 1310 [(0, .ref b), (1, .ref (g.2.1 0)), (2, .ref (g.2.1 69)), (3, .int v3)] [] σ) (h : wL_10 (xs (v3 + (1 : Int32)).toNatClampNeg) (xs (v3 + (2 : Int32)).toNatClampNeg) (xs (v3 + (3 : Int32)).toNatClampNeg) (xs (v3 + (4 : Int32)).toNatClampNeg) (xs (v3 + (5 : Int32)).toNatClampNeg) σ K) : zGG p l e R s m args below meth c Q g n1 n2 4 462 [(0, .ref b), (1, .ref (g.2.1 0)), (2, .ref (g.2.1 69)), (3, .int v3)] [] σ := by
  unfold wL_10 at h
  refine zr_aload_n C d_L_law_462 rfl ?_
  refine zr_ci (zr_runV (As := []) (rest := []) C vw_L_57 (c_X8_done l g σ _ h) (sh_0) rfl (by decide) (by decide) rfl rfl (Nat.le_of_ble_eq_true rfl) d_L_law_463) (fun r1 σ2 h => ?_)
  refine zr_pop C d_L_law_466 rfl ?_
  refine zr_aload_n C d_L_law_467 rfl ?_
  refine zr_ci (zr_runV (As := []) (rest := []) C vw_L_60 (c_X9_done l g σ2 _ h) (sh_69) rfl (by decide) (by decide) rfl rfl (Nat.le_of_ble_eq_true rfl) d_L_law_468) (fun r3 σ4 h => ?_)
  refine zr_pop C d_L_law_471 rfl ?_
  refine zr_goto C 1310 d_L_law_472 (by decide) ?_
  exact zr_pick [0, 1, 2, 3] rfl (hK σ4 h)
def wL_11 (a1 a2 a3 a4 a5 : Int32) (σ : zST) (K : zST → Prop) : Prop := wp_X8_sum a1 σ (fun r1 => wp_X9_sum a1 σ (fun r3 => (if r1 = r3 then K σ else False)))
set_option maxRecDepth 100000 in
set_option maxHeartbeats 4000000 in
theorem gL_11 {p : Program} {l : Launch} {e : Env} {R : Room} {s : State} {m : MethodId} {args : Array Value} {below : List Frame} {meth : Method} {c : Code} {Q : State → Prop} {g : zG} {n1 n2 : Nat} (C : zCX p R s m args meth c g n1 n2 cL_law 4 RL 7 164) {b L : Nat} {xs : Nat → Int32} (hX : va_X b L xs s s.heap) (hbl : b < s.heap.size) (hbA : ¬ zA g b) {v3 : Int32} (hi0 : vp_in v3 L) (hi1 : vp_in (v3 + 1) L) (hi2 : vp_in (v3 + 2) L) (hi3 : vp_in (v3 + 3) L) (hi4 : vp_in (v3 + 4) L) (hi5 : vp_in (v3 + 5) L) {σ : zST} {K : zST → Prop} (hK : ∀ σ : zST, K σ → zGG p l e R s m args below meth c Q g n1 n2 4 1310 [(0, .ref b), (1, .ref (g.2.1 0)), (2, .ref (g.2.1 69)), (3, .int v3)] [] σ) (h : wL_11 (xs (v3 + (1 : Int32)).toNatClampNeg) (xs (v3 + (2 : Int32)).toNatClampNeg) (xs (v3 + (3 : Int32)).toNatClampNeg) (xs (v3 + (4 : Int32)).toNatClampNeg) (xs (v3 + (5 : Int32)).toNatClampNeg) σ K) : zGG p l e R s m args below meth c Q g n1 n2 4 475 [(0, .ref b), (1, .ref (g.2.1 0)), (2, .ref (g.2.1 69)), (3, .int v3)] [] σ := by
  unfold wL_11 at h
  refine zr_aload_n C d_L_law_475 rfl ?_
  refine zr_aload_n C d_L_law_476 rfl ?_
  refine zr_iload_n C d_L_law_477 rfl ?_
  refine zr_iconst C (1 : Int32) d_L_law_478 (by decide) ?_
  refine zr_iadd C d_L_law_479 ?_
  refine zr_sld C hX hbl hbA hi1 d_L_law_480 ?_
  refine zr_cip (zr_runV (As := [.int (xs (v3 + (1 : Int32)).toNatClampNeg)]) (rest := []) C vw_L_61 (c_X8_sum l g (xs (v3 + (1 : Int32)).toNatClampNeg) σ _ h) (sh_0) rfl (by decide) (by decide) rfl rfl (Nat.le_of_ble_eq_true rfl) d_L_law_481) (fun r1 h => ?_)
  refine zr_aload_n C d_L_law_484 rfl ?_
  refine zr_aload_n C d_L_law_485 rfl ?_
  refine zr_iload_n C d_L_law_486 rfl ?_
  refine zr_iconst C (1 : Int32) d_L_law_487 (by decide) ?_
  refine zr_iadd C d_L_law_488 ?_
  refine zr_sld C hX hbl hbA hi1 d_L_law_489 ?_
  refine zr_cip (zr_runV (As := [.int (xs (v3 + (1 : Int32)).toNatClampNeg)]) (rest := [.int r1]) C vw_L_64 (c_X9_sum l g (xs (v3 + (1 : Int32)).toNatClampNeg) σ _ h) (sh_69) rfl (by decide) (by decide) rfl rfl (Nat.le_of_ble_eq_true rfl) d_L_law_490) (fun r3 h => ?_)
  refine zr_icmp_eq C 1310 d_L_law_493 (by decide) (fun hc5 => ?_) (fun hc5 => ?_)
  · rw [if_pos hc5] at h
    exact zr_pick [0, 1, 2, 3] rfl (hK σ h)
  · rw [if_neg hc5] at h
    exact h.elim
def wL_12 (a1 a2 a3 a4 a5 : Int32) (σ : zST) (K : zST → Prop) : Prop := wp_X8_mean a1 a2 a3 σ (fun r1 => wp_X9_mean a1 a2 a3 σ (fun r3 => K σ))
set_option maxRecDepth 100000 in
set_option maxHeartbeats 4000000 in
theorem gL_12 {p : Program} {l : Launch} {e : Env} {R : Room} {s : State} {m : MethodId} {args : Array Value} {below : List Frame} {meth : Method} {c : Code} {Q : State → Prop} {g : zG} {n1 n2 : Nat} (C : zCX p R s m args meth c g n1 n2 cL_law 4 RL 7 164) {b L : Nat} {xs : Nat → Int32} (hX : va_X b L xs s s.heap) (hbl : b < s.heap.size) (hbA : ¬ zA g b) {v3 : Int32} (hi0 : vp_in v3 L) (hi1 : vp_in (v3 + 1) L) (hi2 : vp_in (v3 + 2) L) (hi3 : vp_in (v3 + 3) L) (hi4 : vp_in (v3 + 4) L) (hi5 : vp_in (v3 + 5) L) {σ : zST} {K : zST → Prop} (hK : ∀ σ : zST, K σ → zGG p l e R s m args below meth c Q g n1 n2 4 1310 [(0, .ref b), (1, .ref (g.2.1 0)), (2, .ref (g.2.1 69)), (3, .int v3)] [] σ) (h : wL_12 (xs (v3 + (1 : Int32)).toNatClampNeg) (xs (v3 + (2 : Int32)).toNatClampNeg) (xs (v3 + (3 : Int32)).toNatClampNeg) (xs (v3 + (4 : Int32)).toNatClampNeg) (xs (v3 + (5 : Int32)).toNatClampNeg) σ K) : zGG p l e R s m args below meth c Q g n1 n2 4 498 [(0, .ref b), (1, .ref (g.2.1 0)), (2, .ref (g.2.1 69)), (3, .int v3)] [] σ := by
  unfold wL_12 at h
  refine zr_aload_n C d_L_law_498 rfl ?_
  refine zr_aload_n C d_L_law_499 rfl ?_
  refine zr_iload_n C d_L_law_500 rfl ?_
  refine zr_iconst C (1 : Int32) d_L_law_501 (by decide) ?_
  refine zr_iadd C d_L_law_502 ?_
  refine zr_sld C hX hbl hbA hi1 d_L_law_503 ?_
  refine zr_aload_n C d_L_law_504 rfl ?_
  refine zr_iload_n C d_L_law_505 rfl ?_
  refine zr_iconst C (2 : Int32) d_L_law_506 (by decide) ?_
  refine zr_iadd C d_L_law_507 ?_
  refine zr_sld C hX hbl hbA hi2 d_L_law_508 ?_
  refine zr_aload_n C d_L_law_509 rfl ?_
  refine zr_iload_n C d_L_law_510 rfl ?_
  refine zr_iconst C (3 : Int32) d_L_law_511 (by decide) ?_
  refine zr_iadd C d_L_law_512 ?_
  refine zr_sld C hX hbl hbA hi3 d_L_law_513 ?_
  refine zr_cip (zr_runV (As := [.int (xs (v3 + (1 : Int32)).toNatClampNeg), .int (xs (v3 + (2 : Int32)).toNatClampNeg), .int (xs (v3 + (3 : Int32)).toNatClampNeg)]) (rest := []) C vw_L_65 (c_X8_mean l g (xs (v3 + (1 : Int32)).toNatClampNeg) (xs (v3 + (2 : Int32)).toNatClampNeg) (xs (v3 + (3 : Int32)).toNatClampNeg) σ _ h) (sh_0) rfl (by decide) (by decide) rfl rfl (Nat.le_of_ble_eq_true rfl) d_L_law_514) (fun r1 h => ?_)
  refine zr_pop C d_L_law_517 rfl ?_
  refine zr_aload_n C d_L_law_518 rfl ?_
  refine zr_aload_n C d_L_law_519 rfl ?_
  refine zr_iload_n C d_L_law_520 rfl ?_
  refine zr_iconst C (1 : Int32) d_L_law_521 (by decide) ?_
  refine zr_iadd C d_L_law_522 ?_
  refine zr_sld C hX hbl hbA hi1 d_L_law_523 ?_
  refine zr_aload_n C d_L_law_524 rfl ?_
  refine zr_iload_n C d_L_law_525 rfl ?_
  refine zr_iconst C (2 : Int32) d_L_law_526 (by decide) ?_
  refine zr_iadd C d_L_law_527 ?_
  refine zr_sld C hX hbl hbA hi2 d_L_law_528 ?_
  refine zr_aload_n C d_L_law_529 rfl ?_
  refine zr_iload_n C d_L_law_530 rfl ?_
  refine zr_iconst C (3 : Int32) d_L_law_531 (by decide) ?_
  refine zr_iadd C d_L_law_532 ?_
  refine zr_sld C hX hbl hbA hi3 d_L_law_533 ?_
  refine zr_cip (zr_runV (As := [.int (xs (v3 + (1 : Int32)).toNatClampNeg), .int (xs (v3 + (2 : Int32)).toNatClampNeg), .int (xs (v3 + (3 : Int32)).toNatClampNeg)]) (rest := []) C vw_L_69 (c_X9_mean l g (xs (v3 + (1 : Int32)).toNatClampNeg) (xs (v3 + (2 : Int32)).toNatClampNeg) (xs (v3 + (3 : Int32)).toNatClampNeg) σ _ h) (sh_69) rfl (by decide) (by decide) rfl rfl (Nat.le_of_ble_eq_true rfl) d_L_law_534) (fun r3 h => ?_)
  refine zr_pop C d_L_law_537 rfl ?_
  refine zr_goto C 1310 d_L_law_538 (by decide) ?_
  exact zr_pick [0, 1, 2, 3] rfl (hK σ h)
def wL_13 (a1 a2 a3 a4 a5 : Int32) (σ : zST) (K : zST → Prop) : Prop := wp_X8_worst a1 a2 a3 σ (fun r1 => wp_X9_worst a1 a2 a3 σ (fun r3 => K σ))
set_option maxRecDepth 100000 in
set_option maxHeartbeats 4000000 in
theorem gL_13 {p : Program} {l : Launch} {e : Env} {R : Room} {s : State} {m : MethodId} {args : Array Value} {below : List Frame} {meth : Method} {c : Code} {Q : State → Prop} {g : zG} {n1 n2 : Nat} (C : zCX p R s m args meth c g n1 n2 cL_law 4 RL 7 164) {b L : Nat} {xs : Nat → Int32} (hX : va_X b L xs s s.heap) (hbl : b < s.heap.size) (hbA : ¬ zA g b) {v3 : Int32} (hi0 : vp_in v3 L) (hi1 : vp_in (v3 + 1) L) (hi2 : vp_in (v3 + 2) L) (hi3 : vp_in (v3 + 3) L) (hi4 : vp_in (v3 + 4) L) (hi5 : vp_in (v3 + 5) L) {σ : zST} {K : zST → Prop} (hK : ∀ σ : zST, K σ → zGG p l e R s m args below meth c Q g n1 n2 4 1310 [(0, .ref b), (1, .ref (g.2.1 0)), (2, .ref (g.2.1 69)), (3, .int v3)] [] σ) (h : wL_13 (xs (v3 + (1 : Int32)).toNatClampNeg) (xs (v3 + (2 : Int32)).toNatClampNeg) (xs (v3 + (3 : Int32)).toNatClampNeg) (xs (v3 + (4 : Int32)).toNatClampNeg) (xs (v3 + (5 : Int32)).toNatClampNeg) σ K) : zGG p l e R s m args below meth c Q g n1 n2 4 541 [(0, .ref b), (1, .ref (g.2.1 0)), (2, .ref (g.2.1 69)), (3, .int v3)] [] σ := by
  unfold wL_13 at h
  refine zr_aload_n C d_L_law_541 rfl ?_
  refine zr_aload_n C d_L_law_542 rfl ?_
  refine zr_iload_n C d_L_law_543 rfl ?_
  refine zr_iconst C (1 : Int32) d_L_law_544 (by decide) ?_
  refine zr_iadd C d_L_law_545 ?_
  refine zr_sld C hX hbl hbA hi1 d_L_law_546 ?_
  refine zr_aload_n C d_L_law_547 rfl ?_
  refine zr_iload_n C d_L_law_548 rfl ?_
  refine zr_iconst C (2 : Int32) d_L_law_549 (by decide) ?_
  refine zr_iadd C d_L_law_550 ?_
  refine zr_sld C hX hbl hbA hi2 d_L_law_551 ?_
  refine zr_aload_n C d_L_law_552 rfl ?_
  refine zr_iload_n C d_L_law_553 rfl ?_
  refine zr_iconst C (3 : Int32) d_L_law_554 (by decide) ?_
  refine zr_iadd C d_L_law_555 ?_
  refine zr_sld C hX hbl hbA hi3 d_L_law_556 ?_
  refine zr_cip (zr_runV (As := [.int (xs (v3 + (1 : Int32)).toNatClampNeg), .int (xs (v3 + (2 : Int32)).toNatClampNeg), .int (xs (v3 + (3 : Int32)).toNatClampNeg)]) (rest := []) C vw_L_70 (c_X8_worst l g (xs (v3 + (1 : Int32)).toNatClampNeg) (xs (v3 + (2 : Int32)).toNatClampNeg) (xs (v3 + (3 : Int32)).toNatClampNeg) σ _ h) (sh_0) rfl (by decide) (by decide) rfl rfl (Nat.le_of_ble_eq_true rfl) d_L_law_557) (fun r1 h => ?_)
  refine zr_pop C d_L_law_560 rfl ?_
  refine zr_aload_n C d_L_law_561 rfl ?_
  refine zr_aload_n C d_L_law_562 rfl ?_
  refine zr_iload_n C d_L_law_563 rfl ?_
  refine zr_iconst C (1 : Int32) d_L_law_564 (by decide) ?_
  refine zr_iadd C d_L_law_565 ?_
  refine zr_sld C hX hbl hbA hi1 d_L_law_566 ?_
  refine zr_aload_n C d_L_law_567 rfl ?_
  refine zr_iload_n C d_L_law_568 rfl ?_
  refine zr_iconst C (2 : Int32) d_L_law_569 (by decide) ?_
  refine zr_iadd C d_L_law_570 ?_
  refine zr_sld C hX hbl hbA hi2 d_L_law_571 ?_
  refine zr_aload_n C d_L_law_572 rfl ?_
  refine zr_iload_n C d_L_law_573 rfl ?_
  refine zr_iconst C (3 : Int32) d_L_law_574 (by decide) ?_
  refine zr_iadd C d_L_law_575 ?_
  refine zr_sld C hX hbl hbA hi3 d_L_law_576 ?_
  refine zr_cip (zr_runV (As := [.int (xs (v3 + (1 : Int32)).toNatClampNeg), .int (xs (v3 + (2 : Int32)).toNatClampNeg), .int (xs (v3 + (3 : Int32)).toNatClampNeg)]) (rest := []) C vw_L_73 (c_X9_worst l g (xs (v3 + (1 : Int32)).toNatClampNeg) (xs (v3 + (2 : Int32)).toNatClampNeg) (xs (v3 + (3 : Int32)).toNatClampNeg) σ _ h) (sh_69) rfl (by decide) (by decide) rfl rfl (Nat.le_of_ble_eq_true rfl) d_L_law_577) (fun r3 h => ?_)
  refine zr_pop C d_L_law_580 rfl ?_
  refine zr_goto C 1310 d_L_law_581 (by decide) ?_
  exact zr_pick [0, 1, 2, 3] rfl (hK σ h)
def wL_14 (a1 a2 a3 a4 a5 : Int32) (σ : zST) (K : zST → Prop) : Prop := wp_X8_choice a1 a2 σ (fun r1 => wp_X9_choice a1 a2 σ (fun r3 => K σ))
set_option maxRecDepth 100000 in
set_option maxHeartbeats 4000000 in
theorem gL_14 {p : Program} {l : Launch} {e : Env} {R : Room} {s : State} {m : MethodId} {args : Array Value} {below : List Frame} {meth : Method} {c : Code} {Q : State → Prop} {g : zG} {n1 n2 : Nat} (C : zCX p R s m args meth c g n1 n2 cL_law 4 RL 7 164) {b L : Nat} {xs : Nat → Int32} (hX : va_X b L xs s s.heap) (hbl : b < s.heap.size) (hbA : ¬ zA g b) {v3 : Int32} (hi0 : vp_in v3 L) (hi1 : vp_in (v3 + 1) L) (hi2 : vp_in (v3 + 2) L) (hi3 : vp_in (v3 + 3) L) (hi4 : vp_in (v3 + 4) L) (hi5 : vp_in (v3 + 5) L) {σ : zST} {K : zST → Prop} (hK : ∀ σ : zST, K σ → zGG p l e R s m args below meth c Q g n1 n2 4 1310 [(0, .ref b), (1, .ref (g.2.1 0)), (2, .ref (g.2.1 69)), (3, .int v3)] [] σ) (h : wL_14 (xs (v3 + (1 : Int32)).toNatClampNeg) (xs (v3 + (2 : Int32)).toNatClampNeg) (xs (v3 + (3 : Int32)).toNatClampNeg) (xs (v3 + (4 : Int32)).toNatClampNeg) (xs (v3 + (5 : Int32)).toNatClampNeg) σ K) : zGG p l e R s m args below meth c Q g n1 n2 4 584 [(0, .ref b), (1, .ref (g.2.1 0)), (2, .ref (g.2.1 69)), (3, .int v3)] [] σ := by
  unfold wL_14 at h
  refine zr_aload_n C d_L_law_584 rfl ?_
  refine zr_aload_n C d_L_law_585 rfl ?_
  refine zr_iload_n C d_L_law_586 rfl ?_
  refine zr_iconst C (1 : Int32) d_L_law_587 (by decide) ?_
  refine zr_iadd C d_L_law_588 ?_
  refine zr_sld C hX hbl hbA hi1 d_L_law_589 ?_
  refine zr_aload_n C d_L_law_590 rfl ?_
  refine zr_iload_n C d_L_law_591 rfl ?_
  refine zr_iconst C (2 : Int32) d_L_law_592 (by decide) ?_
  refine zr_iadd C d_L_law_593 ?_
  refine zr_sld C hX hbl hbA hi2 d_L_law_594 ?_
  refine zr_cip (zr_runV (As := [.int (xs (v3 + (1 : Int32)).toNatClampNeg), .int (xs (v3 + (2 : Int32)).toNatClampNeg)]) (rest := []) C vw_L_74 (c_X8_choice l g (xs (v3 + (1 : Int32)).toNatClampNeg) (xs (v3 + (2 : Int32)).toNatClampNeg) σ _ h) (sh_0) rfl (by decide) (by decide) rfl rfl (Nat.le_of_ble_eq_true rfl) d_L_law_595) (fun r1 h => ?_)
  refine zr_pop C d_L_law_598 rfl ?_
  refine zr_aload_n C d_L_law_599 rfl ?_
  refine zr_aload_n C d_L_law_600 rfl ?_
  refine zr_iload_n C d_L_law_601 rfl ?_
  refine zr_iconst C (1 : Int32) d_L_law_602 (by decide) ?_
  refine zr_iadd C d_L_law_603 ?_
  refine zr_sld C hX hbl hbA hi1 d_L_law_604 ?_
  refine zr_aload_n C d_L_law_605 rfl ?_
  refine zr_iload_n C d_L_law_606 rfl ?_
  refine zr_iconst C (2 : Int32) d_L_law_607 (by decide) ?_
  refine zr_iadd C d_L_law_608 ?_
  refine zr_sld C hX hbl hbA hi2 d_L_law_609 ?_
  refine zr_cip (zr_runV (As := [.int (xs (v3 + (1 : Int32)).toNatClampNeg), .int (xs (v3 + (2 : Int32)).toNatClampNeg)]) (rest := []) C vw_L_77 (c_X9_choice l g (xs (v3 + (1 : Int32)).toNatClampNeg) (xs (v3 + (2 : Int32)).toNatClampNeg) σ _ h) (sh_69) rfl (by decide) (by decide) rfl rfl (Nat.le_of_ble_eq_true rfl) d_L_law_610) (fun r3 h => ?_)
  refine zr_pop C d_L_law_613 rfl ?_
  refine zr_goto C 1310 d_L_law_614 (by decide) ?_
  exact zr_pick [0, 1, 2, 3] rfl (hK σ h)
def wL_15 (a1 a2 a3 a4 a5 : Int32) (σ : zST) (K : zST → Prop) : Prop := wp_X8_held a1 a2 a3 σ (fun r1 => wp_X9_held a1 a2 a3 σ (fun r3 => K σ))
set_option maxRecDepth 100000 in
set_option maxHeartbeats 4000000 in
theorem gL_15 {p : Program} {l : Launch} {e : Env} {R : Room} {s : State} {m : MethodId} {args : Array Value} {below : List Frame} {meth : Method} {c : Code} {Q : State → Prop} {g : zG} {n1 n2 : Nat} (C : zCX p R s m args meth c g n1 n2 cL_law 4 RL 7 164) {b L : Nat} {xs : Nat → Int32} (hX : va_X b L xs s s.heap) (hbl : b < s.heap.size) (hbA : ¬ zA g b) {v3 : Int32} (hi0 : vp_in v3 L) (hi1 : vp_in (v3 + 1) L) (hi2 : vp_in (v3 + 2) L) (hi3 : vp_in (v3 + 3) L) (hi4 : vp_in (v3 + 4) L) (hi5 : vp_in (v3 + 5) L) {σ : zST} {K : zST → Prop} (hK : ∀ σ : zST, K σ → zGG p l e R s m args below meth c Q g n1 n2 4 1310 [(0, .ref b), (1, .ref (g.2.1 0)), (2, .ref (g.2.1 69)), (3, .int v3)] [] σ) (h : wL_15 (xs (v3 + (1 : Int32)).toNatClampNeg) (xs (v3 + (2 : Int32)).toNatClampNeg) (xs (v3 + (3 : Int32)).toNatClampNeg) (xs (v3 + (4 : Int32)).toNatClampNeg) (xs (v3 + (5 : Int32)).toNatClampNeg) σ K) : zGG p l e R s m args below meth c Q g n1 n2 4 617 [(0, .ref b), (1, .ref (g.2.1 0)), (2, .ref (g.2.1 69)), (3, .int v3)] [] σ := by
  unfold wL_15 at h
  refine zr_aload_n C d_L_law_617 rfl ?_
  refine zr_aload_n C d_L_law_618 rfl ?_
  refine zr_iload_n C d_L_law_619 rfl ?_
  refine zr_iconst C (1 : Int32) d_L_law_620 (by decide) ?_
  refine zr_iadd C d_L_law_621 ?_
  refine zr_sld C hX hbl hbA hi1 d_L_law_622 ?_
  refine zr_aload_n C d_L_law_623 rfl ?_
  refine zr_iload_n C d_L_law_624 rfl ?_
  refine zr_iconst C (2 : Int32) d_L_law_625 (by decide) ?_
  refine zr_iadd C d_L_law_626 ?_
  refine zr_sld C hX hbl hbA hi2 d_L_law_627 ?_
  refine zr_aload_n C d_L_law_628 rfl ?_
  refine zr_iload_n C d_L_law_629 rfl ?_
  refine zr_iconst C (3 : Int32) d_L_law_630 (by decide) ?_
  refine zr_iadd C d_L_law_631 ?_
  refine zr_sld C hX hbl hbA hi3 d_L_law_632 ?_
  refine zr_cip (zr_runV (As := [.int (xs (v3 + (1 : Int32)).toNatClampNeg), .int (xs (v3 + (2 : Int32)).toNatClampNeg), .int (xs (v3 + (3 : Int32)).toNatClampNeg)]) (rest := []) C vw_L_78 (c_X8_held l g (xs (v3 + (1 : Int32)).toNatClampNeg) (xs (v3 + (2 : Int32)).toNatClampNeg) (xs (v3 + (3 : Int32)).toNatClampNeg) σ _ h) (sh_0) rfl (by decide) (by decide) rfl rfl (Nat.le_of_ble_eq_true rfl) d_L_law_633) (fun r1 h => ?_)
  refine zr_pop C d_L_law_636 rfl ?_
  refine zr_aload_n C d_L_law_637 rfl ?_
  refine zr_aload_n C d_L_law_638 rfl ?_
  refine zr_iload_n C d_L_law_639 rfl ?_
  refine zr_iconst C (1 : Int32) d_L_law_640 (by decide) ?_
  refine zr_iadd C d_L_law_641 ?_
  refine zr_sld C hX hbl hbA hi1 d_L_law_642 ?_
  refine zr_aload_n C d_L_law_643 rfl ?_
  refine zr_iload_n C d_L_law_644 rfl ?_
  refine zr_iconst C (2 : Int32) d_L_law_645 (by decide) ?_
  refine zr_iadd C d_L_law_646 ?_
  refine zr_sld C hX hbl hbA hi2 d_L_law_647 ?_
  refine zr_aload_n C d_L_law_648 rfl ?_
  refine zr_iload_n C d_L_law_649 rfl ?_
  refine zr_iconst C (3 : Int32) d_L_law_650 (by decide) ?_
  refine zr_iadd C d_L_law_651 ?_
  refine zr_sld C hX hbl hbA hi3 d_L_law_652 ?_
  refine zr_cip (zr_runV (As := [.int (xs (v3 + (1 : Int32)).toNatClampNeg), .int (xs (v3 + (2 : Int32)).toNatClampNeg), .int (xs (v3 + (3 : Int32)).toNatClampNeg)]) (rest := []) C vw_L_81 (c_X9_held l g (xs (v3 + (1 : Int32)).toNatClampNeg) (xs (v3 + (2 : Int32)).toNatClampNeg) (xs (v3 + (3 : Int32)).toNatClampNeg) σ _ h) (sh_69) rfl (by decide) (by decide) rfl rfl (Nat.le_of_ble_eq_true rfl) d_L_law_653) (fun r3 h => ?_)
  refine zr_pop C d_L_law_656 rfl ?_
  refine zr_goto C 1310 d_L_law_657 (by decide) ?_
  exact zr_pick [0, 1, 2, 3] rfl (hK σ h)
def wL_16 (a1 a2 a3 a4 a5 : Int32) (σ : zST) (K : zST → Prop) : Prop := wp_X8_bound a1 a2 a3 σ (fun r1 σ2 => wp_X9_bound a1 a2 a3 σ2 (fun r3 σ4 => K σ4))
set_option maxRecDepth 100000 in
set_option maxHeartbeats 4000000 in
theorem gL_16 {p : Program} {l : Launch} {e : Env} {R : Room} {s : State} {m : MethodId} {args : Array Value} {below : List Frame} {meth : Method} {c : Code} {Q : State → Prop} {g : zG} {n1 n2 : Nat} (C : zCX p R s m args meth c g n1 n2 cL_law 4 RL 7 164) {b L : Nat} {xs : Nat → Int32} (hX : va_X b L xs s s.heap) (hbl : b < s.heap.size) (hbA : ¬ zA g b) {v3 : Int32} (hi0 : vp_in v3 L) (hi1 : vp_in (v3 + 1) L) (hi2 : vp_in (v3 + 2) L) (hi3 : vp_in (v3 + 3) L) (hi4 : vp_in (v3 + 4) L) (hi5 : vp_in (v3 + 5) L) {σ : zST} {K : zST → Prop} (hK : ∀ σ : zST, K σ → zGG p l e R s m args below meth c Q g n1 n2 4 1310 [(0, .ref b), (1, .ref (g.2.1 0)), (2, .ref (g.2.1 69)), (3, .int v3)] [] σ) (h : wL_16 (xs (v3 + (1 : Int32)).toNatClampNeg) (xs (v3 + (2 : Int32)).toNatClampNeg) (xs (v3 + (3 : Int32)).toNatClampNeg) (xs (v3 + (4 : Int32)).toNatClampNeg) (xs (v3 + (5 : Int32)).toNatClampNeg) σ K) : zGG p l e R s m args below meth c Q g n1 n2 4 660 [(0, .ref b), (1, .ref (g.2.1 0)), (2, .ref (g.2.1 69)), (3, .int v3)] [] σ := by
  unfold wL_16 at h
  refine zr_aload_n C d_L_law_660 rfl ?_
  refine zr_aload_n C d_L_law_661 rfl ?_
  refine zr_iload_n C d_L_law_662 rfl ?_
  refine zr_iconst C (1 : Int32) d_L_law_663 (by decide) ?_
  refine zr_iadd C d_L_law_664 ?_
  refine zr_sld C hX hbl hbA hi1 d_L_law_665 ?_
  refine zr_aload_n C d_L_law_666 rfl ?_
  refine zr_iload_n C d_L_law_667 rfl ?_
  refine zr_iconst C (2 : Int32) d_L_law_668 (by decide) ?_
  refine zr_iadd C d_L_law_669 ?_
  refine zr_sld C hX hbl hbA hi2 d_L_law_670 ?_
  refine zr_aload_n C d_L_law_671 rfl ?_
  refine zr_iload_n C d_L_law_672 rfl ?_
  refine zr_iconst C (3 : Int32) d_L_law_673 (by decide) ?_
  refine zr_iadd C d_L_law_674 ?_
  refine zr_sld C hX hbl hbA hi3 d_L_law_675 ?_
  refine zr_ci (zr_runV (As := [.int (xs (v3 + (1 : Int32)).toNatClampNeg), .int (xs (v3 + (2 : Int32)).toNatClampNeg), .int (xs (v3 + (3 : Int32)).toNatClampNeg)]) (rest := []) C vw_L_82 (c_X8_bound l g (xs (v3 + (1 : Int32)).toNatClampNeg) (xs (v3 + (2 : Int32)).toNatClampNeg) (xs (v3 + (3 : Int32)).toNatClampNeg) σ _ h) (sh_0) rfl (by decide) (by decide) rfl rfl (Nat.le_of_ble_eq_true rfl) d_L_law_676) (fun r1 σ2 h => ?_)
  refine zr_pop C d_L_law_679 rfl ?_
  refine zr_aload_n C d_L_law_680 rfl ?_
  refine zr_aload_n C d_L_law_681 rfl ?_
  refine zr_iload_n C d_L_law_682 rfl ?_
  refine zr_iconst C (1 : Int32) d_L_law_683 (by decide) ?_
  refine zr_iadd C d_L_law_684 ?_
  refine zr_sld C hX hbl hbA hi1 d_L_law_685 ?_
  refine zr_aload_n C d_L_law_686 rfl ?_
  refine zr_iload_n C d_L_law_687 rfl ?_
  refine zr_iconst C (2 : Int32) d_L_law_688 (by decide) ?_
  refine zr_iadd C d_L_law_689 ?_
  refine zr_sld C hX hbl hbA hi2 d_L_law_690 ?_
  refine zr_aload_n C d_L_law_691 rfl ?_
  refine zr_iload_n C d_L_law_692 rfl ?_
  refine zr_iconst C (3 : Int32) d_L_law_693 (by decide) ?_
  refine zr_iadd C d_L_law_694 ?_
  refine zr_sld C hX hbl hbA hi3 d_L_law_695 ?_
  refine zr_ci (zr_runV (As := [.int (xs (v3 + (1 : Int32)).toNatClampNeg), .int (xs (v3 + (2 : Int32)).toNatClampNeg), .int (xs (v3 + (3 : Int32)).toNatClampNeg)]) (rest := []) C vw_L_85 (c_X9_bound l g (xs (v3 + (1 : Int32)).toNatClampNeg) (xs (v3 + (2 : Int32)).toNatClampNeg) (xs (v3 + (3 : Int32)).toNatClampNeg) σ2 _ h) (sh_69) rfl (by decide) (by decide) rfl rfl (Nat.le_of_ble_eq_true rfl) d_L_law_696) (fun r3 σ4 h => ?_)
  refine zr_pop C d_L_law_699 rfl ?_
  refine zr_goto C 1310 d_L_law_700 (by decide) ?_
  exact zr_pick [0, 1, 2, 3] rfl (hK σ4 h)
def wL_17 (a1 a2 a3 a4 a5 : Int32) (σ : zST) (K : zST → Prop) : Prop := wp_X8_line a1 a2 a3 σ (fun r1 σ2 => wp_X9_line a1 a2 a3 σ2 (fun r3 σ4 => K σ4))
set_option maxRecDepth 100000 in
set_option maxHeartbeats 4000000 in
theorem gL_17 {p : Program} {l : Launch} {e : Env} {R : Room} {s : State} {m : MethodId} {args : Array Value} {below : List Frame} {meth : Method} {c : Code} {Q : State → Prop} {g : zG} {n1 n2 : Nat} (C : zCX p R s m args meth c g n1 n2 cL_law 4 RL 7 164) {b L : Nat} {xs : Nat → Int32} (hX : va_X b L xs s s.heap) (hbl : b < s.heap.size) (hbA : ¬ zA g b) {v3 : Int32} (hi0 : vp_in v3 L) (hi1 : vp_in (v3 + 1) L) (hi2 : vp_in (v3 + 2) L) (hi3 : vp_in (v3 + 3) L) (hi4 : vp_in (v3 + 4) L) (hi5 : vp_in (v3 + 5) L) {σ : zST} {K : zST → Prop} (hK : ∀ σ : zST, K σ → zGG p l e R s m args below meth c Q g n1 n2 4 1310 [(0, .ref b), (1, .ref (g.2.1 0)), (2, .ref (g.2.1 69)), (3, .int v3)] [] σ) (h : wL_17 (xs (v3 + (1 : Int32)).toNatClampNeg) (xs (v3 + (2 : Int32)).toNatClampNeg) (xs (v3 + (3 : Int32)).toNatClampNeg) (xs (v3 + (4 : Int32)).toNatClampNeg) (xs (v3 + (5 : Int32)).toNatClampNeg) σ K) : zGG p l e R s m args below meth c Q g n1 n2 4 703 [(0, .ref b), (1, .ref (g.2.1 0)), (2, .ref (g.2.1 69)), (3, .int v3)] [] σ := by
  unfold wL_17 at h
  refine zr_aload_n C d_L_law_703 rfl ?_
  refine zr_aload_n C d_L_law_704 rfl ?_
  refine zr_iload_n C d_L_law_705 rfl ?_
  refine zr_iconst C (1 : Int32) d_L_law_706 (by decide) ?_
  refine zr_iadd C d_L_law_707 ?_
  refine zr_sld C hX hbl hbA hi1 d_L_law_708 ?_
  refine zr_aload_n C d_L_law_709 rfl ?_
  refine zr_iload_n C d_L_law_710 rfl ?_
  refine zr_iconst C (2 : Int32) d_L_law_711 (by decide) ?_
  refine zr_iadd C d_L_law_712 ?_
  refine zr_sld C hX hbl hbA hi2 d_L_law_713 ?_
  refine zr_aload_n C d_L_law_714 rfl ?_
  refine zr_iload_n C d_L_law_715 rfl ?_
  refine zr_iconst C (3 : Int32) d_L_law_716 (by decide) ?_
  refine zr_iadd C d_L_law_717 ?_
  refine zr_sld C hX hbl hbA hi3 d_L_law_718 ?_
  refine zr_ci (zr_runV (As := [.int (xs (v3 + (1 : Int32)).toNatClampNeg), .int (xs (v3 + (2 : Int32)).toNatClampNeg), .int (xs (v3 + (3 : Int32)).toNatClampNeg)]) (rest := []) C vw_L_86 (c_X8_line l g (xs (v3 + (1 : Int32)).toNatClampNeg) (xs (v3 + (2 : Int32)).toNatClampNeg) (xs (v3 + (3 : Int32)).toNatClampNeg) σ _ h) (sh_0) rfl (by decide) (by decide) rfl rfl (Nat.le_of_ble_eq_true rfl) d_L_law_719) (fun r1 σ2 h => ?_)
  refine zr_pop C d_L_law_722 rfl ?_
  refine zr_aload_n C d_L_law_723 rfl ?_
  refine zr_aload_n C d_L_law_724 rfl ?_
  refine zr_iload_n C d_L_law_725 rfl ?_
  refine zr_iconst C (1 : Int32) d_L_law_726 (by decide) ?_
  refine zr_iadd C d_L_law_727 ?_
  refine zr_sld C hX hbl hbA hi1 d_L_law_728 ?_
  refine zr_aload_n C d_L_law_729 rfl ?_
  refine zr_iload_n C d_L_law_730 rfl ?_
  refine zr_iconst C (2 : Int32) d_L_law_731 (by decide) ?_
  refine zr_iadd C d_L_law_732 ?_
  refine zr_sld C hX hbl hbA hi2 d_L_law_733 ?_
  refine zr_aload_n C d_L_law_734 rfl ?_
  refine zr_iload_n C d_L_law_735 rfl ?_
  refine zr_iconst C (3 : Int32) d_L_law_736 (by decide) ?_
  refine zr_iadd C d_L_law_737 ?_
  refine zr_sld C hX hbl hbA hi3 d_L_law_738 ?_
  refine zr_ci (zr_runV (As := [.int (xs (v3 + (1 : Int32)).toNatClampNeg), .int (xs (v3 + (2 : Int32)).toNatClampNeg), .int (xs (v3 + (3 : Int32)).toNatClampNeg)]) (rest := []) C vw_L_89 (c_X9_line l g (xs (v3 + (1 : Int32)).toNatClampNeg) (xs (v3 + (2 : Int32)).toNatClampNeg) (xs (v3 + (3 : Int32)).toNatClampNeg) σ2 _ h) (sh_69) rfl (by decide) (by decide) rfl rfl (Nat.le_of_ble_eq_true rfl) d_L_law_739) (fun r3 σ4 h => ?_)
  refine zr_pop C d_L_law_742 rfl ?_
  refine zr_goto C 1310 d_L_law_743 (by decide) ?_
  exact zr_pick [0, 1, 2, 3] rfl (hK σ4 h)
def wL_18 (a1 a2 a3 a4 a5 : Int32) (σ : zST) (K : zST → Prop) : Prop := wp_X8_convoy a1 a2 σ (fun r1 σ2 => wp_X9_convoy a1 a2 σ2 (fun r3 => K σ2))
set_option maxRecDepth 100000 in
set_option maxHeartbeats 4000000 in
theorem gL_18 {p : Program} {l : Launch} {e : Env} {R : Room} {s : State} {m : MethodId} {args : Array Value} {below : List Frame} {meth : Method} {c : Code} {Q : State → Prop} {g : zG} {n1 n2 : Nat} (C : zCX p R s m args meth c g n1 n2 cL_law 4 RL 7 164) {b L : Nat} {xs : Nat → Int32} (hX : va_X b L xs s s.heap) (hbl : b < s.heap.size) (hbA : ¬ zA g b) {v3 : Int32} (hi0 : vp_in v3 L) (hi1 : vp_in (v3 + 1) L) (hi2 : vp_in (v3 + 2) L) (hi3 : vp_in (v3 + 3) L) (hi4 : vp_in (v3 + 4) L) (hi5 : vp_in (v3 + 5) L) {σ : zST} {K : zST → Prop} (hK : ∀ σ : zST, K σ → zGG p l e R s m args below meth c Q g n1 n2 4 1310 [(0, .ref b), (1, .ref (g.2.1 0)), (2, .ref (g.2.1 69)), (3, .int v3)] [] σ) (h : wL_18 (xs (v3 + (1 : Int32)).toNatClampNeg) (xs (v3 + (2 : Int32)).toNatClampNeg) (xs (v3 + (3 : Int32)).toNatClampNeg) (xs (v3 + (4 : Int32)).toNatClampNeg) (xs (v3 + (5 : Int32)).toNatClampNeg) σ K) : zGG p l e R s m args below meth c Q g n1 n2 4 746 [(0, .ref b), (1, .ref (g.2.1 0)), (2, .ref (g.2.1 69)), (3, .int v3)] [] σ := by
  unfold wL_18 at h
  refine zr_aload_n C d_L_law_746 rfl ?_
  refine zr_aload_n C d_L_law_747 rfl ?_
  refine zr_iload_n C d_L_law_748 rfl ?_
  refine zr_iconst C (1 : Int32) d_L_law_749 (by decide) ?_
  refine zr_iadd C d_L_law_750 ?_
  refine zr_sld C hX hbl hbA hi1 d_L_law_751 ?_
  refine zr_aload_n C d_L_law_752 rfl ?_
  refine zr_iload_n C d_L_law_753 rfl ?_
  refine zr_iconst C (2 : Int32) d_L_law_754 (by decide) ?_
  refine zr_iadd C d_L_law_755 ?_
  refine zr_sld C hX hbl hbA hi2 d_L_law_756 ?_
  refine zr_ci (zr_runV (As := [.int (xs (v3 + (1 : Int32)).toNatClampNeg), .int (xs (v3 + (2 : Int32)).toNatClampNeg)]) (rest := []) C vw_L_90 (c_X8_convoy l g (xs (v3 + (1 : Int32)).toNatClampNeg) (xs (v3 + (2 : Int32)).toNatClampNeg) σ _ h) (sh_0) rfl (by decide) (by decide) rfl rfl (Nat.le_of_ble_eq_true rfl) d_L_law_757) (fun r1 σ2 h => ?_)
  refine zr_pop C d_L_law_760 rfl ?_
  refine zr_aload_n C d_L_law_761 rfl ?_
  refine zr_aload_n C d_L_law_762 rfl ?_
  refine zr_iload_n C d_L_law_763 rfl ?_
  refine zr_iconst C (1 : Int32) d_L_law_764 (by decide) ?_
  refine zr_iadd C d_L_law_765 ?_
  refine zr_sld C hX hbl hbA hi1 d_L_law_766 ?_
  refine zr_aload_n C d_L_law_767 rfl ?_
  refine zr_iload_n C d_L_law_768 rfl ?_
  refine zr_iconst C (2 : Int32) d_L_law_769 (by decide) ?_
  refine zr_iadd C d_L_law_770 ?_
  refine zr_sld C hX hbl hbA hi2 d_L_law_771 ?_
  refine zr_cip (zr_runV (As := [.int (xs (v3 + (1 : Int32)).toNatClampNeg), .int (xs (v3 + (2 : Int32)).toNatClampNeg)]) (rest := []) C vw_L_93 (c_X9_convoy l g (xs (v3 + (1 : Int32)).toNatClampNeg) (xs (v3 + (2 : Int32)).toNatClampNeg) σ2 _ h) (sh_69) rfl (by decide) (by decide) rfl rfl (Nat.le_of_ble_eq_true rfl) d_L_law_772) (fun r3 h => ?_)
  refine zr_pop C d_L_law_775 rfl ?_
  refine zr_goto C 1310 d_L_law_776 (by decide) ?_
  exact zr_pick [0, 1, 2, 3] rfl (hK σ2 h)
def wL_19 (a1 a2 a3 a4 a5 : Int32) (σ : zST) (K : zST → Prop) : Prop := wp_X8_captain a1 a2 σ (fun r1 => wp_X9_captain a1 a2 σ (fun r3 => K σ))
set_option maxRecDepth 100000 in
set_option maxHeartbeats 4000000 in
theorem gL_19 {p : Program} {l : Launch} {e : Env} {R : Room} {s : State} {m : MethodId} {args : Array Value} {below : List Frame} {meth : Method} {c : Code} {Q : State → Prop} {g : zG} {n1 n2 : Nat} (C : zCX p R s m args meth c g n1 n2 cL_law 4 RL 7 164) {b L : Nat} {xs : Nat → Int32} (hX : va_X b L xs s s.heap) (hbl : b < s.heap.size) (hbA : ¬ zA g b) {v3 : Int32} (hi0 : vp_in v3 L) (hi1 : vp_in (v3 + 1) L) (hi2 : vp_in (v3 + 2) L) (hi3 : vp_in (v3 + 3) L) (hi4 : vp_in (v3 + 4) L) (hi5 : vp_in (v3 + 5) L) {σ : zST} {K : zST → Prop} (hK : ∀ σ : zST, K σ → zGG p l e R s m args below meth c Q g n1 n2 4 1310 [(0, .ref b), (1, .ref (g.2.1 0)), (2, .ref (g.2.1 69)), (3, .int v3)] [] σ) (h : wL_19 (xs (v3 + (1 : Int32)).toNatClampNeg) (xs (v3 + (2 : Int32)).toNatClampNeg) (xs (v3 + (3 : Int32)).toNatClampNeg) (xs (v3 + (4 : Int32)).toNatClampNeg) (xs (v3 + (5 : Int32)).toNatClampNeg) σ K) : zGG p l e R s m args below meth c Q g n1 n2 4 779 [(0, .ref b), (1, .ref (g.2.1 0)), (2, .ref (g.2.1 69)), (3, .int v3)] [] σ := by
  unfold wL_19 at h
  refine zr_aload_n C d_L_law_779 rfl ?_
  refine zr_aload_n C d_L_law_780 rfl ?_
  refine zr_iload_n C d_L_law_781 rfl ?_
  refine zr_iconst C (1 : Int32) d_L_law_782 (by decide) ?_
  refine zr_iadd C d_L_law_783 ?_
  refine zr_sld C hX hbl hbA hi1 d_L_law_784 ?_
  refine zr_aload_n C d_L_law_785 rfl ?_
  refine zr_iload_n C d_L_law_786 rfl ?_
  refine zr_iconst C (2 : Int32) d_L_law_787 (by decide) ?_
  refine zr_iadd C d_L_law_788 ?_
  refine zr_sld C hX hbl hbA hi2 d_L_law_789 ?_
  refine zr_cip (zr_runV (As := [.int (xs (v3 + (1 : Int32)).toNatClampNeg), .int (xs (v3 + (2 : Int32)).toNatClampNeg)]) (rest := []) C vw_L_94 (c_X8_captain l g (xs (v3 + (1 : Int32)).toNatClampNeg) (xs (v3 + (2 : Int32)).toNatClampNeg) σ _ h) (sh_0) rfl (by decide) (by decide) rfl rfl (Nat.le_of_ble_eq_true rfl) d_L_law_790) (fun r1 h => ?_)
  refine zr_pop C d_L_law_793 rfl ?_
  refine zr_aload_n C d_L_law_794 rfl ?_
  refine zr_aload_n C d_L_law_795 rfl ?_
  refine zr_iload_n C d_L_law_796 rfl ?_
  refine zr_iconst C (1 : Int32) d_L_law_797 (by decide) ?_
  refine zr_iadd C d_L_law_798 ?_
  refine zr_sld C hX hbl hbA hi1 d_L_law_799 ?_
  refine zr_aload_n C d_L_law_800 rfl ?_
  refine zr_iload_n C d_L_law_801 rfl ?_
  refine zr_iconst C (2 : Int32) d_L_law_802 (by decide) ?_
  refine zr_iadd C d_L_law_803 ?_
  refine zr_sld C hX hbl hbA hi2 d_L_law_804 ?_
  refine zr_cip (zr_runV (As := [.int (xs (v3 + (1 : Int32)).toNatClampNeg), .int (xs (v3 + (2 : Int32)).toNatClampNeg)]) (rest := []) C vw_L_97 (c_X9_captain l g (xs (v3 + (1 : Int32)).toNatClampNeg) (xs (v3 + (2 : Int32)).toNatClampNeg) σ _ h) (sh_69) rfl (by decide) (by decide) rfl rfl (Nat.le_of_ble_eq_true rfl) d_L_law_805) (fun r3 h => ?_)
  refine zr_pop C d_L_law_808 rfl ?_
  refine zr_goto C 1310 d_L_law_809 (by decide) ?_
  exact zr_pick [0, 1, 2, 3] rfl (hK σ h)
def wL_20 (a1 a2 a3 a4 a5 : Int32) (σ : zST) (K : zST → Prop) : Prop := wp_X8_persuaded a1 a2 σ (fun r1 => wp_X9_persuaded a1 a2 σ (fun r3 => K σ))
set_option maxRecDepth 100000 in
set_option maxHeartbeats 4000000 in
theorem gL_20 {p : Program} {l : Launch} {e : Env} {R : Room} {s : State} {m : MethodId} {args : Array Value} {below : List Frame} {meth : Method} {c : Code} {Q : State → Prop} {g : zG} {n1 n2 : Nat} (C : zCX p R s m args meth c g n1 n2 cL_law 4 RL 7 164) {b L : Nat} {xs : Nat → Int32} (hX : va_X b L xs s s.heap) (hbl : b < s.heap.size) (hbA : ¬ zA g b) {v3 : Int32} (hi0 : vp_in v3 L) (hi1 : vp_in (v3 + 1) L) (hi2 : vp_in (v3 + 2) L) (hi3 : vp_in (v3 + 3) L) (hi4 : vp_in (v3 + 4) L) (hi5 : vp_in (v3 + 5) L) {σ : zST} {K : zST → Prop} (hK : ∀ σ : zST, K σ → zGG p l e R s m args below meth c Q g n1 n2 4 1310 [(0, .ref b), (1, .ref (g.2.1 0)), (2, .ref (g.2.1 69)), (3, .int v3)] [] σ) (h : wL_20 (xs (v3 + (1 : Int32)).toNatClampNeg) (xs (v3 + (2 : Int32)).toNatClampNeg) (xs (v3 + (3 : Int32)).toNatClampNeg) (xs (v3 + (4 : Int32)).toNatClampNeg) (xs (v3 + (5 : Int32)).toNatClampNeg) σ K) : zGG p l e R s m args below meth c Q g n1 n2 4 812 [(0, .ref b), (1, .ref (g.2.1 0)), (2, .ref (g.2.1 69)), (3, .int v3)] [] σ := by
  unfold wL_20 at h
  refine zr_aload_n C d_L_law_812 rfl ?_
  refine zr_aload_n C d_L_law_813 rfl ?_
  refine zr_iload_n C d_L_law_814 rfl ?_
  refine zr_iconst C (1 : Int32) d_L_law_815 (by decide) ?_
  refine zr_iadd C d_L_law_816 ?_
  refine zr_sld C hX hbl hbA hi1 d_L_law_817 ?_
  refine zr_aload_n C d_L_law_818 rfl ?_
  refine zr_iload_n C d_L_law_819 rfl ?_
  refine zr_iconst C (2 : Int32) d_L_law_820 (by decide) ?_
  refine zr_iadd C d_L_law_821 ?_
  refine zr_sld C hX hbl hbA hi2 d_L_law_822 ?_
  refine zr_cip (zr_runV (As := [.int (xs (v3 + (1 : Int32)).toNatClampNeg), .int (xs (v3 + (2 : Int32)).toNatClampNeg)]) (rest := []) C vw_L_98 (c_X8_persuaded l g (xs (v3 + (1 : Int32)).toNatClampNeg) (xs (v3 + (2 : Int32)).toNatClampNeg) σ _ h) (sh_0) rfl (by decide) (by decide) rfl rfl (Nat.le_of_ble_eq_true rfl) d_L_law_823) (fun r1 h => ?_)
  refine zr_pop C d_L_law_826 rfl ?_
  refine zr_aload_n C d_L_law_827 rfl ?_
  refine zr_aload_n C d_L_law_828 rfl ?_
  refine zr_iload_n C d_L_law_829 rfl ?_
  refine zr_iconst C (1 : Int32) d_L_law_830 (by decide) ?_
  refine zr_iadd C d_L_law_831 ?_
  refine zr_sld C hX hbl hbA hi1 d_L_law_832 ?_
  refine zr_aload_n C d_L_law_833 rfl ?_
  refine zr_iload_n C d_L_law_834 rfl ?_
  refine zr_iconst C (2 : Int32) d_L_law_835 (by decide) ?_
  refine zr_iadd C d_L_law_836 ?_
  refine zr_sld C hX hbl hbA hi2 d_L_law_837 ?_
  refine zr_cip (zr_runV (As := [.int (xs (v3 + (1 : Int32)).toNatClampNeg), .int (xs (v3 + (2 : Int32)).toNatClampNeg)]) (rest := []) C vw_L_101 (c_X9_persuaded l g (xs (v3 + (1 : Int32)).toNatClampNeg) (xs (v3 + (2 : Int32)).toNatClampNeg) σ _ h) (sh_69) rfl (by decide) (by decide) rfl rfl (Nat.le_of_ble_eq_true rfl) d_L_law_838) (fun r3 h => ?_)
  refine zr_pop C d_L_law_841 rfl ?_
  refine zr_goto C 1310 d_L_law_842 (by decide) ?_
  exact zr_pick [0, 1, 2, 3] rfl (hK σ h)
def wL_21 (a1 a2 a3 a4 a5 : Int32) (σ : zST) (K : zST → Prop) : Prop := wp_X8_offer a1 a2 a3 σ (fun r1 σ2 => wp_X9_offer a1 a2 a3 σ2 (fun r3 σ4 => K σ4))
set_option maxRecDepth 100000 in
set_option maxHeartbeats 4000000 in
theorem gL_21 {p : Program} {l : Launch} {e : Env} {R : Room} {s : State} {m : MethodId} {args : Array Value} {below : List Frame} {meth : Method} {c : Code} {Q : State → Prop} {g : zG} {n1 n2 : Nat} (C : zCX p R s m args meth c g n1 n2 cL_law 4 RL 7 164) {b L : Nat} {xs : Nat → Int32} (hX : va_X b L xs s s.heap) (hbl : b < s.heap.size) (hbA : ¬ zA g b) {v3 : Int32} (hi0 : vp_in v3 L) (hi1 : vp_in (v3 + 1) L) (hi2 : vp_in (v3 + 2) L) (hi3 : vp_in (v3 + 3) L) (hi4 : vp_in (v3 + 4) L) (hi5 : vp_in (v3 + 5) L) {σ : zST} {K : zST → Prop} (hK : ∀ σ : zST, K σ → zGG p l e R s m args below meth c Q g n1 n2 4 1310 [(0, .ref b), (1, .ref (g.2.1 0)), (2, .ref (g.2.1 69)), (3, .int v3)] [] σ) (h : wL_21 (xs (v3 + (1 : Int32)).toNatClampNeg) (xs (v3 + (2 : Int32)).toNatClampNeg) (xs (v3 + (3 : Int32)).toNatClampNeg) (xs (v3 + (4 : Int32)).toNatClampNeg) (xs (v3 + (5 : Int32)).toNatClampNeg) σ K) : zGG p l e R s m args below meth c Q g n1 n2 4 845 [(0, .ref b), (1, .ref (g.2.1 0)), (2, .ref (g.2.1 69)), (3, .int v3)] [] σ := by
  unfold wL_21 at h
  refine zr_aload_n C d_L_law_845 rfl ?_
  refine zr_aload_n C d_L_law_846 rfl ?_
  refine zr_iload_n C d_L_law_847 rfl ?_
  refine zr_iconst C (1 : Int32) d_L_law_848 (by decide) ?_
  refine zr_iadd C d_L_law_849 ?_
  refine zr_sld C hX hbl hbA hi1 d_L_law_850 ?_
  refine zr_aload_n C d_L_law_851 rfl ?_
  refine zr_iload_n C d_L_law_852 rfl ?_
  refine zr_iconst C (2 : Int32) d_L_law_853 (by decide) ?_
  refine zr_iadd C d_L_law_854 ?_
  refine zr_sld C hX hbl hbA hi2 d_L_law_855 ?_
  refine zr_aload_n C d_L_law_856 rfl ?_
  refine zr_iload_n C d_L_law_857 rfl ?_
  refine zr_iconst C (3 : Int32) d_L_law_858 (by decide) ?_
  refine zr_iadd C d_L_law_859 ?_
  refine zr_sld C hX hbl hbA hi3 d_L_law_860 ?_
  refine zr_ci (zr_runV (As := [.int (xs (v3 + (1 : Int32)).toNatClampNeg), .int (xs (v3 + (2 : Int32)).toNatClampNeg), .int (xs (v3 + (3 : Int32)).toNatClampNeg)]) (rest := []) C vw_L_102 (c_X8_offer l g (xs (v3 + (1 : Int32)).toNatClampNeg) (xs (v3 + (2 : Int32)).toNatClampNeg) (xs (v3 + (3 : Int32)).toNatClampNeg) σ _ h) (sh_0) rfl (by decide) (by decide) rfl rfl (Nat.le_of_ble_eq_true rfl) d_L_law_861) (fun r1 σ2 h => ?_)
  refine zr_pop C d_L_law_864 rfl ?_
  refine zr_aload_n C d_L_law_865 rfl ?_
  refine zr_aload_n C d_L_law_866 rfl ?_
  refine zr_iload_n C d_L_law_867 rfl ?_
  refine zr_iconst C (1 : Int32) d_L_law_868 (by decide) ?_
  refine zr_iadd C d_L_law_869 ?_
  refine zr_sld C hX hbl hbA hi1 d_L_law_870 ?_
  refine zr_aload_n C d_L_law_871 rfl ?_
  refine zr_iload_n C d_L_law_872 rfl ?_
  refine zr_iconst C (2 : Int32) d_L_law_873 (by decide) ?_
  refine zr_iadd C d_L_law_874 ?_
  refine zr_sld C hX hbl hbA hi2 d_L_law_875 ?_
  refine zr_aload_n C d_L_law_876 rfl ?_
  refine zr_iload_n C d_L_law_877 rfl ?_
  refine zr_iconst C (3 : Int32) d_L_law_878 (by decide) ?_
  refine zr_iadd C d_L_law_879 ?_
  refine zr_sld C hX hbl hbA hi3 d_L_law_880 ?_
  refine zr_ci (zr_runV (As := [.int (xs (v3 + (1 : Int32)).toNatClampNeg), .int (xs (v3 + (2 : Int32)).toNatClampNeg), .int (xs (v3 + (3 : Int32)).toNatClampNeg)]) (rest := []) C vw_L_105 (c_X9_offer l g (xs (v3 + (1 : Int32)).toNatClampNeg) (xs (v3 + (2 : Int32)).toNatClampNeg) (xs (v3 + (3 : Int32)).toNatClampNeg) σ2 _ h) (sh_69) rfl (by decide) (by decide) rfl rfl (Nat.le_of_ble_eq_true rfl) d_L_law_881) (fun r3 σ4 h => ?_)
  refine zr_pop C d_L_law_884 rfl ?_
  refine zr_goto C 1310 d_L_law_885 (by decide) ?_
  exact zr_pick [0, 1, 2, 3] rfl (hK σ4 h)
def wL_22 (a1 a2 a3 a4 a5 : Int32) (σ : zST) (K : zST → Prop) : Prop := wp_X8_noOffers σ (fun r1 σ2 => wp_X9_noOffers σ2 (fun r3 σ4 => K σ4))
set_option maxRecDepth 100000 in
set_option maxHeartbeats 4000000 in
theorem gL_22 {p : Program} {l : Launch} {e : Env} {R : Room} {s : State} {m : MethodId} {args : Array Value} {below : List Frame} {meth : Method} {c : Code} {Q : State → Prop} {g : zG} {n1 n2 : Nat} (C : zCX p R s m args meth c g n1 n2 cL_law 4 RL 7 164) {b L : Nat} {xs : Nat → Int32} (hX : va_X b L xs s s.heap) (hbl : b < s.heap.size) (hbA : ¬ zA g b) {v3 : Int32} (hi0 : vp_in v3 L) (hi1 : vp_in (v3 + 1) L) (hi2 : vp_in (v3 + 2) L) (hi3 : vp_in (v3 + 3) L) (hi4 : vp_in (v3 + 4) L) (hi5 : vp_in (v3 + 5) L) {σ : zST} {K : zST → Prop} (hK : ∀ σ : zST, K σ → zGG p l e R s m args below meth c Q g n1 n2 4 1310 [(0, .ref b), (1, .ref (g.2.1 0)), (2, .ref (g.2.1 69)), (3, .int v3)] [] σ) (h : wL_22 (xs (v3 + (1 : Int32)).toNatClampNeg) (xs (v3 + (2 : Int32)).toNatClampNeg) (xs (v3 + (3 : Int32)).toNatClampNeg) (xs (v3 + (4 : Int32)).toNatClampNeg) (xs (v3 + (5 : Int32)).toNatClampNeg) σ K) : zGG p l e R s m args below meth c Q g n1 n2 4 888 [(0, .ref b), (1, .ref (g.2.1 0)), (2, .ref (g.2.1 69)), (3, .int v3)] [] σ := by
  unfold wL_22 at h
  refine zr_aload_n C d_L_law_888 rfl ?_
  refine zr_ci (zr_runV (As := []) (rest := []) C vw_L_106 (c_X8_noOffers l g σ _ h) (sh_0) rfl (by decide) (by decide) rfl rfl (Nat.le_of_ble_eq_true rfl) d_L_law_889) (fun r1 σ2 h => ?_)
  refine zr_pop C d_L_law_892 rfl ?_
  refine zr_aload_n C d_L_law_893 rfl ?_
  refine zr_ci (zr_runV (As := []) (rest := []) C vw_L_109 (c_X9_noOffers l g σ2 _ h) (sh_69) rfl (by decide) (by decide) rfl rfl (Nat.le_of_ble_eq_true rfl) d_L_law_894) (fun r3 σ4 h => ?_)
  refine zr_pop C d_L_law_897 rfl ?_
  refine zr_goto C 1310 d_L_law_898 (by decide) ?_
  exact zr_pick [0, 1, 2, 3] rfl (hK σ4 h)
def wL_23 (a1 a2 a3 a4 a5 : Int32) (σ : zST) (K : zST → Prop) : Prop := wp_X8_insured a1 a2 a3 σ (fun r1 => wp_X9_insured a1 a2 a3 σ (fun r3 => K σ))
set_option maxRecDepth 100000 in
set_option maxHeartbeats 4000000 in
theorem gL_23 {p : Program} {l : Launch} {e : Env} {R : Room} {s : State} {m : MethodId} {args : Array Value} {below : List Frame} {meth : Method} {c : Code} {Q : State → Prop} {g : zG} {n1 n2 : Nat} (C : zCX p R s m args meth c g n1 n2 cL_law 4 RL 7 164) {b L : Nat} {xs : Nat → Int32} (hX : va_X b L xs s s.heap) (hbl : b < s.heap.size) (hbA : ¬ zA g b) {v3 : Int32} (hi0 : vp_in v3 L) (hi1 : vp_in (v3 + 1) L) (hi2 : vp_in (v3 + 2) L) (hi3 : vp_in (v3 + 3) L) (hi4 : vp_in (v3 + 4) L) (hi5 : vp_in (v3 + 5) L) {σ : zST} {K : zST → Prop} (hK : ∀ σ : zST, K σ → zGG p l e R s m args below meth c Q g n1 n2 4 1310 [(0, .ref b), (1, .ref (g.2.1 0)), (2, .ref (g.2.1 69)), (3, .int v3)] [] σ) (h : wL_23 (xs (v3 + (1 : Int32)).toNatClampNeg) (xs (v3 + (2 : Int32)).toNatClampNeg) (xs (v3 + (3 : Int32)).toNatClampNeg) (xs (v3 + (4 : Int32)).toNatClampNeg) (xs (v3 + (5 : Int32)).toNatClampNeg) σ K) : zGG p l e R s m args below meth c Q g n1 n2 4 901 [(0, .ref b), (1, .ref (g.2.1 0)), (2, .ref (g.2.1 69)), (3, .int v3)] [] σ := by
  unfold wL_23 at h
  refine zr_aload_n C d_L_law_901 rfl ?_
  refine zr_aload_n C d_L_law_902 rfl ?_
  refine zr_iload_n C d_L_law_903 rfl ?_
  refine zr_iconst C (1 : Int32) d_L_law_904 (by decide) ?_
  refine zr_iadd C d_L_law_905 ?_
  refine zr_sld C hX hbl hbA hi1 d_L_law_906 ?_
  refine zr_aload_n C d_L_law_907 rfl ?_
  refine zr_iload_n C d_L_law_908 rfl ?_
  refine zr_iconst C (2 : Int32) d_L_law_909 (by decide) ?_
  refine zr_iadd C d_L_law_910 ?_
  refine zr_sld C hX hbl hbA hi2 d_L_law_911 ?_
  refine zr_aload_n C d_L_law_912 rfl ?_
  refine zr_iload_n C d_L_law_913 rfl ?_
  refine zr_iconst C (3 : Int32) d_L_law_914 (by decide) ?_
  refine zr_iadd C d_L_law_915 ?_
  refine zr_sld C hX hbl hbA hi3 d_L_law_916 ?_
  refine zr_cip (zr_runV (As := [.int (xs (v3 + (1 : Int32)).toNatClampNeg), .int (xs (v3 + (2 : Int32)).toNatClampNeg), .int (xs (v3 + (3 : Int32)).toNatClampNeg)]) (rest := []) C vw_L_110 (c_X8_insured l g (xs (v3 + (1 : Int32)).toNatClampNeg) (xs (v3 + (2 : Int32)).toNatClampNeg) (xs (v3 + (3 : Int32)).toNatClampNeg) σ _ h) (sh_0) rfl (by decide) (by decide) rfl rfl (Nat.le_of_ble_eq_true rfl) d_L_law_917) (fun r1 h => ?_)
  refine zr_pop C d_L_law_920 rfl ?_
  refine zr_aload_n C d_L_law_921 rfl ?_
  refine zr_aload_n C d_L_law_922 rfl ?_
  refine zr_iload_n C d_L_law_923 rfl ?_
  refine zr_iconst C (1 : Int32) d_L_law_924 (by decide) ?_
  refine zr_iadd C d_L_law_925 ?_
  refine zr_sld C hX hbl hbA hi1 d_L_law_926 ?_
  refine zr_aload_n C d_L_law_927 rfl ?_
  refine zr_iload_n C d_L_law_928 rfl ?_
  refine zr_iconst C (2 : Int32) d_L_law_929 (by decide) ?_
  refine zr_iadd C d_L_law_930 ?_
  refine zr_sld C hX hbl hbA hi2 d_L_law_931 ?_
  refine zr_aload_n C d_L_law_932 rfl ?_
  refine zr_iload_n C d_L_law_933 rfl ?_
  refine zr_iconst C (3 : Int32) d_L_law_934 (by decide) ?_
  refine zr_iadd C d_L_law_935 ?_
  refine zr_sld C hX hbl hbA hi3 d_L_law_936 ?_
  refine zr_cip (zr_runV (As := [.int (xs (v3 + (1 : Int32)).toNatClampNeg), .int (xs (v3 + (2 : Int32)).toNatClampNeg), .int (xs (v3 + (3 : Int32)).toNatClampNeg)]) (rest := []) C vw_L_113 (c_X9_insured l g (xs (v3 + (1 : Int32)).toNatClampNeg) (xs (v3 + (2 : Int32)).toNatClampNeg) (xs (v3 + (3 : Int32)).toNatClampNeg) σ _ h) (sh_69) rfl (by decide) (by decide) rfl rfl (Nat.le_of_ble_eq_true rfl) d_L_law_937) (fun r3 h => ?_)
  refine zr_pop C d_L_law_940 rfl ?_
  refine zr_goto C 1310 d_L_law_941 (by decide) ?_
  exact zr_pick [0, 1, 2, 3] rfl (hK σ h)
def wL_24 (a1 a2 a3 a4 a5 : Int32) (σ : zST) (K : zST → Prop) : Prop := wp_X8_aboard a1 a2 σ (fun r1 σ2 => wp_X9_aboard a1 a2 σ2 (fun r3 σ4 => K σ4))
set_option maxRecDepth 100000 in
set_option maxHeartbeats 4000000 in
theorem gL_24 {p : Program} {l : Launch} {e : Env} {R : Room} {s : State} {m : MethodId} {args : Array Value} {below : List Frame} {meth : Method} {c : Code} {Q : State → Prop} {g : zG} {n1 n2 : Nat} (C : zCX p R s m args meth c g n1 n2 cL_law 4 RL 7 164) {b L : Nat} {xs : Nat → Int32} (hX : va_X b L xs s s.heap) (hbl : b < s.heap.size) (hbA : ¬ zA g b) {v3 : Int32} (hi0 : vp_in v3 L) (hi1 : vp_in (v3 + 1) L) (hi2 : vp_in (v3 + 2) L) (hi3 : vp_in (v3 + 3) L) (hi4 : vp_in (v3 + 4) L) (hi5 : vp_in (v3 + 5) L) {σ : zST} {K : zST → Prop} (hK : ∀ σ : zST, K σ → zGG p l e R s m args below meth c Q g n1 n2 4 1310 [(0, .ref b), (1, .ref (g.2.1 0)), (2, .ref (g.2.1 69)), (3, .int v3)] [] σ) (h : wL_24 (xs (v3 + (1 : Int32)).toNatClampNeg) (xs (v3 + (2 : Int32)).toNatClampNeg) (xs (v3 + (3 : Int32)).toNatClampNeg) (xs (v3 + (4 : Int32)).toNatClampNeg) (xs (v3 + (5 : Int32)).toNatClampNeg) σ K) : zGG p l e R s m args below meth c Q g n1 n2 4 944 [(0, .ref b), (1, .ref (g.2.1 0)), (2, .ref (g.2.1 69)), (3, .int v3)] [] σ := by
  unfold wL_24 at h
  refine zr_aload_n C d_L_law_944 rfl ?_
  refine zr_aload_n C d_L_law_945 rfl ?_
  refine zr_iload_n C d_L_law_946 rfl ?_
  refine zr_iconst C (1 : Int32) d_L_law_947 (by decide) ?_
  refine zr_iadd C d_L_law_948 ?_
  refine zr_sld C hX hbl hbA hi1 d_L_law_949 ?_
  refine zr_aload_n C d_L_law_950 rfl ?_
  refine zr_iload_n C d_L_law_951 rfl ?_
  refine zr_iconst C (2 : Int32) d_L_law_952 (by decide) ?_
  refine zr_iadd C d_L_law_953 ?_
  refine zr_sld C hX hbl hbA hi2 d_L_law_954 ?_
  refine zr_ci (zr_runV (As := [.int (xs (v3 + (1 : Int32)).toNatClampNeg), .int (xs (v3 + (2 : Int32)).toNatClampNeg)]) (rest := []) C vw_L_114 (c_X8_aboard l g (xs (v3 + (1 : Int32)).toNatClampNeg) (xs (v3 + (2 : Int32)).toNatClampNeg) σ _ h) (sh_0) rfl (by decide) (by decide) rfl rfl (Nat.le_of_ble_eq_true rfl) d_L_law_955) (fun r1 σ2 h => ?_)
  refine zr_pop C d_L_law_958 rfl ?_
  refine zr_aload_n C d_L_law_959 rfl ?_
  refine zr_aload_n C d_L_law_960 rfl ?_
  refine zr_iload_n C d_L_law_961 rfl ?_
  refine zr_iconst C (1 : Int32) d_L_law_962 (by decide) ?_
  refine zr_iadd C d_L_law_963 ?_
  refine zr_sld C hX hbl hbA hi1 d_L_law_964 ?_
  refine zr_aload_n C d_L_law_965 rfl ?_
  refine zr_iload_n C d_L_law_966 rfl ?_
  refine zr_iconst C (2 : Int32) d_L_law_967 (by decide) ?_
  refine zr_iadd C d_L_law_968 ?_
  refine zr_sld C hX hbl hbA hi2 d_L_law_969 ?_
  refine zr_ci (zr_runV (As := [.int (xs (v3 + (1 : Int32)).toNatClampNeg), .int (xs (v3 + (2 : Int32)).toNatClampNeg)]) (rest := []) C vw_L_117 (c_X9_aboard l g (xs (v3 + (1 : Int32)).toNatClampNeg) (xs (v3 + (2 : Int32)).toNatClampNeg) σ2 _ h) (sh_69) rfl (by decide) (by decide) rfl rfl (Nat.le_of_ble_eq_true rfl) d_L_law_970) (fun r3 σ4 h => ?_)
  refine zr_pop C d_L_law_973 rfl ?_
  refine zr_goto C 1310 d_L_law_974 (by decide) ?_
  exact zr_pick [0, 1, 2, 3] rfl (hK σ4 h)
def wL_25 (a1 a2 a3 a4 a5 : Int32) (σ : zST) (K : zST → Prop) : Prop := wp_X8_ashore a1 σ (fun r1 σ2 => wp_X9_ashore a1 σ2 (fun r3 σ4 => K σ4))
set_option maxRecDepth 100000 in
set_option maxHeartbeats 4000000 in
theorem gL_25 {p : Program} {l : Launch} {e : Env} {R : Room} {s : State} {m : MethodId} {args : Array Value} {below : List Frame} {meth : Method} {c : Code} {Q : State → Prop} {g : zG} {n1 n2 : Nat} (C : zCX p R s m args meth c g n1 n2 cL_law 4 RL 7 164) {b L : Nat} {xs : Nat → Int32} (hX : va_X b L xs s s.heap) (hbl : b < s.heap.size) (hbA : ¬ zA g b) {v3 : Int32} (hi0 : vp_in v3 L) (hi1 : vp_in (v3 + 1) L) (hi2 : vp_in (v3 + 2) L) (hi3 : vp_in (v3 + 3) L) (hi4 : vp_in (v3 + 4) L) (hi5 : vp_in (v3 + 5) L) {σ : zST} {K : zST → Prop} (hK : ∀ σ : zST, K σ → zGG p l e R s m args below meth c Q g n1 n2 4 1310 [(0, .ref b), (1, .ref (g.2.1 0)), (2, .ref (g.2.1 69)), (3, .int v3)] [] σ) (h : wL_25 (xs (v3 + (1 : Int32)).toNatClampNeg) (xs (v3 + (2 : Int32)).toNatClampNeg) (xs (v3 + (3 : Int32)).toNatClampNeg) (xs (v3 + (4 : Int32)).toNatClampNeg) (xs (v3 + (5 : Int32)).toNatClampNeg) σ K) : zGG p l e R s m args below meth c Q g n1 n2 4 977 [(0, .ref b), (1, .ref (g.2.1 0)), (2, .ref (g.2.1 69)), (3, .int v3)] [] σ := by
  unfold wL_25 at h
  refine zr_aload_n C d_L_law_977 rfl ?_
  refine zr_aload_n C d_L_law_978 rfl ?_
  refine zr_iload_n C d_L_law_979 rfl ?_
  refine zr_iconst C (1 : Int32) d_L_law_980 (by decide) ?_
  refine zr_iadd C d_L_law_981 ?_
  refine zr_sld C hX hbl hbA hi1 d_L_law_982 ?_
  refine zr_ci (zr_runV (As := [.int (xs (v3 + (1 : Int32)).toNatClampNeg)]) (rest := []) C vw_L_118 (c_X8_ashore l g (xs (v3 + (1 : Int32)).toNatClampNeg) σ _ h) (sh_0) rfl (by decide) (by decide) rfl rfl (Nat.le_of_ble_eq_true rfl) d_L_law_983) (fun r1 σ2 h => ?_)
  refine zr_pop C d_L_law_986 rfl ?_
  refine zr_aload_n C d_L_law_987 rfl ?_
  refine zr_aload_n C d_L_law_988 rfl ?_
  refine zr_iload_n C d_L_law_989 rfl ?_
  refine zr_iconst C (1 : Int32) d_L_law_990 (by decide) ?_
  refine zr_iadd C d_L_law_991 ?_
  refine zr_sld C hX hbl hbA hi1 d_L_law_992 ?_
  refine zr_ci (zr_runV (As := [.int (xs (v3 + (1 : Int32)).toNatClampNeg)]) (rest := []) C vw_L_121 (c_X9_ashore l g (xs (v3 + (1 : Int32)).toNatClampNeg) σ2 _ h) (sh_69) rfl (by decide) (by decide) rfl rfl (Nat.le_of_ble_eq_true rfl) d_L_law_993) (fun r3 σ4 h => ?_)
  refine zr_pop C d_L_law_996 rfl ?_
  refine zr_goto C 1310 d_L_law_997 (by decide) ?_
  exact zr_pick [0, 1, 2, 3] rfl (hK σ4 h)
def wL_26 (a1 a2 a3 a4 a5 : Int32) (σ : zST) (K : zST → Prop) : Prop := wp_X8_lot a1 a2 a3 σ (fun r1 => wp_X9_lot a1 a2 a3 σ (fun r3 => K σ))
set_option maxRecDepth 100000 in
set_option maxHeartbeats 4000000 in
theorem gL_26 {p : Program} {l : Launch} {e : Env} {R : Room} {s : State} {m : MethodId} {args : Array Value} {below : List Frame} {meth : Method} {c : Code} {Q : State → Prop} {g : zG} {n1 n2 : Nat} (C : zCX p R s m args meth c g n1 n2 cL_law 4 RL 7 164) {b L : Nat} {xs : Nat → Int32} (hX : va_X b L xs s s.heap) (hbl : b < s.heap.size) (hbA : ¬ zA g b) {v3 : Int32} (hi0 : vp_in v3 L) (hi1 : vp_in (v3 + 1) L) (hi2 : vp_in (v3 + 2) L) (hi3 : vp_in (v3 + 3) L) (hi4 : vp_in (v3 + 4) L) (hi5 : vp_in (v3 + 5) L) {σ : zST} {K : zST → Prop} (hK : ∀ σ : zST, K σ → zGG p l e R s m args below meth c Q g n1 n2 4 1310 [(0, .ref b), (1, .ref (g.2.1 0)), (2, .ref (g.2.1 69)), (3, .int v3)] [] σ) (h : wL_26 (xs (v3 + (1 : Int32)).toNatClampNeg) (xs (v3 + (2 : Int32)).toNatClampNeg) (xs (v3 + (3 : Int32)).toNatClampNeg) (xs (v3 + (4 : Int32)).toNatClampNeg) (xs (v3 + (5 : Int32)).toNatClampNeg) σ K) : zGG p l e R s m args below meth c Q g n1 n2 4 1000 [(0, .ref b), (1, .ref (g.2.1 0)), (2, .ref (g.2.1 69)), (3, .int v3)] [] σ := by
  unfold wL_26 at h
  refine zr_aload_n C d_L_law_1000 rfl ?_
  refine zr_aload_n C d_L_law_1001 rfl ?_
  refine zr_iload_n C d_L_law_1002 rfl ?_
  refine zr_iconst C (1 : Int32) d_L_law_1003 (by decide) ?_
  refine zr_iadd C d_L_law_1004 ?_
  refine zr_sld C hX hbl hbA hi1 d_L_law_1005 ?_
  refine zr_aload_n C d_L_law_1006 rfl ?_
  refine zr_iload_n C d_L_law_1007 rfl ?_
  refine zr_iconst C (2 : Int32) d_L_law_1008 (by decide) ?_
  refine zr_iadd C d_L_law_1009 ?_
  refine zr_sld C hX hbl hbA hi2 d_L_law_1010 ?_
  refine zr_aload_n C d_L_law_1011 rfl ?_
  refine zr_iload_n C d_L_law_1012 rfl ?_
  refine zr_iconst C (3 : Int32) d_L_law_1013 (by decide) ?_
  refine zr_iadd C d_L_law_1014 ?_
  refine zr_sld C hX hbl hbA hi3 d_L_law_1015 ?_
  refine zr_clp (zr_runV (As := [.int (xs (v3 + (1 : Int32)).toNatClampNeg), .int (xs (v3 + (2 : Int32)).toNatClampNeg), .int (xs (v3 + (3 : Int32)).toNatClampNeg)]) (rest := []) C vw_L_122 (c_X8_lot l g (xs (v3 + (1 : Int32)).toNatClampNeg) (xs (v3 + (2 : Int32)).toNatClampNeg) (xs (v3 + (3 : Int32)).toNatClampNeg) σ _ h) (sh_0) rfl (by decide) (by decide) rfl rfl (Nat.le_of_ble_eq_true rfl) d_L_law_1016) (fun r1 h => ?_)
  refine zr_pop2 C d_L_law_1019 rfl ?_
  refine zr_aload_n C d_L_law_1020 rfl ?_
  refine zr_aload_n C d_L_law_1021 rfl ?_
  refine zr_iload_n C d_L_law_1022 rfl ?_
  refine zr_iconst C (1 : Int32) d_L_law_1023 (by decide) ?_
  refine zr_iadd C d_L_law_1024 ?_
  refine zr_sld C hX hbl hbA hi1 d_L_law_1025 ?_
  refine zr_aload_n C d_L_law_1026 rfl ?_
  refine zr_iload_n C d_L_law_1027 rfl ?_
  refine zr_iconst C (2 : Int32) d_L_law_1028 (by decide) ?_
  refine zr_iadd C d_L_law_1029 ?_
  refine zr_sld C hX hbl hbA hi2 d_L_law_1030 ?_
  refine zr_aload_n C d_L_law_1031 rfl ?_
  refine zr_iload_n C d_L_law_1032 rfl ?_
  refine zr_iconst C (3 : Int32) d_L_law_1033 (by decide) ?_
  refine zr_iadd C d_L_law_1034 ?_
  refine zr_sld C hX hbl hbA hi3 d_L_law_1035 ?_
  refine zr_clp (zr_runV (As := [.int (xs (v3 + (1 : Int32)).toNatClampNeg), .int (xs (v3 + (2 : Int32)).toNatClampNeg), .int (xs (v3 + (3 : Int32)).toNatClampNeg)]) (rest := []) C vw_L_126 (c_X9_lot l g (xs (v3 + (1 : Int32)).toNatClampNeg) (xs (v3 + (2 : Int32)).toNatClampNeg) (xs (v3 + (3 : Int32)).toNatClampNeg) σ _ h) (sh_69) rfl (by decide) (by decide) rfl rfl (Nat.le_of_ble_eq_true rfl) d_L_law_1036) (fun r3 h => ?_)
  refine zr_pop2 C d_L_law_1039 rfl ?_
  refine zr_goto C 1310 d_L_law_1040 (by decide) ?_
  exact zr_pick [0, 1, 2, 3] rfl (hK σ h)
def wL_27 (a1 a2 a3 a4 a5 : Int32) (σ : zST) (K : zST → Prop) : Prop := wp_X8_often a1 a2 a3 a4 a5 σ (fun r1 => wp_X9_often a1 a2 a3 a4 a5 σ (fun r3 => K σ))
set_option maxRecDepth 100000 in
set_option maxHeartbeats 4000000 in
theorem gL_27 {p : Program} {l : Launch} {e : Env} {R : Room} {s : State} {m : MethodId} {args : Array Value} {below : List Frame} {meth : Method} {c : Code} {Q : State → Prop} {g : zG} {n1 n2 : Nat} (C : zCX p R s m args meth c g n1 n2 cL_law 4 RL 7 164) {b L : Nat} {xs : Nat → Int32} (hX : va_X b L xs s s.heap) (hbl : b < s.heap.size) (hbA : ¬ zA g b) {v3 : Int32} (hi0 : vp_in v3 L) (hi1 : vp_in (v3 + 1) L) (hi2 : vp_in (v3 + 2) L) (hi3 : vp_in (v3 + 3) L) (hi4 : vp_in (v3 + 4) L) (hi5 : vp_in (v3 + 5) L) {σ : zST} {K : zST → Prop} (hK : ∀ σ : zST, K σ → zGG p l e R s m args below meth c Q g n1 n2 4 1310 [(0, .ref b), (1, .ref (g.2.1 0)), (2, .ref (g.2.1 69)), (3, .int v3)] [] σ) (h : wL_27 (xs (v3 + (1 : Int32)).toNatClampNeg) (xs (v3 + (2 : Int32)).toNatClampNeg) (xs (v3 + (3 : Int32)).toNatClampNeg) (xs (v3 + (4 : Int32)).toNatClampNeg) (xs (v3 + (5 : Int32)).toNatClampNeg) σ K) : zGG p l e R s m args below meth c Q g n1 n2 4 1043 [(0, .ref b), (1, .ref (g.2.1 0)), (2, .ref (g.2.1 69)), (3, .int v3)] [] σ := by
  unfold wL_27 at h
  refine zr_aload_n C d_L_law_1043 rfl ?_
  refine zr_aload_n C d_L_law_1044 rfl ?_
  refine zr_iload_n C d_L_law_1045 rfl ?_
  refine zr_iconst C (1 : Int32) d_L_law_1046 (by decide) ?_
  refine zr_iadd C d_L_law_1047 ?_
  refine zr_sld C hX hbl hbA hi1 d_L_law_1048 ?_
  refine zr_aload_n C d_L_law_1049 rfl ?_
  refine zr_iload_n C d_L_law_1050 rfl ?_
  refine zr_iconst C (2 : Int32) d_L_law_1051 (by decide) ?_
  refine zr_iadd C d_L_law_1052 ?_
  refine zr_sld C hX hbl hbA hi2 d_L_law_1053 ?_
  refine zr_aload_n C d_L_law_1054 rfl ?_
  refine zr_iload_n C d_L_law_1055 rfl ?_
  refine zr_iconst C (3 : Int32) d_L_law_1056 (by decide) ?_
  refine zr_iadd C d_L_law_1057 ?_
  refine zr_sld C hX hbl hbA hi3 d_L_law_1058 ?_
  refine zr_aload_n C d_L_law_1059 rfl ?_
  refine zr_iload_n C d_L_law_1060 rfl ?_
  refine zr_iconst C (4 : Int32) d_L_law_1061 (by decide) ?_
  refine zr_iadd C d_L_law_1062 ?_
  refine zr_sld C hX hbl hbA hi4 d_L_law_1063 ?_
  refine zr_aload_n C d_L_law_1064 rfl ?_
  refine zr_iload_n C d_L_law_1065 rfl ?_
  refine zr_iconst C (5 : Int32) d_L_law_1066 (by decide) ?_
  refine zr_iadd C d_L_law_1067 ?_
  refine zr_sld C hX hbl hbA hi5 d_L_law_1068 ?_
  refine zr_clp (zr_runV (As := [.int (xs (v3 + (1 : Int32)).toNatClampNeg), .int (xs (v3 + (2 : Int32)).toNatClampNeg), .int (xs (v3 + (3 : Int32)).toNatClampNeg), .int (xs (v3 + (4 : Int32)).toNatClampNeg), .int (xs (v3 + (5 : Int32)).toNatClampNeg)]) (rest := []) C vw_L_127 (c_X8_often l g (xs (v3 + (1 : Int32)).toNatClampNeg) (xs (v3 + (2 : Int32)).toNatClampNeg) (xs (v3 + (3 : Int32)).toNatClampNeg) (xs (v3 + (4 : Int32)).toNatClampNeg) (xs (v3 + (5 : Int32)).toNatClampNeg) σ _ h) (sh_0) rfl (by decide) (by decide) rfl rfl (Nat.le_of_ble_eq_true rfl) d_L_law_1069) (fun r1 h => ?_)
  refine zr_pop2 C d_L_law_1072 rfl ?_
  refine zr_aload_n C d_L_law_1073 rfl ?_
  refine zr_aload_n C d_L_law_1074 rfl ?_
  refine zr_iload_n C d_L_law_1075 rfl ?_
  refine zr_iconst C (1 : Int32) d_L_law_1076 (by decide) ?_
  refine zr_iadd C d_L_law_1077 ?_
  refine zr_sld C hX hbl hbA hi1 d_L_law_1078 ?_
  refine zr_aload_n C d_L_law_1079 rfl ?_
  refine zr_iload_n C d_L_law_1080 rfl ?_
  refine zr_iconst C (2 : Int32) d_L_law_1081 (by decide) ?_
  refine zr_iadd C d_L_law_1082 ?_
  refine zr_sld C hX hbl hbA hi2 d_L_law_1083 ?_
  refine zr_aload_n C d_L_law_1084 rfl ?_
  refine zr_iload_n C d_L_law_1085 rfl ?_
  refine zr_iconst C (3 : Int32) d_L_law_1086 (by decide) ?_
  refine zr_iadd C d_L_law_1087 ?_
  refine zr_sld C hX hbl hbA hi3 d_L_law_1088 ?_
  refine zr_aload_n C d_L_law_1089 rfl ?_
  refine zr_iload_n C d_L_law_1090 rfl ?_
  refine zr_iconst C (4 : Int32) d_L_law_1091 (by decide) ?_
  refine zr_iadd C d_L_law_1092 ?_
  refine zr_sld C hX hbl hbA hi4 d_L_law_1093 ?_
  refine zr_aload_n C d_L_law_1094 rfl ?_
  refine zr_iload_n C d_L_law_1095 rfl ?_
  refine zr_iconst C (5 : Int32) d_L_law_1096 (by decide) ?_
  refine zr_iadd C d_L_law_1097 ?_
  refine zr_sld C hX hbl hbA hi5 d_L_law_1098 ?_
  refine zr_clp (zr_runV (As := [.int (xs (v3 + (1 : Int32)).toNatClampNeg), .int (xs (v3 + (2 : Int32)).toNatClampNeg), .int (xs (v3 + (3 : Int32)).toNatClampNeg), .int (xs (v3 + (4 : Int32)).toNatClampNeg), .int (xs (v3 + (5 : Int32)).toNatClampNeg)]) (rest := []) C vw_L_131 (c_X9_often l g (xs (v3 + (1 : Int32)).toNatClampNeg) (xs (v3 + (2 : Int32)).toNatClampNeg) (xs (v3 + (3 : Int32)).toNatClampNeg) (xs (v3 + (4 : Int32)).toNatClampNeg) (xs (v3 + (5 : Int32)).toNatClampNeg) σ _ h) (sh_69) rfl (by decide) (by decide) rfl rfl (Nat.le_of_ble_eq_true rfl) d_L_law_1099) (fun r3 h => ?_)
  refine zr_pop2 C d_L_law_1102 rfl ?_
  refine zr_goto C 1310 d_L_law_1103 (by decide) ?_
  exact zr_pick [0, 1, 2, 3] rfl (hK σ h)
def wL_28 (a1 a2 a3 a4 a5 : Int32) (σ : zST) (K : zST → Prop) : Prop := wp_X8_roll a1 a2 σ (fun r1 σ2 => wp_X9_roll a1 a2 σ2 (fun r3 σ4 => K σ4))
set_option maxRecDepth 100000 in
set_option maxHeartbeats 4000000 in
theorem gL_28 {p : Program} {l : Launch} {e : Env} {R : Room} {s : State} {m : MethodId} {args : Array Value} {below : List Frame} {meth : Method} {c : Code} {Q : State → Prop} {g : zG} {n1 n2 : Nat} (C : zCX p R s m args meth c g n1 n2 cL_law 4 RL 7 164) {b L : Nat} {xs : Nat → Int32} (hX : va_X b L xs s s.heap) (hbl : b < s.heap.size) (hbA : ¬ zA g b) {v3 : Int32} (hi0 : vp_in v3 L) (hi1 : vp_in (v3 + 1) L) (hi2 : vp_in (v3 + 2) L) (hi3 : vp_in (v3 + 3) L) (hi4 : vp_in (v3 + 4) L) (hi5 : vp_in (v3 + 5) L) {σ : zST} {K : zST → Prop} (hK : ∀ σ : zST, K σ → zGG p l e R s m args below meth c Q g n1 n2 4 1310 [(0, .ref b), (1, .ref (g.2.1 0)), (2, .ref (g.2.1 69)), (3, .int v3)] [] σ) (h : wL_28 (xs (v3 + (1 : Int32)).toNatClampNeg) (xs (v3 + (2 : Int32)).toNatClampNeg) (xs (v3 + (3 : Int32)).toNatClampNeg) (xs (v3 + (4 : Int32)).toNatClampNeg) (xs (v3 + (5 : Int32)).toNatClampNeg) σ K) : zGG p l e R s m args below meth c Q g n1 n2 4 1106 [(0, .ref b), (1, .ref (g.2.1 0)), (2, .ref (g.2.1 69)), (3, .int v3)] [] σ := by
  unfold wL_28 at h
  refine zr_aload_n C d_L_law_1106 rfl ?_
  refine zr_aload_n C d_L_law_1107 rfl ?_
  refine zr_iload_n C d_L_law_1108 rfl ?_
  refine zr_iconst C (1 : Int32) d_L_law_1109 (by decide) ?_
  refine zr_iadd C d_L_law_1110 ?_
  refine zr_sld C hX hbl hbA hi1 d_L_law_1111 ?_
  refine zr_aload_n C d_L_law_1112 rfl ?_
  refine zr_iload_n C d_L_law_1113 rfl ?_
  refine zr_iconst C (2 : Int32) d_L_law_1114 (by decide) ?_
  refine zr_iadd C d_L_law_1115 ?_
  refine zr_sld C hX hbl hbA hi2 d_L_law_1116 ?_
  refine zr_ci (zr_runV (As := [.int (xs (v3 + (1 : Int32)).toNatClampNeg), .int (xs (v3 + (2 : Int32)).toNatClampNeg)]) (rest := []) C vw_L_132 (c_X8_roll l g (xs (v3 + (1 : Int32)).toNatClampNeg) (xs (v3 + (2 : Int32)).toNatClampNeg) σ _ h) (sh_0) rfl (by decide) (by decide) rfl rfl (Nat.le_of_ble_eq_true rfl) d_L_law_1117) (fun r1 σ2 h => ?_)
  refine zr_pop C d_L_law_1120 rfl ?_
  refine zr_aload_n C d_L_law_1121 rfl ?_
  refine zr_aload_n C d_L_law_1122 rfl ?_
  refine zr_iload_n C d_L_law_1123 rfl ?_
  refine zr_iconst C (1 : Int32) d_L_law_1124 (by decide) ?_
  refine zr_iadd C d_L_law_1125 ?_
  refine zr_sld C hX hbl hbA hi1 d_L_law_1126 ?_
  refine zr_aload_n C d_L_law_1127 rfl ?_
  refine zr_iload_n C d_L_law_1128 rfl ?_
  refine zr_iconst C (2 : Int32) d_L_law_1129 (by decide) ?_
  refine zr_iadd C d_L_law_1130 ?_
  refine zr_sld C hX hbl hbA hi2 d_L_law_1131 ?_
  refine zr_ci (zr_runV (As := [.int (xs (v3 + (1 : Int32)).toNatClampNeg), .int (xs (v3 + (2 : Int32)).toNatClampNeg)]) (rest := []) C vw_L_135 (c_X9_roll l g (xs (v3 + (1 : Int32)).toNatClampNeg) (xs (v3 + (2 : Int32)).toNatClampNeg) σ2 _ h) (sh_69) rfl (by decide) (by decide) rfl rfl (Nat.le_of_ble_eq_true rfl) d_L_law_1132) (fun r3 σ4 h => ?_)
  refine zr_pop C d_L_law_1135 rfl ?_
  refine zr_goto C 1310 d_L_law_1136 (by decide) ?_
  exact zr_pick [0, 1, 2, 3] rfl (hK σ4 h)
def wL_29 (a1 a2 a3 a4 a5 : Int32) (σ : zST) (K : zST → Prop) : Prop := wp_X8_forget σ (fun r1 σ2 => wp_X9_forget σ2 (fun r3 σ4 => K σ4))
set_option maxRecDepth 100000 in
set_option maxHeartbeats 4000000 in
theorem gL_29 {p : Program} {l : Launch} {e : Env} {R : Room} {s : State} {m : MethodId} {args : Array Value} {below : List Frame} {meth : Method} {c : Code} {Q : State → Prop} {g : zG} {n1 n2 : Nat} (C : zCX p R s m args meth c g n1 n2 cL_law 4 RL 7 164) {b L : Nat} {xs : Nat → Int32} (hX : va_X b L xs s s.heap) (hbl : b < s.heap.size) (hbA : ¬ zA g b) {v3 : Int32} (hi0 : vp_in v3 L) (hi1 : vp_in (v3 + 1) L) (hi2 : vp_in (v3 + 2) L) (hi3 : vp_in (v3 + 3) L) (hi4 : vp_in (v3 + 4) L) (hi5 : vp_in (v3 + 5) L) {σ : zST} {K : zST → Prop} (hK : ∀ σ : zST, K σ → zGG p l e R s m args below meth c Q g n1 n2 4 1310 [(0, .ref b), (1, .ref (g.2.1 0)), (2, .ref (g.2.1 69)), (3, .int v3)] [] σ) (h : wL_29 (xs (v3 + (1 : Int32)).toNatClampNeg) (xs (v3 + (2 : Int32)).toNatClampNeg) (xs (v3 + (3 : Int32)).toNatClampNeg) (xs (v3 + (4 : Int32)).toNatClampNeg) (xs (v3 + (5 : Int32)).toNatClampNeg) σ K) : zGG p l e R s m args below meth c Q g n1 n2 4 1139 [(0, .ref b), (1, .ref (g.2.1 0)), (2, .ref (g.2.1 69)), (3, .int v3)] [] σ := by
  unfold wL_29 at h
  refine zr_aload_n C d_L_law_1139 rfl ?_
  refine zr_ci (zr_runV (As := []) (rest := []) C vw_L_136 (c_X8_forget l g σ _ h) (sh_0) rfl (by decide) (by decide) rfl rfl (Nat.le_of_ble_eq_true rfl) d_L_law_1140) (fun r1 σ2 h => ?_)
  refine zr_pop C d_L_law_1143 rfl ?_
  refine zr_aload_n C d_L_law_1144 rfl ?_
  refine zr_ci (zr_runV (As := []) (rest := []) C vw_L_139 (c_X9_forget l g σ2 _ h) (sh_69) rfl (by decide) (by decide) rfl rfl (Nat.le_of_ble_eq_true rfl) d_L_law_1145) (fun r3 σ4 h => ?_)
  refine zr_pop C d_L_law_1148 rfl ?_
  refine zr_goto C 1310 d_L_law_1149 (by decide) ?_
  exact zr_pick [0, 1, 2, 3] rfl (hK σ4 h)
def wL_30 (a1 a2 a3 a4 a5 : Int32) (σ : zST) (K : zST → Prop) : Prop := wp_X8_twice a1 σ (fun r1 => wp_X9_twice a1 σ (fun r3 => K σ))
set_option maxRecDepth 100000 in
set_option maxHeartbeats 4000000 in
theorem gL_30 {p : Program} {l : Launch} {e : Env} {R : Room} {s : State} {m : MethodId} {args : Array Value} {below : List Frame} {meth : Method} {c : Code} {Q : State → Prop} {g : zG} {n1 n2 : Nat} (C : zCX p R s m args meth c g n1 n2 cL_law 4 RL 7 164) {b L : Nat} {xs : Nat → Int32} (hX : va_X b L xs s s.heap) (hbl : b < s.heap.size) (hbA : ¬ zA g b) {v3 : Int32} (hi0 : vp_in v3 L) (hi1 : vp_in (v3 + 1) L) (hi2 : vp_in (v3 + 2) L) (hi3 : vp_in (v3 + 3) L) (hi4 : vp_in (v3 + 4) L) (hi5 : vp_in (v3 + 5) L) {σ : zST} {K : zST → Prop} (hK : ∀ σ : zST, K σ → zGG p l e R s m args below meth c Q g n1 n2 4 1310 [(0, .ref b), (1, .ref (g.2.1 0)), (2, .ref (g.2.1 69)), (3, .int v3)] [] σ) (h : wL_30 (xs (v3 + (1 : Int32)).toNatClampNeg) (xs (v3 + (2 : Int32)).toNatClampNeg) (xs (v3 + (3 : Int32)).toNatClampNeg) (xs (v3 + (4 : Int32)).toNatClampNeg) (xs (v3 + (5 : Int32)).toNatClampNeg) σ K) : zGG p l e R s m args below meth c Q g n1 n2 4 1152 [(0, .ref b), (1, .ref (g.2.1 0)), (2, .ref (g.2.1 69)), (3, .int v3)] [] σ := by
  unfold wL_30 at h
  refine zr_aload_n C d_L_law_1152 rfl ?_
  refine zr_aload_n C d_L_law_1153 rfl ?_
  refine zr_iload_n C d_L_law_1154 rfl ?_
  refine zr_iconst C (1 : Int32) d_L_law_1155 (by decide) ?_
  refine zr_iadd C d_L_law_1156 ?_
  refine zr_sld C hX hbl hbA hi1 d_L_law_1157 ?_
  refine zr_cip (zr_runV (As := [.int (xs (v3 + (1 : Int32)).toNatClampNeg)]) (rest := []) C vw_L_140 (c_X8_twice l g (xs (v3 + (1 : Int32)).toNatClampNeg) σ _ h) (sh_0) rfl (by decide) (by decide) rfl rfl (Nat.le_of_ble_eq_true rfl) d_L_law_1158) (fun r1 h => ?_)
  refine zr_pop C d_L_law_1161 rfl ?_
  refine zr_aload_n C d_L_law_1162 rfl ?_
  refine zr_aload_n C d_L_law_1163 rfl ?_
  refine zr_iload_n C d_L_law_1164 rfl ?_
  refine zr_iconst C (1 : Int32) d_L_law_1165 (by decide) ?_
  refine zr_iadd C d_L_law_1166 ?_
  refine zr_sld C hX hbl hbA hi1 d_L_law_1167 ?_
  refine zr_cip (zr_runV (As := [.int (xs (v3 + (1 : Int32)).toNatClampNeg)]) (rest := []) C vw_L_143 (c_X9_twice l g (xs (v3 + (1 : Int32)).toNatClampNeg) σ _ h) (sh_69) rfl (by decide) (by decide) rfl rfl (Nat.le_of_ble_eq_true rfl) d_L_law_1168) (fun r3 h => ?_)
  refine zr_pop C d_L_law_1171 rfl ?_
  refine zr_goto C 1310 d_L_law_1172 (by decide) ?_
  exact zr_pick [0, 1, 2, 3] rfl (hK σ h)
def wL_31 (a1 a2 a3 a4 a5 : Int32) (σ : zST) (K : zST → Prop) : Prop := wp_X8_burnt σ (fun r1 => wp_X9_burnt σ (fun r3 => K σ))
set_option maxRecDepth 100000 in
set_option maxHeartbeats 4000000 in
theorem gL_31 {p : Program} {l : Launch} {e : Env} {R : Room} {s : State} {m : MethodId} {args : Array Value} {below : List Frame} {meth : Method} {c : Code} {Q : State → Prop} {g : zG} {n1 n2 : Nat} (C : zCX p R s m args meth c g n1 n2 cL_law 4 RL 7 164) {b L : Nat} {xs : Nat → Int32} (hX : va_X b L xs s s.heap) (hbl : b < s.heap.size) (hbA : ¬ zA g b) {v3 : Int32} (hi0 : vp_in v3 L) (hi1 : vp_in (v3 + 1) L) (hi2 : vp_in (v3 + 2) L) (hi3 : vp_in (v3 + 3) L) (hi4 : vp_in (v3 + 4) L) (hi5 : vp_in (v3 + 5) L) {σ : zST} {K : zST → Prop} (hK : ∀ σ : zST, K σ → zGG p l e R s m args below meth c Q g n1 n2 4 1310 [(0, .ref b), (1, .ref (g.2.1 0)), (2, .ref (g.2.1 69)), (3, .int v3)] [] σ) (h : wL_31 (xs (v3 + (1 : Int32)).toNatClampNeg) (xs (v3 + (2 : Int32)).toNatClampNeg) (xs (v3 + (3 : Int32)).toNatClampNeg) (xs (v3 + (4 : Int32)).toNatClampNeg) (xs (v3 + (5 : Int32)).toNatClampNeg) σ K) : zGG p l e R s m args below meth c Q g n1 n2 4 1175 [(0, .ref b), (1, .ref (g.2.1 0)), (2, .ref (g.2.1 69)), (3, .int v3)] [] σ := by
  unfold wL_31 at h
  refine zr_aload_n C d_L_law_1175 rfl ?_
  refine zr_clp (zr_runV (As := []) (rest := []) C vw_L_144 (c_X8_burnt l g σ _ h) (sh_0) rfl (by decide) (by decide) rfl rfl (Nat.le_of_ble_eq_true rfl) d_L_law_1176) (fun r1 h => ?_)
  refine zr_pop2 C d_L_law_1179 rfl ?_
  refine zr_aload_n C d_L_law_1180 rfl ?_
  refine zr_clp (zr_runV (As := []) (rest := []) C vw_L_148 (c_X9_burnt l g σ _ h) (sh_69) rfl (by decide) (by decide) rfl rfl (Nat.le_of_ble_eq_true rfl) d_L_law_1181) (fun r3 h => ?_)
  refine zr_pop2 C d_L_law_1184 rfl ?_
  refine zr_goto C 1310 d_L_law_1185 (by decide) ?_
  exact zr_pick [0, 1, 2, 3] rfl (hK σ h)
def wL_32 (a1 a2 a3 a4 a5 : Int32) (σ : zST) (K : zST → Prop) : Prop := wp_X8_years a1 a2 a3 a4 σ (fun r1 => wp_X9_years a1 a2 a3 a4 σ (fun r3 => K σ))
set_option maxRecDepth 100000 in
set_option maxHeartbeats 4000000 in
theorem gL_32 {p : Program} {l : Launch} {e : Env} {R : Room} {s : State} {m : MethodId} {args : Array Value} {below : List Frame} {meth : Method} {c : Code} {Q : State → Prop} {g : zG} {n1 n2 : Nat} (C : zCX p R s m args meth c g n1 n2 cL_law 4 RL 7 164) {b L : Nat} {xs : Nat → Int32} (hX : va_X b L xs s s.heap) (hbl : b < s.heap.size) (hbA : ¬ zA g b) {v3 : Int32} (hi0 : vp_in v3 L) (hi1 : vp_in (v3 + 1) L) (hi2 : vp_in (v3 + 2) L) (hi3 : vp_in (v3 + 3) L) (hi4 : vp_in (v3 + 4) L) (hi5 : vp_in (v3 + 5) L) {σ : zST} {K : zST → Prop} (hK : ∀ σ : zST, K σ → zGG p l e R s m args below meth c Q g n1 n2 4 1310 [(0, .ref b), (1, .ref (g.2.1 0)), (2, .ref (g.2.1 69)), (3, .int v3)] [] σ) (h : wL_32 (xs (v3 + (1 : Int32)).toNatClampNeg) (xs (v3 + (2 : Int32)).toNatClampNeg) (xs (v3 + (3 : Int32)).toNatClampNeg) (xs (v3 + (4 : Int32)).toNatClampNeg) (xs (v3 + (5 : Int32)).toNatClampNeg) σ K) : zGG p l e R s m args below meth c Q g n1 n2 4 1188 [(0, .ref b), (1, .ref (g.2.1 0)), (2, .ref (g.2.1 69)), (3, .int v3)] [] σ := by
  unfold wL_32 at h
  refine zr_aload_n C d_L_law_1188 rfl ?_
  refine zr_aload_n C d_L_law_1189 rfl ?_
  refine zr_iload_n C d_L_law_1190 rfl ?_
  refine zr_iconst C (1 : Int32) d_L_law_1191 (by decide) ?_
  refine zr_iadd C d_L_law_1192 ?_
  refine zr_sld C hX hbl hbA hi1 d_L_law_1193 ?_
  refine zr_aload_n C d_L_law_1194 rfl ?_
  refine zr_iload_n C d_L_law_1195 rfl ?_
  refine zr_iconst C (2 : Int32) d_L_law_1196 (by decide) ?_
  refine zr_iadd C d_L_law_1197 ?_
  refine zr_sld C hX hbl hbA hi2 d_L_law_1198 ?_
  refine zr_aload_n C d_L_law_1199 rfl ?_
  refine zr_iload_n C d_L_law_1200 rfl ?_
  refine zr_iconst C (3 : Int32) d_L_law_1201 (by decide) ?_
  refine zr_iadd C d_L_law_1202 ?_
  refine zr_sld C hX hbl hbA hi3 d_L_law_1203 ?_
  refine zr_aload_n C d_L_law_1204 rfl ?_
  refine zr_iload_n C d_L_law_1205 rfl ?_
  refine zr_iconst C (4 : Int32) d_L_law_1206 (by decide) ?_
  refine zr_iadd C d_L_law_1207 ?_
  refine zr_sld C hX hbl hbA hi4 d_L_law_1208 ?_
  refine zr_cip (zr_runV (As := [.int (xs (v3 + (1 : Int32)).toNatClampNeg), .int (xs (v3 + (2 : Int32)).toNatClampNeg), .int (xs (v3 + (3 : Int32)).toNatClampNeg), .int (xs (v3 + (4 : Int32)).toNatClampNeg)]) (rest := []) C vw_L_149 (c_X8_years l g (xs (v3 + (1 : Int32)).toNatClampNeg) (xs (v3 + (2 : Int32)).toNatClampNeg) (xs (v3 + (3 : Int32)).toNatClampNeg) (xs (v3 + (4 : Int32)).toNatClampNeg) σ _ h) (sh_0) rfl (by decide) (by decide) rfl rfl (Nat.le_of_ble_eq_true rfl) d_L_law_1209) (fun r1 h => ?_)
  refine zr_pop C d_L_law_1212 rfl ?_
  refine zr_aload_n C d_L_law_1213 rfl ?_
  refine zr_aload_n C d_L_law_1214 rfl ?_
  refine zr_iload_n C d_L_law_1215 rfl ?_
  refine zr_iconst C (1 : Int32) d_L_law_1216 (by decide) ?_
  refine zr_iadd C d_L_law_1217 ?_
  refine zr_sld C hX hbl hbA hi1 d_L_law_1218 ?_
  refine zr_aload_n C d_L_law_1219 rfl ?_
  refine zr_iload_n C d_L_law_1220 rfl ?_
  refine zr_iconst C (2 : Int32) d_L_law_1221 (by decide) ?_
  refine zr_iadd C d_L_law_1222 ?_
  refine zr_sld C hX hbl hbA hi2 d_L_law_1223 ?_
  refine zr_aload_n C d_L_law_1224 rfl ?_
  refine zr_iload_n C d_L_law_1225 rfl ?_
  refine zr_iconst C (3 : Int32) d_L_law_1226 (by decide) ?_
  refine zr_iadd C d_L_law_1227 ?_
  refine zr_sld C hX hbl hbA hi3 d_L_law_1228 ?_
  refine zr_aload_n C d_L_law_1229 rfl ?_
  refine zr_iload_n C d_L_law_1230 rfl ?_
  refine zr_iconst C (4 : Int32) d_L_law_1231 (by decide) ?_
  refine zr_iadd C d_L_law_1232 ?_
  refine zr_sld C hX hbl hbA hi4 d_L_law_1233 ?_
  refine zr_cip (zr_runV (As := [.int (xs (v3 + (1 : Int32)).toNatClampNeg), .int (xs (v3 + (2 : Int32)).toNatClampNeg), .int (xs (v3 + (3 : Int32)).toNatClampNeg), .int (xs (v3 + (4 : Int32)).toNatClampNeg)]) (rest := []) C vw_L_152 (c_X9_years l g (xs (v3 + (1 : Int32)).toNatClampNeg) (xs (v3 + (2 : Int32)).toNatClampNeg) (xs (v3 + (3 : Int32)).toNatClampNeg) (xs (v3 + (4 : Int32)).toNatClampNeg) σ _ h) (sh_69) rfl (by decide) (by decide) rfl rfl (Nat.le_of_ble_eq_true rfl) d_L_law_1234) (fun r3 h => ?_)
  refine zr_pop C d_L_law_1237 rfl ?_
  refine zr_goto C 1310 d_L_law_1238 (by decide) ?_
  exact zr_pick [0, 1, 2, 3] rfl (hK σ h)
def wL_33 (a1 a2 a3 a4 a5 : Int32) (σ : zST) (K : zST → Prop) : Prop := wp_X8_image a1 σ (fun r1 σ2 => wp_X9_image a1 σ2 (fun r3 σ4 => K σ4))
set_option maxRecDepth 100000 in
set_option maxHeartbeats 4000000 in
theorem gL_33 {p : Program} {l : Launch} {e : Env} {R : Room} {s : State} {m : MethodId} {args : Array Value} {below : List Frame} {meth : Method} {c : Code} {Q : State → Prop} {g : zG} {n1 n2 : Nat} (C : zCX p R s m args meth c g n1 n2 cL_law 4 RL 7 164) {b L : Nat} {xs : Nat → Int32} (hX : va_X b L xs s s.heap) (hbl : b < s.heap.size) (hbA : ¬ zA g b) {v3 : Int32} (hi0 : vp_in v3 L) (hi1 : vp_in (v3 + 1) L) (hi2 : vp_in (v3 + 2) L) (hi3 : vp_in (v3 + 3) L) (hi4 : vp_in (v3 + 4) L) (hi5 : vp_in (v3 + 5) L) {σ : zST} {K : zST → Prop} (hK : ∀ σ : zST, K σ → zGG p l e R s m args below meth c Q g n1 n2 4 1310 [(0, .ref b), (1, .ref (g.2.1 0)), (2, .ref (g.2.1 69)), (3, .int v3)] [] σ) (h : wL_33 (xs (v3 + (1 : Int32)).toNatClampNeg) (xs (v3 + (2 : Int32)).toNatClampNeg) (xs (v3 + (3 : Int32)).toNatClampNeg) (xs (v3 + (4 : Int32)).toNatClampNeg) (xs (v3 + (5 : Int32)).toNatClampNeg) σ K) : zGG p l e R s m args below meth c Q g n1 n2 4 1241 [(0, .ref b), (1, .ref (g.2.1 0)), (2, .ref (g.2.1 69)), (3, .int v3)] [] σ := by
  unfold wL_33 at h
  refine zr_aload_n C d_L_law_1241 rfl ?_
  refine zr_aload_n C d_L_law_1242 rfl ?_
  refine zr_iload_n C d_L_law_1243 rfl ?_
  refine zr_iconst C (1 : Int32) d_L_law_1244 (by decide) ?_
  refine zr_iadd C d_L_law_1245 ?_
  refine zr_sld C hX hbl hbA hi1 d_L_law_1246 ?_
  refine zr_ci (zr_runV (As := [.int (xs (v3 + (1 : Int32)).toNatClampNeg)]) (rest := []) C vw_L_153 (c_X8_image l g (xs (v3 + (1 : Int32)).toNatClampNeg) σ _ h) (sh_0) rfl (by decide) (by decide) rfl rfl (Nat.le_of_ble_eq_true rfl) d_L_law_1247) (fun r1 σ2 h => ?_)
  refine zr_pop C d_L_law_1250 rfl ?_
  refine zr_aload_n C d_L_law_1251 rfl ?_
  refine zr_aload_n C d_L_law_1252 rfl ?_
  refine zr_iload_n C d_L_law_1253 rfl ?_
  refine zr_iconst C (1 : Int32) d_L_law_1254 (by decide) ?_
  refine zr_iadd C d_L_law_1255 ?_
  refine zr_sld C hX hbl hbA hi1 d_L_law_1256 ?_
  refine zr_ci (zr_runV (As := [.int (xs (v3 + (1 : Int32)).toNatClampNeg)]) (rest := []) C vw_L_156 (c_X9_image l g (xs (v3 + (1 : Int32)).toNatClampNeg) σ2 _ h) (sh_69) rfl (by decide) (by decide) rfl rfl (Nat.le_of_ble_eq_true rfl) d_L_law_1257) (fun r3 σ4 h => ?_)
  refine zr_pop C d_L_law_1260 rfl ?_
  refine zr_goto C 1310 d_L_law_1261 (by decide) ?_
  exact zr_pick [0, 1, 2, 3] rfl (hK σ4 h)
def wL_34 (a1 a2 a3 a4 a5 : Int32) (σ : zST) (K : zST → Prop) : Prop := wp_X8_restore a1 σ (fun r1 σ2 => wp_X9_restore a1 σ2 (fun r3 σ4 => K σ4))
set_option maxRecDepth 100000 in
set_option maxHeartbeats 4000000 in
theorem gL_34 {p : Program} {l : Launch} {e : Env} {R : Room} {s : State} {m : MethodId} {args : Array Value} {below : List Frame} {meth : Method} {c : Code} {Q : State → Prop} {g : zG} {n1 n2 : Nat} (C : zCX p R s m args meth c g n1 n2 cL_law 4 RL 7 164) {b L : Nat} {xs : Nat → Int32} (hX : va_X b L xs s s.heap) (hbl : b < s.heap.size) (hbA : ¬ zA g b) {v3 : Int32} (hi0 : vp_in v3 L) (hi1 : vp_in (v3 + 1) L) (hi2 : vp_in (v3 + 2) L) (hi3 : vp_in (v3 + 3) L) (hi4 : vp_in (v3 + 4) L) (hi5 : vp_in (v3 + 5) L) {σ : zST} {K : zST → Prop} (hK : ∀ σ : zST, K σ → zGG p l e R s m args below meth c Q g n1 n2 4 1310 [(0, .ref b), (1, .ref (g.2.1 0)), (2, .ref (g.2.1 69)), (3, .int v3)] [] σ) (h : wL_34 (xs (v3 + (1 : Int32)).toNatClampNeg) (xs (v3 + (2 : Int32)).toNatClampNeg) (xs (v3 + (3 : Int32)).toNatClampNeg) (xs (v3 + (4 : Int32)).toNatClampNeg) (xs (v3 + (5 : Int32)).toNatClampNeg) σ K) : zGG p l e R s m args below meth c Q g n1 n2 4 1264 [(0, .ref b), (1, .ref (g.2.1 0)), (2, .ref (g.2.1 69)), (3, .int v3)] [] σ := by
  unfold wL_34 at h
  refine zr_aload_n C d_L_law_1264 rfl ?_
  refine zr_aload_n C d_L_law_1265 rfl ?_
  refine zr_iload_n C d_L_law_1266 rfl ?_
  refine zr_iconst C (1 : Int32) d_L_law_1267 (by decide) ?_
  refine zr_iadd C d_L_law_1268 ?_
  refine zr_sld C hX hbl hbA hi1 d_L_law_1269 ?_
  refine zr_ci (zr_runV (As := [.int (xs (v3 + (1 : Int32)).toNatClampNeg)]) (rest := []) C vw_L_157 (c_X8_restore l g (xs (v3 + (1 : Int32)).toNatClampNeg) σ _ h) (sh_0) rfl (by decide) (by decide) rfl rfl (Nat.le_of_ble_eq_true rfl) d_L_law_1270) (fun r1 σ2 h => ?_)
  refine zr_pop C d_L_law_1273 rfl ?_
  refine zr_aload_n C d_L_law_1274 rfl ?_
  refine zr_aload_n C d_L_law_1275 rfl ?_
  refine zr_iload_n C d_L_law_1276 rfl ?_
  refine zr_iconst C (1 : Int32) d_L_law_1277 (by decide) ?_
  refine zr_iadd C d_L_law_1278 ?_
  refine zr_sld C hX hbl hbA hi1 d_L_law_1279 ?_
  refine zr_ci (zr_runV (As := [.int (xs (v3 + (1 : Int32)).toNatClampNeg)]) (rest := []) C vw_L_160 (c_X9_restore l g (xs (v3 + (1 : Int32)).toNatClampNeg) σ2 _ h) (sh_69) rfl (by decide) (by decide) rfl rfl (Nat.le_of_ble_eq_true rfl) d_L_law_1280) (fun r3 σ4 h => ?_)
  refine zr_pop C d_L_law_1283 rfl ?_
  refine zr_goto C 1310 d_L_law_1284 (by decide) ?_
  exact zr_pick [0, 1, 2, 3] rfl (hK σ4 h)
def wL_35 (a1 a2 a3 a4 a5 : Int32) (σ : zST) (K : zST → Prop) : Prop := wp_X8_told a1 σ (fun r1 => wp_X9_told a1 σ (fun r3 => K σ))
set_option maxRecDepth 100000 in
set_option maxHeartbeats 4000000 in
theorem gL_35 {p : Program} {l : Launch} {e : Env} {R : Room} {s : State} {m : MethodId} {args : Array Value} {below : List Frame} {meth : Method} {c : Code} {Q : State → Prop} {g : zG} {n1 n2 : Nat} (C : zCX p R s m args meth c g n1 n2 cL_law 4 RL 7 164) {b L : Nat} {xs : Nat → Int32} (hX : va_X b L xs s s.heap) (hbl : b < s.heap.size) (hbA : ¬ zA g b) {v3 : Int32} (hi0 : vp_in v3 L) (hi1 : vp_in (v3 + 1) L) (hi2 : vp_in (v3 + 2) L) (hi3 : vp_in (v3 + 3) L) (hi4 : vp_in (v3 + 4) L) (hi5 : vp_in (v3 + 5) L) {σ : zST} {K : zST → Prop} (hK : ∀ σ : zST, K σ → zGG p l e R s m args below meth c Q g n1 n2 4 1310 [(0, .ref b), (1, .ref (g.2.1 0)), (2, .ref (g.2.1 69)), (3, .int v3)] [] σ) (h : wL_35 (xs (v3 + (1 : Int32)).toNatClampNeg) (xs (v3 + (2 : Int32)).toNatClampNeg) (xs (v3 + (3 : Int32)).toNatClampNeg) (xs (v3 + (4 : Int32)).toNatClampNeg) (xs (v3 + (5 : Int32)).toNatClampNeg) σ K) : zGG p l e R s m args below meth c Q g n1 n2 4 1287 [(0, .ref b), (1, .ref (g.2.1 0)), (2, .ref (g.2.1 69)), (3, .int v3)] [] σ := by
  unfold wL_35 at h
  refine zr_aload_n C d_L_law_1287 rfl ?_
  refine zr_aload_n C d_L_law_1288 rfl ?_
  refine zr_iload_n C d_L_law_1289 rfl ?_
  refine zr_iconst C (1 : Int32) d_L_law_1290 (by decide) ?_
  refine zr_iadd C d_L_law_1291 ?_
  refine zr_sld C hX hbl hbA hi1 d_L_law_1292 ?_
  refine zr_cip (zr_runV (As := [.int (xs (v3 + (1 : Int32)).toNatClampNeg)]) (rest := []) C vw_L_161 (c_X8_told l g (xs (v3 + (1 : Int32)).toNatClampNeg) σ _ h) (sh_0) rfl (by decide) (by decide) rfl rfl (Nat.le_of_ble_eq_true rfl) d_L_law_1293) (fun r1 h => ?_)
  refine zr_pop C d_L_law_1296 rfl ?_
  refine zr_aload_n C d_L_law_1297 rfl ?_
  refine zr_aload_n C d_L_law_1298 rfl ?_
  refine zr_iload_n C d_L_law_1299 rfl ?_
  refine zr_iconst C (1 : Int32) d_L_law_1300 (by decide) ?_
  refine zr_iadd C d_L_law_1301 ?_
  refine zr_sld C hX hbl hbA hi1 d_L_law_1302 ?_
  refine zr_cip (zr_runV (As := [.int (xs (v3 + (1 : Int32)).toNatClampNeg)]) (rest := []) C vw_L_164 (c_X9_told l g (xs (v3 + (1 : Int32)).toNatClampNeg) σ _ h) (sh_69) rfl (by decide) (by decide) rfl rfl (Nat.le_of_ble_eq_true rfl) d_L_law_1303) (fun r3 h => ?_)
  refine zr_pop C d_L_law_1306 rfl ?_
  refine zr_goto C 1310 d_L_law_1307 (by decide) ?_
  exact zr_pick [0, 1, 2, 3] rfl (hK σ h)
def wLaw (x a1 a2 a3 a4 a5 : Int32) (σ : zST) (K : zST → Prop) : Prop := (if x = 0 then wL_0 a1 a2 a3 a4 a5 σ K else (if x = 1 then wL_1 a1 a2 a3 a4 a5 σ K else (if x = 2 then wL_2 a1 a2 a3 a4 a5 σ K else (if x = 3 then wL_3 a1 a2 a3 a4 a5 σ K else (if x = 4 then wL_4 a1 a2 a3 a4 a5 σ K else (if x = 5 then wL_5 a1 a2 a3 a4 a5 σ K else (if x = 6 then wL_6 a1 a2 a3 a4 a5 σ K else (if x = 7 then wL_7 a1 a2 a3 a4 a5 σ K else (if x = 8 then wL_8 a1 a2 a3 a4 a5 σ K else (if x = 9 then wL_9 a1 a2 a3 a4 a5 σ K else (if x = 10 then wL_10 a1 a2 a3 a4 a5 σ K else (if x = 11 then wL_11 a1 a2 a3 a4 a5 σ K else (if x = 12 then wL_12 a1 a2 a3 a4 a5 σ K else (if x = 13 then wL_13 a1 a2 a3 a4 a5 σ K else (if x = 14 then wL_14 a1 a2 a3 a4 a5 σ K else (if x = 15 then wL_15 a1 a2 a3 a4 a5 σ K else (if x = 16 then wL_16 a1 a2 a3 a4 a5 σ K else (if x = 17 then wL_17 a1 a2 a3 a4 a5 σ K else (if x = 18 then wL_18 a1 a2 a3 a4 a5 σ K else (if x = 19 then wL_19 a1 a2 a3 a4 a5 σ K else (if x = 20 then wL_20 a1 a2 a3 a4 a5 σ K else (if x = 21 then wL_21 a1 a2 a3 a4 a5 σ K else (if x = 22 then wL_22 a1 a2 a3 a4 a5 σ K else (if x = 23 then wL_23 a1 a2 a3 a4 a5 σ K else (if x = 24 then wL_24 a1 a2 a3 a4 a5 σ K else (if x = 25 then wL_25 a1 a2 a3 a4 a5 σ K else (if x = 26 then wL_26 a1 a2 a3 a4 a5 σ K else (if x = 27 then wL_27 a1 a2 a3 a4 a5 σ K else (if x = 28 then wL_28 a1 a2 a3 a4 a5 σ K else (if x = 29 then wL_29 a1 a2 a3 a4 a5 σ K else (if x = 30 then wL_30 a1 a2 a3 a4 a5 σ K else (if x = 31 then wL_31 a1 a2 a3 a4 a5 σ K else (if x = 32 then wL_32 a1 a2 a3 a4 a5 σ K else (if x = 33 then wL_33 a1 a2 a3 a4 a5 σ K else (if x = 34 then wL_34 a1 a2 a3 a4 a5 σ K else (if x = 35 then wL_35 a1 a2 a3 a4 a5 σ K else K σ))))))))))))))))))))))))))))))))))))
set_option maxRecDepth 100000 in
set_option maxHeartbeats 4000000 in
theorem gL_body {p : Program} {l : Launch} {e : Env} {R : Room} {s : State} {m : MethodId} {args : Array Value} {below : List Frame} {meth : Method} {c : Code} {Q : State → Prop} {g : zG} {n1 n2 : Nat} (C : zCX p R s m args meth c g n1 n2 cL_law 4 RL 7 164) {b L : Nat} {xs : Nat → Int32} (hX : va_X b L xs s s.heap) (hbl : b < s.heap.size) (hbA : ¬ zA g b) {v3 : Int32} (hi0 : vp_in v3 L) (hi1 : vp_in (v3 + 1) L) (hi2 : vp_in (v3 + 2) L) (hi3 : vp_in (v3 + 3) L) (hi4 : vp_in (v3 + 4) L) (hi5 : vp_in (v3 + 5) L) {σ : zST} {K : zST → Prop} (hK : ∀ σ : zST, K σ → zGG p l e R s m args below meth c Q g n1 n2 4 1310 [(0, .ref b), (1, .ref (g.2.1 0)), (2, .ref (g.2.1 69)), (3, .int v3)] [] σ) (h : wLaw ((xs v3.toNatClampNeg) &&& (63 : Int32)) (xs (v3 + (1 : Int32)).toNatClampNeg) (xs (v3 + (2 : Int32)).toNatClampNeg) (xs (v3 + (3 : Int32)).toNatClampNeg) (xs (v3 + (4 : Int32)).toNatClampNeg) (xs (v3 + (5 : Int32)).toNatClampNeg) σ K) : zGG p l e R s m args below meth c Q g n1 n2 4 27 [(0, .ref b), (1, .ref (g.2.1 0)), (2, .ref (g.2.1 69)), (3, .int v3)] [] σ := by
  unfold wLaw at h
  refine zr_aload_n C d_L_law_27 rfl ?_
  refine zr_iload_n C d_L_law_28 rfl ?_
  refine zr_sld C hX hbl hbA hi0 d_L_law_29 ?_
  refine zr_bipush C (63 : Int32) d_L_law_30 (by decide) ?_
  refine zr_iand C d_L_law_32 ?_
  by_cases hc0 : ((xs v3.toNatClampNeg) &&& (63 : Int32)) = 0
  · rw [if_pos hc0] at h
    refine zr_tabIn C (off := 159) 192 d_L_law_33 (by rw [hc0]; decide) (by rw [hc0]; decide) (by rw [hc0]; rfl) (by decide) ?_
    exact gL_0 C hX hbl hbA hi0 hi1 hi2 hi3 hi4 hi5 hK h
  rw [if_neg hc0] at h
  by_cases hc1 : ((xs v3.toNatClampNeg) &&& (63 : Int32)) = 1
  · rw [if_pos hc1] at h
    refine zr_tabIn C (off := 212) 245 d_L_law_33 (by rw [hc1]; decide) (by rw [hc1]; decide) (by rw [hc1]; rfl) (by decide) ?_
    exact gL_1 C hX hbl hbA hi0 hi1 hi2 hi3 hi4 hi5 hK h
  rw [if_neg hc1] at h
  by_cases hc2 : ((xs v3.toNatClampNeg) &&& (63 : Int32)) = 2
  · rw [if_pos hc2] at h
    refine zr_tabIn C (off := 235) 268 d_L_law_33 (by rw [hc2]; decide) (by rw [hc2]; decide) (by rw [hc2]; rfl) (by decide) ?_
    exact gL_2 C hX hbl hbA hi0 hi1 hi2 hi3 hi4 hi5 hK h
  rw [if_neg hc2] at h
  by_cases hc3 : ((xs v3.toNatClampNeg) &&& (63 : Int32)) = 3
  · rw [if_pos hc3] at h
    refine zr_tabIn C (off := 268) 301 d_L_law_33 (by rw [hc3]; decide) (by rw [hc3]; decide) (by rw [hc3]; rfl) (by decide) ?_
    exact gL_3 C hX hbl hbA hi0 hi1 hi2 hi3 hi4 hi5 hK h
  rw [if_neg hc3] at h
  by_cases hc4 : ((xs v3.toNatClampNeg) &&& (63 : Int32)) = 4
  · rw [if_pos hc4] at h
    refine zr_tabIn C (off := 291) 324 d_L_law_33 (by rw [hc4]; decide) (by rw [hc4]; decide) (by rw [hc4]; rfl) (by decide) ?_
    exact gL_4 C hX hbl hbA hi0 hi1 hi2 hi3 hi4 hi5 hK h
  rw [if_neg hc4] at h
  by_cases hc5 : ((xs v3.toNatClampNeg) &&& (63 : Int32)) = 5
  · rw [if_pos hc5] at h
    refine zr_tabIn C (off := 304) 337 d_L_law_33 (by rw [hc5]; decide) (by rw [hc5]; decide) (by rw [hc5]; rfl) (by decide) ?_
    exact gL_5 C hX hbl hbA hi0 hi1 hi2 hi3 hi4 hi5 hK h
  rw [if_neg hc5] at h
  by_cases hc6 : ((xs v3.toNatClampNeg) &&& (63 : Int32)) = 6
  · rw [if_pos hc6] at h
    refine zr_tabIn C (off := 327) 360 d_L_law_33 (by rw [hc6]; decide) (by rw [hc6]; decide) (by rw [hc6]; rfl) (by decide) ?_
    exact gL_6 C hX hbl hbA hi0 hi1 hi2 hi3 hi4 hi5 hK h
  rw [if_neg hc6] at h
  by_cases hc7 : ((xs v3.toNatClampNeg) &&& (63 : Int32)) = 7
  · rw [if_pos hc7] at h
    refine zr_tabIn C (off := 340) 373 d_L_law_33 (by rw [hc7]; decide) (by rw [hc7]; decide) (by rw [hc7]; rfl) (by decide) ?_
    exact gL_7 C hX hbl hbA hi0 hi1 hi2 hi3 hi4 hi5 hK h
  rw [if_neg hc7] at h
  by_cases hc8 : ((xs v3.toNatClampNeg) &&& (63 : Int32)) = 8
  · rw [if_pos hc8] at h
    refine zr_tabIn C (off := 363) 396 d_L_law_33 (by rw [hc8]; decide) (by rw [hc8]; decide) (by rw [hc8]; rfl) (by decide) ?_
    exact gL_8 C hX hbl hbA hi0 hi1 hi2 hi3 hi4 hi5 hK h
  rw [if_neg hc8] at h
  by_cases hc9 : ((xs v3.toNatClampNeg) &&& (63 : Int32)) = 9
  · rw [if_pos hc9] at h
    refine zr_tabIn C (off := 396) 429 d_L_law_33 (by rw [hc9]; decide) (by rw [hc9]; decide) (by rw [hc9]; rfl) (by decide) ?_
    exact gL_9 C hX hbl hbA hi0 hi1 hi2 hi3 hi4 hi5 hK h
  rw [if_neg hc9] at h
  by_cases hc10 : ((xs v3.toNatClampNeg) &&& (63 : Int32)) = 10
  · rw [if_pos hc10] at h
    refine zr_tabIn C (off := 429) 462 d_L_law_33 (by rw [hc10]; decide) (by rw [hc10]; decide) (by rw [hc10]; rfl) (by decide) ?_
    exact gL_10 C hX hbl hbA hi0 hi1 hi2 hi3 hi4 hi5 hK h
  rw [if_neg hc10] at h
  by_cases hc11 : ((xs v3.toNatClampNeg) &&& (63 : Int32)) = 11
  · rw [if_pos hc11] at h
    refine zr_tabIn C (off := 442) 475 d_L_law_33 (by rw [hc11]; decide) (by rw [hc11]; decide) (by rw [hc11]; rfl) (by decide) ?_
    exact gL_11 C hX hbl hbA hi0 hi1 hi2 hi3 hi4 hi5 hK h
  rw [if_neg hc11] at h
  by_cases hc12 : ((xs v3.toNatClampNeg) &&& (63 : Int32)) = 12
  · rw [if_pos hc12] at h
    refine zr_tabIn C (off := 465) 498 d_L_law_33 (by rw [hc12]; decide) (by rw [hc12]; decide) (by rw [hc12]; rfl) (by decide) ?_
    exact gL_12 C hX hbl hbA hi0 hi1 hi2 hi3 hi4 hi5 hK h
  rw [if_neg hc12] at h
  by_cases hc13 : ((xs v3.toNatClampNeg) &&& (63 : Int32)) = 13
  · rw [if_pos hc13] at h
    refine zr_tabIn C (off := 508) 541 d_L_law_33 (by rw [hc13]; decide) (by rw [hc13]; decide) (by rw [hc13]; rfl) (by decide) ?_
    exact gL_13 C hX hbl hbA hi0 hi1 hi2 hi3 hi4 hi5 hK h
  rw [if_neg hc13] at h
  by_cases hc14 : ((xs v3.toNatClampNeg) &&& (63 : Int32)) = 14
  · rw [if_pos hc14] at h
    refine zr_tabIn C (off := 551) 584 d_L_law_33 (by rw [hc14]; decide) (by rw [hc14]; decide) (by rw [hc14]; rfl) (by decide) ?_
    exact gL_14 C hX hbl hbA hi0 hi1 hi2 hi3 hi4 hi5 hK h
  rw [if_neg hc14] at h
  by_cases hc15 : ((xs v3.toNatClampNeg) &&& (63 : Int32)) = 15
  · rw [if_pos hc15] at h
    refine zr_tabIn C (off := 584) 617 d_L_law_33 (by rw [hc15]; decide) (by rw [hc15]; decide) (by rw [hc15]; rfl) (by decide) ?_
    exact gL_15 C hX hbl hbA hi0 hi1 hi2 hi3 hi4 hi5 hK h
  rw [if_neg hc15] at h
  by_cases hc16 : ((xs v3.toNatClampNeg) &&& (63 : Int32)) = 16
  · rw [if_pos hc16] at h
    refine zr_tabIn C (off := 627) 660 d_L_law_33 (by rw [hc16]; decide) (by rw [hc16]; decide) (by rw [hc16]; rfl) (by decide) ?_
    exact gL_16 C hX hbl hbA hi0 hi1 hi2 hi3 hi4 hi5 hK h
  rw [if_neg hc16] at h
  by_cases hc17 : ((xs v3.toNatClampNeg) &&& (63 : Int32)) = 17
  · rw [if_pos hc17] at h
    refine zr_tabIn C (off := 670) 703 d_L_law_33 (by rw [hc17]; decide) (by rw [hc17]; decide) (by rw [hc17]; rfl) (by decide) ?_
    exact gL_17 C hX hbl hbA hi0 hi1 hi2 hi3 hi4 hi5 hK h
  rw [if_neg hc17] at h
  by_cases hc18 : ((xs v3.toNatClampNeg) &&& (63 : Int32)) = 18
  · rw [if_pos hc18] at h
    refine zr_tabIn C (off := 713) 746 d_L_law_33 (by rw [hc18]; decide) (by rw [hc18]; decide) (by rw [hc18]; rfl) (by decide) ?_
    exact gL_18 C hX hbl hbA hi0 hi1 hi2 hi3 hi4 hi5 hK h
  rw [if_neg hc18] at h
  by_cases hc19 : ((xs v3.toNatClampNeg) &&& (63 : Int32)) = 19
  · rw [if_pos hc19] at h
    refine zr_tabIn C (off := 746) 779 d_L_law_33 (by rw [hc19]; decide) (by rw [hc19]; decide) (by rw [hc19]; rfl) (by decide) ?_
    exact gL_19 C hX hbl hbA hi0 hi1 hi2 hi3 hi4 hi5 hK h
  rw [if_neg hc19] at h
  by_cases hc20 : ((xs v3.toNatClampNeg) &&& (63 : Int32)) = 20
  · rw [if_pos hc20] at h
    refine zr_tabIn C (off := 779) 812 d_L_law_33 (by rw [hc20]; decide) (by rw [hc20]; decide) (by rw [hc20]; rfl) (by decide) ?_
    exact gL_20 C hX hbl hbA hi0 hi1 hi2 hi3 hi4 hi5 hK h
  rw [if_neg hc20] at h
  by_cases hc21 : ((xs v3.toNatClampNeg) &&& (63 : Int32)) = 21
  · rw [if_pos hc21] at h
    refine zr_tabIn C (off := 812) 845 d_L_law_33 (by rw [hc21]; decide) (by rw [hc21]; decide) (by rw [hc21]; rfl) (by decide) ?_
    exact gL_21 C hX hbl hbA hi0 hi1 hi2 hi3 hi4 hi5 hK h
  rw [if_neg hc21] at h
  by_cases hc22 : ((xs v3.toNatClampNeg) &&& (63 : Int32)) = 22
  · rw [if_pos hc22] at h
    refine zr_tabIn C (off := 855) 888 d_L_law_33 (by rw [hc22]; decide) (by rw [hc22]; decide) (by rw [hc22]; rfl) (by decide) ?_
    exact gL_22 C hX hbl hbA hi0 hi1 hi2 hi3 hi4 hi5 hK h
  rw [if_neg hc22] at h
  by_cases hc23 : ((xs v3.toNatClampNeg) &&& (63 : Int32)) = 23
  · rw [if_pos hc23] at h
    refine zr_tabIn C (off := 868) 901 d_L_law_33 (by rw [hc23]; decide) (by rw [hc23]; decide) (by rw [hc23]; rfl) (by decide) ?_
    exact gL_23 C hX hbl hbA hi0 hi1 hi2 hi3 hi4 hi5 hK h
  rw [if_neg hc23] at h
  by_cases hc24 : ((xs v3.toNatClampNeg) &&& (63 : Int32)) = 24
  · rw [if_pos hc24] at h
    refine zr_tabIn C (off := 911) 944 d_L_law_33 (by rw [hc24]; decide) (by rw [hc24]; decide) (by rw [hc24]; rfl) (by decide) ?_
    exact gL_24 C hX hbl hbA hi0 hi1 hi2 hi3 hi4 hi5 hK h
  rw [if_neg hc24] at h
  by_cases hc25 : ((xs v3.toNatClampNeg) &&& (63 : Int32)) = 25
  · rw [if_pos hc25] at h
    refine zr_tabIn C (off := 944) 977 d_L_law_33 (by rw [hc25]; decide) (by rw [hc25]; decide) (by rw [hc25]; rfl) (by decide) ?_
    exact gL_25 C hX hbl hbA hi0 hi1 hi2 hi3 hi4 hi5 hK h
  rw [if_neg hc25] at h
  by_cases hc26 : ((xs v3.toNatClampNeg) &&& (63 : Int32)) = 26
  · rw [if_pos hc26] at h
    refine zr_tabIn C (off := 967) 1000 d_L_law_33 (by rw [hc26]; decide) (by rw [hc26]; decide) (by rw [hc26]; rfl) (by decide) ?_
    exact gL_26 C hX hbl hbA hi0 hi1 hi2 hi3 hi4 hi5 hK h
  rw [if_neg hc26] at h
  by_cases hc27 : ((xs v3.toNatClampNeg) &&& (63 : Int32)) = 27
  · rw [if_pos hc27] at h
    refine zr_tabIn C (off := 1010) 1043 d_L_law_33 (by rw [hc27]; decide) (by rw [hc27]; decide) (by rw [hc27]; rfl) (by decide) ?_
    exact gL_27 C hX hbl hbA hi0 hi1 hi2 hi3 hi4 hi5 hK h
  rw [if_neg hc27] at h
  by_cases hc28 : ((xs v3.toNatClampNeg) &&& (63 : Int32)) = 28
  · rw [if_pos hc28] at h
    refine zr_tabIn C (off := 1073) 1106 d_L_law_33 (by rw [hc28]; decide) (by rw [hc28]; decide) (by rw [hc28]; rfl) (by decide) ?_
    exact gL_28 C hX hbl hbA hi0 hi1 hi2 hi3 hi4 hi5 hK h
  rw [if_neg hc28] at h
  by_cases hc29 : ((xs v3.toNatClampNeg) &&& (63 : Int32)) = 29
  · rw [if_pos hc29] at h
    refine zr_tabIn C (off := 1106) 1139 d_L_law_33 (by rw [hc29]; decide) (by rw [hc29]; decide) (by rw [hc29]; rfl) (by decide) ?_
    exact gL_29 C hX hbl hbA hi0 hi1 hi2 hi3 hi4 hi5 hK h
  rw [if_neg hc29] at h
  by_cases hc30 : ((xs v3.toNatClampNeg) &&& (63 : Int32)) = 30
  · rw [if_pos hc30] at h
    refine zr_tabIn C (off := 1119) 1152 d_L_law_33 (by rw [hc30]; decide) (by rw [hc30]; decide) (by rw [hc30]; rfl) (by decide) ?_
    exact gL_30 C hX hbl hbA hi0 hi1 hi2 hi3 hi4 hi5 hK h
  rw [if_neg hc30] at h
  by_cases hc31 : ((xs v3.toNatClampNeg) &&& (63 : Int32)) = 31
  · rw [if_pos hc31] at h
    refine zr_tabIn C (off := 1142) 1175 d_L_law_33 (by rw [hc31]; decide) (by rw [hc31]; decide) (by rw [hc31]; rfl) (by decide) ?_
    exact gL_31 C hX hbl hbA hi0 hi1 hi2 hi3 hi4 hi5 hK h
  rw [if_neg hc31] at h
  by_cases hc32 : ((xs v3.toNatClampNeg) &&& (63 : Int32)) = 32
  · rw [if_pos hc32] at h
    refine zr_tabIn C (off := 1155) 1188 d_L_law_33 (by rw [hc32]; decide) (by rw [hc32]; decide) (by rw [hc32]; rfl) (by decide) ?_
    exact gL_32 C hX hbl hbA hi0 hi1 hi2 hi3 hi4 hi5 hK h
  rw [if_neg hc32] at h
  by_cases hc33 : ((xs v3.toNatClampNeg) &&& (63 : Int32)) = 33
  · rw [if_pos hc33] at h
    refine zr_tabIn C (off := 1208) 1241 d_L_law_33 (by rw [hc33]; decide) (by rw [hc33]; decide) (by rw [hc33]; rfl) (by decide) ?_
    exact gL_33 C hX hbl hbA hi0 hi1 hi2 hi3 hi4 hi5 hK h
  rw [if_neg hc33] at h
  by_cases hc34 : ((xs v3.toNatClampNeg) &&& (63 : Int32)) = 34
  · rw [if_pos hc34] at h
    refine zr_tabIn C (off := 1231) 1264 d_L_law_33 (by rw [hc34]; decide) (by rw [hc34]; decide) (by rw [hc34]; rfl) (by decide) ?_
    exact gL_34 C hX hbl hbA hi0 hi1 hi2 hi3 hi4 hi5 hK h
  rw [if_neg hc34] at h
  by_cases hc35 : ((xs v3.toNatClampNeg) &&& (63 : Int32)) = 35
  · rw [if_pos hc35] at h
    refine zr_tabIn C (off := 1254) 1287 d_L_law_33 (by rw [hc35]; decide) (by rw [hc35]; decide) (by rw [hc35]; rfl) (by decide) ?_
    exact gL_35 C hX hbl hbA hi0 hi1 hi2 hi3 hi4 hi5 hK h
  rw [if_neg hc35] at h
  have e0 := lv_neT hc0 (show (0 : Int32).toInt = 0 by decide)
  have e1 := lv_neT hc1 (show (1 : Int32).toInt = 1 by decide)
  have e2 := lv_neT hc2 (show (2 : Int32).toInt = 2 by decide)
  have e3 := lv_neT hc3 (show (3 : Int32).toInt = 3 by decide)
  have e4 := lv_neT hc4 (show (4 : Int32).toInt = 4 by decide)
  have e5 := lv_neT hc5 (show (5 : Int32).toInt = 5 by decide)
  have e6 := lv_neT hc6 (show (6 : Int32).toInt = 6 by decide)
  have e7 := lv_neT hc7 (show (7 : Int32).toInt = 7 by decide)
  have e8 := lv_neT hc8 (show (8 : Int32).toInt = 8 by decide)
  have e9 := lv_neT hc9 (show (9 : Int32).toInt = 9 by decide)
  have e10 := lv_neT hc10 (show (10 : Int32).toInt = 10 by decide)
  have e11 := lv_neT hc11 (show (11 : Int32).toInt = 11 by decide)
  have e12 := lv_neT hc12 (show (12 : Int32).toInt = 12 by decide)
  have e13 := lv_neT hc13 (show (13 : Int32).toInt = 13 by decide)
  have e14 := lv_neT hc14 (show (14 : Int32).toInt = 14 by decide)
  have e15 := lv_neT hc15 (show (15 : Int32).toInt = 15 by decide)
  have e16 := lv_neT hc16 (show (16 : Int32).toInt = 16 by decide)
  have e17 := lv_neT hc17 (show (17 : Int32).toInt = 17 by decide)
  have e18 := lv_neT hc18 (show (18 : Int32).toInt = 18 by decide)
  have e19 := lv_neT hc19 (show (19 : Int32).toInt = 19 by decide)
  have e20 := lv_neT hc20 (show (20 : Int32).toInt = 20 by decide)
  have e21 := lv_neT hc21 (show (21 : Int32).toInt = 21 by decide)
  have e22 := lv_neT hc22 (show (22 : Int32).toInt = 22 by decide)
  have e23 := lv_neT hc23 (show (23 : Int32).toInt = 23 by decide)
  have e24 := lv_neT hc24 (show (24 : Int32).toInt = 24 by decide)
  have e25 := lv_neT hc25 (show (25 : Int32).toInt = 25 by decide)
  have e26 := lv_neT hc26 (show (26 : Int32).toInt = 26 by decide)
  have e27 := lv_neT hc27 (show (27 : Int32).toInt = 27 by decide)
  have e28 := lv_neT hc28 (show (28 : Int32).toInt = 28 by decide)
  have e29 := lv_neT hc29 (show (29 : Int32).toInt = 29 by decide)
  have e30 := lv_neT hc30 (show (30 : Int32).toInt = 30 by decide)
  have e31 := lv_neT hc31 (show (31 : Int32).toInt = 31 by decide)
  have e32 := lv_neT hc32 (show (32 : Int32).toInt = 32 by decide)
  have e33 := lv_neT hc33 (show (33 : Int32).toInt = 33 by decide)
  have e34 := lv_neT hc34 (show (34 : Int32).toInt = 34 by decide)
  have e35 := lv_neT hc35 (show (35 : Int32).toInt = 35 by decide)
  refine zr_tabOut C 1310 d_L_law_33 (by omega) (by decide) ?_
  exact hK σ h
