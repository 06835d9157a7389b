/-! THE CLAIM OUT OF ONE WALK OF THE LAW'S BODY. Your part is whole_start (and what it stands on); all else here is the same for every law, but numbers. -/
def R_law : String := "StraitFleetLaw"
def lw_P (b : Addr) (xs : List Int32) (args : Array Value) (s : State) : Prop := args = #[.ref b] ∧ s.IntsAt b xs ∧ xs.length ≤ 384 ∧ (Jvm.Cond.and given_1 narrow_1).before args s = true
def lw_Q (_ : Array Value) (s : State) (o : Outcome) (t : State) : Prop := o = .returned (some (.int 1)) ∧ Framed s o t [] 600000 7302250
def lw_Z (below : List Frame) (a : Array Value) (s : State) : State → Prop := fun t => ∃ o, t.status = .running ∧ Ended t below o ∧ lw_Q a s o t
/-- the law's own end, with 1 on the stack, nothing written that was there before, its room as the claim has it -/
theorem lw_ret {p : Program} {l : Launch} {e : Env} {s : State} {m : MethodId} {below : List Frame} {meth : Method} {c : Code} {b : Nat} (hx : p.tables.exec = Jvm.exec) (hb : c.code = code) (hr : meth.sig.returnType = ret) (hlocks : meth.locks = false) {pc : Nat} {H : Heap} {ls : Array Slot} (hdg : decode code pc = .ok (.ireturn, 1)) : W p l e room_1 s m #[Value.ref b] below meth c H [] 600000 7302250 (lw_Z below #[Value.ref b] s) (F0 m pc ls [.int 1]) := by
  intro T hT X
  obtain ⟨fs, hret, hrun, hended, hW, hframe⟩ := X.leave (v := some (.int 1)) (hlocks := hlocks) (fun h => by rw [hr] at h; cases h)
  have hmeth' : T.vm.method? m = some meth := X.method'
  refine ⟨T.setFrames fs, ?_, .returned (some (.int 1)), hrun, hended, rfl, ⟨_, rfl⟩, hW, hframe⟩
  jvm_step X.here [X.here.top, hx, hb, hdg, hmeth', hr, ret, narrow_b1]
  (try refine ⟨rfl, ?_⟩); (try refine ⟨rfl, ?_⟩)
  first | (intro acts; rw [hret _ acts rfl rfl rfl]) | rw [hret _ _ rfl rfl rfl]
  exact Steps.refl _
/-- what holds at the law's entry: the machine, the code, the tables' words (any of lw_tbl by 'hts w (by decide +kernel)'), the script of L ints xs at the cell b, what the Statement gives of the start (any of its parts by flat_of_before) -/
def lw_At (p : Program) (s : State) (m : MethodId) (meth : Method) (c : Code) (b L : Nat) (xs : Nat → Int32) : Prop :=
  p.tables.exec = Jvm.exec ∧ c.code = code ∧ meth.sig.returnType = ret ∧ c.maxLocals = 4 ∧ s.vm.findClass R_law = some m.cls ∧ (∀ w ∈ lw_tbl, w.before #[Value.ref b] s = true) ∧ va_X b L xs s s.heap ∧ b < s.heap.size ∧ meth.locks = false ∧ (Jvm.Cond.and given_1 narrow_1).before #[Value.ref b] s = true
set_option maxRecDepth 100000 in
theorem wl_L_7 : Cond.classLink RL 7 RX8 ∈ zGW := zGt_1 14 rfl rfl
set_option maxRecDepth 100000 in
theorem wn_X8 : Cond.instantiable RX8 7 ∈ zGW := zGt_1 15 rfl rfl
set_option maxRecDepth 100000 in
theorem wt_X8 : Cond.initialized RX8 ∈ zGW := zGt_1 1 rfl rfl
set_option maxRecDepth 100000 in
theorem wl_L_10 : Cond.classLink RL 10 RX9 ∈ zGW := zGt_3 198 rfl rfl
set_option maxRecDepth 100000 in
theorem wn_X9 : Cond.instantiable RX9 40 ∈ zGW := zGt_3 199 rfl rfl
set_option maxRecDepth 100000 in
theorem wt_X9 : Cond.initialized RX9 ∈ zGW := zGt_1 10 rfl rfl
def zNJ (own : String) (index : Nat) (y : MethodName) (bytes : ByteArray) : Prop := Cond.code y bytes 1 none ∈ zGW ∧ Cond.methodLink own index y ∈ zGW ∧ Cond.instanceMethod y ∈ zGW ∧ Cond.initialized y.cls ∈ zGW ∧ (y.cls ≠ "java/lang/invoke/MethodHandle" ∧ y.cls ≠ "java/lang/invoke/VarHandle" ∧ (parseMethodDescriptor y.desc).map (fun d => d.parameters.length) = some 0) ∧ y.name = "<init>"
set_option maxRecDepth 100000 in
theorem wj_L_9 : zNJ RL 9 yX8_init cX8_init := ⟨zGt_1 18 rfl rfl, zGt_1 16 rfl rfl, zGt_1 17 rfl rfl, zGt_1 1 rfl rfl, by decide +kernel, rfl⟩
set_option maxRecDepth 100000 in
theorem wj_L_12 : zNJ RL 12 yX9_init cX9_init := ⟨zGt_3 202 rfl rfl, zGt_3 200 rfl rfl, zGt_3 201 rfl rfl, zGt_1 10 rfl rfl, by decide +kernel, rfl⟩
def zS0 : zST := (fun a => match a with
  | 2 => fun j => match j with | 7 => 1 | _ => 0
  | 19 => fun j => match j with | 7 => 1 | _ => 0
  | 36 => fun j => match j with | 7 => 1 | _ => 0
  | 55 => fun j => match j with | 7 => 1 | _ => 0
  | 54 => fun j => match j with | 2 => -6 | _ => 0
  | 7 => zT0 | 24 => zT0 | 41 => zT0 | 60 => zT0
  | 69 => fun j => match j with | 5 => 6 | 6 => 10 | 7 => 1 | 8 => 20 | 9 => 1 | 10 => 50 | 12 => 1 | 14 => 1 | _ => 0
  | _ => fun _ => 0, fun _ _ => 0)
def zRho (u v : Nat → Nat) (k : Nat) : Nat := if k < 69 then u k else v (k - 69)
set_option maxRecDepth 100000 in
set_option maxHeartbeats 4000000 in
theorem zW_made (g0 : zG) (u v : Nat → Nat) : zW (g0.1, zRho u v, g0.2.2) zS0 = mk_X8 g0 u ++ mk_X9 g0 v := by
  apply List.ext_getElem?
  intro k
  match k with
  | 0 => exact (zW_at sh_0).trans rfl
  | 1 => exact (zW_at sh_1).trans rfl
  | 2 => exact (zW_at sh_2).trans rfl
  | 3 => exact (zW_at sh_3).trans rfl
  | 4 => exact (zW_at sh_4).trans rfl
  | 5 => exact (zW_at sh_5).trans rfl
  | 6 => exact (zW_at sh_6).trans rfl
  | 7 => exact (zW_at sh_7).trans rfl
  | 8 => exact (zW_at sh_8).trans rfl
  | 9 => exact (zW_at sh_9).trans rfl
  | 10 => exact (zW_at sh_10).trans rfl
  | 11 => exact (zW_at sh_11).trans rfl
  | 12 => exact (zW_at sh_12).trans rfl
  | 13 => exact (zW_at sh_13).trans rfl
  | 14 => exact (zW_at sh_14).trans rfl
  | 15 => exact (zW_at sh_15).trans rfl
  | 16 => exact (zW_at sh_16).trans rfl
  | 17 => exact (zW_at sh_17).trans rfl
  | 18 => exact (zW_at sh_18).trans rfl
  | 19 => exact (zW_at sh_19).trans rfl
  | 20 => exact (zW_at sh_20).trans rfl
  | 21 => exact (zW_at sh_21).trans rfl
  | 22 => exact (zW_at sh_22).trans rfl
  | 23 => exact (zW_at sh_23).trans rfl
  | 24 => exact (zW_at sh_24).trans rfl
  | 25 => exact (zW_at sh_25).trans rfl
  | 26 => exact (zW_at sh_26).trans rfl
  | 27 => exact (zW_at sh_27).trans rfl
  | 28 => exact (zW_at sh_28).trans rfl
  | 29 => exact (zW_at sh_29).trans rfl
  | 30 => exact (zW_at sh_30).trans rfl
  | 31 => exact (zW_at sh_31).trans rfl
  | 32 => exact (zW_at sh_32).trans rfl
  | 33 => exact (zW_at sh_33).trans rfl
  | 34 => exact (zW_at sh_34).trans rfl
  | 35 => exact (zW_at sh_35).trans rfl
  | 36 => exact (zW_at sh_36).trans rfl
  | 37 => exact (zW_at sh_37).trans rfl
  | 38 => exact (zW_at sh_38).trans rfl
  | 39 => exact (zW_at sh_39).trans rfl
  | 40 => exact (zW_at sh_40).trans rfl
  | 41 => exact (zW_at sh_41).trans rfl
  | 42 => exact (zW_at sh_42).trans rfl
  | 43 => exact (zW_at sh_43).trans rfl
  | 44 => exact (zW_at sh_44).trans rfl
  | 45 => exact (zW_at sh_45).trans rfl
  | 46 => exact (zW_at sh_46).trans rfl
  | 47 => exact (zW_at sh_47).trans rfl
  | 48 => exact (zW_at sh_48).trans rfl
  | 49 => exact (zW_at sh_49).trans rfl
  | 50 => exact (zW_at sh_50).trans rfl
  | 51 => exact (zW_at sh_51).trans rfl
  | 52 => exact (zW_at sh_52).trans rfl
  | 53 => exact (zW_at sh_53).trans rfl
  | 54 => exact (zW_at sh_54).trans rfl
  | 55 => exact (zW_at sh_55).trans rfl
  | 56 => exact (zW_at sh_56).trans rfl
  | 57 => exact (zW_at sh_57).trans rfl
  | 58 => exact (zW_at sh_58).trans rfl
  | 59 => exact (zW_at sh_59).trans rfl
  | 60 => exact (zW_at sh_60).trans rfl
  | 61 => exact (zW_at sh_61).trans rfl
  | 62 => exact (zW_at sh_62).trans rfl
  | 63 => exact (zW_at sh_63).trans rfl
  | 64 => exact (zW_at sh_64).trans rfl
  | 65 => exact (zW_at sh_65).trans rfl
  | 66 => exact (zW_at sh_66).trans rfl
  | 67 => exact (zW_at sh_67).trans rfl
  | 68 => exact (zW_at sh_68).trans rfl
  | 69 => exact (zW_at sh_69).trans rfl
  | 70 => exact (zW_at sh_70).trans rfl
  | 71 => exact (zW_at sh_71).trans rfl
  | 72 => exact (zW_at sh_72).trans rfl
  | 73 => exact (zW_at sh_73).trans rfl
  | 74 => exact (zW_at sh_74).trans rfl
  | 75 => exact (zW_at sh_75).trans rfl
  | 76 => exact (zW_at sh_76).trans rfl
  | 77 => exact (zW_at sh_77).trans rfl
  | 78 => exact (zW_at sh_78).trans rfl
  | 79 => exact (zW_at sh_79).trans rfl
  | 80 => exact (zW_at sh_80).trans rfl
  | 81 => exact (zW_at sh_81).trans rfl
  | 82 => exact (zW_at sh_82).trans rfl
  | 83 => exact (zW_at sh_83).trans rfl
  | 84 => exact (zW_at sh_84).trans rfl
  | 85 => exact (zW_at sh_85).trans rfl
  | 86 => exact (zW_at sh_86).trans rfl
  | k + 87 => rw [List.getElem?_eq_none (by simp [zW, zT_len]), List.getElem?_eq_none (by simp [mk_X8, mk_X9])]
theorem zNJ_run {p : Program} {l : Launch} {e : Env} {R : Room} {s : State} {m : MethodId} {args : Array Value} {below : List Frame} {meth : Method} {c : Code} {Q : State → Prop} {g : zG} {A : Nat → Prop} {kc ks pc nL : Nat} {st : List Value} {cc : ByteArray} {own : String} {index f lo mc ms cj q : Nat} {y : MethodName} {bytes : ByteArray} {fs0 : List Value} {mk : (Nat → Nat) → va_W} {wz : va_W} {H : Heap} {locs : List Loc} {ls : Array Slot}
    (hx : p.tables.exec = Jvm.exec) (hb : c.code = cc) (hml : c.maxLocals = nL) (hown : s.vm.findClass own = some m.cls) (hts : ∀ w ∈ zGW, w.before args s = true) (hKN : zKN g s) (hFT : zFT g A s s.heap) (hA : ∀ q, s.heap.size ≤ q → A q)
    (vw : zNJ own index y bytes) (hM : zMn l g y bytes f lo mc ms cj fs0 mk) (hF : f + 1 ≤ R.frames) (hL : 8 + (1 + 11) + lo ≤ R.locals) (hc : kc + mc ≤ R.cells) (hs : ks + ms ≤ R.slots) (hrm : (st.map fun v => v.category).sum ≤ 8) (hdg : decode cc pc = .ok (.invokespecial index, 3))
    (hP : va_P g.1 vwCl (wz ++ [(q, .inr (cj, fs0))]) H) (hD : va_D A (wz ++ [(q, .inr (cj, fs0))])) (hS : va_S A s.heap H locs) (hls : ls.size = nL)
    (kk : ∀ (u : Nat → Nat) (H1 : Heap) (locs1 : List Loc), u 0 = q → va_P g.1 vwCl (wz ++ mk u) H1 → va_D A (wz ++ mk u) → va_S A s.heap H1 locs1 → W p l e R s m args below meth c H1 locs1 (kc + mc) (ks + ms) Q (F0 m (pc + 3) ls st)) : W p l e R s m args below meth c H locs kc ks Q (F0 m pc ls (.ref q :: st)) := by
  have hFc := zfree hD hS hA
  refine va_callv (va_runI (As := []) (rest := st) ⟨hx, hb, hml, hown, hts⟩ (hM q wz H.size) ⟨callB_of 0 hts (zGW_good vw.1) rfl rfl rfl (hts _ vw.2.2.2.1) (hts _ vw.2.1) vw.2.2.2.2.1 ⟨hF, hL⟩, vw.2.2.2.2.2, hts _ vw.2.2.1⟩ ⟨zPn.blind, fun U hU hW => ⟨rfl, by rw [hU], by rw [hU]; exact hP, zKN.moved hW hKN, hD.weaken (fun _ _ _ _ => trivial), zFT.to hW.alike hFT (fun a h1 h2 => by rw [hU]; exact hS.2.1 a h1 h2) hFc⟩⟩ rfl rfl hls rfl (lv_room hrm) hdg ⟨hc, hs⟩) hS (fun x _ h => hFc x h) hFc (fun u t H1 locs1 ht hvm hw hB hz1 hk1 hS1 => ?_)
  obtain ⟨hP1, hD1⟩ := hB
  rw [ht] at hP1
  exact kk u H1 locs1 hw hP1 (hD1.weaken (fun _ _ _ h => hFc _ h)) hS1
theorem zlen6 : ∀ L, L < 385 → (Int32.ofNat L - 6).toInt = (L : Int) - 6 := by decide +kernel
section ZLoop
variable {p : Program} {l : Launch} {e : Env} {s : State} {m : MethodId} {below : List Frame} {meth : Method} {c : Code} {g : zG} {n1 n2 b L : Nat} {xs : Nat → Int32} {Inv : zST → Prop}
set_option maxHeartbeats 4000000 in
theorem law_loop (C : zCX p room_1 s m #[Value.ref b] meth c g n1 n2 cL_law 4 RL 7 164) (hr : meth.sig.returnType = ret) (hlocks : meth.locks = false) (hn1 : n1 ≤ 600000) (hn2 : n2 ≤ 7302250) (hX : va_X b L xs s s.heap) (hbl : b < s.heap.size) (hzA : ∀ q, zA g q → s.heap.size ≤ q) (hL : L ≤ 384) (hstep : ∀ (x a1 a2 a3 a4 a5 : Int32) (σ : zST), Inv σ → wLaw x a1 a2 a3 a4 a5 σ Inv) :
    ∀ (n i : Nat) (σ : zST), L < i + n → i ≤ L → Inv σ → zGG p l e room_1 s m #[Value.ref b] below meth c (lw_Z below #[Value.ref b] s) g n1 n2 4 18 [(0, .ref b), (1, .ref (g.2.1 0)), (2, .ref (g.2.1 69)), (3, .int (nI i))] [] σ := by
  have hbA : ¬ zA g b := fun h => absurd (hzA b h) (Nat.not_le.mpr hbl)
  intro n
  induction n with
  | zero => intro i σ h1 h2; omega
  | succ n ih =>
    intro i σ h1 h2 hI
    refine zr_iload_n C (zo_29 (p := 18) (zby_w zwL_law_0 18 rfl)) rfl ?_
    refine zr_aload_n C (zo_42 (p := 19) (zby_w zwL_law_0 19 rfl)) rfl ?_
    refine zr_slen C hX hbl hbA (zo_190 (p := 20) (zby_w zwL_law_0 20 rfl)) ?_
    refine zr_bipush C (6 : Int32) (zo_16 (p := 21) (k := 6) (a := 6) (zby_w zwL_law_0 21 rfl) (zby_w zwL_law_0 22 rfl) (by decide)) (by decide) ?_
    refine zr_isub C (zo_100 (p := 23) (zby_w zwL_law_0 23 rfl)) ?_
    refine zr_icmp_gt C 1317 (zo_163 (p := 24) (k := 1293) (a := 5) (b := 13) (zby_w zwL_law_0 24 rfl) (zby_w zwL_law_0 25 rfl) (zby_w zwL_law_0 26 rfl) (by decide)) (by decide) (fun hc => ?_) (fun hc => ?_)
    · refine zr_iconst C (1 : Int32) (zo_4 (p := 1317) (zby_w zwL_law_41 5 rfl)) (by decide) ?_
      intro H locs ls hP hS hl
      refine va_forget (fun q hq => hzA _ (hS.2.2 q hq)) ?_
      refine W.widen (k := 600000) (n := 7302250) hn1 hn2 ?_
      exact lw_ret C.1 C.2.1 hr hlocks (zo_172 (p := 1318) (zby_w zwL_law_41 6 rfl))
    · have hi6 : i + 6 ≤ L := by
        have e1 := zlen6 L (by omega)
        have e2 := nI_toInt (n := i) (by omega)
        rw [Int32.lt_iff_toInt_lt, e1, e2] at hc
        omega
      have hin : ∀ k : Nat, k < 6 → vp_in (nI i + nI k) L := fun k hk => by
        rw [nI_add]
        exact vp_in_nI (by omega) (by omega)
      refine gL_body (v3 := nI i) (K := Inv) C hX hbl hbA (vp_in_nI (by omega) (by omega)) (hin 1 (by omega)) (hin 2 (by omega)) (hin 3 (by omega)) (hin 4 (by omega)) (hin 5 (by omega)) (fun σ' h' => ?_) (hstep _ _ _ _ _ _ σ hI)
      refine zr_iinc C (nI (i + 6)) [(3, .int (nI (i + 6))), (0, .ref b), (1, .ref (g.2.1 0)), (2, .ref (g.2.1 69))] d_L_law_1311 rfl (nI_add i 6) (by decide) rfl ?_
      refine zr_goto C 18 (zo_167 (p := 1314) (k := (-1296)) (a := 250) (b := 240) (zby_w zwL_law_41 2 rfl) (zby_w zwL_law_41 3 rfl) (zby_w zwL_law_41 4 rfl) (by decide)) (by decide) ?_
      exact zr_pick [1, 2, 3, 0] rfl (ih (i + 6) σ' (by omega) hi6 h')
end ZLoop
theorem zcases8 {P : Nat → Prop} (h0 : P 0) (h1 : P 1) (h2 : P 2) (h3 : P 3) (h4 : P 4) (h5 : P 5) (h6 : P 6) (h7 : P 7) : ∀ j, j < 8 → P j := by
  intro j hj
  match j, hj with
  | 0, _ => exact h0
  | 1, _ => exact h1
  | 2, _ => exact h2
  | 3, _ => exact h3
  | 4, _ => exact h4
  | 5, _ => exact h5
  | 6, _ => exact h6
  | 7, _ => exact h7
  | k + 8, h => omega

set_option maxHeartbeats 4000000 in
set_option maxRecDepth 100000 in
theorem zstart {p : Program} {e : Env} {s : State} {m : MethodId} {below : List Frame} {meth : Method} {c : Code} (l : Launch) {b L : Nat} {xs : Nat → Int32} (hL : L ≤ 384) (C0 : lw_At p s m meth c b L xs) {Inv : zST → Prop} (h0 : Inv zS0) (hstep : ∀ (x a1 a2 a3 a4 a5 : Int32) (σ : zST), Inv σ → wLaw x a1 a2 a3 a4 a5 σ Inv) : W p l e room_1 s m #[Value.ref b] below meth c s.heap [] 0 0 (lw_Z below #[Value.ref b] s) (entryFrame m ([Value.ref b] : List Value).toArray 4) := by
  obtain ⟨hx, hb, hr, hml, hown, hts0, hX, hbl, hlocks, hgv⟩ := id C0
  have hts : ∀ w ∈ zGW, w.before #[Value.ref b] s = true := fun w hw => hts0 w (List.mem_filter.mp hw).1
  have hs := flat_of_before _ hgv
  have hA : ∀ q : Nat, s.heap.size ≤ q → (fun q : Nat => s.heap.size ≤ q) q := fun _ h => h
  obtain ⟨c0, i0, hKn0⟩ := u_known (C := RX0) (T := TX0) (N := 4) (n := 4) hts wi_X0 (hts _ wn_X0)
  obtain ⟨c1, i1, hKn1⟩ := u_known (C := RX1) (T := TX1) (N := 2) (n := 2) hts wi_X1 (hts _ wn_X1)
  obtain ⟨c2, i2, hKn2⟩ := u_known (C := RX2) (T := TX2) (N := 6) (n := 6) hts wi_X2 (hts _ wn_X2)
  obtain ⟨c3, i3, hKn3⟩ := u_known (C := RX3) (T := TX3) (N := 3) (n := 3) hts wi_X3 (hts _ wn_X3)
  obtain ⟨c4, i4, hKn4⟩ := u_known (C := RX4) (T := TX4) (N := 2) (n := 2) hts wi_X4 (hts _ wn_X4)
  obtain ⟨c5, i5, hKn5⟩ := u_known (C := RX5) (T := TX5) (N := 3) (n := 3) hts wi_X5 (hts _ wn_X5)
  obtain ⟨c6, i6, hKn6⟩ := u_known (C := RX6) (T := TX6) (N := 9) (n := 9) hts wi_X6 (hts _ wn_X6)
  obtain ⟨c7, i7, hKn7⟩ := u_known (C := RX7) (T := TX7) (N := 3) (n := 3) hts wi_X7 (hts _ wn_X7)
  obtain ⟨c8, i8, hKn8⟩ := u_known (C := RX8) (T := TX8) (N := 7) (n := 7) hts wi_X8 (hts _ wn_X8)
  obtain ⟨c9, i9, hKn9⟩ := u_known (C := RX9) (T := TX9) (N := 40) (n := 40) hts wi_X9 (hts _ wn_X9)
  obtain ⟨dC, dI, hKc⟩ : ∃ (dC : Nat → ClassId) (dI : Nat → Nat → Nat), ∀ (k : Nat) (q : vw_C), vwCl[k]? = some q → u_Kn s q.1 q.2.1 q.2.2 (dC k) (dI k) := by
    refine ⟨fun k => match k with | 0 => c0 | 1 => c1 | 2 => c2 | 3 => c3 | 4 => c4 | 5 => c5 | 6 => c6 | 7 => c7 | 8 => c8 | _ => c9, fun k => match k with | 0 => i0 | 1 => i1 | 2 => i2 | 3 => i3 | 4 => i4 | 5 => i5 | 6 => i6 | 7 => i7 | 8 => i8 | _ => i9, ?_⟩
    intro k q hq
    match k, hq with
    | 0, hq => cases hq; exact hKn0
    | 1, hq => cases hq; exact hKn1
    | 2, hq => cases hq; exact hKn2
    | 3, hq => cases hq; exact hKn3
    | 4, hq => cases hq; exact hKn4
    | 5, hq => cases hq; exact hKn5
    | 6, hq => cases hq; exact hKn6
    | 7, hq => cases hq; exact hKn7
    | 8, hq => cases hq; exact hKn8
    | 9, hq => cases hq; exact hKn9
    | k + 10, hq => simp [vwCl] at hq
  obtain ⟨cI, kI, oI, hcI, hkI, hkiI⟩ := Cond.arrayClass_spec (hts _ wa_int)
  obtain ⟨cJ, kJ, oJ, hcJ, hkJ, hkiJ⟩ := Cond.arrayClass_spec (hts _ wa_long)
  obtain ⟨cZ, kZ, oZ, hcZ, hkZ, hkiZ⟩ := Cond.arrayClass_spec (hts _ wa_boolean)
  obtain ⟨g0, hg0⟩ : ∃ g0 : zG, g0 = ((dC, dI), (fun _ => 0), (cI, cJ, cZ)) := ⟨_, rfl⟩
  have hK : va_K g0.1 vwCl (zTy g0) s := by
    subst hg0
    refine ⟨hKc, fun k q hq => ?_⟩
    match k, hq with
    | 0, hq => cases hq; exact ⟨fun n z => ⟨fun k h => (by cases h), kI, hkI, oI, hkiI⟩, hcI⟩
    | 1, hq => cases hq; exact ⟨fun n z => ⟨fun k h => (by cases h), kJ, hkJ, oJ, hkiJ⟩, hcJ⟩
    | 2, hq => cases hq; exact ⟨fun n z => ⟨fun k h => (by cases h), kZ, hkZ, oZ, hkiZ⟩, hcZ⟩
    | k + 3, hq => simp [zTy] at hq
  have hNW : ∀ w ∈ zNW, va_Nw w s := fun w hw => by
    have h2 := (List.mem_filter.mp hw).2
    have h1 := hts0 w (List.mem_filter.mp hw).1
    cases w <;> first | (simp [zIsN] at h2; done) | exact va_Nw.of rfl h1
  have hKN : zKN g0 s := ⟨hK, hNW, va_Nw.of rfl (hts0 zNF (List.mem_of_getElem? (i := 80) (by decide +kernel))), va_Nw.of rfl (hts0 zNC (List.mem_of_getElem? (i := 87) (by decide +kernel)))⟩
  obtain ⟨t1, ev_t1, h_t1⟩ := va_Tof (args := #[Value.ref b]) (s := s) (tm := (.static "StraitFleet" "TERM_AT_FIRST" "[I")) (ty := .int) (N := 8) (f := fun j => .int (zT0 j)) (A := fun q : Nat => s.heap.size ≤ q) (by decide) (hs (Cond.arrayOf (.static "StraitFleet" "TERM_AT_FIRST" "[I") .int) (by decide +kernel)) (va_eqt (hs (Cond.eq (.length (.static "StraitFleet" "TERM_AT_FIRST" "[I")) (.int 8)) (by decide +kernel))) (zcases8 (P := fun j => (Term.elem (.static "StraitFleet" "TERM_AT_FIRST" "[I") (.int (Int32.ofNat j))).eval #[Value.ref b] s none [] s = some (.int (zT0 j))) (va_eqt (hs (Cond.eq (.elem (.static "StraitFleet" "TERM_AT_FIRST" "[I") (.int 0)) (.int 6)) (by decide +kernel))) (va_eqt (hs (Cond.eq (.elem (.static "StraitFleet" "TERM_AT_FIRST" "[I") (.int 1)) (.int 10)) (by decide +kernel))) (va_eqt (hs (Cond.eq (.elem (.static "StraitFleet" "TERM_AT_FIRST" "[I") (.int 2)) (.int 1)) (by decide +kernel))) (va_eqt (hs (Cond.eq (.elem (.static "StraitFleet" "TERM_AT_FIRST" "[I") (.int 3)) (.int 20)) (by decide +kernel))) (va_eqt (hs (Cond.eq (.elem (.static "StraitFleet" "TERM_AT_FIRST" "[I") (.int 4)) (.int 1)) (by decide +kernel))) (va_eqt (hs (Cond.eq (.elem (.static "StraitFleet" "TERM_AT_FIRST" "[I") (.int 5)) (.int 50)) (by decide +kernel))) (va_eqt (hs (Cond.eq (.elem (.static "StraitFleet" "TERM_AT_FIRST" "[I") (.int 6)) (.int 0)) (by decide +kernel))) (va_eqt (hs (Cond.eq (.elem (.static "StraitFleet" "TERM_AT_FIRST" "[I") (.int 7)) (.int 1)) (by decide +kernel)))) (fun a h => Nat.not_le.mpr h)
  have Z_t1 : va_Z "StraitFleet" "TERM_AT_FIRST" "[I" (.ref t1) (fun q : Nat => s.heap.size ≤ q) s s.heap := va_Zref (hts0 (Cond.laysStatic "StraitFleet" "TERM_AT_FIRST" "[I") (List.mem_of_getElem? (i := 81) (by decide +kernel))) (hts _ wt_X8) ev_t1 (fun a h => Nat.not_le.mpr h)
  obtain ⟨t2, ev_t2, h_t2⟩ := va_Tof (args := #[Value.ref b]) (s := s) (tm := (.static "StraitFleet" "TERM_LEAST" "[I")) (ty := .int) (N := 8) (f := fun j => .int (zTL j)) (A := fun q : Nat => s.heap.size ≤ q) (by decide) (hs (Cond.arrayOf (.static "StraitFleet" "TERM_LEAST" "[I") .int) (by decide +kernel)) (va_eqt (hs (Cond.eq (.length (.static "StraitFleet" "TERM_LEAST" "[I")) (.int 8)) (by decide +kernel))) (zcases8 (P := fun j => (Term.elem (.static "StraitFleet" "TERM_LEAST" "[I") (.int (Int32.ofNat j))).eval #[Value.ref b] s none [] s = some (.int (zTL j))) (va_eqt (hs (Cond.eq (.elem (.static "StraitFleet" "TERM_LEAST" "[I") (.int 0)) (.int 1)) (by decide +kernel))) (va_eqt (hs (Cond.eq (.elem (.static "StraitFleet" "TERM_LEAST" "[I") (.int 1)) (.int 0)) (by decide +kernel))) (va_eqt (hs (Cond.eq (.elem (.static "StraitFleet" "TERM_LEAST" "[I") (.int 2)) (.int 0)) (by decide +kernel))) (va_eqt (hs (Cond.eq (.elem (.static "StraitFleet" "TERM_LEAST" "[I") (.int 3)) (.int 0)) (by decide +kernel))) (va_eqt (hs (Cond.eq (.elem (.static "StraitFleet" "TERM_LEAST" "[I") (.int 4)) (.int 0)) (by decide +kernel))) (va_eqt (hs (Cond.eq (.elem (.static "StraitFleet" "TERM_LEAST" "[I") (.int 5)) (.int 0)) (by decide +kernel))) (va_eqt (hs (Cond.eq (.elem (.static "StraitFleet" "TERM_LEAST" "[I") (.int 6)) (.int 0)) (by decide +kernel))) (va_eqt (hs (Cond.eq (.elem (.static "StraitFleet" "TERM_LEAST" "[I") (.int 7)) (.int 0)) (by decide +kernel)))) (fun a h => Nat.not_le.mpr h)
  have Z_t2 : va_Z "StraitFleet" "TERM_LEAST" "[I" (.ref t2) (fun q : Nat => s.heap.size ≤ q) s s.heap := va_Zref (hts0 (Cond.laysStatic "StraitFleet" "TERM_LEAST" "[I") (List.mem_of_getElem? (i := 309) (by decide +kernel))) (hts _ wt_X8) ev_t2 (fun a h => Nat.not_le.mpr h)
  obtain ⟨t3, ev_t3, h_t3⟩ := va_Tof (args := #[Value.ref b]) (s := s) (tm := (.static "StraitFleet" "TERM_MOST" "[I")) (ty := .int) (N := 8) (f := fun j => .int (zTM j)) (A := fun q : Nat => s.heap.size ≤ q) (by decide) (hs (Cond.arrayOf (.static "StraitFleet" "TERM_MOST" "[I") .int) (by decide +kernel)) (va_eqt (hs (Cond.eq (.length (.static "StraitFleet" "TERM_MOST" "[I")) (.int 8)) (by decide +kernel))) (zcases8 (P := fun j => (Term.elem (.static "StraitFleet" "TERM_MOST" "[I") (.int (Int32.ofNat j))).eval #[Value.ref b] s none [] s = some (.int (zTM j))) (va_eqt (hs (Cond.eq (.elem (.static "StraitFleet" "TERM_MOST" "[I") (.int 0)) (.int 9)) (by decide +kernel))) (va_eqt (hs (Cond.eq (.elem (.static "StraitFleet" "TERM_MOST" "[I") (.int 1)) (.int 99)) (by decide +kernel))) (va_eqt (hs (Cond.eq (.elem (.static "StraitFleet" "TERM_MOST" "[I") (.int 2)) (.int 20)) (by decide +kernel))) (va_eqt (hs (Cond.eq (.elem (.static "StraitFleet" "TERM_MOST" "[I") (.int 3)) (.int 60)) (by decide +kernel))) (va_eqt (hs (Cond.eq (.elem (.static "StraitFleet" "TERM_MOST" "[I") (.int 4)) (.int 99)) (by decide +kernel))) (va_eqt (hs (Cond.eq (.elem (.static "StraitFleet" "TERM_MOST" "[I") (.int 5)) (.int 99)) (by decide +kernel))) (va_eqt (hs (Cond.eq (.elem (.static "StraitFleet" "TERM_MOST" "[I") (.int 6)) (.int 99)) (by decide +kernel))) (va_eqt (hs (Cond.eq (.elem (.static "StraitFleet" "TERM_MOST" "[I") (.int 7)) (.int 9999)) (by decide +kernel)))) (fun a h => Nat.not_le.mpr h)
  have Z_t3 : va_Z "StraitFleet" "TERM_MOST" "[I" (.ref t3) (fun q : Nat => s.heap.size ≤ q) s s.heap := va_Zref (hts0 (Cond.laysStatic "StraitFleet" "TERM_MOST" "[I") (List.mem_of_getElem? (i := 311) (by decide +kernel))) (hts _ wt_X8) ev_t3 (fun a h => Nat.not_le.mpr h)
  have hFT : zFT g0 (fun q : Nat => s.heap.size ≤ q) s s.heap := by
    obtain ⟨a, c1, cell, k1, q1, q2, q3, q4, q5, q6, q7⟩ := Cond.exactly_spec (hs (Cond.exactly (.static "StraitFleet" "TERM_AT_FIRST" "[I") "[I") (by decide +kernel))
    cases ev_t1.symm.trans q1
    obtain ⟨cell2, w1, w2, w3, w4, w5, w6, w7⟩ := h_t1
    cases q3.symm.trans w1
    have hlen := va_eqt (hs (Cond.eq (.length (.static "StraitFleet" "TERM_AT_FIRST" "[I")) (.int 8)) (by decide +kernel))
    obtain ⟨t2, cell3, x1, x2, x3⟩ := Term.length_spec hlen
    cases x1.symm.trans q1
    obtain ⟨y1, y2, y3, y4⟩ := State.arrayAt?_spec x2
    cases y1.symm.trans q3
    have hsz : cell.slots.size = 8 := by
      rw [Term.eval, x1] at hlen
      simp only [x2, Option.bind_eq_bind, Option.bind_some] at hlen
      by_cases hlt : cell.slots.size < 2147483648
      · have e9 := congrArg Int32.toInt w5
        have e8 := nI_toInt (n := cell.slots.size) (by omega)
        have e7 : cell.slots.size.toInt32 = nI cell.slots.size := rfl
        rw [e7, e8] at e9
        have e6 : (Int32.ofNat 8).toInt = 8 := by decide
        rw [e6] at e9
        omega
      · simp [hlt] at hlen
    refine ⟨t1, cell, Z_t1, q3, ?_, w3, w2.1, ?_, w7⟩
    · rw [hg0, q6]
      exact Option.some.inj (q2.symm.trans hcI)
    · apply Array.ext_getElem?
      intro i
      by_cases hi : i < 8
      · rw [w6 i hi, arrV_read _ _ hi]
      · rw [Array.getElem?_eq_none (by omega), Array.getElem?_eq_none (by rw [arrV_size]; omega)]
  have hS : va_S (fun q : Nat => s.heap.size ≤ q) s.heap s.heap [] := va_S.rf
  have hP : va_P g0.1 vwCl [] s.heap := fun k q h => by simp at h
  have hD : va_D (fun q : Nat => s.heap.size ≤ q) [] := ⟨fun i j p q h => by simp at h, fun k q h => by simp at h⟩
  have hl := lv_entry ([.ref b]) (n := 4) (Nat.le_of_ble_eq_true rfl)
  rw [lg_entry_eq]
  generalize (lg_sl ([.ref b]) ++ List.replicate (4 - (lg_sl ([.ref b])).length) Slot.unset).toArray = ls at hl ⊢
  have hl : lv_has ls 4 [(0, .ref b)] := hl
  refine va_new (D := g0.1) (ci := 8) (fs := [.null, .null, .null, .int 0, .null, .null, .null]) (C := RX8) (T := TX8) (N := 7) hx hb hts wi_X8 tyX8 tyX8_ok hown (hts _ wl_L_7) (hts _ wn_X8) (hts _ wt_X8) hK hP hD hS hA rfl (by decide +kernel) (Nat.le_of_ble_eq_true rfl) (Nat.le_of_ble_eq_true rfl) (zo_187 (p := 0) (k := 7) (a := 0) (b := 7) (zby_w zwL_law_0 0 rfl) (zby_w zwL_law_0 1 rfl) (zby_w zwL_law_0 2 rfl) (by decide)) (fun q1 Ha hPa hDa hSa => ?_)
  refine lv_dup hx hb (zo_89 (p := 3) (zby_w zwL_law_0 3 rfl)) rfl ?_
  refine zNJ_run (wz := []) hx hb hml hown hts hKN hFT hA wj_L_9 (c_X8_init l g0) (by decide) (by decide) (by decide) (by decide) (Nat.le_of_ble_eq_true rfl) (zo_183 (p := 4) (k := 9) (a := 0) (b := 9) (zby_w zwL_law_0 4 rfl) (zby_w zwL_law_0 5 rfl) (zby_w zwL_law_0 6 rfl) (by decide)) hPa hDa hSa hl.1 (fun u H locs hu hP hD hS => ?_)
  subst hu
  refine lv_astore_n (lv' := [(1, .ref (u 0)), (0, .ref b)]) hx hb (zo_76 (p := 7) (zby_w zwL_law_0 7 rfl)) rfl hl (by decide) rfl (fun ls hl => ?_)
  refine va_new (D := g0.1) (ci := 9) (fs := [.int 0, .null, .null, .null, .null, .int 0, .int 0, .int 0, .int 0, .int 0, .int 0, .int 0, .int 0, .null, .int 0, .int 0, .int 0, .int 0, .int 0, .null, .null, .int 0, .null, .null, .null, .int 0, .null, .int 0, .null, .int 0, .int 0, .int 0, .null, .null, .int 0, .null, .null, .null, .int 0, .int 0]) (C := RX9) (T := TX9) (N := 40) hx hb hts wi_X9 tyX9 tyX9_ok hown (hts _ wl_L_10) (hts _ wn_X9) (hts _ wt_X9) hK hP hD hS hA rfl (by decide +kernel) (Nat.le_of_ble_eq_true rfl) (Nat.le_of_ble_eq_true rfl) (zo_187 (p := 8) (k := 10) (a := 0) (b := 10) (zby_w zwL_law_0 8 rfl) (zby_w zwL_law_0 9 rfl) (zby_w zwL_law_0 10 rfl) (by decide)) (fun q2 Hb hPb hDb hSb => ?_)
  refine lv_dup hx hb (zo_89 (p := 11) (zby_w zwL_law_0 11 rfl)) rfl ?_
  refine zNJ_run hx hb hml hown hts hKN hFT hA wj_L_12 (c_X9_init l g0) (by decide) (by decide) (by decide) (by decide) (Nat.le_of_ble_eq_true rfl) (zo_183 (p := 12) (k := 12) (a := 0) (b := 12) (zby_w zwL_law_0 12 rfl) (zby_w zwL_law_0 13 rfl) (zby_w zwL_law_0 14 rfl) (by decide)) hPb hDb hSb hl.1 (fun v H locs hv hP hD hS => ?_)
  subst hv
  refine lv_astore_n (lv' := [(2, .ref (v 0)), (1, .ref (u 0)), (0, .ref b)]) hx hb (zo_77 (p := 15) (zby_w zwL_law_0 15 rfl)) rfl hl (by decide) rfl (fun ls hl => ?_)
  refine lv_iconst (v := 0) hx hb (zo_3 (p := 16) (zby_w zwL_law_0 16 rfl)) (by decide) ?_
  refine lv_istore_n (lv' := [(3, .int 0), (2, .ref (v 0)), (1, .ref (u 0)), (0, .ref b)]) hx hb (zo_62 (p := 17) (zby_w zwL_law_0 17 rfl)) rfl hl (by decide) rfl (fun ls hl => ?_)
  refine va_forget (fun q hq => hS.2.2 q hq) ?_
  have hP : va_P g0.1 vwCl (zW (g0.1, zRho u v, g0.2.2) zS0) H := by rw [zW_made]; exact hP
  have hD : va_D (fun q : Nat => s.heap.size ≤ q) (zW (g0.1, zRho u v, g0.2.2) zS0) := by rw [zW_made]; exact hD
  have hat : ∀ i : Nat, i < zT.length → ∃ e1, (zW (g0.1, zRho u v, g0.2.2) zS0)[i]? = some (zRho u v i, e1) := fun i hi => ⟨_, zW_at (List.getElem?_eq_getElem hi)⟩
  have hzA : ∀ q, zA (g0.1, zRho u v, g0.2.2) q → s.heap.size ≤ q := fun q hq => by
    obtain ⟨k, hk, rfl⟩ := hq
    obtain ⟨e1, h1⟩ := hat k hk
    exact hD.2 k _ h1
  have hinj : zInj (g0.1, zRho u v, g0.2.2) := fun i j hi hj he => by
    obtain ⟨e1, h1⟩ := hat i hi
    obtain ⟨e2, h2⟩ := hat j hj
    exact hD.1 i j _ _ h1 h2 he
  have hZ : zZ (g0.1, zRho u v, g0.2.2) s s.heap := ⟨t2, t3, Z_t2.narrow hzA, h_t2.narrow hzA, Z_t3.narrow hzA, h_t3.narrow hzA⟩
  refine law_loop (Inv := Inv) (g := (g0.1, zRho u v, g0.2.2)) ⟨hx, hb, hml, hown, hts, ⟨hK, hNW, hinj⟩, hlocks, by decide, by decide, by decide, by decide, hZ⟩ hr hlocks (by decide) (by decide) hX hbl hzA hL hstep (L + 1) 0 zS0 (by omega) (Nat.zero_le _) h0 H [] ls hP ⟨hS.1, fun q h1 h2 => hS.2.1 q h1 (Nat.not_le.mpr h1), fun q hq => by cases hq⟩ (lv_sub hl [3, 2, 1, 0] rfl)

