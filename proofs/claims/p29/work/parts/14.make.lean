/-! how objects are made: a world that grows; the own object, what was before it, what came behind it -/
abbrev zNF : Cond := .fieldLinkNest "StraitFleet$Sea" 28 "StraitFleet" "TERM_AT_FIRST" "[I" "StraitFleet"
abbrev zNC : Cond := .castable "[I" "java/lang/Cloneable"
def zT0 (j : Nat) : Int32 := ([6, 10, 1, 20, 1, 50, 0, 1] : List Int32).getD j 0
def zFT (g : zG) (A : Nat → Prop) (U : State) (H : Heap) : Prop := ∃ (t : Nat) (cell : Cell), va_Z "StraitFleet" "TERM_AT_FIRST" "[I" (.ref t) A U H ∧ H[t]? = some cell ∧ cell.cls = g.2.2.1 ∧ cell.vm ≠ .unknown ∧ (∀ k, cell.vm ≠ .statics k) ∧ cell.slots = (arrV g.2.2.1 8 (fun j => .int (zT0 j))).slots ∧ ¬ A t
theorem zFT.to {g : zG} {A B : Nat → Prop} {u U : State} {H H1 : Heap} (hvm : u.vm.Alike U.vm) (h : zFT g A u H) (hq : ∀ a : Nat, a < H.size → ¬ A a → H1[a]? = H[a]?) (hAB : ∀ q, B q → A q) : zFT g B U H1 := by
  obtain ⟨t, cell, h1, h2, h3, h4, h5, h6, h7⟩ := h
  exact ⟨t, cell, ((h1.kept hq).narrow hAB).moved hvm, by rw [hq t (Array.getElem?_eq_some_iff.mp h2).1 h7]; exact h2, h3, h4, h5, h6, fun z => h7 (hAB t z)⟩
def zKN (g : zG) (U : State) : Prop := va_K g.1 vwCl (zTy g) U ∧ (∀ w ∈ zNW, va_Nw w U) ∧ va_Nw zNF U ∧ va_Nw zNC U
theorem zKN.moved {g : zG} {s U : State} (hW : s.WarmedH U.vm) (h : zKN g s) : zKN g U := by
  refine ⟨va_K.moved hW.alike h.1, fun w hw => ?_, va_Nw.warmF hW h.2.2.1, va_Nw.warmC hW h.2.2.2⟩
  have h1 := h.2.1 w hw
  have h2 := (List.mem_filter.mp hw).2
  cases w <;> first | (simp [zIsN] at h2; done) | exact va_Nw.warmM hW h1
def zPn (g : zG) (ws : va_W) (sz : Nat) (U : State) : Prop := U.heap.size = sz ∧ va_P g.1 vwCl ws U.heap ∧ zKN g U ∧ va_D (fun _ => True) ws ∧ zFT g (va_A ws sz) U U.heap
def zBn (g : zG) (A : Nat → Prop) (wz : va_W) (mk : (Nat → Nat) → va_W) (u : Nat → Nat) (t : State) : Prop := va_P g.1 vwCl (wz ++ mk u) t.heap ∧ va_D A (wz ++ mk u)
theorem zPn.blind {g : zG} {ws : va_W} {sz : Nat} {As : List Value} : FrameBlind (va_Pc As (zPn g ws sz)) := by
  intro a U f mk h
  obtain ⟨h1, h2, h3, ⟨k1, k2, k3, k4⟩, h5, h6⟩ := h
  refine ⟨h1, h2, h3, ⟨va_K.moved (u := U) (U := U.calling f mk a) (Vm.Alike.refl U.vm) k1, ?_, va_Nw.same (u := U) (U := U.calling f mk a) rfl rfl k3, va_Nw.same (u := U) (U := U.calling f mk a) rfl rfl k4⟩, h5, zFT.to (u := U) (U := U.calling f mk a) (Vm.Alike.refl U.vm) h6 (fun _ _ _ => rfl) (fun _ h => h)⟩
  intro w hw
  have h2 := (List.mem_filter.mp hw).2
  have h9 := k2 w hw
  cases w <;> first | (simp [zIsN] at h2; done) | exact va_Nw.same (u := U) (U := U.calling f mk a) rfl rfl h9
def zWs (ws0 : va_W) (h0 ci : Nat) (fs : List Value) (Y : va_W) : va_W := ws0 ++ (h0, .inr (ci, fs)) :: Y
theorem zWs_app {ws0 : va_W} {h0 ci : Nat} {fs : List Value} {Y Z : va_W} : zWs ws0 h0 ci fs (Y ++ Z) = zWs ws0 h0 ci fs Y ++ Z := by
  simp [zWs]
theorem zWs_at {ws0 : va_W} {h0 ci : Nat} {fs : List Value} {Y : va_W} : (zWs ws0 h0 ci fs Y)[ws0.length]? = some (h0, .inr (ci, fs)) := by
  unfold zWs
  rw [List.getElem?_append_right (Nat.le_refl _), Nat.sub_self]
  rfl
theorem zWs_set {ws0 : va_W} {h0 ci : Nat} {fs fs' : List Value} {Y : va_W} : (zWs ws0 h0 ci fs Y).set ws0.length (h0, .inr (ci, fs')) = zWs ws0 h0 ci fs' Y := by
  unfold zWs
  rw [List.set_append_right _ _ (Nat.le_refl _), Nat.sub_self]
  rfl
theorem zWs_last {ws : va_W} {z : Nat × va_E} : (ws ++ [z])[ws.length]? = some z := by
  rw [List.getElem?_append_right (Nat.le_refl _), Nat.sub_self]
  rfl
theorem zfree {A : Nat → Prop} {ws : va_W} {H0 H : Heap} {locs : List Loc} (hD : va_D A ws) (hS : va_S A H0 H locs) (hA : ∀ q, H0.size ≤ q → A q) : ∀ q, va_A ws H.size q → A q := by
  intro q h
  rcases h with ⟨k, e, h⟩ | h
  · exact hD.2 k _ h
  · exact hA q (Nat.le_trans hS.1 h)
def zCN (p : Program) (s : State) (m : MethodId) (args : Array Value) (meth : Method) (c : Code) (g : zG) (A : Nat → Prop) (cc : ByteArray) (own : String) : Prop :=
  p.tables.exec = Jvm.exec ∧ c.code = cc ∧ c.maxLocals = 1 ∧ s.vm.findClass own = some m.cls ∧ (∀ w ∈ zGW, w.before args s = true) ∧ zKN g s ∧ meth.locks = false ∧ meth.name = "<init>" ∧ zFT g A s s.heap ∧ ∀ q, s.heap.size ≤ q → A q
abbrev zRn (f lo mc ms : Nat) : Room := { frames := f, cells := mc, slots := ms, locals := lo }
def zNN (p : Program) (l : Launch) (e : Env) (R : Room) (s : State) (m : MethodId) (args : Array Value) (below : List Frame) (meth : Method) (c : Code) (Q : State → Prop) (g : zG) (A : Nat → Prop) (ws0 : va_W) (h0 ci : Nat) (kc ks pc : Nat) (st : List Value) (fs : List Value) (Y : va_W) : Prop :=
  ∀ (H : Heap) (locs : List Loc) (ls : Array Slot), va_P g.1 vwCl (zWs ws0 h0 ci fs Y) H → va_D A (zWs ws0 h0 ci fs Y) → va_S A s.heap H locs → lv_has ls 1 [(0, .ref h0)] → W p l e R s m args below meth c H locs kc ks Q (F0 m pc ls st)
section ZN
variable {p : Program} {l : Launch} {e : Env} {R : Room} {s : State} {m : MethodId} {args : Array Value} {below : List Frame} {meth : Method} {c : Code} {Q : State → Prop} {g : zG} {A : Nat → Prop} {ws0 : va_W} {h0 ci kc ks pc : Nat} {st fs : List Value} {Y : va_W} {cc : ByteArray} {own : String}
theorem zn_aload (C : zCN p s m args meth c g A cc own) (hdg : decode cc pc = .ok (.aload_n 0, 1)) (k : zNN p l e R s m args below meth c Q g A ws0 h0 ci kc ks (pc + 1) (.ref h0 :: st) fs Y) : zNN p l e R s m args below meth c Q g A ws0 h0 ci kc ks pc st fs Y :=
  fun H locs ls hP hD hS hl => lv_aload_n C.1 C.2.1 hdg rfl (lv_at hl 0 rfl) (k H locs ls hP hD hS hl)
theorem zn_iconst (C : zCN p s m args meth c g A cc own) {n : Int} (v : Int32) (hdg : decode cc pc = .ok (.iconst n, 1)) (hv : Int32.ofInt n = v) (k : zNN p l e R s m args below meth c Q g A ws0 h0 ci kc ks (pc + 1) (.int v :: st) fs Y) : zNN p l e R s m args below meth c Q g A ws0 h0 ci kc ks pc st fs Y :=
  fun H locs ls hP hD hS hl => lv_iconst C.1 C.2.1 hdg hv (k H locs ls hP hD hS hl)
theorem zn_bipush (C : zCN p s m args meth c g A cc own) {n : Int} (v : Int32) (hdg : decode cc pc = .ok (.bipush n, 2)) (hv : (Int8.ofInt n).toInt32 = v) (k : zNN p l e R s m args below meth c Q g A ws0 h0 ci kc ks (pc + 2) (.int v :: st) fs Y) : zNN p l e R s m args below meth c Q g A ws0 h0 ci kc ks pc st fs Y :=
  fun H locs ls hP hD hS hl => lv_bipush C.1 C.2.1 hdg hv (k H locs ls hP hD hS hl)
theorem zn_sipush (C : zCN p s m args meth c g A cc own) {n : Int} (v : Int32) (hdg : decode cc pc = .ok (.sipush n, 3)) (hv : (Int16.ofInt n).toInt32 = v) (k : zNN p l e R s m args below meth c Q g A ws0 h0 ci kc ks (pc + 3) (.int v :: st) fs Y) : zNN p l e R s m args below meth c Q g A ws0 h0 ci kc ks pc st fs Y :=
  fun H locs ls hP hD hS hl => lv_sipush C.1 C.2.1 hdg hv (k H locs ls hP hD hS hl)
theorem zn_dup (C : zCN p s m args meth c g A cc own) {a : Nat} (hdg : decode cc pc = .ok (.dup, 1)) (k : zNN p l e R s m args below meth c Q g A ws0 h0 ci kc ks (pc + 1) (.ref a :: .ref a :: st) fs Y) : zNN p l e R s m args below meth c Q g A ws0 h0 ci kc ks pc (.ref a :: st) fs Y :=
  fun H locs ls hP hD hS hl => lv_dup C.1 C.2.1 hdg rfl (k H locs ls hP hD hS hl)
theorem zn_obj (C : zCN p s m args meth c g A cc own) {idx : Nat} {a : Nat} (h1 : Cond.methodLink own idx objectInit ∈ zGW) (h2 : Cond.instanceMethod objectInit ∈ zGW) (h3 : Cond.code objectInit ⟨#[0xb1]⟩ 1 none ∈ zGW) (hdg : decode cc pc = .ok (.invokespecial idx, 3)) (hF : 1 ≤ R.frames) (hL : (st.map fun v => v.category).sum + 12 ≤ R.locals) (k : zNN p l e R s m args below meth c Q g A ws0 h0 ci kc ks (pc + 3) st fs Y) : zNN p l e R s m args below meth c Q g A ws0 h0 ci kc ks pc (.ref a :: st) fs Y :=
  fun H locs ls hP hD hS hl => W.objInit C.1 C.2.1 C.2.2.2.1 (C.2.2.2.2.1 _ h1) (C.2.2.2.2.1 _ h2) (C.2.2.2.2.1 _ h3) rfl (hl.1.trans C.2.2.1.symm) rfl hdg hF (by show 2 * 0 + _ + 12 ≤ _; omega) (k H locs ls hP hD hS hl)
theorem zn_puti (C : zCN p s m args meth c g A cc own) {index k : Nat} {C0 : String} {T : u_T} {N : Nat} {ty0 : Nat → FieldType} (fs' : List Value) (fw : zFW own index ci k C0 T N) (pw : zPW k T N ty0 .int) {v : Int32} (hl0 : k < fs.length) (hf : fs.set k (.int v) = fs') (hdg : decode cc pc = .ok (.putfield index, 3))
    (kk : zNN p l e R s m args below meth c Q g A ws0 h0 ci kc ks (pc + 3) st fs' Y) : zNN p l e R s m args below meth c Q g A ws0 h0 ci kc ks pc (.int v :: .ref h0 :: st) fs Y := by
  intro H locs ls hP hD hS hl
  refine va_put (D := g.1) C.1 C.2.1 C.2.2.2.2.1 fw.2.2.1 ty0 pw.1 pw.2.1 C.2.2.2.1 C.2.2.2.2.2.1.1 hP hD hS ws0.length zWs_at fw.1 k fw.2.1 (C.2.2.2.2.1 _ fw.2.2.2) (fun _ h => h) pw.2.2.1 pw.2.2.2 rfl rfl hl0 hdg (fun H1 locs1 hP1 hD1 hS1 => ?_)
  rw [hf, zWs_set] at hP1 hD1
  exact kk H1 locs1 ls hP1 hD1 hS1 hl
theorem zn_putF (C : zCN p s m args meth c g A cc own) {index k : Nat} {C0 : String} {T : u_T} {N : Nat} {ty0 : Nat → FieldType} (fs' : List Value) (fw : zFW own index ci k C0 T N) (hty : ∀ k, k < N → parseFieldDescriptor (T k).2.2.1 = some (ty0 k)) (hnm : ∀ a, a < N → ∀ b, b < N → a ≠ b → (T a).2.1 ≠ (T b).2.1) (hfin : (T k).2.2.2 = true) (hdecl : (T k).1 = own) {ty : FieldType} (hd : parseFieldDescriptor (T k).2.2.1 = some ty) {a : Nat} (hn : narrow ty (.ref a) = .ref a) (hfit : fits ty (.ref a) = true) (hl0 : k < fs.length) (hf : fs.set k (.ref a) = fs') (hdg : decode cc pc = .ok (.putfield index, 3))
    (kk : zNN p l e R s m args below meth c Q g A ws0 h0 ci kc ks (pc + 3) st fs' Y) : zNN p l e R s m args below meth c Q g A ws0 h0 ci kc ks pc (.ref a :: .ref h0 :: st) fs Y := by
  intro H locs ls hP hD hS hl
  refine va_putF (D := g.1) C.1 C.2.1 C.2.2.2.2.1 fw.2.2.1 ty0 hty hnm C.2.2.2.1 C.2.2.2.2.2.1.1 hP hD hS ws0.length zWs_at fw.1 k fw.2.1 (C.2.2.2.2.1 _ fw.2.2.2) (fun _ h => h) hfin C.2.2.2.2.2.2.2.1 hdecl hd hn hfit hl0 hdg (fun H1 locs1 hP1 hD1 hS1 => ?_)
  rw [hf, zWs_set] at hP1 hD1
  exact kk H1 locs1 ls hP1 hD1 hS1 hl
theorem zn_newI (C : zCN p s m args meth c g A cc own) {n : Int32} {N : Nat} (hw : Cond.arrayClass .int ∈ zGW) (hn : ¬ n < 0) (hN : n.toNatClampNeg = N) (hb : N * 4 ≤ 536870912) (hc : kc + 1 ≤ R.cells) (hs : ks + N ≤ R.slots) (hdg : decode cc pc = .ok (.newarray .int, 2))
    (kk : ∀ q : Nat, zNN p l e R s m args below meth c Q g A ws0 h0 ci (kc + 1) (ks + N) (pc + 2) (.ref q :: st) fs (Y ++ [(q, .inl (g.2.2.1, N, .inl (fun _ => 0)))])) : zNN p l e R s m args below meth c Q g A ws0 h0 ci kc ks pc (.int n :: st) fs Y := by
  intro H locs ls hP hD hS hl
  refine va_newa (D := g.1) (atype := .int) (ty := .int) (a0 := (N, .inl (fun _ => 0))) C.1 C.2.1 (C.2.2.2.2.1 _ hw) rfl C.2.2.2.2.2.1.1 hP hD hS C.2.2.2.2.2.2.2.2.2 (fun _ => rfl) hn hN hb hc hs hdg (fun q cA H1 hK1 hP1 hD1 hS1 => ?_)
  have e1 := va_nm_int (hK1.2 3 (cA, .int) rfl).2
  have e2 := va_nm_int (C.2.2.2.2.2.1.1.2 0 (g.2.2.1, .int) rfl).2
  cases Option.some.inj (e1.symm.trans e2)
  rw [← zWs_app] at hP1 hD1
  exact kk q H1 locs ls hP1 hD1 hS1 hl
theorem zn_newL (C : zCN p s m args meth c g A cc own) {n : Int32} {N : Nat} (hw : Cond.arrayClass .long ∈ zGW) (hn : ¬ n < 0) (hN : n.toNatClampNeg = N) (hb : N * 8 ≤ 536870912) (hc : kc + 1 ≤ R.cells) (hs : ks + N ≤ R.slots) (hdg : decode cc pc = .ok (.newarray .long, 2))
    (kk : ∀ q : Nat, zNN p l e R s m args below meth c Q g A ws0 h0 ci (kc + 1) (ks + N) (pc + 2) (.ref q :: st) fs (Y ++ [(q, .inl (g.2.2.2.1, N, .inr (.inl (fun _ => 0))))])) : zNN p l e R s m args below meth c Q g A ws0 h0 ci kc ks pc (.int n :: st) fs Y := by
  intro H locs ls hP hD hS hl
  refine va_newa (D := g.1) (atype := .long) (ty := .long) (a0 := (N, .inr (.inl (fun _ => 0)))) C.1 C.2.1 (C.2.2.2.2.1 _ hw) rfl C.2.2.2.2.2.1.1 hP hD hS C.2.2.2.2.2.2.2.2.2 (fun _ => rfl) hn hN hb hc hs hdg (fun q cA H1 hK1 hP1 hD1 hS1 => ?_)
  have e1 := va_nm_long (hK1.2 3 (cA, .long) rfl).2
  have e2 := va_nm_long (C.2.2.2.2.2.1.1.2 1 (g.2.2.2.1, .long) rfl).2
  cases Option.some.inj (e1.symm.trans e2)
  rw [← zWs_app] at hP1 hD1
  exact kk q H1 locs ls hP1 hD1 hS1 hl
theorem zn_newZ (C : zCN p s m args meth c g A cc own) {n : Int32} {N : Nat} (hw : Cond.arrayClass .boolean ∈ zGW) (hn : ¬ n < 0) (hN : n.toNatClampNeg = N) (hb : N * 1 ≤ 536870912) (hc : kc + 1 ≤ R.cells) (hs : ks + N ≤ R.slots) (hdg : decode cc pc = .ok (.newarray .boolean, 2))
    (kk : ∀ q : Nat, zNN p l e R s m args below meth c Q g A ws0 h0 ci (kc + 1) (ks + N) (pc + 2) (.ref q :: st) fs (Y ++ [(q, .inl (g.2.2.2.2, N, .inl (fun _ => 0)))])) : zNN p l e R s m args below meth c Q g A ws0 h0 ci kc ks pc (.int n :: st) fs Y := by
  intro H locs ls hP hD hS hl
  refine va_newa (D := g.1) (atype := .boolean) (ty := .boolean) (a0 := (N, .inl (fun _ => 0))) C.1 C.2.1 (C.2.2.2.2.1 _ hw) rfl C.2.2.2.2.2.1.1 hP hD hS C.2.2.2.2.2.2.2.2.2 (fun _ => rfl) hn hN hb hc hs hdg (fun q cA H1 hK1 hP1 hD1 hS1 => ?_)
  have e1 := va_nm_boolean (hK1.2 3 (cA, .boolean) rfl).2
  have e2 := va_nm_boolean (C.2.2.2.2.2.1.1.2 2 (g.2.2.2.2, .boolean) rfl).2
  cases Option.some.inj (e1.symm.trans e2)
  rw [← zWs_app] at hP1 hD1
  exact kk q H1 locs ls hP1 hD1 hS1 hl
theorem zn_new (C : zCN p s m args meth c g A cc own) {index cj : Nat} {C0 : String} {T : u_T} {N : Nat} {ty0 : Nat → FieldType} (fs0 : List Value) (hcl : vwCl[cj]? = some (C0, T, N)) (hin : ∀ w ∈ u_ws C0 T N, w ∈ zGW) (hty : ∀ k, k < N → parseFieldDescriptor (T k).2.2.1 = some (ty0 k)) (h1 : Cond.classLink own index C0 ∈ zGW) (h2 : Cond.instantiable C0 N ∈ zGW) (h3 : Cond.initialized C0 ∈ zGW) (hfs : ∀ j, j < N → defaultValue (ty0 j) = vp_V fs0 j) (hc : kc + 1 ≤ R.cells) (hs : ks + N ≤ R.slots) (hdg : decode cc pc = .ok (.new index, 3))
    (kk : ∀ q : Nat, zNN p l e R s m args below meth c Q g A ws0 h0 ci (kc + 1) (ks + N) (pc + 3) (.ref q :: st) fs (Y ++ [(q, .inr (cj, fs0))])) : zNN p l e R s m args below meth c Q g A ws0 h0 ci kc ks pc st fs Y := by
  intro H locs ls hP hD hS hl
  refine va_new (D := g.1) (ci := cj) (fs := fs0) C.1 C.2.1 C.2.2.2.2.1 hin ty0 hty C.2.2.2.1 (C.2.2.2.2.1 _ h1) (C.2.2.2.2.1 _ h2) (C.2.2.2.2.1 _ h3) C.2.2.2.2.2.1.1 hP hD hS C.2.2.2.2.2.2.2.2.2 hcl hfs hc hs hdg (fun q H1 hP1 hD1 hS1 => ?_)
  rw [← zWs_app] at hP1 hD1
  exact kk q H1 locs ls hP1 hD1 hS1 hl
def zFc (g : zG) (A : Nat → Prop) (s : State) (t : Nat) : Prop := ∃ cell : Cell, s.heap[t]? = some cell ∧ cell.cls = g.2.2.1 ∧ cell.vm ≠ .unknown ∧ (∀ k, cell.vm ≠ .statics k) ∧ cell.slots = (arrV g.2.2.1 8 (fun j => .int (zT0 j))).slots ∧ ¬ A t
theorem zn_gets (C : zCN p s m args meth c g A cc "StraitFleet$Sea") (hdg : decode cc pc = .ok (.getstatic 28, 3))
    (kk : ∀ t : Nat, zFc g A s t → zNN p l e R s m args below meth c Q g A ws0 h0 ci kc ks (pc + 3) (.ref t :: st) fs Y) : zNN p l e R s m args below meth c Q g A ws0 h0 ci kc ks pc st fs Y := by
  intro H locs ls hP hD hS hl
  obtain ⟨t, cell, h1, h2, h3, h4, h5, h6, h7⟩ := C.2.2.2.2.2.2.2.2.1
  exact va_getsN C.1 C.2.1 h1 hS C.2.2.2.1 (va_Nw.use (w := zNF) rfl C.2.2.2.2.2.1.2.2.1) (fun _ h => h) hdg (kk t ⟨cell, h2, h3, h4, h5, h6, h7⟩ H locs ls hP hD hS hl)
abbrev zOC : MethodName := ⟨"java/lang/Object", "clone", "()Ljava/lang/Object;"⟩
abbrev zAC : MethodName := ⟨"[I", "clone", "()Ljava/lang/Object;"⟩
theorem zn_clone (C : zCN p s m args meth c g A cc own) {index t : Nat} (hf : zFc g A s t) (h1 : Cond.methodLink own index zAC ∈ zGW) (h2 : Cond.sameMethod "[I" "java/lang/Object" "clone" "()Ljava/lang/Object;" ∈ zGW) (h3 : Cond.native zOC ∈ zGW) (h4 : Cond.instanceMethod zOC ∈ zGW) (h5 : Cond.selects "[I" zAC zOC ∈ zGW) (hF : 1 ≤ R.frames) (hL : (st.map fun v => v.category).sum + 14 ≤ R.locals) (hc : kc + 1 ≤ R.cells) (hs : ks + 8 ≤ R.slots) (hdg : decode cc pc = .ok (.invokevirtual index, 3))
    (kk : ∀ q : Nat, zNN p l e R s m args below meth c Q g A ws0 h0 ci (kc + 1) (ks + 8) (pc + 3) (.ref q :: st) fs (Y ++ [(q, .inl (g.2.2.1, 8, .inl zT0))])) : zNN p l e R s m args below meth c Q g A ws0 h0 ci kc ks pc (.ref t :: st) fs Y := by
  intro H locs ls hP hD hS hl
  obtain ⟨cell, e1, e2, e3, e4, e5, e6⟩ := hf
  have hnm := va_nm_int (C.2.2.2.2.2.1.1.2 0 (g.2.2.1, .int) rfl).2
  have hAr := (C.2.2.2.2.2.1.1.2 0 (g.2.2.1, .int) rfl).1
  have hts := C.2.2.2.2.1
  obtain ⟨c0, t0', f1, f2, f3⟩ := Cond.castable_spec (va_Nw.use (A := args) rfl C.2.2.2.2.2.1.2.2.2)
  cases hnm.symm.trans f1
  intro T hT X
  have hcellT : T.heap[t]? = some cell := by rw [hT, hS.2.1 t (Array.getElem?_eq_some_iff.mp e1).1 e6]; exact e1
  obtain ⟨-, kA, hkA, comp, hkind⟩ := State.isArrayOf_alike X.warmed.alike (hAr 0 (fun _ => .null))
  obtain ⟨-, kS, hkS, compS, hkindS⟩ := hAr 0 (fun _ => .null)
  have hE : ({ cls := cell.cls, slots := cell.slots } : Cell) = vp_cell g.2.2.1 (8, .inl zT0) := by
    rw [e2, e5]
    rfl
  have hsz : cell.slots.size = 8 := by rw [e5]; exact arrV_size _ _ _
  obtain ⟨vm', X', stp⟩ := X.cloneArray C.1 C.2.2.2.1 (hts _ h1) (hts _ h2) (hts _ h3) (hts _ h4) (hts _ h5) (a := t) (cell := cell) hcellT e4 e3 (by rw [e2]; exact hnm) f2 (by rw [e2]; exact f3)
    (fun i v hv => by
      rw [e2]
      have hk' : T.vm.classes[g.2.2.1]? = some kA := hkA
      rw [e5] at hv
      have hi : i < 8 := by
        have := (Array.getElem?_eq_some_iff.mp hv).1
        rwa [arrV_size] at this
      rw [arrV_read _ _ hi] at hv
      cases Option.some.inj hv
      simp [State.fitsSlot, State.slotType?, hk', hkind]
      rfl)
    (g := F0 m pc ls (.ref t :: st)) rfl (by rw [C.2.2.1]; exact hl.1) rfl (by rw [C.2.1]; exact hdg) hF (by show 2 * 0 + _ + 14 ≤ _; omega) hc (by rw [hsz]; exact hs) (hloader := by rw [e2]; exact Vm.clonesLoader_of_array hkS hkindS)
  rw [hE, hsz] at X'
  generalize hH1 : H.push (vp_cell g.2.2.1 (8, .inl zT0)) = H1
  have z1 : H1.size = H.size + 1 := by rw [← hH1, Array.size_push]
  have g1 : H1[H.size]? = some (vp_cell g.2.2.1 (8, .inl zT0)) := by rw [← hH1, Array.getElem?_push_size]
  have o1 : ∀ q : Nat, q < H.size → H1[q]? = H[q]? := fun q hq => by rw [← hH1, Array.getElem?_push, if_neg (Nat.ne_of_lt hq)]
  have hk : ∀ (k : Nat) (y : Nat × va_E), (zWs ws0 h0 ci fs Y)[k]? = some y → H1[y.1]? = H[y.1]? := fun k y hy => o1 y.1 ((hP k y hy).lt)
  have hP1 : va_P g.1 vwCl (zWs ws0 h0 ci fs Y ++ [(H.size, .inl (g.2.2.1, 8, .inl zT0))]) H1 := (hP.kept hk).app (fun k y hy => by
      have hz : k < 1 := (List.getElem?_eq_some_iff.mp hy).1
      rw [show k = 0 by omega] at hy
      cases hy
      exact g1)
  have hD1 := hD.push (e := .inl (g.2.2.1, 8, .inl zT0)) hP rfl (C.2.2.2.2.2.2.2.2.2 _ hS.1)
  rw [← zWs_app] at hP1 hD1
  obtain ⟨t2, b1, b2⟩ := kk H.size H1 locs ls hP1 hD1 ⟨Nat.le_trans hS.1 (by omega), fun y h1 h2 => (o1 y (Nat.lt_of_lt_of_le h1 hS.1)).trans (hS.2.1 y h1 h2), hS.2.2⟩ hl ((T.setVm vm').pushCell (vp_cell g.2.2.1 (8, .inl zT0))) (by rw [← hH1, ← hT]; rfl) X'
  refine ⟨t2, stp t2 ?_, b2⟩
  rw [hE, hT]
  exact b1
theorem zn_cast (C : zCN p s m args meth c g A cc own) {index q : Nat} {x : vp_A} (h1 : Cond.classLink own index "[I" ∈ zGW) (hdg : decode cc pc = .ok (.checkcast index, 3))
    (kk : zNN p l e R s m args below meth c Q g A ws0 h0 ci kc ks (pc + 3) (.ref q :: st) fs (Y ++ [(q, .inl (g.2.2.1, x))])) : zNN p l e R s m args below meth c Q g A ws0 h0 ci kc ks pc (.ref q :: st) fs (Y ++ [(q, .inl (g.2.2.1, x))]) := by
  intro H locs ls hP hD hS hl
  have hP2 := hP
  rw [zWs_app] at hP2
  exact va_castA (D := g.1) C.1 C.2.1 C.2.2.2.1 (C.2.2.2.2.1 _ h1) hP2 (zWs ws0 h0 ci fs Y).length zWs_last (va_nm_int (C.2.2.2.2.2.1.1.2 0 (g.2.2.1, .int) rfl).2) hdg (kk H locs ls hP hD hS hl)
/-- what a call of a nest mate's constructor needs -/
def zNI (own : String) (index : Nat) (y : MethodName) (bytes : ByteArray) : Prop := Cond.code y bytes 1 none ∈ zGW ∧ Cond.methodLinkNest own index y "StraitFleet" ∈ zNW ∧ Cond.instanceMethod y ∈ zGW ∧ Cond.initialized y.cls ∈ zGW ∧ (y.cls ≠ "java/lang/invoke/MethodHandle" ∧ y.cls ≠ "java/lang/invoke/VarHandle" ∧ (parseMethodDescriptor y.desc).map (fun d => d.parameters.length) = some 0) ∧ y.name = "<init>"
abbrev zMn (l : Launch) (g : zG) (y : MethodName) (bytes : ByteArray) (f lo mc ms cj : Nat) (fs0 : List Value) (mk : (Nat → Nat) → va_W) : Prop :=
  ∀ (q : Nat) (wz : va_W) (sz : Nat), Met l y (Cond.code y bytes 1 none :: zGW) (zRn f lo mc ms) (va_Pc [.ref q] (zPn g (wz ++ [(q, .inr (cj, fs0))]) sz)) (va_Qv (fun u : Nat → Nat => u 0 = q) (zBn g (va_A (wz ++ [(q, .inr (cj, fs0))]) sz) wz mk) (va_A (wz ++ [(q, .inr (cj, fs0))]) sz)) mc ms (va_A (wz ++ [(q, .inr (cj, fs0))]) sz)
theorem zn_call (C : zCN p s m args meth c g A cc own) {index f lo mc ms cj q : Nat} {y : MethodName} {bytes : ByteArray} {fs0 : List Value} {mk : (Nat → Nat) → va_W} (vw : zNI own index y bytes) (hM : zMn l g y bytes f lo mc ms cj fs0 mk)
    (hF : f + 1 ≤ R.frames) (hL : 8 + (1 + 11) + lo ≤ R.locals) (hc : kc + mc ≤ R.cells) (hs : ks + ms ≤ R.slots) (hrm : (st.map fun v => v.category).sum ≤ 8) (hdg : decode cc pc = .ok (.invokespecial index, 3))
    (kk : ∀ u : Nat → Nat, u 0 = q → zNN p l e R s m args below meth c Q g A ws0 h0 ci (kc + mc) (ks + ms) (pc + 3) st fs (Y ++ mk u)) : zNN p l e R s m args below meth c Q g A ws0 h0 ci kc ks pc (.ref q :: st) fs (Y ++ [(q, .inr (cj, fs0))]) := by
  intro H locs ls hP hD hS hl
  rw [zWs_app] at hP hD
  have hFc := zfree hD hS C.2.2.2.2.2.2.2.2.2
  refine va_callv (va_runIN (As := []) (rest := st) ⟨C.1, C.2.1, C.2.2.1, C.2.2.2.1, C.2.2.2.2.1⟩ (hM q (zWs ws0 h0 ci fs Y) H.size) ⟨va_cnB 0 C.2.2.2.2.1 (zGW_good vw.1) rfl rfl rfl (C.2.2.2.2.2.1.2.1 _ vw.2.1) (C.2.2.2.2.1 _ vw.2.2.2.1) vw.2.2.2.2.1 ⟨hF, hL⟩, vw.2.2.2.2.2, C.2.2.2.2.1 _ vw.2.2.1⟩ ⟨zPn.blind, fun U hU hW => ⟨rfl, by rw [hU], by rw [hU]; exact hP, zKN.moved hW C.2.2.2.2.2.1, hD.weaken (fun _ _ _ _ => trivial), zFT.to hW.alike C.2.2.2.2.2.2.2.2.1 (fun a h1 h2 => by rw [hU]; exact hS.2.1 a h1 h2) hFc⟩⟩ rfl rfl hl.1 rfl (lv_room hrm) hdg ⟨hc, hs⟩) hS (fun x _ h => hFc x h) hFc (fun u t H1 locs1 ht hvm hw hB hz1 hk1 hS1 => ?_)
  obtain ⟨hP1, hD1⟩ := hB
  rw [ht] at hP1
  have hD2 := hD1.weaken (fun _ _ _ h => hFc _ h)
  rw [← zWs_app] at hP1 hD2
  exact kk u hw H1 locs1 ls hP1 hD2 hS1 hl
end ZN
section ZM
variable {l : Launch} {g : zG} {y : MethodName} {cc : ByteArray} {f lo mc ms ci : Nat} {fs0 : List Value} {mk : (Nat → Nat) → va_W}
theorem zMnOf (hy : plainName y.cls = true) (hni : y.name = "<init>")
    (body : ∀ (h0 : Nat) (ws0 : va_W) (A : Nat → Prop) (p : Program) (e : Env) (s : State) (m : MethodId) (below : List Frame) (meth : Method) (c : Code) (Q : State → Prop), meth.sig.returnType = none → zCN p s m [Value.ref h0].toArray meth c g A cc y.cls →
      (∀ (fs : List Value) (Y : va_W) (pc : Nat) (u : Nat → Nat), u 0 = h0 → (h0, .inr (ci, fs)) :: Y = mk u → decode cc pc = .ok (.return_, 1) → zNN p l e (zRn f lo mc ms) s m [Value.ref h0].toArray below meth c Q g A ws0 h0 ci mc ms pc [] fs Y) → zNN p l e (zRn f lo mc ms) s m [Value.ref h0].toArray below meth c Q g A ws0 h0 ci 0 0 0 [] fs0 []) : zMn l g y cc f lo mc ms ci fs0 mk := by
  intro q wz sz
  refine Met.ofW (cc := cc) (maxL := 1) (ret := none) hy rfl ?_
  intro p e s m args below meth c s₁ B hml hv
  obtain ⟨rfl, hsz, hP, hK, hD, hZ⟩ := hv
  subst hsz
  have hts := atoms_spec (ws := Cond.code y cc 1 none :: zGW) B.pre
  have hown : s.vm.findClass y.cls = some m.cls := findClass_of_methodNamed B.named
  have hin : meth.name = "<init>" := (name_of_methodNamed B.named B.method).1.trans hni
  rw [lg_entry_eq]
  generalize hAe : va_A (wz ++ [(q, .inr (ci, fs0))]) s.heap.size = A at hZ ⊢
  have hA : ∀ x : Nat, s.heap.size ≤ x → A x := fun x h => by rw [← hAe]; exact Or.inr h
  have hD1 : va_D A (zWs wz q ci fs0 []) := by
    rw [← hAe]
    exact hD.self
  refine body q wz A p e s m below meth c _ B.returns ⟨B.exec, B.bytes, hml, hown, fun w hw => hts w (List.mem_cons_of_mem _ hw), hK, B.notSynchronized, hin, hZ, hA⟩ (fun fs Y pc u hu hm hdg => ?_) s.heap [] _ hP hD1 va_S.rf (lv_entry [.ref q] (n := 1) (Nat.le_of_ble_eq_true rfl))
  intro H locs ls hP2 hD2 hS2 hl2
  have hlocks : meth.locks = false := B.notSynchronized
  have e1 : zWs wz q ci fs Y = wz ++ mk u := by rw [← hm]; rfl
  rw [e1] at hP2 hD2
  exact W.vret B.exec B.bytes B.returns (fun t ht hW => ⟨⟨u, rfl, hu, by show va_P _ _ _ t.heap; rw [ht]; exact hP2, hD2⟩, hS2.F ht⟩) hS2.2.2 hdg
end ZM
