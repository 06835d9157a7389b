/-! rows of the heap, calls, ends -/
section ZH
variable {p : Program} {l : Launch} {e : Env} {R : Room} {s : State} {m : MethodId} {args : Array Value} {below : List Frame} {meth : Method} {c : Code} {Q : State → Prop} {g : zG} {n1 n2 nL F Lc : Nat} {cc : ByteArray} {own : String} {pc : Nat} {lv : List (Nat × Value)} {st : List Value} {σ : zST}
/-- what a getfield or putfield needs: the link's word, the field's place -/
def zFW (own : String) (index ci k : Nat) (C : String) (T : u_T) (N : Nat) : Prop := vwCl[ci]? = some (C, T, N) ∧ k < N ∧ (∀ w ∈ u_ws C T N, w ∈ zGW) ∧ Cond.fieldLink own index (T k).1 (T k).2.1 (T k).2.2.1 ∈ zGW
theorem zr_geti (C : zCX p R s m args meth c g n1 n2 cc nL own F Lc) {index ci k : Nat} {C0 : String} {T : u_T} {N a : Nat} {ts : List Nat} (fw : zFW own index ci k C0 T N) (hsh : zT[a]? = some (3, ci, ts)) (hk : ts[k]? = some 0) (hdg : decode cc pc = .ok (.getfield index, 3))
    (kk : zGG p l e R s m args below meth c Q g n1 n2 nL (pc + 3) lv (.int (σ.1 a k) :: st) σ) : zGG p l e R s m args below meth c Q g n1 n2 nL pc lv (.ref (g.2.1 a) :: st) σ := by
  intro H locs ls hP hS hl
  have h1 := zFld_int (ρ := g.2.1) (r := σ.1 a) ts 0 k hk
  rw [Nat.zero_add] at h1
  exact va_get (D := g.1) C.1 C.2.1 C.2.2.2.2.1 fw.2.2.1 C.2.2.2.1 C.2.2.2.2.2.1.1 hP a (zW_at hsh) fw.1 k fw.2.1 (C.2.2.2.2.1 _ fw.2.2.2) (fun _ h => h) h1 hdg (kk H locs ls hP hS hl)
theorem zr_getr (C : zCX p R s m args meth c g n1 n2 cc nL own F Lc) {index ci k : Nat} {C0 : String} {T : u_T} {N a u : Nat} {ts : List Nat} (fw : zFW own index ci k C0 T N) (hsh : zT[a]? = some (3, ci, ts)) (hk : ts[k]? = some (u + 1)) (hdg : decode cc pc = .ok (.getfield index, 3))
    (kk : zGG p l e R s m args below meth c Q g n1 n2 nL (pc + 3) lv (.ref (g.2.1 u) :: st) σ) : zGG p l e R s m args below meth c Q g n1 n2 nL pc lv (.ref (g.2.1 a) :: st) σ := by
  intro H locs ls hP hS hl
  have h1 := zFld_ref (ρ := g.2.1) (r := σ.1 a) ts 0 k hk
  exact va_get (D := g.1) C.1 C.2.1 C.2.2.2.2.1 fw.2.2.1 C.2.2.2.1 C.2.2.2.2.2.1.1 hP a (zW_at hsh) fw.1 k fw.2.1 (C.2.2.2.2.1 _ fw.2.2.2) (fun _ h => h) h1 hdg (kk H locs ls hP hS hl)
/-- what a putfield needs besides -/
def zPW (k : Nat) (T : u_T) (N : Nat) (ty0 : Nat → FieldType) (ty : FieldType) : Prop := (∀ k, k < N → parseFieldDescriptor (T k).2.2.1 = some (ty0 k)) ∧ (∀ a, a < N → ∀ b, b < N → a ≠ b → (T a).2.1 ≠ (T b).2.1) ∧ (T k).2.2.2 = false ∧ parseFieldDescriptor (T k).2.2.1 = some ty
theorem zr_puti (C : zCX p R s m args meth c g n1 n2 cc nL own F Lc) {index ci k : Nat} {C0 : String} {T : u_T} {N a : Nat} {ts : List Nat} {ty0 : Nat → FieldType} {ty : FieldType} (fw : zFW own index ci k C0 T N) (pw : zPW k T N ty0 ty) (hsh : zT[a]? = some (3, ci, ts)) (hk : ts[k]? = some 0) {v : Int32} (hn : narrow ty (.int v) = .int v) (hfit : fits ty (.int v) = true) (hdg : decode cc pc = .ok (.putfield index, 3))
    (kk : zGG p l e R s m args below meth c Q g n1 n2 nL (pc + 3) lv st (wI σ a k v)) : zGG p l e R s m args below meth c Q g n1 n2 nL pc lv (.int v :: .ref (g.2.1 a) :: st) σ := by
  intro H locs ls hP hS hl
  refine va_put (D := g.1) C.1 C.2.1 C.2.2.2.2.1 fw.2.2.1 ty0 pw.1 pw.2.1 C.2.2.2.1 C.2.2.2.2.2.1.1 hP (zW_D C.2.2.2.2.2.1.2.2) hS a (zW_at hsh) fw.1 k fw.2.1 (C.2.2.2.2.1 _ fw.2.2.2) (fun _ h => h) pw.2.2.1 pw.2.2.2 hn hfit (by rw [zFld_len]; exact (List.getElem?_eq_some_iff.mp hk).1) hdg (fun H1 locs1 hP1 hD1 hS1 => ?_)
  refine kk H1 locs1 ls ?_ hS1 hl
  have he := zFld_set (ρ := g.2.1) (r := σ.1 a) (v := v) ts 0 k hk
  rw [Nat.zero_add] at he
  rw [← zW_set (σ := σ) (σ' := wI σ a k v) (e := .inr (ci, (zFld g.2.1 (σ.1 a) 0 ts).set k (.int v))) hsh (by rw [wI_row]; show Sum.inr (ci, zFld _ _ _ _) = _; rw [he]) (fun j hj => wI_ne hj) (fun j hj => rfl)]
  exact hP1
theorem zr_iald (C : zCX p R s m args meth c g n1 n2 cc nL own F Lc) {a n : Nat} {ts : List Nat} (hsh : zT[a]? = some (0, n, ts)) {i : Int32} (hin : vp_in i n) (hdg : decode cc pc = .ok (.iaload, 1))
    (kk : zGG p l e R s m args below meth c Q g n1 n2 nL (pc + 1) lv (.int (σ.1 a i.toNatClampNeg) :: st) σ) : zGG p l e R s m args below meth c Q g n1 n2 nL pc lv (.int i :: .ref (g.2.1 a) :: st) σ :=
  fun H locs ls hP hS hl => va_iald (D := g.1) C.1 C.2.1 C.2.2.2.2.2.1.1 hP a 0 (zW_at hsh) rfl hin hdg (kk H locs ls hP hS hl)
theorem zr_zald (C : zCX p R s m args meth c g n1 n2 cc nL own F Lc) {a n : Nat} {ts : List Nat} (hsh : zT[a]? = some (2, n, ts)) {i : Int32} (hin : vp_in i n) (hdg : decode cc pc = .ok (.baload, 1))
    (kk : zGG p l e R s m args below meth c Q g n1 n2 nL (pc + 1) lv (.int (σ.1 a i.toNatClampNeg) :: st) σ) : zGG p l e R s m args below meth c Q g n1 n2 nL pc lv (.int i :: .ref (g.2.1 a) :: st) σ :=
  fun H locs ls hP hS hl => va_zald (D := g.1) C.1 C.2.1 C.2.2.2.2.2.1.1 hP a 2 (zW_at hsh) rfl hin hdg (kk H locs ls hP hS hl)
theorem zr_lald (C : zCX p R s m args meth c g n1 n2 cc nL own F Lc) {a n : Nat} {ts : List Nat} (hsh : zT[a]? = some (1, n, ts)) {i : Int32} (hin : vp_in i n) (hdg : decode cc pc = .ok (.laload, 1))
    (kk : zGG p l e R s m args below meth c Q g n1 n2 nL (pc + 1) lv (.long (σ.2 a i.toNatClampNeg) :: st) σ) : zGG p l e R s m args below meth c Q g n1 n2 nL pc lv (.int i :: .ref (g.2.1 a) :: st) σ :=
  fun H locs ls hP hS hl => va_lald (D := g.1) C.1 C.2.1 C.2.2.2.2.2.1.1 hP a 1 (zW_at hsh) rfl hin hdg (kk H locs ls hP hS hl)
theorem zr_alen (C : zCX p R s m args meth c g n1 n2 cc nL own F Lc) {a n : Nat} {ts : List Nat} (hsh : zT[a]? = some (0, n, ts)) (hdg : decode cc pc = .ok (.arraylength, 1))
    (kk : zGG p l e R s m args below meth c Q g n1 n2 nL (pc + 1) lv (.int (Int32.ofNat n) :: st) σ) : zGG p l e R s m args below meth c Q g n1 n2 nL pc lv (.ref (g.2.1 a) :: st) σ :=
  fun H locs ls hP hS hl => va_alen (D := g.1) C.1 C.2.1 C.2.2.2.2.2.1.1 hP a 0 (zW_at hsh) (ty := .int) rfl rfl hdg (kk H locs ls hP hS hl)
theorem zr_iast (C : zCX p R s m args meth c g n1 n2 cc nL own F Lc) {a n : Nat} {ts : List Nat} (hsh : zT[a]? = some (0, n, ts)) {i v : Int32} (hin : vp_in i n) (hdg : decode cc pc = .ok (.iastore, 1))
    (kk : zGG p l e R s m args below meth c Q g n1 n2 nL (pc + 1) lv st (wI σ a i.toNatClampNeg v)) : zGG p l e R s m args below meth c Q g n1 n2 nL pc lv (.int v :: .int i :: .ref (g.2.1 a) :: st) σ := by
  intro H locs ls hP hS hl
  refine va_iast (D := g.1) C.1 C.2.1 C.2.2.2.2.2.1.1 hP (zW_D C.2.2.2.2.2.1.2.2) hS a 0 (zW_at hsh) rfl hin hdg (fun H1 locs1 hP1 hD1 hS1 => kk H1 locs1 ls ?_ hS1 hl)
  rw [← zW_set (σ := σ) (σ' := wI σ a i.toNatClampNeg v) (e := .inl (g.2.2.1, n, .inl (upd (σ.1 a) i.toNatClampNeg v))) hsh (by rw [wI_row]; rfl) (fun j hj => wI_ne hj) (fun j hj => rfl)]
  exact hP1
theorem zr_zast (C : zCX p R s m args meth c g n1 n2 cc nL own F Lc) {a n : Nat} {ts : List Nat} (hsh : zT[a]? = some (2, n, ts)) {i v : Int32} (hin : vp_in i n) (hv : vp_nar .boolean v = v) (hdg : decode cc pc = .ok (.bastore, 1))
    (kk : zGG p l e R s m args below meth c Q g n1 n2 nL (pc + 1) lv st (wI σ a i.toNatClampNeg v)) : zGG p l e R s m args below meth c Q g n1 n2 nL pc lv (.int v :: .int i :: .ref (g.2.1 a) :: st) σ := by
  intro H locs ls hP hS hl
  refine va_zast (D := g.1) C.1 C.2.1 C.2.2.2.2.2.1.1 hP (zW_D C.2.2.2.2.2.1.2.2) hS a 2 (zW_at hsh) rfl hin hdg (fun H1 locs1 hP1 hD1 hS1 => kk H1 locs1 ls ?_ hS1 hl)
  rw [hv] at hP1
  rw [← zW_set (σ := σ) (σ' := wI σ a i.toNatClampNeg v) (e := .inl (g.2.2.2.2, n, .inl (upd (σ.1 a) i.toNatClampNeg v))) hsh (by rw [wI_row]; rfl) (fun j hj => wI_ne hj) (fun j hj => rfl)]
  exact hP1
theorem zr_last (C : zCX p R s m args meth c g n1 n2 cc nL own F Lc) {a n : Nat} {ts : List Nat} (hsh : zT[a]? = some (1, n, ts)) {i : Int32} {v : Int64} (hin : vp_in i n) (hdg : decode cc pc = .ok (.lastore, 1))
    (kk : zGG p l e R s m args below meth c Q g n1 n2 nL (pc + 1) lv st (wL σ a i.toNatClampNeg v)) : zGG p l e R s m args below meth c Q g n1 n2 nL pc lv (.long v :: .int i :: .ref (g.2.1 a) :: st) σ := by
  intro H locs ls hP hS hl
  refine va_last (D := g.1) C.1 C.2.1 C.2.2.2.2.2.1.1 hP (zW_D C.2.2.2.2.2.1.2.2) hS a 1 (zW_at hsh) rfl hin hdg (fun H1 locs1 hP1 hD1 hS1 => kk H1 locs1 ls ?_ hS1 hl)
  rw [← zW_set (σ := σ) (σ' := wL σ a i.toNatClampNeg v) (e := .inl (g.2.2.2.1, n, .inr (.inl (vp_updL (σ.2 a) i.toNatClampNeg v)))) hsh (by rw [wL_row]; rfl) (fun j hj => rfl) (fun j hj => wL_ne hj)]
  exact hP1
/-- System.arraycopy over ints, longs -/
def zAW (own : String) (index : Nat) : Prop := Cond.methodLink own index arraycopyName ∈ zGW ∧ Cond.native arraycopyName ∈ zGW ∧ Cond.static arraycopyName ∈ zGW ∧ Cond.initialized "java/lang/System" ∈ zGW
def zCp (n0 n1 : Nat) (sp dp n : Int32) : Prop := ¬ sp < 0 ∧ ¬ dp < 0 ∧ ¬ n < 0 ∧ sp.toNatClampNeg + n.toNatClampNeg ≤ n0 ∧ dp.toNatClampNeg + n.toNatClampNeg ≤ n1
theorem zr_copyi (C : zCX p R s m args meth c g n1 n2 cc nL own F Lc) {index : Nat} (aw : zAW own index) {a b na nb : Nat} {ta tb : List Nat} (ha : zT[a]? = some (0, na, ta)) (hb : zT[b]? = some (0, nb, tb)) {sp dp n : Int32} (hc : zCp na nb sp dp n) (hF : 1 ≤ F) (hL : (st.map fun v => v.category).sum + (nativeFrameWords "java/lang/System" "arraycopy" 5 + 11) ≤ Lc) (hdg : decode cc pc = .ok (.invokestatic index, 3))
    (kk : zGG p l e R s m args below meth c Q g n1 n2 nL (pc + 3) lv st (wRI σ b (va_cpy (σ.1 a) (σ.1 b) sp.toNatClampNeg dp.toNatClampNeg n.toNatClampNeg))) : zGG p l e R s m args below meth c Q g n1 n2 nL pc lv (.int n :: .int dp :: .ref (g.2.1 b) :: .int sp :: .ref (g.2.1 a) :: st) σ := by
  intro H locs ls hP hS hl
  obtain ⟨h1, h2, h3, h4, h5⟩ := hc
  refine va_copyi (D := g.1) C.1 C.2.1 (C.2.2.1.trans hl.1.symm) C.2.2.2.1 (C.2.2.2.2.1 _ aw.1) (C.2.2.2.2.1 _ aw.2.1) (C.2.2.2.2.1 _ aw.2.2.1) (C.2.2.2.2.1 _ aw.2.2.2) C.2.2.2.2.2.1.1 hP (zW_D C.2.2.2.2.2.1.2.2) hS a b 0 0 (ty := .int) (zW_at ha) (zW_at hb) rfl rfl rfl h1 h2 h3 h4 h5 (fun i hi => rfl) (Nat.le_trans hF C.2.2.2.2.2.2.2.1) (Nat.le_trans hL C.2.2.2.2.2.2.2.2.1) hdg (fun H1 locs1 hP1 hD1 hS1 => kk H1 locs1 ls ?_ hS1 hl)
  rw [← zW_set (σ := σ) (σ' := wRI σ b (va_cpy (σ.1 a) (σ.1 b) sp.toNatClampNeg dp.toNatClampNeg n.toNatClampNeg)) (e := .inl (g.2.2.1, nb, .inl (va_cpy (σ.1 a) (σ.1 b) sp.toNatClampNeg dp.toNatClampNeg n.toNatClampNeg))) hb (by rw [wRI_row]; rfl) (fun j hj => wRI_ne hj) (fun j hj => rfl)]
  exact hP1
theorem zr_copyl (C : zCX p R s m args meth c g n1 n2 cc nL own F Lc) {index : Nat} (aw : zAW own index) {a b na nb : Nat} {ta tb : List Nat} (ha : zT[a]? = some (1, na, ta)) (hb : zT[b]? = some (1, nb, tb)) {sp dp n : Int32} (hc : zCp na nb sp dp n) (hF : 1 ≤ F) (hL : (st.map fun v => v.category).sum + (nativeFrameWords "java/lang/System" "arraycopy" 5 + 11) ≤ Lc) (hdg : decode cc pc = .ok (.invokestatic index, 3))
    (kk : zGG p l e R s m args below meth c Q g n1 n2 nL (pc + 3) lv st (wRL σ b (va_cpy (σ.2 a) (σ.2 b) sp.toNatClampNeg dp.toNatClampNeg n.toNatClampNeg))) : zGG p l e R s m args below meth c Q g n1 n2 nL pc lv (.int n :: .int dp :: .ref (g.2.1 b) :: .int sp :: .ref (g.2.1 a) :: st) σ := by
  intro H locs ls hP hS hl
  obtain ⟨h1, h2, h3, h4, h5⟩ := hc
  refine va_copyl (D := g.1) C.1 C.2.1 (C.2.2.1.trans hl.1.symm) C.2.2.2.1 (C.2.2.2.2.1 _ aw.1) (C.2.2.2.2.1 _ aw.2.1) (C.2.2.2.2.1 _ aw.2.2.1) (C.2.2.2.2.1 _ aw.2.2.2) C.2.2.2.2.2.1.1 hP (zW_D C.2.2.2.2.2.1.2.2) hS a b 1 1 (ty := .long) (zW_at ha) (zW_at hb) rfl rfl rfl h1 h2 h3 h4 h5 (fun i hi => rfl) (Nat.le_trans hF C.2.2.2.2.2.2.2.1) (Nat.le_trans hL C.2.2.2.2.2.2.2.2.1) hdg (fun H1 locs1 hP1 hD1 hS1 => kk H1 locs1 ls ?_ hS1 hl)
  rw [← zW_set (σ := σ) (σ' := wRL σ b (va_cpy (σ.2 a) (σ.2 b) sp.toNatClampNeg dp.toNatClampNeg n.toNatClampNeg)) (e := .inl (g.2.2.2.1, nb, .inr (.inl (va_cpy (σ.2 a) (σ.2 b) sp.toNatClampNeg dp.toNatClampNeg n.toNatClampNeg)))) hb (by rw [wRL_row]; rfl) (fun j hj => rfl) (fun j hj => wRL_ne hj)]
  exact hP1
/-! calls -/
def zRun (p : Program) (l : Launch) (e : Env) (R : Room) (s : State) (m : MethodId) (args : Array Value) (below : List Frame) (meth : Method) (c : Code) (g : zG) (n1 n2 nL : Nat) (pc : Nat) (lv : List (Nat × Value)) (st rest : List Value) (σ : zST) (Qa : State → Outcome → State → Prop) : Prop :=
  ∀ (H : Heap) (locs : List Loc) (ls : Array Slot), va_P g.1 vwCl (zW g σ) H → va_S (zA g) s.heap H locs → lv_has ls nL lv → va_Run p l e R s m args below meth c H locs n1 n2 0 0 (F0 m pc ls st) rest Qa (zA g)
/-- the words of a call: virtual, static, of a nest mate's static -/
def zVW (own : String) (index : Nat) (y : MethodName) (bytes : ByteArray) (maxL : Nat) (ret : Option FieldType) (n : Nat) : Prop := Cond.code y bytes maxL ret ∈ zGW ∧ Cond.methodLink own index y ∈ zGW ∧ Cond.instanceMethod y ∈ zGW ∧ Cond.selects y.cls y y ∈ zGW ∧ Cond.initialized y.cls ∈ zGW ∧ (y.cls ≠ "java/lang/invoke/MethodHandle" ∧ y.cls ≠ "java/lang/invoke/VarHandle" ∧ (parseMethodDescriptor y.desc).map (fun d => d.parameters.length) = some n)
def zSW (own : String) (index : Nat) (y : MethodName) (bytes : ByteArray) (maxL : Nat) (ret : Option FieldType) (n : Nat) : Prop := Cond.code y bytes maxL ret ∈ zGW ∧ Cond.methodLink own index y ∈ zGW ∧ Cond.static y ∈ zGW ∧ Cond.initialized y.cls ∈ zGW ∧ (y.cls ≠ "java/lang/invoke/MethodHandle" ∧ y.cls ≠ "java/lang/invoke/VarHandle" ∧ (parseMethodDescriptor y.desc).map (fun d => d.parameters.length) = some n)
def zNWd (own : String) (index : Nat) (y : MethodName) (host : String) (bytes : ByteArray) (maxL : Nat) (ret : Option FieldType) (n : Nat) : Prop := Cond.code y bytes maxL ret ∈ zGW ∧ Cond.methodLinkNest own index y host ∈ zNW ∧ Cond.static y ∈ zGW ∧ Cond.initialized y.cls ∈ zGW ∧ (y.cls ≠ "java/lang/invoke/MethodHandle" ∧ y.cls ≠ "java/lang/invoke/VarHandle" ∧ (parseMethodDescriptor y.desc).map (fun d => d.parameters.length) = some n)
abbrev zRm (f lo : Nat) : Room := { frames := f, cells := 0, slots := 0, locals := lo }
theorem zr_runV (C : zCX p R s m args meth c g n1 n2 cc nL own F Lc) {index maxL n f lo a ci : Nat} {y : MethodName} {bytes : ByteArray} {ret : Option FieldType} {As rest : List Value} {ts : List Nat} {T : u_T} {N : Nat} {Qc : Array Value → State → Outcome → State → Prop}
    (vw : zVW own index y bytes maxL ret n) (hM : Met l y (Cond.code y bytes maxL ret :: zGW) (zRm f lo) (va_Pc (.ref (g.2.1 a) :: As) (zPP g σ)) Qc 0 0 (zA g)) (hsh : zT[a]? = some (3, ci, ts)) (hcl : vwCl[ci]? = some (y.cls, T, N)) (hF : f + 1 ≤ F) (hL : 8 + (maxL + 11) + lo ≤ Lc) (hn : As.length = n) (hst : st = As.reverse ++ .ref (g.2.1 a) :: rest) (hrm : (rest.map fun v => v.category).sum ≤ 8) (hdg : decode cc pc = .ok (.invokevirtual index, 3)) :
    zRun p l e R s m args below meth c g n1 n2 nL pc lv st rest σ (Qc (Value.ref (g.2.1 a) :: As).toArray) := by
  intro H locs ls hP hS hl
  subst hst
  obtain ⟨hx, hb, hml, hown, hts, hK, hlo, hF1, hL1, hc1, hc2, hZ⟩ := C
  have cw : CallW R s args own y.cls index y bytes maxL ret (Cond.code y bytes maxL ret :: zGW) (zRm f lo) 0 0 n :=
    ⟨callB_of n hts (zGW_good vw.1) rfl rfl rfl (hts _ vw.2.2.2.2.1) (hts _ vw.2.1) vw.2.2.2.2.2 ⟨Nat.le_trans hF hF1, Nat.le_trans hL hL1⟩, hts _ vw.2.2.1, hts _ vw.2.2.2.1⟩
  exact va_runV ⟨hx, hb, hml, hown, hts⟩ hM cw ⟨zPP.blind, va_recv hK.1 hP hcl (zW_at hsh), fun U hU hW => ⟨rfl, by rw [hU]; exact hP, hK.moved hW, hZ.moved hW.alike (fun a h1 h2 => by rw [hU]; exact hS.2.1 a h1 h2)⟩⟩ rfl hn hl.1 rfl (lv_room hrm) hdg ⟨hc1, hc2⟩
theorem zr_runS (C : zCX p R s m args meth c g n1 n2 cc nL own F Lc) {index maxL n f lo : Nat} {y : MethodName} {bytes : ByteArray} {ret : Option FieldType} {As rest : List Value} {Qc : Array Value → State → Outcome → State → Prop}
    (vw : zSW own index y bytes maxL ret n) (hM : Met l y (Cond.code y bytes maxL ret :: zGW) (zRm f lo) (va_Pc As (zPP g σ)) Qc 0 0 (zA g)) (hF : f + 1 ≤ F) (hL : 8 + (maxL + 11) + lo ≤ Lc) (hn : As.length = n) (hst : st = As.reverse ++ rest) (hrm : (rest.map fun v => v.category).sum ≤ 8) (hdg : decode cc pc = .ok (.invokestatic index, 3)) :
    zRun p l e R s m args below meth c g n1 n2 nL pc lv st rest σ (Qc As.toArray) := by
  intro H locs ls hP hS hl
  subst hst
  obtain ⟨hx, hb, hml, hown, hts, hK, hlo, hF1, hL1, hc1, hc2, hZ⟩ := C
  have cw : CallB R s args own index y bytes maxL ret (Cond.code y bytes maxL ret :: zGW) (zRm f lo) 0 0 n ∧ (Cond.static y).before args s = true :=
    ⟨callB_of n hts (zGW_good vw.1) rfl rfl rfl (hts _ vw.2.2.2.1) (hts _ vw.2.1) vw.2.2.2.2 ⟨Nat.le_trans hF hF1, Nat.le_trans hL hL1⟩, hts _ vw.2.2.1⟩
  exact va_runS ⟨hx, hb, hml, hown, hts⟩ hM cw ⟨zPP.blind, fun U hU hW => ⟨rfl, by rw [hU]; exact hP, hK.moved hW, hZ.moved hW.alike (fun a h1 h2 => by rw [hU]; exact hS.2.1 a h1 h2)⟩⟩ rfl hn hl.1 rfl (lv_room hrm) hdg ⟨hc1, hc2⟩
theorem zr_runN (C : zCX p R s m args meth c g n1 n2 cc nL own F Lc) {index maxL n f lo : Nat} {host : String} {y : MethodName} {bytes : ByteArray} {ret : Option FieldType} {As rest : List Value} {Qc : Array Value → State → Outcome → State → Prop}
    (vw : zNWd own index y host bytes maxL ret n) (hM : Met l y (Cond.code y bytes maxL ret :: zGW) (zRm f lo) (va_Pc As (zPP g σ)) Qc 0 0 (zA g)) (hF : f + 1 ≤ F) (hL : 8 + (maxL + 11) + lo ≤ Lc) (hn : As.length = n) (hst : st = As.reverse ++ rest) (hrm : (rest.map fun v => v.category).sum ≤ 8) (hdg : decode cc pc = .ok (.invokestatic index, 3)) :
    zRun p l e R s m args below meth c g n1 n2 nL pc lv st rest σ (Qc As.toArray) := by
  intro H locs ls hP hS hl
  subst hst
  obtain ⟨hx, hb, hml, hown, hts, hK, hlo, hF1, hL1, hc1, hc2, hZ⟩ := C
  exact va_runSN ⟨hx, hb, hml, hown, hts⟩ hM ⟨va_cnB n hts (zGW_good vw.1) rfl rfl rfl (hK.2.1 _ vw.2.1) (hts _ vw.2.2.2.1) vw.2.2.2.2 ⟨Nat.le_trans hF hF1, Nat.le_trans hL hL1⟩, hts _ vw.2.2.1, trivial⟩ ⟨zPP.blind, fun U hU hW => ⟨rfl, by rw [hU]; exact hP, hK.moved hW, hZ.moved hW.alike (fun a h1 h2 => by rw [hU]; exact hS.2.1 a h1 h2)⟩⟩ rfl hn hl.1 rfl (lv_room hrm) hdg ⟨hc1, hc2⟩
theorem zr_ci {rest : List Value} {Post : Int32 → zST → Prop} {a : Array Value} (hr : zRun p l e R s m args below meth c g n1 n2 nL pc lv st rest σ (va_Qi Post (zBB g) (zA g) a)) (kk : ∀ (r : Int32) (σ' : zST), Post r σ' → zGG p l e R s m args below meth c Q g n1 n2 nL (pc + 3) lv (.int r :: rest) σ') : zGG p l e R s m args below meth c Q g n1 n2 nL pc lv st σ := by
  intro H locs ls hP hS hl
  refine va_calli (hr H locs ls hP hS hl) hS (fun q _ h => h) (fun q h => h) (fun r u t H1 locs1 ht hvm hw hB hz1 hk1 hS1 => ?_)
  refine kk r u hw H1 locs1 ls ?_ hS1 hl
  rw [← ht]
  exact hB
theorem zr_cl {rest : List Value} {Post : Int64 → zST → Prop} {a : Array Value} (hr : zRun p l e R s m args below meth c g n1 n2 nL pc lv st rest σ (va_Ql Post (zBB g) (zA g) a)) (kk : ∀ (r : Int64) (σ' : zST), Post r σ' → zGG p l e R s m args below meth c Q g n1 n2 nL (pc + 3) lv (.long r :: rest) σ') : zGG p l e R s m args below meth c Q g n1 n2 nL pc lv st σ := by
  intro H locs ls hP hS hl
  refine va_calll (hr H locs ls hP hS hl) hS (fun q _ h => h) (fun q h => h) (fun r u t H1 locs1 ht hvm hw hB hz1 hk1 hS1 => ?_)
  refine kk r u hw H1 locs1 ls ?_ hS1 hl
  rw [← ht]
  exact hB
theorem zr_cv {rest : List Value} {Post : zST → Prop} {a : Array Value} (hr : zRun p l e R s m args below meth c g n1 n2 nL pc lv st rest σ (va_Qv Post (zBB g) (zA g) a)) (kk : ∀ (σ' : zST), Post σ' → zGG p l e R s m args below meth c Q g n1 n2 nL (pc + 3) lv rest σ') : zGG p l e R s m args below meth c Q g n1 n2 nL pc lv st σ := by
  intro H locs ls hP hS hl
  refine va_callv (hr H locs ls hP hS hl) hS (fun q _ h => h) (fun q h => h) (fun u t H1 locs1 ht hvm hw hB hz1 hk1 hS1 => ?_)
  refine kk u hw H1 locs1 ls ?_ hS1 hl
  rw [← ht]
  exact hB
def zPr (g : zG) (Post : Nat → zST → Prop) (u : Nat × zST) : Prop := Post u.1 u.2
def zBr (g : zG) (u : Nat × zST) (ra : Nat) (t : State) : Prop := ra = g.2.1 u.1 ∧ zBB g u.2 t
theorem zr_cr {rest : List Value} {Post : Nat → zST → Prop} {a : Array Value} (hr : zRun p l e R s m args below meth c g n1 n2 nL pc lv st rest σ (va_Qr (zPr g Post) (zBr g) (zA g) a)) (kk : ∀ (r : Nat) (σ' : zST), Post r σ' → zGG p l e R s m args below meth c Q g n1 n2 nL (pc + 3) lv (.ref (g.2.1 r) :: rest) σ') : zGG p l e R s m args below meth c Q g n1 n2 nL pc lv st σ := by
  intro H locs ls hP hS hl
  refine va_callr (hr H locs ls hP hS hl) hS (fun q _ h => h) (fun q h => h) (fun u ra t H1 locs1 ht hvm hw hB hz1 hk1 hS1 => ?_)
  obtain ⟨h1, h2⟩ := hB
  subst h1
  refine kk u.1 u.2 hw H1 locs1 ls ?_ hS1 hl
  rw [← ht]
  exact h2
/-- Math's -/
def zMW (own : String) (index : Nat) (y : MethodName) (bytes : ByteArray) (maxL : Nat) (ret : Option FieldType) : Prop := Cond.methodLink own index y ∈ zGW ∧ Cond.static y ∈ zGW ∧ Cond.initialized "java/lang/Math" ∈ zGW ∧ Cond.code y bytes maxL ret ∈ zGW
theorem zr_mmax (C : zCX p R s m args meth c g n1 n2 cc nL own F Lc) {index : Nat} {x y : Int32} (mw : zMW own index Lib.Math.max.name Lib.Math.max.code 2 (some .int)) (hF : 1 ≤ F) (hL : (st.map fun v => v.category).sum + 13 ≤ Lc) (hdg : decode cc pc = .ok (.invokestatic index, 3)) (k : zGG p l e R s m args below meth c Q g n1 n2 nL (pc + 3) lv (.int (if x < y then y else x) :: st) σ) : zGG p l e R s m args below meth c Q g n1 n2 nL pc lv (.int y :: .int x :: st) σ :=
  fun H locs ls hP hS hl => va_mmax C.1 C.2.1 (C.2.2.1.trans hl.1.symm) C.2.2.2.1 (C.2.2.2.2.1 _ mw.1) (C.2.2.2.2.1 _ mw.2.1) (C.2.2.2.2.1 _ mw.2.2.1) (C.2.2.2.2.1 _ mw.2.2.2) (Nat.le_trans hF C.2.2.2.2.2.2.2.1) (Nat.le_trans hL C.2.2.2.2.2.2.2.2.1) C.2.2.2.2.2.2.2.2.2.1 C.2.2.2.2.2.2.2.2.2.2.1 hdg (k H locs ls hP hS hl)
theorem zr_mmin (C : zCX p R s m args meth c g n1 n2 cc nL own F Lc) {index : Nat} {x y : Int32} (mw : zMW own index Lib.Math.min.name Lib.Math.min.code 2 (some .int)) (hF : 1 ≤ F) (hL : (st.map fun v => v.category).sum + 13 ≤ Lc) (hdg : decode cc pc = .ok (.invokestatic index, 3)) (k : zGG p l e R s m args below meth c Q g n1 n2 nL (pc + 3) lv (.int (if y < x then y else x) :: st) σ) : zGG p l e R s m args below meth c Q g n1 n2 nL pc lv (.int y :: .int x :: st) σ :=
  fun H locs ls hP hS hl => va_mmin C.1 C.2.1 (C.2.2.1.trans hl.1.symm) C.2.2.2.1 (C.2.2.2.2.1 _ mw.1) (C.2.2.2.2.1 _ mw.2.1) (C.2.2.2.2.1 _ mw.2.2.1) (C.2.2.2.2.1 _ mw.2.2.2) (Nat.le_trans hF C.2.2.2.2.2.2.2.1) (Nat.le_trans hL C.2.2.2.2.2.2.2.2.1) C.2.2.2.2.2.2.2.2.2.1 C.2.2.2.2.2.2.2.2.2.2.1 hdg (k H locs ls hP hS hl)
theorem zr_mminl (C : zCX p R s m args meth c g n1 n2 cc nL own F Lc) {index : Nat} {x y : Int64} (mw : zMW own index Lib.MathLoose.min_long.x Lib.MathLoose.min_long.code 4 (some .long)) (hF : 1 ≤ F) (hL : (st.map fun v => v.category).sum + 15 ≤ Lc) (hdg : decode cc pc = .ok (.invokestatic index, 3)) (k : zGG p l e R s m args below meth c Q g n1 n2 nL (pc + 3) lv (.long (if y < x then y else x) :: st) σ) : zGG p l e R s m args below meth c Q g n1 n2 nL pc lv (.long y :: .long x :: st) σ :=
  fun H locs ls hP hS hl => va_mmin_long C.1 C.2.1 (C.2.2.1.trans hl.1.symm) C.2.2.2.1 (C.2.2.2.2.1 _ mw.1) (C.2.2.2.2.1 _ mw.2.1) (C.2.2.2.2.1 _ mw.2.2.1) (C.2.2.2.2.1 _ mw.2.2.2) (Nat.le_trans hF C.2.2.2.2.2.2.2.1) (Nat.le_trans hL C.2.2.2.2.2.2.2.2.1) C.2.2.2.2.2.2.2.2.2.1 C.2.2.2.2.2.2.2.2.2.2.1 hdg (k H locs ls hP hS hl)
/-- the rows of bounds -/
def zGW2 (own : String) (index : Nat) (n : String) : Prop := Cond.fieldLink own index "StraitFleet" n "[I" ∈ zGW
def zTA (g : zG) (s : State) (t : Nat) (f : Nat → Int32) : Prop := va_T .int t 8 (fun j => .int (f j)) (zA g) s s.heap
theorem zr_getsL (C : zCX p R s m args meth c g n1 n2 cc nL own F Lc) {index : Nat} (fw : zGW2 own index "TERM_LEAST") (hdg : decode cc pc = .ok (.getstatic index, 3))
    (kk : ∀ t : Nat, zTA g s t zTL → zGG p l e R s m args below meth c Q g n1 n2 nL (pc + 3) lv (.ref t :: st) σ) : zGG p l e R s m args below meth c Q g n1 n2 nL pc lv st σ := by
  intro H locs ls hP hS hl
  obtain ⟨tl, tm, h1, h2, h3, h4⟩ := C.2.2.2.2.2.2.2.2.2.2.2
  exact va_gets C.1 C.2.1 h1 hS C.2.2.2.1 (C.2.2.2.2.1 _ fw) (fun _ h => h) hdg (kk tl h2 H locs ls hP hS hl)
theorem zr_getsM (C : zCX p R s m args meth c g n1 n2 cc nL own F Lc) {index : Nat} (fw : zGW2 own index "TERM_MOST") (hdg : decode cc pc = .ok (.getstatic index, 3))
    (kk : ∀ t : Nat, zTA g s t zTM → zGG p l e R s m args below meth c Q g n1 n2 nL (pc + 3) lv (.ref t :: st) σ) : zGG p l e R s m args below meth c Q g n1 n2 nL pc lv st σ := by
  intro H locs ls hP hS hl
  obtain ⟨tl, tm, h1, h2, h3, h4⟩ := C.2.2.2.2.2.2.2.2.2.2.2
  exact va_gets C.1 C.2.1 h3 hS C.2.2.2.1 (C.2.2.2.2.1 _ fw) (fun _ h => h) hdg (kk tm h4 H locs ls hP hS hl)
theorem zr_tald (C : zCX p R s m args meth c g n1 n2 cc nL own F Lc) {t : Nat} {f : Nat → Int32} (hT : zTA g s t f) {i : Int32} (hin : vp_in i 8) (hdg : decode cc pc = .ok (.iaload, 1))
    (kk : zGG p l e R s m args below meth c Q g n1 n2 nL (pc + 1) lv (.int (f i.toNatClampNeg) :: st) σ) : zGG p l e R s m args below meth c Q g n1 n2 nL pc lv (.int i :: .ref t :: st) σ :=
  fun H locs ls hP hS hl => va_ti C.1 C.2.1 hT hS hin rfl hdg (kk H locs ls hP hS hl)
end ZH
/-! ends: what a method owes, from a walk of its body -/
section ZE
variable {l : Launch} {g : zG} {y : MethodName} {cc : ByteArray} {maxL f lo : Nat} {As : List Value} {σ : zST}
def zBody (l : Launch) (g : zG) (cc : ByteArray) (maxL f lo : Nat) (own : String) (As : List Value) (σ : zST) (P : (p : Program) → (e : Env) → (R : Room) → (s : State) → (m : MethodId) → (args : Array Value) → (below : List Frame) → (meth : Method) → (c : Code) → (Q : State → Prop) → Prop) : Prop :=
  ∀ p e R s m args below meth c Q, zCX p R s m args meth c g 0 0 cc maxL own f lo → P p e R s m args below meth c Q → zGG p l e R s m args below meth c Q g 0 0 maxL 0 (lv_args 0 As) [] σ
theorem zMet {ret : Option FieldType} {Qc : Array Value → State → Outcome → State → Prop} (hy : plainName y.cls = true) (hls : (lg_sl As).length ≤ maxL)
    (body : ∀ p e s m below meth c, meth.sig.returnType = ret → zCX p (zRm f lo) s m As.toArray meth c g 0 0 cc maxL y.cls f lo → zGG p l e (zRm f lo) s m As.toArray below meth c (MQ below Qc As.toArray s 0 0 (zA g)) g 0 0 maxL 0 (lv_args 0 As) [] σ) :
    Met l y (Cond.code y cc maxL ret :: zGW) (zRm f lo) (va_Pc As (zPP g σ)) Qc 0 0 (zA g) := by
  refine Met.ofW (cc := cc) (maxL := maxL) (ret := ret) hy rfl ?_
  intro p e s m args below meth c s₁ B hml hv
  obtain ⟨rfl, hP, hK, hZ⟩ := hv
  have hts := atoms_spec (ws := Cond.code y cc maxL ret :: zGW) B.pre
  have hown : s.vm.findClass y.cls = some m.cls := findClass_of_methodNamed B.named
  rw [lg_entry_eq]
  exact body p e s m below meth c B.returns ⟨B.exec, B.bytes, hml, hown, fun w hw => hts w (List.mem_cons_of_mem _ hw), hK, B.notSynchronized, Nat.le_refl _, Nat.le_refl _, Nat.le_refl _, Nat.le_refl _, hZ⟩ s.heap [] _ hP va_S.rf (lv_entry As hls)
end ZE
section ZQ
variable {p : Program} {l : Launch} {e : Env} {R : Room} {s : State} {m : MethodId} {args : Array Value} {below : List Frame} {meth : Method} {c : Code} {g : zG} {nL F Lc : Nat} {cc : ByteArray} {own : String} {pc : Nat} {lv : List (Nat × Value)} {σ : zST}
theorem zr_iret (C : zCX p R s m args meth c g 0 0 cc nL own F Lc) {Post : Int32 → zST → Prop} (hr : meth.sig.returnType = some .int) {v : Int32} (hp : Post v σ) (hdg : decode cc pc = .ok (.ireturn, 1)) : zGG p l e R s m args below meth c (MQ below (va_Qi Post (zBB g) (zA g)) args s 0 0 (zA g)) g 0 0 nL pc lv [.int v] σ := by
  intro H locs ls hP hS hl
  have hlocks : meth.locks = false := C.2.2.2.2.2.2.1
  exact W.iret (v := v) C.1 C.2.1 hr (fun t ht hW => ⟨⟨v, σ, rfl, hp, by show va_P _ _ _ t.heap; rw [ht]; exact hP⟩, hS.F ht⟩) hS.2.2 hdg
theorem zr_zret (C : zCX p R s m args meth c g 0 0 cc nL own F Lc) {Post : Int32 → zST → Prop} (hr : meth.sig.returnType = some .boolean) {v : Int32} (hn : narrow .boolean (.int v) = .int v) (hp : Post v σ) (hdg : decode cc pc = .ok (.ireturn, 1)) : zGG p l e R s m args below meth c (MQ below (va_Qi Post (zBB g) (zA g)) args s 0 0 (zA g)) g 0 0 nL pc lv [.int v] σ := by
  intro H locs ls hP hS hl
  have hlocks : meth.locks = false := C.2.2.2.2.2.2.1
  exact W.zret (v := v) C.1 C.2.1 hr hn (fun t ht hW => ⟨⟨v, σ, rfl, hp, by show va_P _ _ _ t.heap; rw [ht]; exact hP⟩, hS.F ht⟩) hS.2.2 hdg
theorem zr_lret (C : zCX p R s m args meth c g 0 0 cc nL own F Lc) {Post : Int64 → zST → Prop} (hr : meth.sig.returnType = some .long) {v : Int64} (hp : Post v σ) (hdg : decode cc pc = .ok (.lreturn, 1)) : zGG p l e R s m args below meth c (MQ below (va_Ql Post (zBB g) (zA g)) args s 0 0 (zA g)) g 0 0 nL pc lv [.long v] σ := by
  intro H locs ls hP hS hl
  have hlocks : meth.locks = false := C.2.2.2.2.2.2.1
  exact W.lret (v := v) C.1 C.2.1 hr (fun t ht hW => ⟨⟨v, σ, rfl, hp, by show va_P _ _ _ t.heap; rw [ht]; exact hP⟩, hS.F ht⟩) hS.2.2 hdg
theorem zr_vret (C : zCX p R s m args meth c g 0 0 cc nL own F Lc) {Post : zST → Prop} (hr : meth.sig.returnType = none) (hp : Post σ) (hdg : decode cc pc = .ok (.return_, 1)) : zGG p l e R s m args below meth c (MQ below (va_Qv Post (zBB g) (zA g)) args s 0 0 (zA g)) g 0 0 nL pc lv [] σ := by
  intro H locs ls hP hS hl
  have hlocks : meth.locks = false := C.2.2.2.2.2.2.1
  exact W.vret C.1 C.2.1 hr (fun t ht hW => ⟨⟨σ, rfl, hp, by show va_P _ _ _ t.heap; rw [ht]; exact hP⟩, hS.F ht⟩) hS.2.2 hdg
theorem zr_aret (C : zCX p R s m args meth c g 0 0 cc nL own F Lc) {Post : Nat → zST → Prop} {cn : String} (hr : meth.sig.returnType = some (.object cn)) {a : Nat} (hp : Post a σ) (hdg : decode cc pc = .ok (.areturn, 1)) : zGG p l e R s m args below meth c (MQ below (va_Qr (zPr g Post) (zBr g) (zA g)) args s 0 0 (zA g)) g 0 0 nL pc lv [.ref (g.2.1 a)] σ := by
  intro H locs ls hP hS hl
  have hlocks : meth.locks = false := C.2.2.2.2.2.2.1
  exact W.aret C.1 C.2.1 hr (Or.inl ⟨cn, rfl⟩) (Or.inr ⟨_, rfl⟩) (fun t ht hW => ⟨⟨(a, σ), g.2.1 a, rfl, hp, rfl, by show va_P _ _ _ t.heap; rw [ht]; exact hP⟩, hS.F ht⟩) hS.2.2 hdg
end ZQ
