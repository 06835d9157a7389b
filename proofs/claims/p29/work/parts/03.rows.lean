/-! the walk's standing: one world, any heap that holds it -/
def zTy (g : zG) : List (ClassId × FieldType) := [(g.2.2.1, .int), (g.2.2.2.1, .long), (g.2.2.2.2, .boolean)]
def zIsN : Cond → Bool
  | .methodLinkNest .. => true
  | _ => false
def zNW : List Cond := lw_tbl.filter zIsN
def zKK (g : zG) (U : State) : Prop := va_K g.1 vwCl (zTy g) U ∧ (∀ w ∈ zNW, va_Nw w U) ∧ zInj g
theorem zNW_in {w : Cond} (i : Nat) (h : lw_tbl[i]? = some w) (hg : zIsN w = true) : w ∈ zNW := List.mem_filter.mpr ⟨List.mem_of_getElem? h, hg⟩
theorem zKK.moved {g : zG} {s U : State} (hW : s.WarmedH U.vm) (h : zKK g s) : zKK g U := by
  refine ⟨va_K.moved hW.alike h.1, fun w hw => ?_, h.2.2⟩
  have h1 := h.2.1 w hw
  have h2 := (List.mem_filter.mp hw).2
  cases w <;> first | (simp [zIsN] at h2; done) | exact va_Nw.warmM hW h1
def zTL (j : Nat) : Int32 := ([1, 0, 0, 0, 0, 0, 0, 0] : List Int32).getD j 0
def zTM (j : Nat) : Int32 := ([9, 99, 20, 60, 99, 99, 99, 9999] : List Int32).getD j 0
/-- the two rows of bounds that the program reads: where, what they hold; nobody writes them -/
def zZ (g : zG) (U : State) (H : Heap) : Prop := ∃ tl tm : Nat, va_Z "StraitFleet" "TERM_LEAST" "[I" (.ref tl) (zA g) U H ∧ va_T .int tl 8 (fun j => .int (zTL j)) (zA g) U H ∧ va_Z "StraitFleet" "TERM_MOST" "[I" (.ref tm) (zA g) U H ∧ va_T .int tm 8 (fun j => .int (zTM j)) (zA g) U H
theorem zZ.moved {g : zG} {u U : State} {H H1 : Heap} (hvm : u.vm.Alike U.vm) (h : zZ g u H) (hq : ∀ a : Nat, a < H.size → ¬ zA g a → H1[a]? = H[a]?) : zZ g U H1 := by
  obtain ⟨tl, tm, h1, h2, h3, h4⟩ := h
  exact ⟨tl, tm, (h1.kept hq).moved hvm, (h2.kept hq).moved hvm, (h3.kept hq).moved hvm, (h4.kept hq).moved hvm⟩
def zPP (g : zG) (σ : zST) (U : State) : Prop := va_P g.1 vwCl (zW g σ) U.heap ∧ zKK g U ∧ zZ g U U.heap
def zBB (g : zG) (σ : zST) (t : State) : Prop := va_P g.1 vwCl (zW g σ) t.heap
theorem zPP.blind {g : zG} {σ : zST} {As : List Value} : FrameBlind (va_Pc As (zPP g σ)) := by
  intro a U f mk h
  obtain ⟨h1, h2, ⟨h3, h4, h5⟩, h6⟩ := h
  refine ⟨h1, h2, ⟨?_, ?_, h5⟩, zZ.moved (u := U) (U := U.calling f mk a) (Vm.Alike.refl U.vm) h6 (fun _ _ _ => rfl)⟩
  · exact va_K.moved (u := U) (U := U.calling f mk a) (Vm.Alike.refl U.vm) h3
  · intro w hw
    have h2 := (List.mem_filter.mp hw).2
    have h9 := h4 w hw
    cases w <;> first | (simp [zIsN] at h2; done) | exact va_Nw.same (u := U) (U := U.calling f mk a) rfl rfl h9
def zCX (p : Program) (R : Room) (s : State) (m : MethodId) (args : Array Value) (meth : Method) (c : Code) (g : zG) (n1 n2 : Nat) (cc : ByteArray) (nL : Nat) (own : String) (F Lc : Nat) : Prop :=
  p.tables.exec = Jvm.exec ∧ c.code = cc ∧ c.maxLocals = nL ∧ s.vm.findClass own = some m.cls ∧ (∀ w ∈ zGW, w.before args s = true) ∧ zKK g s ∧ meth.locks = false ∧ F ≤ R.frames ∧ Lc ≤ R.locals ∧ n1 ≤ R.cells ∧ n2 ≤ R.slots ∧ zZ g s s.heap
def zGG (p : Program) (l : Launch) (e : Env) (R : Room) (s : State) (m : MethodId) (args : Array Value) (below : List Frame) (meth : Method) (c : Code) (Q : State → Prop) (g : zG) (n1 n2 nL : Nat) (pc : Nat) (lv : List (Nat × Value)) (st : List Value) (σ : zST) : Prop :=
  ∀ (H : Heap) (locs : List Loc) (ls : Array Slot), va_P g.1 vwCl (zW g σ) H → va_S (zA g) s.heap H locs → lv_has ls nL lv → W p l e R s m args below meth c H locs n1 n2 Q (F0 m pc ls st)
def zLg : List (Nat × Value) → Nat → Option Value
  | [], _ => none
  | (j, v) :: l, i => if j = i then some v else zLg l i
theorem zLg_mem {i : Nat} {v : Value} : ∀ {l : List (Nat × Value)}, zLg l i = some v → (i, v) ∈ l
  | [], h => by simp [zLg] at h
  | (j, w) :: l, h => by
    unfold zLg at h
    by_cases hj : j = i
    · rw [if_pos hj] at h
      subst hj
      rw [Option.some.inj h]
      exact List.mem_cons_self
    · rw [if_neg hj] at h
      exact List.mem_cons_of_mem _ (zLg_mem h)
theorem zLg_at {ls : Array Slot} {nL : Nat} {lv : List (Nat × Value)} {i : Nat} {v : Value} (h : lv_has ls nL lv) (hg : zLg lv i = some v) : ls[i]? = some (.val v) := h.2.2 (i, v) (zLg_mem hg)
section ZR
variable {p : Program} {l : Launch} {e : Env} {R : Room} {s : State} {m : MethodId} {args : Array Value} {below : List Frame} {meth : Method} {c : Code} {Q : State → Prop} {g : zG} {n1 n2 nL F Lc : Nat} {cc : ByteArray} {own : String} {pc : Nat} {lv : List (Nat × Value)} {st : List Value} {σ : zST}
theorem zr_iconst (C : zCX p R s m args meth c g n1 n2 cc nL own F Lc) {n : Int} (v : Int32) (hdg : decode cc pc = .ok (.iconst n, 1)) (hv : Int32.ofInt n = v) (k : zGG p l e R s m args below meth c Q g n1 n2 nL (pc + 1) lv (.int v :: st) σ) : zGG p l e R s m args below meth c Q g n1 n2 nL pc lv st σ :=
  fun H locs ls hP hS hl => lv_iconst C.1 C.2.1 hdg hv (k H locs ls hP hS hl)
theorem zr_bipush (C : zCX p R s m args meth c g n1 n2 cc nL own F Lc) {n : Int} (v : Int32) (hdg : decode cc pc = .ok (.bipush n, 2)) (hv : (Int8.ofInt n).toInt32 = v) (k : zGG p l e R s m args below meth c Q g n1 n2 nL (pc + 2) lv (.int v :: st) σ) : zGG p l e R s m args below meth c Q g n1 n2 nL pc lv st σ :=
  fun H locs ls hP hS hl => lv_bipush C.1 C.2.1 hdg hv (k H locs ls hP hS hl)
theorem zr_sipush (C : zCX p R s m args meth c g n1 n2 cc nL own F Lc) {n : Int} (v : Int32) (hdg : decode cc pc = .ok (.sipush n, 3)) (hv : (Int16.ofInt n).toInt32 = v) (k : zGG p l e R s m args below meth c Q g n1 n2 nL (pc + 3) lv (.int v :: st) σ) : zGG p l e R s m args below meth c Q g n1 n2 nL pc lv st σ :=
  fun H locs ls hP hS hl => lv_sipush C.1 C.2.1 hdg hv (k H locs ls hP hS hl)
theorem zr_lconst (C : zCX p R s m args meth c g n1 n2 cc nL own F Lc) {n : Fin 2} (v : Int64) (hdg : decode cc pc = .ok (.lconst n, 1)) (hv : Int64.ofNat (n : Nat) = v) (k : zGG p l e R s m args below meth c Q g n1 n2 nL (pc + 1) lv (.long v :: st) σ) : zGG p l e R s m args below meth c Q g n1 n2 nL pc lv st σ :=
  fun H locs ls hP hS hl => lv_lconst C.1 C.2.1 hdg hv (k H locs ls hP hS hl)
theorem zr_ldc (C : zCX p R s m args meth c g n1 n2 cc nL own F Lc) {index : Nat} {v : Int32} (hw : Cond.constant own index v ∈ zGW) (hdg : decode cc pc = .ok (.ldc index, 2)) (k : zGG p l e R s m args below meth c Q g n1 n2 nL (pc + 2) lv (.int v :: st) σ) : zGG p l e R s m args below meth c Q g n1 n2 nL pc lv st σ :=
  fun H locs ls hP hS hl => lv_ldc C.1 C.2.1 C.2.2.2.1 (C.2.2.2.2.1 _ hw) hdg (k H locs ls hP hS hl)
theorem zr_ldcw (C : zCX p R s m args meth c g n1 n2 cc nL own F Lc) {index : Nat} {v : Int32} (hw : Cond.constant own index v ∈ zGW) (hdg : decode cc pc = .ok (.ldc_w index, 3)) (k : zGG p l e R s m args below meth c Q g n1 n2 nL (pc + 3) lv (.int v :: st) σ) : zGG p l e R s m args below meth c Q g n1 n2 nL pc lv st σ :=
  fun H locs ls hP hS hl => lv_ldcw C.1 C.2.1 C.2.2.2.1 (C.2.2.2.2.1 _ hw) hdg (k H locs ls hP hS hl)
theorem zr_ldc2 (C : zCX p R s m args meth c g n1 n2 cc nL own F Lc) {index : Nat} {v : Int64} (hw : Cond.constantLong own index v ∈ zGW) (hdg : decode cc pc = .ok (.ldc2_w index, 3)) (k : zGG p l e R s m args below meth c Q g n1 n2 nL (pc + 3) lv (.long v :: st) σ) : zGG p l e R s m args below meth c Q g n1 n2 nL pc lv st σ :=
  fun H locs ls hP hS hl => lv_ldc2 C.1 C.2.1 C.2.2.2.1 (C.2.2.2.2.1 _ hw) hdg (k H locs ls hP hS hl)
theorem zr_iload_n (C : zCX p R s m args meth c g n1 n2 cc nL own F Lc) {k : Fin 4} {x : Int32} (hdg : decode cc pc = .ok (.iload_n k, 1)) (hg : zLg lv (k : Nat) = some (.int x)) (kk : zGG p l e R s m args below meth c Q g n1 n2 nL (pc + 1) lv (.int x :: st) σ) : zGG p l e R s m args below meth c Q g n1 n2 nL pc lv st σ :=
  fun H locs ls hP hS hl => lv_iload_n C.1 C.2.1 hdg rfl (zLg_at hl hg) (kk H locs ls hP hS hl)
theorem zr_iload (C : zCX p R s m args meth c g n1 n2 cc nL own F Lc) {k : Nat} {x : Int32} (hdg : decode cc pc = .ok (.iload k, 2)) (hg : zLg lv k = some (.int x)) (kk : zGG p l e R s m args below meth c Q g n1 n2 nL (pc + 2) lv (.int x :: st) σ) : zGG p l e R s m args below meth c Q g n1 n2 nL pc lv st σ :=
  fun H locs ls hP hS hl => lv_iload C.1 C.2.1 hdg (zLg_at hl hg) (kk H locs ls hP hS hl)
theorem zr_lload_n (C : zCX p R s m args meth c g n1 n2 cc nL own F Lc) {k : Fin 4} {x : Int64} (hdg : decode cc pc = .ok (.lload_n k, 1)) (hg : zLg lv (k : Nat) = some (.long x)) (kk : zGG p l e R s m args below meth c Q g n1 n2 nL (pc + 1) lv (.long x :: st) σ) : zGG p l e R s m args below meth c Q g n1 n2 nL pc lv st σ :=
  fun H locs ls hP hS hl => lv_lload_n C.1 C.2.1 hdg rfl (zLg_at hl hg) (kk H locs ls hP hS hl)
theorem zr_lload (C : zCX p R s m args meth c g n1 n2 cc nL own F Lc) {k : Nat} {x : Int64} (hdg : decode cc pc = .ok (.lload k, 2)) (hg : zLg lv k = some (.long x)) (kk : zGG p l e R s m args below meth c Q g n1 n2 nL (pc + 2) lv (.long x :: st) σ) : zGG p l e R s m args below meth c Q g n1 n2 nL pc lv st σ :=
  fun H locs ls hP hS hl => lv_lload C.1 C.2.1 hdg (zLg_at hl hg) (kk H locs ls hP hS hl)
theorem zr_aload_n (C : zCX p R s m args meth c g n1 n2 cc nL own F Lc) {k : Fin 4} {x : Nat} (hdg : decode cc pc = .ok (.aload_n k, 1)) (hg : zLg lv (k : Nat) = some (.ref x)) (kk : zGG p l e R s m args below meth c Q g n1 n2 nL (pc + 1) lv (.ref x :: st) σ) : zGG p l e R s m args below meth c Q g n1 n2 nL pc lv st σ :=
  fun H locs ls hP hS hl => lv_aload_n C.1 C.2.1 hdg rfl (zLg_at hl hg) (kk H locs ls hP hS hl)
theorem zr_aload (C : zCX p R s m args meth c g n1 n2 cc nL own F Lc) {k : Nat} {x : Nat} (hdg : decode cc pc = .ok (.aload k, 2)) (hg : zLg lv k = some (.ref x)) (kk : zGG p l e R s m args below meth c Q g n1 n2 nL (pc + 2) lv (.ref x :: st) σ) : zGG p l e R s m args below meth c Q g n1 n2 nL pc lv st σ :=
  fun H locs ls hP hS hl => lv_aload C.1 C.2.1 hdg (zLg_at hl hg) (kk H locs ls hP hS hl)
abbrev zLs1 (lv : List (Nat × Value)) (i : Nat) (v : Value) : List (Nat × Value) := (i, v) :: lv.filter (fun q => !(q.1 == i) && !(q.1 + 1 == i && q.2.category == 2))
abbrev zLs2 (lv : List (Nat × Value)) (i : Nat) (v : Value) : List (Nat × Value) := (i, v) :: lv.filter (fun q => !(q.1 == i) && (!(q.1 == i + 1) && !(q.1 + 1 == i && q.2.category == 2)))
theorem zr_istore_n (C : zCX p R s m args meth c g n1 n2 cc nL own F Lc) {k : Fin 4} {x : Int32} (lv' : List (Nat × Value)) (hdg : decode cc pc = .ok (.istore_n k, 1)) (hn : (k : Nat) < nL) (hv : zLs1 lv (k : Nat) (.int x) = lv') (kk : zGG p l e R s m args below meth c Q g n1 n2 nL (pc + 1) lv' st σ) : zGG p l e R s m args below meth c Q g n1 n2 nL pc lv (.int x :: st) σ :=
  fun H locs ls hP hS hl => lv_istore_n C.1 C.2.1 hdg rfl hl hn hv (fun ls' hl' => kk H locs ls' hP hS hl')
theorem zr_istore (C : zCX p R s m args meth c g n1 n2 cc nL own F Lc) {k : Nat} {x : Int32} (lv' : List (Nat × Value)) (hdg : decode cc pc = .ok (.istore k, 2)) (hn : k < nL) (hv : zLs1 lv k (.int x) = lv') (kk : zGG p l e R s m args below meth c Q g n1 n2 nL (pc + 2) lv' st σ) : zGG p l e R s m args below meth c Q g n1 n2 nL pc lv (.int x :: st) σ :=
  fun H locs ls hP hS hl => lv_istore C.1 C.2.1 hdg hl hn hv (fun ls' hl' => kk H locs ls' hP hS hl')
theorem zr_lstore_n (C : zCX p R s m args meth c g n1 n2 cc nL own F Lc) {k : Fin 4} {x : Int64} (lv' : List (Nat × Value)) (hdg : decode cc pc = .ok (.lstore_n k, 1)) (hn : (k : Nat) + 1 < nL) (hv : zLs2 lv (k : Nat) (.long x) = lv') (kk : zGG p l e R s m args below meth c Q g n1 n2 nL (pc + 1) lv' st σ) : zGG p l e R s m args below meth c Q g n1 n2 nL pc lv (.long x :: st) σ :=
  fun H locs ls hP hS hl => lv_lstore_n C.1 C.2.1 hdg rfl hl hn hv (fun ls' hl' => kk H locs ls' hP hS hl')
theorem zr_lstore (C : zCX p R s m args meth c g n1 n2 cc nL own F Lc) {k : Nat} {x : Int64} (lv' : List (Nat × Value)) (hdg : decode cc pc = .ok (.lstore k, 2)) (hn : k + 1 < nL) (hv : zLs2 lv k (.long x) = lv') (kk : zGG p l e R s m args below meth c Q g n1 n2 nL (pc + 2) lv' st σ) : zGG p l e R s m args below meth c Q g n1 n2 nL pc lv (.long x :: st) σ :=
  fun H locs ls hP hS hl => lv_lstore C.1 C.2.1 hdg hl hn hv (fun ls' hl' => kk H locs ls' hP hS hl')
theorem zr_astore_n (C : zCX p R s m args meth c g n1 n2 cc nL own F Lc) {k : Fin 4} {x : Nat} (lv' : List (Nat × Value)) (hdg : decode cc pc = .ok (.astore_n k, 1)) (hn : (k : Nat) < nL) (hv : zLs1 lv (k : Nat) (.ref x) = lv') (kk : zGG p l e R s m args below meth c Q g n1 n2 nL (pc + 1) lv' st σ) : zGG p l e R s m args below meth c Q g n1 n2 nL pc lv (.ref x :: st) σ :=
  fun H locs ls hP hS hl => lv_astore_n C.1 C.2.1 hdg rfl hl hn hv (fun ls' hl' => kk H locs ls' hP hS hl')
theorem zr_astore (C : zCX p R s m args meth c g n1 n2 cc nL own F Lc) {k : Nat} {x : Nat} (lv' : List (Nat × Value)) (hdg : decode cc pc = .ok (.astore k, 2)) (hn : k < nL) (hv : zLs1 lv k (.ref x) = lv') (kk : zGG p l e R s m args below meth c Q g n1 n2 nL (pc + 2) lv' st σ) : zGG p l e R s m args below meth c Q g n1 n2 nL pc lv (.ref x :: st) σ :=
  fun H locs ls hP hS hl => lv_astore C.1 C.2.1 hdg hl hn hv (fun ls' hl' => kk H locs ls' hP hS hl')
theorem zLg_ix {i : Nat} {v : Value} {l : List (Nat × Value)} (h : zLg l i = some v) : ∃ k : Nat, l[k]? = some (i, v) := List.getElem?_of_mem (zLg_mem h)
theorem zr_iinc (C : zCX p R s m args meth c g n1 n2 cc nL own F Lc) {k : Nat} {n : Int} {x : Int32} (v : Int32) (lv' : List (Nat × Value)) (hdg : decode cc pc = .ok (.iinc k n, 3)) (hg : zLg lv k = some (.int x)) (hx : x + Int32.ofInt n = v) (hn : k < nL) (hv : zLs1 lv k (.int v) = lv') (kk : zGG p l e R s m args below meth c Q g n1 n2 nL (pc + 3) lv' st σ) : zGG p l e R s m args below meth c Q g n1 n2 nL pc lv st σ := by
  intro H locs ls hP hS hl
  obtain ⟨j, hj⟩ := zLg_ix hg
  exact lv_iinc C.1 C.2.1 hdg hl hj hx hn hv (fun ls' hl' => kk H locs ls' hP hS hl')
theorem zr_iadd (C : zCX p R s m args meth c g n1 n2 cc nL own F Lc) {x y : Int32} (hdg : decode cc pc = .ok (.iadd, 1)) (k : zGG p l e R s m args below meth c Q g n1 n2 nL (pc + 1) lv (.int (x + y) :: st) σ) : zGG p l e R s m args below meth c Q g n1 n2 nL pc lv (.int y :: .int x :: st) σ :=
  fun H locs ls hP hS hl => lv_iadd C.1 C.2.1 hdg (k H locs ls hP hS hl)
theorem zr_isub (C : zCX p R s m args meth c g n1 n2 cc nL own F Lc) {x y : Int32} (hdg : decode cc pc = .ok (.isub, 1)) (k : zGG p l e R s m args below meth c Q g n1 n2 nL (pc + 1) lv (.int (x - y) :: st) σ) : zGG p l e R s m args below meth c Q g n1 n2 nL pc lv (.int y :: .int x :: st) σ :=
  fun H locs ls hP hS hl => lv_isub C.1 C.2.1 hdg (k H locs ls hP hS hl)
theorem zr_imul (C : zCX p R s m args meth c g n1 n2 cc nL own F Lc) {x y : Int32} (hdg : decode cc pc = .ok (.imul, 1)) (k : zGG p l e R s m args below meth c Q g n1 n2 nL (pc + 1) lv (.int (x * y) :: st) σ) : zGG p l e R s m args below meth c Q g n1 n2 nL pc lv (.int y :: .int x :: st) σ :=
  fun H locs ls hP hS hl => lv_imul C.1 C.2.1 hdg (k H locs ls hP hS hl)
theorem zr_iand (C : zCX p R s m args meth c g n1 n2 cc nL own F Lc) {x y : Int32} (hdg : decode cc pc = .ok (.iand, 1)) (k : zGG p l e R s m args below meth c Q g n1 n2 nL (pc + 1) lv (.int (x &&& y) :: st) σ) : zGG p l e R s m args below meth c Q g n1 n2 nL pc lv (.int y :: .int x :: st) σ :=
  fun H locs ls hP hS hl => lv_iand C.1 C.2.1 hdg (k H locs ls hP hS hl)
theorem zr_ior (C : zCX p R s m args meth c g n1 n2 cc nL own F Lc) {x y : Int32} (hdg : decode cc pc = .ok (.ior, 1)) (k : zGG p l e R s m args below meth c Q g n1 n2 nL (pc + 1) lv (.int (x ||| y) :: st) σ) : zGG p l e R s m args below meth c Q g n1 n2 nL pc lv (.int y :: .int x :: st) σ :=
  fun H locs ls hP hS hl => lv_ior C.1 C.2.1 hdg (k H locs ls hP hS hl)
theorem zr_ixor (C : zCX p R s m args meth c g n1 n2 cc nL own F Lc) {x y : Int32} (hdg : decode cc pc = .ok (.ixor, 1)) (k : zGG p l e R s m args below meth c Q g n1 n2 nL (pc + 1) lv (.int (x ^^^ y) :: st) σ) : zGG p l e R s m args below meth c Q g n1 n2 nL pc lv (.int y :: .int x :: st) σ :=
  fun H locs ls hP hS hl => lv_ixor C.1 C.2.1 hdg (k H locs ls hP hS hl)
theorem zr_ishl (C : zCX p R s m args meth c g n1 n2 cc nL own F Lc) {x y : Int32} (hdg : decode cc pc = .ok (.ishl, 1)) (k : zGG p l e R s m args below meth c Q g n1 n2 nL (pc + 1) lv (.int (x <<< (y &&& 31)) :: st) σ) : zGG p l e R s m args below meth c Q g n1 n2 nL pc lv (.int y :: .int x :: st) σ :=
  fun H locs ls hP hS hl => lv_ishl C.1 C.2.1 hdg (k H locs ls hP hS hl)
theorem zr_ishr (C : zCX p R s m args meth c g n1 n2 cc nL own F Lc) {x y : Int32} (hdg : decode cc pc = .ok (.ishr, 1)) (k : zGG p l e R s m args below meth c Q g n1 n2 nL (pc + 1) lv (.int (x >>> (y &&& 31)) :: st) σ) : zGG p l e R s m args below meth c Q g n1 n2 nL pc lv (.int y :: .int x :: st) σ :=
  fun H locs ls hP hS hl => lv_ishr C.1 C.2.1 hdg (k H locs ls hP hS hl)
theorem zr_iushr (C : zCX p R s m args meth c g n1 n2 cc nL own F Lc) {x y : Int32} (hdg : decode cc pc = .ok (.iushr, 1)) (k : zGG p l e R s m args below meth c Q g n1 n2 nL (pc + 1) lv (.int (x.toUInt32 >>> (y.toUInt32 &&& Int32.toUInt32 31)).toInt32 :: st) σ) : zGG p l e R s m args below meth c Q g n1 n2 nL pc lv (.int y :: .int x :: st) σ :=
  fun H locs ls hP hS hl => lv_iushr C.1 C.2.1 hdg rfl (k H locs ls hP hS hl)
theorem zr_idiv (C : zCX p R s m args meth c g n1 n2 cc nL own F Lc) {x y : Int32} (hdg : decode cc pc = .ok (.idiv, 1)) (hne : ¬ y = 0) (k : zGG p l e R s m args below meth c Q g n1 n2 nL (pc + 1) lv (.int (x / y) :: st) σ) : zGG p l e R s m args below meth c Q g n1 n2 nL pc lv (.int y :: .int x :: st) σ :=
  fun H locs ls hP hS hl => lv_idiv C.1 C.2.1 hdg hne (k H locs ls hP hS hl)
theorem zr_irem (C : zCX p R s m args meth c g n1 n2 cc nL own F Lc) {x y : Int32} (hdg : decode cc pc = .ok (.irem, 1)) (hne : ¬ y = 0) (k : zGG p l e R s m args below meth c Q g n1 n2 nL (pc + 1) lv (.int (x - x / y * y) :: st) σ) : zGG p l e R s m args below meth c Q g n1 n2 nL pc lv (.int y :: .int x :: st) σ :=
  fun H locs ls hP hS hl => lv_irem C.1 C.2.1 hdg hne (k H locs ls hP hS hl)
theorem zr_ladd (C : zCX p R s m args meth c g n1 n2 cc nL own F Lc) {x y : Int64} (hdg : decode cc pc = .ok (.ladd, 1)) (k : zGG p l e R s m args below meth c Q g n1 n2 nL (pc + 1) lv (.long (x + y) :: st) σ) : zGG p l e R s m args below meth c Q g n1 n2 nL pc lv (.long y :: .long x :: st) σ :=
  fun H locs ls hP hS hl => lv_ladd C.1 C.2.1 hdg (k H locs ls hP hS hl)
theorem zr_lmul (C : zCX p R s m args meth c g n1 n2 cc nL own F Lc) {x y : Int64} (hdg : decode cc pc = .ok (.lmul, 1)) (k : zGG p l e R s m args below meth c Q g n1 n2 nL (pc + 1) lv (.long (x * y) :: st) σ) : zGG p l e R s m args below meth c Q g n1 n2 nL pc lv (.long y :: .long x :: st) σ :=
  fun H locs ls hP hS hl => lv_lmul C.1 C.2.1 hdg (k H locs ls hP hS hl)
theorem zr_ldiv (C : zCX p R s m args meth c g n1 n2 cc nL own F Lc) {x y : Int64} (hdg : decode cc pc = .ok (.ldiv, 1)) (hne : ¬ y = 0) (k : zGG p l e R s m args below meth c Q g n1 n2 nL (pc + 1) lv (.long (x / y) :: st) σ) : zGG p l e R s m args below meth c Q g n1 n2 nL pc lv (.long y :: .long x :: st) σ :=
  fun H locs ls hP hS hl => lv_ldiv C.1 C.2.1 hdg hne (k H locs ls hP hS hl)
theorem zr_lrem (C : zCX p R s m args meth c g n1 n2 cc nL own F Lc) {x y : Int64} (hdg : decode cc pc = .ok (.lrem, 1)) (hne : ¬ y = 0) (k : zGG p l e R s m args below meth c Q g n1 n2 nL (pc + 1) lv (.long (x - x / y * y) :: st) σ) : zGG p l e R s m args below meth c Q g n1 n2 nL pc lv (.long y :: .long x :: st) σ :=
  fun H locs ls hP hS hl => lv_lrem C.1 C.2.1 hdg hne (k H locs ls hP hS hl)
theorem zr_lshl (C : zCX p R s m args meth c g n1 n2 cc nL own F Lc) {x : Int64} {y : Int32} (hdg : decode cc pc = .ok (.lshl, 1)) (k : zGG p l e R s m args below meth c Q g n1 n2 nL (pc + 1) lv (.long (x <<< (y.toInt64 &&& 63)) :: st) σ) : zGG p l e R s m args below meth c Q g n1 n2 nL pc lv (.int y :: .long x :: st) σ :=
  fun H locs ls hP hS hl => lv_lshl C.1 C.2.1 hdg rfl (k H locs ls hP hS hl)
theorem zr_lshr (C : zCX p R s m args meth c g n1 n2 cc nL own F Lc) {x : Int64} {y : Int32} (hdg : decode cc pc = .ok (.lshr, 1)) (k : zGG p l e R s m args below meth c Q g n1 n2 nL (pc + 1) lv (.long (x >>> (y.toInt64 &&& 63)) :: st) σ) : zGG p l e R s m args below meth c Q g n1 n2 nL pc lv (.int y :: .long x :: st) σ :=
  fun H locs ls hP hS hl => lv_lshr C.1 C.2.1 hdg rfl (k H locs ls hP hS hl)
theorem zr_i2l (C : zCX p R s m args meth c g n1 n2 cc nL own F Lc) {x : Int32} (hdg : decode cc pc = .ok (.i2l, 1)) (k : zGG p l e R s m args below meth c Q g n1 n2 nL (pc + 1) lv (.long x.toInt64 :: st) σ) : zGG p l e R s m args below meth c Q g n1 n2 nL pc lv (.int x :: st) σ :=
  fun H locs ls hP hS hl => lv_i2l C.1 C.2.1 hdg rfl (k H locs ls hP hS hl)
theorem zr_l2i (C : zCX p R s m args meth c g n1 n2 cc nL own F Lc) {x : Int64} (hdg : decode cc pc = .ok (.l2i, 1)) (k : zGG p l e R s m args below meth c Q g n1 n2 nL (pc + 1) lv (.int x.toInt32 :: st) σ) : zGG p l e R s m args below meth c Q g n1 n2 nL pc lv (.long x :: st) σ :=
  fun H locs ls hP hS hl => lv_l2i C.1 C.2.1 hdg rfl (k H locs ls hP hS hl)
theorem zr_lcmp (C : zCX p R s m args meth c g n1 n2 cc nL own F Lc) {x y : Int64} (hdg : decode cc pc = .ok (.lcmp, 1)) (k : zGG p l e R s m args below meth c Q g n1 n2 nL (pc + 1) lv (.int (lg_cmp x y) :: st) σ) : zGG p l e R s m args below meth c Q g n1 n2 nL pc lv (.long y :: .long x :: st) σ :=
  fun H locs ls hP hS hl => W.lcmp C.1 C.2.1 hdg (k H locs ls hP hS hl)
theorem zr_dup (C : zCX p R s m args meth c g n1 n2 cc nL own F Lc) {v : Value} (hdg : decode cc pc = .ok (.dup, 1)) (hc : v.category = 1) (k : zGG p l e R s m args below meth c Q g n1 n2 nL (pc + 1) lv (v :: v :: st) σ) : zGG p l e R s m args below meth c Q g n1 n2 nL pc lv (v :: st) σ :=
  fun H locs ls hP hS hl => lv_dup C.1 C.2.1 hdg hc (k H locs ls hP hS hl)
theorem zr_dup2 (C : zCX p R s m args meth c g n1 n2 cc nL own F Lc) {v w : Value} (hdg : decode cc pc = .ok (.dup2, 1)) (hc : v.category = 1) (hd : w.category = 1) (k : zGG p l e R s m args below meth c Q g n1 n2 nL (pc + 1) lv (v :: w :: v :: w :: st) σ) : zGG p l e R s m args below meth c Q g n1 n2 nL pc lv (v :: w :: st) σ :=
  fun H locs ls hP hS hl => lv_dup2_11 C.1 C.2.1 hdg hc hd (k H locs ls hP hS hl)
theorem zr_pop (C : zCX p R s m args meth c g n1 n2 cc nL own F Lc) {v : Value} (hdg : decode cc pc = .ok (.pop, 1)) (hc : v.category = 1) (k : zGG p l e R s m args below meth c Q g n1 n2 nL (pc + 1) lv st σ) : zGG p l e R s m args below meth c Q g n1 n2 nL pc lv (v :: st) σ :=
  fun H locs ls hP hS hl => lv_pop C.1 C.2.1 hdg hc (k H locs ls hP hS hl)
theorem zr_pop2 (C : zCX p R s m args meth c g n1 n2 cc nL own F Lc) {v : Value} (hdg : decode cc pc = .ok (.pop2, 1)) (hc : v.category = 2) (k : zGG p l e R s m args below meth c Q g n1 n2 nL (pc + 1) lv st σ) : zGG p l e R s m args below meth c Q g n1 n2 nL pc lv (v :: st) σ :=
  fun H locs ls hP hS hl => lv_pop2_2 C.1 C.2.1 hdg hc (k H locs ls hP hS hl)
theorem zr_goto (C : zCX p R s m args meth c g n1 n2 cc nL own F Lc) {off : Int} (tgt : Nat) (hdg : decode cc pc = .ok (.goto off, 3)) (ht : (pc : Int) + off = (tgt : Int)) (k : zGG p l e R s m args below meth c Q g n1 n2 nL tgt lv st σ) : zGG p l e R s m args below meth c Q g n1 n2 nL pc lv st σ :=
  fun H locs ls hP hS hl => lv_goto C.1 C.2.1 hdg ht (k H locs ls hP hS hl)
theorem zr_topi {x : Int32} (k : ∀ y : Int32, y = x → zGG p l e R s m args below meth c Q g n1 n2 nL pc lv (.int y :: st) σ) : zGG p l e R s m args below meth c Q g n1 n2 nL pc lv (.int x :: st) σ := k x rfl
theorem zr_topl {x : Int64} (k : ∀ y : Int64, y = x → zGG p l e R s m args below meth c Q g n1 n2 nL pc lv (.long y :: st) σ) : zGG p l e R s m args below meth c Q g n1 n2 nL pc lv (.long x :: st) σ := k x rfl
theorem zr_sub (k : zGG p l e R s m args below meth c Q g n1 n2 nL pc lv st σ) {lv2 : List (Nat × Value)} (h : ∀ q ∈ lv, q ∈ lv2) : zGG p l e R s m args below meth c Q g n1 n2 nL pc lv2 st σ :=
  fun H locs ls hP hS hl => k H locs ls hP hS ⟨hl.1, hl.2.1, fun q hq => hl.2.2 q (h q hq)⟩
theorem zr_icmp_eq (C : zCX p R s m args meth c g n1 n2 cc nL own F Lc) {x y : Int32} {off : Int} (tgt : Nat) (hdg : decode cc pc = .ok (.if_icmp .eq off, 3)) (ht : (pc : Int) + off = (tgt : Int)) (kt : x = y → zGG p l e R s m args below meth c Q g n1 n2 nL tgt lv st σ) (kf : ¬ x = y → zGG p l e R s m args below meth c Q g n1 n2 nL (pc + 3) lv st σ) : zGG p l e R s m args below meth c Q g n1 n2 nL pc lv (.int y :: .int x :: st) σ :=
  fun H locs ls hP hS hl => lv_icmp_eq C.1 C.2.1 hdg ht (fun h => kt h H locs ls hP hS hl) (fun h => kf h H locs ls hP hS hl)
theorem zr_if_eq (C : zCX p R s m args meth c g n1 n2 cc nL own F Lc) {x : Int32} {off : Int} (tgt : Nat) (hdg : decode cc pc = .ok (.ifCond .eq off, 3)) (ht : (pc : Int) + off = (tgt : Int)) (kt : x = 0 → zGG p l e R s m args below meth c Q g n1 n2 nL tgt lv st σ) (kf : ¬ x = 0 → zGG p l e R s m args below meth c Q g n1 n2 nL (pc + 3) lv st σ) : zGG p l e R s m args below meth c Q g n1 n2 nL pc lv (.int x :: st) σ :=
  fun H locs ls hP hS hl => lv_if_eq C.1 C.2.1 hdg ht (fun h => kt h H locs ls hP hS hl) (fun h => kf h H locs ls hP hS hl)
theorem zr_icmp_ne (C : zCX p R s m args meth c g n1 n2 cc nL own F Lc) {x y : Int32} {off : Int} (tgt : Nat) (hdg : decode cc pc = .ok (.if_icmp .ne off, 3)) (ht : (pc : Int) + off = (tgt : Int)) (kt : ¬ x = y → zGG p l e R s m args below meth c Q g n1 n2 nL tgt lv st σ) (kf : x = y → zGG p l e R s m args below meth c Q g n1 n2 nL (pc + 3) lv st σ) : zGG p l e R s m args below meth c Q g n1 n2 nL pc lv (.int y :: .int x :: st) σ :=
  fun H locs ls hP hS hl => lv_icmp_ne C.1 C.2.1 hdg ht (fun h => kt h H locs ls hP hS hl) (fun h => kf h H locs ls hP hS hl)
theorem zr_if_ne (C : zCX p R s m args meth c g n1 n2 cc nL own F Lc) {x : Int32} {off : Int} (tgt : Nat) (hdg : decode cc pc = .ok (.ifCond .ne off, 3)) (ht : (pc : Int) + off = (tgt : Int)) (kt : ¬ x = 0 → zGG p l e R s m args below meth c Q g n1 n2 nL tgt lv st σ) (kf : x = 0 → zGG p l e R s m args below meth c Q g n1 n2 nL (pc + 3) lv st σ) : zGG p l e R s m args below meth c Q g n1 n2 nL pc lv (.int x :: st) σ :=
  fun H locs ls hP hS hl => lv_if_ne C.1 C.2.1 hdg ht (fun h => kt h H locs ls hP hS hl) (fun h => kf h H locs ls hP hS hl)
theorem zr_icmp_lt (C : zCX p R s m args meth c g n1 n2 cc nL own F Lc) {x y : Int32} {off : Int} (tgt : Nat) (hdg : decode cc pc = .ok (.if_icmp .lt off, 3)) (ht : (pc : Int) + off = (tgt : Int)) (kt : x < y → zGG p l e R s m args below meth c Q g n1 n2 nL tgt lv st σ) (kf : ¬ x < y → zGG p l e R s m args below meth c Q g n1 n2 nL (pc + 3) lv st σ) : zGG p l e R s m args below meth c Q g n1 n2 nL pc lv (.int y :: .int x :: st) σ :=
  fun H locs ls hP hS hl => lv_icmp_lt C.1 C.2.1 hdg ht (fun h => kt h H locs ls hP hS hl) (fun h => kf h H locs ls hP hS hl)
theorem zr_if_lt (C : zCX p R s m args meth c g n1 n2 cc nL own F Lc) {x : Int32} {off : Int} (tgt : Nat) (hdg : decode cc pc = .ok (.ifCond .lt off, 3)) (ht : (pc : Int) + off = (tgt : Int)) (kt : x < 0 → zGG p l e R s m args below meth c Q g n1 n2 nL tgt lv st σ) (kf : ¬ x < 0 → zGG p l e R s m args below meth c Q g n1 n2 nL (pc + 3) lv st σ) : zGG p l e R s m args below meth c Q g n1 n2 nL pc lv (.int x :: st) σ :=
  fun H locs ls hP hS hl => lv_if_lt C.1 C.2.1 hdg ht (fun h => kt h H locs ls hP hS hl) (fun h => kf h H locs ls hP hS hl)
theorem zr_icmp_ge (C : zCX p R s m args meth c g n1 n2 cc nL own F Lc) {x y : Int32} {off : Int} (tgt : Nat) (hdg : decode cc pc = .ok (.if_icmp .ge off, 3)) (ht : (pc : Int) + off = (tgt : Int)) (kt : y ≤ x → zGG p l e R s m args below meth c Q g n1 n2 nL tgt lv st σ) (kf : ¬ y ≤ x → zGG p l e R s m args below meth c Q g n1 n2 nL (pc + 3) lv st σ) : zGG p l e R s m args below meth c Q g n1 n2 nL pc lv (.int y :: .int x :: st) σ :=
  fun H locs ls hP hS hl => lv_icmp_ge C.1 C.2.1 hdg ht (fun h => kt h H locs ls hP hS hl) (fun h => kf h H locs ls hP hS hl)
theorem zr_if_ge (C : zCX p R s m args meth c g n1 n2 cc nL own F Lc) {x : Int32} {off : Int} (tgt : Nat) (hdg : decode cc pc = .ok (.ifCond .ge off, 3)) (ht : (pc : Int) + off = (tgt : Int)) (kt : 0 ≤ x → zGG p l e R s m args below meth c Q g n1 n2 nL tgt lv st σ) (kf : ¬ 0 ≤ x → zGG p l e R s m args below meth c Q g n1 n2 nL (pc + 3) lv st σ) : zGG p l e R s m args below meth c Q g n1 n2 nL pc lv (.int x :: st) σ :=
  fun H locs ls hP hS hl => lv_if_ge C.1 C.2.1 hdg ht (fun h => kt h H locs ls hP hS hl) (fun h => kf h H locs ls hP hS hl)
theorem zr_icmp_gt (C : zCX p R s m args meth c g n1 n2 cc nL own F Lc) {x y : Int32} {off : Int} (tgt : Nat) (hdg : decode cc pc = .ok (.if_icmp .gt off, 3)) (ht : (pc : Int) + off = (tgt : Int)) (kt : y < x → zGG p l e R s m args below meth c Q g n1 n2 nL tgt lv st σ) (kf : ¬ y < x → zGG p l e R s m args below meth c Q g n1 n2 nL (pc + 3) lv st σ) : zGG p l e R s m args below meth c Q g n1 n2 nL pc lv (.int y :: .int x :: st) σ :=
  fun H locs ls hP hS hl => lv_icmp_gt C.1 C.2.1 hdg ht (fun h => kt h H locs ls hP hS hl) (fun h => kf h H locs ls hP hS hl)
theorem zr_if_gt (C : zCX p R s m args meth c g n1 n2 cc nL own F Lc) {x : Int32} {off : Int} (tgt : Nat) (hdg : decode cc pc = .ok (.ifCond .gt off, 3)) (ht : (pc : Int) + off = (tgt : Int)) (kt : 0 < x → zGG p l e R s m args below meth c Q g n1 n2 nL tgt lv st σ) (kf : ¬ 0 < x → zGG p l e R s m args below meth c Q g n1 n2 nL (pc + 3) lv st σ) : zGG p l e R s m args below meth c Q g n1 n2 nL pc lv (.int x :: st) σ :=
  fun H locs ls hP hS hl => lv_if_gt C.1 C.2.1 hdg ht (fun h => kt h H locs ls hP hS hl) (fun h => kf h H locs ls hP hS hl)
theorem zr_icmp_le (C : zCX p R s m args meth c g n1 n2 cc nL own F Lc) {x y : Int32} {off : Int} (tgt : Nat) (hdg : decode cc pc = .ok (.if_icmp .le off, 3)) (ht : (pc : Int) + off = (tgt : Int)) (kt : x ≤ y → zGG p l e R s m args below meth c Q g n1 n2 nL tgt lv st σ) (kf : ¬ x ≤ y → zGG p l e R s m args below meth c Q g n1 n2 nL (pc + 3) lv st σ) : zGG p l e R s m args below meth c Q g n1 n2 nL pc lv (.int y :: .int x :: st) σ :=
  fun H locs ls hP hS hl => lv_icmp_le C.1 C.2.1 hdg ht (fun h => kt h H locs ls hP hS hl) (fun h => kf h H locs ls hP hS hl)
theorem zr_if_le (C : zCX p R s m args meth c g n1 n2 cc nL own F Lc) {x : Int32} {off : Int} (tgt : Nat) (hdg : decode cc pc = .ok (.ifCond .le off, 3)) (ht : (pc : Int) + off = (tgt : Int)) (kt : x ≤ 0 → zGG p l e R s m args below meth c Q g n1 n2 nL tgt lv st σ) (kf : ¬ x ≤ 0 → zGG p l e R s m args below meth c Q g n1 n2 nL (pc + 3) lv st σ) : zGG p l e R s m args below meth c Q g n1 n2 nL pc lv (.int x :: st) σ :=
  fun H locs ls hP hS hl => lv_if_le C.1 C.2.1 hdg ht (fun h => kt h H locs ls hP hS hl) (fun h => kf h H locs ls hP hS hl)
end ZR
section ZP
variable {p : Program} {l : Launch} {e : Env} {R : Room} {s : State} {m : MethodId} {args : Array Value} {below : List Frame} {meth : Method} {c : Code} {Q : State → Prop} {g : zG} {n1 n2 nL F Lc : Nat} {cc : ByteArray} {own : String} {pc : Nat} {lv lv2 : List (Nat × Value)} {st : List Value} {σ : zST}
theorem zr_pick (ks : List Nat) (h : lv_pick lv2 ks = lv) (k : zGG p l e R s m args below meth c Q g n1 n2 nL pc lv st σ) : zGG p l e R s m args below meth c Q g n1 n2 nL pc lv2 st σ :=
  fun H locs ls hP hS hl => k H locs ls hP hS (lv_sub hl ks h)
theorem zr_tops (k : ∀ σ' : zST, σ' = σ → zGG p l e R s m args below meth c Q g n1 n2 nL pc lv st σ') : zGG p l e R s m args below meth c Q g n1 n2 nL pc lv st σ := k σ rfl
theorem zr_tabIn (C : zCX p R s m args meth c g n1 n2 cc nL own F Lc) {dflt lo hi : Int} {offs : Array Int} {len : Nat} {x : Int32} {off : Int} (tgt : Nat) (hdg : decode cc pc = .ok (.tableswitch dflt lo hi offs, len)) (h1 : ¬ x.toInt < lo) (h2 : ¬ hi < x.toInt) (ho : offs[(x.toInt - lo).toNat]? = some off) (ht : (pc : Int) + off = (tgt : Int)) (k : zGG p l e R s m args below meth c Q g n1 n2 nL tgt lv st σ) : zGG p l e R s m args below meth c Q g n1 n2 nL pc lv (.int x :: st) σ :=
  fun H locs ls hP hS hl => lv_tableIn C.1 C.2.1 hdg h1 h2 ho ht (k H locs ls hP hS hl)
theorem zr_tabOut (C : zCX p R s m args meth c g n1 n2 cc nL own F Lc) {dflt lo hi : Int} {offs : Array Int} {len : Nat} {x : Int32} (tgt : Nat) (hdg : decode cc pc = .ok (.tableswitch dflt lo hi offs, len)) (h : x.toInt < lo ∨ hi < x.toInt) (ht : (pc : Int) + dflt = (tgt : Int)) (k : zGG p l e R s m args below meth c Q g n1 n2 nL tgt lv st σ) : zGG p l e R s m args below meth c Q g n1 n2 nL pc lv (.int x :: st) σ :=
  fun H locs ls hP hS hl => lv_tableOut C.1 C.2.1 hdg h ht (k H locs ls hP hS hl)
theorem zr_lookup (C : zCX p R s m args meth c g n1 n2 cc nL own F Lc) {dflt : Int} {ps : Array (Int × Int)} {len : Nat} {x : Int32} {off : Int} (tgt : Nat) (hdg : decode cc pc = .ok (.lookupswitch dflt ps, len)) (hp : (ps.toList.zip (ps.toList.drop 1)).all (fun (a, next) => a.1 < next.1) = true) (ho : Op.lookupswitch.offset ps.toList dflt x.toInt = off) (ht : (pc : Int) + off = (tgt : Int)) (k : zGG p l e R s m args below meth c Q g n1 n2 nL tgt lv st σ) : zGG p l e R s m args below meth c Q g n1 n2 nL pc lv (.int x :: st) σ :=
  fun H locs ls hP hS hl => lv_lookup C.1 C.2.1 hdg hp ho ht (k H locs ls hP hS hl)
end ZP
