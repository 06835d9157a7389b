section ZPu
variable {p : Program} {l : Launch} {e : Env} {R : Room} {s : State} {m : MethodId} {args : Array Value} {below : List Frame} {meth : Method} {c : Code} {Q : State → Prop} {g : zG} {n1 n2 nL : Nat} {pc : Nat} {lv : List (Nat × Value)} {st : List Value} {σ : zST}
theorem zr_cip {rest : List Value} {Post : Int32 → Prop} {a : Array Value} (hr : zRun p l e R s m args below meth c g n1 n2 nL pc lv st rest σ (va_Qi (fun r u => Post r ∧ u = σ) (zBB g) (zA g) a)) (kk : ∀ (r : Int32), Post r → zGG p l e R s m args below meth c Q g n1 n2 nL (pc + 3) lv (.int r :: rest) σ) : zGG p l e R s m args below meth c Q g n1 n2 nL pc lv st σ :=
  zr_ci hr (fun r σ' h => by rw [h.2]; exact kk r h.1)
theorem zr_clp {rest : List Value} {Post : Int64 → Prop} {a : Array Value} (hr : zRun p l e R s m args below meth c g n1 n2 nL pc lv st rest σ (va_Ql (fun r u => Post r ∧ u = σ) (zBB g) (zA g) a)) (kk : ∀ (r : Int64), Post r → zGG p l e R s m args below meth c Q g n1 n2 nL (pc + 3) lv (.long r :: rest) σ) : zGG p l e R s m args below meth c Q g n1 n2 nL pc lv st σ :=
  zr_cl hr (fun r σ' h => by rw [h.2]; exact kk r h.1)
theorem zr_crp {rest : List Value} {Post : Nat → Prop} {a : Array Value} (hr : zRun p l e R s m args below meth c g n1 n2 nL pc lv st rest σ (va_Qr (zPr g (fun r u => Post r ∧ u = σ)) (zBr g) (zA g) a)) (kk : ∀ (r : Nat), Post r → zGG p l e R s m args below meth c Q g n1 n2 nL (pc + 3) lv (.ref (g.2.1 r) :: rest) σ) : zGG p l e R s m args below meth c Q g n1 n2 nL pc lv st σ :=
  zr_cr hr (fun r σ' h => by rw [h.2]; exact kk r h.1)
end ZPu
