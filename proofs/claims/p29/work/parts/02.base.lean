/-! the words that hold wherever the tables do -/
def zGW : List Cond := lw_tbl.filter goodWord
theorem zGW_in {w : Cond} (i : Nat) (h : lw_tbl[i]? = some w) (hg : goodWord w = true) : w ∈ zGW := List.mem_filter.mpr ⟨List.mem_of_getElem? h, hg⟩
theorem zGW_good {w : Cond} (h : w ∈ zGW) : GoodIn zGW (w :: zGW) := by
  intro v hv
  have hm : v ∈ zGW := by
    rcases List.mem_cons.mp hv with rfl | h1
    · exact h
    · exact h1
  exact ⟨hm, good_of_word (List.mem_filter.mp hm).2⟩
/-! stores: what each cell holds, by its number; kinds of cells are fixed once all is made -/
abbrev zST : Type := (Nat → Nat → Int32) × (Nat → Nat → Int64)
def wI (σ : zST) (a k : Nat) (v : Int32) : zST := (fun b j => if b = a ∧ j = k then v else σ.1 b j, σ.2)
def wL (σ : zST) (a k : Nat) (v : Int64) : zST := (σ.1, fun b j => if b = a ∧ j = k then v else σ.2 b j)
def wRI (σ : zST) (a : Nat) (f : Nat → Int32) : zST := (fun b j => if b = a then f j else σ.1 b j, σ.2)
def wRL (σ : zST) (a : Nat) (f : Nat → Int64) : zST := (σ.1, fun b j => if b = a then f j else σ.2 b j)
abbrev zSh : Type := Nat × Nat × List Nat
abbrev zG : Type := va_G × (Nat → Nat) × (ClassId × ClassId × ClassId)
def zFld (ρ : Nat → Nat) (r : Nat → Int32) : Nat → List Nat → List Value
  | _, [] => []
  | j, 0 :: ts => .int (r j) :: zFld ρ r (j + 1) ts
  | j, (t + 1) :: ts => .ref (ρ t) :: zFld ρ r (j + 1) ts
def zCell (g : zG) (r1 : Nat → Int32) (r2 : Nat → Int64) (q : zSh) : va_E := match q.1 with
  | 0 => .inl (g.2.2.1, q.2.1, .inl r1)
  | 1 => .inl (g.2.2.2.1, q.2.1, .inr (.inl r2))
  | 2 => .inl (g.2.2.2.2, q.2.1, .inl r1)
  | _ => .inr (q.2.1, zFld g.2.1 r1 0 q.2.2)
def zBk (a : Nat) : List zSh := [(3, 0, [a + 2, a + 10, a + 13, a + 15]), (3, 6, [0, a + 3, a + 4, a + 5, a + 6, a + 7, a + 8, 0, a + 9]), (0, 6, []), (0, 6, []), (0, 6, []), (0, 6, []), (0, 8, []), (0, 24, []), (0, 3, []), (3, 3, [0, a + 11, a + 12]), (0, 4, []), (0, 4, []), (3, 1, [0, a + 14]), (0, 8, []), (3, 5, [0, a + 16, a + 17]), (0, 6, []), (0, 6, [])]
def zT : List zSh := [(3, 8, [2, 19, 36, 0, 53, 55, 64])] ++ zBk 1 ++ zBk 18 ++ zBk 35 ++ [(3, 4, [54, 0]), (0, 60, []), (3, 7, [56, 0, 0]), (3, 6, [0, 57, 58, 59, 60, 61, 62, 0, 63]), (0, 6, []), (0, 6, []), (0, 6, []), (0, 6, []), (0, 8, []), (0, 24, []), (0, 3, []), (3, 2, [65, 0, 66, 67, 68, 69]), (0, 6, []), (1, 18, []), (1, 729, []), (1, 729, []), (1, 729, []),
  (3, 9, [0, 71, 72, 73, 74, 0, 0, 0, 0, 0, 0, 0, 0, 75, 0, 0, 0, 0, 0, 76, 77, 0, 78, 79, 80, 0, 81, 0, 82, 0, 0, 0, 83, 84, 0, 85, 86, 87, 0, 0]), (0, 6, []), (0, 6, []), (0, 6, []), (0, 6, []), (0, 24, []), (0, 4, []), (0, 4, []), (0, 8, []), (0, 6, []), (0, 6, []), (0, 60, []), (0, 28, []), (0, 729, []), (0, 729, []), (0, 729, []), (0, 240, []), (2, 2, [])]
theorem zT_len : zT.length = 87 := by decide +kernel
def zW (g : zG) (σ : zST) : va_W := zT.mapIdx (fun k q => (g.2.1 k, zCell g (σ.1 k) (σ.2 k) q))
def zA (g : zG) : Nat → Prop := fun q => ∃ k, k < zT.length ∧ q = g.2.1 k
def zInj (g : zG) : Prop := ∀ i j, i < zT.length → j < zT.length → g.2.1 i = g.2.1 j → i = j
theorem zW_at {g : zG} {σ : zST} {k : Nat} {q : zSh} (h : zT[k]? = some q) : (zW g σ)[k]? = some (g.2.1 k, zCell g (σ.1 k) (σ.2 k) q) := by
  unfold zW
  rw [List.getElem?_mapIdx, h]
  rfl
theorem zW_inv {g : zG} {σ : zST} {k : Nat} {x : Nat × va_E} (h : (zW g σ)[k]? = some x) : ∃ q, zT[k]? = some q ∧ x = (g.2.1 k, zCell g (σ.1 k) (σ.2 k) q) := by
  unfold zW at h
  rw [List.getElem?_mapIdx] at h
  cases hq : zT[k]? with
  | none => rw [hq] at h; cases h
  | some q => rw [hq] at h; exact ⟨q, rfl, (Option.some.inj h).symm⟩
theorem zW_D {g : zG} {σ : zST} (hi : zInj g) : va_D (zA g) (zW g σ) := by
  refine ⟨fun i j p q h1 h2 he => ?_, fun k q h => ?_⟩
  · obtain ⟨q1, e1, rfl⟩ := zW_inv h1
    obtain ⟨q2, e2, rfl⟩ := zW_inv h2
    exact hi i j (List.getElem?_eq_some_iff.mp e1).1 (List.getElem?_eq_some_iff.mp e2).1 he
  · obtain ⟨q1, e1, rfl⟩ := zW_inv h
    exact ⟨k, (List.getElem?_eq_some_iff.mp e1).1, rfl⟩
theorem zW_set {g : zG} {σ σ' : zST} {k : Nat} {q : zSh} {e : va_E} (h : zT[k]? = some q) (he : zCell g (σ'.1 k) (σ'.2 k) q = e) (h1 : ∀ j, j ≠ k → σ'.1 j = σ.1 j) (h2 : ∀ j, j ≠ k → σ'.2 j = σ.2 j) : (zW g σ).set k (g.2.1 k, e) = zW g σ' := by
  apply List.ext_getElem?
  intro j
  have hk : k < (zW g σ).length := (List.getElem?_eq_some_iff.mp (zW_at (g := g) (σ := σ) h)).1
  by_cases hj : j = k
  · subst hj
    rw [List.getElem?_set_self hk, zW_at h, he]
  · rw [List.getElem?_set_ne (fun z => hj z.symm)]
    unfold zW
    rw [List.getElem?_mapIdx, List.getElem?_mapIdx]
    rw [h1 j hj, h2 j hj]
theorem wI_ne {σ : zST} {a k b : Nat} {v : Int32} (h : b ≠ a) : (wI σ a k v).1 b = σ.1 b := by
  funext j
  simp [wI, h]
theorem wI_row {σ : zST} {a k : Nat} {v : Int32} : (wI σ a k v).1 a = upd (σ.1 a) k v := by
  funext j
  simp [wI, upd]
theorem wL_ne {σ : zST} {a k b : Nat} {v : Int64} (h : b ≠ a) : (wL σ a k v).2 b = σ.2 b := by
  funext j
  simp [wL, h]
theorem wL_row {σ : zST} {a k : Nat} {v : Int64} : (wL σ a k v).2 a = vp_updL (σ.2 a) k v := by
  funext j
  simp [wL, vp_updL]
theorem wRI_ne {σ : zST} {a b : Nat} {f : Nat → Int32} (h : b ≠ a) : (wRI σ a f).1 b = σ.1 b := by
  funext j
  simp [wRI, h]
theorem wRI_row {σ : zST} {a : Nat} {f : Nat → Int32} : (wRI σ a f).1 a = f := by
  funext j
  simp [wRI]
theorem wRL_ne {σ : zST} {a b : Nat} {f : Nat → Int64} (h : b ≠ a) : (wRL σ a f).2 b = σ.2 b := by
  funext j
  simp [wRL, h]
theorem wRL_row {σ : zST} {a : Nat} {f : Nat → Int64} : (wRL σ a f).2 a = f := by
  funext j
  simp [wRL]
theorem zFld_int {ρ : Nat → Nat} {r : Nat → Int32} : ∀ (ts : List Nat) (j k : Nat), ts[k]? = some 0 → (zFld ρ r j ts)[k]? = some (.int (r (j + k)))
  | [], j, k, h => by simp at h
  | 0 :: ts, j, 0, h => by simp [zFld]
  | (t + 1) :: ts, j, 0, h => by simp at h
  | 0 :: ts, j, k + 1, h => by
    have := zFld_int (ρ := ρ) (r := r) ts (j + 1) k (by simpa using h)
    simpa [zFld, Nat.add_comm, Nat.add_left_comm] using this
  | (t + 1) :: ts, j, k + 1, h => by
    have := zFld_int (ρ := ρ) (r := r) ts (j + 1) k (by simpa using h)
    simpa [zFld, Nat.add_comm, Nat.add_left_comm] using this
theorem zFld_ref {ρ : Nat → Nat} {r : Nat → Int32} {u : Nat} : ∀ (ts : List Nat) (j k : Nat), ts[k]? = some (u + 1) → (zFld ρ r j ts)[k]? = some (.ref (ρ u))
  | [], j, k, h => by simp at h
  | 0 :: ts, j, 0, h => by simp at h
  | (t + 1) :: ts, j, 0, h => by
    have h1 : t = u := by simpa using h
    subst h1
    simp [zFld]
  | 0 :: ts, j, k + 1, h => by
    have := zFld_ref (ρ := ρ) (r := r) ts (j + 1) k (by simpa using h)
    simpa [zFld] using this
  | (t + 1) :: ts, j, k + 1, h => by
    have := zFld_ref (ρ := ρ) (r := r) ts (j + 1) k (by simpa using h)
    simpa [zFld] using this
theorem zFld_len {ρ : Nat → Nat} {r : Nat → Int32} : ∀ (ts : List Nat) (j : Nat), (zFld ρ r j ts).length = ts.length
  | [], j => rfl
  | 0 :: ts, j => by simp [zFld, zFld_len ts]
  | (t + 1) :: ts, j => by simp [zFld, zFld_len ts]
theorem zFld_off {ρ : Nat → Nat} {r : Nat → Int32} {n : Nat} {v : Int32} : ∀ (ts : List Nat) (j : Nat), n < j → zFld ρ (upd r n v) j ts = zFld ρ r j ts
  | [], j, h => rfl
  | 0 :: ts, j, h => by
    have h1 : ¬ j = n := by omega
    simp [zFld, zFld_off (n := n) (v := v) ts (j + 1) (by omega), upd, h1]
  | (t + 1) :: ts, j, h => by simp [zFld, zFld_off (n := n) (v := v) ts (j + 1) (by omega)]
theorem zFld_set {ρ : Nat → Nat} {r : Nat → Int32} {v : Int32} : ∀ (ts : List Nat) (j k : Nat), ts[k]? = some 0 → (zFld ρ r j ts).set k (.int v) = zFld ρ (upd r (j + k) v) j ts
  | [], j, k, h => by simp at h
  | 0 :: ts, j, 0, h => by
    simp only [zFld, List.set_cons_zero, Nat.add_zero]
    rw [zFld_off ts (j + 1) (by omega)]
    simp [upd]
  | (t + 1) :: ts, j, 0, h => by simp at h
  | 0 :: ts, j, k + 1, h => by
    have := zFld_set (ρ := ρ) (r := r) (v := v) ts (j + 1) k (by simpa using h)
    have h1 : ¬ j = j + (k + 1) := by omega
    have h2 : j + 1 + k = j + (k + 1) := by omega
    rw [h2] at this
    simp [zFld, this, upd, h1]
  | (t + 1) :: ts, j, k + 1, h => by
    have := zFld_set (ρ := ρ) (r := r) (v := v) ts (j + 1) k (by simpa using h)
    have h2 : j + 1 + k = j + (k + 1) := by omega
    rw [h2] at this
    simp [zFld, this]
