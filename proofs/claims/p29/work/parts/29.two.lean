section
/-! a season: what it does to a sea, told once for both -/
def zl (r : Nat) : Nat := ([2, 6, 6, 6, 6, 8, 24, 3] : List Nat).getD r 0
def sV (σ : zST) (r k : Nat) : Int32 := match r with
  | 0 => match k with | 0 => σ.1 55 0 | _ => σ.1 55 7
  | 1 => σ.1 56 k | 2 => σ.1 57 k | 3 => σ.1 58 k | 4 => σ.1 59 k | 5 => σ.1 60 k | 6 => σ.1 61 k | _ => σ.1 62 k
abbrev zSea : Type := Nat → Nat → Int32
def zTt (S : zSea) (k : Nat) : Int32 := if (if (0 : Int32) < S 5 0 - S 3 k then S 5 0 - S 3 k else 0) < S 2 k then (if (0 : Int32) < S 5 0 - S 3 k then S 5 0 - S 3 k else 0) else S 2 k
def zdw (x : Int32) : Int32 := ((75 : Int32) * x + 74) - ((75 : Int32) * x + 74) / 65537 * 65537
def zLw (S : zSea) (h : Int32) : Prop := ¬ S 6 (zmo h (S 0 1)).toNatClampNeg ≤ zdw (S 5 7) - zdw (S 5 7) / 10 * 10
noncomputable def zGt (S : zSea) (k : Nat) : zSea := fun r j => match r with
  | 1 => if j = k then (if S 2 k - zTt S k = 0 then 2 else 1) else S 1 j
  | 2 => if j = k then S 2 k - zTt S k else S 2 j
  | 3 => if j = k then (if S 2 k - zTt S k = 0 then 0 else if (0 : Int32) < S 3 k - S 5 0 then S 3 k - S 5 0 else 0) else S 3 j
  | 4 => if j = k then (if S 2 k - zTt S k = 0 then 0 else S 4 k) else S 4 j
  | 7 => if j = 0 then S 7 0 + zTt S k else if j = 1 then (if S 2 k - zTt S k = 0 then S 7 1 + S 4 k else S 7 1) else S 7 j
  | r => S r j
noncomputable def zGl (S : zSea) (k : Nat) : zSea := fun r j => match r with
  | 1 => if j = k then 2 else S 1 j
  | 2 => if j = k then 0 else S 2 j
  | 3 => if j = k then 0 else S 3 j
  | 4 => if j = k then 0 else S 4 j
  | 5 => if j = 7 then zdw (S 5 7) else S 5 j
  | 7 => if j = 0 then S 7 0 + S 2 k else if j = 1 then S 7 1 + S 4 k else S 7 j
  | r => S r j
noncomputable def zGw (S : zSea) (k : Nat) : zSea := fun r j => match r with
  | 1 => if j = k then 1 else S 1 j
  | 5 => if j = 7 then zdw (S 5 7) else S 5 j
  | r => S r j
noncomputable def zGc (S : zSea) (k : Nat) : zSea := fun r j => match r with
  | 1 => if j = k then 1 else S 1 j
  | 7 => if j = 2 then S 7 2 + S 5 2 * S 5 3 * S 2 k else S 7 j
  | r => S r j
noncomputable def zGo (S : zSea) (k : Nat) (sd h : Int32) : zSea := if sd = 0 then zGt S k else if sd = 1 then (if S 6 (zmo h (S 0 1)).toNatClampNeg ≤ zdw (S 5 7) - zdw (S 5 7) / 10 * 10 then zGw S k else zGl S k) else zGc S k
def SR (σ : zST) (S : zSea) : Prop := ∀ r k, k < zl r → sV σ r k = S r k
def NR (σ : zST) (S : zSea) : Prop := ∀ r k, k < zl r → mV σ r k = S r k
def OKS (S : zSea) : Prop := (∀ r k, k < zl r → zLo r k ≤ (S r k).toInt ∧ (S r k).toInt ≤ zHi r k) ∧ ∀ k, k < 6 → zH (S 0 0) (nI k) → S 1 k = 0 → 1 ≤ (S 2 k).toInt
theorem zl8 {r k : Nat} (h : k < zl r) : r < 8 := by
  rcases Nat.lt_or_ge r 8 with h1 | h1
  · exact h1
  · have : zl r = 0 := by
      unfold zl
      rw [List.getD_eq_getElem?_getD, List.getElem?_eq_none (by simpa using h1)]
      rfl
    omega
theorem zl_len {r k : Nat} (h : k < zl r) : k < zLen r := by
  have h1 := zl8 h
  match r, h1 with
  | 0, _ => have : k < 2 := h; show k < 5; omega
  | 1, _ => exact h
  | 2, _ => exact h
  | 3, _ => exact h
  | 4, _ => exact h
  | 5, _ => exact h
  | 6, _ => exact h
  | 7, _ => exact h
section S
variable {σ : zST} {S : zSea} {p sd hr : Int32} {k : Nat} {P : zST → Prop}
theorem i_lose (hp : p = nI k) (hk : k < 6) (h : ∀ σ' : zST, (∀ a j, σ'.1 a j = if a = 59 ∧ j = k then 0 else if a = 58 ∧ j = k then 0 else if a = 57 ∧ j = k then 0 else if a = 56 ∧ j = k then 2 else if a = 62 ∧ j = 1 then σ.1 62 1 + σ.1 59 k else if a = 62 ∧ j = 0 then σ.1 62 0 + σ.1 57 k else σ.1 a j) → P σ') : wp_X6_lose 55 p σ P := by
  subst hp
  have hv : vp_in (nI k) 6 := vp_in_nI hk (by omega)
  have hc : (nI k).toNatClampNeg = k := nI_clamp (by omega)
  refine ⟨hv, ?_⟩
  rintro _ rfl
  refine ⟨hv, hv, hv, hv, hv, ?_⟩
  rw [hc]
  exact h _ (fun a j => rfl)
theorem i_sendT (hp : p = nI k) (hk : k < 6) (hS : SR σ S) (hmen : 1 ≤ (S 2 k).toInt) (h : ∀ σ' : zST, SR σ' (zGt S k) → (∀ a j, a < 55 ∨ 62 < a → σ'.1 a j = σ.1 a j) → P σ') : wp_X6_sendByTeeth 55 p (wI σ 56 p.toNatClampNeg 1) P := by
  subst hp
  have hv : vp_in (nI k) 6 := vp_in_nI hk (by omega)
  have hc : (nI k).toNatClampNeg = k := nI_clamp (by omega)
  have f1 : ∀ j, j < 6 → σ.1 56 j = S 1 j := fun j hj => hS 1 j hj
  have f2 : ∀ j, j < 6 → σ.1 57 j = S 2 j := fun j hj => hS 2 j hj
  have f3 : ∀ j, j < 6 → σ.1 58 j = S 3 j := fun j hj => hS 3 j hj
  have f4 : ∀ j, j < 6 → σ.1 59 j = S 4 j := fun j hj => hS 4 j hj
  have f5 : ∀ j, j < 8 → σ.1 60 j = S 5 j := fun j hj => hS 5 j hj
  have f6 : ∀ j, j < 24 → σ.1 61 j = S 6 j := fun j hj => hS 6 j hj
  have f7 : ∀ j, j < 3 → σ.1 62 j = S 7 j := fun j hj => hS 7 j hj
  refine ⟨hv, hv, hv, hv, hv, ?_⟩
  rw [hc]
  have eT : (if (if (0 : Int32) < ((wI σ 56 k 1).1 (55 + 5) (0 : Int32).toNatClampNeg) - ((wI σ 56 k 1).1 (55 + 3) k) then ((wI σ 56 k 1).1 (55 + 5) (0 : Int32).toNatClampNeg) - ((wI σ 56 k 1).1 (55 + 3) k) else (0 : Int32)) < ((wI σ 56 k 1).1 (55 + 2) k) then (if (0 : Int32) < ((wI σ 56 k 1).1 (55 + 5) (0 : Int32).toNatClampNeg) - ((wI σ 56 k 1).1 (55 + 3) k) then ((wI σ 56 k 1).1 (55 + 5) (0 : Int32).toNatClampNeg) - ((wI σ 56 k 1).1 (55 + 3) k) else (0 : Int32)) else ((wI σ 56 k 1).1 (55 + 2) k)) = zTt S k := by
    show (if (if (0 : Int32) < σ.1 60 0 - σ.1 58 k then σ.1 60 0 - σ.1 58 k else 0) < σ.1 57 k then (if (0 : Int32) < σ.1 60 0 - σ.1 58 k then σ.1 60 0 - σ.1 58 k else 0) else σ.1 57 k) = zTt S k
    rw [f5 0 (by omega), f3 k hk, f2 k hk]
    rfl
  rw [eT]
  rintro _ rfl
  refine ⟨hv, ?_⟩
  rintro _ rfl
  refine ⟨hv, ?_⟩
  rintro σ10 e10
  have h10 : ∀ a j, σ10.1 a j = if a = 62 ∧ j = 0 then S 7 0 + zTt S k else if a = 57 ∧ j = k then S 2 k - zTt S k else if a = 58 ∧ j = k then (if (0 : Int32) < S 3 k - S 5 0 then S 3 k - S 5 0 else 0) else if a = 56 ∧ j = k then 1 else σ.1 a j := by
    intro a j
    rw [e10, ← f7 0 (by omega), ← f2 k hk, ← f3 k hk, ← f5 0 (by omega)]
    rfl
  have hm : σ10.1 57 k = S 2 k - zTt S k := by rw [h10, if_neg (by omega), if_pos ⟨rfl, rfl⟩]
  have hcg : σ10.1 59 k = S 4 k := by rw [h10, if_neg (by omega), if_neg (by omega), if_neg (by omega), if_neg (by omega)]; exact f4 k hk
  have hs1 : σ10.1 62 1 = S 7 1 := by rw [h10, if_neg (by omega), if_neg (by omega), if_neg (by omega), if_neg (by omega)]; exact f7 1 (by omega)
  have hs0 : σ10.1 62 0 = S 7 0 + zTt S k := by rw [h10, if_pos ⟨rfl, rfl⟩]
  by_cases c : S 2 k - zTt S k = 0
  · rw [if_pos (show σ10.1 (55 + 2) k = 0 from hm.trans c)]
    refine i_lose rfl hk (fun σ' hs => ?_)
    rw [hm, hcg, hs1, hs0, c, Int32.add_zero] at hs
    refine h σ' (fun r j hj => ?_) (fun a j ha => ?_)
    · have hr := zl8 hj
      match r, hr with
      | 0, _ =>
        match j, hj with
        | 0, _ => show σ'.1 55 0 = S 0 0; rw [hs, h10]; (repeat rw [if_neg (by omega)]); exact hS 0 0 (by decide)
        | 1, _ => show σ'.1 55 7 = S 0 1; rw [hs, h10]; (repeat rw [if_neg (by omega)]); exact hS 0 1 (by decide)
        | j + 2, hj => exact absurd hj (by simp [zl])
      | 1, _ =>
        have hj : j < 6 := hj
        show σ'.1 56 j = if j = k then (if S 2 k - zTt S k = 0 then 2 else 1) else S 1 j
        rw [hs, h10]
        by_cases e : j = k
        · rw [if_neg (by omega), if_neg (by omega), if_neg (by omega), if_pos ⟨rfl, e⟩, if_pos e, if_pos c]
        · rw [if_neg e]; (repeat rw [if_neg (by omega)]); exact f1 j hj
      | 2, _ =>
        have hj : j < 6 := hj
        show σ'.1 57 j = if j = k then S 2 k - zTt S k else S 2 j
        rw [hs, h10]
        by_cases e : j = k
        · rw [if_neg (by omega), if_neg (by omega), if_pos ⟨rfl, e⟩, if_pos e, c]
        · rw [if_neg e]; (repeat rw [if_neg (by omega)]); exact f2 j hj
      | 3, _ =>
        have hj : j < 6 := hj
        show σ'.1 58 j = if j = k then (if S 2 k - zTt S k = 0 then 0 else if (0 : Int32) < S 3 k - S 5 0 then S 3 k - S 5 0 else 0) else S 3 j
        rw [hs, h10]
        by_cases e : j = k
        · rw [if_neg (by omega), if_pos ⟨rfl, e⟩, if_pos e, if_pos c]
        · rw [if_neg e]; (repeat rw [if_neg (by omega)]); exact f3 j hj
      | 4, _ =>
        have hj : j < 6 := hj
        show σ'.1 59 j = if j = k then (if S 2 k - zTt S k = 0 then 0 else S 4 k) else S 4 j
        rw [hs, h10]
        by_cases e : j = k
        · rw [if_pos ⟨rfl, e⟩, if_pos e, if_pos c]
        · rw [if_neg e]; (repeat rw [if_neg (by omega)]); exact f4 j hj
      | 5, _ => show σ'.1 60 j = S 5 j; rw [hs, h10]; (repeat rw [if_neg (by omega)]); exact f5 j hj
      | 6, _ => show σ'.1 61 j = S 6 j; rw [hs, h10]; (repeat rw [if_neg (by omega)]); exact f6 j hj
      | 7, _ =>
        have hj : j < 3 := hj
        show σ'.1 62 j = if j = 0 then S 7 0 + zTt S k else if j = 1 then (if S 2 k - zTt S k = 0 then S 7 1 + S 4 k else S 7 1) else S 7 j
        rw [hs, h10, if_pos c]
        rcases (show j = 0 ∨ j = 1 ∨ j = 2 by omega) with rfl | rfl | rfl
        · simp
        · simp
        · simp; exact f7 2 (by omega)
    · rw [hs, h10]
      repeat rw [if_neg (by omega)]
  · rw [if_neg (show ¬ σ10.1 (55 + 2) k = 0 from fun q => c (hm.symm.trans q))]
    refine h σ10 (fun r j hj => ?_) (fun a j ha => ?_)
    · have hr := zl8 hj
      match r, hr with
      | 0, _ =>
        match j, hj with
        | 0, _ => show σ10.1 55 0 = S 0 0; rw [h10]; (repeat rw [if_neg (by omega)]); exact hS 0 0 (by decide)
        | 1, _ => show σ10.1 55 7 = S 0 1; rw [h10]; (repeat rw [if_neg (by omega)]); exact hS 0 1 (by decide)
        | j + 2, hj => exact absurd hj (by simp [zl])
      | 1, _ =>
        have hj : j < 6 := hj
        show σ10.1 56 j = if j = k then (if S 2 k - zTt S k = 0 then 2 else 1) else S 1 j
        rw [h10]
        by_cases e : j = k
        · rw [if_neg (by omega), if_neg (by omega), if_neg (by omega), if_pos ⟨rfl, e⟩, if_pos e, if_neg c]
        · rw [if_neg e]; (repeat rw [if_neg (by omega)]); exact f1 j hj
      | 2, _ =>
        have hj : j < 6 := hj
        show σ10.1 57 j = if j = k then S 2 k - zTt S k else S 2 j
        rw [h10]
        by_cases e : j = k
        · rw [if_neg (by omega), if_pos ⟨rfl, e⟩, if_pos e]
        · rw [if_neg e]; (repeat rw [if_neg (by omega)]); exact f2 j hj
      | 3, _ =>
        have hj : j < 6 := hj
        show σ10.1 58 j = if j = k then (if S 2 k - zTt S k = 0 then 0 else if (0 : Int32) < S 3 k - S 5 0 then S 3 k - S 5 0 else 0) else S 3 j
        rw [h10]
        by_cases e : j = k
        · rw [if_neg (by omega), if_neg (by omega), if_pos ⟨rfl, e⟩, if_pos e, if_neg c]
        · rw [if_neg e]; (repeat rw [if_neg (by omega)]); exact f3 j hj
      | 4, _ =>
        have hj : j < 6 := hj
        show σ10.1 59 j = if j = k then (if S 2 k - zTt S k = 0 then 0 else S 4 k) else S 4 j
        rw [h10]
        by_cases e : j = k
        · rw [if_pos e, if_neg c]; (repeat rw [if_neg (by omega)]); rw [e]; exact f4 k hk
        · rw [if_neg e]; (repeat rw [if_neg (by omega)]); exact f4 j hj
      | 5, _ => show σ10.1 60 j = S 5 j; rw [h10]; (repeat rw [if_neg (by omega)]); exact f5 j hj
      | 6, _ => show σ10.1 61 j = S 6 j; rw [h10]; (repeat rw [if_neg (by omega)]); exact f6 j hj
      | 7, _ =>
        have hj : j < 3 := hj
        show σ10.1 62 j = if j = 0 then S 7 0 + zTt S k else if j = 1 then (if S 2 k - zTt S k = 0 then S 7 1 + S 4 k else S 7 1) else S 7 j
        rw [h10, if_neg c]
        rcases (show j = 0 ∨ j = 1 ∨ j = 2 by omega) with rfl | rfl | rfl
        · simp
        · simp; exact f7 1 (by omega)
        · simp; exact f7 2 (by omega)
    · rw [h10]
      repeat rw [if_neg (by omega)]
end S
end
section
section S
variable {σ : zST} {S : zSea} {p sd hr : Int32} {k : Nat} {P : zST → Prop} {Q : Int32 → Prop}
theorem SR_of {σ' : zST} {S' : zSea} (h0 : σ'.1 55 0 = S' 0 0) (h01 : σ'.1 55 7 = S' 0 1) (h1 : ∀ j, j < 6 → σ'.1 56 j = S' 1 j) (h2 : ∀ j, j < 6 → σ'.1 57 j = S' 2 j) (h3 : ∀ j, j < 6 → σ'.1 58 j = S' 3 j) (h4 : ∀ j, j < 6 → σ'.1 59 j = S' 4 j) (h5 : ∀ j, j < 8 → σ'.1 60 j = S' 5 j) (h6 : ∀ j, j < 24 → σ'.1 61 j = S' 6 j) (h7 : ∀ j, j < 3 → σ'.1 62 j = S' 7 j) : SR σ' S' := by
  intro r j hj
  have hr := zl8 hj
  match r, hr with
  | 0, _ =>
    match j, hj with
    | 0, _ => exact h0
    | 1, _ => exact h01
    | j + 2, hj => exact absurd hj (by simp [zl])
  | 1, _ => exact h1 j hj
  | 2, _ => exact h2 j hj
  | 3, _ => exact h3 j hj
  | 4, _ => exact h4 j hj
  | 5, _ => exact h5 j hj
  | 6, _ => exact h6 j hj
  | 7, _ => exact h7 j hj
theorem NR_of {σ' : zST} {S' : zSea} (h0 : σ'.1 69 0 = S' 0 0) (h01 : σ'.1 69 14 = S' 0 1) (h1 : ∀ j, j < 6 → σ'.1 73 j = S' 1 j) (h2 : ∀ j, j < 6 → σ'.1 70 j = S' 2 j) (h3 : ∀ j, j < 6 → σ'.1 71 j = S' 3 j) (h4 : ∀ j, j < 6 → σ'.1 72 j = S' 4 j) (h5 : ∀ j, j < 8 → σ'.1 69 (5 + j) = S' 5 j) (h6 : ∀ j, j < 24 → σ'.1 74 j = S' 6 j) (h7 : ∀ j, j < 3 → σ'.1 69 (15 + j) = S' 7 j) : NR σ' S' := by
  intro r j hj
  have hr := zl8 hj
  match r, hr with
  | 0, _ =>
    match j, hj with
    | 0, _ => exact h0
    | 1, _ => exact h01
    | j + 2, hj => exact absurd hj (by simp [zl])
  | 1, _ => exact h1 j hj
  | 2, _ => exact h2 j hj
  | 3, _ => exact h3 j hj
  | 4, _ => exact h4 j hj
  | 5, _ => exact h5 j hj
  | 6, _ => exact h6 j hj
  | 7, _ => exact h7 j hj
theorem zdig (hok : OKS S) (hh : 0 ≤ hr.toInt) : (zmo hr (S 0 1)).toNatClampNeg < 24 := by
  have e := hok.1 0 1 (by decide)
  have e1 : 1 ≤ (S 0 1).toInt := e.1
  have e2 : (S 0 1).toInt ≤ 24 := e.2
  have := zmodb (d := S 0 1) hh e1
  exact zcl (x := zmo hr (S 0 1)) this.1 (Int.lt_of_lt_of_le this.2.1 (by omega))
theorem i_sendW (hp : p = nI k) (hk : k < 6) (hS : SR σ S) (hok : OKS S) (hh : 0 ≤ hr.toInt) (h : ∀ σ' : zST, SR σ' (if S 6 (zmo hr (S 0 1)).toNatClampNeg ≤ zdw (S 5 7) - zdw (S 5 7) / 10 * 10 then zGw S k else zGl S k) → (∀ a j, a < 55 ∨ 62 < a → σ'.1 a j = σ.1 a j) → P σ') : wp_X6_sendByWhirl 55 p hr (wI σ 56 p.toNatClampNeg 1) P := by
  subst hp
  have hc : (nI k).toNatClampNeg = k := nI_clamp (by omega)
  have f0 : σ.1 55 0 = S 0 0 := hS 0 0 (by decide)
  have f01 : σ.1 55 7 = S 0 1 := hS 0 1 (by decide)
  have f1 : ∀ j, j < 6 → σ.1 56 j = S 1 j := fun j hj => hS 1 j hj
  have f2 : ∀ j, j < 6 → σ.1 57 j = S 2 j := fun j hj => hS 2 j hj
  have f3 : ∀ j, j < 6 → σ.1 58 j = S 3 j := fun j hj => hS 3 j hj
  have f4 : ∀ j, j < 6 → σ.1 59 j = S 4 j := fun j hj => hS 4 j hj
  have f5 : ∀ j, j < 8 → σ.1 60 j = S 5 j := fun j hj => hS 5 j hj
  have f6 : ∀ j, j < 24 → σ.1 61 j = S 6 j := fun j hj => hS 6 j hj
  have f7 : ∀ j, j < 3 → σ.1 62 j = S 7 j := fun j hj => hS 7 j hj
  have ed := hok.1 0 1 (by decide)
  have ed1 : 1 ≤ (S 0 1).toInt := ed.1
  have ed2 : (S 0 1).toInt ≤ 24 := ed.2
  rw [hc]
  unfold wp_X6_sendByWhirl wp_X8_drawAfter
  intro σ3 e3
  have h3 : ∀ a j, σ3.1 a j = if a = 60 ∧ j = 7 then zdw (S 5 7) else if a = 56 ∧ j = k then 1 else σ.1 a j := by
    intro a j
    rw [e3, ← f5 7 (by omega)]
    rfl
  have g1 : σ3.1 55 7 = S 0 1 := by rw [h3]; (repeat rw [if_neg (by omega)]); exact f01
  have g2 : σ3.1 60 7 = zdw (S 5 7) := by rw [h3, if_pos ⟨rfl, rfl⟩]
  refine i_digitAt hh (by rw [g1]; exact ed1) (by rw [g1]; exact ed2) ?_
  have g3 : zdg σ3 55 hr = S 6 (zmo hr (S 0 1)).toNatClampNeg := by
    unfold zdg
    rw [g1]
    show σ3.1 61 _ = _
    rw [h3]; (repeat rw [if_neg (by omega)]); exact f6 _ (zdig hok hh)
  rw [g3, show σ3.1 (55 + 5) (7 : Int32).toNatClampNeg = zdw (S 5 7) from g2]
  by_cases cc : S 6 (zmo hr (S 0 1)).toNatClampNeg ≤ zdw (S 5 7) - zdw (S 5 7) / 10 * 10
  · rw [if_pos cc] at h ⊢
    refine h σ3 (SR_of ?_ ?_ (fun j hj => ?_) (fun j hj => ?_) (fun j hj => ?_) (fun j hj => ?_) (fun j hj => ?_) (fun j hj => ?_) (fun j hj => ?_)) (fun a j ha => ?_)
    · rw [h3]; (repeat rw [if_neg (by omega)]); exact f0
    · exact g1
    · show σ3.1 56 j = if j = k then 1 else S 1 j
      rw [h3]
      by_cases e : j = k
      · rw [if_neg (by omega), if_pos ⟨rfl, e⟩, if_pos e]
      · rw [if_neg (by omega), if_neg (by omega), if_neg e]; exact f1 j hj
    · show σ3.1 57 j = S 2 j; rw [h3]; (repeat rw [if_neg (by omega)]); exact f2 j hj
    · show σ3.1 58 j = S 3 j; rw [h3]; (repeat rw [if_neg (by omega)]); exact f3 j hj
    · show σ3.1 59 j = S 4 j; rw [h3]; (repeat rw [if_neg (by omega)]); exact f4 j hj
    · show σ3.1 60 j = if j = 7 then zdw (S 5 7) else S 5 j
      rw [h3]
      by_cases e : j = 7
      · rw [if_pos ⟨rfl, e⟩, if_pos e]
      · rw [if_neg (by omega), if_neg (by omega), if_neg e]; exact f5 j hj
    · show σ3.1 61 j = S 6 j; rw [h3]; (repeat rw [if_neg (by omega)]); exact f6 j hj
    · show σ3.1 62 j = S 7 j; rw [h3]; (repeat rw [if_neg (by omega)]); exact f7 j hj
    · rw [h3]; (repeat rw [if_neg (by omega)])
  · rw [if_neg cc] at h ⊢
    refine i_lose rfl hk (fun σ' hs => ?_)
    have m1 : σ3.1 62 1 = S 7 1 := by rw [h3]; (repeat rw [if_neg (by omega)]); exact f7 1 (by omega)
    have m2 : σ3.1 62 0 = S 7 0 := by rw [h3]; (repeat rw [if_neg (by omega)]); exact f7 0 (by omega)
    have m3 : σ3.1 59 k = S 4 k := by rw [h3]; (repeat rw [if_neg (by omega)]); exact f4 k hk
    have m4 : σ3.1 57 k = S 2 k := by rw [h3]; (repeat rw [if_neg (by omega)]); exact f2 k hk
    rw [m1, m2, m3, m4] at hs
    refine h σ' (SR_of ?_ ?_ (fun j hj => ?_) (fun j hj => ?_) (fun j hj => ?_) (fun j hj => ?_) (fun j hj => ?_) (fun j hj => ?_) (fun j hj => ?_)) (fun a j ha => ?_)
    · show σ'.1 55 0 = S 0 0; rw [hs, h3]; (repeat rw [if_neg (by omega)]); exact f0
    · show σ'.1 55 7 = S 0 1; rw [hs, h3]; (repeat rw [if_neg (by omega)]); exact f01
    · show σ'.1 56 j = if j = k then 2 else S 1 j
      rw [hs, h3]
      by_cases e : j = k
      · rw [if_neg (by omega), if_neg (by omega), if_neg (by omega), if_pos ⟨rfl, e⟩, if_pos e]
      · rw [if_neg e]; (repeat rw [if_neg (by omega)]); exact f1 j hj
    · show σ'.1 57 j = if j = k then 0 else S 2 j
      rw [hs, h3]
      by_cases e : j = k
      · rw [if_neg (by omega), if_neg (by omega), if_pos ⟨rfl, e⟩, if_pos e]
      · rw [if_neg e]; (repeat rw [if_neg (by omega)]); exact f2 j hj
    · show σ'.1 58 j = if j = k then 0 else S 3 j
      rw [hs, h3]
      by_cases e : j = k
      · rw [if_neg (by omega), if_pos ⟨rfl, e⟩, if_pos e]
      · rw [if_neg e]; (repeat rw [if_neg (by omega)]); exact f3 j hj
    · show σ'.1 59 j = if j = k then 0 else S 4 j
      rw [hs, h3]
      by_cases e : j = k
      · rw [if_pos ⟨rfl, e⟩, if_pos e]
      · rw [if_neg e]; (repeat rw [if_neg (by omega)]); exact f4 j hj
    · show σ'.1 60 j = if j = 7 then zdw (S 5 7) else S 5 j
      rw [hs, h3]
      by_cases e : j = 7
      · rw [if_pos e, if_pos (show (60 : Nat) = 60 ∧ j = 7 from ⟨rfl, e⟩)]; (repeat rw [if_neg (by omega)])
      · rw [if_neg e]; (repeat rw [if_neg (by omega)]); exact f5 j hj
    · show σ'.1 61 j = S 6 j; rw [hs, h3]; (repeat rw [if_neg (by omega)]); exact f6 j hj
    · show σ'.1 62 j = if j = 0 then S 7 0 + S 2 k else if j = 1 then S 7 1 + S 4 k else S 7 j
      rw [hs, h3]
      rcases (show j = 0 ∨ j = 1 ∨ j = 2 by omega) with rfl | rfl | rfl
      · simp
      · simp
      · simp; exact f7 2 (by omega)
    · rw [hs, h3]; (repeat rw [if_neg (by omega)])
theorem i_send (hp : p = nI k) (hk : k < 6) (hS : SR σ S) (hok : OKS S) (hh : 0 ≤ hr.toInt) (hz : zH (S 0 0) p) (hw : S 1 k = 0) (h : ∀ σ' : zST, SR σ' (zGo S k sd hr) → (∀ a j, a < 55 ∨ 62 < a → σ'.1 a j = σ.1 a j) → P σ') : wp_X6_send 55 p sd hr σ P := by
  have hv : vp_in p 6 := by rw [hp]; exact vp_in_nI hk (by omega)
  have hc : p.toNatClampNeg = k := by rw [hp]; exact nI_clamp (by omega)
  have hpi : p.toInt = k := by rw [hp]; exact nI_toInt (by omega)
  have f0 : σ.1 55 0 = S 0 0 := hS 0 0 (by decide)
  have f1 : ∀ j, j < 6 → σ.1 56 j = S 1 j := fun j hj => hS 1 j hj
  have hmen : 1 ≤ (S 2 k).toInt := hok.2 k hk (by rw [← hp]; exact hz) hw
  unfold wp_X6_send wp_X6_moored
  refine i_has f0 (fun _ _ _ => ⟨?_, ?_⟩) (fun y => absurd ⟨by omega, by omega, hz⟩ y)
  · rw [if_neg (by decide)]; exact ⟨hv, trivial⟩
  · rintro _ rfl
    rw [if_neg (by decide), if_pos (show σ.1 (55 + 1) p.toNatClampNeg = 0 by rw [hc]; exact (f1 k hk).trans hw)]
    refine ⟨zB1, zi1 ⟨hv, ?_⟩⟩
    unfold zGo at h
    by_cases c0 : sd = 0
    · rw [if_pos c0] at h ⊢
      rintro _ rfl
      exact i_sendT hp hk hS hmen h
    · rw [if_neg c0] at h ⊢
      by_cases c1 : sd = 1
      · rw [if_pos c1] at h ⊢
        rintro _ rfl
        exact i_sendW hp hk hS hok hh h
      · rw [if_neg c1] at h ⊢
        rintro σ7 e7
        have h7 : ∀ a j, σ7.1 a j = if a = 56 ∧ j = k then 1 else σ.1 a j := by
          intro a j
          rw [e7, hc]
          rfl
        refine i_fare hv ?_
        rw [hc]
        have q1 : qF σ7 55 k = S 5 2 * S 5 3 * S 2 k := by
          show σ7.1 60 2 * σ7.1 60 3 * σ7.1 57 k = _
          rw [h7 60 2, h7 60 3, h7 57 k]
          (repeat rw [if_neg (by omega)])
          rw [show σ.1 60 2 = S 5 2 from hS 5 2 (by decide), show σ.1 60 3 = S 5 3 from hS 5 3 (by decide), show σ.1 57 k = S 2 k from hS 2 k hk]
        have q2 : σ7.1 62 2 = S 7 2 := by rw [h7]; (repeat rw [if_neg (by omega)]); exact hS 7 2 (by decide)
        rw [q1, show σ7.1 (55 + 7) (2 : Int32).toNatClampNeg = S 7 2 from q2]
        have h8 : ∀ a j, (wI σ7 (55 + 7) (2 : Int32).toNatClampNeg (S 7 2 + S 5 2 * S 5 3 * S 2 k)).1 a j = if a = 62 ∧ j = 2 then S 7 2 + S 5 2 * S 5 3 * S 2 k else if a = 56 ∧ j = k then 1 else σ.1 a j := by
          intro a j
          rw [wI_at, h7]
          rfl
        refine h _ (SR_of ?_ ?_ (fun j hj => ?_) (fun j hj => ?_) (fun j hj => ?_) (fun j hj => ?_) (fun j hj => ?_) (fun j hj => ?_) (fun j hj => ?_)) (fun a j ha => ?_)
        · rw [h8]; (repeat rw [if_neg (by omega)]); exact f0
        · rw [h8]; (repeat rw [if_neg (by omega)]); exact hS 0 1 (by decide)
        · rw [h8]
          show _ = if j = k then 1 else S 1 j
          by_cases e : j = k
          · rw [if_neg (by omega), if_pos ⟨rfl, e⟩, if_pos e]
          · rw [if_neg (by omega), if_neg (by omega), if_neg e]; exact f1 j hj
        · rw [h8]; (repeat rw [if_neg (by omega)]); exact hS 2 j hj
        · rw [h8]; (repeat rw [if_neg (by omega)]); exact hS 3 j hj
        · rw [h8]; (repeat rw [if_neg (by omega)]); exact hS 4 j hj
        · rw [h8]; (repeat rw [if_neg (by omega)]); exact hS 5 j hj
        · rw [h8]; (repeat rw [if_neg (by omega)]); exact hS 6 j hj
        · rw [h8]
          show _ = if j = 2 then S 7 2 + S 5 2 * S 5 3 * S 2 k else S 7 j
          by_cases e : j = 2
          · rw [if_pos ⟨rfl, e⟩, if_pos e]
          · rw [if_neg (by omega), if_neg (by omega), if_neg e]; exact hS 7 j hj
        · rw [h8]; (repeat rw [if_neg (by omega)])
/-! the reference's -/
theorem zTr {T st mn : Int32} (hs : (T - st).toInt = T.toInt - st.toInt) : (if mn ≤ (if T ≤ st then (0 : Int32) else T - st) then mn else (if T ≤ st then (0 : Int32) else T - st)) = if (if (0 : Int32) < T - st then T - st else 0) < mn then (if (0 : Int32) < T - st then T - st else 0) else mn := by
  have hz : (if T ≤ st then (0 : Int32) else T - st) = if (0 : Int32) < T - st then T - st else 0 := by
    by_cases c : T ≤ st
    · rw [if_pos c, if_neg]
      rw [Int32.lt_iff_toInt_lt, hs]
      rw [Int32.le_iff_toInt_le] at c
      show ¬ 0 < _
      omega
    · rw [if_neg c, if_pos]
      rw [Int32.lt_iff_toInt_lt, hs]
      rw [Int32.le_iff_toInt_le] at c
      show 0 < _
      omega
  rw [hz]
  by_cases c : (if (0 : Int32) < T - st then T - st else 0) < mn
  · rw [if_pos c, if_neg (by rw [Int32.not_le]; exact c)]
  · rw [if_neg c, if_pos (Int32.not_lt.mp c)]
theorem zSr {T st : Int32} (hs : (st - T).toInt = st.toInt - T.toInt) : (if st ≤ T then (0 : Int32) else st - T) = if (0 : Int32) < st - T then st - T else 0 := by
  by_cases c : st ≤ T
  · rw [if_pos c, if_neg]
    rw [Int32.lt_iff_toInt_lt, hs]
    rw [Int32.le_iff_toInt_le] at c
    show ¬ 0 < _
    omega
  · rw [if_neg c, if_pos]
    rw [Int32.lt_iff_toInt_lt, hs]
    rw [Int32.le_iff_toInt_le] at c
    show 0 < _
    omega
theorem OKS_t (hok : OKS S) (hk : k < 6) : (1 ≤ (S 5 0).toInt ∧ (S 5 0).toInt ≤ 9) ∧ (0 ≤ (S 3 k).toInt ∧ (S 3 k).toInt ≤ 9) ∧ (0 ≤ (S 2 k).toInt ∧ (S 2 k).toInt ≤ 30) ∧ (0 ≤ (S 4 k).toInt ∧ (S 4 k).toInt ≤ 999) ∧ (0 ≤ (S 5 7).toInt ∧ (S 5 7).toInt ≤ 65536) ∧ (1 ≤ (S 0 1).toInt ∧ (S 0 1).toInt ≤ 24) :=
  ⟨hok.1 5 0 (by decide), hok.1 3 k hk, hok.1 2 k hk, hok.1 4 k hk, hok.1 5 7 (by decide), hok.1 0 1 (by decide)⟩
theorem zTt_b (hok : OKS S) (hk : k < 6) : 0 ≤ (zTt S k).toInt ∧ (zTt S k).toInt ≤ (S 2 k).toInt ∧ (1 ≤ (S 2 k).toInt → S 2 k - zTt S k = 0 → S 3 k ≤ S 5 0) := by
  obtain ⟨t1, t2, t3, -, -, -⟩ := OKS_t hok hk
  have hs : (S 5 0 - S 3 k).toInt = (S 5 0).toInt - (S 3 k).toInt := fb_subI (by omega) (by omega)
  unfold zTt
  by_cases c2 : (0 : Int32) < S 5 0 - S 3 k
  · rw [if_pos c2]
    have c3 : 0 < (S 5 0 - S 3 k).toInt := Int32.lt_iff_toInt_lt.mp c2
    have c9 : S 3 k ≤ S 5 0 := by rw [Int32.le_iff_toInt_le]; omega
    by_cases c : S 5 0 - S 3 k < S 2 k
    · rw [if_pos c]
      rw [Int32.lt_iff_toInt_lt] at c
      exact ⟨by omega, by omega, fun _ _ => c9⟩
    · rw [if_neg c]
      exact ⟨by omega, by omega, fun _ _ => c9⟩
  · rw [if_neg c2]
    by_cases c : (0 : Int32) < S 2 k
    · rw [if_pos c]
      refine ⟨by decide, t3.1, fun _ q => ?_⟩
      rw [Int32.sub_zero] at q
      rw [q] at c
      exact absurd c (by decide)
    · rw [if_neg c]
      refine ⟨by omega, by omega, fun q _ => ?_⟩
      rw [Int32.lt_iff_toInt_lt] at c
      have c' : ¬ 0 < (S 2 k).toInt := c
      omega
theorem i_lostN (hp : p = nI k) (hk : k < 6) (hS : NR σ S) (hok : OKS S) (h : Q (zTt S k)) : wp_X9_lostByTeeth p σ Q := by
  have hv : vp_in p 6 := by rw [hp]; exact vp_in_nI hk (by omega)
  have hc : p.toNatClampNeg = k := by rw [hp]; exact nI_clamp (by omega)
  obtain ⟨t1, t2, t3, -, -, -⟩ := OKS_t hok hk
  have hs : (S 5 0 - S 3 k).toInt = (S 5 0).toInt - (S 3 k).toInt := fb_subI (by omega) (by omega)
  have e1 : σ.1 69 5 = S 5 0 := hS 5 0 (by decide)
  have e2 : σ.1 71 k = S 3 k := hS 3 k hk
  have e3 : σ.1 70 k = S 2 k := hS 2 k hk
  unfold wp_X9_lostByTeeth
  rw [hc, e1, e2, e3]
  refine ⟨hv, ?_, fun z hz => ⟨hv, ?_, fun w hw => ?_⟩⟩
  · split
    · trivial
    · exact ⟨hv, trivial⟩
  · split
    · exact ⟨hv, trivial⟩
    · trivial
  · subst hw hz
    rw [zTr hs]
    exact h
theorem i_goTeeth (hp : p = nI k) (hk : k < 6) (hS : NR σ S) (hok : OKS S) (hmen : 1 ≤ (S 2 k).toInt) (h : ∀ σ' : zST, NR σ' (zGt S k) → (∀ a j, ¬ (70 ≤ a ∧ a ≤ 73) → ¬ (a = 69 ∧ (j = 12 ∨ 15 ≤ j ∧ j ≤ 17)) → σ'.1 a j = σ.1 a j) → P σ') : wp_X9_goTeeth p σ P := by
  have hv : vp_in p 6 := by rw [hp]; exact vp_in_nI hk (by omega)
  have hc : p.toNatClampNeg = k := by rw [hp]; exact nI_clamp (by omega)
  obtain ⟨t1, t2, t3, t4, -, -⟩ := OKS_t hok hk
  have hs : (S 3 k - S 5 0).toInt = (S 3 k).toInt - (S 5 0).toInt := fb_subI (by omega) (by omega)
  have tb := zTt_b hok hk
  have e1 : σ.1 69 5 = S 5 0 := hS 5 0 (by decide)
  have e2 : σ.1 71 k = S 3 k := hS 3 k hk
  have e3 : σ.1 70 k = S 2 k := hS 2 k hk
  have e4 : σ.1 72 k = S 4 k := hS 4 k hk
  have e7 : σ.1 69 15 = S 7 0 := hS 7 0 (by decide)
  have e8 : σ.1 69 16 = S 7 1 := hS 7 1 (by decide)
  unfold wp_X9_goTeeth
  refine i_lostN hp hk hS hok ?_
  rw [hc]
  refine ⟨hv, ?_, ?_⟩
  · split
    · trivial
    · exact ⟨hv, trivial⟩
  rintro _ rfl
  refine ⟨hv, hv, ?_⟩
  rintro _ rfl
  refine ⟨hv, ?_⟩
  rintro _ rfl
  refine ⟨hv, ?_⟩
  rintro σ15 e15
  have h15 : ∀ a j, σ15.1 a j = if a = 69 ∧ j = 15 then S 7 0 + zTt S k else if a = 70 ∧ j = k then S 2 k - zTt S k else if a = 71 ∧ j = k then (if S 3 k ≤ S 5 0 then 0 else S 3 k - S 5 0) else σ.1 a j := by
    intro a j
    rw [e15, ← e7, ← e3, ← e2, ← e1]
    rfl
  have m15 : σ15.1 70 k = S 2 k - zTt S k := by rw [h15, if_neg (by omega), if_pos ⟨rfl, rfl⟩]
  rw [m15]
  rintro _ rfl
  refine ⟨hv, ?_⟩
  rintro σ21 e21
  have h21 : ∀ a j, σ21.1 a j = if a = 73 ∧ j = k then (if S 2 k - zTt S k = 0 then 2 else 1) else σ15.1 a j := fun a j => by rw [e21]; rfl
  have m21 : σ21.1 70 k = S 2 k - zTt S k := by rw [h21, if_neg (by omega)]; exact m15
  have c21 : σ21.1 72 k = S 4 k := by rw [h21, if_neg (by omega), h15]; (repeat rw [if_neg (by omega)]); exact e4
  have s21 : σ21.1 69 16 = S 7 1 := by rw [h21, if_neg (by omega), h15]; (repeat rw [if_neg (by omega)]); exact e8
  rw [m21, c21, s21]
  refine ⟨hv, ?_, ?_⟩
  · split
    · exact ⟨hv, trivial⟩
    · trivial
  rintro _ rfl
  refine ⟨hv, ?_⟩
  rintro σ29 e29
  have h29 : ∀ a j, σ29.1 a j = if a = 69 ∧ j = 16 then (S 7 1 + if S 2 k - zTt S k = 0 then S 4 k else 0) else σ21.1 a j := fun a j => by rw [e29]; rfl
  have m29 : σ29.1 70 k = S 2 k - zTt S k := by rw [h29, if_neg (by omega)]; exact m21
  have c29 : σ29.1 72 k = S 4 k := by rw [h29, if_neg (by omega)]; exact c21
  rw [m29, c29]
  refine ⟨?_, ?_⟩
  · split
    · trivial
    · exact ⟨hv, trivial⟩
  rintro _ rfl
  refine ⟨hv, ?_⟩
  have hf : ∀ a j, (wI σ29 72 k (if S 2 k - zTt S k = 0 then 0 else S 4 k)).1 a j = if a = 72 ∧ j = k then (if S 2 k - zTt S k = 0 then 0 else S 4 k) else if a = 69 ∧ j = 16 then (S 7 1 + if S 2 k - zTt S k = 0 then S 4 k else 0) else if a = 73 ∧ j = k then (if S 2 k - zTt S k = 0 then 2 else 1) else if a = 69 ∧ j = 15 then S 7 0 + zTt S k else if a = 70 ∧ j = k then S 2 k - zTt S k else if a = 71 ∧ j = k then (if S 3 k ≤ S 5 0 then 0 else S 3 k - S 5 0) else σ.1 a j := by
    intro a j
    rw [wI_at, h29, h21, h15]
  generalize wI σ29 72 k (if S 2 k - zTt S k = 0 then 0 else S 4 k) = σ' at hf ⊢
  refine h σ' (NR_of ?_ ?_ (fun j hj => ?_) (fun j hj => ?_) (fun j hj => ?_) (fun j hj => ?_) (fun j hj => ?_) (fun j hj => ?_) (fun j hj => ?_)) (fun a j ha hb => ?_)
  · rw [hf]; (repeat rw [if_neg (by omega)]); exact hS 0 0 (by decide)
  · rw [hf]; (repeat rw [if_neg (by omega)]); exact hS 0 1 (by decide)
  · show _ = if j = k then (if S 2 k - zTt S k = 0 then 2 else 1) else S 1 j
    rw [hf]
    by_cases e : j = k
    · rw [if_neg (by omega), if_neg (by omega), if_pos ⟨rfl, e⟩, if_pos e]
    · rw [if_neg (show ¬ (73 = 72 ∧ j = k) by omega), if_neg (show ¬ (73 = 69 ∧ j = 16) by omega), if_neg (show ¬ (73 = 73 ∧ j = k) by omega), if_neg (show ¬ (73 = 69 ∧ j = 15) by omega), if_neg (show ¬ (73 = 70 ∧ j = k) by omega), if_neg (show ¬ (73 = 71 ∧ j = k) by omega), if_neg e]; exact hS 1 j hj
  · show _ = if j = k then S 2 k - zTt S k else S 2 j
    rw [hf]
    by_cases e : j = k
    · rw [if_neg (by omega), if_neg (by omega), if_neg (by omega), if_neg (by omega), if_pos ⟨rfl, e⟩, if_pos e]
    · rw [if_neg e]; (repeat rw [if_neg (by omega)]); exact hS 2 j hj
  · show _ = if j = k then (if S 2 k - zTt S k = 0 then 0 else if (0 : Int32) < S 3 k - S 5 0 then S 3 k - S 5 0 else 0) else S 3 j
    rw [hf]
    by_cases e : j = k
    · rw [if_neg (by omega), if_neg (by omega), if_neg (by omega), if_neg (by omega), if_neg (by omega), if_pos ⟨rfl, e⟩, if_pos e]
      by_cases c : S 2 k - zTt S k = 0
      · rw [if_pos c, if_pos (tb.2.2 hmen c)]
      · rw [if_neg c]
        exact zSr hs
    · rw [if_neg e]; (repeat rw [if_neg (by omega)]); exact hS 3 j hj
  · show _ = if j = k then (if S 2 k - zTt S k = 0 then 0 else S 4 k) else S 4 j
    rw [hf]
    by_cases e : j = k
    · rw [if_pos ⟨rfl, e⟩, if_pos e]
    · rw [if_neg e]; (repeat rw [if_neg (by omega)]); exact hS 4 j hj
  · rw [hf]; (repeat rw [if_neg (by omega)]); exact hS 5 j hj
  · rw [hf]; (repeat rw [if_neg (by omega)]); exact hS 6 j hj
  · show _ = if j = 0 then S 7 0 + zTt S k else if j = 1 then (if S 2 k - zTt S k = 0 then S 7 1 + S 4 k else S 7 1) else S 7 j
    rw [hf]
    rcases (show j = 0 ∨ j = 1 ∨ j = 2 by omega) with rfl | rfl | rfl
    · simp
    · by_cases c : S 2 k - zTt S k = 0
      · simp [c]
      · simp [c]
    · simp; exact hS 7 2 (by decide)
  · rw [hf]; (repeat rw [if_neg (by omega)])
end S
end
section
section S
variable {σ : zST} {S : zSea} {p sd hr sg : Int32} {k : Nat} {P : zST → Prop} {Q : Int32 → Prop}
theorem zdw_b (hok : OKS S) : ∃ n : Nat, n ≤ 65536 ∧ S 5 7 = nI n ∧ zdw (S 5 7) = nI ((75 * n + 74) % 65537) := by
  have e := hok.1 5 7 (by decide)
  obtain ⟨n, hn, en, -⟩ := zN (h := 65536) (show 0 ≤ (S 5 7).toInt from e.1) (show (S 5 7).toInt ≤ 65536 from e.2)
  exact ⟨n, hn, en, by rw [en]; exact zdrN hn⟩
theorem i_tenN (hS : NR σ S) (hok : OKS S) (hh : 0 ≤ hr.toInt) (h : Q (S 6 (zmo hr (S 0 1)).toNatClampNeg)) : wp_X9_tenths hr σ Q := by
  have e1 : σ.1 69 14 = S 0 1 := hS 0 1 (by decide)
  have ed := hok.1 0 1 (by decide)
  have ed1 : 1 ≤ (S 0 1).toInt := ed.1
  have ed2 : (S 0 1).toInt ≤ 24 := ed.2
  have := zmodb (d := S 0 1) hh ed1
  unfold wp_X9_tenths
  rw [e1]
  refine ⟨fun q => ?_, zv this.1 (Int.lt_of_lt_of_le this.2.1 (by omega)), ?_⟩
  · rw [q] at ed1; exact absurd ed1 (by decide)
  · rw [show σ.1 74 (hr - hr / S 0 1 * S 0 1).toNatClampNeg = S 6 (zmo hr (S 0 1)).toNatClampNeg from hS 6 _ (zdig hok hh)]
    exact h
theorem i_goWhirl (hp : p = nI k) (hk : k < 6) (hS : NR σ S) (hok : OKS S) (hh : 0 ≤ hr.toInt) (h : ∀ σ' : zST, NR σ' (if S 6 (zmo hr (S 0 1)).toNatClampNeg ≤ zdw (S 5 7) - zdw (S 5 7) / 10 * 10 then zGw S k else zGl S k) → (∀ a j, ¬ (70 ≤ a ∧ a ≤ 73) → ¬ (a = 69 ∧ (j = 12 ∨ 15 ≤ j ∧ j ≤ 17)) → σ'.1 a j = σ.1 a j) → P σ') : wp_X9_goWhirl p hr σ P := by
  have hv : vp_in p 6 := by rw [hp]; exact vp_in_nI hk (by omega)
  have hc : p.toNatClampNeg = k := by rw [hp]; exact nI_clamp (by omega)
  obtain ⟨n, hn, en, ew⟩ := zdw_b hok
  have e12 : σ.1 69 12 = S 5 7 := hS 5 7 (by decide)
  unfold wp_X9_goWhirl
  intro σ1 e1
  have h1 : ∀ a j, σ1.1 a j = if a = 69 ∧ j = 12 then zdw (S 5 7) else σ.1 a j := by
    intro a j
    rw [e1, e12, en, zdrL hn, ← en, ew]
    rfl
  have x1 : σ1.1 69 12 = zdw (S 5 7) := by rw [h1, if_pos ⟨rfl, rfl⟩]
  have hS1 : NR σ1 (fun r j => if r = 5 ∧ j = 7 then zdw (S 5 7) else S r j) := by
    refine NR_of ?_ ?_ (fun j hj => ?_) (fun j hj => ?_) (fun j hj => ?_) (fun j hj => ?_) (fun j hj => ?_) (fun j hj => ?_) (fun j hj => ?_)
    · rw [h1]; (repeat rw [if_neg (by omega)]); exact hS 0 0 (by decide)
    · rw [h1]; (repeat rw [if_neg (by omega)]); exact hS 0 1 (by decide)
    · rw [h1]; (repeat rw [if_neg (by omega)]); exact hS 1 j hj
    · rw [h1]; (repeat rw [if_neg (by omega)]); exact hS 2 j hj
    · rw [h1]; (repeat rw [if_neg (by omega)]); exact hS 3 j hj
    · rw [h1]; (repeat rw [if_neg (by omega)]); exact hS 4 j hj
    · rw [h1]
      by_cases e : j = 7
      · rw [if_pos (by omega), if_pos ⟨rfl, e⟩]
      · rw [if_neg (by omega), if_neg (by omega)]; exact hS 5 j hj
    · rw [h1]; (repeat rw [if_neg (by omega)]); exact hS 6 j hj
    · rw [h1]; (repeat rw [if_neg (by omega)]); exact hS 7 j hj
  have hok1 : OKS (fun r j => if r = 5 ∧ j = 7 then zdw (S 5 7) else S r j) := by
    refine ⟨fun r j hj => ?_, fun j hj => hok.2 j hj⟩
    dsimp only
    by_cases e : r = 5 ∧ j = 7
    · rw [if_pos e, e.1, e.2, ew]
      have := zdr_lt n
      rw [nI_toInt (by omega)]
      exact ⟨by show (0 : Int) ≤ _; omega, by show _ ≤ (65536 : Int); omega⟩
    · rw [if_neg e]; exact hok.1 r j hj
  refine i_tenN hS1 hok1 hh ?_
  try simp (decide := true) only [false_and, if_false]
  rw [x1]
  rintro _ rfl _ rfl
  rw [hc]
  refine ⟨hv, ?_⟩
  by_cases cc : S 6 (zmo hr (S 0 1)).toNatClampNeg ≤ zdw (S 5 7) - zdw (S 5 7) / 10 * 10
  · rw [if_pos cc] at h ⊢
    rw [if_pos rfl]
    have hf : ∀ a j, (wI σ1 73 k 1).1 a j = if a = 73 ∧ j = k then 1 else if a = 69 ∧ j = 12 then zdw (S 5 7) else σ.1 a j := fun a j => by rw [wI_at, h1]
    rw [if_pos rfl]
    generalize wI σ1 73 k 1 = σ' at hf ⊢
    refine h σ' (NR_of ?_ ?_ (fun j hj => ?_) (fun j hj => ?_) (fun j hj => ?_) (fun j hj => ?_) (fun j hj => ?_) (fun j hj => ?_) (fun j hj => ?_)) (fun a j ha hb => ?_)
    · rw [hf]; (repeat rw [if_neg (by omega)]); exact hS 0 0 (by decide)
    · rw [hf]; (repeat rw [if_neg (by omega)]); exact hS 0 1 (by decide)
    · show _ = if j = k then 1 else S 1 j
      rw [hf]
      by_cases e : j = k
      · rw [if_pos ⟨rfl, e⟩, if_pos e]
      · rw [if_neg e, if_neg (by omega), if_neg (by omega)]; exact hS 1 j hj
    · rw [hf]; (repeat rw [if_neg (by omega)]); exact hS 2 j hj
    · rw [hf]; (repeat rw [if_neg (by omega)]); exact hS 3 j hj
    · rw [hf]; (repeat rw [if_neg (by omega)]); exact hS 4 j hj
    · show _ = if j = 7 then zdw (S 5 7) else S 5 j
      rw [hf]
      by_cases e : j = 7
      · rw [if_neg (by omega), if_pos (by omega), if_pos e]
      · rw [if_neg e, if_neg (by omega), if_neg (by omega)]; exact hS 5 j hj
    · rw [hf]; (repeat rw [if_neg (by omega)]); exact hS 6 j hj
    · rw [hf]; (repeat rw [if_neg (by omega)]); exact hS 7 j hj
    · rw [hf]; (repeat rw [if_neg (by omega)])
  · rw [if_neg cc] at h ⊢
    rw [if_neg (by decide), if_neg (by decide)]
    intro σ14 e14
    have h14 : ∀ a j, σ14.1 a j = if a = 73 ∧ j = k then 2 else if a = 69 ∧ j = 12 then zdw (S 5 7) else σ.1 a j := fun a j => by rw [e14, wI_at, h1]
    have m1 : σ14.1 70 k = S 2 k := by rw [h14]; (repeat rw [if_neg (by omega)]); exact hS 2 k hk
    have m2 : σ14.1 69 15 = S 7 0 := by rw [h14]; (repeat rw [if_neg (by omega)]); exact hS 7 0 (by decide)
    refine ⟨hv, ?_⟩
    rw [m1, m2]
    intro σ16 e16
    have h16 : ∀ a j, σ16.1 a j = if a = 69 ∧ j = 15 then S 7 0 + S 2 k else σ14.1 a j := fun a j => by rw [e16, wI_at]
    have m3 : σ16.1 72 k = S 4 k := by rw [h16, if_neg (by omega), h14]; (repeat rw [if_neg (by omega)]); exact hS 4 k hk
    have m4 : σ16.1 69 16 = S 7 1 := by rw [h16, if_neg (by omega), h14]; (repeat rw [if_neg (by omega)]); exact hS 7 1 (by decide)
    rw [m3, m4]
    refine ⟨hv, hv, hv, hv, ?_⟩
    have hf : ∀ a j, (wI (wI (wI (wI σ16 69 16 (S 7 1 + S 4 k)) 70 k 0) 71 k 0) 72 k 0).1 a j = if a = 72 ∧ j = k then 0 else if a = 71 ∧ j = k then 0 else if a = 70 ∧ j = k then 0 else if a = 69 ∧ j = 16 then S 7 1 + S 4 k else if a = 69 ∧ j = 15 then S 7 0 + S 2 k else if a = 73 ∧ j = k then 2 else if a = 69 ∧ j = 12 then zdw (S 5 7) else σ.1 a j := fun a j => by rw [wI_at, wI_at, wI_at, wI_at, h16, h14]
    generalize wI (wI (wI (wI σ16 69 16 (S 7 1 + S 4 k)) 70 k 0) 71 k 0) 72 k 0 = σ' at hf ⊢
    refine h σ' (NR_of ?_ ?_ (fun j hj => ?_) (fun j hj => ?_) (fun j hj => ?_) (fun j hj => ?_) (fun j hj => ?_) (fun j hj => ?_) (fun j hj => ?_)) (fun a j ha hb => ?_)
    · rw [hf]; (repeat rw [if_neg (by omega)]); exact hS 0 0 (by decide)
    · rw [hf]; (repeat rw [if_neg (by omega)]); exact hS 0 1 (by decide)
    · show _ = if j = k then 2 else S 1 j
      rw [hf]
      by_cases e : j = k
      · rw [if_neg (by omega), if_neg (by omega), if_neg (by omega), if_neg (by omega), if_neg (by omega), if_pos ⟨rfl, e⟩, if_pos e]
      · rw [if_neg e]; (repeat rw [if_neg (by omega)]); exact hS 1 j hj
    · show _ = if j = k then 0 else S 2 j
      rw [hf]
      by_cases e : j = k
      · rw [if_neg (by omega), if_neg (by omega), if_pos ⟨rfl, e⟩, if_pos e]
      · rw [if_neg e]; (repeat rw [if_neg (by omega)]); exact hS 2 j hj
    · show _ = if j = k then 0 else S 3 j
      rw [hf]
      by_cases e : j = k
      · rw [if_neg (by omega), if_pos ⟨rfl, e⟩, if_pos e]
      · rw [if_neg e]; (repeat rw [if_neg (by omega)]); exact hS 3 j hj
    · show _ = if j = k then 0 else S 4 j
      rw [hf]
      by_cases e : j = k
      · rw [if_pos ⟨rfl, e⟩, if_pos e]
      · rw [if_neg e]; (repeat rw [if_neg (by omega)]); exact hS 4 j hj
    · show _ = if j = 7 then zdw (S 5 7) else S 5 j
      rw [hf]
      by_cases e : j = 7
      · rw [if_neg (by omega), if_neg (by omega), if_neg (by omega), if_neg (by omega), if_neg (by omega), if_neg (by omega), if_pos (by omega), if_pos e]
      · rw [if_neg e]; (repeat rw [if_neg (by omega)]); exact hS 5 j hj
    · rw [hf]; (repeat rw [if_neg (by omega)]); exact hS 6 j hj
    · show _ = if j = 0 then S 7 0 + S 2 k else if j = 1 then S 7 1 + S 4 k else S 7 j
      rw [hf]
      rcases (show j = 0 ∨ j = 1 ∨ j = 2 by omega) with rfl | rfl | rfl
      · simp
      · simp
      · simp; exact hS 7 2 (by decide)
    · rw [hf]; (repeat rw [if_neg (by omega)])
theorem i_goCape (hp : p = nI k) (hk : k < 6) (hS : NR σ S) (h : ∀ σ' : zST, NR σ' (zGc S k) → (∀ a j, ¬ (70 ≤ a ∧ a ≤ 73) → ¬ (a = 69 ∧ (j = 12 ∨ 15 ≤ j ∧ j ≤ 17)) → σ'.1 a j = σ.1 a j) → P σ') : wp_X9_goCape p σ P := by
  have hv : vp_in p 6 := by rw [hp]; exact vp_in_nI hk (by omega)
  have hc : p.toNatClampNeg = k := by rw [hp]; exact nI_clamp (by omega)
  refine ⟨hv, hv, ?_⟩
  rw [hc, show σ.1 69 17 = S 7 2 from hS 7 2 (by decide), show σ.1 69 7 = S 5 2 from hS 5 2 (by decide), show σ.1 69 8 = S 5 3 from hS 5 3 (by decide), show σ.1 70 k = S 2 k from hS 2 k hk]
  have hf : ∀ a j, (wI (wI σ 69 17 (S 7 2 + S 5 2 * S 5 3 * S 2 k)) 73 k 1).1 a j = if a = 73 ∧ j = k then 1 else if a = 69 ∧ j = 17 then S 7 2 + S 5 2 * S 5 3 * S 2 k else σ.1 a j := fun a j => rfl
  generalize wI (wI σ 69 17 (S 7 2 + S 5 2 * S 5 3 * S 2 k)) 73 k 1 = σ' at hf ⊢
  refine h σ' (NR_of ?_ ?_ (fun j hj => ?_) (fun j hj => ?_) (fun j hj => ?_) (fun j hj => ?_) (fun j hj => ?_) (fun j hj => ?_) (fun j hj => ?_)) (fun a j ha hb => ?_)
  · rw [hf]; (repeat rw [if_neg (by omega)]); exact hS 0 0 (by decide)
  · rw [hf]; (repeat rw [if_neg (by omega)]); exact hS 0 1 (by decide)
  · show _ = if j = k then 1 else S 1 j
    rw [hf]
    by_cases e : j = k
    · rw [if_pos ⟨rfl, e⟩, if_pos e]
    · rw [if_neg e, if_neg (by omega), if_neg (by omega)]; exact hS 1 j hj
  · rw [hf]; (repeat rw [if_neg (by omega)]); exact hS 2 j hj
  · rw [hf]; (repeat rw [if_neg (by omega)]); exact hS 3 j hj
  · rw [hf]; (repeat rw [if_neg (by omega)]); exact hS 4 j hj
  · rw [hf]; (repeat rw [if_neg (by omega)]); exact hS 5 j hj
  · rw [hf]; (repeat rw [if_neg (by omega)]); exact hS 6 j hj
  · show _ = if j = 2 then S 7 2 + S 5 2 * S 5 3 * S 2 k else S 7 j
    rw [hf]
    by_cases e : j = 2
    · rw [if_neg (by omega), if_pos (by omega), if_pos e]
    · rw [if_neg e, if_neg (by omega), if_neg (by omega)]; exact hS 7 j hj
  · rw [hf]; (repeat rw [if_neg (by omega)])
/-- which side a sign tells -/
def zsd (x : Int32) : Int32 := if x = 67 then 2 else if x = 84 then 0 else if x = 87 then 1 else -6
def zwhy (S : zSea) (p : Int32) : Int32 := if zH (S 0 0) p then (if S 1 p.toNatClampNeg = 0 then -6 else 2) else 1
theorem i_whyNot (hp : p = nI k) (hk : k < 6) (hS : SR σ S) (h : Q (zwhy S p)) : wp_X6_whyNot 55 p σ Q := by
  have hv : vp_in p 6 := by rw [hp]; exact vp_in_nI hk (by omega)
  have hc : p.toNatClampNeg = k := by rw [hp]; exact nI_clamp (by omega)
  have hpi : p.toInt = k := by rw [hp]; exact nI_toInt (by omega)
  have f0 : σ.1 55 0 = S 0 0 := hS 0 0 (by decide)
  unfold zwhy at h
  unfold wp_X6_whyNot
  refine t_has f0 (fun x1 x2 x3 => ?_) (fun y => ?_)
  · rw [if_pos x3] at h
    refine i_has f0 (fun _ _ _ => ⟨?_, ?_⟩) (fun y => absurd ⟨x1, x2, x3⟩ y)
    · rw [if_neg (by decide)]; exact ⟨hv, trivial⟩
    · rintro _ rfl
      rw [if_neg (by decide), show σ.1 (55 + 1) p.toNatClampNeg = S 1 p.toNatClampNeg from by rw [hc]; exact hS 1 k hk]
      by_cases c : S 1 p.toNatClampNeg = 0
      · rw [if_pos c] at h ⊢
        refine ⟨zB1, ?_⟩
        rintro _ rfl
        exact h
      · rw [if_neg c] at h ⊢
        refine ⟨zB0, ?_⟩
        rintro _ rfl
        exact h
  · rw [if_neg (fun q => y ⟨by omega, by omega, q⟩)] at h
    exact h
theorem i_order (hp : p = nI k) (hk : k < 6) (hS : NR σ S) (hok : OKS S) (hh : 0 ≤ hr.toInt) (hsg : sg = 67 ∨ sg = 84 ∨ sg = 87)
    (h1 : zwhy S p = -6 → ∀ σ' : zST, NR σ' (zGo S k (zsd sg) hr) → σ'.1 69 30 = -6 → (∀ a j, ¬ (70 ≤ a ∧ a ≤ 73) → ¬ (a = 69 ∧ (j = 12 ∨ 15 ≤ j ∧ j ≤ 17 ∨ j = 30)) → σ'.1 a j = σ.1 a j) → P σ')
    (h2 : zwhy S p ≠ -6 → ∀ σ' : zST, NR σ' S → σ'.1 69 30 = zwhy S p → σ'.1 69 29 = σ.1 69 31 → (∀ a j, ¬ (a = 69 ∧ (j = 29 ∨ j = 30)) → σ'.1 a j = σ.1 a j) → P σ') : wp_X9_order p sg hr σ P := by
  have hv : vp_in p 6 := by rw [hp]; exact vp_in_nI hk (by omega)
  have hc : p.toNatClampNeg = k := by rw [hp]; exact nI_clamp (by omega)
  have hpi : p.toInt = k := by rw [hp]; exact nI_toInt (by omega)
  have f0 : σ.1 69 0 = S 0 0 := hS 0 0 (by decide)
  have f1 : σ.1 73 p.toNatClampNeg = S 1 p.toNatClampNeg := by rw [hc]; exact hS 1 k hk
  have go : ∀ z4, z4 = zwhy S p → ∀ σ9 : zST, σ9 = (wI σ 69 30 z4) → (if (σ9.1 69 30) ≤ (0) then (if sg = (84 : Int32) then wp_X9_goTeeth p σ9 (fun σ18 => P σ18) else (if sg = (87 : Int32) then wp_X9_goWhirl p hr σ9 (fun σ16 => P σ16) else wp_X9_goCape p σ9 (fun σ14 => P σ14))) else P (wI σ9 69 29 (σ9.1 69 31))) := by
    intro z4 hz σ9 e9
    have h9 : ∀ a j, σ9.1 a j = if a = 69 ∧ j = 30 then z4 else σ.1 a j := fun a j => by rw [e9]; rfl
    have m9 : σ9.1 69 30 = z4 := by rw [h9, if_pos ⟨rfl, rfl⟩]
    have hS9 : NR σ9 S := by
      refine NR_of ?_ ?_ (fun j hj => ?_) (fun j hj => ?_) (fun j hj => ?_) (fun j hj => ?_) (fun j hj => ?_) (fun j hj => ?_) (fun j hj => ?_)
      · rw [h9, if_neg (by omega)]; exact hS 0 0 (by decide)
      · rw [h9, if_neg (by omega)]; exact hS 0 1 (by decide)
      · rw [h9, if_neg (by omega)]; exact hS 1 j hj
      · rw [h9, if_neg (by omega)]; exact hS 2 j hj
      · rw [h9, if_neg (by omega)]; exact hS 3 j hj
      · rw [h9, if_neg (by omega)]; exact hS 4 j hj
      · rw [h9, if_neg (by omega)]; exact hS 5 j hj
      · rw [h9, if_neg (by omega)]; exact hS 6 j hj
      · rw [h9, if_neg (by omega)]; exact hS 7 j hj
    rw [m9]
    by_cases c : zwhy S p = -6
    · rw [if_pos (by rw [hz, c]; decide)]
      have hzz : zH (S 0 0) p ∧ S 1 k = 0 := by
        unfold zwhy at c
        by_cases q : zH (S 0 0) p
        · rw [if_pos q] at c
          by_cases q2 : S 1 p.toNatClampNeg = 0
          · exact ⟨q, by rw [← hc]; exact q2⟩
          · rw [if_neg q2] at c; exact absurd c (by decide)
        · rw [if_neg q] at c; exact absurd c (by decide)
      have hmen : 1 ≤ (S 2 k).toInt := hok.2 k hk (by rw [← hp]; exact hzz.1) hzz.2
      have fin : ∀ σ' : zST, NR σ' (zGo S k (zsd sg) hr) → (∀ a j, ¬ (70 ≤ a ∧ a ≤ 73) → ¬ (a = 69 ∧ (j = 12 ∨ 15 ≤ j ∧ j ≤ 17)) → σ'.1 a j = σ9.1 a j) → P σ' := by
        intro σ' q1 q2
        refine h1 c σ' q1 ?_ (fun a j w1 w2 => ?_)
        · rw [q2 69 30 (by omega) (by omega), m9, hz, c]
        · rw [q2 a j w1 (by omega), h9, if_neg (by omega)]
      rcases hsg with rfl | rfl | rfl
      · rw [if_neg (by decide), if_neg (by decide)]
        exact i_goCape hp hk hS9 fin
      · rw [if_pos rfl]
        exact i_goTeeth hp hk hS9 hok hmen fin
      · rw [if_neg (by decide), if_pos rfl]
        exact i_goWhirl hp hk hS9 hok hh fin
    · rw [if_neg]
      · have m31 : σ9.1 69 31 = σ.1 69 31 := by rw [h9, if_neg (by omega)]
        rw [m31]
        have hf : ∀ a j, (wI σ9 69 29 (σ.1 69 31)).1 a j = if a = 69 ∧ j = 29 then σ.1 69 31 else σ9.1 a j := fun a j => rfl
        generalize wI σ9 69 29 (σ.1 69 31) = σ' at hf ⊢
        refine h2 c σ' ?_ ?_ ?_ (fun a j w => ?_)
        · refine NR_of ?_ ?_ (fun j hj => ?_) (fun j hj => ?_) (fun j hj => ?_) (fun j hj => ?_) (fun j hj => ?_) (fun j hj => ?_) (fun j hj => ?_)
          · rw [hf, if_neg (by omega)]; exact hS9 0 0 (by decide)
          · rw [hf, if_neg (by omega)]; exact hS9 0 1 (by decide)
          · rw [hf, if_neg (by omega)]; exact hS9 1 j hj
          · rw [hf, if_neg (by omega)]; exact hS9 2 j hj
          · rw [hf, if_neg (by omega)]; exact hS9 3 j hj
          · rw [hf, if_neg (by omega)]; exact hS9 4 j hj
          · rw [hf, if_neg (by omega)]; exact hS9 5 j hj
          · rw [hf, if_neg (by omega)]; exact hS9 6 j hj
          · rw [hf, if_neg (by omega)]; exact hS9 7 j hj
        · rw [hf, if_neg (by omega), m9, hz]
        · rw [hf, if_pos ⟨rfl, rfl⟩]
        · rw [hf, if_neg (by omega), h9, if_neg (by omega)]
      · rw [hz]
        unfold zwhy at c ⊢
        by_cases q : zH (S 0 0) p
        · rw [if_pos q] at c ⊢
          by_cases q2 : S 1 p.toNatClampNeg = 0
          · rw [if_pos q2] at c; exact absurd rfl c
          · rw [if_neg q2]; decide
        · rw [if_neg q]; decide
  unfold wp_X9_order
  refine i_isShip f0 (fun x1 x2 x3 => ⟨?_, ?_⟩) (fun y => ⟨?_, ?_⟩)
  · rw [if_neg (by decide)]; exact ⟨hv, trivial⟩
  · intro z4 hz
    refine go z4 ?_
    rw [hz, if_neg (by decide), f1]
    unfold zwhy
    rw [if_pos x3]
  · rw [if_pos rfl]; trivial
  · intro z4 hz
    refine go z4 ?_
    rw [hz, if_pos rfl]
    unfold zwhy
    rw [if_neg (fun q => y ⟨by omega, by omega, q⟩)]
end S
end
section
/-! the season's course, both sides -/
section S
variable {σ σ0 : zST} {S : zSea} {p sd hr sg : Int32} {k : Nat} {P : zST → Prop} {s : Nat → Int32} {c : Nat}
theorem sV_fr {σ σ' : zST} (h : ∀ a j, 55 ≤ a → a ≤ 62 → σ'.1 a j = σ.1 a j) (r k : Nat) : sV σ' r k = sV σ r k := by
  unfold sV
  split
  · split <;> exact h _ _ (by omega) (by omega)
  all_goals exact h _ _ (by omega) (by omega)
theorem OKS_upd {S' : zSea} (hok : OKS S) (h0 : S' 0 0 = S 0 0) (h1 : ∀ r j, j < zl r → S' r j = S r j ∨ (zLo r j ≤ (S' r j).toInt ∧ (S' r j).toInt ≤ zHi r j)) (h2 : ∀ j, j < 6 → S' 1 j = 0 → S 1 j = 0 ∧ S' 2 j = S 2 j) : OKS S' := by
  refine ⟨fun r j hj => ?_, fun j hj q1 q2 => ?_⟩
  · rcases h1 r j hj with e | e
    · rw [e]; exact hok.1 r j hj
    · exact e
  · obtain ⟨w1, w2⟩ := h2 j hj q2
    rw [w2]
    exact hok.2 j hj (by rw [← h0]; exact q1) w1
theorem OKS_go (hok : OKS S) (hk : k < 6) : OKS (zGo S k sd hr) := by
  obtain ⟨t1, t2, t3, t4, t5, t6⟩ := OKS_t hok hk
  have tb := zTt_b hok hk
  have hm : (S 2 k - zTt S k).toInt = (S 2 k).toInt - (zTt S k).toInt := fb_subI (by omega) (by omega)
  have hs : (S 3 k - S 5 0).toInt = (S 3 k).toInt - (S 5 0).toInt := fb_subI (by omega) (by omega)
  obtain ⟨n, hn, en, ew⟩ := zdw_b hok
  have hw : 0 ≤ (zdw (S 5 7)).toInt ∧ (zdw (S 5 7)).toInt ≤ 65536 := by
    have := zdr_lt n
    rw [ew, nI_toInt (by omega)]
    omega
  unfold zGo
  by_cases c0 : sd = 0
  · rw [if_pos c0]
    refine OKS_upd hok rfl (fun r j hj => ?_) (fun j hj q => ?_)
    · have hr := zl8 hj
      match r, hr with
      | 0, _ => exact Or.inl rfl
      | 1, _ =>
        by_cases e : j = k
        · right
          show 0 ≤ Int32.toInt (if j = k then (if S 2 k - zTt S k = 0 then 2 else 1) else S 1 j) ∧ Int32.toInt (if j = k then (if S 2 k - zTt S k = 0 then 2 else 1) else S 1 j) ≤ 2
          rw [if_pos e]
          split <;> decide
        · left; exact if_neg e
      | 2, _ =>
        by_cases e : j = k
        · right
          show 0 ≤ Int32.toInt (if j = k then S 2 k - zTt S k else S 2 j) ∧ Int32.toInt (if j = k then S 2 k - zTt S k else S 2 j) ≤ 30
          rw [if_pos e, hm]
          omega
        · left; exact if_neg e
      | 3, _ =>
        by_cases e : j = k
        · right
          show 0 ≤ Int32.toInt (if j = k then (if S 2 k - zTt S k = 0 then 0 else if (0 : Int32) < S 3 k - S 5 0 then S 3 k - S 5 0 else 0) else S 3 j) ∧ Int32.toInt (if j = k then (if S 2 k - zTt S k = 0 then 0 else if (0 : Int32) < S 3 k - S 5 0 then S 3 k - S 5 0 else 0) else S 3 j) ≤ 9
          rw [if_pos e]
          by_cases c1 : S 2 k - zTt S k = 0
          · rw [if_pos c1]; decide
          · rw [if_neg c1]
            by_cases c2 : (0 : Int32) < S 3 k - S 5 0
            · rw [if_pos c2]
              have c3 : 0 < (S 3 k - S 5 0).toInt := Int32.lt_iff_toInt_lt.mp c2
              omega
            · rw [if_neg c2]; decide
        · left; exact if_neg e
      | 4, _ =>
        by_cases e : j = k
        · right
          show 0 ≤ Int32.toInt (if j = k then (if S 2 k - zTt S k = 0 then 0 else S 4 k) else S 4 j) ∧ Int32.toInt (if j = k then (if S 2 k - zTt S k = 0 then 0 else S 4 k) else S 4 j) ≤ 999
          rw [if_pos e]
          by_cases c1 : S 2 k - zTt S k = 0
          · rw [if_pos c1]; decide
          · rw [if_neg c1]; omega
        · left; exact if_neg e
      | 5, _ => exact Or.inl rfl
      | 6, _ => exact Or.inl rfl
      | 7, _ => right; have := fb_rng (zGt S k 7 j); exact ⟨this.1, by show _ ≤ (2147483647 : Int); omega⟩
    · by_cases e : j = k
      · exfalso
        have q : (if j = k then (if S 2 k - zTt S k = 0 then (2 : Int32) else 1) else S 1 j) = 0 := q
        rw [if_pos e] at q
        by_cases c1 : S 2 k - zTt S k = 0
        · rw [if_pos c1] at q; exact absurd q (by decide)
        · rw [if_neg c1] at q; exact absurd q (by decide)
      · have q : (if j = k then (if S 2 k - zTt S k = 0 then (2 : Int32) else 1) else S 1 j) = 0 := q
        rw [if_neg e] at q
        exact ⟨q, if_neg e⟩
  · rw [if_neg c0]
    by_cases c1 : sd = 1
    · rw [if_pos c1]
      by_cases c2 : S 6 (zmo hr (S 0 1)).toNatClampNeg ≤ zdw (S 5 7) - zdw (S 5 7) / 10 * 10
      · rw [if_pos c2]
        refine OKS_upd hok rfl (fun r j hj => ?_) (fun j hj q => ?_)
        · have hr := zl8 hj
          match r, hr with
          | 0, _ => exact Or.inl rfl
          | 1, _ =>
            by_cases e : j = k
            · right
              show 0 ≤ Int32.toInt (if j = k then 1 else S 1 j) ∧ Int32.toInt (if j = k then 1 else S 1 j) ≤ 2
              rw [if_pos e]; decide
            · left; exact if_neg e
          | 2, _ => exact Or.inl rfl
          | 3, _ => exact Or.inl rfl
          | 4, _ => exact Or.inl rfl
          | 5, _ =>
            by_cases e : j = 7
            · right
              subst e
              exact hw
            · left; exact if_neg e
          | 6, _ => exact Or.inl rfl
          | 7, _ => exact Or.inl rfl
        · have q : (if j = k then (1 : Int32) else S 1 j) = 0 := q
          by_cases e : j = k
          · rw [if_pos e] at q; exact absurd q (by decide)
          · rw [if_neg e] at q; exact ⟨q, rfl⟩
      · rw [if_neg c2]
        refine OKS_upd hok rfl (fun r j hj => ?_) (fun j hj q => ?_)
        · have hr := zl8 hj
          match r, hr with
          | 0, _ => exact Or.inl rfl
          | 1, _ =>
            by_cases e : j = k
            · right
              show 0 ≤ Int32.toInt (if j = k then 2 else S 1 j) ∧ Int32.toInt (if j = k then 2 else S 1 j) ≤ 2
              rw [if_pos e]; decide
            · left; exact if_neg e
          | 2, _ =>
            by_cases e : j = k
            · right
              show 0 ≤ Int32.toInt (if j = k then 0 else S 2 j) ∧ Int32.toInt (if j = k then 0 else S 2 j) ≤ 30
              rw [if_pos e]; decide
            · left; exact if_neg e
          | 3, _ =>
            by_cases e : j = k
            · right
              show 0 ≤ Int32.toInt (if j = k then 0 else S 3 j) ∧ Int32.toInt (if j = k then 0 else S 3 j) ≤ 9
              rw [if_pos e]; decide
            · left; exact if_neg e
          | 4, _ =>
            by_cases e : j = k
            · right
              show 0 ≤ Int32.toInt (if j = k then 0 else S 4 j) ∧ Int32.toInt (if j = k then 0 else S 4 j) ≤ 999
              rw [if_pos e]; decide
            · left; exact if_neg e
          | 5, _ =>
            by_cases e : j = 7
            · right
              subst e
              exact hw
            · left; exact if_neg e
          | 6, _ => exact Or.inl rfl
          | 7, _ => right; have := fb_rng (zGl S k 7 j); exact ⟨this.1, by show _ ≤ (2147483647 : Int); omega⟩
        · have q : (if j = k then (2 : Int32) else S 1 j) = 0 := q
          by_cases e : j = k
          · rw [if_pos e] at q; exact absurd q (by decide)
          · rw [if_neg e] at q; exact ⟨q, if_neg e⟩
    · rw [if_neg c1]
      refine OKS_upd hok rfl (fun r j hj => ?_) (fun j hj q => ?_)
      · have hr := zl8 hj
        match r, hr with
        | 0, _ => exact Or.inl rfl
        | 1, _ =>
          by_cases e : j = k
          · right
            show 0 ≤ Int32.toInt (if j = k then 1 else S 1 j) ∧ Int32.toInt (if j = k then 1 else S 1 j) ≤ 2
            rw [if_pos e]; decide
          · left; exact if_neg e
        | 2, _ => exact Or.inl rfl
        | 3, _ => exact Or.inl rfl
        | 4, _ => exact Or.inl rfl
        | 5, _ => exact Or.inl rfl
        | 6, _ => exact Or.inl rfl
        | 7, _ => right; have := fb_rng (zGc S k 7 j); exact ⟨this.1, by show _ ≤ (2147483647 : Int); omega⟩
      · have q : (if j = k then (1 : Int32) else S 1 j) = 0 := q
        by_cases e : j = k
        · rw [if_pos e] at q; exact absurd q (by decide)
        · rw [if_neg e] at q; exact ⟨q, rfl⟩
noncomputable def zse (s : Nat → Int32) (c : Nat) : Nat → Nat → Nat → Nat → zSea → zSea × Nat × Int32
  | 0, _, _, p, S => (S, p, -6)
  | n + 1, i, h, p, S => if c ≤ i then (S, p, -6) else if s i = 46 then zse s c n (i + 1) (h + 1) (p + 1) S else if zwhy S (s i - 65) = -6 then zse s c n (i + 2) h (p + 1) (zGo S (s i - 65).toNatClampNeg (zsd (s (i + 1))) (nI h)) else (S, p, zwhy S (s i - 65))
def zWF (s : Nat → Int32) (c i : Nat) : Prop := ∃ m, c ≤ i + m ∧ zfs s c m false i = -6
theorem zni6 {i : Nat} (h : i < 1000) : nI i ≠ -6 := by
  intro q
  have e := nI_toInt (n := i) (by omega)
  rw [q] at e
  have : (-6 : Int32).toInt = -6 := by decide
  omega
theorem zWF_step {i : Nat} (h : zWF s c i) (hi : i < c) (hc : c ≤ 60) : (s i = 46 ∧ zWF s c (i + 1)) ∨ (s i ≠ 46 ∧ 65 ≤ (s i).toInt ∧ (s i).toInt ≤ 70 ∧ i + 1 < c ∧ (s (i + 1) = 67 ∨ s (i + 1) = 84 ∨ s (i + 1) = 87) ∧ zWF s c (i + 2)) := by
  obtain ⟨m, hm, h⟩ := h
  cases m with
  | zero => omega
  | succ m =>
    unfold zfs at h
    rw [if_neg (by omega)] at h
    by_cases q : s i = 46
    · left
      refine ⟨q, m, by omega, ?_⟩
      simpa [zcan, q] using h
    · right
      by_cases w : 65 ≤ (s i).toInt ∧ (s i).toInt ≤ 70
      · have h' : zfs s c m true (i + 1) = -6 := by simpa [zcan, q, w] using h
        cases m with
        | zero =>
          unfold zfs at h'
          exact absurd h' (zni6 (by omega))
        | succ m =>
          unfold zfs at h'
          by_cases e : c ≤ i + 1
          · rw [if_pos e] at h'
            exact absurd h' (zni6 (by omega))
          · rw [if_neg e] at h'
            by_cases z : zcan true (s (i + 1)) = true
            · rw [if_pos z] at h'
              refine ⟨q, w.1, w.2, by omega, ?_, m, by omega, ?_⟩
              · simp [zcan] at z
                rcases z with z | z
                · rcases z with z | z
                  · exact Or.inl z
                  · exact Or.inr (Or.inl z)
                · exact Or.inr (Or.inr z)
              · simpa using h'
            · rw [if_neg z] at h'
              exact absurd h' (zni6 (by omega))
      · exfalso
        have z : zcan false (s i) = false := by
          by_cases w1 : 65 ≤ (s i).toInt
          · have w2 : ¬ (s i).toInt ≤ 70 := fun z => w ⟨w1, z⟩
            simp [zcan, q, w1, w2]
          · simp [zcan, q, w1]
        rw [if_neg (by rw [z]; decide)] at h
        exact absurd h (zni6 (by omega))
theorem zship {x : Int32} (h1 : 65 ≤ x.toInt) (h2 : x.toInt ≤ 70) : ∃ k : Nat, k < 6 ∧ x - 65 = nI k := by
  have e := zsubc x 65 (n := 65) rfl (by omega) (by omega) (by omega)
  obtain ⟨k, hk, ek, -⟩ := zN (x := x - 65) (h := 5) (by omega) (by omega)
  exact ⟨k, by omega, ek⟩
theorem zse_ok (hc : c ≤ 60) : ∀ n i h p S, zWF s c i → i ≤ c → OKS S → OKS (zse s c n i h p S).1 := by
  intro n
  induction n with
  | zero => intro i h p S _ _ hok; exact hok
  | succ n ih =>
    intro i h p S hw hi hok
    unfold zse
    by_cases c1 : c ≤ i
    · rw [if_pos c1]; exact hok
    · rw [if_neg c1]
      rcases zWF_step hw (by omega) hc with ⟨q, w⟩ | ⟨q, w1, w2, w3, w4, w5⟩
      · rw [if_pos q]; exact ih _ _ _ _ w (by omega) hok
      · rw [if_neg q]
        obtain ⟨k, hk, ek⟩ := zship w1 w2
        by_cases c2 : zwhy S (s i - 65) = -6
        · rw [if_pos c2]
          exact ih _ _ _ _ w5 (by omega) (OKS_go hok (by rw [ek, nI_clamp (by omega)]; exact hk))
        · rw [if_neg c2]; exact hok
theorem zse_p : ∀ n i h p S, i ≤ c → p ≤ i → (zse s c n i h p S).2.1 ≤ i + 2 * n := by
  intro n
  induction n with
  | zero => intro i h p S _ hp; exact hp
  | succ n ih =>
    intro i h p S hi hp
    unfold zse
    split
    · show p ≤ _; omega
    · split
      · rcases Nat.lt_or_ge i c with q | q
        · have := ih (i + 1) (h + 1) (p + 1) S (by omega) (by omega); omega
        · omega
      · split
        · rcases Nat.lt_or_ge (i + 1) c with q | q
          · have := ih (i + 2) h (p + 1) (zGo S (s i - 65).toNatClampNeg (zsd (s (i + 1))) (nI h)) (by omega) (by omega); omega
          · cases n with
            | zero => show p + 1 ≤ _; omega
            | succ n => unfold zse; rw [if_pos (by omega)]; show p + 1 ≤ _; omega
        · show p ≤ _; omega
theorem zwhy_ne {S : zSea} {p : Int32} (h : zwhy S p ≠ -6) : 0 ≤ (zwhy S p).toInt := by
  unfold zwhy at h ⊢
  by_cases q : zH (S 0 0) p
  · rw [if_pos q] at h ⊢
    by_cases q2 : S 1 p.toNatClampNeg = 0
    · rw [if_pos q2] at h; exact absurd rfl h
    · rw [if_neg q2]; decide
  · rw [if_neg q]; decide
theorem i_tryL {b : Nat} (hc : c ≤ 60) (hcc : σ0.1 52 1 = nI c) (hs : ∀ j, j < 60 → σ0.1 53 j = s j) :
    ∀ n i h p S σ', c ≤ i + n → i ≤ c → h ≤ i → p ≤ i → zWF s c i → SR σ' S → OKS S → σ'.1 54 1 = nI p → σ'.1 54 2 = -6 → (∀ a j, a < 54 ∨ 62 < a → σ'.1 a j = σ0.1 a j) →
      (∀ σ'' : zST, SR σ'' (zse s c n i h p S).1 → σ''.1 54 1 = nI (zse s c n i h p S).2.1 → σ''.1 54 2 = (zse s c n i h p S).2.2 → (∀ a j, a < 54 ∨ 62 < a → σ''.1 a j = σ0.1 a j) → P σ'') → wp_X7_tryOut_L24 b P (n + 1) (nI h) (nI i) σ' := by
  intro n
  induction n with
  | zero =>
    intro i h p S σ' hn hi hh hp hw hS hok e1 e2 hf fin
    unfold wp_X7_tryOut_L24
    rw [hf 52 1 (by omega), hcc, if_pos (nI_le (by omega) (by omega))]
    exact fin σ' hS e1 e2 hf
  | succ n ih =>
    intro i h p S σ' hn hi hh hp hw hS hok e1 e2 hf fin
    unfold wp_X7_tryOut_L24
    rw [hf 52 1 (by omega), hcc]
    unfold zse at fin
    by_cases c1 : c ≤ i
    · rw [if_pos c1] at fin
      rw [if_pos (nI_le c1 (by omega))]
      exact fin σ' hS e1 e2 hf
    · rw [if_neg c1] at fin
      rw [if_neg (nI_ge (by omega) (by omega))]
      have hc1 : σ'.1 52 1 = nI c := by rw [hf 52 1 (by omega), hcc]
      have hs1 : ∀ j, j < 60 → σ'.1 53 j = s j := fun j hj => by rw [hf 53 j (by omega)]; exact hs j hj
      refine i_hourPasses rfl hc1 hc hs1 (by omega) ?_
      rcases zWF_step hw (by omega) hc with ⟨q, w⟩ | ⟨q, w1, w2, w3, w4, w5⟩
      · rw [if_pos q] at fin
        rw [decide_eq_true q, if_neg (by decide), nI_1, nI_1, e1]
        rw [show nI p + (1 : Int32) = nI (p + 1) from nI_1 p]
        refine ih (i + 1) (h + 1) (p + 1) S _ (by omega) (by omega) (by omega) (by omega) w ?_ hok ?_ ?_ (fun a j ha => ?_) fin
        · intro r j hj
          rw [← hS r j hj]
          unfold sV
          split <;> first | rfl | (split <;> rfl)
        · rfl
        · exact e2
        · rw [wI_at, if_neg (by omega)]; exact hf a j ha
      · rw [if_neg q] at fin
        rw [decide_eq_false q, if_pos (show zb false = (0 : Int32) from rfl)]
        refine i_shipAt rfl hc1 hc hs1 (by omega) ?_
        rw [if_pos ⟨w1, w2⟩]
        obtain ⟨k, hk, ek⟩ := zship w1 w2
        refine i_whyNot ek hk hS ?_
        intro σ11 e11
        have h11 : ∀ a j, σ11.1 a j = if a = 54 ∧ j = 2 then zwhy S (s i - 65) else σ'.1 a j := fun a j => by rw [e11]; rfl
        have hS11 : SR σ11 S := by
          intro r j hj
          rw [← hS r j hj]
          exact sV_fr (fun a j w1 w2 => by rw [h11, if_neg (by omega)]) r j
        rw [show σ11.1 54 2 = zwhy S (s i - 65) by rw [h11, if_pos ⟨rfl, rfl⟩]]
        by_cases c2 : zwhy S (s i - 65) = -6
        · rw [if_pos c2] at fin ⊢
          rw [nI_1]
          have hc11 : σ11.1 52 1 = nI c := by rw [h11, if_neg (by omega)]; exact hc1
          have hs11 : ∀ j, j < 60 → σ11.1 53 j = s j := fun j hj => by rw [h11, if_neg (by omega)]; exact hs1 j hj
          refine i_sideAt rfl hc11 hc hs11 w3 ?_
          have hzz : zH (S 0 0) (s i - 65) ∧ S 1 k = 0 := by
            unfold zwhy at c2
            by_cases q : zH (S 0 0) (s i - 65)
            · rw [if_pos q] at c2
              by_cases q2 : S 1 (s i - 65).toNatClampNeg = 0
              · exact ⟨q, by rw [ek, nI_clamp (by omega)] at q2; exact q2⟩
              · rw [if_neg q2] at c2; exact absurd c2 (by decide)
            · rw [if_neg q] at c2; exact absurd c2 (by decide)
          rw [show (s i - 65).toNatClampNeg = k by rw [ek, nI_clamp (by omega)]] at fin
          refine i_send (sd := zsd (s (i + 1))) ek hk hS11 hok (by rw [nI_toInt (by omega)]; omega) hzz.1 hzz.2 (fun σ16 hS16 hf16 => ?_)
          have e16 : σ16.1 54 1 = nI p := by rw [hf16 54 1 (by omega), h11, if_neg (by omega)]; exact e1
          rw [e16, nI_1, show nI p + (1 : Int32) = nI (p + 1) from nI_1 p]
          refine ih (i + 2) h (p + 1) _ _ (by omega) (by omega) (by omega) (by omega) w5 ?_ (OKS_go hok hk) ?_ ?_ (fun a j ha => ?_) fin
          · intro r j hj
            rw [← hS16 r j hj]
            unfold sV
            split <;> first | rfl | (split <;> rfl)
          · rfl
          · show σ16.1 54 2 = -6
            rw [hf16 54 2 (by omega), h11, if_pos ⟨rfl, rfl⟩, c2]
          · rw [wI_at, if_neg (by omega), hf16 a j (by omega), h11, if_neg (by omega)]; exact hf a j ha
        · rw [if_neg c2] at fin ⊢
          refine fin σ11 hS11 ?_ ?_ (fun a j ha => ?_)
          · rw [h11, if_neg (by omega)]; exact e1
          · rw [h11, if_pos ⟨rfl, rfl⟩]
          · rw [h11, if_neg (by omega)]; exact hf a j ha
theorem i_goL (hc : c ≤ 60) (hcc : σ0.1 69 27 = nI c) (hs : ∀ j, j < 60 → σ0.1 80 j = s j) :
    ∀ n i h p S σ', c ≤ i + n → i ≤ c → h ≤ i → p ≤ i → zWF s c i → NR σ' S → OKS S → σ'.1 69 31 = nI p → σ'.1 69 29 = -6 → σ'.1 69 30 = -6 → (∀ a j, ¬ (70 ≤ a ∧ a ≤ 73) → ¬ (a = 69 ∧ (j = 12 ∨ 15 ≤ j ∧ j ≤ 17 ∨ 29 ≤ j ∧ j ≤ 31)) → σ'.1 a j = σ0.1 a j) →
      (∀ σ'' : zST, NR σ'' (zse s c n i h p S).1 → ((zse s c n i h p S).2.2 = -6 → σ''.1 69 29 = -6 ∧ σ''.1 69 30 = -6 ∧ σ''.1 69 31 = nI (zse s c n i h p S).2.1) → ((zse s c n i h p S).2.2 ≠ -6 → σ''.1 69 29 = nI (zse s c n i h p S).2.1 ∧ σ''.1 69 30 = (zse s c n i h p S).2.2) → (∀ a j, ¬ (70 ≤ a ∧ a ≤ 73) → ¬ (a = 69 ∧ (j = 12 ∨ 15 ≤ j ∧ j ≤ 17 ∨ 29 ≤ j ∧ j ≤ 31)) → σ''.1 a j = σ0.1 a j) → P σ'') → wp_X9_goSeason_L21 P (n + 1) (nI h) (nI i) σ' := by
  intro n
  induction n with
  | zero =>
    intro i h p S σ' hn hi hh hp hw hS hok e1 e2 e3 hf fin
    unfold wp_X9_goSeason_L21
    rw [hf 69 27 (by omega) (by omega), hcc, if_pos (nI_le (by omega) (by omega))]
    exact fin σ' hS (fun _ => ⟨e2, e3, e1⟩) (fun q => absurd rfl q) hf
  | succ n ih =>
    intro i h p S σ' hn hi hh hp hw hS hok e1 e2 e3 hf fin
    unfold wp_X9_goSeason_L21
    rw [hf 69 27 (by omega) (by omega), hcc]
    unfold zse at fin
    by_cases c1 : c ≤ i
    · rw [if_pos c1] at fin
      rw [if_pos (nI_le c1 (by omega))]
      exact fin σ' hS (fun _ => ⟨e2, e3, e1⟩) (fun q => absurd rfl q) hf
    · rw [if_neg c1] at fin
      rw [if_neg (nI_ge (by omega) (by omega)), e2, if_neg (by decide)]
      have hv : vp_in (nI i) 60 := vp_in_nI (by omega) (by omega)
      refine ⟨hv, ?_⟩
      rw [nI_clamp (by omega), hf 80 i (by omega) (by omega), hs i (by omega)]
      rcases zWF_step hw (by omega) hc with ⟨q, w⟩ | ⟨q, w1, w2, w3, w4, w5⟩
      · rw [if_pos q] at fin ⊢
        rw [nI_1, nI_1, e1, show nI p + (1 : Int32) = nI (p + 1) from nI_1 p]
        refine ih (i + 1) (h + 1) (p + 1) S _ (by omega) (by omega) (by omega) (by omega) w ?_ hok rfl ?_ ?_ (fun a j ha hb => ?_) fin
        · intro r j hj
          rw [← hS r j hj]
          exact mV_fr (fun a k x => by rw [wI_at, if_neg (by omega)]) (zl_len hj)
        · exact e2
        · exact e3
        · rw [wI_at, if_neg (by omega)]; exact hf a j ha hb
      · rw [if_neg q] at fin ⊢
        refine ⟨hv, ?_⟩
        rw [nI_1]
        refine ⟨vp_in_nI (by omega) (by omega), ?_⟩
        rw [nI_clamp (by omega), hf 80 (i + 1) (by omega) (by omega), hs (i + 1) (by omega), nI_1]
        obtain ⟨k, hk, ek⟩ := zship w1 w2
        refine i_order ek hk hS hok (by rw [nI_toInt (by omega)]; omega) w4 (fun c2 σ8 hS8 b8 hf8 => ?_) (fun c2 σ8 hS8 b8 p8 hf8 => ?_)
        · rw [if_pos c2] at fin
          rw [show (s i - 65).toNatClampNeg = k by rw [ek, nI_clamp (by omega)]] at fin
          rw [hf8 69 31 (by omega) (by omega), e1, show nI p + (1 : Int32) = nI (p + 1) from nI_1 p]
          refine ih (i + 2) h (p + 1) _ _ (by omega) (by omega) (by omega) (by omega) w5 ?_ (OKS_go hok hk) rfl ?_ ?_ (fun a j ha hb => ?_) fin
          · intro r j hj
            rw [← hS8 r j hj]
            exact mV_fr (fun a k x => by rw [wI_at, if_neg (by omega)]) (zl_len hj)
          · show σ8.1 69 29 = -6
            rw [hf8 69 29 (by omega) (by omega)]; exact e2
          · exact b8
          · rw [wI_at, if_neg (by omega), hf8 a j ha (by omega)]; exact hf a j ha hb
        · rw [if_neg c2] at fin
          have m1 : σ8.1 69 29 = nI p := by rw [p8, e1]
          have last : ∀ σ9 : zST, (∀ a j, σ9.1 a j = if a = 69 ∧ j = 31 then σ8.1 69 31 + 1 else σ8.1 a j) → P σ9 := by
            intro σ9 h9
            refine fin σ9 ?_ (fun q => absurd q c2) (fun _ => ⟨?_, ?_⟩) (fun a j ha hb => ?_)
            · intro r j hj
              show mV σ9 r j = S r j
              rw [← hS8 r j hj]
              exact mV_fr (fun a k x => by rw [h9, if_neg (by omega)]) (zl_len hj)
            · rw [h9, if_neg (by omega)]; exact m1
            · rw [h9, if_neg (by omega)]; exact b8
            · rw [h9, if_neg (by omega), hf8 a j (by omega)]; exact hf a j ha hb
          cases n with
          | zero => omega
          | succ n =>
            unfold wp_X9_goSeason_L21
            have hz := last (wI σ8 69 31 (σ8.1 69 31 + 1)) (fun a j => rfl)
            by_cases c3 : (wI σ8 69 31 (σ8.1 69 31 + 1)).1 69 27 ≤ nI (i + 1 + 1)
            · rw [if_pos c3]; exact hz
            · rw [if_neg c3, if_pos]
              · exact hz
              · show (0 : Int32) ≤ σ8.1 69 29
                rw [m1]; exact nI_pos' (by omega)
end S
end
section
/-! copies; judge, behind, done -/
section S
variable {σ σ0 : zST} {S : zSea} {k : Nat} {P : zST → Prop} {s : Nat → Int32} {c : Nat} {a1 a2 a3 a4 a5 : Int32}
theorem zcpy {x y m : Nat} {n : Int32} (hn : n.toNatClampNeg = m) (z j : Nat) : (wRI σ y (va_cpy (σ.1 x) (σ.1 y) (0 : Int32).toNatClampNeg (0 : Int32).toNatClampNeg n.toNatClampNeg)).1 z j = if z = y ∧ j < m then σ.1 x j else σ.1 z j := by
  rw [hn]
  show (if z = y then va_cpy (σ.1 x) (σ.1 y) 0 0 m j else σ.1 z j) = _
  by_cases e : z = y
  · rw [if_pos e]
    unfold va_cpy
    by_cases q : j < m
    · rw [if_pos ⟨Nat.zero_le _, by omega⟩, if_pos ⟨e, q⟩]
      simp
    · rw [if_neg (by omega), if_neg (by omega), e]
  · rw [if_neg e, if_neg (fun q => e q.1)]
theorem i_become6 {a b : Nat} (hab : a + 7 < b ∨ b + 7 < a) (h : ∀ σ' : zST, (∀ x j, x < a ∨ a + 7 < x → σ'.1 x j = σ.1 x j) → σ'.1 a 0 = σ.1 b 0 → σ'.1 a 7 = σ.1 b 7 → (∀ r j, 1 ≤ r → r ≤ 7 → j < zl r → σ'.1 (a + r) j = σ.1 (b + r) j) → P σ') : wp_X6_become a b σ P := by
  intro σ1 e1 σ2 e2 σ3 e3 σ4 e4 σ5 e5 σ6 e6 σ7 e7 σ8 e8
  have h1 : ∀ z j, σ1.1 z j = if z = a ∧ j = 0 then σ.1 b 0 else σ.1 z j := fun z j => by rw [e1, wI_at]
  have h2 : ∀ z j, σ2.1 z j = if z = a + 1 ∧ j < 6 then σ1.1 (b + 1) j else σ1.1 z j := fun z j => by rw [e2]; exact zcpy rfl z j
  have h3 : ∀ z j, σ3.1 z j = if z = a + 2 ∧ j < 6 then σ2.1 (b + 2) j else σ2.1 z j := fun z j => by rw [e3]; exact zcpy rfl z j
  have h4 : ∀ z j, σ4.1 z j = if z = a + 3 ∧ j < 6 then σ3.1 (b + 3) j else σ3.1 z j := fun z j => by rw [e4]; exact zcpy rfl z j
  have h5 : ∀ z j, σ5.1 z j = if z = a + 4 ∧ j < 6 then σ4.1 (b + 4) j else σ4.1 z j := fun z j => by rw [e5]; exact zcpy rfl z j
  have h6 : ∀ z j, σ6.1 z j = if z = a + 5 ∧ j < 8 then σ5.1 (b + 5) j else σ5.1 z j := fun z j => by rw [e6]; exact zcpy rfl z j
  have h7 : ∀ z j, σ7.1 z j = if z = a + 6 ∧ j < 24 then σ6.1 (b + 6) j else σ6.1 z j := fun z j => by rw [e7]; exact zcpy rfl z j
  have h8 : ∀ z j, σ8.1 z j = if z = a ∧ j = 7 then σ7.1 b 7 else σ7.1 z j := fun z j => by rw [e8, wI_at]
  generalize e9 : wRI σ8 (a + 7) (va_cpy (σ8.1 (b + 7)) (σ8.1 (a + 7)) (0 : Int32).toNatClampNeg (0 : Int32).toNatClampNeg (3 : Int32).toNatClampNeg) = σ9
  have h9 : ∀ z j, σ9.1 z j = if z = a + 7 ∧ j < 3 then σ8.1 (b + 7) j else σ8.1 z j := fun z j => by rw [← e9]; exact zcpy rfl z j
  have far : ∀ z j, z < a ∨ a + 7 < z → σ1.1 z j = σ.1 z j ∧ σ2.1 z j = σ.1 z j ∧ σ3.1 z j = σ.1 z j ∧ σ4.1 z j = σ.1 z j ∧ σ5.1 z j = σ.1 z j ∧ σ6.1 z j = σ.1 z j ∧ σ7.1 z j = σ.1 z j ∧ σ8.1 z j = σ.1 z j ∧ σ9.1 z j = σ.1 z j := by
    intro z j hz
    have q1 : σ1.1 z j = σ.1 z j := by rw [h1, if_neg (by omega)]
    have q2 : σ2.1 z j = σ.1 z j := by rw [h2, if_neg (by omega), q1]
    have q3 : σ3.1 z j = σ.1 z j := by rw [h3, if_neg (by omega), q2]
    have q4 : σ4.1 z j = σ.1 z j := by rw [h4, if_neg (by omega), q3]
    have q5 : σ5.1 z j = σ.1 z j := by rw [h5, if_neg (by omega), q4]
    have q6 : σ6.1 z j = σ.1 z j := by rw [h6, if_neg (by omega), q5]
    have q7 : σ7.1 z j = σ.1 z j := by rw [h7, if_neg (by omega), q6]
    have q8 : σ8.1 z j = σ.1 z j := by rw [h8, if_neg (by omega), q7]
    exact ⟨q1, q2, q3, q4, q5, q6, q7, q8, by rw [h9, if_neg (by omega), q8]⟩
  refine h σ9 (fun x j hx => (far x j hx).2.2.2.2.2.2.2.2) ?_ ?_ (fun r j h1r h7r hj => ?_)
  · rw [h9, if_neg (by omega), h8, if_neg (by omega), h7, if_neg (by omega), h6, if_neg (by omega), h5, if_neg (by omega), h4, if_neg (by omega), h3, if_neg (by omega), h2, if_neg (by omega), h1, if_pos ⟨rfl, rfl⟩]
  · rw [h9, if_neg (by omega), h8, if_pos ⟨rfl, rfl⟩]
    exact (far b 7 (by omega)).2.2.2.2.2.2.1
  · match r, h1r, h7r with
    | 1, _, _ =>
      have hj : j < 6 := hj
      rw [h9, if_neg (by omega), h8, if_neg (by omega), h7, if_neg (by omega), h6, if_neg (by omega), h5, if_neg (by omega), h4, if_neg (by omega), h3, if_neg (by omega), h2, if_pos ⟨rfl, hj⟩]
      exact (far (b + 1) j (by omega)).1
    | 2, _, _ =>
      have hj : j < 6 := hj
      rw [h9, if_neg (by omega), h8, if_neg (by omega), h7, if_neg (by omega), h6, if_neg (by omega), h5, if_neg (by omega), h4, if_neg (by omega), h3, if_pos ⟨rfl, hj⟩]
      exact (far (b + 2) j (by omega)).2.1
    | 3, _, _ =>
      have hj : j < 6 := hj
      rw [h9, if_neg (by omega), h8, if_neg (by omega), h7, if_neg (by omega), h6, if_neg (by omega), h5, if_neg (by omega), h4, if_pos ⟨rfl, hj⟩]
      exact (far (b + 3) j (by omega)).2.2.1
    | 4, _, _ =>
      have hj : j < 6 := hj
      rw [h9, if_neg (by omega), h8, if_neg (by omega), h7, if_neg (by omega), h6, if_neg (by omega), h5, if_pos ⟨rfl, hj⟩]
      exact (far (b + 4) j (by omega)).2.2.2.1
    | 5, _, _ =>
      have hj : j < 8 := hj
      rw [h9, if_neg (by omega), h8, if_neg (by omega), h7, if_neg (by omega), h6, if_pos ⟨rfl, hj⟩]
      exact (far (b + 5) j (by omega)).2.2.2.2.1
    | 6, _, _ =>
      have hj : j < 24 := hj
      rw [h9, if_neg (by omega), h8, if_neg (by omega), h7, if_pos ⟨rfl, hj⟩]
      exact (far (b + 6) j (by omega)).2.2.2.2.2.1
    | 7, _, _ =>
      have hj : j < 3 := hj
      rw [h9, if_pos ⟨rfl, hj⟩]
      exact (far (b + 7) j (by omega)).2.2.2.2.2.2.2.1
theorem mV_fr2 {σ σ' : zST} (h : ∀ a k, (74 ≤ a ∧ a ≤ 79) ∨ (70 ≤ a ∧ a ≤ 73 ∧ k < 6) ∨ (a = 69 ∧ k ≤ 26) → σ'.1 a k = σ.1 a k) {r k : Nat} (hk : k < zLen r) : mV σ' r k = mV σ r k := by
  have hr := zLen13 hk
  have hkk := zLen24 hk
  match r, hr with
  | 0, _ =>
    match k, hk with
    | 0, _ => exact h _ _ (by omega)
    | 1, _ => exact h _ _ (by omega)
    | 2, _ => exact h _ _ (by omega)
    | 3, _ => exact h _ _ (by omega)
    | 4, _ => exact h _ _ (by omega)
    | k + 5, h5 => exact absurd h5 (by simp [zLen])
  | 1, _ => have : k < 6 := hk; exact h _ _ (by omega)
  | 2, _ => have : k < 6 := hk; exact h _ _ (by omega)
  | 3, _ => have : k < 6 := hk; exact h _ _ (by omega)
  | 4, _ => have : k < 6 := hk; exact h _ _ (by omega)
  | 5, _ => have : k < 8 := hk; exact h _ _ (by omega)
  | 6, _ => exact h _ _ (by omega)
  | 7, _ => have : k < 3 := hk; exact h _ _ (by omega)
  | 8, _ => exact h _ _ (by omega)
  | 9, _ => exact h _ _ (by omega)
  | 10, _ => exact h _ _ (by omega)
  | 11, _ => exact h _ _ (by omega)
  | 12, _ =>
    show σ'.1 79 k - zpc (σ'.1 78 k) = σ.1 79 k - zpc (σ.1 78 k)
    rw [h 79 k (by omega), h 78 k (by omega)]
theorem Inv_fr2 {σ σ' : zST} (h : ∀ a k, a = 0 ∨ (2 ≤ a ∧ a ≤ 53) ∨ (74 ≤ a ∧ a ≤ 80) ∨ (70 ≤ a ∧ a ≤ 73 ∧ k < 6) ∨ a = 85 ∨ a = 86 ∨ (a = 69 ∧ k ≤ 27) → σ'.1 a k = σ.1 a k) (hI : Inv σ) : Inv σ' := by
  refine ⟨?_, IP_fr (fun a k x => h a k (by omega)) hI.2.1, II_fr (fun a k x => h a k (by omega)) hI.2.2⟩
  have h1 : ∀ r k, cV σ' 1 r k = cV σ 1 r k := cV_fr (fun a k x y => h a k (by omega))
  refine ⟨fun r k hk => ?_, OKV_fr (fun r k _ => h1 r k) hI.1.2⟩
  rw [h1, hI.1.1 r k hk]
  exact (mV_fr2 (fun a k x => h a k (by omega)) hk).symm
theorem i_keepL {σ0 : zST} (fin : ∀ σ' : zST, (∀ a j, a ≠ 81 → σ'.1 a j = σ0.1 a j) → (∀ k, k < 6 → σ'.1 81 k = σ0.1 70 k ∧ σ'.1 81 (6 + k) = σ0.1 71 k ∧ σ'.1 81 (12 + k) = σ0.1 72 k ∧ σ'.1 81 (18 + k) = σ0.1 73 k) → P σ') :
    ∀ m i, m + i = 6 → ∀ σ' : zST, (∀ a j, a ≠ 81 → σ'.1 a j = σ0.1 a j) → (∀ k, k < i → σ'.1 81 k = σ0.1 70 k ∧ σ'.1 81 (6 + k) = σ0.1 71 k ∧ σ'.1 81 (12 + k) = σ0.1 72 k ∧ σ'.1 81 (18 + k) = σ0.1 73 k) → wp_X9_keepNow_L2 P (m + 1) (nI i) σ' := by
  intro m
  induction m with
  | zero =>
    intro i hi σ' h1 h2
    unfold wp_X9_keepNow_L2
    rw [if_pos (by rw [show i = 6 by omega]; decide)]
    exact fin σ' h1 (fun k hk => h2 k (by omega))
  | succ m ih =>
    intro i hi σ' h1 h2
    unfold wp_X9_keepNow_L2
    rw [if_neg (by rw [Int32.le_iff_toInt_le, nI_toInt (by omega)]; show ¬ (6 : Int) ≤ i; omega)]
    have v6 : vp_in (nI i) 6 := vp_in_nI (by omega) (by omega)
    have e6 : (6 : Int32) + nI i = nI (6 + i) := nI_add 6 i
    have e12 : (12 : Int32) + nI i = nI (12 + i) := nI_add 12 i
    have e18 : (18 : Int32) + nI i = nI (18 + i) := nI_add 18 i
    rw [e6, e12, e18, nI_clamp (by omega), nI_clamp (by omega), nI_clamp (by omega), nI_clamp (by omega), nI_1]
    refine ⟨v6, vp_in_nI (by omega) (by omega), v6, ?_⟩
    intro σ5 e5
    have h5 : ∀ a j, σ5.1 a j = if a = 81 ∧ j = i then σ'.1 70 i else σ'.1 a j := fun a j => by rw [e5, wI_at]
    refine ⟨vp_in_nI (by omega) (by omega), v6, ?_⟩
    intro σ8 e8
    have h8 : ∀ a j, σ8.1 a j = if a = 81 ∧ j = 6 + i then σ5.1 71 i else σ5.1 a j := fun a j => by rw [e8, wI_at]
    refine ⟨vp_in_nI (by omega) (by omega), v6, ?_⟩
    intro σ11 e11
    have h11 : ∀ a j, σ11.1 a j = if a = 81 ∧ j = 12 + i then σ8.1 72 i else σ8.1 a j := fun a j => by rw [e11, wI_at]
    refine ⟨vp_in_nI (by omega) (by omega), ?_⟩
    have hf : ∀ a j, (wI σ11 81 (18 + i) (σ11.1 73 i)).1 a j = if a = 81 ∧ j = 18 + i then σ0.1 73 i else if a = 81 ∧ j = 12 + i then σ0.1 72 i else if a = 81 ∧ j = 6 + i then σ0.1 71 i else if a = 81 ∧ j = i then σ0.1 70 i else σ'.1 a j := by
      intro a j
      have q1 : σ11.1 73 i = σ0.1 73 i := by rw [h11, if_neg (by omega), h8, if_neg (by omega), h5, if_neg (by omega)]; exact h1 73 i (by omega)
      have q2 : σ8.1 72 i = σ0.1 72 i := by rw [h8, if_neg (by omega), h5, if_neg (by omega)]; exact h1 72 i (by omega)
      have q3 : σ5.1 71 i = σ0.1 71 i := by rw [h5, if_neg (by omega)]; exact h1 71 i (by omega)
      rw [wI_at, q1, h11, q2, h8, q3, h5, h1 70 i (by omega)]
    refine ih (i + 1) (by omega) _ (fun a j ha => ?_) (fun k hk => ?_)
    · rw [hf]; (repeat rw [if_neg (by omega)]); exact h1 a j ha
    · rcases Nat.lt_or_ge k i with q | q
      · obtain ⟨w1, w2, w3, w4⟩ := h2 k q
        refine ⟨?_, ?_, ?_, ?_⟩
        · rw [hf]; (repeat rw [if_neg (by omega)]); exact w1
        · rw [hf]; (repeat rw [if_neg (by omega)]); exact w2
        · rw [hf]; (repeat rw [if_neg (by omega)]); exact w3
        · rw [hf]; (repeat rw [if_neg (by omega)]); exact w4
      · obtain rfl : k = i := by omega
        refine ⟨?_, ?_, ?_, ?_⟩
        · rw [hf, if_neg (by omega), if_neg (by omega), if_neg (by omega), if_pos (by omega)]
        · rw [hf, if_neg (by omega), if_neg (by omega), if_pos (by omega)]
        · rw [hf, if_neg (by omega), if_pos (by omega)]
        · rw [hf, if_pos (by omega)]
def zHad (σ σ0 : zST) : Prop := (∀ k, k < 6 → σ.1 81 k = σ0.1 70 k ∧ σ.1 81 (6 + k) = σ0.1 71 k ∧ σ.1 81 (12 + k) = σ0.1 72 k ∧ σ.1 81 (18 + k) = σ0.1 73 k) ∧ σ.1 81 24 = σ0.1 69 12 ∧ σ.1 81 25 = σ0.1 69 15 ∧ σ.1 81 26 = σ0.1 69 16 ∧ σ.1 81 27 = σ0.1 69 17
theorem i_keepNow (h : ∀ σ' : zST, (∀ a j, a ≠ 81 → σ'.1 a j = σ.1 a j) → zHad σ' σ → P σ') : wp_X9_keepNow σ P := by
  refine ⟨7, i_keepL (σ0 := σ) (fun σ1 h1 h2 => ?_) 6 0 rfl σ (fun a j _ => rfl) (fun k hk => by omega)⟩
  intro σ13 e13 σ14 e14 σ15 e15
  have hf : ∀ a j, (wI σ15 81 (27 : Int32).toNatClampNeg (σ15.1 69 17)).1 a j = if a = 81 ∧ j = 27 then σ.1 69 17 else if a = 81 ∧ j = 26 then σ.1 69 16 else if a = 81 ∧ j = 25 then σ.1 69 15 else if a = 81 ∧ j = 24 then σ.1 69 12 else σ1.1 a j := by
    intro a j
    have h13 : ∀ a j, σ13.1 a j = if a = 81 ∧ j = 24 then σ1.1 69 12 else σ1.1 a j := fun a j => by rw [e13]; rfl
    have h14 : ∀ a j, σ14.1 a j = if a = 81 ∧ j = 25 then σ13.1 69 15 else σ13.1 a j := fun a j => by rw [e14]; rfl
    have h15 : ∀ a j, σ15.1 a j = if a = 81 ∧ j = 26 then σ14.1 69 16 else σ14.1 a j := fun a j => by rw [e15]; rfl
    have q1 : σ15.1 69 17 = σ.1 69 17 := by rw [h15, if_neg (by omega), h14, if_neg (by omega), h13, if_neg (by omega)]; exact h1 69 17 (by omega)
    have q2 : σ14.1 69 16 = σ.1 69 16 := by rw [h14, if_neg (by omega), h13, if_neg (by omega)]; exact h1 69 16 (by omega)
    have q3 : σ13.1 69 15 = σ.1 69 15 := by rw [h13, if_neg (by omega)]; exact h1 69 15 (by omega)
    rw [wI_at, q1, h15, q2, h14, q3, h13, h1 69 12 (by omega)]
    rfl
  generalize wI σ15 81 (27 : Int32).toNatClampNeg (σ15.1 69 17) = σ' at hf ⊢
  refine h σ' (fun a j ha => ?_) ⟨fun k hk => ?_, ?_, ?_, ?_, ?_⟩
  · rw [hf]; (repeat rw [if_neg (by omega)]); exact h1 a j ha
  · obtain ⟨w1, w2, w3, w4⟩ := h2 k hk
    refine ⟨?_, ?_, ?_, ?_⟩
    · rw [hf]; (repeat rw [if_neg (by omega)]); exact w1
    · rw [hf]; (repeat rw [if_neg (by omega)]); exact w2
    · rw [hf]; (repeat rw [if_neg (by omega)]); exact w3
    · rw [hf]; (repeat rw [if_neg (by omega)]); exact w4
  · rw [hf, if_neg (by omega), if_neg (by omega), if_neg (by omega), if_pos ⟨rfl, rfl⟩]
  · rw [hf, if_neg (by omega), if_neg (by omega), if_pos ⟨rfl, rfl⟩]
  · rw [hf, if_neg (by omega), if_pos ⟨rfl, rfl⟩]
  · rw [hf, if_pos ⟨rfl, rfl⟩]
theorem i_putL {σ0 : zST} (fin : ∀ σ' : zST, (∀ a j, ¬ (70 ≤ a ∧ a ≤ 73) → σ'.1 a j = σ0.1 a j) → (∀ k, k < 6 → σ'.1 70 k = σ0.1 81 k ∧ σ'.1 71 k = σ0.1 81 (6 + k) ∧ σ'.1 72 k = σ0.1 81 (12 + k) ∧ σ'.1 73 k = σ0.1 81 (18 + k)) → P σ') :
    ∀ m i, m + i = 6 → ∀ σ' : zST, (∀ a j, ¬ (70 ≤ a ∧ a ≤ 73) → σ'.1 a j = σ0.1 a j) → (∀ k, k < i → σ'.1 70 k = σ0.1 81 k ∧ σ'.1 71 k = σ0.1 81 (6 + k) ∧ σ'.1 72 k = σ0.1 81 (12 + k) ∧ σ'.1 73 k = σ0.1 81 (18 + k)) → wp_X9_putBack_L2 P (m + 1) (nI i) σ' := by
  intro m
  induction m with
  | zero =>
    intro i hi σ' h1 h2
    unfold wp_X9_putBack_L2
    rw [if_pos (by rw [show i = 6 by omega]; decide)]
    exact fin σ' h1 (fun k hk => h2 k (by omega))
  | succ m ih =>
    intro i hi σ' h1 h2
    unfold wp_X9_putBack_L2
    rw [if_neg (by rw [Int32.le_iff_toInt_le, nI_toInt (by omega)]; show ¬ (6 : Int) ≤ i; omega)]
    have v6 : vp_in (nI i) 6 := vp_in_nI (by omega) (by omega)
    have e6 : (6 : Int32) + nI i = nI (6 + i) := nI_add 6 i
    have e12 : (12 : Int32) + nI i = nI (12 + i) := nI_add 12 i
    have e18 : (18 : Int32) + nI i = nI (18 + i) := nI_add 18 i
    rw [e6, e12, e18, nI_clamp (by omega), nI_clamp (by omega), nI_clamp (by omega), nI_clamp (by omega), nI_1]
    refine ⟨vp_in_nI (by omega) (by omega), v6, vp_in_nI (by omega) (by omega), ?_⟩
    intro σ5 e5
    have h5 : ∀ a j, σ5.1 a j = if a = 70 ∧ j = i then σ'.1 81 i else σ'.1 a j := fun a j => by rw [e5, wI_at]
    refine ⟨v6, vp_in_nI (by omega) (by omega), ?_⟩
    intro σ8 e8
    have h8 : ∀ a j, σ8.1 a j = if a = 71 ∧ j = i then σ5.1 81 (6 + i) else σ5.1 a j := fun a j => by rw [e8, wI_at]
    refine ⟨v6, vp_in_nI (by omega) (by omega), ?_⟩
    intro σ11 e11
    have h11 : ∀ a j, σ11.1 a j = if a = 72 ∧ j = i then σ8.1 81 (12 + i) else σ8.1 a j := fun a j => by rw [e11, wI_at]
    refine ⟨v6, ?_⟩
    have hf : ∀ a j, (wI σ11 73 i (σ11.1 81 (18 + i))).1 a j = if a = 73 ∧ j = i then σ0.1 81 (18 + i) else if a = 72 ∧ j = i then σ0.1 81 (12 + i) else if a = 71 ∧ j = i then σ0.1 81 (6 + i) else if a = 70 ∧ j = i then σ0.1 81 i else σ'.1 a j := by
      intro a j
      have q1 : σ11.1 81 (18 + i) = σ0.1 81 (18 + i) := by rw [h11, if_neg (by omega), h8, if_neg (by omega), h5, if_neg (by omega)]; exact h1 81 _ (by omega)
      have q2 : σ8.1 81 (12 + i) = σ0.1 81 (12 + i) := by rw [h8, if_neg (by omega), h5, if_neg (by omega)]; exact h1 81 _ (by omega)
      have q3 : σ5.1 81 (6 + i) = σ0.1 81 (6 + i) := by rw [h5, if_neg (by omega)]; exact h1 81 _ (by omega)
      rw [wI_at, q1, h11, q2, h8, q3, h5, h1 81 i (by omega)]
    refine ih (i + 1) (by omega) _ (fun a j ha => ?_) (fun k hk => ?_)
    · rw [hf]; (repeat rw [if_neg (by omega)]); exact h1 a j ha
    · rcases Nat.lt_or_ge k i with q | q
      · obtain ⟨w1, w2, w3, w4⟩ := h2 k q
        refine ⟨?_, ?_, ?_, ?_⟩
        · rw [hf]; (repeat rw [if_neg (by omega)]); exact w1
        · rw [hf]; (repeat rw [if_neg (by omega)]); exact w2
        · rw [hf]; (repeat rw [if_neg (by omega)]); exact w3
        · rw [hf]; (repeat rw [if_neg (by omega)]); exact w4
      · obtain rfl : k = i := by omega
        refine ⟨?_, ?_, ?_, ?_⟩
        · rw [hf, if_neg (by omega), if_neg (by omega), if_neg (by omega), if_pos (by omega)]
        · rw [hf, if_neg (by omega), if_neg (by omega), if_pos (by omega)]
        · rw [hf, if_neg (by omega), if_pos (by omega)]
        · rw [hf, if_pos (by omega)]
theorem i_putBack {σb : zST} (hh : zHad σ σb) (h : ∀ σ' : zST, (∀ a j, ¬ (70 ≤ a ∧ a ≤ 73) → ¬ (a = 69 ∧ (j = 12 ∨ 15 ≤ j ∧ j ≤ 17)) → σ'.1 a j = σ.1 a j) → (∀ a j, 70 ≤ a → a ≤ 73 → j < 6 → σ'.1 a j = σb.1 a j) → σ'.1 69 12 = σb.1 69 12 → σ'.1 69 15 = σb.1 69 15 → σ'.1 69 16 = σb.1 69 16 → σ'.1 69 17 = σb.1 69 17 → P σ') : wp_X9_putBack σ P := by
  obtain ⟨k1, k2, k3, k4, k5⟩ := hh
  refine ⟨7, i_putL (σ0 := σ) (fun σ1 h1 h2 => ?_) 6 0 rfl σ (fun a j _ => rfl) (fun k hk => by omega)⟩
  intro σ13 e13 σ14 e14 σ15 e15
  have hf : ∀ a j, (wI σ15 69 17 (σ15.1 81 (27 : Int32).toNatClampNeg)).1 a j = if a = 69 ∧ j = 17 then σb.1 69 17 else if a = 69 ∧ j = 16 then σb.1 69 16 else if a = 69 ∧ j = 15 then σb.1 69 15 else if a = 69 ∧ j = 12 then σb.1 69 12 else σ1.1 a j := by
    intro a j
    have h13 : ∀ a j, σ13.1 a j = if a = 69 ∧ j = 12 then σ1.1 81 24 else σ1.1 a j := fun a j => by rw [e13]; rfl
    have h14 : ∀ a j, σ14.1 a j = if a = 69 ∧ j = 15 then σ13.1 81 25 else σ13.1 a j := fun a j => by rw [e14]; rfl
    have h15 : ∀ a j, σ15.1 a j = if a = 69 ∧ j = 16 then σ14.1 81 26 else σ14.1 a j := fun a j => by rw [e15]; rfl
    have q1 : σ15.1 81 27 = σb.1 69 17 := by rw [h15, if_neg (by omega), h14, if_neg (by omega), h13, if_neg (by omega), h1 81 27 (by omega)]; exact k5
    have q2 : σ14.1 81 26 = σb.1 69 16 := by rw [h14, if_neg (by omega), h13, if_neg (by omega), h1 81 26 (by omega)]; exact k4
    have q3 : σ13.1 81 25 = σb.1 69 15 := by rw [h13, if_neg (by omega), h1 81 25 (by omega)]; exact k3
    rw [wI_at, show σ15.1 81 (27 : Int32).toNatClampNeg = σb.1 69 17 from q1, h15, q2, h14, q3, h13, h1 81 24 (by omega), k2]
  generalize wI σ15 69 17 (σ15.1 81 (27 : Int32).toNatClampNeg) = σ' at hf ⊢
  refine h σ' (fun a j ha hb => ?_) (fun a j ha hb hj => ?_) ?_ ?_ ?_ ?_
  · rw [hf]; (repeat rw [if_neg (by omega)]); exact h1 a j ha
  · obtain ⟨w1, w2, w3, w4⟩ := h2 j hj
    obtain ⟨v1, v2, v3, v4⟩ := k1 j hj
    rw [hf]; (repeat rw [if_neg (by omega)])
    rcases (show a = 70 ∨ a = 71 ∨ a = 72 ∨ a = 73 by omega) with rfl | rfl | rfl | rfl
    · rw [w1, v1]
    · rw [w2, v2]
    · rw [w3, v3]
    · rw [w4, v4]
  · rw [hf, if_neg (by omega), if_neg (by omega), if_neg (by omega), if_pos ⟨rfl, rfl⟩]
  · rw [hf, if_neg (by omega), if_neg (by omega), if_pos ⟨rfl, rfl⟩]
  · rw [hf, if_neg (by omega), if_pos ⟨rfl, rfl⟩]
  · rw [hf, if_pos ⟨rfl, rfl⟩]
end S
end
section
section S
variable {σ σ0 : zST} {S : zSea} {k : Nat} {P : zST → Prop} {s : Nat → Int32} {c : Nat} {a1 a2 a3 a4 a5 : Int32}
theorem OKS_of (h : IB σ) : OKS (fun r j => cV σ 1 r j) := ⟨fun r j hj => h.2.1 r j (zl_len hj), fun j hj => h.2.2.2 j hj⟩
theorem NR_of_IB (h : IB σ) : NR σ (fun r j => cV σ 1 r j) := fun r j hj => (h.1 r j (zl_len hj)).symm
theorem i_tryOut (h : Inv σ) (hc : c ≤ 60) (hcc : σ.1 52 1 = nI c) (hs : ∀ j, j < 60 → σ.1 53 j = s j) (hw : zWF s c 0)
    (fin : ∀ σ' : zST, SR σ' (zse s c 60 0 0 0 (fun r j => cV σ 1 r j)).1 → σ'.1 54 1 = nI (zse s c 60 0 0 0 (fun r j => cV σ 1 r j)).2.1 → σ'.1 54 2 = (zse s c 60 0 0 0 (fun r j => cV σ 1 r j)).2.2 → (∀ a j, a < 54 ∨ 62 < a → σ'.1 a j = σ.1 a j) → P σ') : wp_X7_tryOut 2 σ P := by
  unfold wp_X7_tryOut
  refine i_become6 (by omega) (fun σ2 g1 g2 g3 g4 => ?_)
  refine ⟨61, i_tryL (σ0 := σ) hc hcc hs 60 0 0 0 (fun r j => cV σ 1 r j) _ (by omega) (by omega) (by omega) (by omega) hw ?_ (OKS_of h.1) rfl rfl (fun a j ha => ?_) fin⟩
  · refine SR_of ?_ ?_ (fun j hj => ?_) (fun j hj => ?_) (fun j hj => ?_) (fun j hj => ?_) (fun j hj => ?_) (fun j hj => ?_) (fun j hj => ?_)
    · exact g2
    · exact g3
    · exact g4 1 j (by omega) (by omega) hj
    · exact g4 2 j (by omega) (by omega) hj
    · exact g4 3 j (by omega) (by omega) hj
    · exact g4 4 j (by omega) (by omega) hj
    · exact g4 5 j (by omega) (by omega) hj
    · exact g4 6 j (by omega) (by omega) hj
    · exact g4 7 j (by omega) (by omega) hj
  · rw [wI_at, if_neg (by omega), wI_at, if_neg (by omega)]
    exact g1 a j (by omega)
theorem i_goSeason {S : zSea} (hS : NR σ S) (hok : OKS S) (hc : c ≤ 60) (hcc : σ.1 69 27 = nI c) (hs : ∀ j, j < 60 → σ.1 80 j = s j) (hw : zWF s c 0)
    (fin : ∀ σ' : zST, NR σ' (zse s c 60 0 0 0 S).1 → ((zse s c 60 0 0 0 S).2.2 = -6 → σ'.1 69 29 = -6 ∧ σ'.1 69 30 = -6 ∧ σ'.1 69 31 = nI (zse s c 60 0 0 0 S).2.1) → ((zse s c 60 0 0 0 S).2.2 ≠ -6 → σ'.1 69 29 = nI (zse s c 60 0 0 0 S).2.1 ∧ σ'.1 69 30 = (zse s c 60 0 0 0 S).2.2) → (∀ a j, ¬ (70 ≤ a ∧ a ≤ 73) → ¬ (a = 69 ∧ (j = 12 ∨ 15 ≤ j ∧ j ≤ 17 ∨ 29 ≤ j ∧ j ≤ 31)) → σ'.1 a j = σ.1 a j) → P σ') : wp_X9_goSeason σ P := by
  unfold wp_X9_goSeason
  refine ⟨61, i_goL (σ0 := σ) hc hcc hs 60 0 0 0 S _ (by omega) (by omega) (by omega) (by omega) hw ?_ hok rfl rfl rfl (fun a j ha hb => ?_) fin⟩
  · intro r j hj
    rw [← hS r j hj]
    exact mV_fr (fun a k x => by rw [wI_at, if_neg (by omega), wI_at, if_neg (by omega), wI_at, if_neg (by omega)]) (zl_len hj)
  · rw [wI_at, if_neg (by omega), wI_at, if_neg (by omega), wI_at, if_neg (by omega)]
/-- what both know of the pad's season -/
theorem zfs6 (hc : c ≤ 60) : zfs s c 60 false 0 = -6 ∨ (zfs s c 60 false 0 ≠ -6 ∧ 0 ≤ (zfs s c 60 false 0).toInt) := by
  have key : ∀ n d i, i ≤ c → zfs s c n d i = -6 ∨ (zfs s c n d i ≠ -6 ∧ 0 ≤ (zfs s c n d i).toInt) := by
    intro n
    have b : ∀ d : Bool, (if d then nI c else (-6 : Int32)) = -6 ∨ ((if d then nI c else (-6 : Int32)) ≠ -6 ∧ 0 ≤ Int32.toInt (if d then nI c else (-6 : Int32))) := by
      intro d
      cases d
      · exact Or.inl rfl
      · right
        exact ⟨zni6 (by omega), by show 0 ≤ (nI c).toInt; rw [nI_toInt (by omega)]; omega⟩
    induction n with
    | zero => intro d i _; unfold zfs; exact b d
    | succ n ih =>
      intro d i hi
      unfold zfs
      by_cases c1 : c ≤ i
      · rw [if_pos c1]; exact b d
      · rw [if_neg c1]
        split
        · exact ih _ _ (by omega)
        · right; exact ⟨zni6 (by omega), by rw [nI_toInt (by omega)]; omega⟩
  exact key 60 false 0 (by omega)
theorem zfs_ref {r : Int32} (h : r = -6 ∨ (r ≠ -6 ∧ 0 ≤ r.toInt)) : (r < 0 ↔ r = -6) := by
  constructor
  · intro q
    rcases h with e | ⟨_, e⟩
    · exact e
    · rw [Int32.lt_iff_toInt_lt] at q
      have q' : r.toInt < 0 := q
      omega
  · intro q; rw [q]; decide
/-- the reference tries a season and takes it back: nothing that counts has changed -/
theorem i_tryBack (h : Inv σ) (hc : c ≤ 60) (hcc : σ.1 69 27 = nI c) (hs : ∀ j, j < 60 → σ.1 80 j = s j) (hw : zWF s c 0)
    {F : zST → (zST → Prop) → Prop}
    (hF : ∀ σ10 : zST, ∀ R : zST → Prop, NR σ10 (zse s c 60 0 0 0 (fun r j => cV σ 1 r j)).1 → (∀ σ12 : zST, Inv σ12 → ((zse s c 60 0 0 0 (fun r j => cV σ 1 r j)).2.2 = -6 → σ12.1 69 29 = -6 ∧ σ12.1 69 30 = -6 ∧ σ12.1 69 31 = nI (zse s c 60 0 0 0 (fun r j => cV σ 1 r j)).2.1) → ((zse s c 60 0 0 0 (fun r j => cV σ 1 r j)).2.2 ≠ -6 → σ12.1 69 29 = nI (zse s c 60 0 0 0 (fun r j => cV σ 1 r j)).2.1 ∧ σ12.1 69 30 = (zse s c 60 0 0 0 (fun r j => cV σ 1 r j)).2.2) → R σ12) → wp_X9_putBack σ10 R → True) : True := trivial
theorem i_backInv {σ8 σ10 : zST} (h : Inv σ) (k1 : ∀ a j, a ≠ 81 → σ8.1 a j = σ.1 a j) (k2 : zHad σ8 σ) (k3 : ∀ a j, ¬ (70 ≤ a ∧ a ≤ 73) → ¬ (a = 69 ∧ (j = 12 ∨ 15 ≤ j ∧ j ≤ 17 ∨ 29 ≤ j ∧ j ≤ 31)) → σ10.1 a j = σ8.1 a j) (fin : ∀ σ12 : zST, Inv σ12 → (∀ j, 29 ≤ j → j ≤ 31 → σ12.1 69 j = σ10.1 69 j) → P σ12) : wp_X9_putBack σ10 P := by
  have hh : zHad σ10 σ := by
    obtain ⟨q1, q2, q3, q4, q5⟩ := k2
    refine ⟨fun k hk => ?_, ?_, ?_, ?_, ?_⟩
    · obtain ⟨w1, w2, w3, w4⟩ := q1 k hk
      refine ⟨?_, ?_, ?_, ?_⟩
      · rw [k3 81 _ (by omega) (by omega)]; exact w1
      · rw [k3 81 _ (by omega) (by omega)]; exact w2
      · rw [k3 81 _ (by omega) (by omega)]; exact w3
      · rw [k3 81 _ (by omega) (by omega)]; exact w4
    · rw [k3 81 _ (by omega) (by omega)]; exact q2
    · rw [k3 81 _ (by omega) (by omega)]; exact q3
    · rw [k3 81 _ (by omega) (by omega)]; exact q4
    · rw [k3 81 _ (by omega) (by omega)]; exact q5
  refine i_putBack hh (fun σ12 g1 g2 g3 g4 g5 g6 => fin σ12 (Inv_fr2 (fun a j x => ?_) h) (fun j w1 w2 => g1 69 j (by omega) (by omega)))
  by_cases e1 : 70 ≤ a ∧ a ≤ 73
  · exact g2 a j e1.1 e1.2 (by omega)
  · by_cases e2 : a = 69 ∧ (j = 12 ∨ 15 ≤ j ∧ j ≤ 17)
    · obtain ⟨rfl, e2⟩ := e2
      rcases (show j = 12 ∨ j = 15 ∨ j = 16 ∨ j = 17 by omega) with rfl | rfl | rfl | rfl
      · exact g3
      · exact g4
      · exact g5
      · exact g6
    · rw [g1 a j e1 e2, k3 a j e1 (by omega), k1 a j (by omega)]
theorem s_judge (h : Inv σ) {K : Int32 → Int32 → zST → Prop} (hk : ∀ r σ', Inv σ' → K r r σ') : wp_X8_judge a1 σ (fun r σ1 => wp_X9_judge a1 σ1 (fun r' σ2 => K r r' σ2)) := by
  unfold wp_X8_judge wp_X9_judge
  obtain ⟨c, h60, c1, c2, c3⟩ := IP_c h.2.1
  refine t_within (a := 0) (b := 1) rfl rfl (fun x1 x2 => ?_) (fun x => t_in (a := 0) (b := 1) rfl rfl (fun _ _ => by omega) (fun _ => hk _ _ h))
  refine i_faultAsSeason c1 h60 (fun k _ => rfl) ?_
  have z6 := zfs6 (s := σ.1 53) h60
  by_cases e : zfs (σ.1 53) c 60 false 0 = -6
  · rw [if_pos e]
    have hw : zWF (σ.1 53) c 0 := ⟨60, by omega, e⟩
    refine i_tryOut h h60 c1 (fun _ _ => rfl) hw (fun σ1 q1 q2 q3 q4 => ?_)
    have h1 : Inv σ1 := Inv_fr (fun a k x => q4 a k (by omega)) h
    have ecv : (fun r j => cV σ1 1 r j) = (fun r j => cV σ 1 r j) := by
      funext r j
      exact cV_fr (fun a k x y => q4 a k (by omega)) r j
    rintro _ rfl
    refine t_in (a := 0) (b := 1) rfl rfl (fun _ _ => ?_) (fun y => by omega)
    have c2' : σ1.1 69 27 = nI c := by rw [q4 69 27 (by omega)]; exact c2
    have c3' : ∀ j, j < 60 → σ1.1 80 j = σ.1 53 j := fun j hj => by rw [q4 80 j (by omega)]; exact c3 j hj
    refine i_faultOfSeason c2' h60 c3' ?_
    rw [if_pos ((zfs_ref z6).mpr e)]
    refine i_keepNow (fun σ8 k1 k2 => ?_)
    have hS8 : NR σ8 (fun r j => cV σ 1 r j) := by
      intro r j hj
      rw [← ecv, ← NR_of_IB h1.1 r j hj]
      exact mV_fr (fun a k x => k1 a k (by omega)) (zl_len hj)
    refine i_goSeason hS8 (OKS_of h.1) h60 (by rw [k1 69 27 (by omega)]; exact c2') (fun j hj => by rw [k1 80 j (by omega)]; exact c3' j hj) hw (fun σ10 w1 w2 w3 w4 => ?_)
    refine i_backInv h1 k1 k2 w4 (fun σ12 h12 v1 => ?_)
    rintro _ rfl
    rw [q2, q3, v1 29 (by omega) (by omega), v1 30 (by omega) (by omega)]
    by_cases e2 : (zse (σ.1 53) c 60 0 0 0 (fun r j => cV σ 1 r j)).2.2 = -6
    · obtain ⟨u1, u2, u3⟩ := w2 e2
      rw [if_pos e2, u1, u2, e2]
      have : (if a1 = (0 : Int32) then (-6 : Int32) else -6) = -6 := by split <;> rfl
      rw [this]
      exact hk _ _ h12
    · obtain ⟨u1, u2⟩ := w3 e2
      rw [if_neg e2, u1, u2]
      rcases zS2 x1 x2 with rfl | rfl
      · exact hk _ _ h12
      · exact hk _ _ h12
  · rw [if_neg e]
    refine t_in (a := 0) (b := 1) rfl rfl (fun _ _ => ?_) (fun y => by omega)
    refine i_faultOfSeason c2 h60 c3 ?_
    rw [if_neg (fun q => e ((zfs_ref z6).mp q))]
    exact hk _ _ h
theorem i_seasonCanBe {Q : Int32 → zST → Prop} (h : Inv σ) (h60 : c ≤ 60) (c1 : σ.1 52 1 = nI c)
    (f1 : zWF (σ.1 53) c 0 → zfs (σ.1 53) c 60 false 0 = -6 → ∀ σ1 : zST, SR σ1 (zse (σ.1 53) c 60 0 0 0 (fun r j => cV σ 1 r j)).1 → σ1.1 54 1 = nI (zse (σ.1 53) c 60 0 0 0 (fun r j => cV σ 1 r j)).2.1 → (∀ a j, a < 54 ∨ 62 < a → σ1.1 a j = σ.1 a j) → Q (if (zse (σ.1 53) c 60 0 0 0 (fun r j => cV σ 1 r j)).2.2 = -6 then 1 else 0) σ1)
    (f0 : zfs (σ.1 53) c 60 false 0 ≠ -6 → Q 0 σ) : wp_X8_seasonCanBe σ Q := by
  unfold wp_X8_seasonCanBe
  refine i_faultAsSeason c1 h60 (fun k _ => rfl) ?_
  by_cases e : zfs (σ.1 53) c 60 false 0 = -6
  · rw [if_pos e]
    have hw : zWF (σ.1 53) c 0 := ⟨60, by omega, e⟩
    refine i_tryOut h h60 c1 (fun _ _ => rfl) hw (fun σ1 q1 q2 q3 q4 => ?_)
    rintro _ rfl
    rw [q3]
    have := f1 hw e σ1 q1 q2 q4
    split
    · next e2 => rw [if_pos e2] at this; exact ⟨zB1, this⟩
    · next e2 => rw [if_neg e2] at this; exact ⟨zB0, this⟩
  · rw [if_neg e]
    exact f0 e
theorem s_behind (h : Inv σ) {K : Int32 → Int32 → zST → Prop} (hk : ∀ r σ', Inv σ' → K r r σ') : wp_X8_behind a1 a2 σ (fun r σ1 => wp_X9_behind a1 a2 σ1 (fun r' σ2 => K r r' σ2)) := by
  unfold wp_X8_behind wp_X9_behind
  obtain ⟨c, h60, c1, c2, c3⟩ := IP_c h.2.1
  have e1 := b_ships h.1
  refine t_has rfl (fun x1 x2 x3 => ?_) (fun x => t_isShip e1.1.symm (fun y1 y2 y3 => absurd ⟨y1, y2, y3⟩ x) (fun _ => hk _ _ h))
  refine t_within (a := 0) (b := 2) rfl rfl (fun x4 x5 => ?_) (fun x => t_isShip e1.1.symm (fun _ _ _ => t_in (a := 0) (b := 2) rfl rfl (fun _ _ => by omega) (fun _ => hk _ _ h)) (fun y => absurd ⟨x1, x2, x3⟩ y))
  have z6 := zfs6 (s := σ.1 53) h60
  have hv : vp_in a1 6 := zv x1 (by omega)
  have hcl : a1.toNatClampNeg < 6 := zcl x1 (by omega)
  refine i_seasonCanBe h h60 c1 (fun hw e σ1 q1 q2 q4 => ?_) (fun e => ?_)
  · have h1 : Inv σ1 := Inv_fr (fun a k x => q4 a k (by omega)) h
    have ecv : (fun r j => cV σ1 1 r j) = (fun r j => cV σ 1 r j) := by
      funext r j
      exact cV_fr (fun a k x y => q4 a k (by omega)) r j
    have c2' : σ1.1 69 27 = nI c := by rw [q4 69 27 (by omega)]; exact c2
    have c3' : ∀ j, j < 60 → σ1.1 80 j = σ.1 53 j := fun j hj => by rw [q4 80 j (by omega)]; exact c3 j hj
    have ref : ∀ r, (r = if (zse (σ.1 53) c 60 0 0 0 (fun r j => cV σ 1 r j)).2.2 = -6 then (if a2 = 0 then (zse (σ.1 53) c 60 0 0 0 (fun r j => cV σ 1 r j)).1 1 a1.toNatClampNeg else if a2 = 1 then (zse (σ.1 53) c 60 0 0 0 (fun r j => cV σ 1 r j)).1 2 a1.toNatClampNeg else (zse (σ.1 53) c 60 0 0 0 (fun r j => cV σ 1 r j)).1 3 a1.toNatClampNeg) else -5) → wp_X9_isShip a1 σ1 (fun r1 => (if r1 = (0) then K r (-1 : Int32) σ1 else wp_X9_in (a2.toInt64) (0 : Int64) (2 : Int64) σ1 (fun r4 => (if r4 = (0) then K r (-2 : Int32) σ1 else wp_X9_faultOfSeason σ1 (fun r7 => (if r7 < (0) then wp_X9_keepNow σ1 (fun σ11 => wp_X9_goSeason σ11 (fun σ13 => wp_X9_stateOf a1 a2 σ13 (fun r14 => wp_X9_putBack σ13 (fun σ17 => ∀ z19 : Int32, z19 = (if (σ17.1 69 29) < (0) then r14 else (-5 : Int32)) → K r z19 σ17)))) else K r (-5 : Int32) σ1)))))) := by
      intro r hr
      refine t_isShip (x := σ.1 2 0) (by rw [q4 69 0 (by omega), e1.1]) (fun _ _ _ => ?_) (fun y => absurd ⟨x1, x2, x3⟩ y)
      refine t_in (a := 0) (b := 2) rfl rfl (fun _ _ => ?_) (fun y => by omega)
      refine i_faultOfSeason c2' h60 c3' ?_
      rw [if_pos ((zfs_ref z6).mpr e)]
      refine i_keepNow (fun σ8 k1 k2 => ?_)
      have hS8 : NR σ8 (fun r j => cV σ 1 r j) := by
        intro r j hj
        rw [← ecv, ← NR_of_IB h1.1 r j hj]
        exact mV_fr (fun a k x => k1 a k (by omega)) (zl_len hj)
      refine i_goSeason hS8 (OKS_of h.1) h60 (by rw [k1 69 27 (by omega)]; exact c2') (fun j hj => by rw [k1 80 j (by omega)]; exact c3' j hj) hw (fun σ10 w1 w2 w3 w4 => ?_)
      refine ⟨?_, ?_⟩
      · split
        · exact ⟨hv, trivial⟩
        · split <;> exact ⟨hv, trivial⟩
      rintro _ rfl
      refine i_backInv h1 k1 k2 w4 (fun σ12 h12 v1 => ?_)
      rintro _ rfl
      rw [v1 29 (by omega) (by omega)]
      have t1 : σ10.1 73 a1.toNatClampNeg = _ := w1 1 _ hcl
      have t2 : σ10.1 70 a1.toNatClampNeg = _ := w1 2 _ hcl
      have t3 : σ10.1 71 a1.toNatClampNeg = _ := w1 3 _ hcl
      by_cases e2 : (zse (σ.1 53) c 60 0 0 0 (fun r j => cV σ 1 r j)).2.2 = -6
      · rw [if_pos e2] at hr
        rw [(w2 e2).1, if_pos (by decide), t1, t2, t3, ← hr]
        exact hk _ _ h12
      · rw [if_neg e2] at hr
        have hp := zse_p (s := σ.1 53) (c := c) 60 0 0 0 (fun r j => cV σ 1 r j) (by omega) (by omega)
        rw [(w3 e2).1, if_neg (nI_pos (by omega)), hr]
        exact hk _ _ h12
    by_cases e2 : (zse (σ.1 53) c 60 0 0 0 (fun r j => cV σ 1 r j)).2.2 = -6
    · rw [if_pos e2, if_neg (by decide)]
      have t1 : σ1.1 56 a1.toNatClampNeg = _ := q1 1 _ hcl
      have t2 : σ1.1 57 a1.toNatClampNeg = _ := q1 2 _ hcl
      have t3 : σ1.1 58 a1.toNatClampNeg = _ := q1 3 _ hcl
      unfold wp_X6_look
      by_cases d0 : a2 = 0
      · rw [if_pos d0]
        exact ⟨hv, ref _ (by rw [if_pos e2, if_pos d0]; exact t1)⟩
      · rw [if_neg d0]
        refine ⟨by split <;> exact ⟨hv, trivial⟩, ?_⟩
        rintro _ rfl
        refine ref _ ?_
        rw [if_pos e2, if_neg d0]
        by_cases d1 : a2 = 1
        · rw [if_pos d1, if_pos d1]; exact t2
        · rw [if_neg d1, if_neg d1]; exact t3
    · rw [if_neg e2, if_pos rfl]
      exact ref _ (by rw [if_neg e2])
  · rw [if_pos rfl]
    refine t_isShip e1.1.symm (fun _ _ _ => ?_) (fun y => absurd ⟨x1, x2, x3⟩ y)
    refine t_in (a := 0) (b := 2) rfl rfl (fun _ _ => ?_) (fun y => by omega)
    refine i_faultOfSeason c2 h60 c3 ?_
    rw [if_neg (fun q => e ((zfs_ref z6).mp q))]
    exact hk _ _ h
end S
end
section
section S
variable {σ σ0 : zST} {S : zSea} {k : Nat} {P : zST → Prop} {s : Nat → Int32} {c : Nat} {a1 a2 a3 a4 a5 : Int32}
theorem s_done (h : Inv σ) {K : Int32 → Int32 → zST → Prop} (hk : ∀ r σ', Inv σ' → K r r σ') : wp_X8_done σ (fun r σ1 => wp_X9_done σ1 (fun r' σ2 => K r r' σ2)) := by
  unfold wp_X8_done wp_X9_done
  obtain ⟨c, h60, c1, c2, c3⟩ := IP_c h.2.1
  have z6 := zfs6 (s := σ.1 53) h60
  refine i_seasonCanBe h h60 c1 (fun hw e σ1 q1 q2 q4 => ?_) (fun e => ?_)
  · have h1 : Inv σ1 := Inv_fr (fun a k x => q4 a k (by omega)) h
    have ecv : (fun r j => cV σ1 1 r j) = (fun r j => cV σ 1 r j) := by
      funext r j
      exact cV_fr (fun a k x y => q4 a k (by omega)) r j
    have c2' : σ1.1 69 27 = nI c := by rw [q4 69 27 (by omega)]; exact c2
    have c3' : ∀ j, j < 60 → σ1.1 80 j = σ.1 53 j := fun j hj => by rw [q4 80 j (by omega)]; exact c3 j hj
    have hp := zse_p (s := σ.1 53) (c := c) 60 0 0 0 (fun r j => cV σ 1 r j) (by omega) (by omega)
    by_cases e2 : (zse (σ.1 53) c 60 0 0 0 (fun r j => cV σ 1 r j)).2.2 = -6
    · rw [if_pos e2, if_neg (by decide)]
      refine i_become6 (by omega) (fun σ5 g1 g2 g3 g4 => ?_)
      rintro _ rfl
      have f6 : ∀ a j, 9 < a ∨ a < 2 → ¬ (a = 52 ∧ j = 1) → (wI σ5 52 1 0).1 a j = σ1.1 a j := fun a j w1 w2 => by rw [wI_at, if_neg w2]; exact g1 a j (by omega)
      have m54 : (wI σ5 52 1 0).1 54 1 = nI (zse (σ.1 53) c 60 0 0 0 (fun r j => cV σ 1 r j)).2.1 := by rw [f6 54 1 (by omega) (by omega)]; exact q2
      have g0 : ∀ a j, 2 ≤ a → a ≤ 9 → (wI σ5 52 1 0).1 a j = σ5.1 a j := fun a j w1 w2 => by rw [wI_at, if_neg (by omega)]
      have m52 : (wI σ5 52 1 0).1 52 1 = 0 := by rw [wI_at, if_pos ⟨rfl, rfl⟩]
      generalize wI σ5 52 1 0 = σ6 at f6 m54 g0 m52 ⊢
      refine i_faultOfSeason (s := σ.1 53) (by rw [f6 69 27 (by omega) (by omega)]; exact c2') h60 (fun j hj => by rw [f6 80 j (by omega) (by omega)]; exact c3' j hj) ?_
      rw [if_pos ((zfs_ref z6).mpr e)]
      refine i_keepNow (fun σ8 k1 k2 => ?_)
      have hS8 : NR σ8 (fun r j => cV σ 1 r j) := by
        intro r j hj
        rw [← ecv, ← NR_of_IB h1.1 r j hj]
        exact mV_fr (fun a k x => by rw [k1 a k (by omega), f6 a k (by omega) (by omega)]) (zl_len hj)
      refine i_goSeason hS8 (OKS_of h.1) h60 (by rw [k1 69 27 (by omega), f6 69 27 (by omega) (by omega)]; exact c2') (fun j hj => by rw [k1 80 j (by omega), f6 80 j (by omega) (by omega)]; exact c3' j hj) hw (fun σ10 w1 w2 w3 w4 => ?_)
      obtain ⟨u1, u2, u3⟩ := w2 e2
      rw [u1, if_pos (by decide)]
      intro σ9 e9
      have h9 : ∀ a j, σ9.1 a j = if a = 69 ∧ j = 27 then 0 else σ10.1 a j := fun a j => by rw [e9, wI_at]
      have m31 : σ9.1 69 31 = nI (zse (σ.1 53) c 60 0 0 0 (fun r j => cV σ 1 r j)).2.1 := by rw [h9, if_neg (by omega)]; exact u3
      rw [m54, m31]
      have fr : ∀ a j, 9 < a ∨ a < 2 → ¬ (54 ≤ a ∧ a ≤ 62) → ¬ (a = 52 ∧ j = 1) → ¬ (70 ≤ a ∧ a ≤ 73) → ¬ (a = 69 ∧ (j = 12 ∨ 15 ≤ j ∧ j ≤ 17 ∨ 29 ≤ j ∧ j ≤ 31 ∨ j = 27)) → a ≠ 81 → σ9.1 a j = σ.1 a j := by
        intro a j v1 v2 v3 v4 v5 v6
        rw [h9, if_neg (by omega), w4 a j v4 (by omega), k1 a j v6, f6 a j v1 v3, q4 a j (by omega)]
      have sea : ∀ a j, 2 ≤ a → a ≤ 9 → σ9.1 a j = σ5.1 a j := by
        intro a j v1 v2
        rw [h9, if_neg (by omega), w4 a j (by omega) (by omega), k1 a j (by omega)]
        exact g0 a j v1 v2
      have hok := zse_ok (s := σ.1 53) h60 60 0 0 0 (fun r j => cV σ 1 r j) hw (by omega) (OKS_of h.1)
      have c7 : ∀ r j, j < zl r → cV σ9 1 r j = (zse (σ.1 53) c 60 0 0 0 (fun r j => cV σ 1 r j)).1 r j := by
        intro r j hj
        rw [← q1 r j hj]
        have hr := zl8 hj
        match r, hr with
        | 0, _ =>
          match j, hj with
          | 0, _ => exact (sea 2 0 (by omega) (by omega)).trans g2
          | 1, _ => exact (sea 2 7 (by omega) (by omega)).trans g3
          | j + 2, hj => exact absurd hj (by simp [zl])
        | 1, _ => exact (sea 3 j (by omega) (by omega)).trans (g4 1 j (by omega) (by omega) hj)
        | 2, _ => exact (sea 4 j (by omega) (by omega)).trans (g4 2 j (by omega) (by omega) hj)
        | 3, _ => exact (sea 5 j (by omega) (by omega)).trans (g4 3 j (by omega) (by omega) hj)
        | 4, _ => exact (sea 6 j (by omega) (by omega)).trans (g4 4 j (by omega) (by omega) hj)
        | 5, _ => exact (sea 7 j (by omega) (by omega)).trans (g4 5 j (by omega) (by omega) hj)
        | 6, _ => exact (sea 8 j (by omega) (by omega)).trans (g4 6 j (by omega) (by omega) hj)
        | 7, _ => exact (sea 9 j (by omega) (by omega)).trans (g4 7 j (by omega) (by omega) hj)
      have m7 : ∀ r j, j < zl r → mV σ9 r j = (zse (σ.1 53) c 60 0 0 0 (fun r j => cV σ 1 r j)).1 r j := by
        intro r j hj
        rw [← w1 r j hj]
        exact mV_fr (fun a k x => by rw [h9, if_neg (by omega)]) (zl_len hj)
      have rest : ∀ r j, j < zLen r → ¬ j < zl r → cV σ9 1 r j = cV σ 1 r j ∧ mV σ9 r j = mV σ r j := by
        intro r j hj hn
        have hr := zLen13 hj
        match r, hr with
        | 0, _ =>
          match j, hj with
          | 0, _ => exact absurd (show 0 < zl 0 by decide) hn
          | 1, _ => exact absurd (show 1 < zl 0 by decide) hn
          | 2, _ => exact ⟨fr 10 0 (by omega) (by omega) (by omega) (by omega) (by omega) (by omega), fr 69 18 (by omega) (by omega) (by omega) (by omega) (by omega) (by omega)⟩
          | 3, _ => exact ⟨fr 13 0 (by omega) (by omega) (by omega) (by omega) (by omega) (by omega), fr 69 21 (by omega) (by omega) (by omega) (by omega) (by omega) (by omega)⟩
          | 4, _ => exact ⟨fr 15 0 (by omega) (by omega) (by omega) (by omega) (by omega) (by omega), fr 69 25 (by omega) (by omega) (by omega) (by omega) (by omega) (by omega)⟩
          | j + 5, h5 => exact absurd h5 (by simp [zLen])
        | 1, _ => exact absurd hj hn
        | 2, _ => exact absurd hj hn
        | 3, _ => exact absurd hj hn
        | 4, _ => exact absurd hj hn
        | 5, _ => exact absurd hj hn
        | 6, _ => exact absurd hj hn
        | 7, _ => exact absurd hj hn
        | 8, _ => exact ⟨fr 11 j (by omega) (by omega) (by omega) (by omega) (by omega) (by omega), fr 75 j (by omega) (by omega) (by omega) (by omega) (by omega) (by omega)⟩
        | 9, _ => exact ⟨fr 12 j (by omega) (by omega) (by omega) (by omega) (by omega) (by omega), fr 76 j (by omega) (by omega) (by omega) (by omega) (by omega) (by omega)⟩
        | 10, _ => exact ⟨fr 14 j (by omega) (by omega) (by omega) (by omega) (by omega) (by omega), fr 77 j (by omega) (by omega) (by omega) (by omega) (by omega) (by omega)⟩
        | 11, _ => exact ⟨fr 16 j (by omega) (by omega) (by omega) (by omega) (by omega) (by omega), fr 78 j (by omega) (by omega) (by omega) (by omega) (by omega) (by omega)⟩
        | 12, _ =>
          refine ⟨fr 17 j (by omega) (by omega) (by omega) (by omega) (by omega) (by omega), ?_⟩
          show σ9.1 79 j - zpc (σ9.1 78 j) = σ.1 79 j - zpc (σ.1 78 j)
          rw [fr 79 j (by omega) (by omega) (by omega) (by omega) (by omega) (by omega), fr 78 j (by omega) (by omega) (by omega) (by omega) (by omega) (by omega)]
      refine hk _ _ ⟨⟨fun r j hj => ?_, fun r j hj => ?_, fun j hj => ?_, fun j hj => ?_⟩, ⟨?_, ?_, ?_, fun j hj => ?_⟩, II_fr (fun a j x => fr a j (by omega) (by omega) (by omega) (by omega) (by omega) (by omega)) h.2.2⟩
      · by_cases q : j < zl r
        · rw [c7 r j q, m7 r j q]
        · rw [(rest r j hj q).1, (rest r j hj q).2]; exact h.1.1 r j hj
      · by_cases q : j < zl r
        · rw [c7 r j q]; exact hok.1 r j q
        · rw [(rest r j hj q).1]; exact h.1.2.1 r j hj
      · rw [(rest 12 j hj (by simp [zl])).1, (rest 11 j hj (by simp [zl])).1]
        exact h.1.2.2.1 j hj
      · rw [c7 0 0 (by decide), c7 1 j hj, c7 2 j hj]
        exact hok.2 j hj
      · show σ9.1 52 1 = σ9.1 69 27
        rw [h9 69 27, if_pos ⟨rfl, rfl⟩, h9, if_neg (by omega), w4 52 1 (by omega) (by omega), k1 52 1 (by omega)]
        exact m52
      · show 0 ≤ (σ9.1 52 1).toInt
        rw [h9, if_neg (by omega), w4 52 1 (by omega) (by omega), k1 52 1 (by omega), m52]; decide
      · show (σ9.1 52 1).toInt ≤ 60
        rw [h9, if_neg (by omega), w4 52 1 (by omega) (by omega), k1 52 1 (by omega), m52]; decide
      · rw [fr 53 j (by omega) (by omega) (by omega) (by omega) (by omega) (by omega), fr 80 j (by omega) (by omega) (by omega) (by omega) (by omega) (by omega)]
        exact (c3 j hj).symm
    · rw [if_neg e2, if_pos rfl]
      refine i_faultOfSeason c2' h60 c3' ?_
      rw [if_pos ((zfs_ref z6).mpr e)]
      refine i_keepNow (fun σ8 k1 k2 => ?_)
      have hS8 : NR σ8 (fun r j => cV σ 1 r j) := by
        intro r j hj
        rw [← ecv, ← NR_of_IB h1.1 r j hj]
        exact mV_fr (fun a k x => k1 a k (by omega)) (zl_len hj)
      refine i_goSeason hS8 (OKS_of h.1) h60 (by rw [k1 69 27 (by omega)]; exact c2') (fun j hj => by rw [k1 80 j (by omega)]; exact c3' j hj) hw (fun σ10 w1 w2 w3 w4 => ?_)
      rw [(w3 e2).1, if_neg (nI_pos (by omega))]
      exact i_backInv h1 k1 k2 w4 (fun σ12 h12 v1 => hk _ _ h12)
  · rw [if_pos rfl]
    refine i_faultOfSeason c2 h60 c3 ?_
    rw [if_neg (fun q => e ((zfs_ref z6).mp q))]
    exact hk _ _ h
end S
end
section
/-! images -/
def zloc (t : Nat) : Nat × Nat := ([(69, 0), (69, 5), (69, 6), (69, 7), (69, 8), (69, 9), (69, 10), (69, 11), (69, 12), (69, 14), (69, 15), (69, 16), (69, 17), (69, 18), (69, 21), (69, 25), (70, 0), (71, 0), (72, 0), (73, 0), (78, 0), (79, 0), (70, 1), (71, 1), (72, 1), (73, 1), (78, 1), (79, 1), (70, 2), (71, 2), (72, 2), (73, 2), (78, 2), (79, 2), (70, 3), (71, 3), (72, 3), (73, 3), (78, 3), (79, 3), (70, 4), (71, 4), (72, 4), (73, 4), (78, 4), (79, 4), (70, 5), (71, 5), (72, 5), (73, 5), (78, 5), (79, 5), (75, 0), (76, 0), (75, 1), (76, 1), (75, 2), (76, 2), (75, 3), (76, 3), (77, 0), (77, 1), (77, 2), (77, 3), (77, 4), (77, 5), (77, 6), (77, 7), (74, 0), (74, 1), (74, 2), (74, 3), (74, 4), (74, 5), (74, 6), (74, 7), (74, 8), (74, 9), (74, 10), (74, 11), (74, 12), (74, 13), (74, 14), (74, 15), (74, 16), (74, 17), (74, 18), (74, 19), (74, 20), (74, 21), (74, 22), (74, 23)] : List (Nat × Nat)).getD t (0, 0)
theorem zloc_inj : ∀ t, t < 92 → ∀ u, u < 92 → zloc t = zloc u → t = u := by decide +kernel
theorem zloc_rng : ∀ t, t < 92 → 69 ≤ (zloc t).1 ∧ (zloc t).1 ≤ 79 ∧ ((zloc t).1 = 69 → (zloc t).2 ≤ 25) := by decide +kernel
theorem zlocA : ∀ k, k < 6 → zloc (16 + 6 * k) = (70, k) ∧ zloc (16 + 6 * k + 1) = (71, k) ∧ zloc (16 + 6 * k + 2) = (72, k) ∧ zloc (16 + 6 * k + 3) = (73, k) ∧ zloc (16 + 6 * k + 4) = (78, k) ∧ zloc (16 + 6 * k + 5) = (79, k) := by decide +kernel
theorem zlocB : ∀ k, k < 4 → zloc (52 + 2 * k) = (75, k) ∧ zloc (52 + 2 * k + 1) = (76, k) := by decide +kernel
theorem zlocC : ∀ k, k < 8 → zloc (60 + k) = (77, k) := by decide +kernel
theorem zlocD : ∀ k, k < 24 → zloc (68 + k) = (74, k) := by decide +kernel
def zval (σ0 : zST) (m : Int32) (B u : Nat) : Int32 := if m = 0 then σ0.1 85 (B + u) else σ0.1 (zloc u).1 (zloc u).2
/-- where passAll stands after t numbers: m = 1 writes, 0 reads -/
def zPa (σ0 : zST) (m : Int32) (B t : Nat) (σ : zST) : Prop := (∀ u, u < t → σ.1 (zloc u).1 (zloc u).2 = zval σ0 m B u ∧ σ.1 85 (B + u) = zval σ0 m B u) ∧ (∀ x y, (∀ u, u < t → ¬ (x = (zloc u).1 ∧ y = (zloc u).2)) → ¬ (x = 85 ∧ B ≤ y ∧ y < B + t) → ¬ (x = 69 ∧ y = 38) → σ.1 x y = σ0.1 x y) ∧ σ.1 69 38 = nI (B + t) ∧ σ.1 69 39 = m
section S
variable {σ σ0 : zST} {m : Int32} {B t a j : Nat} {P : zST → Prop}
theorem i_pass {Q : Int32 → zST → Prop} (hW : zPa σ0 m B t σ) (hB : B ≤ 120) (ht : t < 92) (hl : zloc t = (a, j)) (h : ∀ r σ1, zPa σ0 m B (t + 1) (wI σ1 a j r) → Q r σ1) : wp_X9_pass (σ.1 a j) σ Q := by
  obtain ⟨w1, w2, w3, w4⟩ := hW
  have rg := zloc_rng t ht
  rw [hl] at rg
  have rg1 : 69 ≤ a := rg.1
  have rg2 : a ≤ 79 := rg.2.1
  have rg3 : a = 69 → j ≤ 25 := rg.2.2
  have hv : vp_in (σ.1 69 38) 240 := by rw [w3]; exact vp_in_nI (by omega) (by omega)
  have hcl : (σ.1 69 38).toNatClampNeg = B + t := by rw [w3]; exact nI_clamp (by omega)
  have k1 : σ.1 a j = σ0.1 a j := w2 a j (fun u hu q => by
    have := zloc_inj t ht u (by omega) (by rw [hl]; exact Prod.ext q.1 q.2)
    omega) (by omega) (by omega)
  have k2 : σ.1 85 (B + t) = σ0.1 85 (B + t) := w2 85 _ (fun u hu q => by
    have := (zloc_rng u (by omega)).2.1
    omega) (by omega) (by omega)
  have hz : (if σ.1 69 39 = (0 : Int32) then σ.1 85 (σ.1 69 38).toNatClampNeg else σ.1 a j) = zval σ0 m B t := by
    unfold zval
    rw [w4, hcl, k2, k1, hl]
  unfold wp_X9_pass
  refine ⟨?_, ?_⟩
  · split
    · exact ⟨hv, trivial⟩
    · trivial
  · rw [hz]
    rintro _ rfl
    refine ⟨hv, ?_⟩
    intro σ7 e7
    have h7 : ∀ x y, σ7.1 x y = if x = 85 ∧ y = B + t then zval σ0 m B t else σ.1 x y := fun x y => by rw [e7, wI_at, hcl]
    have m38 : σ7.1 69 38 = nI (B + t) := by rw [h7, if_neg (by omega)]; exact w3
    refine h _ _ ?_
    have hf : ∀ x y, (wI (wI σ7 69 38 (σ7.1 69 38 + 1)) a j (zval σ0 m B t)).1 x y = if x = a ∧ y = j then zval σ0 m B t else if x = 69 ∧ y = 38 then nI (B + (t + 1)) else if x = 85 ∧ y = B + t then zval σ0 m B t else σ.1 x y := by
      intro x y
      rw [wI_at, wI_at, m38, nI_1, h7]
      rfl
    generalize wI (wI σ7 69 38 (σ7.1 69 38 + 1)) a j (zval σ0 m B t) = σ' at hf ⊢
    refine ⟨fun u hu => ?_, fun x y v1 v2 v3 => ?_, ?_, ?_⟩
    · have ru := zloc_rng u (by omega)
      by_cases e : u = t
      · subst e
        rw [hl]
        refine ⟨?_, ?_⟩
        · rw [hf, if_pos ⟨rfl, rfl⟩]
        · rw [hf, if_neg (by omega), if_neg (by omega), if_pos ⟨rfl, rfl⟩]
      · obtain ⟨g1, g2⟩ := w1 u (by omega)
        refine ⟨?_, ?_⟩
        · rw [hf, if_neg, if_neg, if_neg (by omega)]
          · exact g1
          · rintro ⟨q1, q2⟩
            have := ru.2.2 q1
            omega
          · rintro ⟨q1, q2⟩
            have := zloc_inj t ht u (by omega) (by rw [hl]; exact (Prod.ext q1 q2).symm)
            omega
        · rw [hf, if_neg (by omega), if_neg (by omega), if_neg (by omega)]; exact g2
    · have n1 : ¬ (x = a ∧ y = j) := by
        have := v1 t (by omega)
        rw [hl] at this
        exact this
      rw [hf, if_neg n1, if_neg v3, if_neg (by omega)]
      exact w2 x y (fun u hu => v1 u (by omega)) (by omega) v3
    · rw [hf, if_neg (by omega), if_pos ⟨rfl, rfl⟩]
    · rw [hf, if_neg (by omega), if_neg (by omega), if_neg (by omega)]; exact w4
theorem i_passNumbers (hW : zPa σ0 m B 0 σ) (hB : B ≤ 120) (h : ∀ σ', zPa σ0 m B 16 σ' → P σ') : wp_X9_passNumbers σ P := by
  unfold wp_X9_passNumbers
  refine i_pass hW hB (t := 0) (by omega) rfl (fun r0 s0 hW => ?_)
  rintro _ rfl
  refine i_pass hW hB (t := 1) (by omega) rfl (fun r1 s1 hW => ?_)
  rintro _ rfl
  refine i_pass hW hB (t := 2) (by omega) rfl (fun r2 s2 hW => ?_)
  rintro _ rfl
  refine i_pass hW hB (t := 3) (by omega) rfl (fun r3 s3 hW => ?_)
  rintro _ rfl
  refine i_pass hW hB (t := 4) (by omega) rfl (fun r4 s4 hW => ?_)
  rintro _ rfl
  refine i_pass hW hB (t := 5) (by omega) rfl (fun r5 s5 hW => ?_)
  rintro _ rfl
  refine i_pass hW hB (t := 6) (by omega) rfl (fun r6 s6 hW => ?_)
  rintro _ rfl
  refine i_pass hW hB (t := 7) (by omega) rfl (fun r7 s7 hW => ?_)
  rintro _ rfl
  refine i_pass hW hB (t := 8) (by omega) rfl (fun r8 s8 hW => ?_)
  rintro _ rfl
  refine i_pass hW hB (t := 9) (by omega) rfl (fun r9 s9 hW => ?_)
  rintro _ rfl
  refine i_pass hW hB (t := 10) (by omega) rfl (fun r10 s10 hW => ?_)
  rintro _ rfl
  refine i_pass hW hB (t := 11) (by omega) rfl (fun r11 s11 hW => ?_)
  rintro _ rfl
  refine i_pass hW hB (t := 12) (by omega) rfl (fun r12 s12 hW => ?_)
  rintro _ rfl
  refine i_pass hW hB (t := 13) (by omega) rfl (fun r13 s13 hW => ?_)
  rintro _ rfl
  refine i_pass hW hB (t := 14) (by omega) rfl (fun r14 s14 hW => ?_)
  rintro _ rfl
  exact i_pass hW hB (t := 15) (by omega) rfl (fun r15 s15 hW => h _ hW)
theorem i_passL6 (hB : B ≤ 120) (h : ∀ σ', zPa σ0 m B 52 σ' → P σ') : ∀ n i, n + i = 6 → ∀ σ : zST, zPa σ0 m B (16 + 6 * i) σ → wp_X9_passAll_L6 P (n + 1) (nI i) σ := by
  intro n
  induction n with
  | zero =>
    intro i hi σ hW
    unfold wp_X9_passAll_L6
    rw [if_pos (by rw [show i = 6 by omega]; decide)]
    rw [show i = 6 by omega] at hW
    exact h σ hW
  | succ n ih =>
    intro i hi σ hW
    unfold wp_X9_passAll_L6
    rw [if_neg (by rw [Int32.le_iff_toInt_le, nI_toInt (by omega)]; show ¬ (6 : Int) ≤ i; omega), nI_1, nI_clamp (by omega)]
    have hv : vp_in (nI i) 6 := vp_in_nI (by omega) (by omega)
    have hl := zlocA i (by omega)
    refine ⟨hv, i_pass hW hB (t := 16 + 6 * i) (by omega) hl.1 (fun r0 s0 hW => ⟨hv, ?_⟩)⟩
    refine ⟨hv, ?_⟩
    rintro _ rfl
    refine i_pass hW hB (t := 16 + 6 * i + 1) (by omega) hl.2.1 (fun r1 s1 hW => ⟨hv, ?_⟩)
    refine ⟨hv, ?_⟩
    rintro _ rfl
    refine i_pass hW hB (t := 16 + 6 * i + 2) (by omega) hl.2.2.1 (fun r2 s2 hW => ⟨hv, ?_⟩)
    refine ⟨hv, ?_⟩
    rintro _ rfl
    refine i_pass hW hB (t := 16 + 6 * i + 3) (by omega) hl.2.2.2.1 (fun r3 s3 hW => ⟨hv, ?_⟩)
    refine ⟨hv, ?_⟩
    rintro _ rfl
    refine i_pass hW hB (t := 16 + 6 * i + 4) (by omega) hl.2.2.2.2.1 (fun r4 s4 hW => ⟨hv, ?_⟩)
    refine ⟨hv, ?_⟩
    rintro _ rfl
    refine i_pass hW hB (t := 16 + 6 * i + 5) (by omega) hl.2.2.2.2.2 (fun r5 s5 hW => ⟨hv, ?_⟩)
    exact ih (i + 1) (by omega) _ (by rw [show 16 + 6 * (i + 1) = 16 + 6 * i + 5 + 1 by omega]; exact hW)
theorem i_passL116 (hB : B ≤ 120) (h : ∀ σ', zPa σ0 m B 60 σ' → P σ') : ∀ n i, n + i = 4 → ∀ σ : zST, zPa σ0 m B (52 + 2 * i) σ → wp_X9_passAll_L116 P (n + 1) (nI i) σ := by
  intro n
  induction n with
  | zero =>
    intro i hi σ hW
    unfold wp_X9_passAll_L116
    rw [if_pos (by rw [show i = 4 by omega]; decide)]
    rw [show i = 4 by omega] at hW
    exact h σ hW
  | succ n ih =>
    intro i hi σ hW
    unfold wp_X9_passAll_L116
    rw [if_neg (by rw [Int32.le_iff_toInt_le, nI_toInt (by omega)]; show ¬ (4 : Int) ≤ i; omega), nI_1, nI_clamp (by omega)]
    have hv : vp_in (nI i) 4 := vp_in_nI (by omega) (by omega)
    have hl := zlocB i (by omega)
    refine ⟨hv, i_pass hW hB (t := 52 + 2 * i) (by omega) hl.1 (fun r0 s0 hW => ⟨hv, ?_⟩)⟩
    refine ⟨hv, ?_⟩
    rintro _ rfl
    refine i_pass hW hB (t := 52 + 2 * i + 1) (by omega) hl.2 (fun r1 s1 hW => ⟨hv, ?_⟩)
    exact ih (i + 1) (by omega) _ (by rw [show 52 + 2 * (i + 1) = 52 + 2 * i + 1 + 1 by omega]; exact hW)
theorem i_passL161 (hB : B ≤ 120) (h : ∀ σ', zPa σ0 m B 68 σ' → P σ') : ∀ n i, n + i = 8 → ∀ σ : zST, zPa σ0 m B (60 + 1 * i) σ → wp_X9_passAll_L161 P (n + 1) (nI i) σ := by
  intro n
  induction n with
  | zero =>
    intro i hi σ hW
    unfold wp_X9_passAll_L161
    rw [if_pos (by rw [show i = 8 by omega]; decide)]
    rw [show i = 8 by omega] at hW
    exact h σ hW
  | succ n ih =>
    intro i hi σ hW
    unfold wp_X9_passAll_L161
    rw [if_neg (by rw [Int32.le_iff_toInt_le, nI_toInt (by omega)]; show ¬ (8 : Int) ≤ i; omega), nI_1, nI_clamp (by omega)]
    have hv : vp_in (nI i) 8 := vp_in_nI (by omega) (by omega)
    have hl := zlocC i (by omega)
    rw [show 60 + 1 * i = 60 + i by omega] at hW
    refine ⟨hv, i_pass hW hB (t := 60 + i) (by omega) hl (fun r0 s0 hW => ⟨hv, ?_⟩)⟩
    exact ih (i + 1) (by omega) _ (by rw [show 60 + 1 * (i + 1) = 60 + i + 1 by omega]; exact hW)
theorem i_passL191 (hB : B ≤ 120) (h : ∀ σ', zPa σ0 m B 92 σ' → P σ') : ∀ n i, n + i = 24 → ∀ σ : zST, zPa σ0 m B (68 + 1 * i) σ → wp_X9_passAll_L191 P (n + 1) (nI i) σ := by
  intro n
  induction n with
  | zero =>
    intro i hi σ hW
    unfold wp_X9_passAll_L191
    rw [if_pos (by rw [show i = 24 by omega]; decide)]
    rw [show i = 24 by omega] at hW
    exact h σ hW
  | succ n ih =>
    intro i hi σ hW
    unfold wp_X9_passAll_L191
    rw [if_neg (by rw [Int32.le_iff_toInt_le, nI_toInt (by omega)]; show ¬ (24 : Int) ≤ i; omega), nI_1, nI_clamp (by omega)]
    have hv : vp_in (nI i) 24 := vp_in_nI (by omega) (by omega)
    have hl := zlocD i (by omega)
    rw [show 68 + 1 * i = 68 + i by omega] at hW
    refine ⟨hv, i_pass hW hB (t := 68 + i) (by omega) hl (fun r0 s0 hW => ⟨hv, ?_⟩)⟩
    exact ih (i + 1) (by omega) _ (by rw [show 68 + 1 * (i + 1) = 68 + i + 1 by omega]; exact hW)
theorem i_passAll (hW : zPa σ0 m B 0 σ) (hB : B ≤ 120) (h : ∀ σ', zPa σ0 m B 92 σ' → P σ') : wp_X9_passAll σ P := by
  unfold wp_X9_passAll
  refine i_passNumbers hW hB (fun σ1 w1 => ?_)
  refine ⟨7, i_passL6 hB (fun σ2 w2 => ?_) 6 0 rfl σ1 w1⟩
  refine ⟨5, i_passL116 hB (fun σ3 w3 => ?_) 4 0 rfl σ2 w2⟩
  refine ⟨9, i_passL161 hB (fun σ4 w4 => ?_) 8 0 rfl σ3 w3⟩
  exact ⟨25, i_passL191 hB h 24 0 rfl σ4 w4⟩
end S
end
