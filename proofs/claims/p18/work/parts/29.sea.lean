/-! a season: what it does to a sea, told once for both -/
def zl (r : Nat) : Nat := ([2, 6, 6, 6, 6, 8, 24, 3] : List Nat).getD r 0
def sV (σ : zST) (r k : Nat) : Int32 := match r with
  | 0 => match k with | 0 => σ.1 55 0 | _ => σ.1 55 7
  | 1 => σ.1 56 k | 2 => σ.1 57 k | 3 => σ.1 58 k | 4 => σ.1 59 k | 5 => σ.1 60 k | 6 => σ.1 61 k | _ => σ.1 62 k
abbrev zSea : Type := Nat → Nat → Int32
def zTt (S : zSea) (k : Nat) : Int32 := if (if (0 : Int32) < S 5 0 - S 3 k then S 5 0 - S 3 k else 0) < S 2 k then (if (0 : Int32) < S 5 0 - S 3 k then S 5 0 - S 3 k else 0) else S 2 k
def zdw (x : Int32) : Int32 := ((75 : Int32) * x + 74) - ((75 : Int32) * x + 74) / 65537 * 65537
def zLw (S : zSea) (h : Int32) : Prop := ¬ S 6 (zmo h (S 0 1)).toNatClampNeg ≤ zdw (S 5 7) - zdw (S 5 7) / 10 * 10
noncomputable def zGt (S : zSea) (k : Nat) : zSea := fun r j => match r with
  | 1 => if j = k then (if S 2 k - zTt S k = 0 then 2 else 1) else S 1 j
  | 2 => if j = k then S 2 k - zTt S k else S 2 j
  | 3 => if j = k then (if S 2 k - zTt S k = 0 then 0 else if (0 : Int32) < S 3 k - S 5 0 then S 3 k - S 5 0 else 0) else S 3 j
  | 4 => if j = k then (if S 2 k - zTt S k = 0 then 0 else S 4 k) else S 4 j
  | 7 => if j = 0 then S 7 0 + zTt S k else if j = 1 then (if S 2 k - zTt S k = 0 then S 7 1 + S 4 k else S 7 1) else S 7 j
  | r => S r j
noncomputable def zGl (S : zSea) (k : Nat) : zSea := fun r j => match r with
  | 1 => if j = k then 2 else S 1 j
  | 2 => if j = k then 0 else S 2 j
  | 3 => if j = k then 0 else S 3 j
  | 4 => if j = k then 0 else S 4 j
  | 5 => if j = 7 then zdw (S 5 7) else S 5 j
  | 7 => if j = 0 then S 7 0 + S 2 k else if j = 1 then S 7 1 + S 4 k else S 7 j
  | r => S r j
noncomputable def zGw (S : zSea) (k : Nat) : zSea := fun r j => match r with
  | 1 => if j = k then 1 else S 1 j
  | 5 => if j = 7 then zdw (S 5 7) else S 5 j
  | r => S r j
noncomputable def zGc (S : zSea) (k : Nat) : zSea := fun r j => match r with
  | 1 => if j = k then 1 else S 1 j
  | 7 => if j = 2 then S 7 2 + S 5 2 * S 5 3 * S 2 k else S 7 j
  | r => S r j
noncomputable def zGo (S : zSea) (k : Nat) (sd h : Int32) : zSea := if sd = 0 then zGt S k else if sd = 1 then (if S 6 (zmo h (S 0 1)).toNatClampNeg ≤ zdw (S 5 7) - zdw (S 5 7) / 10 * 10 then zGw S k else zGl S k) else zGc S k
def SR (σ : zST) (S : zSea) : Prop := ∀ r k, k < zl r → sV σ r k = S r k
def NR (σ : zST) (S : zSea) : Prop := ∀ r k, k < zl r → mV σ r k = S r k
def OKS (S : zSea) : Prop := (∀ r k, k < zl r → zLo r k ≤ (S r k).toInt ∧ (S r k).toInt ≤ zHi r k) ∧ ∀ k, k < 6 → zH (S 0 0) (nI k) → S 1 k = 0 → 1 ≤ (S 2 k).toInt
theorem zl8 {r k : Nat} (h : k < zl r) : r < 8 := by
  rcases Nat.lt_or_ge r 8 with h1 | h1
  · exact h1
  · have : zl r = 0 := by
      unfold zl
      rw [List.getD_eq_getElem?_getD, List.getElem?_eq_none (by simpa using h1)]
      rfl
    omega
theorem zl_len {r k : Nat} (h : k < zl r) : k < zLen r := by
  have h1 := zl8 h
  match r, h1 with
  | 0, _ => have : k < 2 := h; show k < 5; omega
  | 1, _ => exact h
  | 2, _ => exact h
  | 3, _ => exact h
  | 4, _ => exact h
  | 5, _ => exact h
  | 6, _ => exact h
  | 7, _ => exact h
section S
variable {σ : zST} {S : zSea} {p sd hr : Int32} {k : Nat} {P : zST → Prop}
theorem i_lose (hp : p = nI k) (hk : k < 6) (h : ∀ σ' : zST, (∀ a j, σ'.1 a j = if a = 59 ∧ j = k then 0 else if a = 58 ∧ j = k then 0 else if a = 57 ∧ j = k then 0 else if a = 56 ∧ j = k then 2 else if a = 62 ∧ j = 1 then σ.1 62 1 + σ.1 59 k else if a = 62 ∧ j = 0 then σ.1 62 0 + σ.1 57 k else σ.1 a j) → P σ') : wp_X6_lose 55 p σ P := by
  subst hp
  have hv : vp_in (nI k) 6 := vp_in_nI hk (by omega)
  have hc : (nI k).toNatClampNeg = k := nI_clamp (by omega)
  refine ⟨hv, ?_⟩
  rintro _ rfl
  refine ⟨hv, hv, hv, hv, hv, ?_⟩
  rw [hc]
  exact h _ (fun a j => rfl)
theorem i_sendT (hp : p = nI k) (hk : k < 6) (hS : SR σ S) (hmen : 1 ≤ (S 2 k).toInt) (h : ∀ σ' : zST, SR σ' (zGt S k) → (∀ a j, a < 55 ∨ 62 < a → σ'.1 a j = σ.1 a j) → P σ') : wp_X6_sendByTeeth 55 p (wI σ 56 p.toNatClampNeg 1) P := by
  subst hp
  have hv : vp_in (nI k) 6 := vp_in_nI hk (by omega)
  have hc : (nI k).toNatClampNeg = k := nI_clamp (by omega)
  have f1 : ∀ j, j < 6 → σ.1 56 j = S 1 j := fun j hj => hS 1 j hj
  have f2 : ∀ j, j < 6 → σ.1 57 j = S 2 j := fun j hj => hS 2 j hj
  have f3 : ∀ j, j < 6 → σ.1 58 j = S 3 j := fun j hj => hS 3 j hj
  have f4 : ∀ j, j < 6 → σ.1 59 j = S 4 j := fun j hj => hS 4 j hj
  have f5 : ∀ j, j < 8 → σ.1 60 j = S 5 j := fun j hj => hS 5 j hj
  have f6 : ∀ j, j < 24 → σ.1 61 j = S 6 j := fun j hj => hS 6 j hj
  have f7 : ∀ j, j < 3 → σ.1 62 j = S 7 j := fun j hj => hS 7 j hj
  refine ⟨hv, hv, hv, hv, hv, ?_⟩
  rw [hc]
  have eT : (if (if (0 : Int32) < ((wI σ 56 k 1).1 (55 + 5) (0 : Int32).toNatClampNeg) - ((wI σ 56 k 1).1 (55 + 3) k) then ((wI σ 56 k 1).1 (55 + 5) (0 : Int32).toNatClampNeg) - ((wI σ 56 k 1).1 (55 + 3) k) else (0 : Int32)) < ((wI σ 56 k 1).1 (55 + 2) k) then (if (0 : Int32) < ((wI σ 56 k 1).1 (55 + 5) (0 : Int32).toNatClampNeg) - ((wI σ 56 k 1).1 (55 + 3) k) then ((wI σ 56 k 1).1 (55 + 5) (0 : Int32).toNatClampNeg) - ((wI σ 56 k 1).1 (55 + 3) k) else (0 : Int32)) else ((wI σ 56 k 1).1 (55 + 2) k)) = zTt S k := by
    show (if (if (0 : Int32) < σ.1 60 0 - σ.1 58 k then σ.1 60 0 - σ.1 58 k else 0) < σ.1 57 k then (if (0 : Int32) < σ.1 60 0 - σ.1 58 k then σ.1 60 0 - σ.1 58 k else 0) else σ.1 57 k) = zTt S k
    rw [f5 0 (by omega), f3 k hk, f2 k hk]
    rfl
  rw [eT]
  rintro _ rfl
  refine ⟨hv, ?_⟩
  rintro _ rfl
  refine ⟨hv, ?_⟩
  rintro σ10 e10
  have h10 : ∀ a j, σ10.1 a j = if a = 62 ∧ j = 0 then S 7 0 + zTt S k else if a = 57 ∧ j = k then S 2 k - zTt S k else if a = 58 ∧ j = k then (if (0 : Int32) < S 3 k - S 5 0 then S 3 k - S 5 0 else 0) else if a = 56 ∧ j = k then 1 else σ.1 a j := by
    intro a j
    rw [e10, ← f7 0 (by omega), ← f2 k hk, ← f3 k hk, ← f5 0 (by omega)]
    rfl
  have hm : σ10.1 57 k = S 2 k - zTt S k := by rw [h10, if_neg (by omega), if_pos ⟨rfl, rfl⟩]
  have hcg : σ10.1 59 k = S 4 k := by rw [h10, if_neg (by omega), if_neg (by omega), if_neg (by omega), if_neg (by omega)]; exact f4 k hk
  have hs1 : σ10.1 62 1 = S 7 1 := by rw [h10, if_neg (by omega), if_neg (by omega), if_neg (by omega), if_neg (by omega)]; exact f7 1 (by omega)
  have hs0 : σ10.1 62 0 = S 7 0 + zTt S k := by rw [h10, if_pos ⟨rfl, rfl⟩]
  by_cases c : S 2 k - zTt S k = 0
  · rw [if_pos (show σ10.1 (55 + 2) k = 0 from hm.trans c)]
    refine i_lose rfl hk (fun σ' hs => ?_)
    rw [hm, hcg, hs1, hs0, c, Int32.add_zero] at hs
    refine h σ' (fun r j hj => ?_) (fun a j ha => ?_)
    · have hr := zl8 hj
      match r, hr with
      | 0, _ =>
        match j, hj with
        | 0, _ => show σ'.1 55 0 = S 0 0; rw [hs, h10]; (repeat rw [if_neg (by omega)]); exact hS 0 0 (by decide)
        | 1, _ => show σ'.1 55 7 = S 0 1; rw [hs, h10]; (repeat rw [if_neg (by omega)]); exact hS 0 1 (by decide)
        | j + 2, hj => exact absurd hj (by simp [zl])
      | 1, _ =>
        have hj : j < 6 := hj
        show σ'.1 56 j = if j = k then (if S 2 k - zTt S k = 0 then 2 else 1) else S 1 j
        rw [hs, h10]
        by_cases e : j = k
        · rw [if_neg (by omega), if_neg (by omega), if_neg (by omega), if_pos ⟨rfl, e⟩, if_pos e, if_pos c]
        · rw [if_neg e]; (repeat rw [if_neg (by omega)]); exact f1 j hj
      | 2, _ =>
        have hj : j < 6 := hj
        show σ'.1 57 j = if j = k then S 2 k - zTt S k else S 2 j
        rw [hs, h10]
        by_cases e : j = k
        · rw [if_neg (by omega), if_neg (by omega), if_pos ⟨rfl, e⟩, if_pos e, c]
        · rw [if_neg e]; (repeat rw [if_neg (by omega)]); exact f2 j hj
      | 3, _ =>
        have hj : j < 6 := hj
        show σ'.1 58 j = if j = k then (if S 2 k - zTt S k = 0 then 0 else if (0 : Int32) < S 3 k - S 5 0 then S 3 k - S 5 0 else 0) else S 3 j
        rw [hs, h10]
        by_cases e : j = k
        · rw [if_neg (by omega), if_pos ⟨rfl, e⟩, if_pos e, if_pos c]
        · rw [if_neg e]; (repeat rw [if_neg (by omega)]); exact f3 j hj
      | 4, _ =>
        have hj : j < 6 := hj
        show σ'.1 59 j = if j = k then (if S 2 k - zTt S k = 0 then 0 else S 4 k) else S 4 j
        rw [hs, h10]
        by_cases e : j = k
        · rw [if_pos ⟨rfl, e⟩, if_pos e, if_pos c]
        · rw [if_neg e]; (repeat rw [if_neg (by omega)]); exact f4 j hj
      | 5, _ => show σ'.1 60 j = S 5 j; rw [hs, h10]; (repeat rw [if_neg (by omega)]); exact f5 j hj
      | 6, _ => show σ'.1 61 j = S 6 j; rw [hs, h10]; (repeat rw [if_neg (by omega)]); exact f6 j hj
      | 7, _ =>
        have hj : j < 3 := hj
        show σ'.1 62 j = if j = 0 then S 7 0 + zTt S k else if j = 1 then (if S 2 k - zTt S k = 0 then S 7 1 + S 4 k else S 7 1) else S 7 j
        rw [hs, h10, if_pos c]
        rcases (show j = 0 ∨ j = 1 ∨ j = 2 by omega) with rfl | rfl | rfl
        · simp
        · simp
        · simp; exact f7 2 (by omega)
    · rw [hs, h10]
      repeat rw [if_neg (by omega)]
  · rw [if_neg (show ¬ σ10.1 (55 + 2) k = 0 from fun q => c (hm.symm.trans q))]
    refine h σ10 (fun r j hj => ?_) (fun a j ha => ?_)
    · have hr := zl8 hj
      match r, hr with
      | 0, _ =>
        match j, hj with
        | 0, _ => show σ10.1 55 0 = S 0 0; rw [h10]; (repeat rw [if_neg (by omega)]); exact hS 0 0 (by decide)
        | 1, _ => show σ10.1 55 7 = S 0 1; rw [h10]; (repeat rw [if_neg (by omega)]); exact hS 0 1 (by decide)
        | j + 2, hj => exact absurd hj (by simp [zl])
      | 1, _ =>
        have hj : j < 6 := hj
        show σ10.1 56 j = if j = k then (if S 2 k - zTt S k = 0 then 2 else 1) else S 1 j
        rw [h10]
        by_cases e : j = k
        · rw [if_neg (by omega), if_neg (by omega), if_neg (by omega), if_pos ⟨rfl, e⟩, if_pos e, if_neg c]
        · rw [if_neg e]; (repeat rw [if_neg (by omega)]); exact f1 j hj
      | 2, _ =>
        have hj : j < 6 := hj
        show σ10.1 57 j = if j = k then S 2 k - zTt S k else S 2 j
        rw [h10]
        by_cases e : j = k
        · rw [if_neg (by omega), if_pos ⟨rfl, e⟩, if_pos e]
        · rw [if_neg e]; (repeat rw [if_neg (by omega)]); exact f2 j hj
      | 3, _ =>
        have hj : j < 6 := hj
        show σ10.1 58 j = if j = k then (if S 2 k - zTt S k = 0 then 0 else if (0 : Int32) < S 3 k - S 5 0 then S 3 k - S 5 0 else 0) else S 3 j
        rw [h10]
        by_cases e : j = k
        · rw [if_neg (by omega), if_neg (by omega), if_pos ⟨rfl, e⟩, if_pos e, if_neg c]
        · rw [if_neg e]; (repeat rw [if_neg (by omega)]); exact f3 j hj
      | 4, _ =>
        have hj : j < 6 := hj
        show σ10.1 59 j = if j = k then (if S 2 k - zTt S k = 0 then 0 else S 4 k) else S 4 j
        rw [h10]
        by_cases e : j = k
        · rw [if_pos e, if_neg c]; (repeat rw [if_neg (by omega)]); rw [e]; exact f4 k hk
        · rw [if_neg e]; (repeat rw [if_neg (by omega)]); exact f4 j hj
      | 5, _ => show σ10.1 60 j = S 5 j; rw [h10]; (repeat rw [if_neg (by omega)]); exact f5 j hj
      | 6, _ => show σ10.1 61 j = S 6 j; rw [h10]; (repeat rw [if_neg (by omega)]); exact f6 j hj
      | 7, _ =>
        have hj : j < 3 := hj
        show σ10.1 62 j = if j = 0 then S 7 0 + zTt S k else if j = 1 then (if S 2 k - zTt S k = 0 then S 7 1 + S 4 k else S 7 1) else S 7 j
        rw [h10, if_neg c]
        rcases (show j = 0 ∨ j = 1 ∨ j = 2 by omega) with rfl | rfl | rfl
        · simp
        · simp; exact f7 1 (by omega)
        · simp; exact f7 2 (by omega)
    · rw [h10]
      repeat rw [if_neg (by omega)]
end S
