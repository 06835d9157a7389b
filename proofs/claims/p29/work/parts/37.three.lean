section
/-! image, restore -/
section S
variable {σ σ0 σ' : zST} {P : zST → Prop} {a1 : Int32} {n : Nat}
theorem i_become3 {a b : Nat} (hab : a + 2 < b ∨ b + 2 < a) (h : ∀ σ' : zST, (∀ z j, σ'.1 z j = if z = a ∧ j = 0 then σ.1 b 0 else if z = a + 1 ∧ j < 4 then σ.1 (b + 1) j else if z = a + 2 ∧ j < 4 then σ.1 (b + 2) j else σ.1 z j) → P σ') : wp_X3_become a b σ P := by
  intro σ1 e1 σ2 e2
  have h1 : ∀ z j, σ1.1 z j = if z = a ∧ j = 0 then σ.1 b 0 else σ.1 z j := fun z j => by rw [e1, wI_at]
  have h2 : ∀ z j, σ2.1 z j = if z = a + 1 ∧ j < 4 then σ1.1 (b + 1) j else σ1.1 z j := fun z j => by rw [e2]; exact zcpy rfl z j
  refine h _ (fun z j => ?_)
  rw [zcpy (m := 4) rfl, h2 (b + 2), h2 z, if_neg (show ¬ (b + 2 = a + 1 ∧ j < 4) by omega), h1 (b + 2), h1 (b + 1), h1 z, if_neg (show ¬ (b + 2 = a ∧ j = 0) by omega), if_neg (show ¬ (b + 1 = a ∧ j = 0) by omega)]
  (repeat' split) <;> first | rfl | (exfalso; omega)
theorem i_become5 {a b : Nat} (hab : a + 2 < b ∨ b + 2 < a) (h : ∀ σ' : zST, (∀ z j, σ'.1 z j = if z = a ∧ j = 0 then σ.1 b 0 else if z = a + 1 ∧ j < 6 then σ.1 (b + 1) j else if z = a + 2 ∧ j < 6 then σ.1 (b + 2) j else σ.1 z j) → P σ') : wp_X5_become a b σ P := by
  intro σ1 e1 σ2 e2
  have h1 : ∀ z j, σ1.1 z j = if z = a ∧ j = 0 then σ.1 b 0 else σ.1 z j := fun z j => by rw [e1, wI_at]
  have h2 : ∀ z j, σ2.1 z j = if z = a + 1 ∧ j < 6 then σ1.1 (b + 1) j else σ1.1 z j := fun z j => by rw [e2]; exact zcpy rfl z j
  refine h _ (fun z j => ?_)
  rw [zcpy (m := 6) rfl, h2 (b + 2), h2 z, if_neg (show ¬ (b + 2 = a + 1 ∧ j < 6) by omega), h1 (b + 2), h1 (b + 1), h1 z, if_neg (show ¬ (b + 2 = a ∧ j = 0) by omega), if_neg (show ¬ (b + 1 = a ∧ j = 0) by omega)]
  (repeat' split) <;> first | rfl | (exfalso; omega)
theorem i_become1 {a b : Nat} (hab : a + 2 < b ∨ b + 2 < a) (h : ∀ σ' : zST, (∀ z j, σ'.1 z j = if z = a ∧ j = 0 then σ.1 b 0 else if z = a + 1 ∧ j < 8 then σ.1 (b + 1) j else σ.1 z j) → P σ') : wp_X1_become a b σ P := by
  intro σ1 e1
  have h1 : ∀ z j, σ1.1 z j = if z = a ∧ j = 0 then σ.1 b 0 else σ.1 z j := fun z j => by rw [e1, wI_at]
  refine h _ (fun z j => ?_)
  rw [zcpy (m := 8) rfl, h1 (b + 1), h1 z, if_neg (show ¬ (b + 1 = a ∧ j = 0) by omega)]
  (repeat' split) <;> first | rfl | (exfalso; omega)
theorem i_become0 {a b : Nat} (hab : a + 16 < b ∨ b + 16 < a) (h : ∀ σ' : zST, (∀ x j, x ≤ a ∨ a + 16 < x → σ'.1 x j = σ.1 x j) → (∀ r k, k < zLen r → cV σ' a r k = cV σ b r k) → P σ') : wp_X0_become a b σ P := by
  unfold wp_X0_become
  refine i_become6 (by omega) (fun σ2 h2 f0 f7 fr => ?_)
  refine i_become3 (by omega) (fun σ4 h4 => ?_)
  refine i_become1 (by omega) (fun σ6 h6 => ?_)
  refine i_become5 (by omega) (fun σ8 h8 => ?_)
  have far : ∀ x j, x ≤ a ∨ a + 16 < x → σ2.1 x j = σ.1 x j ∧ σ4.1 x j = σ.1 x j ∧ σ6.1 x j = σ.1 x j ∧ σ8.1 x j = σ.1 x j := by
    intro x j hx
    have q2 : σ2.1 x j = σ.1 x j := h2 x j (by omega)
    have q4 : σ4.1 x j = σ.1 x j := by rw [h4]; (repeat rw [if_neg (by omega)]); exact q2
    have q6 : σ6.1 x j = σ.1 x j := by rw [h6]; (repeat rw [if_neg (by omega)]); exact q4
    have q8 : σ8.1 x j = σ.1 x j := by rw [h8]; (repeat rw [if_neg (by omega)]); exact q6
    exact ⟨q2, q4, q6, q8⟩
  have near : ∀ x j, x ≤ a + 8 → σ8.1 x j = σ2.1 x j := by
    intro x j hx
    rw [h8]; (repeat rw [if_neg (by omega)])
    rw [h6]; (repeat rw [if_neg (by omega)])
    rw [h4]; (repeat rw [if_neg (by omega)])
  refine h σ8 (fun x j hx => (far x j hx).2.2.2) (fun r k hk => ?_)
  have hr := zLen13 hk
  match r, hr with
  | 0, _ =>
    match k, hk with
    | 0, _ => exact (near (a + 1) 0 (by omega)).trans f0
    | 1, _ => exact (near (a + 1) 7 (by omega)).trans f7
    | 2, _ =>
      show σ8.1 (a + 9) 0 = σ.1 (b + 9) 0
      rw [h8]; (repeat rw [if_neg (by omega)])
      rw [h6]; (repeat rw [if_neg (by omega)])
      rw [h4, if_pos ⟨rfl, rfl⟩]
      exact (far (b + 9) 0 (by omega)).1
    | 3, _ =>
      show σ8.1 (a + 12) 0 = σ.1 (b + 12) 0
      rw [h8]; (repeat rw [if_neg (by omega)])
      rw [h6, if_pos ⟨rfl, rfl⟩]
      exact (far (b + 12) 0 (by omega)).2.1
    | 4, _ =>
      show σ8.1 (a + 14) 0 = σ.1 (b + 14) 0
      rw [h8, if_pos ⟨rfl, rfl⟩]
      exact (far (b + 14) 0 (by omega)).2.2.1
    | k + 5, h5 => exact absurd h5 (by simp [zLen])
  | 1, _ => show σ8.1 (a + 2) k = σ.1 (b + 2) k; rw [near _ _ (by omega), show a + 2 = a + 1 + 1 by omega, show b + 2 = b + 1 + 1 by omega]; exact fr 1 k (by omega) (by omega) hk
  | 2, _ => show σ8.1 (a + 3) k = σ.1 (b + 3) k; rw [near _ _ (by omega), show a + 3 = a + 1 + 2 by omega, show b + 3 = b + 1 + 2 by omega]; exact fr 2 k (by omega) (by omega) hk
  | 3, _ => show σ8.1 (a + 4) k = σ.1 (b + 4) k; rw [near _ _ (by omega), show a + 4 = a + 1 + 3 by omega, show b + 4 = b + 1 + 3 by omega]; exact fr 3 k (by omega) (by omega) hk
  | 4, _ => show σ8.1 (a + 5) k = σ.1 (b + 5) k; rw [near _ _ (by omega), show a + 5 = a + 1 + 4 by omega, show b + 5 = b + 1 + 4 by omega]; exact fr 4 k (by omega) (by omega) hk
  | 5, _ => show σ8.1 (a + 6) k = σ.1 (b + 6) k; rw [near _ _ (by omega), show a + 6 = a + 1 + 5 by omega, show b + 6 = b + 1 + 5 by omega]; exact fr 5 k (by omega) (by omega) hk
  | 6, _ => show σ8.1 (a + 7) k = σ.1 (b + 7) k; rw [near _ _ (by omega), show a + 7 = a + 1 + 6 by omega, show b + 7 = b + 1 + 6 by omega]; exact fr 6 k (by omega) (by omega) hk
  | 7, _ => show σ8.1 (a + 8) k = σ.1 (b + 8) k; rw [near _ _ (by omega), show a + 8 = a + 1 + 7 by omega, show b + 8 = b + 1 + 7 by omega]; exact fr 7 k (by omega) (by omega) hk
  | 8, _ =>
    have hk : k < 4 := hk
    show σ8.1 (a + 10) k = σ.1 (b + 10) k
    rw [h8]; (repeat rw [if_neg (by omega)])
    rw [h6]; (repeat rw [if_neg (by omega)])
    rw [h4, if_neg (by omega), if_pos (by omega)]
    exact (far (b + 10) k (by omega)).1
  | 9, _ =>
    have hk : k < 4 := hk
    show σ8.1 (a + 11) k = σ.1 (b + 11) k
    rw [h8]; (repeat rw [if_neg (by omega)])
    rw [h6]; (repeat rw [if_neg (by omega)])
    rw [h4, if_neg (by omega), if_neg (by omega), if_pos (by omega)]
    exact (far (b + 11) k (by omega)).1
  | 10, _ =>
    have hk : k < 8 := hk
    show σ8.1 (a + 13) k = σ.1 (b + 13) k
    rw [h8]; (repeat rw [if_neg (by omega)])
    rw [h6, if_neg (by omega), if_pos (by omega)]
    exact (far (b + 13) k (by omega)).2.1
  | 11, _ =>
    have hk : k < 6 := hk
    show σ8.1 (a + 15) k = σ.1 (b + 15) k
    rw [h8, if_neg (by omega), if_pos (by omega)]
    exact (far (b + 15) k (by omega)).2.2.1
  | 12, _ =>
    have hk : k < 6 := hk
    show σ8.1 (a + 16) k = σ.1 (b + 16) k
    rw [h8, if_neg (by omega), if_neg (by omega), if_pos (by omega)]
    exact (far (b + 16) k (by omega)).2.2.1
theorem zlocE : ∀ k, k < 6 → zloc (19 + 6 * k) = (73, k) ∧ zloc (16 + 6 * k) = (70, k) ∧ zloc (17 + 6 * k) = (71, k) ∧ zloc (18 + 6 * k) = (72, k) ∧ zloc (20 + 6 * k) = (78, k) ∧ zloc (21 + 6 * k) = (79, k) := by decide +kernel
theorem zlocF : ∀ k, k < 4 → zloc (52 + 2 * k) = (75, k) ∧ zloc (53 + 2 * k) = (76, k) := by decide +kernel
theorem zlocG : ∀ k, k < 8 → zloc (1 + k) = (69, 5 + k) ∧ zloc (60 + k) = (77, k) ∧ (k < 3 → zloc (10 + k) = (69, 15 + k)) := by decide +kernel
theorem kV_mV {r k : Nat} (e : ∀ u, u < 92 → σ'.1 85 (120 * n + u) = σ.1 (zloc u).1 (zloc u).2) (hk : k < zLen r) : kV σ' n r k = mV σ r k := by
  have hr := zLen13 hk
  have E : ∀ u x y, u < 92 → zloc u = (x, y) → σ'.1 85 (120 * n + u) = σ.1 x y := fun u x y hu hz => by rw [e u hu, hz]
  match r, hr with
  | 0, _ =>
    match k, hk with
    | 0, _ => exact e 0 (by omega)
    | 1, _ => exact e 9 (by omega)
    | 2, _ => exact e 13 (by omega)
    | 3, _ => exact e 14 (by omega)
    | 4, _ => exact e 15 (by omega)
    | k + 5, h5 => exact absurd h5 (by simp [zLen])
  | 1, _ => have hk : k < 6 := hk; exact E _ _ _ (by omega) (zlocE k hk).1
  | 2, _ => have hk : k < 6 := hk; exact E _ _ _ (by omega) (zlocE k hk).2.1
  | 3, _ => have hk : k < 6 := hk; exact E _ _ _ (by omega) (zlocE k hk).2.2.1
  | 4, _ => have hk : k < 6 := hk; exact E _ _ _ (by omega) (zlocE k hk).2.2.2.1
  | 5, _ => have hk : k < 8 := hk; exact E _ _ _ (by omega) (zlocG k hk).1
  | 6, _ => have hk : k < 24 := hk; exact E _ _ _ (by omega) (zlocD k hk)
  | 7, _ => have hk : k < 3 := hk; exact E _ _ _ (by omega) ((zlocG k (by omega)).2.2 hk)
  | 8, _ => have hk : k < 4 := hk; exact E _ _ _ (by omega) (zlocF k hk).1
  | 9, _ => have hk : k < 4 := hk; exact E _ _ _ (by omega) (zlocF k hk).2
  | 10, _ => have hk : k < 8 := hk; exact E _ _ _ (by omega) (zlocG k hk).2.1
  | 11, _ => have hk : k < 6 := hk; exact E _ _ _ (by omega) (zlocE k hk).2.2.2.2.1
  | 12, _ =>
    have hk : k < 6 := hk
    show σ'.1 85 (120 * n + (21 + 6 * k)) - zpc (σ'.1 85 (120 * n + (20 + 6 * k))) = σ.1 79 k - zpc (σ.1 78 k)
    rw [E _ _ _ (by omega) (zlocE k hk).2.2.2.2.1, E _ _ _ (by omega) (zlocE k hk).2.2.2.2.2]
theorem kV_fr2 {r k : Nat} (h : ∀ u, u < 92 → σ'.1 85 (120 * n + u) = σ.1 85 (120 * n + u)) (hk : k < zLen r) : kV σ' n r k = kV σ n r k := by
  have hr := zLen13 hk
  match r, hr with
  | 0, _ =>
    match k, hk with
    | 0, _ => exact h 0 (by omega)
    | 1, _ => exact h 9 (by omega)
    | 2, _ => exact h 13 (by omega)
    | 3, _ => exact h 14 (by omega)
    | 4, _ => exact h 15 (by omega)
    | k + 5, h5 => exact absurd h5 (by simp [zLen])
  | 1, _ => have hk : k < 6 := hk; exact h _ (by omega)
  | 2, _ => have hk : k < 6 := hk; exact h _ (by omega)
  | 3, _ => have hk : k < 6 := hk; exact h _ (by omega)
  | 4, _ => have hk : k < 6 := hk; exact h _ (by omega)
  | 5, _ => have hk : k < 8 := hk; exact h _ (by omega)
  | 6, _ => have hk : k < 24 := hk; exact h _ (by omega)
  | 7, _ => have hk : k < 3 := hk; exact h _ (by omega)
  | 8, _ => have hk : k < 4 := hk; exact h _ (by omega)
  | 9, _ => have hk : k < 4 := hk; exact h _ (by omega)
  | 10, _ => have hk : k < 8 := hk; exact h _ (by omega)
  | 11, _ => have hk : k < 6 := hk; exact h _ (by omega)
  | 12, _ =>
    have hk : k < 6 := hk
    show σ'.1 85 (120 * n + (21 + 6 * k)) - zpc (σ'.1 85 (120 * n + (20 + 6 * k))) = σ.1 85 (120 * n + (21 + 6 * k)) - zpc (σ.1 85 (120 * n + (20 + 6 * k)))
    rw [h _ (by omega), h _ (by omega)]
theorem i_imageBooks {Q : Nat → Prop} (hn : n < 2) (h : Q (18 + 17 * n)) : wp_X8_imageBooks (nI n) σ Q := by
  rcases (show n = 0 ∨ n = 1 by omega) with rfl | rfl
  · unfold wp_X8_imageBooks
    rw [if_pos (by decide)]
    exact h
  · unfold wp_X8_imageBooks
    rw [if_neg (by decide)]
    exact h
theorem zbk (hn : n < 2) : isX0 (18 + 17 * n) := by unfold isX0; omega
theorem z120 : ∀ n, n < 2 → (120 : Int32) * nI n = nI (120 * n + 0) := by decide +kernel
theorem zbit3 : ∀ x, x < 4 → ∀ n, n < 2 → 0 ≤ (nI x ||| ((1 : Int32) <<< (nI n &&& 31))).toInt ∧ (nI x ||| ((1 : Int32) <<< (nI n &&& 31))).toInt ≤ 3 ∧ ((nI x ||| ((1 : Int32) <<< (nI n &&& 31))) >>> (nI n &&& 31)) &&& 1 = 1 ∧ ∀ m, m < 2 → m ≠ n → ((nI x ||| ((1 : Int32) <<< (nI n &&& 31))) >>> (nI m &&& 31)) &&& 1 = (nI x >>> (nI m &&& 31)) &&& 1 := by decide +kernel
theorem zPa_start {m : Int32} (hn : n < 2) (hm : σ.1 69 39 = m) (h : σ.1 69 38 = (120 : Int32) * nI n) : zPa σ m (120 * n) 0 σ :=
  ⟨fun u hu => absurd hu (by omega), fun _ _ _ _ _ => rfl, by rw [h, z120 n hn], hm⟩
theorem s_image (h : Inv σ) {K : Int32 → Int32 → zST → Prop} (hk : ∀ r σ', Inv σ' → K r r σ') : wp_X8_image a1 σ (fun r σ1 => wp_X9_image a1 σ1 (fun r' σ2 => K r r' σ2)) := by
  unfold wp_X8_image
  refine t_within (a := 0) (b := 1) rfl rfl (fun h0 h1 => ?_) (fun hx => ?_)
  · obtain ⟨n, hn, rfl, -⟩ := zN (h := 1) h0 (by omega)
    have hn2 : n < 2 := by omega
    refine i_imageBooks hn2 ⟨zbk hn2, ?_⟩
    refine i_become0 (by omega) (fun σ7 f7 c7 => ?_)
    have e8 : ∀ a j, (wI σ7 0 3 (σ7.1 0 3 ||| (1 : Int32) <<< (nI n &&& 31))).1 a j = if a = 0 ∧ j = 3 then σ.1 0 3 ||| (1 : Int32) <<< (nI n &&& 31) else σ7.1 a j := fun a j => by rw [wI_at, f7 0 3 (by omega)]
    generalize wI σ7 0 3 (σ7.1 0 3 ||| (1 : Int32) <<< (nI n &&& 31)) = σ8 at e8 ⊢
    unfold wp_X9_image
    refine t_in (a := 0) (b := 1) rfl rfl (fun _ _ => ?_) (fun hx => by omega)
    intro σ9 e9
    have h9 : ∀ a j, σ9.1 a j = if a = 69 ∧ j = 39 then 1 else if a = 69 ∧ j = 38 then (120 : Int32) * nI n else σ8.1 a j := fun a j => by rw [e9, wI_at, wI_at]
    refine i_passAll (zPa_start (σ := σ9) (m := 1) hn2 (by rw [h9, if_pos ⟨rfl, rfl⟩]) (by rw [h9, if_neg (by omega), if_pos ⟨rfl, rfl⟩])) (by omega) (fun σ10 w => ?_)
    obtain ⟨w1, w2, -, -⟩ := w
    have hv : ∀ u, zval σ9 1 (120 * n) u = σ9.1 (zloc u).1 (zloc u).2 := fun u => by unfold zval; rw [if_neg (by decide)]
    refine ⟨vp_in_nI (by omega) (by omega), hk _ _ ?_⟩
    rw [nI_clamp (by omega)]
    have h10 : ∀ x y, ¬ (x = 85 ∧ 120 * n ≤ y ∧ y < 120 * n + 92) → ¬ (x = 69 ∧ y = 38) → ¬ (x = 69 ∧ y = 39) → σ10.1 x y = σ8.1 x y := by
      intro x y v1 v2 v3
      have q : σ10.1 x y = σ9.1 x y := by
        by_cases hz : ∃ u, u < 92 ∧ x = (zloc u).1 ∧ y = (zloc u).2
        · obtain ⟨u, hu, rfl, rfl⟩ := hz
          exact (w1 u hu).1.trans (hv u)
        · exact w2 x y (fun u hu q => hz ⟨u, hu, q⟩) v1 v2
      rw [q, h9, if_neg v3, if_neg v2]
    have k10 : ∀ u, u < 92 → σ10.1 85 (120 * n + u) = σ.1 (zloc u).1 (zloc u).2 := by
      intro u hu
      have rg := zloc_rng u hu
      rw [(w1 u hu).2, hv u, h9, if_neg (fun q => by have := rg.2.2 q.1; omega), if_neg (fun q => by have := rg.2.2 q.1; omega), e8, if_neg (by omega), f7 _ _ (by omega)]
    have h11 : ∀ x y, (wI σ10 86 n 1).1 x y = if x = 86 ∧ y = n then 1 else σ10.1 x y := fun x y => wI_at _ _ _ _ _ _
    generalize wI σ10 86 n 1 = σ11 at h11 ⊢
    have keep : ∀ x y, ¬ (x = 85 ∧ 120 * n ≤ y ∧ y < 120 * n + 92) → ¬ (x = 69 ∧ y = 38) → ¬ (x = 69 ∧ y = 39) → ¬ (x = 86 ∧ y = n) → ¬ (x = 0 ∧ y = 3) → (x ≤ 18 + 17 * n ∨ 18 + 17 * n + 16 < x) → σ11.1 x y = σ.1 x y := by
      intro x y v1 v2 v3 v4 v5 v6
      rw [h11, if_neg v4, h10 x y v1 v2 v3, e8, if_neg v5, f7 x y v6]
    have n3 : σ11.1 0 3 = σ.1 0 3 ||| (1 : Int32) <<< (nI n &&& 31) := by rw [h11, if_neg (by omega), h10 _ _ (by omega) (by omega) (by omega), e8, if_pos ⟨rfl, rfl⟩]
    refine ⟨IB_fr (fun a k x => keep a k (by omega) (by omega) (by omega) (by omega) (by omega) (by omega)) h.1, IP_fr (fun a k x => keep a k (by omega) (by omega) (by omega) (by omega) (by omega) (by omega)) h.2.1, ?_⟩
    obtain ⟨⟨b1, b2⟩, b3⟩ := h.2.2
    obtain ⟨x, hx, ex, -⟩ := zN (h := 3) b1 (by omega)
    have zb := zbit3 x (by omega) n hn2
    rw [ex] at n3
    refine ⟨by rw [n3]; exact ⟨zb.1, zb.2.1⟩, fun m hm => ?_⟩
    by_cases e : m = n
    · subst e
      rw [n3, zb.2.2.1]
      refine ⟨by rw [h11, if_pos ⟨rfl, rfl⟩], fun _ => ?_⟩
      have cc : ∀ r k, k < zLen r → cV σ11 (18 + 17 * m) r k = cV σ 1 r k := by
        intro r k hk
        rw [← c7 r k hk]
        exact cV_fr (fun a j x y => by rw [h11, if_neg (by omega), h10 _ _ (by omega) (by omega) (by omega), e8, if_neg (by omega)]) r k
      refine ⟨fun r k hk => ?_, OKV_fr cc h.1.2⟩
      rw [cc r k hk, h.1.1 r k hk]
      refine (kV_mV (fun u hu => ?_) hk).symm
      rw [h11, if_neg (by omega)]
      exact k10 u hu
    · rw [n3, zb.2.2.2 m hm e, ← ex, keep 86 m (by omega) (by omega) (by omega) (by omega) (by omega) (by omega)]
      refine ⟨(b3 m hm).1, fun hz => ?_⟩
      obtain ⟨g1, g2⟩ := (b3 m hm).2 hz
      have cc : ∀ r k, cV σ11 (18 + 17 * m) r k = cV σ (18 + 17 * m) r k := cV_fr (fun a j x y => keep a j (by omega) (by omega) (by omega) (by omega) (by omega) (by omega))
      refine ⟨fun r k hk => ?_, OKV_fr (fun r k _ => cc r k) g2⟩
      rw [cc, g1 r k hk]
      exact (kV_fr2 (fun u hu => keep 85 _ (by omega) (by omega) (by omega) (by omega) (by omega) (by omega)) hk).symm
  · unfold wp_X9_image
    refine t_in (a := 0) (b := 1) rfl rfl (fun _ _ => by omega) (fun _ => hk _ _ h)
theorem s_restore (h : Inv σ) {K : Int32 → Int32 → zST → Prop} (hk : ∀ r σ', Inv σ' → K r r σ') : wp_X8_restore a1 σ (fun r σ1 => wp_X9_restore a1 σ1 (fun r' σ2 => K r r' σ2)) := by
  unfold wp_X8_restore
  refine t_within (a := 0) (b := 1) rfl rfl (fun h0 h1 => ?_) (fun hx => ?_)
  · obtain ⟨n, hn, rfl, -⟩ := zN (h := 1) h0 (by omega)
    have hn2 : n < 2 := by omega
    have hb := (h.2.2.2 n hn2).1
    by_cases hz : σ.1 86 n = 0
    · rw [if_pos (by rw [← hb]; exact hz)]
      unfold wp_X9_restore
      refine t_in (a := 0) (b := 1) rfl rfl (fun _ _ => ?_) (fun hx => by omega)
      refine ⟨vp_in_nI (by omega) (by omega), ?_⟩
      rw [nI_clamp (by omega), if_pos hz]
      exact hk _ _ h
    · rw [if_neg (by rw [← hb]; exact hz)]
      obtain ⟨g1, g2⟩ := (h.2.2.2 n hn2).2 hz
      refine i_imageBooks hn2 ⟨zbk hn2, ?_⟩
      refine i_become0 (by omega) (fun σ8 f8 c8 => ?_)
      unfold wp_X9_restore
      refine t_in (a := 0) (b := 1) rfl rfl (fun _ _ => ?_) (fun hx => by omega)
      refine ⟨vp_in_nI (by omega) (by omega), ?_⟩
      rw [nI_clamp (by omega), f8 86 n (by omega), if_neg hz]
      intro σ9 e9
      have h9 : ∀ a j, σ9.1 a j = if a = 69 ∧ j = 39 then 0 else if a = 69 ∧ j = 38 then (120 : Int32) * nI n else σ8.1 a j := fun a j => by rw [e9, wI_at, wI_at]
      refine i_passAll (zPa_start (σ := σ9) (m := 0) hn2 (by rw [h9, if_pos ⟨rfl, rfl⟩]) (by rw [h9, if_neg (by omega), if_pos ⟨rfl, rfl⟩])) (by omega) (fun σ10 w => hk _ _ ?_)
      obtain ⟨w1, w2, -, -⟩ := w
      have hv : ∀ u, zval σ9 0 (120 * n) u = σ.1 85 (120 * n + u) := fun u => by unfold zval; rw [if_pos rfl, h9, if_neg (by omega), if_neg (by omega), f8 _ _ (by omega)]
      have keep : ∀ x y, ¬ (69 ≤ x ∧ x ≤ 79 ∧ (x = 69 → y ≤ 25)) → ¬ (x = 69 ∧ y = 38) → ¬ (x = 69 ∧ y = 39) → σ10.1 x y = σ8.1 x y := by
        intro x y v1 v2 v3
        by_cases hy : x = 85 ∧ 120 * n ≤ y ∧ y < 120 * n + 92
        · obtain ⟨rfl, y1, y2⟩ := hy
          have := (w1 (y - 120 * n) (by omega)).2
          rw [show 120 * n + (y - 120 * n) = y by omega, hv, show 120 * n + (y - 120 * n) = y by omega] at this
          rw [this, f8 85 y (by omega)]
        · rw [w2 x y (fun u hu q => v1 (by have := zloc_rng u hu; rw [← q.1, ← q.2] at this; exact this)) hy v2, h9, if_neg v3, if_neg v2]
      refine ⟨?_, IP_fr (fun a k x => by rw [keep a k (by omega) (by omega) (by omega), f8 a k (by omega)]) h.2.1, II_fr (fun a k x => by rw [keep a k (by omega) (by omega) (by omega), f8 a k (by omega)]) h.2.2⟩
      have cc : ∀ r k, k < zLen r → cV σ10 1 r k = cV σ (18 + 17 * n) r k := by
        intro r k hk
        rw [← c8 r k hk]
        exact cV_fr (fun a j x y => keep a j (by omega) (by omega) (by omega)) r k
      refine ⟨fun r k hk => ?_, OKV_fr cc g2⟩
      rw [cc r k hk, g1 r k hk, ← kV_mV (n := n) (σ' := σ10) (fun u hu => (w1 u hu).2.trans (w1 u hu).1.symm) hk]
      exact (kV_fr2 (fun u hu => (w1 u hu).2.trans (hv u)) hk).symm
  · unfold wp_X9_restore
    refine t_in (a := 0) (b := 1) rfl rfl (fun _ _ => by omega) (fun _ => hk _ _ h)
end S
end
section
/-! insured, lot, often, twice, burnt: they answer -/
section S
variable {σ : zST} {P : Int32 → Prop} {PL : Int64 → Prop} {a1 a2 a3 a4 a5 : Int32} {a : Nat} {v : Int32}
theorem e_worthL (h : ∀ r, P r) : ∀ n i, n + i = 4 → ∀ w, wp_X3_worthTaking_L4 a v σ P (n + 1) w (nI i) := by
  intro n
  induction n with
  | zero =>
    intro i hi w
    unfold wp_X3_worthTaking_L4
    rw [if_pos (by rw [show i = 4 by omega]; decide)]
    exact h _
  | succ n ih =>
    intro i hi w
    unfold wp_X3_worthTaking_L4
    rw [if_neg (by rw [Int32.le_iff_toInt_le, nI_toInt (by omega)]; show ¬ (4 : Int) ≤ i; omega)]
    have hv : vp_in (nI i) 4 := vp_in_nI (by omega) (by omega)
    split
    · refine ⟨hv, hv, ?_⟩
      rw [nI_1]
      split
      · exact ih (i + 1) (by omega) _
      · intro x _
        exact ih (i + 1) (by omega) _
    · rw [nI_1]
      exact ih (i + 1) (by omega) _
theorem e_worth (h : ∀ r, P r) : wp_X3_worthTaking a v σ P := ⟨5, e_worthL h 4 0 rfl _⟩
theorem e_sumL (h : ∀ r, P r) : ∀ n i, n + i = 4 → ∀ w, wp_X3_sumOver_L4 a v σ P (n + 1) w (nI i) := by
  intro n
  induction n with
  | zero =>
    intro i hi w
    unfold wp_X3_sumOver_L4
    rw [if_pos (by rw [show i = 4 by omega]; decide)]
    exact h _
  | succ n ih =>
    intro i hi w
    unfold wp_X3_sumOver_L4
    rw [if_neg (by rw [Int32.le_iff_toInt_le, nI_toInt (by omega)]; show ¬ (4 : Int) ≤ i; omega)]
    have hv : vp_in (nI i) 4 := vp_in_nI (by omega) (by omega)
    split
    · exact h _
    · split
      · refine ⟨hv, ?_⟩
        intro x _
        rw [nI_1]
        exact ih (i + 1) (by omega) _
      · rw [nI_1]
        exact ih (i + 1) (by omega) _
theorem e_sum (h : ∀ r, P r) : wp_X3_sumOver a v σ P := ⟨5, e_sumL h 4 0 rfl _⟩

theorem e_gotL (h : ∀ r, P r) : ∀ n i, n + i = 4 → ∀ w, wp_X9_got_L4 v σ P (n + 1) w (nI i) := by
  intro n
  induction n with
  | zero =>
    intro i hi w
    unfold wp_X9_got_L4
    rw [if_pos (by rw [show i = 4 by omega]; decide)]
    exact h _
  | succ n ih =>
    intro i hi w
    unfold wp_X9_got_L4
    rw [if_neg (by rw [Int32.le_iff_toInt_le, nI_toInt (by omega)]; show ¬ (4 : Int) ≤ i; omega)]
    have hv : vp_in (nI i) 4 := vp_in_nI (by omega) (by omega)
    refine ⟨by split; exact ⟨hv, trivial⟩; trivial, ?_⟩
    intro z _ x _
    rw [nI_1]
    exact ih (i + 1) (by omega) _
theorem e_got (h : ∀ r, P r) : wp_X9_got v σ P := ⟨5, e_gotL h 4 0 rfl _⟩

theorem e_premiumsL (h : ∀ r, P r) : ∀ n i, n + i = 4 → ∀ w, wp_X9_premiums_L4 v σ P (n + 1) w (nI i) := by
  intro n
  induction n with
  | zero =>
    intro i hi w
    unfold wp_X9_premiums_L4
    rw [if_pos (by rw [show i = 4 by omega]; decide)]
    exact h _
  | succ n ih =>
    intro i hi w
    unfold wp_X9_premiums_L4
    rw [if_neg (by rw [Int32.le_iff_toInt_le, nI_toInt (by omega)]; show ¬ (4 : Int) ≤ i; omega)]
    have hv : vp_in (nI i) 4 := vp_in_nI (by omega) (by omega)
    refine ⟨by split; exact ⟨hv, trivial⟩; trivial, ?_⟩
    intro z _ x _
    rw [nI_1]
    exact ih (i + 1) (by omega) _
theorem e_premiums (h : ∀ r, P r) : wp_X9_premiums v σ P := ⟨5, e_premiumsL h 4 0 rfl _⟩

theorem e_insL {K : Int32 → Int32 → Prop} {v3 v4 : Int32} (hI : IB σ) (h0 : 0 ≤ a1.toInt) (h1 : a1.toInt ≤ 5) (h : ∀ r s, K r s) : ∀ n i, n + i = 16 → ∀ x y, wp_X9_insured_L49 a1 v3 v4 σ K (n + 1) x y (nI i) := by
  intro n
  induction n with
  | zero =>
    intro i hi x y
    unfold wp_X9_insured_L49
    rw [if_pos (by rw [show i = 16 by omega]; decide)]
    exact h _ _
  | succ n ih =>
    intro i hi x y
    unfold wp_X9_insured_L49
    rw [if_neg (by rw [Int32.le_iff_toInt_le, nI_toInt (by omega)]; show ¬ (16 : Int) ≤ i; omega)]
    refine i_allOf hI h0 h1 ?_
    refine e_got (fun r => ?_)
    refine e_premiums (fun s => ?_)
    intro _ _ _ _ _ _ _ _
    rw [nI_1]
    exact ih (i + 1) (by omega) _ _
theorem e_J216 {s : Int32} (h : ∀ r, P r) : wp_X9_insured_J216 s σ P := by
  intro z _
  exact h z
theorem e_J192 {x s : Int32} (h : ∀ r, P r) : wp_X9_insured_J192 x s σ P := by
  unfold wp_X9_insured_J192
  refine e_premiums (fun r => ?_)
  split
  · exact e_J216 h
  · exact e_premiums (fun _ => e_J216 h)
theorem e_insured (h : Inv σ) {K : Int32 → Int32 → Prop} (hk : ∀ r r', K r r') : wp_X8_insured a1 a2 a3 σ (fun r => wp_X9_insured a1 a2 a3 σ (fun r' => K r r')) := by
  have fin : ∀ r, wp_X9_insured a1 a2 a3 σ (fun r' => K r r') := by
    intro r
    unfold wp_X9_insured
    refine t_isShip (b_ships h.1).1.symm (fun h0 h1 hs => ?_) (fun _ => hk _ _)
    refine t_isHour (fun g0 g1 => ?_) (fun _ => hk _ _)
    refine t_in (a := 0) (b := 2) rfl rfl (fun _ _ => ?_) (fun _ => hk _ _)
    refine i_tenths h.1 g0 ?_
    refine ⟨17, e_insL h.1 h0 h1 (fun x y => ?_) 16 0 rfl _ _⟩
    split
    · split
      · exact e_J192 (fun _ => hk _ _)
      · refine i_allOf h.1 h0 h1 ?_
        refine e_got (fun _ => ?_)
        refine e_premiums (fun _ => ?_)
        exact e_J192 (fun _ => hk _ _)
    · intro z _
      exact hk _ _
  unfold wp_X8_insured
  refine t_has rfl (fun h0 h1 hs => ?_) (fun _ => fin _)
  refine t_isHour8 (fun g0 g1 => ?_) (fun _ => fin _)
  refine t_within (a := 0) (b := 2) rfl rfl (fun _ _ => ?_) (fun _ => fin _)
  have hd := b_digits h.1
  refine i_digitAt g0 hd.2.1 hd.2.2 ?_
  refine e_worth (fun r => ?_)
  split
  · exact fin _
  · refine e_sum (fun _ => ?_)
    refine e_sum (fun _ => ?_)
    refine i_whole (zv h0 (by omega)) ?_
    split
    · exact fin _
    · intro z _
      exact fin _
theorem zmodL {p d : Int64} (hd : d ≠ 0) : (p - p / d * d).toInt = p.toInt.tmod d.toInt := by
  by_cases hs : p = Int64.minValue ∧ d = -1
  · obtain ⟨rfl, rfl⟩ := hs
    decide
  · have hq : (p / d).toInt = p.toInt.tdiv d.toInt := by
      by_cases h1 : p = Int64.minValue
      · exact Int64.toInt_div_of_ne_right p d (fun q => hs ⟨h1, q⟩)
      · exact Int64.toInt_div_of_ne_left p d h1
    have e : p.toInt - p.toInt.tdiv d.toInt * d.toInt = p.toInt.tmod d.toInt := by
      have := Int.tdiv_mul_add_tmod p.toInt d.toInt
      omega
    have rg := fb_rngL (p % d)
    rw [Int64.toInt_mod] at rg
    rw [Int64.toInt_sub, Int64.toInt_mul, hq, Int.sub_bmod_bmod, e]
    exact fb_bmodL rg.1 rg.2
theorem zmodL_lt {p d : Int64} (hd : d ≠ 0) : (p - p / d * d).toInt.natAbs < d.toInt.natAbs := by
  rw [zmodL hd, Int.natAbs_tmod]
  have : d.toInt ≠ 0 := fun q => hd (Int64.toInt_inj.mp q)
  exact Nat.mod_lt _ (by omega)
theorem zcmp0 {x : Int64} : lg_cmp x 0 = 0 ↔ x = 0 := by
  unfold lg_cmp
  constructor
  · intro h
    split at h
    · exact absurd h (by decide)
    · split at h
      · assumption
      · exact absurd h (by decide)
  · rintro rfl
    decide
theorem e_lowJ {x y u : Int64} {m : Int32} (hu : u ≠ 0) (h : ∀ r, PL r) : wp_X9_lowest_J31 x y m u σ PL := by
  unfold wp_X9_lowest_J31
  refine ⟨by split <;> exact ⟨hu, trivial⟩, ?_⟩
  intro z _
  exact h z
theorem e_lowL {x y : Int64} {m : Int32} (h : ∀ r, PL r) : ∀ (n : Nat) (u t : Int64), t.toInt.natAbs < n → (t = 0 → u ≠ 0) → wp_X9_lowest_L6 x y m σ PL n u t := by
  intro n
  induction n with
  | zero => intro u t ht; omega
  | succ n ih =>
    intro u t ht hu
    unfold wp_X9_lowest_L6
    by_cases e : t = 0
    · rw [if_pos (zcmp0.mpr e)]
      exact e_lowJ (hu e) h
    · rw [if_neg (fun q => e (zcmp0.mp q))]
      refine ⟨e, ?_⟩
      rintro _ rfl
      have := zmodL_lt (p := u) e
      exact ih _ _ (by omega) (fun _ => e)
theorem e_low {x y : Int64} {m : Int32} (hy : y ≠ 0) (h : ∀ r, PL r) : wp_X9_lowest x y m σ PL := ⟨_, e_lowL h _ y x (Nat.lt_succ_self _) (fun _ => hy)⟩
theorem e_divL (h : ∀ r, PL r) : ∀ n i, n + i = 128 → ∀ u t, wp_X8_commonDivisor_L9 σ PL (n + 1) u t (nI i) := by
  intro n
  induction n with
  | zero =>
    intro i hi u t
    unfold wp_X8_commonDivisor_L9
    rw [if_pos (by rw [show i = 128 by omega]; decide)]
    exact h _
  | succ n ih =>
    intro i hi u t
    unfold wp_X8_commonDivisor_L9
    rw [if_neg (by rw [Int32.le_iff_toInt_le, nI_toInt (by omega)]; show ¬ (128 : Int) ≤ i; omega)]
    by_cases e : t = 0
    · rw [if_pos (zcmp0.mpr e)]
      exact h _
    · rw [if_neg (fun q => e (zcmp0.mp q)), nI_1]
      refine ⟨e, ?_⟩
      intro x _
      exact ih (i + 1) (by omega) _ _
theorem e_part {x y : Int64} {m : Int32} (h : ∀ r, PL r) : wp_X8_partOf x y m σ PL := by
  unfold wp_X8_partOf
  refine ⟨129, e_divL (fun r => ?_) 128 0 rfl _ _⟩
  by_cases e : r = 0
  · subst e
    rw [if_neg (by decide)]
    exact h _
  · split
    · intro z _
      exact ⟨e, h _⟩
    · exact h _
theorem e_drawnL {v2 : Int32} (h : ∀ r, P r) : ∀ n i, n + i = 8 → ∀ w, wp_X1_countDrawn_L5 a v v2 σ P (n + 1) w (nI i) := by
  intro n
  induction n with
  | zero =>
    intro i hi w
    unfold wp_X1_countDrawn_L5
    rw [if_pos (by rw [show i = 8 by omega]; decide)]
    exact h _
  | succ n ih =>
    intro i hi w
    unfold wp_X1_countDrawn_L5
    rw [if_neg (by rw [Int32.le_iff_toInt_le, nI_toInt (by omega)]; show ¬ (8 : Int) ≤ i; omega)]
    rw [nI_1]
    refine t_has8 rfl (fun _ _ _ => ?_) (fun _ => ih (i + 1) (by omega) _)
    refine ⟨vp_in_nI (by omega) (by omega), ?_⟩
    exact t_within rfl rfl (fun _ _ => ih (i + 1) (by omega) _) (fun _ => ih (i + 1) (by omega) _)
theorem e_drawn {v2 : Int32} (h : ∀ r, P r) : wp_X1_countDrawn a v v2 σ P := ⟨9, e_drawnL h 8 0 rfl _⟩
theorem e_lotL {K : Int32 → Int32 → Prop} {b v1 v3 : Int32} (hb0 : 0 ≤ b.toInt) (hb1 : b.toInt ≤ 7) (hs : zH (σ.1 69 21) b) (h : ∀ r s, 1 ≤ s.toInt → K r s) : ∀ (n i : Nat), n + i = 8 → ∀ x y, 0 ≤ y.toInt → y.toInt ≤ (i : Int) → (b.toInt < (i : Int) → 1 ≤ y.toInt) → wp_X9_lot_L52 v1 b v3 σ K (n + 1) x y (nI i) := by
  intro n
  induction n with
  | zero =>
    intro i hi x y _ _ h2
    unfold wp_X9_lot_L52
    rw [if_pos (by rw [show i = 8 by omega]; decide)]
    exact h _ _ (h2 (by omega))
  | succ n ih =>
    intro i hi x y y0 y1 y2
    unfold wp_X9_lot_L52
    rw [if_neg (by rw [Int32.le_iff_toInt_le, nI_toInt (by omega)]; show ¬ (8 : Int) ≤ i; omega)]
    rw [nI_1]
    have hv : vp_in (nI i) 8 := vp_in_nI (by omega) (by omega)
    have hw : vp_in b 8 := zv hb0 (by omega)
    have go : ∀ z, z = (0 : Int32) ∨ z = 1 → (b.toInt = (i : Int) → z = 1) → ∀ x', wp_X9_lot_L52 v1 b v3 σ K (n + 1) x' (y + z) (nI (i + 1)) := by
      intro z hz hzb x'
      rcases hz with rfl | rfl
      · have e : (y + 0).toInt = y.toInt := by rw [fb_addI (by show _ ≤ y.toInt + 0; omega) (by show y.toInt + 0 < _; omega)]; show y.toInt + 0 = _; omega
        refine ih (i + 1) (by omega) _ _ (by omega) (by omega) (fun q => ?_)
        rcases Int.lt_or_lt_of_ne (a := b.toInt) (b := (i : Int)) (fun q => absurd (hzb q) (by decide)) with q1 | q1
        · have := y2 q1
          omega
        · omega
      · have e : (y + 1).toInt = y.toInt + 1 := by rw [fb_addI (by show _ ≤ y.toInt + 1; omega) (by show y.toInt + 1 < _; omega)]; rfl
        exact ih (i + 1) (by omega) _ _ (by omega) (by omega) (fun _ => by omega)
    have two : ∀ x', wp_X9_isAboard (nI i) σ (fun r23 => (if r23 = (0) then True else vp_in (nI i) 8 ∧ vp_in b 8 ∧ True) ∧ ∀ z26 : Int32, z26 = (if r23 = (0) then (0 : Int32) else (if (σ.1 77 (nI i).toNatClampNeg) = (σ.1 77 b.toNatClampNeg) then (1 : Int32) else (0 : Int32))) → ∀ x32 : Int32, x32 = (y + z26) → wp_X9_lot_L52 v1 b v3 σ K (n + 1) x' x32 (nI (i + 1))) := by
      intro x'
      refine i_isAboard rfl (fun _ _ _ => ⟨by rw [if_neg (by decide)]; exact ⟨hv, hw, trivial⟩, ?_⟩) (fun hn => ⟨by rw [if_pos rfl]; trivial, ?_⟩)
      · rw [if_neg (by decide)]
        rintro z rfl _ rfl
        refine go _ (by split; exact Or.inr rfl; exact Or.inl rfl) (fun q => ?_) _
        have : b = nI i := Int32.toInt_inj.mp (by rw [q, nI_toInt (by omega)])
        rw [this, if_pos rfl]
      · rw [if_pos rfl]
        rintro z rfl _ rfl
        refine go _ (Or.inl rfl) (fun q => absurd ?_ hn) _
        have : b = nI i := Int32.toInt_inj.mp (by rw [q, nI_toInt (by omega)])
        rw [← this]
        exact ⟨hb0, hb1, hs⟩
    refine i_isAboard rfl (fun _ _ _ => ⟨by rw [if_neg (by decide)]; exact ⟨hv, hw, trivial⟩, ?_⟩) (fun hn => ⟨by rw [if_pos rfl]; trivial, ?_⟩)
    · intro z _ x' _
      exact two x'
    · intro z _ x' _
      exact two x'
theorem e_lot (h : Inv σ) {K : Int64 → Int64 → Prop} (hk : ∀ r r', K r r') : wp_X8_lot a1 a2 a3 σ (fun r => wp_X9_lot a1 a2 a3 σ (fun r' => K r r')) := by
  have hn := b_names h.1
  have fin : ∀ r, wp_X9_lot a1 a2 a3 σ (fun r' => K r r') := by
    intro r
    unfold wp_X9_lot
    refine t_isAboard rfl (fun h0 h1 hs => ?_) (fun _ => hk _ _)
    refine i_ones (by rw [← hn.1]; exact hn.2.1) (by rw [← hn.1]; exact hn.2.2) ?_
    refine t_in (b := (zpc (σ.1 69 21)).toInt) rfl (Int32.toInt_toInt64 _) (fun _ _ => ?_) (fun _ => hk _ _)
    refine t_in (a := 0) (b := 1) rfl rfl (fun _ _ => ?_) (fun _ => hk _ _)
    refine ⟨9, e_lotL h0 h1 hs (fun x y hy => ?_) 8 0 rfl _ _ (by decide) (by decide) (fun q => by omega)⟩
    intro _ _ z _
    refine e_low (fun q => ?_) (fun _ => hk _ _)
    have := congrArg Int64.toInt q
    rw [Int32.toInt_toInt64] at this
    rw [this] at hy
    exact absurd hy (by decide)
  unfold wp_X8_lot
  refine t_has8 rfl (fun h0 h1 hs => ?_) (fun _ => fin _)
  refine i_bitCount ?_
  refine t_within rfl rfl (fun _ _ => ?_) (fun _ => fin _)
  refine t_within (a := 0) (b := 1) rfl rfl (fun _ _ => ?_) (fun _ => fin _)
  have hw : vp_in a2 8 := zv h0 (by omega)
  refine ⟨hw, hw, ?_⟩
  refine e_drawn (fun _ => ?_)
  refine ⟨hw, ?_⟩
  refine e_drawn (fun _ => ?_)
  intro _ _
  exact e_part (fun _ => fin _)

theorem e_pow8L {v0 v1 : Int32} {m : Nat} (hm : v1 = nI m) (hb : m ≤ 8) (h : ∀ r, PL r) : ∀ n i, n + i = 9 → ∀ w, wp_X8_power_L5 v0 v1 σ PL (n + 1) w (nI i) := by
  subst hm
  intro n
  induction n with
  | zero =>
    intro i hi w
    unfold wp_X8_power_L5
    rw [if_pos (nI_le (by omega) (by omega))]
    exact h _
  | succ n ih =>
    intro i hi w
    unfold wp_X8_power_L5
    rw [nI_1]
    split
    · exact h _
    · intro x _
      exact ih (i + 1) (by omega) _
theorem e_pow8 {v0 v1 : Int32} (h1 : v1.toInt ≤ 8) (h : ∀ r, PL r) : wp_X8_power v0 v1 σ PL := by
  by_cases h0 : 0 ≤ v1.toInt
  · obtain ⟨m, hm, e, -⟩ := zN (h := 8) h0 h1
    exact ⟨10, e_pow8L e hm h 9 0 rfl _⟩
  · refine ⟨1, ?_⟩
    unfold wp_X8_power_L5
    rw [if_pos (by rw [Int32.le_iff_toInt_le]; show v1.toInt ≤ 0; omega)]
    exact h _

theorem e_pow9L {v0 v1 : Int32} {m : Nat} (hm : v1 = nI m) (hb : m ≤ 8) (h : ∀ r, PL r) : ∀ n i, n + i = 9 → ∀ w, wp_X9_power_L5 v0 v1 σ PL (n + 1) w (nI i) := by
  subst hm
  intro n
  induction n with
  | zero =>
    intro i hi w
    unfold wp_X9_power_L5
    rw [if_pos (nI_le (by omega) (by omega))]
    exact h _
  | succ n ih =>
    intro i hi w
    unfold wp_X9_power_L5
    rw [nI_1]
    split
    · exact h _
    · intro x _
      exact ih (i + 1) (by omega) _
theorem e_pow9 {v0 v1 : Int32} (h1 : v1.toInt ≤ 8) (h : ∀ r, PL r) : wp_X9_power v0 v1 σ PL := by
  by_cases h0 : 0 ≤ v1.toInt
  · obtain ⟨m, hm, e, -⟩ := zN (h := 8) h0 h1
    exact ⟨10, e_pow9L e hm h 9 0 rfl _⟩
  · refine ⟨1, ?_⟩
    unfold wp_X9_power_L5
    rw [if_pos (by rw [Int32.le_iff_toInt_le]; show v1.toInt ≤ 0; omega)]
    exact h _

theorem e_pow9pL {v0 v1 : Int32} {m b : Nat} (hm : v1 = nI m) (hb : m ≤ 8) (h0 : v0.toInt = b) (hb1 : 1 ≤ b) (hb2 : b ≤ 8) (h : ∀ r : Int64, 1 ≤ r.toInt → PL r) : ∀ n i, n + i = 9 → ∀ w : Int64, 1 ≤ w.toInt → w.toInt ≤ 8 ^ i → wp_X9_power_L5 v0 v1 σ PL (n + 1) w (nI i) := by
  subst hm
  intro n
  induction n with
  | zero =>
    intro i hi w w1 w2
    unfold wp_X9_power_L5
    rw [if_pos (nI_le (by omega) (by omega))]
    exact h _ w1
  | succ n ih =>
    intro i hi w w1 w2
    unfold wp_X9_power_L5
    rw [nI_1]
    split
    · exact h _ w1
    · rintro _ rfl
      have p8 : (8 : Int) ^ i ≤ 8 ^ 8 := by
        have : ∀ i, i < 9 → (8 : Int) ^ i ≤ 8 ^ 8 := by decide
        exact this i (by omega)
      have e1 : w.toInt * 1 ≤ w.toInt * v0.toInt := Int.mul_le_mul_of_nonneg_left (by omega) (by omega)
      have e2 : w.toInt * v0.toInt ≤ 8 ^ i * 8 := Int.mul_le_mul w2 (by omega) (by omega) (by omega)
      have e3 : (8 : Int) ^ 8 = 16777216 := by decide
      have e : (w * v0.toInt64).toInt = w.toInt * v0.toInt := by
        rw [fb_mulL (by rw [Int32.toInt_toInt64]; omega) (by rw [Int32.toInt_toInt64]; omega), Int32.toInt_toInt64]
      refine ih (i + 1) (by omega) _ (by omega) ?_
      rw [e, Int.pow_succ]
      exact e2
theorem e_pow9p {v0 v1 : Int32} (h0 : 1 ≤ v0.toInt) (h1 : v0.toInt ≤ 8) (h2 : 0 ≤ v1.toInt) (h3 : v1.toInt ≤ 8) (h : ∀ r : Int64, 1 ≤ r.toInt → PL r) : wp_X9_power v0 v1 σ PL := by
  obtain ⟨m, hm, e, -⟩ := zN (h := 8) h2 h3
  obtain ⟨b, hb, e', eb⟩ := zN (x := v0) (h := 8) (by omega) h1
  exact ⟨10, e_pow9pL e hm eb (by omega) hb h 9 0 rfl _ (by decide) (by decide)⟩

theorem e_waysL {v0 v1 : Int32} {m : Nat} (hm : v1 = nI m) (hb : m ≤ 8) (h : ∀ r, PL r) : ∀ n i, n + i = 9 → 1 ≤ i → ∀ w, wp_X8_ways_L16 v0 v1 σ PL (n + 1) w (nI i) := by
  subst hm
  intro n
  induction n with
  | zero =>
    intro i hi _ w
    unfold wp_X8_ways_L16
    rw [if_pos (nI_lt (by omega) (by omega))]
    exact h _
  | succ n ih =>
    intro i hi h1 w
    unfold wp_X8_ways_L16
    rw [nI_1]
    split
    · exact h _
    · refine ⟨fun q => ?_, ?_⟩
      · have := congrArg Int64.toInt q
        rw [Int32.toInt_toInt64, nI_toInt (by omega)] at this
        have : (i : Int) = 0 := this
        omega
      · intro x _
        exact ih (i + 1) (by omega) (by omega) _

theorem e_chooseL {v0 v1 : Int32} {m : Nat} (hm : v1 = nI m) (hb : m ≤ 8) (h : ∀ r, PL r) : ∀ n i, n + i = 9 → 1 ≤ i → ∀ w, wp_X9_choose_L5 v0 v1 σ PL (n + 1) w (nI i) := by
  subst hm
  intro n
  induction n with
  | zero =>
    intro i hi _ w
    unfold wp_X9_choose_L5
    rw [if_pos (nI_lt (by omega) (by omega))]
    exact h _
  | succ n ih =>
    intro i hi h1 w
    unfold wp_X9_choose_L5
    rw [nI_1]
    split
    · exact h _
    · refine ⟨fun q => ?_, ?_⟩
      · have := congrArg Int64.toInt q
        rw [Int32.toInt_toInt64, nI_toInt (by omega)] at this
        have : (i : Int) = 0 := this
        omega
      · intro x _
        exact ih (i + 1) (by omega) (by omega) _

theorem e_choose {v0 v1 : Int32} (h1 : v1.toInt ≤ 8) (h : ∀ r, PL r) : wp_X9_choose v0 v1 σ PL := by
  by_cases h0 : 0 ≤ v1.toInt
  · obtain ⟨m, hm, e, -⟩ := zN (h := 8) h0 h1
    exact ⟨9, e_chooseL e hm h 8 1 rfl (by omega) _⟩
  · refine ⟨1, ?_⟩
    unfold wp_X9_choose_L5
    rw [if_pos (by rw [Int32.lt_iff_toInt_lt]; show v1.toInt < 1; omega)]
    exact h _
theorem e_ways {v0 v1 : Int32} (h1 : v1.toInt ≤ 8) (h : ∀ r, PL r) : wp_X8_ways v0 v1 σ PL := by
  unfold wp_X8_ways
  split
  · exact h _
  · rename_i q
    rw [Int32.lt_iff_toInt_lt] at q
    have q : ¬ v1.toInt < 0 := q
    split
    · obtain ⟨m, hm, e, -⟩ := zN (h := 8) (x := v1) (by omega) h1
      exact ⟨9, e_waysL e hm h 8 1 rfl (by omega) _⟩
    · exact h _
theorem e_oft8L {v1 v2 v3 v5 : Int32} {m : Nat} (hm : v3 = nI m) (hb : m ≤ 8) (h : ∀ r, PL r) : ∀ n i, n + i = 9 → ∀ w, wp_X8_often_L61 v1 v2 v3 v5 σ PL (n + 1) w (nI i) := by
  subst hm
  have v8 : (nI m).toInt ≤ 8 := by rw [nI_toInt (by omega)]; omega
  intro n
  induction n with
  | zero =>
    intro i hi w
    unfold wp_X8_often_L61
    rw [if_pos (nI_lt (by omega) (by omega))]
    exact e_pow8 v8 (fun _ => e_part h)
  | succ n ih =>
    intro i hi w
    unfold wp_X8_often_L61
    rw [nI_1]
    have i8 : (nI i).toInt ≤ 8 := by rw [nI_toInt (by omega)]; omega
    split
    · exact e_pow8 v8 (fun _ => e_part h)
    · refine e_ways i8 (fun _ => ?_)
      refine e_pow8 i8 (fun _ => ?_)
      refine e_pow8 ?_ (fun _ => ?_)
      · have e1 := nI_toInt (n := m) (by omega)
        have e2 := nI_toInt (n := i) (by omega)
        rw [fb_subI (by omega) (by omega)]
        omega
      · intro x _
        exact ih (i + 1) (by omega) _
theorem e_oft9L {v1 v2 v3 v5 : Int32} {m : Nat} (hm : v3 = nI m) (hb : m ≤ 8) (h1 : 1 ≤ v1.toInt) (h2 : v1.toInt ≤ 8) (h : ∀ r, PL r) : ∀ n i, n + i = 9 → ∀ w, wp_X9_often_L70 v1 v2 v3 v5 σ PL (n + 1) w (nI i) := by
  subst hm
  have v8 : (nI m).toInt ≤ 8 := by rw [nI_toInt (by omega)]; omega
  have fin : ∀ w, wp_X9_often_J111 v1 (nI m) v5 w σ PL := by
    intro w
    refine e_pow9p h1 h2 (by rw [nI_toInt (by omega)]; omega) v8 (fun r hr => ?_)
    exact e_low (fun q => by rw [q] at hr; exact absurd hr (by decide)) h
  intro n
  induction n with
  | zero =>
    intro i hi w
    unfold wp_X9_often_L70
    rw [if_pos (nI_lt (by omega) (by omega))]
    exact fin w
  | succ n ih =>
    intro i hi w
    unfold wp_X9_often_L70
    rw [nI_1]
    have i8 : (nI i).toInt ≤ 8 := by rw [nI_toInt (by omega)]; omega
    split
    · exact fin w
    · refine e_choose i8 (fun _ => ?_)
      refine e_pow9 i8 (fun _ => ?_)
      refine e_pow9 ?_ (fun _ => ?_)
      · have e1 := nI_toInt (n := m) (by omega)
        have e2 := nI_toInt (n := i) (by omega)
        rw [fb_subI (by omega) (by omega)]
        omega
      · intro x _
        exact ih (i + 1) (by omega) _
theorem e_often {K : Int64 → Int64 → Prop} (hk : ∀ r r', K r r') : wp_X8_often a1 a2 a3 a4 a5 σ (fun r => wp_X9_often a1 a2 a3 a4 a5 σ (fun r' => K r r')) := by
  have fin : ∀ r, wp_X9_often a1 a2 a3 a4 a5 σ (fun r' => K r r') := by
    intro r
    unfold wp_X9_often
    refine t_in (a := 1) (b := 8) rfl rfl (fun h0 h1 => ?_) (fun _ => hk _ _)
    refine t_in (a := 0) rfl (Int32.toInt_toInt64 _) (fun _ _ => ?_) (fun _ => hk _ _)
    refine t_in (a := 1) (b := 8) rfl rfl (fun h2 h3 => ?_) (fun _ => hk _ _)
    refine t_in (a := 0) (b := 8) rfl rfl (fun h4 h5 => ?_) (fun _ => hk _ _)
    refine t_in (a := 0) (b := 1) rfl rfl (fun _ _ => ?_) (fun _ => hk _ _)
    obtain ⟨m, hm, e, -⟩ := zN (h := 8) (x := a3) (by omega) h3
    obtain ⟨j, hj, rfl, -⟩ := zN (h := 8) (x := a4) (by omega) h5
    exact ⟨9 - j + 1, e_oft9L e hm h0 h1 (fun _ => hk _ _) (9 - j) j (by omega) _⟩
  unfold wp_X8_often
  refine t_within (a := 1) (b := 8) rfl rfl (fun h0 h1 => ?_) (fun _ => fin _)
  refine t_within (a := 0) rfl rfl (fun _ _ => ?_) (fun _ => fin _)
  refine t_within (a := 1) (b := 8) rfl rfl (fun h2 h3 => ?_) (fun _ => fin _)
  refine t_within (a := 0) (b := 8) rfl rfl (fun h4 h5 => ?_) (fun _ => fin _)
  refine t_within (a := 0) (b := 1) rfl rfl (fun _ _ => ?_) (fun _ => fin _)
  obtain ⟨m, hm, e, -⟩ := zN (h := 8) (x := a3) (by omega) h3
  obtain ⟨j, hj, rfl, -⟩ := zN (h := 8) (x := a4) (by omega) h5
  exact ⟨9 - j + 1, e_oft8L e hm (fun _ => fin _) (9 - j) j (by omega) _⟩
theorem e_rollsL {v1 v2 : Int32} (h : ∀ r, P r) : ∀ n i, n + i = 6 → ∀ w, wp_X5_rollsWith_L5 a v1 v2 σ P (n + 1) w (nI i) := by
  intro n
  induction n with
  | zero =>
    intro i hi w
    unfold wp_X5_rollsWith_L5
    split
    · exact h _
    · rw [if_pos (by rw [show i = 6 by omega]; decide)]
      exact h _
  | succ n ih =>
    intro i hi w
    unfold wp_X5_rollsWith_L5
    have hv : vp_in (nI i) 6 := vp_in_nI (by omega) (by omega)
    rw [nI_1]
    split
    · exact h _
    · split
      · exact h _
      · refine ⟨hv, ?_⟩
        split
        · exact ih (i + 1) (by omega) _
        · split
          · exact ih (i + 1) (by omega) _
          · refine ⟨hv, ?_⟩
            split
            · exact ih (i + 1) (by omega) _
            · exact ih (i + 1) (by omega) _
theorem e_twoL {v1 : Int32} (h : ∀ r, P r) : ∀ n i, n + i = 8 → ∀ w, wp_X5_namesOnTwo_L4 a v1 σ P (n + 1) w (nI i) := by
  intro n
  induction n with
  | zero =>
    intro i hi w
    unfold wp_X5_namesOnTwo_L4
    rw [if_pos (by rw [show i = 8 by omega]; decide)]
    exact h _
  | succ n ih =>
    intro i hi w
    unfold wp_X5_namesOnTwo_L4
    rw [if_neg (by rw [Int32.le_iff_toInt_le, nI_toInt (by omega)]; show ¬ (8 : Int) ≤ i; omega)]
    rw [nI_1]
    refine ⟨7, e_rollsL (fun r => ?_) 6 0 rfl _⟩
    split
    · exact ih (i + 1) (by omega) _
    · intro x _
      exact ih (i + 1) (by omega) _
theorem e_tw9L {v1 v2 v3 : Int32} (hI : IB σ) (h : ∀ r, P r) : ∀ n i, n + i = 6 → ∀ w, wp_X9_twice_L29 v1 v2 v3 σ P (n + 1) w (nI i) := by
  have hr := b_rolls hI
  intro n
  induction n with
  | zero =>
    intro i hi w
    unfold wp_X9_twice_L29
    rw [if_pos (by rw [Int32.le_iff_toInt_le, nI_toInt (by omega), ← hr.1]; omega)]
    exact h _
  | succ n ih =>
    intro i hi w
    unfold wp_X9_twice_L29
    have hv : vp_in (nI i) 6 := vp_in_nI (by omega) (by omega)
    split
    · exact h _
    · refine ⟨hv, ?_⟩
      intro z _
      have go : ∀ s, wp_X9_twice_J90 v1 v2 v3 w (nI i) z s σ (fun v4 v5 => wp_X9_twice_L29 v1 v2 v3 σ P (n + 1) v4 v5) := by
        intro s z1 _ x _
        show wp_X9_twice_L29 v1 v2 v3 σ P (n + 1) x (nI i + 1)
        rw [nI_1]
        exact ih (i + 1) (by omega) _
      split
      · refine ⟨hv, hv, ?_⟩
        rw [nI_clamp (by omega)]
        have hd := b_read hI (k := i) (by omega)
        refine i_ones (by rw [← hd.1]; exact hd.2.1) (by rw [← hd.1]; exact hd.2.2) ?_
        intro z2 _
        exact go _
      · exact go _
theorem e_tw9M {v1 : Int32} (hI : IB σ) (h : ∀ r, P r) : ∀ n i, n + i = 8 → ∀ w, wp_X9_twice_L17 v1 σ P (n + 1) w (nI i) := by
  intro n
  induction n with
  | zero =>
    intro i hi w
    unfold wp_X9_twice_L17
    rw [if_pos (by rw [show i = 8 by omega]; decide)]
    exact h _
  | succ n ih =>
    intro i hi w
    unfold wp_X9_twice_L17
    rw [if_neg (by rw [Int32.le_iff_toInt_le, nI_toInt (by omega)]; show ¬ (8 : Int) ≤ i; omega)]
    rw [nI_1]
    refine ⟨7, e_tw9L hI (fun r => ?_) 6 0 rfl _⟩
    intro _ _ x _
    exact ih (i + 1) (by omega) _
theorem e_twice (h : Inv σ) {K : Int32 → Int32 → Prop} (hk : ∀ r r', K r r') : wp_X8_twice a1 σ (fun r => wp_X9_twice a1 σ (fun r' => K r r')) := by
  have fin : ∀ r, wp_X9_twice a1 σ (fun r' => K r r') := by
    intro r
    unfold wp_X9_twice
    refine t_in (a := 0) (b := 1) rfl rfl (fun _ _ => ?_) (fun _ => hk _ _)
    exact ⟨9, e_tw9M h.1 (fun _ => hk _ _) 8 0 rfl _⟩
  unfold wp_X8_twice
  refine t_within (a := 0) (b := 1) rfl rfl (fun _ _ => ?_) (fun _ => fin _)
  intro z _
  exact ⟨9, e_twoL (fun _ => fin _) 8 0 rfl _⟩
theorem e_bur8L (hI : IB σ) (h : ∀ r, PL r) : ∀ n i, n + i = 6 → ∀ w, wp_X8_burnt_L13 σ PL (n + 1) w (nI i) := by
  intro n
  induction n with
  | zero =>
    intro i hi w
    unfold wp_X8_burnt_L13
    split
    · exact h _
    · rw [if_pos (by rw [show i = 6 by omega]; decide)]
      exact h _
  | succ n ih =>
    intro i hi w
    unfold wp_X8_burnt_L13
    have hv : vp_in (nI i) 6 := vp_in_nI (by omega) (by omega)
    rw [nI_1, nI_clamp (by omega)]
    split
    · exact h _
    · split
      · exact h _
      · refine ⟨hv, ?_⟩
        refine i_bitCount ⟨hv, ?_⟩
        have hm := b_room hI (k := i) (by omega)
        refine e_ways hm.2.2.1 (fun r => ?_)
        intro x _
        exact ih (i + 1) (by omega) _
theorem e_bur9L (hI : IB σ) (h : ∀ r, PL r) : ∀ n i, n + i = 6 → ∀ w, wp_X9_burnt_L4 σ PL (n + 1) w (nI i) := by
  have hr := b_rolls hI
  intro n
  induction n with
  | zero =>
    intro i hi w
    unfold wp_X9_burnt_L4
    rw [if_pos (by rw [Int32.le_iff_toInt_le, nI_toInt (by omega), ← hr.1]; omega)]
    exact h _
  | succ n ih =>
    intro i hi w
    unfold wp_X9_burnt_L4
    have hv : vp_in (nI i) 6 := vp_in_nI (by omega) (by omega)
    rw [nI_1, nI_clamp (by omega)]
    split
    · exact h _
    · refine ⟨hv, ?_⟩
      have hd := b_read hI (k := i) (by omega)
      have hm := b_room hI (k := i) (by omega)
      refine i_ones (by rw [← hd.1]; exact hd.2.1) (by rw [← hd.1]; exact hd.2.2) ⟨hv, ?_⟩
      rw [← hm.1]
      refine e_choose hm.2.2.1 (fun r => ?_)
      intro x _
      exact ih (i + 1) (by omega) _
theorem e_burnt (h : Inv σ) {K : Int64 → Int64 → Prop} (hk : ∀ r r', K r r') : wp_X8_burnt σ (fun r => wp_X9_burnt σ (fun r' => K r r')) :=
  ⟨7, e_bur8L h.1 (fun _ => ⟨7, e_bur9L h.1 (fun _ => hk _ _) 6 0 rfl _⟩) 6 0 rfl _⟩
end S
end
section
/-! bound, line, convoy: they answer -/
theorem z_mul (a b : Nat) : nI a * nI b = nI (a * b) := (Int32.ofNat_mul a b).symm
theorem z_mul3 (a : Nat) : nI a * 3 = nI (a * 3) := z_mul a 3
theorem z_3mul (a : Nat) : 3 * nI a = nI (3 * a) := z_mul 3 a
theorem z_dn (k : Nat) : nI k + -1 = nI k - 1 := (Int32.sub_eq_add_neg (nI k) 1).symm
theorem z_dn0 : nI 0 - 1 < 0 := by decide
theorem z_3le : ∀ i, i ≤ 6 → 1 ≤ 3 ^ i ∧ 3 ^ i ≤ 729 ∧ (i ≤ 5 → 3 ^ i ≤ 243) := by decide
section S
variable {σ σ0 : zST} {P : Int32 → Prop} {Q : zST → Prop} {R : Int32 → zST → Prop} {a1 a2 a3 : Int32} {a : Nat} {v : Int32}
def zF (σ0 σ : zST) (c : Nat) : Prop := (∀ a k, a ≠ 63 → a ≠ 64 → σ.1 a k = σ0.1 a k) ∧ σ.1 63 1 = nI c
theorem e_moored (h1 : 0 ≤ v.toInt → v.toInt ≤ 5 → P 1) (h0 : P 0) : wp_X6_moored a v σ P := by
  refine i_has rfl (fun x y _ => ⟨by rw [if_neg (by decide)]; exact ⟨zv x (by omega), trivial⟩, ?_⟩) (fun _ => ⟨by rw [if_pos rfl]; trivial, ?_⟩)
  · rw [if_neg (by decide)]
    intro z hz
    exact zbit hz (fun _ => h1 x y) (fun _ => h0)
  · rw [if_pos rfl]
    rintro z rfl
    exact ⟨zB0, h0⟩
theorem e_harbour (h1 : 0 ≤ v.toInt → v.toInt ≤ 5 → P 1) (h0 : P 0) : wp_X9_isInHarbour v σ P := by
  refine i_isShip rfl (fun x y _ => ⟨by rw [if_neg (by decide)]; exact ⟨zv x (by omega), trivial⟩, ?_⟩) (fun _ => ⟨by rw [if_pos rfl]; trivial, ?_⟩)
  · rw [if_neg (by decide)]
    intro z hz
    exact zbit hz (fun _ => h1 x y) (fun _ => h0)
  · rw [if_pos rfl]
    rintro z rfl
    exact ⟨zB0, h0⟩
theorem e_gathL34 {c : Nat} (hI : IB σ0) (hc : c < 6) (hv : vp_in v 6) (h0 : 0 ≤ a1.toInt) (h : ∀ σ', zF σ0 σ' c → Q σ') : ∀ n i, n + i = 3 → ∀ σ, zF σ0 σ c → wp_X2_gather_L34 2 a1 v Q (n + 1) (nI i) σ := by
  intro n
  induction n with
  | zero =>
    intro i hi σ hF
    unfold wp_X2_gather_L34
    rw [if_pos (by rw [show i = 3 by omega]; decide)]
    exact h _ hF
  | succ n ih =>
    intro i hi σ hF
    unfold wp_X2_gather_L34
    rw [if_neg (by rw [Int32.le_iff_toInt_le, nI_toInt (by omega)]; show ¬ (3 : Int) ≤ i; omega)]
    have hd := b_digits hI
    have e7 : σ.1 2 7 = σ0.1 2 7 := hF.1 2 7 (by omega) (by omega)
    refine i_meanBy hv h0 (by rw [e7]; exact hd.2.1) (by rw [e7]; exact hd.2.2) ?_
    intro x _
    refine i_worstBy hv h0 (by rw [e7]; exact hd.2.1) (by rw [e7]; exact hd.2.2) ?_
    rw [nI_1, hF.2, z_mul3, nI_add]
    exact ⟨vp_in_nI (by omega) (by omega), ih (i + 1) (by omega) _ hF⟩
theorem e_gathL7 (hI : IB σ0) (h0 : 0 ≤ a1.toInt) (h : ∀ c σ', c ≤ 6 → zF σ0 σ' c → Q σ') : ∀ n i, n + i = 6 → ∀ c σ, c ≤ i → zF σ0 σ c → wp_X2_gather_L7 2 a1 Q (n + 1) (nI i) σ := by
  intro n
  induction n with
  | zero =>
    intro i hi c σ hc hF
    unfold wp_X2_gather_L7
    rw [if_pos (by rw [show i = 6 by omega]; decide)]
    exact h c _ (by omega) hF
  | succ n ih =>
    intro i hi c σ hc hF
    unfold wp_X2_gather_L7
    rw [if_neg (by rw [Int32.le_iff_toInt_le, nI_toInt (by omega)]; show ¬ (6 : Int) ≤ i; omega)]
    rw [nI_1]
    refine e_moored (fun x y => ?_) ?_
    · refine zi1 ?_
      rw [hF.2, nI_clamp (by omega)]
      refine ⟨vp_in_nI (by omega) (by omega), ⟨4, e_gathL34 (c := c) hI (by omega) (vp_in_nI (by omega) (by omega)) h0 (fun σ' hF' => ?_) 3 0 rfl _ ?_⟩⟩
      · refine ih (i + 1) (by omega) (c + 1) _ (by omega) ⟨fun a k n1 n2 => ?_, ?_⟩
        · rw [wI_at, if_neg (by omega)]; exact hF'.1 a k n1 n2
        · rw [wI_at, if_pos ⟨rfl, rfl⟩, hF'.2, nI_1]
      · refine ⟨fun a k n1 n2 => ?_, ?_⟩
        · rw [wI_at, if_neg (by omega)]; exact hF.1 a k n1 n2
        · rw [wI_at, if_neg (by omega)]; exact hF.2
    · exact zi0 (ih (i + 1) (by omega) c σ (by omega) hF)
theorem e_gather (hI : IB σ) (h0 : 0 ≤ a1.toInt) (h : ∀ c σ', c ≤ 6 → zF σ σ' c → Q σ') : wp_X2_gather 2 a1 σ Q := by
  refine ⟨7, e_gathL7 hI h0 h 6 0 rfl 0 _ (by omega) ⟨fun a k n1 n2 => ?_, ?_⟩⟩
  · rw [wI_at, if_neg (by omega)]
  · rw [wI_at, if_pos ⟨rfl, rfl⟩]; rfl
theorem e_spr47 {c k j : Nat} {v1 : Int32} {x : Int64} (hj : j < 6) (hk : k < 243) (h : ∀ σ', zF σ0 σ' c → Q σ') : ∀ n i, n + i = 3 → ∀ σ, zF σ0 σ c → wp_X2_spreadChoices_L47 v1 (nI j) (nI k) x Q (n + 1) (nI i) σ := by
  intro n
  induction n with
  | zero =>
    intro i hi σ hF
    unfold wp_X2_spreadChoices_L47
    rw [if_pos (by rw [show i = 3 by omega]; decide)]
    exact h _ hF
  | succ n ih =>
    intro i hi σ hF
    unfold wp_X2_spreadChoices_L47
    rw [if_neg (by rw [Int32.le_iff_toInt_le, nI_toInt (by omega)]; show ¬ (3 : Int) ≤ i; omega)]
    rw [nI_1, z_mul3, z_mul3, nI_add, nI_add]
    exact ⟨vp_in_nI (by omega) (by omega), vp_in_nI (by omega) (by omega), ih (i + 1) (by omega) _ hF⟩
theorem e_spr32 {c j : Nat} {v1 : Int32} (hj : j < 6) (h : ∀ σ', zF σ0 σ' c → Q σ') : ∀ k, k ≤ 243 → ∀ σ, zF σ0 σ c → wp_X2_spreadChoices_L32 v1 (nI j) Q (k + 1) (nI k - 1) σ := by
  intro k
  induction k with
  | zero =>
    intro _ σ hF
    unfold wp_X2_spreadChoices_L32
    rw [if_pos z_dn0]
    exact h _ hF
  | succ k ih =>
    intro hk σ hF
    unfold wp_X2_spreadChoices_L32
    rw [nI_pred, if_neg (nI_pos (by omega)), z_dn]
    refine ⟨vp_in_nI (by omega) (by omega), ?_⟩
    intro x _
    exact ⟨4, e_spr47 hj (by omega) (fun σ' hF' => ih (by omega) _ hF') 3 0 rfl _ hF⟩
theorem e_spr11 {c : Nat} (hc : c ≤ 6) (h : ∀ i σ', i ≤ 6 → zF σ0 σ' c → R (nI (3 ^ i)) σ') : ∀ n i, n + i = c → ∀ σ, zF σ0 σ c → wp_X2_spreadChoices_L11 R (n + 1) (nI (3 ^ i)) (nI i) σ := by
  intro n
  induction n with
  | zero =>
    intro i hi σ hF
    unfold wp_X2_spreadChoices_L11
    rw [if_pos (by rw [hF.2]; exact nI_le (by omega) (by omega))]
    exact h i _ (by omega) hF
  | succ n ih =>
    intro i hi σ hF
    unfold wp_X2_spreadChoices_L11
    have p3 := z_3le i (by omega)
    split
    · exact h i _ (by omega) hF
    · split
      · exact h i _ (by omega) hF
      · rintro _ rfl
        refine ⟨3 ^ i + 1, e_spr32 (by omega) (fun σ' hF' => ?_) (3 ^ i) (p3.2.2 (by omega)) _ hF⟩
        rintro _ rfl
        rw [z_mul3, nI_1, ← Nat.pow_succ]
        exact ih (i + 1) (by omega) _ hF'
theorem e_spread {c : Nat} (hc : c ≤ 6) (hF : zF σ0 σ c) (h : ∀ i σ', i ≤ 6 → zF σ0 σ' c → R (nI (3 ^ i)) σ') : wp_X2_spreadChoices σ R :=
  ⟨c + 1, e_spr11 hc h c 0 rfl _ hF⟩
theorem e_leastL {c m : Nat} {v1 : Int32} (hm : m ≤ 729) (h : ∀ r σ', r = -6 ∨ (∃ k, k < 729 ∧ r = nI k) → zF σ0 σ' c → R r σ') : ∀ n i, n + i = m → ∀ r σ, r = -6 ∨ (∃ k, k < 729 ∧ r = nI k) → zF σ0 σ c → wp_X2_leastWithin_L11 v1 (nI m) R (n + 1) r (nI i) σ := by
  intro n
  induction n with
  | zero =>
    intro i hi r σ hr hF
    unfold wp_X2_leastWithin_L11
    rw [if_pos (nI_le (by omega) (by omega))]
    exact h _ _ hr hF
  | succ n ih =>
    intro i hi r σ hr hF
    unfold wp_X2_leastWithin_L11
    have hv : vp_in (nI i) 729 := vp_in_nI (by omega) (by omega)
    rw [if_neg (nI_ge (by omega) (by omega)), nI_1]
    refine ⟨hv, ?_⟩
    show if v1 < _ then _ else _
    split
    · exact ih (i + 1) (by omega) _ _ hr hF
    · by_cases e : r = -6
      · rw [if_pos e]
        exact ih (i + 1) (by omega) _ _ (Or.inr ⟨i, by omega, rfl⟩) hF
      · rw [if_neg e]
        refine ⟨hv, ?_⟩
        obtain ⟨k, hk, rfl⟩ := hr.resolve_left e
        refine ⟨vp_in_nI hk (by omega), ?_⟩
        show if _ ≤ _ then _ else _
        split
        · exact ih (i + 1) (by omega) _ _ hr hF
        · exact ih (i + 1) (by omega) _ _ (Or.inr ⟨i, by omega, rfl⟩) hF
theorem e_least {c : Nat} (hc : c ≤ 6) (hF : zF σ0 σ c) (h : ∀ r σ', r = -6 ∨ (∃ k, k < 729 ∧ r = nI k) → zF σ0 σ' c → R r σ') : wp_X2_leastWithin a1 σ R :=
  e_spread hc hF (fun i σ' hi hF' => ⟨3 ^ i + 1, e_leastL (z_3le i hi).2.1 h (3 ^ i) 0 rfl _ _ (Or.inl rfl) hF'⟩)
theorem e_meanCh (h : ∀ r, P r) : wp_X2_meanOfChoice v σ P := by
  refine t_within (a := 0) (b := 728) rfl rfl (fun x y => ⟨zv x (by omega), ?_⟩) (fun _ => h _)
  exact h _
theorem e_sideL (h : ∀ r, P r) : ∀ k, k ≤ 6 → ∀ x, wp_X2_sideInChoice_L10 v σ P (k + 1) x (nI k - 1) := by
  intro k
  induction k with
  | zero =>
    intro _ x
    unfold wp_X2_sideInChoice_L10
    rw [if_pos z_dn0]
    exact h _
  | succ k ih =>
    intro hk x
    unfold wp_X2_sideInChoice_L10
    rw [nI_pred, if_neg (nI_pos (by omega)), z_dn]
    refine ⟨vp_in_nI (by omega) (by omega), ?_⟩
    split
    · exact h _
    · intro y _
      exact ih (by omega) y
theorem e_side {c : Nat} (hc : c ≤ 6) (hF : zF σ0 σ c) (h : ∀ r, P r) : wp_X2_sideInChoice a1 v σ P := by
  unfold wp_X2_sideInChoice
  rw [hF.2]
  rintro _ rfl
  exact ⟨c + 1, e_sideL h c hc _⟩
theorem e_mallL {c s : Nat} (hc : c ≤ 6) (hs : s < 3) (hF : zF σ0 σ c) (h : ∀ r, P r) : ∀ n i, n + i = c → ∀ x, wp_X2_meanOfAllBy_L4 (nI s) σ P (n + 1) x (nI i) := by
  intro n
  induction n with
  | zero =>
    intro i hi x
    unfold wp_X2_meanOfAllBy_L4
    rw [if_pos (by rw [hF.2]; exact nI_le (by omega) (by omega))]
    exact h _
  | succ n ih =>
    intro i hi x
    unfold wp_X2_meanOfAllBy_L4
    rw [hF.2, if_neg (nI_ge (by omega) (by omega)), nI_1, z_mul3, nI_add]
    refine ⟨vp_in_nI (by omega) (by omega), ?_⟩
    intro y _
    exact ih (i + 1) (by omega) y
theorem e_mall {c s : Nat} (hc : c ≤ 6) (hs : s < 3) (hF : zF σ0 σ c) (h : ∀ r, P r) : wp_X2_meanOfAllBy (nI s) σ P := ⟨c + 1, e_mallL hc hs hF h c 0 rfl _⟩
theorem e_commL {c : Nat} (hc : c ≤ 6) (hF : zF σ0 σ c) (h : ∀ s, s < 3 → P (nI s)) : ∀ n i, n + i = 3 → ∀ s, s < 3 → wp_X2_commonSide_L4 σ P (n + 1) (nI s) (nI i) := by
  intro n
  induction n with
  | zero =>
    intro i hi s hs
    unfold wp_X2_commonSide_L4
    rw [if_pos (by rw [show i = 3 by omega]; decide)]
    exact h s hs
  | succ n ih =>
    intro i hi s hs
    unfold wp_X2_commonSide_L4
    rw [if_neg (by rw [Int32.le_iff_toInt_le, nI_toInt (by omega)]; show ¬ (3 : Int) ≤ i; omega)]
    rw [nI_1]
    refine e_mall hc (by omega) hF (fun r => ?_)
    refine e_mall hc hs hF (fun r' => ?_)
    split
    · exact ih (i + 1) (by omega) s hs
    · exact ih (i + 1) (by omega) i (by omega)
theorem e_comm {c : Nat} (hc : c ≤ 6) (hF : zF σ0 σ c) (h : ∀ s, s < 3 → P (nI s)) : wp_X2_commonSide σ P := ⟨3, e_commL hc hF h 2 1 rfl 0 (by omega)⟩
theorem e_J153 {v1 v2 v3 v4 v5 v7 : Int32} {x : Int64} {c u : Nat} {K : Int32 → Int32 → Int32 → Int32 → Int32 → zST → Prop} (hu : u ≤ 729) (hF : zF σ0 σ c) (h : ∀ u' σ', u' ≤ 729 → zF σ0 σ' c → K v3 v4 v5 (nI u') (v7 + 1) σ') : wp_X2_widenFront_J153 v1 v2 v3 v4 v5 (nI u) v7 x σ K := by
  unfold wp_X2_widenFront_J153
  split
  · exact h u _ hu hF
  · rename_i q
    have hlt : u < 729 := by
      rw [Int32.le_iff_toInt_le, nI_toInt (by omega)] at q
      have q : ¬ (729 : Int) ≤ u := q
      omega
    have hv : vp_in (nI u) 729 := vp_in_nI hlt (by omega)
    have put : K v3 v4 v5 (nI u + 1) (v7 + 1) (wL σ 68 (nI u).toNatClampNeg x) := by
      rw [nI_1]
      exact h (u + 1) _ (by omega) hF
    by_cases e : nI u = 0
    · rw [if_pos e]
      exact ⟨hv, put⟩
    · rw [if_neg e]
      have h1 : 1 ≤ u := by
        rcases Nat.eq_zero_or_pos u with z | z
        · subst z
          exact absurd rfl e
        · exact z
      refine ⟨?_, ?_⟩
      · obtain ⟨t, rfl⟩ : ∃ t, u = t + 1 := ⟨u - 1, by omega⟩
        rw [nI_pred]
        exact vp_in_nI (by omega) (by omega)
      · show if _ ≤ _ then _ else _
        split
        · exact h u _ hu hF
        · exact ⟨hv, put⟩
theorem e_widL {c f j : Nat} (hf : f ≤ 729) (hj : j < 6) (h : ∀ u σ', u ≤ 729 → zF σ0 σ' c → R (nI u) σ') : ∀ n t, n + t = 3 * f → ∀ x y z u σ, x ≤ t → y ≤ t → z ≤ t → u ≤ 729 → zF σ0 σ c → wp_X2_widenFront_L14 (nI f) (nI (j * 3)) R (n + 1) (nI x) (nI y) (nI z) (nI u) (nI t) σ := by
  intro n
  induction n with
  | zero =>
    intro t ht x y z u σ hx hy hz hu hF
    unfold wp_X2_widenFront_L14
    rw [z_3mul, if_pos (nI_le (by omega) (by omega))]
    refine ⟨⟨by decide, by decide, nI_pos (by omega), ?_, ?_⟩, h u _ hu hF⟩
    · rw [nI_clamp (by omega)]
      show 0 + u ≤ 729
      omega
    · rw [nI_clamp (by omega)]
      show 0 + u ≤ 729
      omega
  | succ n ih =>
    intro t ht x y z u σ hx hy hz hu hF
    unfold wp_X2_widenFront_L14
    have ok : ∀ x k, x ≤ t → k < 3 → (if nI f ≤ nI x then True else vp_in (nI x) 729 ∧ vp_in (nI (j * 3 + k)) 18 ∧ True) := by
      intro x k hx hk
      split
      · trivial
      · rename_i q
        rw [nI_leI (by omega) (by omega)] at q
        exact ⟨vp_in_nI (by omega) (by omega), vp_in_nI (by omega) (by omega), trivial⟩
    have e1 : nI (j * 3) + 1 = nI (j * 3 + 1) := nI_add _ 1
    have e2 : nI (j * 3) + 2 = nI (j * 3 + 2) := nI_add _ 2
    rw [z_3mul, if_neg (nI_ge (by omega) (by omega)), e1, e2]
    refine ⟨ok x 0 hx (by omega), ?_⟩
    intro z4 _
    refine ⟨ok y 1 hy (by omega), ?_⟩
    intro z10 _
    refine ⟨ok z 2 hz (by omega), ?_⟩
    intro z16 _ x21 _
    split
    · refine e_J153 hu hF (fun u' σ' hu' hF' => ?_)
      rw [nI_1, nI_1]
      exact ih (t + 1) (by omega) _ _ _ _ _ (by omega) (by omega) (by omega) hu' hF'
    · split
      · refine e_J153 hu hF (fun u' σ' hu' hF' => ?_)
        rw [nI_1, nI_1]
        exact ih (t + 1) (by omega) _ _ _ _ _ (by omega) (by omega) (by omega) hu' hF'
      · refine e_J153 hu hF (fun u' σ' hu' hF' => ?_)
        rw [nI_1, nI_1]
        exact ih (t + 1) (by omega) _ _ _ _ _ (by omega) (by omega) (by omega) hu' hF'
theorem e_drawL {c : Nat} (hc : c ≤ 6) (h : ∀ u σ', u ≤ 729 → zF σ0 σ' c → R (nI u) σ') : ∀ n i, n + i = c → ∀ f σ, f ≤ 729 → zF σ0 σ c → wp_X2_drawLine_L11 R (n + 1) (nI f) (nI i) σ := by
  intro n
  induction n with
  | zero =>
    intro i hi f σ hf hF
    unfold wp_X2_drawLine_L11
    rw [if_pos (by rw [hF.2]; exact nI_le (by omega) (by omega))]
    exact h f _ hf hF
  | succ n ih =>
    intro i hi f σ hf hF
    unfold wp_X2_drawLine_L11
    rw [hF.2, if_neg (nI_ge (by omega) (by omega)), nI_1, z_mul3]
    exact ⟨3 * f + 1, e_widL hf (by omega) (fun u σ' hu hF' => ih (i + 1) (by omega) u σ' hu hF') (3 * f) 0 rfl 0 0 0 0 σ (by omega) (by omega) (by omega) (by omega) hF⟩
theorem e_draw {c : Nat} (hc : c ≤ 6) (hF : zF σ0 σ c) (h : ∀ u σ', u ≤ 729 → zF σ0 σ' c → R (nI u) σ') : wp_X2_drawLine σ R :=
  ⟨c + 1, e_drawL hc h c 0 rfl 1 _ (by omega) hF⟩
theorem e_onl (h : ∀ r, P r) : wp_X2_onLine a1 a2 σ P := by
  refine t_within (a := 0) (b := 728) rfl rfl (fun x y => ?_) (fun _ => h _)
  have hv : vp_in a1 729 := zv x (by omega)
  split
  · exact ⟨hv, h _⟩
  · exact ⟨hv, h _⟩
theorem zF_inv {c : Nat} (h : Inv σ0) (hF : zF σ0 σ c) : Inv σ := Inv_fr (fun a k x => hF.1 a k (by omega) (by omega)) h
theorem e_bound8 (h : Inv σ) (hk : ∀ r σ', Inv σ' → R r σ') : wp_X8_bound a1 a2 a3 σ R := by
  unfold wp_X8_bound
  have go : ∀ z : Int32, z = a3 → 0 ≤ a1.toInt → wp_X2_gather 2 a1 σ (fun σ9 => wp_X2_leastWithin a2 σ9 (fun r10 σ11 => (if r10 = (-6 : Int32) then R (-6 : Int32) σ11 else (if z = (-1 : Int32) then wp_X2_meanOfChoice r10 σ11 (fun r16 => R r16 σ11) else wp_X2_sideInChoice r10 z σ11 (fun r14 => R r14 σ11))))) := by
    intro z _ h0
    refine e_gather h.1 h0 (fun c σ1 hc hF => ?_)
    refine e_least hc hF (fun r σ2 _ hF2 => ?_)
    have hi := zF_inv h hF2
    split
    · exact hk _ _ hi
    · split
      · exact e_meanCh (fun _ => hk _ _ hi)
      · exact e_side hc hF2 (fun _ => hk _ _ hi)
  by_cases e : a3 = -1
  · rw [if_pos e]
    refine t_isHour8 (fun g0 _ => ?_) (fun _ => hk _ _ h)
    refine t_within (a := 0) (b := 99999) rfl rfl (fun _ _ => ?_) (fun _ => hk _ _ h)
    exact go a3 rfl g0
  · rw [if_neg e]
    refine e_moored (fun _ _ => zi1 ?_) (zi0 (hk _ _ h))
    refine t_isHour8 (fun g0 _ => ?_) (fun _ => hk _ _ h)
    refine t_within (a := 0) (b := 99999) rfl rfl (fun _ _ => ?_) (fun _ => hk _ _ h)
    exact go a3 rfl g0
theorem e_line8 (h : Inv σ) (hk : ∀ r σ', Inv σ' → R r σ') : wp_X8_line a1 a2 a3 σ R := by
  unfold wp_X8_line
  refine t_isHour8 (fun g0 _ => ?_) (fun _ => hk _ _ h)
  split
  · exact hk _ _ h
  · refine t_within (a := 0) (b := 1) rfl rfl (fun _ _ => ?_) (fun _ => hk _ _ h)
    refine e_gather h.1 g0 (fun c σ1 hc hF => ?_)
    refine e_draw hc hF (fun r σ2 _ hF2 => ?_)
    have hi := zF_inv h hF2
    split
    · exact hk _ _ hi
    · split
      · exact hk _ _ hi
      · exact e_onl (fun _ => hk _ _ hi)
theorem e_convoy8 (h : Inv σ) (hk : ∀ r σ', Inv σ' → R r σ') : wp_X8_convoy a1 a2 σ R := by
  unfold wp_X8_convoy
  refine t_isHour8 (fun g0 _ => ?_) (fun _ => hk _ _ h)
  refine t_within (a := 0) (b := 1) rfl rfl (fun _ _ => ?_) (fun _ => hk _ _ h)
  refine e_gather h.1 g0 (fun c σ1 hc hF => ?_)
  have hi := zF_inv h hF
  refine e_comm hc hF (fun s hs => ?_)
  split
  · exact hk _ _ hi
  · exact e_mall hc hs hF (fun _ => hk _ _ hi)
end S
end
section
/-! the reference's fleets -/
section S
variable {σ σ0 : zST} {P : Int32 → Prop} {Q : zST → Prop} {R : Int32 → zST → Prop} {a1 a2 a3 : Int32} {a m : Nat} {v : Int32}
def zR (σ0 σ : zST) (m : Nat) : Prop := (∀ a k, ¬ (a = 69 ∧ k = 34) → a ≠ 82 → a ≠ 83 → a ≠ 84 → σ.1 a k = σ0.1 a k) ∧ σ.1 69 34 = nI m
theorem zR_IB (h : IB σ0) (hF : zR σ0 σ m) : IB σ := IB_fr (fun a k x => hF.1 a k (by omega) (by omega) (by omega) (by omega)) h
theorem zR_inv (h : Inv σ0) (hF : zR σ0 σ m) : Inv σ := Inv_fr (fun a k x => hF.1 a k (by omega) (by omega) (by omega) (by omega)) h
theorem zR_w {x j : Nat} {u : Int32} (hF : zR σ0 σ m) (hx : x = 82 ∨ x = 83 ∨ x = 84) : zR σ0 (wI σ x j u) m := by
  refine ⟨fun a k n1 n2 n3 n4 => ?_, ?_⟩
  · rw [wI_at, if_neg (by omega)]; exact hF.1 a k n1 n2 n3 n4
  · rw [wI_at, if_neg (by omega)]; exact hF.2
theorem e_lay42 {k : Nat} (hI : IB σ0) (hm : m ≤ 243) (hk : k < 3) (v0 : 0 ≤ v.toInt) (v1 : v.toInt ≤ 5) (h0 : 0 ≤ a1.toInt) (h : ∀ σ', zR σ0 σ' m → Q σ') : ∀ n i, n + i = m → ∀ σ, zR σ0 σ m → wp_X9_layFleet_L42 a1 v (nI k) Q (n + 1) (nI i) σ := by
  have hkm : k * m ≤ 2 * m := Nat.mul_le_mul_right m (by omega)
  intro n
  induction n with
  | zero =>
    intro i hi σ hF
    unfold wp_X9_layFleet_L42
    rw [if_pos (by rw [hF.2]; exact nI_le (by omega) (by omega))]
    exact h _ hF
  | succ n ih =>
    intro i hi σ hF
    unfold wp_X9_layFleet_L42
    have hv : vp_in (nI i) 729 := vp_in_nI (by omega) (by omega)
    have hw : vp_in (nI (k * m + i)) 729 := vp_in_nI (by omega) (by omega)
    rw [hF.2, if_neg (nI_ge (by omega) (by omega)), z_mul, nI_add, nI_1]
    refine ⟨hv, ?_⟩
    refine i_meanOf (zR_IB hI hF) v0 v1 h0 ?_
    refine ⟨hw, ?_⟩
    intro σ11 e11
    have hF2 : zR σ0 σ11 m := by rw [e11]; exact zR_w hF (by omega)
    refine ⟨hv, ?_⟩
    refine i_worstOf (zR_IB hI hF2) v0 v1 h0 ?_
    rw [hF2.2, z_mul, nI_add]
    exact ⟨hw, ih (i + 1) (by omega) _ (zR_w hF2 (by omega))⟩
theorem e_lay35 (hI : IB σ0) (hm : m ≤ 243) (v0 : 0 ≤ v.toInt) (v1 : v.toInt ≤ 5) (h0 : 0 ≤ a1.toInt) (h : ∀ σ', zR σ0 σ' m → Q σ') : ∀ k, k ≤ 3 → ∀ σ, zR σ0 σ m → wp_X9_layFleet_L35 a1 v Q (k + 1) (nI k - 1) σ := by
  intro k
  induction k with
  | zero =>
    intro _ σ hF
    unfold wp_X9_layFleet_L35
    rw [if_pos z_dn0]
    exact h _ hF
  | succ k ih =>
    intro hk σ hF
    unfold wp_X9_layFleet_L35
    rw [nI_pred, if_neg (nI_pos (by omega)), z_dn]
    exact ⟨m + 1, e_lay42 hI hm (by omega) v0 v1 h0 (fun σ' hF' => ih (by omega) _ hF') m 0 rfl _ hF⟩
theorem e_lay21 (hI : IB σ0) (h0 : 0 ≤ a1.toInt) (h : ∀ c σ', c ≤ 6 → zR σ0 σ' (3 ^ c) → Q σ') : ∀ k c, k + c ≤ 6 → ∀ σ, zR σ0 σ (3 ^ c) → wp_X9_layFleet_L21 a1 Q (k + 1) (nI k - 1) σ := by
  intro k
  induction k with
  | zero =>
    intro c hc σ hF
    unfold wp_X9_layFleet_L21
    rw [if_pos z_dn0]
    exact h c _ (by omega) hF
  | succ k ih =>
    intro c hc σ hF
    unfold wp_X9_layFleet_L21
    rw [nI_pred, if_neg (nI_pos (by omega)), z_dn]
    refine e_harbour (fun x y => zi1 ?_) (zi0 (ih c (by omega) σ hF))
    refine ⟨4, e_lay35 hI ((z_3le c (by omega)).2.2 (by omega)) x y h0 (fun σ' hF' => ?_) 3 (by omega) σ hF⟩
    refine ih (c + 1) (by omega) _ ⟨fun a k n1 n2 n3 n4 => ?_, ?_⟩
    · rw [wI_at, if_neg n1]; exact hF'.1 a k n1 n2 n3 n4
    · rw [wI_at, if_pos ⟨rfl, rfl⟩, hF'.2, z_mul3, Nat.pow_succ]
theorem e_lay (hI : IB σ) (h0 : 0 ≤ a1.toInt) (h : ∀ c σ', c ≤ 6 → zR σ σ' (3 ^ c) → Q σ') : wp_X9_layFleet a1 σ Q := by
  refine ⟨7, e_lay21 hI h0 h 6 0 (by omega) _ (zR_w (zR_w ⟨fun a k n1 n2 n3 n4 => ?_, ?_⟩ (by omega)) (by omega))⟩
  · rw [wI_at, if_neg n1]
  · rw [wI_at, if_pos ⟨rfl, rfl⟩]; rfl
theorem e_bou49 {v2 v3 : Int32} (hm : m ≤ 729) (hF : zR σ0 σ m) (h : ∀ r, r.toInt < 0 ∨ (∃ k, k < 729 ∧ r = nI k) → R r σ) : ∀ n i, n + i = m → ∀ r : Int32, r.toInt < 0 ∨ (∃ k, k < 729 ∧ r = nI k) → wp_X9_bound_L49 v2 v3 R (n + 1) r (nI i) σ := by
  intro n
  induction n with
  | zero =>
    intro i hi r hr
    unfold wp_X9_bound_L49
    rw [if_pos (by rw [hF.2]; exact nI_le (by omega) (by omega))]
    exact h _ hr
  | succ n ih =>
    intro i hi r hr
    unfold wp_X9_bound_L49
    have hv : vp_in (nI i) 729 := vp_in_nI (by omega) (by omega)
    rw [hF.2, if_neg (nI_ge (by omega) (by omega)), nI_1]
    refine ⟨hv, ?_, ?_⟩
    · split
      · trivial
      · split
        · trivial
        · rename_i q
          rw [Int32.lt_iff_toInt_lt] at q
          obtain ⟨k, hk, rfl⟩ := hr.resolve_left q
          exact ⟨hv, vp_in_nI hk (by omega), trivial⟩
    · intro z _ z' hz'
      refine ih (i + 1) (by omega) _ ?_
      rw [hz']
      split
      · exact hr
      · exact Or.inr ⟨i, by omega, rfl⟩
theorem e_behL (h : ∀ c, c ≤ 6 → P (nI (3 ^ c))) : ∀ n i, n + i = 6 → ∀ c, c ≤ i → wp_X9_behindIt_L6 σ P (n + 1) (nI (3 ^ c)) (nI i) := by
  intro n
  induction n with
  | zero =>
    intro i hi c hc
    unfold wp_X9_behindIt_L6
    rw [if_pos (by rw [show i = 6 by omega]; decide)]
    exact h c (by omega)
  | succ n ih =>
    intro i hi c hc
    unfold wp_X9_behindIt_L6
    rw [if_neg (by rw [Int32.le_iff_toInt_le, nI_toInt (by omega)]; show ¬ (6 : Int) ≤ i; omega)]
    rw [nI_1]
    refine e_harbour (fun _ _ => ?_) ?_
    · rintro _ rfl _ rfl
      rw [if_neg (by decide), z_mul3, ← Nat.pow_succ]
      exact ih (i + 1) (by omega) (c + 1) (by omega)
    · rintro _ rfl _ rfl
      rw [if_pos rfl, show nI (3 ^ c) * 1 = nI (3 ^ c) from Int32.mul_one _]
      exact ih (i + 1) (by omega) c (by omega)
theorem e_beh (h0 : 0 ≤ v.toInt) (h1 : v.toInt ≤ 5) (h : ∀ r, r ≠ 0 → P r) : wp_X9_behindIt v σ P := by
  obtain ⟨k, hk, rfl, -⟩ := zN (h := 5) h0 (by omega)
  unfold wp_X9_behindIt
  rw [nI_1]
  rintro _ rfl
  refine ⟨6 - (k + 1) + 1, e_behL (fun c hc => h _ ?_) (6 - (k + 1)) (k + 1) (by omega) 0 (by omega)⟩
  have := z_3le c hc
  exact nI_ne0 (by omega) (by omega)
theorem e_bound9 (h : Inv σ) (hk : ∀ r σ', Inv σ' → R r σ') : wp_X9_bound a1 a2 a3 σ R := by
  unfold wp_X9_bound
  have go : ∀ z : Int32, (z ≠ -1 → 0 ≤ z.toInt ∧ z.toInt ≤ 5) → 0 ≤ a1.toInt → wp_X9_layFleet a1 σ (fun σ9 => ∃ M30 : Nat, wp_X9_bound_L49 a2 z (fun w4 σ => (if (0) ≤ w4 then (if z = (-1 : Int32) then vp_in w4 729 ∧ R (σ.1 82 w4.toNatClampNeg) σ else wp_X9_behindIt z σ (fun r26 => ¬ r26 = 0 ∧ R ((w4 / r26) - (w4 / r26) / (3 : Int32) * (3 : Int32)) σ)) else R (-6 : Int32) σ)) M30 (-6 : Int32) (0 : Int32) σ9) := by
    intro z hz h0
    refine e_lay h.1 h0 (fun c σ1 hc hF => ?_)
    have hi := zR_inv h hF
    refine ⟨3 ^ c + 1, e_bou49 (z_3le c hc).2.1 hF (fun r hr => ?_) (3 ^ c) 0 rfl _ (Or.inl (by decide))⟩
    split
    · rename_i q
      rw [Int32.le_iff_toInt_le] at q
      have q : 0 ≤ r.toInt := q
      obtain ⟨k, hk', rfl⟩ := hr.resolve_left (by omega)
      split
      · exact ⟨vp_in_nI hk' (by omega), hk _ _ hi⟩
      · rename_i q2
        exact e_beh (hz q2).1 (hz q2).2 (fun r hr => ⟨hr, hk _ _ hi⟩)
    · exact hk _ _ hi
  by_cases e : a3 = -1
  · rw [if_pos e]
    refine t_isHour (fun g0 _ => ?_) (fun _ => hk _ _ h)
    refine t_in (a := 0) (b := 99999) rfl rfl (fun _ _ => ?_) (fun _ => hk _ _ h)
    exact go a3 (fun q => absurd e q) g0
  · rw [if_neg e]
    refine e_harbour (fun x y => zi1 ?_) (zi0 (hk _ _ h))
    refine t_isHour (fun g0 _ => ?_) (fun _ => hk _ _ h)
    refine t_in (a := 0) (b := 99999) rfl rfl (fun _ _ => ?_) (fun _ => hk _ _ h)
    exact go a3 (fun _ => ⟨x, y⟩) g0
theorem e_onlL {j : Nat} (hm : m ≤ 729) (hj : j < m) (hF : zR σ0 σ m) (h : ∀ r, P r) : ∀ n i, n + i = m → ∀ r, (r = (0 : Int32) ∨ r = 1) → wp_X9_isOnLine_L4 (nI j) σ P (n + 1) r (nI i) := by
  have zb : ∀ r, (r = (0 : Int32) ∨ r = 1) → zB r := by
    rintro r (rfl | rfl)
    · exact zB0
    · exact zB1
  intro n
  induction n with
  | zero =>
    intro i hi r hr
    unfold wp_X9_isOnLine_L4
    rw [if_pos (by rw [hF.2]; exact nI_le (by omega) (by omega))]
    exact ⟨zb r hr, h _⟩
  | succ n ih =>
    intro i hi r hr
    unfold wp_X9_isOnLine_L4
    have hv : vp_in (nI i) 729 := vp_in_nI (by omega) (by omega)
    have hw : vp_in (nI j) 729 := vp_in_nI (by omega) (by omega)
    rw [hF.2, if_neg (nI_ge (by omega) (by omega)), nI_1]
    split
    · exact ⟨zb r hr, h _⟩
    · refine ⟨hv, hw, by split; trivial; exact ⟨hv, hw, trivial⟩, ?_⟩
      intro z6 _
      refine ⟨hv, hw, by split; trivial; exact ⟨hv, hw, trivial⟩, ?_⟩
      intro z15 _ z22 h22
      refine ih (i + 1) (by omega) _ ?_
      rw [h22]
      (repeat' split) <;> first | exact Or.inl rfl | exact Or.inr rfl
theorem e_onl9 {j : Nat} (hm : m ≤ 729) (hj : j < m) (hF : zR σ0 σ m) (h : ∀ r, P r) : wp_X9_isOnLine (nI j) σ P := ⟨m + 1, e_onlL hm hj hF h m 0 (by omega) 1 (Or.inr rfl)⟩
theorem e_lesL {j : Nat} (hm : m ≤ 729) (hj : j < m) (hF : zR σ0 σ m) (h : ∀ r, P r) : ∀ n i, n + i = m → ∀ r, wp_X9_lessThan_L4 (nI j) σ P (n + 1) r (nI i) := by
  intro n
  induction n with
  | zero =>
    intro i hi r
    unfold wp_X9_lessThan_L4
    rw [if_pos (by rw [hF.2]; exact nI_le (by omega) (by omega))]
    exact h _
  | succ n ih =>
    intro i hi r
    unfold wp_X9_lessThan_L4
    have hv : vp_in (nI i) 729 := vp_in_nI (by omega) (by omega)
    have hw : vp_in (nI j) 729 := vp_in_nI (by omega) (by omega)
    rw [hF.2, if_neg (nI_ge (by omega) (by omega)), nI_1]
    refine ⟨hv, by split; exact ⟨hv, hw, trivial⟩; trivial, ?_⟩
    intro z _ x _
    exact ih (i + 1) (by omega) _
theorem e_les {j : Nat} (hm : m ≤ 729) (hj : j < m) (hF : zR σ0 σ m) (h : ∀ r, P r) : wp_X9_lessThan (nI j) σ P := ⟨m + 1, e_lesL hm hj hF h m 0 (by omega) 0⟩
theorem e_lin31 {v2 v3 : Int32} (hm : m ≤ 729) (h : ∀ r σ', zR σ0 σ' m → R r σ') : ∀ n i, n + i = m → ∀ r σ, zR σ0 σ m → wp_X9_line_L31 v2 v3 R (n + 1) r (nI i) σ := by
  intro n
  induction n with
  | zero =>
    intro i hi r σ hF
    unfold wp_X9_line_L31
    rw [if_pos (by rw [hF.2]; exact nI_le (by omega) (by omega))]
    exact h _ _ hF
  | succ n ih =>
    intro i hi r σ hF
    unfold wp_X9_line_L31
    have hv : vp_in (nI i) 729 := vp_in_nI (by omega) (by omega)
    rw [hF.2, if_neg (nI_ge (by omega) (by omega)), nI_1]
    refine e_onl9 hm (by omega) hF (fun s => ?_)
    intro z _
    refine ⟨hv, ?_⟩
    intro x _
    exact ih (i + 1) (by omega) _ _ (zR_w hF (by omega))
theorem e_lin113 {v2 v3 : Int32} (hm : m ≤ 729) (hF : zR σ0 σ m) (h : ∀ r, R r σ) : ∀ n i, n + i = m → wp_X9_line_L113 v2 v3 R (n + 1) (nI i) σ := by
  intro n
  induction n with
  | zero =>
    intro i hi
    unfold wp_X9_line_L113
    rw [if_pos (by rw [hF.2]; exact nI_le (by omega) (by omega))]
    exact h _
  | succ n ih =>
    intro i hi
    unfold wp_X9_line_L113
    have hv : vp_in (nI i) 729 := vp_in_nI (by omega) (by omega)
    rw [hF.2, if_neg (nI_ge (by omega) (by omega)), nI_1]
    refine ⟨hv, ?_⟩
    split
    · refine e_les hm (by omega) hF (fun s => ?_)
      split
      · refine ⟨by split <;> exact ⟨hv, trivial⟩, ?_⟩
        intro z _
        exact h _
      · exact ih (i + 1) (by omega)
    · exact ih (i + 1) (by omega)
theorem e_line9 (h : Inv σ) (hk : ∀ r σ', Inv σ' → R r σ') : wp_X9_line a1 a2 a3 σ R := by
  unfold wp_X9_line
  refine t_isHour (fun g0 _ => ?_) (fun _ => hk _ _ h)
  refine t_in (a := 0) (b := 1) rfl rfl (fun _ _ => ?_) (fun _ => hk _ _ h)
  refine e_lay h.1 g0 (fun c σ1 hc hF => ?_)
  refine ⟨3 ^ c + 1, e_lin31 (z_3le c hc).2.1 (fun r σ2 hF2 => ?_) (3 ^ c) 0 rfl _ _ hF⟩
  have hi := zR_inv h hF2
  by_cases e : a2 = -1
  · rw [if_pos e]
    intro z _
    exact hk _ _ hi
  · rw [if_neg e]
    refine t_in (a := 0) rfl (Int32.toInt_toInt64 _) (fun _ _ => ?_) (fun _ => ?_)
    · exact ⟨3 ^ c + 1, e_lin113 (z_3le c hc).2.1 hF2 (fun _ => hk _ _ hi) (3 ^ c) 0 rfl⟩
    · intro z _
      exact hk _ _ hi
theorem e_con41 {v2 v3 v4 v5 : Int32} (hI : IB σ) (h0 : 0 ≤ a1.toInt) (h : ∀ r, P r) : ∀ n i, n + i = 6 → ∀ x, wp_X9_convoy_L41 a1 v2 v3 v4 v5 σ P (n + 1) x (nI i) := by
  intro n
  induction n with
  | zero =>
    intro i hi x
    unfold wp_X9_convoy_L41
    rw [if_pos (by rw [show i = 6 by omega]; decide)]
    exact h _
  | succ n ih =>
    intro i hi x
    unfold wp_X9_convoy_L41
    rw [if_neg (by rw [Int32.le_iff_toInt_le, nI_toInt (by omega)]; show ¬ (6 : Int) ≤ i; omega)]
    rw [nI_1]
    refine e_harbour (fun u w => zi1 ?_) (zi0 ?_)
    · refine i_meanOf hI u w h0 ?_
      intro y _
      exact ih (i + 1) (by omega) _
    · intro y _
      exact ih (i + 1) (by omega) _
theorem e_con29 {v2 : Int32} (hI : IB σ) (h0 : 0 ≤ a1.toInt) (h : ∀ r, P r) : ∀ n i, n + i = 3 → ∀ x y, wp_X9_convoy_L29 a1 v2 σ P (n + 1) x y (nI i) := by
  intro n
  induction n with
  | zero =>
    intro i hi x y
    unfold wp_X9_convoy_L29
    rw [if_pos (by rw [show i = 3 by omega]; decide)]
    intro z _
    exact h _
  | succ n ih =>
    intro i hi x y
    unfold wp_X9_convoy_L29
    rw [if_neg (by rw [Int32.le_iff_toInt_le, nI_toInt (by omega)]; show ¬ (3 : Int) ≤ i; omega)]
    rw [nI_1]
    refine ⟨7, e_con41 hI h0 (fun r => ?_) 6 0 rfl _⟩
    intro _ _ _ _
    exact ih (i + 1) (by omega) _ _
theorem e_convoy9 (h : Inv σ) (hk : ∀ r, P r) : wp_X9_convoy a1 a2 σ P := by
  unfold wp_X9_convoy
  refine t_isHour (fun g0 _ => ?_) (fun _ => hk _)
  refine t_in (a := 0) (b := 1) rfl rfl (fun _ _ => ?_) (fun _ => hk _)
  exact ⟨4, e_con29 h.1 g0 hk 3 0 rfl _ _⟩
theorem e_bound (h : Inv σ) {K : Int32 → Int32 → zST → Prop} (hk : ∀ r r' σ', Inv σ' → K r r' σ') : wp_X8_bound a1 a2 a3 σ (fun r σ1 => wp_X9_bound a1 a2 a3 σ1 (fun r' σ2 => K r r' σ2)) :=
  e_bound8 h (fun _ _ h' => e_bound9 h' (fun _ _ h'' => hk _ _ _ h''))
theorem e_line (h : Inv σ) {K : Int32 → Int32 → zST → Prop} (hk : ∀ r r' σ', Inv σ' → K r r' σ') : wp_X8_line a1 a2 a3 σ (fun r σ1 => wp_X9_line a1 a2 a3 σ1 (fun r' σ2 => K r r' σ2)) :=
  e_line8 h (fun _ _ h' => e_line9 h' (fun _ _ h'' => hk _ _ _ h''))
theorem e_convoy (h : Inv σ) {K : Int32 → Int32 → zST → Prop} (hk : ∀ r r' σ', Inv σ' → K r r' σ') : wp_X8_convoy a1 a2 σ (fun r σ1 => wp_X9_convoy a1 a2 σ1 (fun r' => K r r' σ1)) :=
  e_convoy8 h (fun _ _ h' => e_convoy9 h' (fun _ => hk _ _ _ h'))
end S
end
section
/-! burnt, twice: equal answers -/
def zw (v0 v1 : Int32) : Nat → Int64 → Nat → Int64
  | 0, w, _ => w
  | n + 1, w, i => zw v0 v1 n ((w * (((v0 - v1) + nI i).toInt64)) / ((nI i).toInt64)) (i + 1)
section S
variable {σ : zST} {P : Int32 → Prop} {PL : Int64 → Prop} {a1 : Int32} {v0 v1 : Int32}
theorem i_waysL {m : Nat} (hm : v1 = nI m) (hb : m < 1000) : ∀ n i, n + i = m + 1 → 1 ≤ i → ∀ w, PL (zw v0 v1 n w i) → wp_X8_ways_L16 v0 v1 σ PL (n + 1) w (nI i) := by
  intro n
  induction n with
  | zero =>
    intro i hi _ w h
    unfold wp_X8_ways_L16
    rw [if_pos (by rw [hm]; exact nI_lt (by omega) (by omega))]
    exact h
  | succ n ih =>
    intro i hi h1 w h
    unfold wp_X8_ways_L16
    rw [if_neg (by rw [hm]; exact nI_nlt (by omega) (by omega)), nI_1]
    refine ⟨fun q => ?_, ?_⟩
    · have := congrArg Int64.toInt q
      rw [Int32.toInt_toInt64, nI_toInt (by omega)] at this
      have : (i : Int) = 0 := this
      omega
    · rintro _ rfl
      exact ih (i + 1) (by omega) (by omega) _ h
theorem i_chooseL {m : Nat} (hm : v1 = nI m) (hb : m < 1000) : ∀ n i, n + i = m + 1 → 1 ≤ i → ∀ w, PL (zw v0 v1 n w i) → wp_X9_choose_L5 v0 v1 σ PL (n + 1) w (nI i) := by
  intro n
  induction n with
  | zero =>
    intro i hi _ w h
    unfold wp_X9_choose_L5
    rw [if_pos (by rw [hm]; exact nI_lt (by omega) (by omega))]
    exact h
  | succ n ih =>
    intro i hi h1 w h
    unfold wp_X9_choose_L5
    rw [if_neg (by rw [hm]; exact nI_nlt (by omega) (by omega)), nI_1]
    refine ⟨fun q => ?_, ?_⟩
    · have := congrArg Int64.toInt q
      rw [Int32.toInt_toInt64, nI_toInt (by omega)] at this
      have : (i : Int) = 0 := this
      omega
    · rintro _ rfl
      exact ih (i + 1) (by omega) (by omega) _ h
theorem i_ways (h0 : 0 ≤ v1.toInt) (h1 : v1.toInt ≤ v0.toInt) (h2 : v1.toInt ≤ 8) (h : PL (zw v0 v1 v1.toNatClampNeg 1 1)) : wp_X8_ways v0 v1 σ PL := by
  obtain ⟨m, hm, e, -⟩ := zN (h := 8) h0 h2
  unfold wp_X8_ways
  rw [if_neg (by rw [Int32.lt_iff_toInt_lt]; show ¬ v1.toInt < 0; omega), if_pos (by rw [Int32.le_iff_toInt_le]; exact h1)]
  have hc : v1.toNatClampNeg = m := by rw [e]; exact nI_clamp (by omega)
  rw [hc] at h
  exact ⟨m + 1, i_waysL e (by omega) m 1 rfl (by omega) 1 h⟩
theorem i_choose (h0 : 0 ≤ v1.toInt) (h2 : v1.toInt ≤ 8) (h : PL (zw v0 v1 v1.toNatClampNeg 1 1)) : wp_X9_choose v0 v1 σ PL := by
  obtain ⟨m, hm, e, -⟩ := zN (h := 8) h0 h2
  have hc : v1.toNatClampNeg = m := by rw [e]; exact nI_clamp (by omega)
  rw [hc] at h
  exact ⟨m + 1, i_chooseL e (by omega) m 1 rfl (by omega) 1 h⟩
def zbu (σ : zST) : Nat → Int64 → Nat → Int64
  | 0, w, _ => w
  | n + 1, w, i => zbu σ n (w * zw (8 - zpc (σ.1 16 i)) (σ.1 17 i) (σ.1 17 i).toNatClampNeg 1 1) (i + 1)
theorem i_bur8L {c : Nat} (hI : IB σ) (hc : σ.1 15 0 = nI c) (h6 : c ≤ 6) : ∀ n i, n + i = c → ∀ w, PL (zbu σ n w i) → wp_X8_burnt_L13 σ PL (n + 1) w (nI i) := by
  intro n
  induction n with
  | zero =>
    intro i hi w h
    unfold wp_X8_burnt_L13
    rw [if_pos (by rw [hc]; exact nI_le (by omega) (by omega))]
    exact h
  | succ n ih =>
    intro i hi w h
    unfold wp_X8_burnt_L13
    have hv : vp_in (nI i) 6 := vp_in_nI (by omega) (by omega)
    rw [if_neg (by rw [hc]; exact nI_ge (by omega) (by omega))]
    rw [if_neg (by rw [Int32.le_iff_toInt_le, nI_toInt (by omega)]; show ¬ (6 : Int) ≤ i; omega)]
    rw [nI_1, nI_clamp (by omega)]
    refine ⟨hv, ?_⟩
    refine i_bitCount ⟨hv, ?_⟩
    have hm := b_room hI (k := i) (by omega)
    have hd := b_read hI (k := i) (by omega)
    have hp := zpc_b hd.2.1 hd.2.2
    have e8 : ((8 : Int32) - zpc (σ.1 16 i)).toInt = 8 - (zpc (σ.1 16 i)).toInt := fb_subI (x := 8) (by show _ ≤ (8 : Int) - _; omega) (by show (8 : Int) - _ < _; omega)
    refine i_ways hm.2.1 (by rw [e8]; omega) hm.2.2.1 ?_
    rintro _ rfl
    exact ih (i + 1) (by omega) _ h
theorem i_bur9L {c : Nat} (hI : IB σ) (hc : σ.1 69 25 = nI c) (h6 : c ≤ 6) : ∀ n i, n + i = c → ∀ w, PL (zbu σ n w i) → wp_X9_burnt_L4 σ PL (n + 1) w (nI i) := by
  intro n
  induction n with
  | zero =>
    intro i hi w h
    unfold wp_X9_burnt_L4
    rw [if_pos (by rw [hc]; exact nI_le (by omega) (by omega))]
    exact h
  | succ n ih =>
    intro i hi w h
    unfold wp_X9_burnt_L4
    have hv : vp_in (nI i) 6 := vp_in_nI (by omega) (by omega)
    rw [if_neg (by rw [hc]; exact nI_ge (by omega) (by omega)), nI_1, nI_clamp (by omega)]
    have hd := b_read hI (k := i) (by omega)
    have hm := b_room hI (k := i) (by omega)
    refine ⟨hv, ?_⟩
    refine i_ones (by rw [← hd.1]; exact hd.2.1) (by rw [← hd.1]; exact hd.2.2) ⟨hv, ?_⟩
    rw [← hm.1, ← hd.1]
    refine i_choose hm.2.1 hm.2.2.1 ?_
    rintro _ rfl
    exact ih (i + 1) (by omega) _ h
theorem s_burnt (h : Inv σ) {K : Int64 → Int64 → Prop} (hk : ∀ r, K r r) : wp_X8_burnt σ (fun r => wp_X9_burnt σ (fun r' => K r r')) := by
  have hr := b_rolls h.1
  obtain ⟨c, hc, e, -⟩ := zN (h := 6) hr.2.1 hr.2.2
  refine ⟨c + 1, i_bur8L h.1 e hc c 0 rfl _ ?_⟩
  exact ⟨c + 1, i_bur9L h.1 (hr.1.symm.trans e) hc c 0 rfl _ (hk _)⟩
def zts (σ : zST) (nm fl : Int32) (i : Nat) : Int32 := if ((σ.1 16 i >>> (nm &&& 31)) &&& (1 : Int32)) = 1 then 1 else if fl = 0 then 0 else if σ.1 17 i ≤ 0 then 0 else 1
def ztc (σ : zST) (nm fl : Int32) : Nat → Int32 → Nat → Int32
  | 0, w, _ => w
  | n + 1, w, i => ztc σ nm fl n (w + zts σ nm fl i) (i + 1)
def ztm (σ : zST) (fl : Int32) (c : Nat) : Nat → Int32 → Nat → Int32
  | 0, w, _ => w
  | n + 1, w, i => ztm σ fl c n (w ||| (if ztc σ (nI i) fl c 0 0 < 2 then 0 else (1 : Int32) <<< (nI i &&& 31))) (i + 1)
theorem i_rollsL {c : Nat} {nm fl : Int32} (hc : σ.1 15 0 = nI c) (h6 : c ≤ 6) : ∀ n i, n + i = c → ∀ w, P (ztc σ nm fl n w i) → wp_X5_rollsWith_L5 15 nm fl σ P (n + 1) w (nI i) := by
  intro n
  induction n with
  | zero =>
    intro i hi w h
    unfold wp_X5_rollsWith_L5
    rw [if_pos (by rw [hc]; exact nI_le (by omega) (by omega))]
    exact h
  | succ n ih =>
    intro i hi w h
    unfold wp_X5_rollsWith_L5
    have hv : vp_in (nI i) 6 := vp_in_nI (by omega) (by omega)
    have h : P (ztc σ nm fl n (w + zts σ nm fl i) (i + 1)) := h
    rw [if_neg (by rw [hc]; exact nI_ge (by omega) (by omega))]
    rw [if_neg (by rw [Int32.le_iff_toInt_le, nI_toInt (by omega)]; show ¬ (6 : Int) ≤ i; omega)]
    rw [nI_1, nI_clamp (by omega)]
    refine ⟨hv, ?_⟩
    unfold zts at h
    split
    · rename_i q
      rw [if_pos q] at h
      exact ih (i + 1) (by omega) _ h
    · rename_i q
      rw [if_neg q] at h
      split
      · rename_i q2
        rw [if_pos q2, Int32.add_zero] at h
        exact ih (i + 1) (by omega) _ h
      · rename_i q2
        rw [if_neg q2] at h
        refine ⟨hv, ?_⟩
        split
        · rename_i q3
          rw [if_pos q3, Int32.add_zero] at h
          exact ih (i + 1) (by omega) _ h
        · rename_i q3
          rw [if_neg q3] at h
          exact ih (i + 1) (by omega) _ h
theorem i_twoL {c : Nat} {fl : Int32} (hc : σ.1 15 0 = nI c) (h6 : c ≤ 6) : ∀ n i, n + i = 8 → ∀ w, P (ztm σ fl c n w i) → wp_X5_namesOnTwo_L4 15 fl σ P (n + 1) w (nI i) := by
  intro n
  induction n with
  | zero =>
    intro i hi w h
    unfold wp_X5_namesOnTwo_L4
    rw [if_pos (by rw [show i = 8 by omega]; decide)]
    exact h
  | succ n ih =>
    intro i hi w h
    unfold wp_X5_namesOnTwo_L4
    have h : P (ztm σ fl c n (w ||| (if ztc σ (nI i) fl c 0 0 < 2 then 0 else (1 : Int32) <<< (nI i &&& 31))) (i + 1)) := h
    rw [if_neg (by rw [Int32.le_iff_toInt_le, nI_toInt (by omega)]; show ¬ (8 : Int) ≤ i; omega)]
    rw [nI_1]
    refine ⟨c + 1, i_rollsL hc h6 c 0 (by omega) _ ?_⟩
    split
    · rename_i q
      rw [if_pos q, Int32.or_zero] at h
      exact ih (i + 1) (by omega) _ h
    · rename_i q
      rw [if_neg q] at h
      rintro _ rfl
      exact ih (i + 1) (by omega) _ h
theorem i_tw9L {c : Nat} {v2 nm fl : Int32} (hfl : fl = 0 ∨ fl = 1) (hI : IB σ) (hc : σ.1 69 25 = nI c) (h6 : c ≤ 6) : ∀ n i, n + i = c → ∀ w, P (ztc σ nm fl n w i) → wp_X9_twice_L29 fl v2 nm σ P (n + 1) w (nI i) := by
  intro n
  induction n with
  | zero =>
    intro i hi w h
    unfold wp_X9_twice_L29
    rw [if_pos (by rw [hc]; exact nI_le (by omega) (by omega))]
    exact h
  | succ n ih =>
    intro i hi w h
    unfold wp_X9_twice_L29
    have hv : vp_in (nI i) 6 := vp_in_nI (by omega) (by omega)
    have h : P (ztc σ nm fl n (w + zts σ nm fl i) (i + 1)) := h
    have hd := b_read hI (k := i) (by omega)
    have hm := b_room hI (k := i) (by omega)
    rw [if_neg (by rw [hc]; exact nI_ge (by omega) (by omega)), nI_clamp (by omega)]
    refine ⟨hv, ?_⟩
    rw [← hd.1]
    intro z hz
    have go : ∀ s : Int32, w + (if z = 0 then (if s = 0 then 0 else 1) else 1) = w + zts σ nm fl i → wp_X9_twice_J90 fl v2 nm w (nI i) z s σ (fun v4 v5 => wp_X9_twice_L29 fl v2 nm σ P (n + 1) v4 v5) := by
      intro s hs
      rintro _ rfl _ rfl
      show wp_X9_twice_L29 fl v2 nm σ P (n + 1) _ (nI i + 1)
      rw [nI_1, hs]
      exact ih (i + 1) (by omega) _ h
    by_cases q : ((σ.1 16 i >>> (nm &&& 31)) &&& (1 : Int32)) = 1
    · rw [if_pos q] at hz
      have eq : ∀ s : Int32, w + (if z = 0 then (if s = 0 then 0 else 1) else 1) = w + zts σ nm fl i := by
        intro s
        unfold zts
        rw [if_pos q, hz, if_neg (by decide)]
      split
      · refine ⟨hv, hv, ?_⟩
        refine i_ones hd.2.1 hd.2.2 ?_
        intro z2 _
        exact go _ (eq _)
      · exact go _ (eq _)
    · rw [if_neg q] at hz
      rcases hfl with rfl | rfl
      · rw [if_neg (by decide)]
        refine go _ ?_
        unfold zts
        rw [if_neg q, if_pos rfl, hz, if_pos rfl, if_pos rfl]
      · rw [if_pos rfl]
        refine ⟨hv, hv, ?_⟩
        refine i_ones hd.2.1 hd.2.2 ?_
        intro z2 hz2
        refine go _ ?_
        unfold zts
        rw [if_neg q, if_neg (show ¬ (1 : Int32) = 0 by decide), hz, if_pos rfl]
        have hp := zpc_b hd.2.1 hd.2.2
        have em : σ.1 79 i = σ.1 17 i + zpc (σ.1 16 i) := by
          rw [hm.1, ← hd.1, Int32.sub_add_cancel]
        have et : (σ.1 79 i).toInt = (σ.1 17 i).toInt + (zpc (σ.1 16 i)).toInt := by
          rw [em]
          exact fb_addI (by omega) (by omega)
        by_cases q3 : σ.1 17 i ≤ 0
        · rw [if_pos q3]
          rw [Int32.le_iff_toInt_le] at q3
          have q3 : (σ.1 17 i).toInt ≤ 0 := q3
          rw [if_pos (by rw [Int32.le_iff_toInt_le]; omega)] at hz2
          rw [hz2, if_pos rfl]
        · rw [if_neg q3]
          rw [Int32.le_iff_toInt_le] at q3
          have q3 : ¬ (σ.1 17 i).toInt ≤ 0 := q3
          rw [if_neg (by rw [Int32.le_iff_toInt_le]; omega)] at hz2
          rw [hz2, if_neg (by decide)]
theorem z_lt2 {x : Int32} : x ≤ 1 ↔ x < 2 := by
  rw [Int32.le_iff_toInt_le, Int32.lt_iff_toInt_lt]
  show x.toInt ≤ 1 ↔ x.toInt < 2
  omega
theorem i_tw9M {c : Nat} {fl : Int32} (hfl : fl = 0 ∨ fl = 1) (hI : IB σ) (hc : σ.1 69 25 = nI c) (h6 : c ≤ 6) : ∀ n i, n + i = 8 → ∀ w, P (ztm σ fl c n w i) → wp_X9_twice_L17 fl σ P (n + 1) w (nI i) := by
  intro n
  induction n with
  | zero =>
    intro i hi w h
    unfold wp_X9_twice_L17
    rw [if_pos (by rw [show i = 8 by omega]; decide)]
    exact h
  | succ n ih =>
    intro i hi w h
    unfold wp_X9_twice_L17
    rw [if_neg (by rw [Int32.le_iff_toInt_le, nI_toInt (by omega)]; show ¬ (8 : Int) ≤ i; omega)]
    rw [nI_1]
    refine ⟨c + 1, i_tw9L hfl hI hc h6 c 0 (by omega) _ ?_⟩
    rintro _ rfl _ rfl
    refine ih (i + 1) (by omega) _ ?_
    have h : P (ztm σ fl c n (w ||| (if ztc σ (nI i) fl c 0 0 < 2 then 0 else (1 : Int32) <<< (nI i &&& 31))) (i + 1)) := h
    by_cases q : ztc σ (nI i) fl c 0 0 < 2
    · rw [if_pos (z_lt2.mpr q)]
      rw [if_pos q] at h
      exact h
    · rw [if_neg (fun e => q (z_lt2.mp e))]
      rw [if_neg q] at h
      exact h
theorem s_twice (h : Inv σ) {K : Int32 → Int32 → Prop} (hk : ∀ r, K r r) : wp_X8_twice a1 σ (fun r => wp_X9_twice a1 σ (fun r' => K r r')) := by
  have hr := b_rolls h.1
  obtain ⟨c, hc, e, -⟩ := zN (h := 6) hr.2.1 hr.2.2
  unfold wp_X8_twice
  refine t_within (a := 0) (b := 1) rfl rfl (fun x y => ?_) (fun q => ?_)
  · rcases zS2 x y with rfl | rfl
    · rintro _ rfl
      refine ⟨9, i_twoL e hc 8 0 rfl _ ?_⟩
      unfold wp_X9_twice
      refine t_in (a := 0) (b := 1) rfl rfl (fun _ _ => ?_) (fun q => by omega)
      exact ⟨9, i_tw9M (Or.inl rfl) h.1 (hr.1.symm.trans e) hc 8 0 rfl _ (hk _)⟩
    · rintro _ rfl
      refine ⟨9, i_twoL e hc 8 0 rfl _ ?_⟩
      unfold wp_X9_twice
      refine t_in (a := 0) (b := 1) rfl rfl (fun _ _ => ?_) (fun q => by omega)
      exact ⟨9, i_tw9M (Or.inr rfl) h.1 (hr.1.symm.trans e) hc 8 0 rfl _ (hk _)⟩
  · unfold wp_X9_twice
    exact t_in (a := 0) (b := 1) rfl rfl (fun _ _ => by omega) (fun _ => hk _)
end S
end
section
/-! lot, often: equal answers -/
section S
variable {σ : zST} {P : Int32 → Prop} {PL : Int64 → Prop} {a1 a2 a3 a4 a5 : Int32} {x y u t : Int64} {m : Int32} {G : Nat}
theorem z_mod {a b : Nat} (ha : u.toInt = a) (hb : t.toInt = b) (h : t ≠ 0) : (u - u / t * t).toInt = ((a % b : Nat) : Int) := by
  rw [zmodL h, ha, hb]
  rfl
theorem z_b0 {b : Nat} (hb : t.toInt = b) : t = 0 ↔ b = 0 := by
  constructor
  · rintro rfl
    have hb : (0 : Int) = b := hb
    omega
  · rintro rfl
    exact Int64.toInt_inj.mp hb
theorem z_div1 {N i : Nat} (hi : i < 128) (h0 : t = 0 → PL u) (h1 : t ≠ 0 → wp_X8_commonDivisor_L9 σ PL N t (u - u / t * t) (nI (i + 1))) : wp_X8_commonDivisor_L9 σ PL (N + 1) u t (nI i) := by
  unfold wp_X8_commonDivisor_L9
  rw [if_neg (by rw [Int32.le_iff_toInt_le, nI_toInt (by omega)]; show ¬ (128 : Int) ≤ i; omega)]
  by_cases e : t = 0
  · rw [if_pos (zcmp0.mpr e)]
    exact h0 e
  · rw [if_neg (fun q => e (zcmp0.mp q)), nI_1]
    refine ⟨e, ?_⟩
    rintro _ rfl
    exact h1 e
theorem z_gcd (a b : Nat) : Nat.gcd a b = Nat.gcd b (a % b) := by
  rw [Nat.gcd_comm a b, Nat.gcd_rec b a, Nat.gcd_comm]
theorem z_half {b s : Nat} (hs : s < b) (h0 : s ≠ 0) : 2 * (b % s) < b := by
  have h1 : b % s < s := Nat.mod_lt _ (by omega)
  have h2 := Nat.div_add_mod b s
  have h3 : 1 ≤ b / s := Nat.div_pos (by omega) (by omega)
  have h4 : s * 1 ≤ s * (b / s) := Nat.mul_le_mul_left s h3
  omega
theorem i_divL (h : ∀ r : Int64, r.toInt = (G : Int) → PL r) : ∀ k N i (u t : Int64) (a b : Nat), u.toInt = a → t.toInt = b → b < 2 ^ k → Nat.gcd a b = G → i + 2 * k + 1 ≤ 128 → 2 * k + 1 ≤ N → wp_X8_commonDivisor_L9 σ PL N u t (nI i) := by
  intro k
  induction k with
  | zero =>
    intro N i u t a b ha hb hk hG hi hN
    obtain ⟨N', rfl⟩ : ∃ N', N = N' + 1 := ⟨N - 1, by omega⟩
    have b0 : b = 0 := by have : b < 1 := hk; omega
    refine z_div1 (by omega) (fun _ => h u ?_) (fun e => absurd ((z_b0 hb).mpr b0) e)
    rw [ha, ← hG, b0, Nat.gcd_zero_right]
  | succ k ih =>
    intro N i u t a b ha hb hk hG hi hN
    obtain ⟨N', rfl⟩ : ∃ N', N = N' + 1 + 1 := ⟨N - 2, by omega⟩
    have hk : b < 2 * 2 ^ k := by rw [Nat.pow_succ] at hk; omega
    refine z_div1 (by omega) (fun e => h u ?_) (fun e => ?_)
    · rw [ha, ← hG, (z_b0 hb).mp e, Nat.gcd_zero_right]
    · have h1 := z_mod ha hb e
      have b0 : b ≠ 0 := fun q => e ((z_b0 hb).mpr q)
      have hs : a % b < b := Nat.mod_lt _ (by omega)
      have g1 : Nat.gcd b (a % b) = G := by rw [← z_gcd]; exact hG
      generalize u - u / t * t = s at h1 ⊢
      refine z_div1 (by omega) (fun e2 => h t ?_) (fun e2 => ?_)
      · rw [hb, ← g1, (z_b0 h1).mp e2, Nat.gcd_zero_right]
      · have h2 := z_mod hb h1 e2
        have s0 : a % b ≠ 0 := fun q => e2 ((z_b0 h1).mpr q)
        have hh := z_half hs s0
        exact ih N' (i + 1 + 1) _ _ _ _ h1 h2 (by omega) (by rw [← z_gcd]; exact g1) (by omega) (by omega)
theorem i_lowL (h : ∀ r : Int64, r.toInt = (G : Int) → wp_X9_lowest_J31 x y m r σ PL) : ∀ n (u t : Int64) (a b : Nat), u.toInt = a → t.toInt = b → b < n → Nat.gcd a b = G → wp_X9_lowest_L6 x y m σ PL n u t := by
  intro n
  induction n with
  | zero => intro u t a b _ _ hb; omega
  | succ n ih =>
    intro u t a b ha hb hn hG
    unfold wp_X9_lowest_L6
    by_cases e : t = 0
    · rw [if_pos (zcmp0.mpr e)]
      refine h u ?_
      rw [ha, ← hG, (z_b0 hb).mp e, Nat.gcd_zero_right]
    · rw [if_neg (fun q => e (zcmp0.mp q))]
      refine ⟨e, ?_⟩
      rintro _ rfl
      have b0 : b ≠ 0 := fun q => e ((z_b0 hb).mpr q)
      have hs : a % b < b := Nat.mod_lt _ (by omega)
      exact ih _ _ _ _ hb (z_mod ha hb e) (by omega) (by rw [← z_gcd]; exact hG)
theorem i_part {a b : Nat} (ha : x.toInt = a) (hb : y.toInt = b) (h1 : 1 ≤ b) (h2 : b < 2 ^ 30) (h : ∀ r : Int64, r.toInt = (Nat.gcd a b : Nat) → PL ((if m = 0 then x else y) / r)) : wp_X8_partOf x y m σ PL := by
  have g1 : 1 ≤ Nat.gcd a b := Nat.gcd_pos_of_pos_right a (by omega)
  unfold wp_X8_partOf
  refine ⟨128, i_divL (G := Nat.gcd a b) (fun r hr => ?_) 30 128 0 x y a b ha hb h2 rfl (by omega) (by omega)⟩
  have r1 : (1 : Int64).toInt = 1 := by decide
  have e0 : r ≠ 0 := fun q => by
    rw [q] at hr
    have hr : (0 : Int) = _ := hr
    omega
  have ec : (0 : Int32) ≤ lg_cmp r 1 := by
    unfold lg_cmp
    by_cases q : r > 1
    · rw [if_pos q]; decide
    · rw [if_neg q, if_pos]
      · decide
      · apply Int64.toInt_inj.mp
        have q : ¬ (1 : Int64) < r := q
        rw [Int64.lt_iff_toInt_lt, r1] at q
        rw [r1]
        omega
  rw [if_pos ec]
  rintro _ rfl
  exact ⟨e0, h r hr⟩
theorem i_low {a b : Nat} (ha : x.toInt = a) (hb : y.toInt = b) (h1 : 1 ≤ b) (h : ∀ r : Int64, r.toInt = (Nat.gcd a b : Nat) → PL ((if m = 0 then x else y) / r)) : wp_X9_lowest x y m σ PL := by
  have g1 : 1 ≤ Nat.gcd a b := Nat.gcd_pos_of_pos_right a (by omega)
  refine ⟨a + 1, i_lowL (G := Nat.gcd a b) (fun r hr => ?_) (a + 1) y x b a hb ha (by omega) (Nat.gcd_comm b a)⟩
  have e0 : r ≠ 0 := fun q => by
    rw [q] at hr
    have hr : (0 : Int) = _ := hr
    omega
  unfold wp_X9_lowest_J31
  refine ⟨by split <;> exact ⟨e0, trivial⟩, ?_⟩
  rintro _ rfl
  have := h r hr
  by_cases q : m = 0
  · rw [if_pos q] at this ⊢; exact this
  · rw [if_neg q] at this ⊢; exact this
theorem s_partlow {a b : Nat} {K : Int64 → Int64 → Prop} (ha : x.toInt = a) (hb : y.toInt = b) (h1 : 1 ≤ b) (h2 : b < 2 ^ 30) (h : ∀ r, K r r) : wp_X8_partOf x y m σ (fun r => wp_X9_lowest x y m σ (fun r' => K r r')) := by
  refine i_part ha hb h1 h2 (fun r hr => ?_)
  refine i_low ha hb h1 (fun s hs => ?_)
  rw [show s = r from Int64.toInt_inj.mp (hs.trans hr.symm)]
  exact h _
/-! counting -/
def zcn (f : Nat → Bool) : Nat → Int32 → Nat → Int32
  | 0, w, _ => w
  | n + 1, w, i => zcn f n (if f i = true then w + 1 else w) (i + 1)
theorem zcn_b {f : Nat → Bool} : ∀ (n i : Nat) (w : Int32), n + i = 8 → 0 ≤ w.toInt → w.toInt ≤ (i : Int) → w.toInt ≤ (zcn f n w i).toInt ∧ (zcn f n w i).toInt ≤ 8 ∧ ∀ j : Nat, i ≤ j → j < 8 → f j = true → w.toInt + 1 ≤ (zcn f n w i).toInt := by
  intro n
  induction n with
  | zero =>
    intro i w hi h0 h1
    exact ⟨Int.le_refl _, by show w.toInt ≤ 8; omega, fun j _ _ _ => by omega⟩
  | succ n ih =>
    intro i w hi h0 h1
    show w.toInt ≤ (zcn f n (if f i = true then w + 1 else w) (i + 1)).toInt ∧ _
    have e : (w + 1).toInt = w.toInt + 1 := by rw [fb_addI (by show _ ≤ w.toInt + 1; omega) (by show w.toInt + 1 < _; omega)]; rfl
    by_cases q : f i = true
    · have := ih (i + 1) (w + 1) (by omega) (by omega) (by omega)
      show _ ∧ (zcn f n (if f i = true then w + 1 else w) (i + 1)).toInt ≤ 8 ∧ ∀ j : Nat, i ≤ j → j < 8 → f j = true → w.toInt + 1 ≤ (zcn f n (if f i = true then w + 1 else w) (i + 1)).toInt
      rw [if_pos q]
      exact ⟨by omega, this.2.1, fun j _ _ _ => by omega⟩
    · have := ih (i + 1) w (by omega) (by omega) (by omega)
      show _ ∧ (zcn f n (if f i = true then w + 1 else w) (i + 1)).toInt ≤ 8 ∧ ∀ j : Nat, i ≤ j → j < 8 → f j = true → w.toInt + 1 ≤ (zcn f n (if f i = true then w + 1 else w) (i + 1)).toInt
      rw [if_neg q]
      refine ⟨by omega, this.2.1, fun j j1 j2 j3 => this.2.2 j ?_ j2 j3⟩
      rcases Nat.lt_or_ge i j with z | z
      · omega
      · exact absurd (show f i = true by rw [show i = j by omega]; exact j3) q
theorem i_drawnL {f : Nat → Bool} {lo up : Int32} (hf : ∀ k, k < 8 → (f k = true ↔ zH (σ.1 13 0) (nI k) ∧ lo.toInt ≤ (σ.1 14 k).toInt ∧ (σ.1 14 k).toInt ≤ up.toInt)) : ∀ n i, n + i = 8 → ∀ w, P (zcn f n w i) → wp_X1_countDrawn_L5 13 lo up σ P (n + 1) w (nI i) := by
  intro n
  induction n with
  | zero =>
    intro i hi w h
    unfold wp_X1_countDrawn_L5
    rw [if_pos (by rw [show i = 8 by omega]; decide)]
    exact h
  | succ n ih =>
    intro i hi w h
    unfold wp_X1_countDrawn_L5
    have h : P (zcn f n (if f i = true then w + 1 else w) (i + 1)) := h
    have hfi := hf i (by omega)
    have hn := nI_toInt (n := i) (by omega)
    rw [if_neg (by rw [Int32.le_iff_toInt_le, nI_toInt (by omega)]; show ¬ (8 : Int) ≤ i; omega)]
    rw [nI_1, nI_clamp (by omega)]
    refine t_has8 rfl (fun _ _ q => ?_) (fun q => ?_)
    · refine ⟨vp_in_nI (by omega) (by omega), ?_⟩
      refine t_within rfl rfl (fun q1 q2 => ?_) (fun q1 => ?_)
      · rw [if_pos (hfi.mpr ⟨q, q1, q2⟩)] at h
        exact ih (i + 1) (by omega) _ h
      · have q1 : (σ.1 14 i).toInt < lo.toInt ∨ up.toInt < (σ.1 14 i).toInt := q1
        rw [if_neg (fun z => by have := hfi.mp z; omega)] at h
        exact ih (i + 1) (by omega) _ h
    · rw [if_neg (fun z => q ⟨by omega, by omega, (hfi.mp z).1⟩)] at h
      exact ih (i + 1) (by omega) _ h
theorem i_lotL {K : Int32 → Int32 → Prop} {f g : Nat → Bool} {b v1 v3 : Int32} (hb0 : 0 ≤ b.toInt) (hb1 : b.toInt ≤ 7) (hf : ∀ k, k < 8 → (f k = true ↔ zH (σ.1 69 21) (nI k) ∧ (σ.1 77 k).toInt < (σ.1 77 b.toNatClampNeg).toInt)) (hg : ∀ k, k < 8 → (g k = true ↔ zH (σ.1 69 21) (nI k) ∧ σ.1 77 k = σ.1 77 b.toNatClampNeg)) : ∀ n i, n + i = 8 → ∀ x y, K (zcn f n x i) (zcn g n y i) → wp_X9_lot_L52 v1 b v3 σ K (n + 1) x y (nI i) := by
  intro n
  induction n with
  | zero =>
    intro i hi x y h
    unfold wp_X9_lot_L52
    rw [if_pos (by rw [show i = 8 by omega]; decide)]
    exact h
  | succ n ih =>
    intro i hi x y h
    unfold wp_X9_lot_L52
    have h : K (zcn f n (if f i = true then x + 1 else x) (i + 1)) (zcn g n (if g i = true then y + 1 else y) (i + 1)) := h
    have hfi := hf i (by omega)
    have hgi := hg i (by omega)
    have hn := nI_toInt (n := i) (by omega)
    rw [if_neg (by rw [Int32.le_iff_toInt_le, nI_toInt (by omega)]; show ¬ (8 : Int) ≤ i; omega)]
    rw [nI_1, nI_clamp (by omega)]
    have hv : vp_in (nI i) 8 := vp_in_nI (by omega) (by omega)
    have hw : vp_in b 8 := zv hb0 (by omega)
    by_cases ab : zH (σ.1 69 21) (nI i)
    · refine i_isAboard rfl (fun _ _ _ => ⟨by rw [if_neg (by decide)]; exact ⟨hv, hw, trivial⟩, ?_⟩) (fun q => absurd ⟨by omega, by omega, ab⟩ q)
      rintro _ rfl _ rfl
      refine i_isAboard rfl (fun _ _ _ => ⟨by rw [if_neg (by decide)]; exact ⟨hv, hw, trivial⟩, ?_⟩) (fun q => absurd ⟨by omega, by omega, ab⟩ q)
      rintro _ rfl _ rfl
      refine ih (i + 1) (by omega) _ _ ?_
      have ex : x + (if (1 : Int32) = 0 then 0 else if σ.1 77 b.toNatClampNeg ≤ σ.1 77 i then 0 else 1) = if f i = true then x + 1 else x := by
        rw [if_neg (by decide)]
        by_cases q : σ.1 77 b.toNatClampNeg ≤ σ.1 77 i
        · rw [if_pos q, if_neg, Int32.add_zero]
          intro z
          have := (hfi.mp z).2
          rw [Int32.le_iff_toInt_le] at q
          omega
        · rw [if_neg q, if_pos]
          rw [Int32.le_iff_toInt_le] at q
          exact hfi.mpr ⟨ab, by omega⟩
      have ey : y + (if (1 : Int32) = 0 then 0 else if σ.1 77 i = σ.1 77 b.toNatClampNeg then 1 else 0) = if g i = true then y + 1 else y := by
        rw [if_neg (by decide)]
        by_cases q : σ.1 77 i = σ.1 77 b.toNatClampNeg
        · rw [if_pos q, if_pos (hgi.mpr ⟨ab, q⟩)]
        · rw [if_neg q, if_neg (fun z => q (hgi.mp z).2), Int32.add_zero]
      rw [ex, ey]
      exact h
    · rw [if_neg (fun z => ab (hfi.mp z).1), if_neg (fun z => ab (hgi.mp z).1)] at h
      refine i_isAboard rfl (fun _ _ q => absurd q ab) (fun _ => ⟨by rw [if_pos rfl]; trivial, ?_⟩)
      rw [if_pos rfl]
      rintro _ rfl _ rfl
      refine i_isAboard rfl (fun _ _ q => absurd q ab) (fun _ => ⟨by rw [if_pos rfl]; trivial, ?_⟩)
      rw [if_pos rfl]
      rintro _ rfl _ rfl
      refine ih (i + 1) (by omega) _ _ ?_
      rw [Int32.add_zero, Int32.add_zero]
      exact h
theorem s_lot (h : Inv σ) {K : Int64 → Int64 → Prop} (hk : ∀ r, K r r) : wp_X8_lot a1 a2 a3 σ (fun r => wp_X9_lot a1 a2 a3 σ (fun r' => K r r')) := by
  have hn := b_names h.1
  unfold wp_X8_lot
  refine t_has8 rfl (fun h0 h1 hs => ?_) (fun q => ?_)
  · refine i_bitCount ?_
    have hpc := zpc_b hn.2.1 hn.2.2
    have ref0 : ∀ (A : Int64 → Prop), (1 ≤ a1.toInt → a1.toInt ≤ (zpc (σ.1 13 0)).toInt → wp_X9_in a3.toInt64 0 1 σ (fun r9 => if r9 = 0 then A (-1000000000000000002) else ∃ M41 : Nat, wp_X9_lot_L52 a1 a2 a3 σ (fun w4 w5 => ∀ x33 : Int32, x33 = (a1 - w4) → ∀ z35 : Int64, z35 = (if (0) ≤ x33 then (if x33 ≤ w5 then (x33.toInt64) else (w5.toInt64)) else (0 : Int64)) → wp_X9_lowest z35 (w5.toInt64) a3 σ (fun r39 => A r39)) M41 0 0 0)) → (a1.toInt < 1 ∨ (zpc (σ.1 13 0)).toInt < a1.toInt → A (-1000000000000000002)) → wp_X9_lot a1 a2 a3 σ A := by
      intro A g1 g0
      unfold wp_X9_lot
      refine t_isAboard hn.1.symm (fun _ _ _ => ?_) (fun q => absurd ⟨h0, h1, hs⟩ q)
      refine i_ones (by rw [← hn.1]; exact hn.2.1) (by rw [← hn.1]; exact hn.2.2) ?_
      rw [← hn.1]
      exact t_in (a := 1) (b := (zpc (σ.1 13 0)).toInt) rfl (Int32.toInt_toInt64 _) g1 g0
    refine t_within (a := 1) rfl rfl (fun p0 p1 => ?_) (fun q => ref0 _ (fun _ _ => by omega) (fun _ => hk _))
    refine t_within (a := 0) (b := 1) rfl rfl (fun c0 c1 => ?_) (fun q => ref0 _ (fun _ _ => t_in (a := 0) (b := 1) rfl rfl (fun _ _ => by omega) (fun _ => hk _)) (fun _ => hk _))
    have hw : vp_in a2 8 := zv h0 (by omega)
    have hj : a2.toNatClampNeg < 8 := zcl h0 (by omega)
    have hD := b_drawn h.1 hj
    have e2 : a2 = nI a2.toNatClampNeg := by
      obtain ⟨z, hz, e, -⟩ := zN (h := 7) h0 (by omega)
      rw [e, nI_clamp (by omega)]
    have d1 : (σ.1 14 a2.toNatClampNeg - 1).toInt = (σ.1 14 a2.toNatClampNeg).toInt - 1 := by
      rw [fb_subI (by show _ ≤ _ - (1 : Int); omega) (by show _ - (1 : Int) < _; omega)]
      rfl
    obtain ⟨g, hg⟩ : ∃ g : Nat → Bool, ∀ k, (g k = true ↔ zH (σ.1 13 0) (nI k) ∧ σ.1 14 k = σ.1 14 a2.toNatClampNeg) := ⟨fun k => decide (zH (σ.1 13 0) (nI k) ∧ σ.1 14 k = σ.1 14 a2.toNatClampNeg), fun k => decide_eq_true_iff⟩
    obtain ⟨f, hf⟩ : ∃ f : Nat → Bool, ∀ k, (f k = true ↔ zH (σ.1 13 0) (nI k) ∧ (σ.1 14 k).toInt < (σ.1 14 a2.toNatClampNeg).toInt) := ⟨fun k => decide (zH (σ.1 13 0) (nI k) ∧ (σ.1 14 k).toInt < (σ.1 14 a2.toNatClampNeg).toInt), fun k => decide_eq_true_iff⟩
    refine ⟨hw, hw, ?_⟩
    refine ⟨9, i_drawnL (f := g) (fun k hk8 => ?_) 8 0 rfl 0 ?_⟩
    · rw [hg k]
      constructor
      · rintro ⟨q1, q2⟩
        rw [q2]
        exact ⟨q1, Int.le_refl _, Int.le_refl _⟩
      · rintro ⟨q1, q2, q3⟩
        exact ⟨q1, Int32.toInt_inj.mp (by omega)⟩
    refine ⟨hw, ?_⟩
    refine ⟨9, i_drawnL (f := f) (fun k hk8 => ?_) 8 0 rfl 0 ?_⟩
    · rw [hf k, d1]
      have := b_drawn h.1 hk8
      constructor
      · rintro ⟨q1, q2⟩
        exact ⟨q1, this.2.1, by omega⟩
      · rintro ⟨q1, q2, q3⟩
        exact ⟨q1, by omega⟩
    have bg := zcn_b (f := g) 8 0 0 rfl (by decide) (by decide)
    have bf := zcn_b (f := f) 8 0 0 rfl (by decide) (by decide)
    have g1 := bg.2.2 a2.toNatClampNeg (by omega) hj ((hg _).mpr ⟨by rw [← e2]; exact hs, rfl⟩)
    rintro X hX
    have z0 : (0 : Int32).toInt = 0 := rfl
    rw [z0] at bg bf g1
    have ref1 : ∀ (A : Int64 → Prop), (∀ z : Int64, z = X.toInt64 → wp_X9_lowest z (zcn g 8 0 0).toInt64 a3 σ (fun r => A r)) → wp_X9_lot a1 a2 a3 σ A := by
      intro A hA
      refine ref0 A (fun _ _ => ?_) (fun q => by omega)
      refine t_in (a := 0) (b := 1) rfl rfl (fun _ _ => ?_) (fun q => by omega)
      refine ⟨9, i_lotL (f := f) (g := g) h0 h1 (fun k hk8 => ?_) (fun k hk8 => ?_) 8 0 rfl 0 0 ?_⟩
      · rw [hf k, ← hn.1, ← (b_drawn h.1 hk8).1, ← hD.1]
      · rw [hg k, ← hn.1, ← (b_drawn h.1 hk8).1, ← hD.1]
      · rintro _ rfl z hz
        refine hA z ?_
        rw [hz, hX]
        generalize zcn g 8 0 0 = A1 at bg g1 ⊢
        generalize zcn f 8 0 0 = B1 at bf ⊢
        have es : (a1 - B1).toInt = a1.toInt - B1.toInt := fb_subI (by omega) (by omega)
        generalize a1 - B1 = D at es ⊢
        simp only [Int32.le_iff_toInt_le, Int32.lt_iff_toInt_lt, z0]
        by_cases q1 : D.toInt < A1.toInt
        · rw [if_pos q1]
          by_cases q2 : 0 < D.toInt
          · rw [if_pos q2, if_pos (by omega), if_pos (by omega)]
          · rw [if_neg q2]
            by_cases q3 : 0 ≤ D.toInt
            · rw [if_pos q3, if_pos (by omega), show D = 0 from Int32.toInt_inj.mp (by rw [z0]; omega)]
            · rw [if_neg q3]
              rfl
        · rw [if_neg q1, if_pos (show 0 < A1.toInt by omega), if_pos (show 0 ≤ D.toInt by omega)]
          by_cases q2 : D.toInt ≤ A1.toInt
          · rw [if_pos q2, show D = A1 from Int32.toInt_inj.mp (by omega)]
          · rw [if_neg q2]
    have hXb : 0 ≤ X.toInt ∧ X.toInt ≤ 8 := by
      rw [hX]
      generalize zcn g 8 0 0 = A1 at bg g1 ⊢
      generalize zcn f 8 0 0 = B1 at bf ⊢
      have es : (a1 - B1).toInt = a1.toInt - B1.toInt := fb_subI (by omega) (by omega)
      generalize a1 - B1 = D at es ⊢
      simp only [Int32.lt_iff_toInt_lt, z0]
      by_cases q1 : D.toInt < A1.toInt
      · rw [if_pos q1]
        by_cases q2 : 0 < D.toInt
        · rw [if_pos q2]; omega
        · rw [if_neg q2]; exact ⟨by decide, by decide⟩
      · rw [if_neg q1, if_pos (by omega)]; omega
    generalize zcn g 8 0 0 = A1 at bg g1 ref1 ⊢
    obtain ⟨xa, hxa, -, exa⟩ := zN (x := X) (h := 8) hXb.1 (by omega)
    obtain ⟨ya, hya, -, eya⟩ := zN (x := A1) (h := 8) (by omega) (by omega)
    refine i_part (a := xa) (b := ya) (by rw [Int32.toInt_toInt64]; exact exa) (by rw [Int32.toInt_toInt64]; exact eya) (by omega) (by omega) (fun r hr => ?_)
    refine ref1 _ ?_
    rintro _ rfl
    refine i_low (a := xa) (b := ya) (by rw [Int32.toInt_toInt64]; exact exa) (by rw [Int32.toInt_toInt64]; exact eya) (by omega) (fun s hs => ?_)
    rw [show s = r from Int64.toInt_inj.mp (hs.trans hr.symm)]
    exact hk _
  · unfold wp_X9_lot
    exact t_isAboard hn.1.symm (fun x y z => absurd ⟨x, y, z⟩ q) (fun _ => hk _)
end S
end
section
/-! often: equal answers -/
def zpw (v : Int32) : Nat → Int64 → Int64
  | 0, w => w
  | n + 1, w => zpw v n (w * v.toInt64)
def zof (p q : Int32) (m : Nat) : Nat → Int64 → Nat → Int64
  | 0, w, _ => w
  | n + 1, w, i => zof p q m n (w + zw (nI m) (nI i) i 1 1 * zpw p i 1 * zpw q (m - i) 1) (i + 1)
theorem zpw_all : ∀ v, v < 9 → ∀ m, m < 9 → 0 ≤ (zpw (nI v) m 1).toInt ∧ (zpw (nI v) m 1).toInt ≤ 16777216 ∧ (1 ≤ v → 1 ≤ (zpw (nI v) m 1).toInt) := by decide +kernel
theorem zw_all : ∀ m, m < 9 → ∀ i, i < 9 → i ≤ m → 0 ≤ (zw (nI m) (nI i) i 1 1).toInt ∧ (zw (nI m) (nI i) i 1 1).toInt ≤ 70 := by decide +kernel
theorem zmulbL {x y : Int64} {m n : Int} (h1 : 0 ≤ x.toInt) (h2 : x.toInt ≤ m) (h3 : 0 ≤ y.toInt) (h4 : y.toInt ≤ n) (h5 : m * n < 9223372036854775808) : (x * y).toInt = x.toInt * y.toInt ∧ 0 ≤ (x * y).toInt ∧ (x * y).toInt ≤ m * n := by
  have e1 : 0 ≤ x.toInt * y.toInt := Int.mul_nonneg h1 h3
  have e2 : x.toInt * y.toInt ≤ m * n := Int.mul_le_mul h2 h4 h3 (by omega)
  have e : (x * y).toInt = x.toInt * y.toInt := fb_mulL (by omega) (by omega)
  exact ⟨e, by omega, by omega⟩
theorem zsubn {m i : Nat} (h : i ≤ m) : nI m - nI i = nI (m - i) := by
  have e : nI m = nI (m - i) + nI i := by
    rw [nI_add, Nat.sub_add_cancel h]
  rw [e, Int32.add_sub_cancel]
theorem zof_b {b d m : Nat} (hb : b < 9) (hd : d < 9) (hm : m < 9) : ∀ n i (w : Int64), n + i ≤ m + 1 → 0 ≤ w.toInt → w.toInt ≤ i * 19703248369745920 → 0 ≤ (zof (nI b) (nI d) m n w i).toInt := by
  intro n
  induction n with
  | zero => intro i w _ h0 _; exact h0
  | succ n ih =>
    intro i w hi h0 h1
    have a1 := zw_all m hm i (by omega) (by omega)
    have a2 := zpw_all b hb i (by omega)
    have a3 := zpw_all d hd (m - i) (by omega)
    have c1 := zmulbL a1.1 a1.2 a2.1 a2.2.1 (by decide)
    have c2 := zmulbL c1.2.1 c1.2.2 a3.1 a3.2.1 (by decide)
    have c3 : (zw (nI m) (nI i) i 1 1 * zpw (nI b) i 1 * zpw (nI d) (m - i) 1).toInt ≤ 19703248369745920 := c2.2.2
    have e : (w + zw (nI m) (nI i) i 1 1 * zpw (nI b) i 1 * zpw (nI d) (m - i) 1).toInt = w.toInt + (zw (nI m) (nI i) i 1 1 * zpw (nI b) i 1 * zpw (nI d) (m - i) 1).toInt := fb_addL (by omega) (by omega)
    refine ih (i + 1) _ (by omega) (by omega) ?_
    rw [e]
    omega
section S
variable {σ : zST} {PL : Int64 → Prop} {a1 a2 a3 a4 a5 v0 : Int32}
theorem i_pow8L {m : Nat} (hm : m < 1000) : ∀ n i, n + i = m → ∀ w, PL (zpw v0 n w) → wp_X8_power_L5 v0 (nI m) σ PL (n + 1) w (nI i) := by
  intro n
  induction n with
  | zero =>
    intro i hi w h
    unfold wp_X8_power_L5
    rw [if_pos (nI_le (by omega) (by omega))]
    exact h
  | succ n ih =>
    intro i hi w h
    unfold wp_X8_power_L5
    rw [if_neg (nI_ge (by omega) (by omega)), nI_1]
    rintro _ rfl
    exact ih (i + 1) (by omega) _ h
theorem i_pow8 {m : Nat} (hm : m < 1000) (h : PL (zpw v0 m 1)) : wp_X8_power v0 (nI m) σ PL := ⟨m + 1, i_pow8L hm m 0 (by omega) 1 h⟩
theorem i_pow9L {m : Nat} (hm : m < 1000) : ∀ n i, n + i = m → ∀ w, PL (zpw v0 n w) → wp_X9_power_L5 v0 (nI m) σ PL (n + 1) w (nI i) := by
  intro n
  induction n with
  | zero =>
    intro i hi w h
    unfold wp_X9_power_L5
    rw [if_pos (nI_le (by omega) (by omega))]
    exact h
  | succ n ih =>
    intro i hi w h
    unfold wp_X9_power_L5
    rw [if_neg (nI_ge (by omega) (by omega)), nI_1]
    rintro _ rfl
    exact ih (i + 1) (by omega) _ h
theorem i_pow9 {m : Nat} (hm : m < 1000) (h : PL (zpw v0 m 1)) : wp_X9_power v0 (nI m) σ PL := ⟨m + 1, i_pow9L hm m 0 (by omega) 1 h⟩
theorem i_oft8L {m : Nat} (hm : m < 9) : ∀ n i, (n + i = m + 1 ∨ (n = 0 ∧ m < i)) → i < 10 → ∀ w, wp_X8_often_J102 a1 (nI m) a5 (zof a2 (a1 - a2) m n w i) σ PL → wp_X8_often_L61 a1 a2 (nI m) a5 σ PL (n + 1) w (nI i) := by
  intro n
  induction n with
  | zero =>
    intro i hi _ w h
    unfold wp_X8_often_L61
    rw [if_pos (nI_lt (by omega) (by omega))]
    exact h
  | succ n ih =>
    intro i hi hi9 w h
    unfold wp_X8_often_L61
    have e1 := nI_toInt (n := m) (by omega)
    have e2 := nI_toInt (n := i) (by omega)
    rw [if_neg (nI_nlt (by omega) (by omega)), nI_1, zsubn (by omega)]
    refine i_ways (by omega) (by omega) (by omega) ?_
    rw [nI_clamp (by omega)]
    refine i_pow8 (by omega) ?_
    refine i_pow8 (by omega) ?_
    rintro _ rfl
    exact ih (i + 1) (by omega) (by omega) _ h
theorem i_oft9L {m : Nat} (hm : m < 9) : ∀ n i, (n + i = m + 1 ∨ (n = 0 ∧ m < i)) → i < 10 → ∀ w, wp_X9_often_J111 a1 (nI m) a5 (zof a2 (a1 - a2) m n w i) σ PL → wp_X9_often_L70 a1 a2 (nI m) a5 σ PL (n + 1) w (nI i) := by
  intro n
  induction n with
  | zero =>
    intro i hi _ w h
    unfold wp_X9_often_L70
    rw [if_pos (nI_lt (by omega) (by omega))]
    exact h
  | succ n ih =>
    intro i hi hi9 w h
    unfold wp_X9_often_L70
    have e1 := nI_toInt (n := m) (by omega)
    have e2 := nI_toInt (n := i) (by omega)
    rw [if_neg (nI_nlt (by omega) (by omega)), nI_1, zsubn (by omega)]
    refine i_choose (by omega) (by omega) ?_
    rw [nI_clamp (by omega)]
    refine i_pow9 (by omega) ?_
    refine i_pow9 (by omega) ?_
    rintro _ rfl
    exact ih (i + 1) (by omega) (by omega) _ h
theorem s_often {K : Int64 → Int64 → Prop} (hk : ∀ r, K r r) : wp_X8_often a1 a2 a3 a4 a5 σ (fun r => wp_X9_often a1 a2 a3 a4 a5 σ (fun r' => K r r')) := by
  unfold wp_X8_often
  have out : (a1.toInt < 1 ∨ 8 < a1.toInt) ∨ (a2.toInt < 0 ∨ a1.toInt < a2.toInt) ∨ (a3.toInt < 1 ∨ 8 < a3.toInt) ∨ (a4.toInt < 0 ∨ 8 < a4.toInt) ∨ (a5.toInt < 0 ∨ 1 < a5.toInt) → wp_X9_often a1 a2 a3 a4 a5 σ (fun r' => K (-1000000000000000002) r') := by
    intro q
    unfold wp_X9_often
    refine t_in (a := 1) (b := 8) rfl rfl (fun h0 h1 => ?_) (fun _ => hk _)
    refine t_in (a := 0) rfl (Int32.toInt_toInt64 _) (fun _ _ => ?_) (fun _ => hk _)
    refine t_in (a := 1) (b := 8) rfl rfl (fun h2 h3 => ?_) (fun _ => hk _)
    refine t_in (a := 0) (b := 8) rfl rfl (fun h4 h5 => ?_) (fun _ => hk _)
    exact t_in (a := 0) (b := 1) rfl rfl (fun _ _ => by omega) (fun _ => hk _)
  refine t_within (a := 1) (b := 8) rfl rfl (fun h0 h1 => ?_) (fun _ => out (by omega))
  refine t_within (a := 0) rfl rfl (fun h2 h3 => ?_) (fun _ => out (by omega))
  refine t_within (a := 1) (b := 8) rfl rfl (fun h4 h5 => ?_) (fun _ => out (by omega))
  refine t_within (a := 0) (b := 8) rfl rfl (fun h6 h7 => ?_) (fun _ => out (by omega))
  refine t_within (a := 0) (b := 1) rfl rfl (fun h8 h9 => ?_) (fun _ => out (by omega))
  obtain ⟨a, ha, rfl, ea⟩ := zN (h := 8) (x := a1) (by omega) h1
  obtain ⟨b, hb, rfl, eb⟩ := zN (h := 8) (x := a2) h2 (by omega)
  obtain ⟨m, hm, rfl, em⟩ := zN (h := 8) (x := a3) (by omega) h5
  obtain ⟨j, hj, rfl, ej⟩ := zN (h := 8) (x := a4) h6 h7
  have hr := zpw_all a (by omega) m (by omega)
  have hR := hr.2.2 (by omega)
  obtain ⟨n, hn⟩ : ∃ n, n + j = m + 1 ∨ (n = 0 ∧ m < j) := by
    rcases Nat.lt_or_ge m j with q | q
    · exact ⟨0, Or.inr ⟨rfl, q⟩⟩
    · exact ⟨m + 1 - j, Or.inl (by omega)⟩
  have hW : 0 ≤ (zof (nI b) (nI a - nI b) m n 0 j).toInt := by
    rcases hn with q | q
    · rw [zsubn (by omega)]
      exact zof_b (by omega) (by omega) (by omega) n j 0 (by omega) (by decide) (by show (0 : Int) ≤ _; omega)
    · rw [q.1]
      show 0 ≤ (0 : Int64).toInt
      decide
  refine ⟨n + 1, i_oft8L (by omega) n j hn (by omega) 0 ?_⟩
  refine i_pow8 (by omega) ?_
  have done9 : ∀ A : Int64 → Prop, wp_X9_lowest (zof (nI b) (nI a - nI b) m n 0 j) (zpw (nI a) m 1) a5 σ A → wp_X9_often (nI a) (nI b) (nI m) (nI j) a5 σ A := by
    intro A hA
    unfold wp_X9_often
    refine t_in (a := 1) (b := 8) rfl rfl (fun _ _ => ?_) (fun q => by omega)
    refine t_in (a := 0) rfl (Int32.toInt_toInt64 _) (fun _ _ => ?_) (fun q => by omega)
    refine t_in (a := 1) (b := 8) rfl rfl (fun _ _ => ?_) (fun q => by omega)
    refine t_in (a := 0) (b := 8) rfl rfl (fun _ _ => ?_) (fun q => by omega)
    refine t_in (a := 0) (b := 1) rfl rfl (fun _ _ => ?_) (fun q => by omega)
    refine ⟨n + 1, i_oft9L (by omega) n j hn (by omega) 0 ?_⟩
    exact i_pow9 (by omega) hA
  generalize zof (nI b) (nI a - nI b) m n 0 j = W at hW done9 ⊢
  generalize zpw (nI a) m 1 = V at hr hR done9 ⊢
  obtain ⟨wa, hwa⟩ : ∃ wa : Nat, W.toInt = wa := ⟨W.toInt.toNat, by omega⟩
  obtain ⟨va, hva⟩ : ∃ va : Nat, V.toInt = va := ⟨V.toInt.toNat, by omega⟩
  refine i_part (a := wa) (b := va) hwa hva (by omega) (by omega) (fun r hr' => ?_)
  refine done9 _ ?_
  refine i_low (a := wa) (b := va) hwa hva (by omega) (fun s hs => ?_)
  rw [show s = r from Int64.toInt_inj.mp (hs.trans hr'.symm)]
  exact hk _
end S
end
section
/-! the fleet at an hour; convoy: equal answers -/
theorem z_shl {m : Nat} (h : m < 2 ^ 31) : lN m <<< ((32 : Int32).toInt64 &&& 63) = lN (m * 4294967296) := by
  apply Int64.toBitVec_inj.mp
  rw [Int64.toBitVec_shiftLeft]
  have e : (((32 : Int32).toInt64 &&& 63).toBitVec).smod 64 = BitVec.ofNat 64 32 := by decide
  rw [e]
  show BitVec.ofNat 64 m <<< BitVec.ofNat 64 32 = BitVec.ofNat 64 (m * 4294967296)
  apply BitVec.eq_of_toNat_eq
  rw [BitVec.shiftLeft_eq', BitVec.toNat_shiftLeft, BitVec.toNat_ofNat, BitVec.toNat_ofNat, BitVec.toNat_ofNat, Nat.shiftLeft_eq, Nat.mod_eq_of_lt (show m < 2 ^ 64 by omega), show 2 ^ (32 % 2 ^ 64) = 4294967296 by decide]
theorem z_shr {n : Nat} (h : n < 2 ^ 63) : lN n >>> ((32 : Int32).toInt64 &&& 63) = lN (n / 4294967296) := by
  apply Int64.toInt_inj.mp
  have e : (lN n >>> ((32 : Int32).toInt64 &&& 63)).toInt = (lN n).toInt >>> 32 := by
    show ((lN n).toBitVec.sshiftRight (((32 : Int32).toInt64 &&& 63).toBitVec.smod 64).toNat).toInt = _
    rw [show (((32 : Int32).toInt64 &&& 63).toBitVec.smod 64).toNat = 32 by decide, BitVec.toInt_sshiftRight]
    rfl
  have e1 : (lN n).toInt = (n : Int) := lg_ofNat_toInt (by omega)
  have e2 : (lN (n / 4294967296)).toInt = ((n / 4294967296 : Nat) : Int) := lg_ofNat_toInt (by omega)
  rw [e, e1, e2, Int.shiftRight_eq_div_pow]
  rfl
def zpk (M W : Nat) : Int64 := lN (M * 4294967296 + W)
theorem z_hi {M W : Nat} (hM : M < 2 ^ 31) (hW : W < 2 ^ 31) : (zpk M W >>> ((32 : Int32).toInt64 &&& 63)).toInt32 = nI M := by
  unfold zpk
  rw [z_shr (by omega), lN_i, show (M * 4294967296 + W) / 4294967296 = M by omega]
theorem z_lo {M W : Nat} : (zpk M W).toInt32 = nI W := by
  unfold zpk
  rw [lN_i, ← nI_add, ← z_mul, show nI 4294967296 = 0 by decide, Int32.mul_zero, Int32.zero_add]
theorem z_pk {M W : Nat} (hM : M < 2 ^ 31) (hW : W < 2 ^ 31) : ((nI M).toInt64 <<< ((32 : Int32).toInt64 &&& 63)) + (nI W).toInt64 = zpk M W := by
  rw [nI_l hM, nI_l hW, z_shl hM, lN_add]
  rfl
theorem z_pka (M W M' W' : Nat) : zpk M W + zpk M' W' = zpk (M + M') (W + W') := by
  unfold zpk
  rw [lN_add, show M * 4294967296 + W + (M' * 4294967296 + W') = (M + M') * 4294967296 + (W + W') by omega]
def zmo1 (σ : zST) (i : Nat) : Bool := decide (zH (σ.1 2 0) (nI i) ∧ σ.1 3 i = 0)
def zml (σ : zST) : Nat → List Nat
  | 0 => []
  | i + 1 => zml σ i ++ (if zmo1 σ i = true then [i] else [])
theorem zml_lt {σ : zST} : ∀ i, (zml σ i).length ≤ i ∧ ∀ a, a ∈ zml σ i → a < i := by
  intro i
  induction i with
  | zero => exact ⟨Nat.le_refl _, fun a h => by simp [zml] at h⟩
  | succ i ih =>
    unfold zml
    refine ⟨?_, fun a h => ?_⟩
    · rw [List.length_append]
      split
      · show _ + 1 ≤ _; omega
      · show _ + 0 ≤ _; omega
    · rcases List.mem_append.mp h with q | q
      · have := ih.2 a q
        omega
      · split at q
        · rw [List.mem_singleton] at q; omega
        · simp at q
/-- what ship a gives by side s at the hour: mean, worst -/
def zvm (σ : zST) (hr : Int32) (a s : Nat) : Nat := (qM σ 2 a (nI s) hr).toNatClampNeg
def zvx (σ : zST) (hr : Int32) (a s : Nat) : Nat := (qX σ 2 a (nI s) hr).toNatClampNeg
section S
variable {σ σ0 : zST} {P : Int32 → Prop} {Q : zST → Prop} {R : Int32 → zST → Prop} {a1 a2 a3 hr : Int32} {a : Nat} {v : Int32} {l : List Nat}
theorem zcl_n {x : Int32} {m : Nat} (h0 : 0 ≤ x.toInt) (h1 : x.toInt ≤ m) : x = nI x.toNatClampNeg ∧ x.toNatClampNeg ≤ m := by
  obtain ⟨n, hn, rfl, -⟩ := zN (h := m) h0 h1
  have := (fb_rng (nI n)).2
  rcases Nat.lt_or_ge n (2 ^ 31) with q | q
  · rw [nI_clamp q]
    exact ⟨rfl, hn⟩
  · have e := (zN (x := nI n) (h := m) h0 h1)
    obtain ⟨k, hk, e1, e2⟩ := e
    have hk31 : k < 2 ^ 31 := by omega
    rw [e1, nI_clamp hk31]
    exact ⟨rfl, hk⟩
theorem zv_b (hI : IB σ) (h0 : 0 ≤ hr.toInt) {s : Nat} (ha : a < 6) : (qM σ 2 a (nI s) hr = nI (zvm σ hr a s) ∧ zvm σ hr a s ≤ 360000) ∧ qX σ 2 a (nI s) hr = nI (zvx σ hr a s) ∧ zvx σ hr a s ≤ 36000 := by
  have b1 := qM_b (sd := nI s) hI ha h0
  have b2 := qX_b (sd := nI s) (hr := hr) hI ha
  exact ⟨zcl_n b1.1 (by omega), zcl_n b2.1 (by omega)⟩
theorem q_fr (h : ∀ a k, a ≤ 17 → σ.1 a k = σ0.1 a k) (k : Nat) (s : Int32) : qM σ 2 k s hr = qM σ0 2 k s hr ∧ qX σ 2 k s hr = qX σ0 2 k s hr := by
  simp only [qM, qX, qW, qL, qF, qT, zdg, zmo]
  simp only [h 2 _ (by omega), h (2 + 1) _ (by omega), h (2 + 2) _ (by omega), h (2 + 3) _ (by omega), h (2 + 4) _ (by omega), h (2 + 5) _ (by omega), h (2 + 6) _ (by omega)]
  exact ⟨rfl, rfl⟩
theorem i_moored (h1 : 0 ≤ v.toInt → v.toInt ≤ 5 → zH (σ.1 2 0) v → σ.1 3 v.toNatClampNeg = 0 → P 1) (h0 : ¬ (0 ≤ v.toInt ∧ v.toInt ≤ 5 ∧ zH (σ.1 2 0) v ∧ σ.1 3 v.toNatClampNeg = 0) → P 0) : wp_X6_moored 2 v σ P := by
  refine i_has rfl (fun x y z => ⟨by rw [if_neg (by decide)]; exact ⟨zv x (by omega), trivial⟩, ?_⟩) (fun q => ⟨by rw [if_pos rfl]; trivial, ?_⟩)
  · rw [if_neg (by decide)]
    intro z4 hz
    exact zbit hz (fun c => h1 x y z c) (fun c => h0 (fun u => c u.2.2.2))
  · rw [if_pos rfl]
    rintro z4 rfl
    exact ⟨zB0, h0 (fun u => q ⟨u.1, u.2.1, u.2.2.1⟩)⟩
theorem i_harbour (hI : IB σ) (h1 : 0 ≤ v.toInt → v.toInt ≤ 5 → zH (σ.1 2 0) v → σ.1 3 v.toNatClampNeg = 0 → P 1) (h0 : ¬ (0 ≤ v.toInt ∧ v.toInt ≤ 5 ∧ zH (σ.1 2 0) v ∧ σ.1 3 v.toNatClampNeg = 0) → P 0) : wp_X9_isInHarbour v σ P := by
  have e0 := b_ships hI
  refine i_isShip e0.1.symm (fun x y z => ⟨by rw [if_neg (by decide)]; exact ⟨zv x (by omega), trivial⟩, ?_⟩) (fun q => ⟨by rw [if_pos rfl]; trivial, ?_⟩)
  · have e1 := b_where hI (k := v.toNatClampNeg) (zcl x (by omega))
    rw [if_neg (by decide), ← e1.1]
    intro z4 hz
    exact zbit hz (fun c => h1 x y z c) (fun c => h0 (fun u => c u.2.2.2))
  · rw [if_pos rfl]
    rintro z4 rfl
    exact ⟨zB0, h0 (fun u => q ⟨u.1, u.2.1, u.2.2.1⟩)⟩
/-- the fleet has gathered the ships of l -/
def zFl (σ0 : zST) (hr : Int32) (l : List Nat) (σ : zST) : Prop := zF σ0 σ l.length ∧ ∀ k, k < l.length → σ.1 64 k = nI (l.getD k 0) ∧ ∀ s, s < 3 → σ.2 65 (k * 3 + s) = zpk (zvm σ0 hr (l.getD k 0) s) (zvx σ0 hr (l.getD k 0) s)
def zFm (σ0 : zST) (hr : Int32) (l : List Nat) (a t : Nat) (σ : zST) : Prop := zFl σ0 hr l σ ∧ σ.1 64 l.length = nI a ∧ ∀ s, s < t → σ.2 65 (l.length * 3 + s) = zpk (zvm σ0 hr a s) (zvx σ0 hr a s)
theorem wL_at (σ : zST) (a k : Nat) (v : Int64) (b j : Nat) : (wL σ a k v).2 b j = if b = a ∧ j = k then v else σ.2 b j := rfl
theorem i_gathL34 (hI : IB σ0) (hl : l.length < 6) (ha : a < 6) (h0 : 0 ≤ hr.toInt) (h : ∀ σ', zFm σ0 hr l a 3 σ' → Q σ') : ∀ n i, n + i = 3 → ∀ σ, zFm σ0 hr l a i σ → wp_X2_gather_L34 2 hr (nI a) Q (n + 1) (nI i) σ := by
  intro n
  induction n with
  | zero =>
    intro i hi σ hF
    unfold wp_X2_gather_L34
    rw [if_pos (by rw [show i = 3 by omega]; decide)]
    rw [show i = 3 by omega] at hF
    exact h _ hF
  | succ n ih =>
    intro i hi σ hF
    unfold wp_X2_gather_L34
    rw [if_neg (by rw [Int32.le_iff_toInt_le, nI_toInt (by omega)]; show ¬ (3 : Int) ≤ i; omega)]
    have hd := b_digits hI
    have hG := hF.1.1
    have e7 : σ.1 2 7 = σ0.1 2 7 := hG.1 2 7 (by omega) (by omega)
    have hv : vp_in (nI a) 6 := vp_in_nI ha (by omega)
    have qf := q_fr (hr := hr) (fun x k hx => hG.1 x k (by omega) (by omega)) a (nI i)
    have hb := zv_b (s := i) hI h0 ha
    refine i_meanBy hv h0 (by rw [e7]; exact hd.2.1) (by rw [e7]; exact hd.2.2) ?_
    rintro _ rfl
    refine i_worstBy hv h0 (by rw [e7]; exact hd.2.1) (by rw [e7]; exact hd.2.2) ?_
    rw [nI_clamp (by omega), qf.1, qf.2, hb.1.1, hb.2.1, z_pk (by omega) (by omega), nI_1, hG.2, z_mul3, nI_add, nI_clamp (by omega)]
    refine ⟨vp_in_nI (by omega) (by omega), ih (i + 1) (by omega) _ ⟨⟨hG, fun k hk => ⟨(hF.1.2 k hk).1, fun s hs => ?_⟩⟩, hF.2.1, fun s hs => ?_⟩⟩
    · rw [wL_at, if_neg (by omega)]
      exact (hF.1.2 k hk).2 s hs
    · rw [wL_at]
      by_cases e : s = i
      · rw [if_pos ⟨rfl, by omega⟩, e]
      · rw [if_neg (by omega)]
        exact hF.2.2 s (by omega)
theorem z_getD1 {l : List Nat} {a k : Nat} (h : k < l.length) : (l ++ [a]).getD k 0 = l.getD k 0 := by
  rw [List.getD_eq_getElem?_getD, List.getD_eq_getElem?_getD, List.getElem?_append_left h]
theorem z_getD2 {l : List Nat} {a : Nat} : (l ++ [a]).getD l.length 0 = a := by
  rw [List.getD_eq_getElem?_getD, List.getElem?_append_right (Nat.le_refl _), Nat.sub_self]
  rfl
theorem i_gathL7 (hI : IB σ0) (h0 : 0 ≤ hr.toInt) (h : ∀ σ', zFl σ0 hr (zml σ0 6) σ' → Q σ') : ∀ n i, n + i = 6 → ∀ σ, zFl σ0 hr (zml σ0 i) σ → wp_X2_gather_L7 2 hr Q (n + 1) (nI i) σ := by
  intro n
  induction n with
  | zero =>
    intro i hi σ hF
    unfold wp_X2_gather_L7
    rw [if_pos (by rw [show i = 6 by omega]; decide)]
    rw [show i = 6 by omega] at hF
    exact h _ hF
  | succ n ih =>
    intro i hi σ hF
    unfold wp_X2_gather_L7
    rw [if_neg (by rw [Int32.le_iff_toInt_le, nI_toInt (by omega)]; show ¬ (6 : Int) ≤ i; omega)]
    rw [nI_1]
    have hlen := (zml_lt (σ := σ0) i).1
    have ez : zml σ0 (i + 1) = zml σ0 i ++ (if zmo1 σ0 i = true then [i] else []) := rfl
    have en := nI_toInt (n := i) (by omega)
    have e2 : σ.1 2 0 = σ0.1 2 0 := hF.1.1 2 0 (by omega) (by omega)
    have e3 : σ.1 3 i = σ0.1 3 i := hF.1.1 3 i (by omega) (by omega)
    refine i_moored (fun x y q1 q2 => ?_) (fun q => ?_)
    · rw [nI_clamp (by omega), e3] at q2
      rw [e2] at q1
      rw [if_pos (show zmo1 σ0 i = true from decide_eq_true ⟨q1, q2⟩)] at ez
      refine zi1 ?_
      rw [hF.1.2, nI_clamp (by omega)]
      refine ⟨vp_in_nI (by omega) (by omega), ⟨4, i_gathL34 (l := zml σ0 i) (a := i) hI (by omega) (by omega) h0 (fun σ' hF' => ?_) 3 0 rfl _ ?_⟩⟩
      · obtain ⟨⟨f1, f2⟩, f3, f4⟩ := hF'
        refine ih (i + 1) (by omega) _ ?_
        rw [ez]
        refine ⟨⟨fun a k n1 n2 => ?_, ?_⟩, fun k hk => ?_⟩
        · rw [wI_at, if_neg (by omega)]; exact f1.1 a k n1 n2
        · rw [wI_at, if_pos ⟨rfl, rfl⟩, f1.2, nI_1, List.length_append]; rfl
        · rw [List.length_append] at hk
          have hk : k < (zml σ0 i).length + 1 := hk
          rw [wI_at, if_neg (by omega)]
          rcases Nat.lt_or_ge k (zml σ0 i).length with q | q
          · rw [z_getD1 q]
            exact f2 k q
          · obtain rfl : k = (zml σ0 i).length := by omega
            rw [z_getD2]
            exact ⟨f3, f4⟩
      · refine ⟨⟨⟨fun a k n1 n2 => ?_, ?_⟩, fun k hk => ?_⟩, ?_, fun s hs => by omega⟩
        · rw [wI_at, if_neg (by omega)]; exact hF.1.1 a k n1 n2
        · rw [wI_at, if_neg (by omega)]; exact hF.1.2
        · rw [wI_at, if_neg (by omega)]
          exact hF.2 k hk
        · rw [wI_at, if_pos ⟨rfl, rfl⟩]
    · rw [if_neg (fun z => ?_), List.append_nil] at ez
      · rw [← ez] at hF
        exact zi0 (ih (i + 1) (by omega) _ hF)
      · have := of_decide_eq_true z
        refine q ⟨by omega, by omega, ?_, ?_⟩
        · rw [e2]; exact this.1
        · rw [nI_clamp (by omega), e3]; exact this.2
theorem i_gather (hI : IB σ) (h0 : 0 ≤ hr.toInt) (h : ∀ σ', zFl σ hr (zml σ 6) σ' → Q σ') : wp_X2_gather 2 hr σ Q := by
  refine ⟨7, i_gathL7 hI h0 h 6 0 rfl _ ⟨⟨fun a k n1 n2 => ?_, ?_⟩, fun k hk => by simp [zml] at hk⟩⟩
  · rw [wI_at, if_neg (by omega)]
  · rw [wI_at, if_pos ⟨rfl, rfl⟩]; rfl
/-- the sum of the means of a list by side s -/
def zsm (σ : zST) (hr : Int32) (s : Nat) : List Nat → Nat
  | [] => 0
  | a :: l => zvm σ hr a s + zsm σ hr s l
theorem zsm_app {s : Nat} : ∀ l a, zsm σ hr s (l ++ [a]) = zsm σ hr s l + zvm σ hr a s := by
  intro l
  induction l with
  | nil => intro a; show zvm σ hr a s + 0 = 0 + _; omega
  | cons b l ih =>
    intro a
    show zvm σ hr b s + zsm σ hr s (l ++ [a]) = zvm σ hr b s + zsm σ hr s l + _
    rw [ih]
    omega
theorem zsm_b {s : Nat} (hI : IB σ) (h0 : 0 ≤ hr.toInt) : ∀ l : List Nat, (∀ a, a ∈ l → a < 6) → zsm σ hr s l ≤ 360000 * l.length := by
  intro l
  induction l with
  | nil => intro _; exact Nat.le_refl _
  | cons b l ih =>
    intro h
    have := (zv_b (s := s) hI h0 (h b List.mem_cons_self)).1.2
    have := ih (fun a ha => h a (List.mem_cons_of_mem _ ha))
    show zvm σ hr b s + zsm σ hr s l ≤ 360000 * (l.length + 1)
    omega
theorem i_mallL {s : Nat} (hs : s < 3) (hI : IB σ0) (h0 : 0 ≤ hr.toInt) (hl : l.length ≤ 6) (hm : ∀ a, a ∈ l → a < 6) (hF : zFl σ0 hr l σ) : ∀ n i, n + i = l.length → P (nI (zsm σ0 hr s l)) → wp_X2_meanOfAllBy_L4 (nI s) σ P (n + 1) (nI (zsm σ0 hr s (l.take i))) (nI i) := by
  intro n
  induction n with
  | zero =>
    intro i hi h
    unfold wp_X2_meanOfAllBy_L4
    rw [if_pos (by rw [hF.1.2]; exact nI_le (by omega) (by omega)), List.take_of_length_le (by omega)]
    exact h
  | succ n ih =>
    intro i hi h
    unfold wp_X2_meanOfAllBy_L4
    have hlt : i < l.length := by omega
    have eg : l.getD i 0 = l[i] := by rw [List.getD_eq_getElem?_getD, List.getElem?_eq_getElem hlt]; rfl
    have ha : l.getD i 0 < 6 := by rw [eg]; exact hm _ (List.getElem_mem hlt)
    have hb := zv_b (s := s) hI h0 ha
    rw [hF.1.2, if_neg (nI_ge (by omega) (by omega)), nI_1, z_mul3, nI_add, nI_clamp (by omega), (hF.2 i hlt).2 s hs]
    refine ⟨vp_in_nI (by omega) (by omega), ?_⟩
    show ∀ x5 : Int32, x5 = _ + (zpk _ _ >>> ((32 : Int32).toInt64 &&& 63)).toInt32 → _
    rw [z_hi (by omega) (by omega), nI_add, ← zsm_app, eg, List.take_append_getElem hlt]
    rintro _ rfl
    exact ih (i + 1) (by omega) h
theorem i_mall {s : Nat} (hs : s < 3) (hI : IB σ0) (h0 : 0 ≤ hr.toInt) (hl : l.length ≤ 6) (hm : ∀ a, a ∈ l → a < 6) (hF : zFl σ0 hr l σ) (h : P (nI (zsm σ0 hr s l))) : wp_X2_meanOfAllBy (nI s) σ P :=
  ⟨l.length + 1, i_mallL hs hI h0 hl hm hF l.length 0 rfl h⟩
/-- the side with the least sum, the first of equals -/
def zbs (f : Nat → Nat) : Nat := if f 0 ≤ f 1 then (if f 0 ≤ f 2 then 0 else 2) else (if f 1 ≤ f 2 then 1 else 2)
theorem zbs_lt (f : Nat → Nat) : zbs f < 3 := by
  unfold zbs
  (repeat' split) <;> omega
theorem i_comm (hI : IB σ0) (h0 : 0 ≤ hr.toInt) (hl : l.length ≤ 6) (hm : ∀ a, a ∈ l → a < 6) (hF : zFl σ0 hr l σ) (h : P (nI (zbs (fun s => zsm σ0 hr s l)))) : wp_X2_commonSide σ P := by
  have hb : ∀ s, zsm σ0 hr s l < 2 ^ 31 := fun s => by
    have := zsm_b (s := s) hI h0 l hm
    omega
  have go : ∀ s, s < 3 → ∀ {A : Int32 → Prop}, A (nI (zsm σ0 hr s l)) → wp_X2_meanOfAllBy (nI s) σ A := fun s hs A hA => i_mall hs hI h0 hl hm hF hA
  have st : ∀ {N s t : Nat}, s < 3 → t < 3 → (zsm σ0 hr s l ≤ zsm σ0 hr t l → wp_X2_commonSide_L4 σ P N (nI s) (nI (t + 1))) → (¬ zsm σ0 hr s l ≤ zsm σ0 hr t l → wp_X2_commonSide_L4 σ P N (nI t) (nI (t + 1))) → wp_X2_commonSide_L4 σ P (N + 1) (nI s) (nI t) := by
    intro N s i hs ht g1 g2
    unfold wp_X2_commonSide_L4
    rw [if_neg (by rw [Int32.le_iff_toInt_le, nI_toInt (by omega)]; show ¬ (3 : Int) ≤ i; omega)]
    rw [nI_1]
    refine go i ht ?_
    refine go s hs ?_
    by_cases q : zsm σ0 hr s l ≤ zsm σ0 hr i l
    · rw [if_pos (nI_le q (hb i))]
      exact g1 q
    · rw [if_neg (nI_ge (by omega) (hb s))]
      exact g2 q
  have en : ∀ s, P (nI s) → wp_X2_commonSide_L4 σ P 1 (nI s) (nI 3) := by
    intro s hs
    unfold wp_X2_commonSide_L4
    rw [if_pos (by decide)]
    exact hs
  unfold zbs at h
  refine ⟨3, st (N := 2) (s := 0) (t := 1) (by omega) (by omega) (fun q => ?_) (fun q => ?_)⟩
  · rw [if_pos q] at h
    refine st (N := 1) (by omega) (by omega) (fun q2 => ?_) (fun q2 => ?_)
    · rw [if_pos q2] at h
      exact en _ h
    · rw [if_neg q2] at h
      exact en _ h
  · rw [if_neg q] at h
    refine st (N := 1) (by omega) (by omega) (fun q2 => ?_) (fun q2 => ?_)
    · rw [if_pos q2] at h
      exact en _ h
    · rw [if_neg q2] at h
      exact en _ h
theorem i_con41 {s : Nat} {v2 v3 v4 : Int32} (hI : IB σ) (h0 : 0 ≤ hr.toInt) (h : P (nI (zsm σ hr s (zml σ 6)))) : ∀ n i, n + i = 6 → wp_X9_convoy_L41 hr v2 v3 v4 (nI s) σ P (n + 1) (nI (zsm σ hr s (zml σ i))) (nI i) := by
  intro n
  induction n with
  | zero =>
    intro i hi
    unfold wp_X9_convoy_L41
    rw [if_pos (by rw [show i = 6 by omega]; decide)]
    rw [show i = 6 by omega]
    exact h
  | succ n ih =>
    intro i hi
    unfold wp_X9_convoy_L41
    rw [if_neg (by rw [Int32.le_iff_toInt_le, nI_toInt (by omega)]; show ¬ (6 : Int) ≤ i; omega)]
    rw [nI_1]
    have ez : zml σ (i + 1) = zml σ i ++ (if zmo1 σ i = true then [i] else []) := rfl
    have en := nI_toInt (n := i) (by omega)
    have ihn := ih (i + 1) (by omega)
    refine i_harbour hI (fun x y q1 q2 => zi1 ?_) (fun q => zi0 ?_)
    · rw [nI_clamp (by omega)] at q2
      rw [if_pos (show zmo1 σ i = true from decide_eq_true ⟨q1, q2⟩)] at ez
      refine i_meanOf hI x y h0 ?_
      have hb := zv_b (s := s) hI h0 (a := i) (by omega)
      rw [nI_clamp (by omega), hb.1.1, nI_add, ← zsm_app, ← ez]
      rintro _ rfl
      exact ihn
    · rw [if_neg (fun z => ?_), List.append_nil] at ez
      · rw [ez] at ihn
        rw [Int32.add_zero]
        rintro _ rfl
        exact ihn
      · have := of_decide_eq_true z
        refine q ⟨by omega, by omega, this.1, ?_⟩
        rw [nI_clamp (by omega)]; exact this.2
theorem s_convoy (h : Inv σ) {K : Int32 → Int32 → zST → Prop} (hk : ∀ r σ', Inv σ' → K r r σ') : wp_X8_convoy a1 a2 σ (fun r σ1 => wp_X9_convoy a1 a2 σ1 (fun r' => K r r' σ1)) := by
  unfold wp_X8_convoy
  refine t_isHour8 (fun g0 g1 => ?_) (fun q => ?_)
  · refine t_within (a := 0) (b := 1) rfl rfl (fun c0 c1 => ?_) (fun q => ?_)
    · refine i_gather h.1 g0 (fun σ1 hF => ?_)
      have hlt := zml_lt (σ := σ) 6
      have hi : Inv σ1 := zF_inv h hF.1
      have fr : ∀ a k, a ≤ 17 → σ1.1 a k = σ.1 a k := fun a k ha => hF.1.1 a k (by omega) (by omega)
      have em : ∀ i, zml σ1 i = zml σ i := by
        intro i
        induction i with
        | zero => rfl
        | succ i ih =>
          unfold zml
          rw [ih]
          unfold zmo1
          rw [fr 2 0 (by omega), fr 3 i (by omega)]
      have es : ∀ s l, zsm σ1 a1 s l = zsm σ a1 s l := by
        intro s l
        induction l with
        | nil => rfl
        | cons b l ih =>
          unfold zsm
          rw [ih]
          unfold zvm
          rw [(q_fr (hr := a1) fr b (nI s)).1]
      have hb : ∀ s, zsm σ a1 s (zml σ 6) < 2 ^ 30 := fun s => by
        have := zsm_b (s := s) h.1 g0 (zml σ 6) hlt.2
        omega
      have ref : ∀ A : Int32 → Prop, A (if a2 = 0 then nI (zbs (fun s => zsm σ a1 s (zml σ 6))) else nI (zsm σ a1 (zbs (fun s => zsm σ a1 s (zml σ 6))) (zml σ 6))) → wp_X9_convoy a1 a2 σ1 A := by
        intro A hA
        unfold wp_X9_convoy
        refine t_isHour (fun _ _ => ?_) (fun q => by omega)
        refine t_in (a := 0) (b := 1) rfl rfl (fun _ _ => ?_) (fun q => by omega)
        have st : ∀ {N i : Nat} {x y : Int32}, i < 3 → (y ≤ nI (zsm σ a1 i (zml σ 6)) → wp_X9_convoy_L29 a1 a2 σ1 A N x y (nI (i + 1))) → (¬ y ≤ nI (zsm σ a1 i (zml σ 6)) → wp_X9_convoy_L29 a1 a2 σ1 A N (nI i) (nI (zsm σ a1 i (zml σ 6))) (nI (i + 1))) → wp_X9_convoy_L29 a1 a2 σ1 A (N + 1) x y (nI i) := by
          intro N i x y hi3 g1 g2
          unfold wp_X9_convoy_L29
          rw [if_neg (by rw [Int32.le_iff_toInt_le, nI_toInt (by omega)]; show ¬ (3 : Int) ≤ i; omega)]
          rw [nI_1]
          refine ⟨7, i_con41 (s := i) hi.1 g0 ?_ 6 0 rfl⟩
          rw [em, es]
          rintro _ rfl _ rfl
          by_cases q : y ≤ nI (zsm σ a1 i (zml σ 6))
          · rw [if_pos q, if_pos q]; exact g1 q
          · rw [if_neg q, if_neg q]; exact g2 q
        have en : ∀ s, A (if a2 = 0 then nI s else nI (zsm σ a1 s (zml σ 6))) → wp_X9_convoy_L29 a1 a2 σ1 A 1 (nI s) (nI (zsm σ a1 s (zml σ 6))) (nI 3) := by
          intro s hs
          unfold wp_X9_convoy_L29
          rw [if_pos (by decide)]
          rintro _ rfl
          exact hs
        unfold zbs at hA
        refine ⟨4, st (N := 3) (i := 0) (by omega) (fun q => ?_) (fun _ => ?_)⟩
        · rw [Int32.le_iff_toInt_le, nI_toInt (Nat.lt_trans (hb 0) (by decide))] at q
          have q : (1000000000 : Int) ≤ _ := q
          have := zsm_b (s := 0) h.1 g0 (zml σ 6) hlt.2
          omega
        refine st (N := 2) (i := 1) (by omega) (fun q => ?_) (fun q => ?_)
        · rw [nI_leI (by have := hb 0; omega) (by have := hb 1; omega)] at q
          rw [if_pos q] at hA
          refine st (N := 1) (i := 2) (by omega) (fun q2 => ?_) (fun q2 => ?_)
          · rw [nI_leI (by have := hb 0; omega) (by have := hb 2; omega)] at q2
            rw [if_pos q2] at hA
            exact en 0 hA
          · rw [nI_leI (by have := hb 0; omega) (by have := hb 2; omega)] at q2
            rw [if_neg q2] at hA
            exact en 2 hA
        · rw [nI_leI (by have := hb 0; omega) (by have := hb 1; omega)] at q
          rw [if_neg q] at hA
          refine st (N := 1) (i := 2) (by omega) (fun q2 => ?_) (fun q2 => ?_)
          · rw [nI_leI (by have := hb 1; omega) (by have := hb 2; omega)] at q2
            rw [if_pos q2] at hA
            exact en 1 hA
          · rw [nI_leI (by have := hb 1; omega) (by have := hb 2; omega)] at q2
            rw [if_neg q2] at hA
            exact en 2 hA
      refine i_comm h.1 g0 hlt.1 hlt.2 hF ?_
      by_cases e : a2 = 0
      · rw [if_pos e]
        refine ref _ ?_
        rw [if_pos e]
        exact hk _ _ hi
      · rw [if_neg e]
        refine i_mall (zbs_lt _) h.1 g0 hlt.1 hlt.2 hF ?_
        refine ref _ ?_
        rw [if_neg e]
        exact hk _ _ hi
    · unfold wp_X9_convoy
      refine t_isHour (fun _ _ => ?_) (fun _ => hk _ _ h)
      exact t_in (a := 0) (b := 1) rfl rfl (fun _ _ => by omega) (fun _ => hk _ _ h)
  · unfold wp_X9_convoy
    exact t_isHour (fun _ _ => by omega) (fun _ => hk _ _ h)
end S
end
