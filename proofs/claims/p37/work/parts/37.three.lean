section
/-! image, restore -/
section S
variable {σ σ0 σ' : zST} {P : zST → Prop} {a1 : Int32} {n : Nat}
theorem i_become3 {a b : Nat} (hab : a + 2 < b ∨ b + 2 < a) (h : ∀ σ' : zST, (∀ z j, σ'.1 z j = if z = a ∧ j = 0 then σ.1 b 0 else if z = a + 1 ∧ j < 4 then σ.1 (b + 1) j else if z = a + 2 ∧ j < 4 then σ.1 (b + 2) j else σ.1 z j) → P σ') : wp_X3_become a b σ P := by
  intro σ1 e1 σ2 e2
  have h1 : ∀ z j, σ1.1 z j = if z = a ∧ j = 0 then σ.1 b 0 else σ.1 z j := fun z j => by rw [e1, wI_at]
  have h2 : ∀ z j, σ2.1 z j = if z = a + 1 ∧ j < 4 then σ1.1 (b + 1) j else σ1.1 z j := fun z j => by rw [e2]; exact zcpy rfl z j
  refine h _ (fun z j => ?_)
  rw [zcpy (m := 4) rfl, h2 (b + 2), h2 z, if_neg (show ¬ (b + 2 = a + 1 ∧ j < 4) by omega), h1 (b + 2), h1 (b + 1), h1 z, if_neg (show ¬ (b + 2 = a ∧ j = 0) by omega), if_neg (show ¬ (b + 1 = a ∧ j = 0) by omega)]
  (repeat' split) <;> first | rfl | (exfalso; omega)
theorem i_become5 {a b : Nat} (hab : a + 2 < b ∨ b + 2 < a) (h : ∀ σ' : zST, (∀ z j, σ'.1 z j = if z = a ∧ j = 0 then σ.1 b 0 else if z = a + 1 ∧ j < 6 then σ.1 (b + 1) j else if z = a + 2 ∧ j < 6 then σ.1 (b + 2) j else σ.1 z j) → P σ') : wp_X5_become a b σ P := by
  intro σ1 e1 σ2 e2
  have h1 : ∀ z j, σ1.1 z j = if z = a ∧ j = 0 then σ.1 b 0 else σ.1 z j := fun z j => by rw [e1, wI_at]
  have h2 : ∀ z j, σ2.1 z j = if z = a + 1 ∧ j < 6 then σ1.1 (b + 1) j else σ1.1 z j := fun z j => by rw [e2]; exact zcpy rfl z j
  refine h _ (fun z j => ?_)
  rw [zcpy (m := 6) rfl, h2 (b + 2), h2 z, if_neg (show ¬ (b + 2 = a + 1 ∧ j < 6) by omega), h1 (b + 2), h1 (b + 1), h1 z, if_neg (show ¬ (b + 2 = a ∧ j = 0) by omega), if_neg (show ¬ (b + 1 = a ∧ j = 0) by omega)]
  (repeat' split) <;> first | rfl | (exfalso; omega)
theorem i_become1 {a b : Nat} (hab : a + 2 < b ∨ b + 2 < a) (h : ∀ σ' : zST, (∀ z j, σ'.1 z j = if z = a ∧ j = 0 then σ.1 b 0 else if z = a + 1 ∧ j < 8 then σ.1 (b + 1) j else σ.1 z j) → P σ') : wp_X1_become a b σ P := by
  intro σ1 e1
  have h1 : ∀ z j, σ1.1 z j = if z = a ∧ j = 0 then σ.1 b 0 else σ.1 z j := fun z j => by rw [e1, wI_at]
  refine h _ (fun z j => ?_)
  rw [zcpy (m := 8) rfl, h1 (b + 1), h1 z, if_neg (show ¬ (b + 1 = a ∧ j = 0) by omega)]
  (repeat' split) <;> first | rfl | (exfalso; omega)
theorem i_become0 {a b : Nat} (hab : a + 16 < b ∨ b + 16 < a) (h : ∀ σ' : zST, (∀ x j, x ≤ a ∨ a + 16 < x → σ'.1 x j = σ.1 x j) → (∀ r k, k < zLen r → cV σ' a r k = cV σ b r k) → P σ') : wp_X0_become a b σ P := by
  unfold wp_X0_become
  refine i_become6 (by omega) (fun σ2 h2 f0 f7 fr => ?_)
  refine i_become3 (by omega) (fun σ4 h4 => ?_)
  refine i_become1 (by omega) (fun σ6 h6 => ?_)
  refine i_become5 (by omega) (fun σ8 h8 => ?_)
  have far : ∀ x j, x ≤ a ∨ a + 16 < x → σ2.1 x j = σ.1 x j ∧ σ4.1 x j = σ.1 x j ∧ σ6.1 x j = σ.1 x j ∧ σ8.1 x j = σ.1 x j := by
    intro x j hx
    have q2 : σ2.1 x j = σ.1 x j := h2 x j (by omega)
    have q4 : σ4.1 x j = σ.1 x j := by rw [h4]; (repeat rw [if_neg (by omega)]); exact q2
    have q6 : σ6.1 x j = σ.1 x j := by rw [h6]; (repeat rw [if_neg (by omega)]); exact q4
    have q8 : σ8.1 x j = σ.1 x j := by rw [h8]; (repeat rw [if_neg (by omega)]); exact q6
    exact ⟨q2, q4, q6, q8⟩
  have near : ∀ x j, x ≤ a + 8 → σ8.1 x j = σ2.1 x j := by
    intro x j hx
    rw [h8]; (repeat rw [if_neg (by omega)])
    rw [h6]; (repeat rw [if_neg (by omega)])
    rw [h4]; (repeat rw [if_neg (by omega)])
  refine h σ8 (fun x j hx => (far x j hx).2.2.2) (fun r k hk => ?_)
  have hr := zLen13 hk
  match r, hr with
  | 0, _ =>
    match k, hk with
    | 0, _ => exact (near (a + 1) 0 (by omega)).trans f0
    | 1, _ => exact (near (a + 1) 7 (by omega)).trans f7
    | 2, _ =>
      show σ8.1 (a + 9) 0 = σ.1 (b + 9) 0
      rw [h8]; (repeat rw [if_neg (by omega)])
      rw [h6]; (repeat rw [if_neg (by omega)])
      rw [h4, if_pos ⟨rfl, rfl⟩]
      exact (far (b + 9) 0 (by omega)).1
    | 3, _ =>
      show σ8.1 (a + 12) 0 = σ.1 (b + 12) 0
      rw [h8]; (repeat rw [if_neg (by omega)])
      rw [h6, if_pos ⟨rfl, rfl⟩]
      exact (far (b + 12) 0 (by omega)).2.1
    | 4, _ =>
      show σ8.1 (a + 14) 0 = σ.1 (b + 14) 0
      rw [h8, if_pos ⟨rfl, rfl⟩]
      exact (far (b + 14) 0 (by omega)).2.2.1
    | k + 5, h5 => exact absurd h5 (by simp [zLen])
  | 1, _ => show σ8.1 (a + 2) k = σ.1 (b + 2) k; rw [near _ _ (by omega), show a + 2 = a + 1 + 1 by omega, show b + 2 = b + 1 + 1 by omega]; exact fr 1 k (by omega) (by omega) hk
  | 2, _ => show σ8.1 (a + 3) k = σ.1 (b + 3) k; rw [near _ _ (by omega), show a + 3 = a + 1 + 2 by omega, show b + 3 = b + 1 + 2 by omega]; exact fr 2 k (by omega) (by omega) hk
  | 3, _ => show σ8.1 (a + 4) k = σ.1 (b + 4) k; rw [near _ _ (by omega), show a + 4 = a + 1 + 3 by omega, show b + 4 = b + 1 + 3 by omega]; exact fr 3 k (by omega) (by omega) hk
  | 4, _ => show σ8.1 (a + 5) k = σ.1 (b + 5) k; rw [near _ _ (by omega), show a + 5 = a + 1 + 4 by omega, show b + 5 = b + 1 + 4 by omega]; exact fr 4 k (by omega) (by omega) hk
  | 5, _ => show σ8.1 (a + 6) k = σ.1 (b + 6) k; rw [near _ _ (by omega), show a + 6 = a + 1 + 5 by omega, show b + 6 = b + 1 + 5 by omega]; exact fr 5 k (by omega) (by omega) hk
  | 6, _ => show σ8.1 (a + 7) k = σ.1 (b + 7) k; rw [near _ _ (by omega), show a + 7 = a + 1 + 6 by omega, show b + 7 = b + 1 + 6 by omega]; exact fr 6 k (by omega) (by omega) hk
  | 7, _ => show σ8.1 (a + 8) k = σ.1 (b + 8) k; rw [near _ _ (by omega), show a + 8 = a + 1 + 7 by omega, show b + 8 = b + 1 + 7 by omega]; exact fr 7 k (by omega) (by omega) hk
  | 8, _ =>
    have hk : k < 4 := hk
    show σ8.1 (a + 10) k = σ.1 (b + 10) k
    rw [h8]; (repeat rw [if_neg (by omega)])
    rw [h6]; (repeat rw [if_neg (by omega)])
    rw [h4, if_neg (by omega), if_pos (by omega)]
    exact (far (b + 10) k (by omega)).1
  | 9, _ =>
    have hk : k < 4 := hk
    show σ8.1 (a + 11) k = σ.1 (b + 11) k
    rw [h8]; (repeat rw [if_neg (by omega)])
    rw [h6]; (repeat rw [if_neg (by omega)])
    rw [h4, if_neg (by omega), if_neg (by omega), if_pos (by omega)]
    exact (far (b + 11) k (by omega)).1
  | 10, _ =>
    have hk : k < 8 := hk
    show σ8.1 (a + 13) k = σ.1 (b + 13) k
    rw [h8]; (repeat rw [if_neg (by omega)])
    rw [h6, if_neg (by omega), if_pos (by omega)]
    exact (far (b + 13) k (by omega)).2.1
  | 11, _ =>
    have hk : k < 6 := hk
    show σ8.1 (a + 15) k = σ.1 (b + 15) k
    rw [h8, if_neg (by omega), if_pos (by omega)]
    exact (far (b + 15) k (by omega)).2.2.1
  | 12, _ =>
    have hk : k < 6 := hk
    show σ8.1 (a + 16) k = σ.1 (b + 16) k
    rw [h8, if_neg (by omega), if_neg (by omega), if_pos (by omega)]
    exact (far (b + 16) k (by omega)).2.2.1
theorem zlocE : ∀ k, k < 6 → zloc (19 + 6 * k) = (73, k) ∧ zloc (16 + 6 * k) = (70, k) ∧ zloc (17 + 6 * k) = (71, k) ∧ zloc (18 + 6 * k) = (72, k) ∧ zloc (20 + 6 * k) = (78, k) ∧ zloc (21 + 6 * k) = (79, k) := by decide +kernel
theorem zlocF : ∀ k, k < 4 → zloc (52 + 2 * k) = (75, k) ∧ zloc (53 + 2 * k) = (76, k) := by decide +kernel
theorem zlocG : ∀ k, k < 8 → zloc (1 + k) = (69, 5 + k) ∧ zloc (60 + k) = (77, k) ∧ (k < 3 → zloc (10 + k) = (69, 15 + k)) := by decide +kernel
theorem kV_mV {r k : Nat} (e : ∀ u, u < 92 → σ'.1 85 (120 * n + u) = σ.1 (zloc u).1 (zloc u).2) (hk : k < zLen r) : kV σ' n r k = mV σ r k := by
  have hr := zLen13 hk
  have E : ∀ u x y, u < 92 → zloc u = (x, y) → σ'.1 85 (120 * n + u) = σ.1 x y := fun u x y hu hz => by rw [e u hu, hz]
  match r, hr with
  | 0, _ =>
    match k, hk with
    | 0, _ => exact e 0 (by omega)
    | 1, _ => exact e 9 (by omega)
    | 2, _ => exact e 13 (by omega)
    | 3, _ => exact e 14 (by omega)
    | 4, _ => exact e 15 (by omega)
    | k + 5, h5 => exact absurd h5 (by simp [zLen])
  | 1, _ => have hk : k < 6 := hk; exact E _ _ _ (by omega) (zlocE k hk).1
  | 2, _ => have hk : k < 6 := hk; exact E _ _ _ (by omega) (zlocE k hk).2.1
  | 3, _ => have hk : k < 6 := hk; exact E _ _ _ (by omega) (zlocE k hk).2.2.1
  | 4, _ => have hk : k < 6 := hk; exact E _ _ _ (by omega) (zlocE k hk).2.2.2.1
  | 5, _ => have hk : k < 8 := hk; exact E _ _ _ (by omega) (zlocG k hk).1
  | 6, _ => have hk : k < 24 := hk; exact E _ _ _ (by omega) (zlocD k hk)
  | 7, _ => have hk : k < 3 := hk; exact E _ _ _ (by omega) ((zlocG k (by omega)).2.2 hk)
  | 8, _ => have hk : k < 4 := hk; exact E _ _ _ (by omega) (zlocF k hk).1
  | 9, _ => have hk : k < 4 := hk; exact E _ _ _ (by omega) (zlocF k hk).2
  | 10, _ => have hk : k < 8 := hk; exact E _ _ _ (by omega) (zlocG k hk).2.1
  | 11, _ => have hk : k < 6 := hk; exact E _ _ _ (by omega) (zlocE k hk).2.2.2.2.1
  | 12, _ =>
    have hk : k < 6 := hk
    show σ'.1 85 (120 * n + (21 + 6 * k)) - zpc (σ'.1 85 (120 * n + (20 + 6 * k))) = σ.1 79 k - zpc (σ.1 78 k)
    rw [E _ _ _ (by omega) (zlocE k hk).2.2.2.2.1, E _ _ _ (by omega) (zlocE k hk).2.2.2.2.2]
theorem kV_fr2 {r k : Nat} (h : ∀ u, u < 92 → σ'.1 85 (120 * n + u) = σ.1 85 (120 * n + u)) (hk : k < zLen r) : kV σ' n r k = kV σ n r k := by
  have hr := zLen13 hk
  match r, hr with
  | 0, _ =>
    match k, hk with
    | 0, _ => exact h 0 (by omega)
    | 1, _ => exact h 9 (by omega)
    | 2, _ => exact h 13 (by omega)
    | 3, _ => exact h 14 (by omega)
    | 4, _ => exact h 15 (by omega)
    | k + 5, h5 => exact absurd h5 (by simp [zLen])
  | 1, _ => have hk : k < 6 := hk; exact h _ (by omega)
  | 2, _ => have hk : k < 6 := hk; exact h _ (by omega)
  | 3, _ => have hk : k < 6 := hk; exact h _ (by omega)
  | 4, _ => have hk : k < 6 := hk; exact h _ (by omega)
  | 5, _ => have hk : k < 8 := hk; exact h _ (by omega)
  | 6, _ => have hk : k < 24 := hk; exact h _ (by omega)
  | 7, _ => have hk : k < 3 := hk; exact h _ (by omega)
  | 8, _ => have hk : k < 4 := hk; exact h _ (by omega)
  | 9, _ => have hk : k < 4 := hk; exact h _ (by omega)
  | 10, _ => have hk : k < 8 := hk; exact h _ (by omega)
  | 11, _ => have hk : k < 6 := hk; exact h _ (by omega)
  | 12, _ =>
    have hk : k < 6 := hk
    show σ'.1 85 (120 * n + (21 + 6 * k)) - zpc (σ'.1 85 (120 * n + (20 + 6 * k))) = σ.1 85 (120 * n + (21 + 6 * k)) - zpc (σ.1 85 (120 * n + (20 + 6 * k)))
    rw [h _ (by omega), h _ (by omega)]
theorem i_imageBooks {Q : Nat → Prop} (hn : n < 2) (h : Q (18 + 17 * n)) : wp_X8_imageBooks (nI n) σ Q := by
  rcases (show n = 0 ∨ n = 1 by omega) with rfl | rfl
  · unfold wp_X8_imageBooks
    rw [if_pos (by decide)]
    exact h
  · unfold wp_X8_imageBooks
    rw [if_neg (by decide)]
    exact h
theorem zbk (hn : n < 2) : isX0 (18 + 17 * n) := by unfold isX0; omega
theorem z120 : ∀ n, n < 2 → (120 : Int32) * nI n = nI (120 * n + 0) := by decide +kernel
theorem zbit3 : ∀ x, x < 4 → ∀ n, n < 2 → 0 ≤ (nI x ||| ((1 : Int32) <<< (nI n &&& 31))).toInt ∧ (nI x ||| ((1 : Int32) <<< (nI n &&& 31))).toInt ≤ 3 ∧ ((nI x ||| ((1 : Int32) <<< (nI n &&& 31))) >>> (nI n &&& 31)) &&& 1 = 1 ∧ ∀ m, m < 2 → m ≠ n → ((nI x ||| ((1 : Int32) <<< (nI n &&& 31))) >>> (nI m &&& 31)) &&& 1 = (nI x >>> (nI m &&& 31)) &&& 1 := by decide +kernel
theorem zPa_start {m : Int32} (hn : n < 2) (hm : σ.1 69 39 = m) (h : σ.1 69 38 = (120 : Int32) * nI n) : zPa σ m (120 * n) 0 σ :=
  ⟨fun u hu => absurd hu (by omega), fun _ _ _ _ _ => rfl, by rw [h, z120 n hn], hm⟩
theorem s_image (h : Inv σ) {K : Int32 → Int32 → zST → Prop} (hk : ∀ r σ', Inv σ' → K r r σ') : wp_X8_image a1 σ (fun r σ1 => wp_X9_image a1 σ1 (fun r' σ2 => K r r' σ2)) := by
  unfold wp_X8_image
  refine t_within (a := 0) (b := 1) rfl rfl (fun h0 h1 => ?_) (fun hx => ?_)
  · obtain ⟨n, hn, rfl, -⟩ := zN (h := 1) h0 (by omega)
    have hn2 : n < 2 := by omega
    refine i_imageBooks hn2 ⟨zbk hn2, ?_⟩
    refine i_become0 (by omega) (fun σ7 f7 c7 => ?_)
    have e8 : ∀ a j, (wI σ7 0 3 (σ7.1 0 3 ||| (1 : Int32) <<< (nI n &&& 31))).1 a j = if a = 0 ∧ j = 3 then σ.1 0 3 ||| (1 : Int32) <<< (nI n &&& 31) else σ7.1 a j := fun a j => by rw [wI_at, f7 0 3 (by omega)]
    generalize wI σ7 0 3 (σ7.1 0 3 ||| (1 : Int32) <<< (nI n &&& 31)) = σ8 at e8 ⊢
    unfold wp_X9_image
    refine t_in (a := 0) (b := 1) rfl rfl (fun _ _ => ?_) (fun hx => by omega)
    intro σ9 e9
    have h9 : ∀ a j, σ9.1 a j = if a = 69 ∧ j = 39 then 1 else if a = 69 ∧ j = 38 then (120 : Int32) * nI n else σ8.1 a j := fun a j => by rw [e9, wI_at, wI_at]
    refine i_passAll (zPa_start (σ := σ9) (m := 1) hn2 (by rw [h9, if_pos ⟨rfl, rfl⟩]) (by rw [h9, if_neg (by omega), if_pos ⟨rfl, rfl⟩])) (by omega) (fun σ10 w => ?_)
    obtain ⟨w1, w2, -, -⟩ := w
    have hv : ∀ u, zval σ9 1 (120 * n) u = σ9.1 (zloc u).1 (zloc u).2 := fun u => by unfold zval; rw [if_neg (by decide)]
    refine ⟨vp_in_nI (by omega) (by omega), hk _ _ ?_⟩
    rw [nI_clamp (by omega)]
    have h10 : ∀ x y, ¬ (x = 85 ∧ 120 * n ≤ y ∧ y < 120 * n + 92) → ¬ (x = 69 ∧ y = 38) → ¬ (x = 69 ∧ y = 39) → σ10.1 x y = σ8.1 x y := by
      intro x y v1 v2 v3
      have q : σ10.1 x y = σ9.1 x y := by
        by_cases hz : ∃ u, u < 92 ∧ x = (zloc u).1 ∧ y = (zloc u).2
        · obtain ⟨u, hu, rfl, rfl⟩ := hz
          exact (w1 u hu).1.trans (hv u)
        · exact w2 x y (fun u hu q => hz ⟨u, hu, q⟩) v1 v2
      rw [q, h9, if_neg v3, if_neg v2]
    have k10 : ∀ u, u < 92 → σ10.1 85 (120 * n + u) = σ.1 (zloc u).1 (zloc u).2 := by
      intro u hu
      have rg := zloc_rng u hu
      rw [(w1 u hu).2, hv u, h9, if_neg (fun q => by have := rg.2.2 q.1; omega), if_neg (fun q => by have := rg.2.2 q.1; omega), e8, if_neg (by omega), f7 _ _ (by omega)]
    have h11 : ∀ x y, (wI σ10 86 n 1).1 x y = if x = 86 ∧ y = n then 1 else σ10.1 x y := fun x y => wI_at _ _ _ _ _ _
    generalize wI σ10 86 n 1 = σ11 at h11 ⊢
    have keep : ∀ x y, ¬ (x = 85 ∧ 120 * n ≤ y ∧ y < 120 * n + 92) → ¬ (x = 69 ∧ y = 38) → ¬ (x = 69 ∧ y = 39) → ¬ (x = 86 ∧ y = n) → ¬ (x = 0 ∧ y = 3) → (x ≤ 18 + 17 * n ∨ 18 + 17 * n + 16 < x) → σ11.1 x y = σ.1 x y := by
      intro x y v1 v2 v3 v4 v5 v6
      rw [h11, if_neg v4, h10 x y v1 v2 v3, e8, if_neg v5, f7 x y v6]
    have n3 : σ11.1 0 3 = σ.1 0 3 ||| (1 : Int32) <<< (nI n &&& 31) := by rw [h11, if_neg (by omega), h10 _ _ (by omega) (by omega) (by omega), e8, if_pos ⟨rfl, rfl⟩]
    refine ⟨IB_fr (fun a k x => keep a k (by omega) (by omega) (by omega) (by omega) (by omega) (by omega)) h.1, IP_fr (fun a k x => keep a k (by omega) (by omega) (by omega) (by omega) (by omega) (by omega)) h.2.1, ?_⟩
    obtain ⟨⟨b1, b2⟩, b3⟩ := h.2.2
    obtain ⟨x, hx, ex, -⟩ := zN (h := 3) b1 (by omega)
    have zb := zbit3 x (by omega) n hn2
    rw [ex] at n3
    refine ⟨by rw [n3]; exact ⟨zb.1, zb.2.1⟩, fun m hm => ?_⟩
    by_cases e : m = n
    · subst e
      rw [n3, zb.2.2.1]
      refine ⟨by rw [h11, if_pos ⟨rfl, rfl⟩], fun _ => ?_⟩
      have cc : ∀ r k, k < zLen r → cV σ11 (18 + 17 * m) r k = cV σ 1 r k := by
        intro r k hk
        rw [← c7 r k hk]
        exact cV_fr (fun a j x y => by rw [h11, if_neg (by omega), h10 _ _ (by omega) (by omega) (by omega), e8, if_neg (by omega)]) r k
      refine ⟨fun r k hk => ?_, OKV_fr cc h.1.2⟩
      rw [cc r k hk, h.1.1 r k hk]
      refine (kV_mV (fun u hu => ?_) hk).symm
      rw [h11, if_neg (by omega)]
      exact k10 u hu
    · rw [n3, zb.2.2.2 m hm e, ← ex, keep 86 m (by omega) (by omega) (by omega) (by omega) (by omega) (by omega)]
      refine ⟨(b3 m hm).1, fun hz => ?_⟩
      obtain ⟨g1, g2⟩ := (b3 m hm).2 hz
      have cc : ∀ r k, cV σ11 (18 + 17 * m) r k = cV σ (18 + 17 * m) r k := cV_fr (fun a j x y => keep a j (by omega) (by omega) (by omega) (by omega) (by omega) (by omega))
      refine ⟨fun r k hk => ?_, OKV_fr (fun r k _ => cc r k) g2⟩
      rw [cc, g1 r k hk]
      exact (kV_fr2 (fun u hu => keep 85 _ (by omega) (by omega) (by omega) (by omega) (by omega) (by omega)) hk).symm
  · unfold wp_X9_image
    refine t_in (a := 0) (b := 1) rfl rfl (fun _ _ => by omega) (fun _ => hk _ _ h)
theorem s_restore (h : Inv σ) {K : Int32 → Int32 → zST → Prop} (hk : ∀ r σ', Inv σ' → K r r σ') : wp_X8_restore a1 σ (fun r σ1 => wp_X9_restore a1 σ1 (fun r' σ2 => K r r' σ2)) := by
  unfold wp_X8_restore
  refine t_within (a := 0) (b := 1) rfl rfl (fun h0 h1 => ?_) (fun hx => ?_)
  · obtain ⟨n, hn, rfl, -⟩ := zN (h := 1) h0 (by omega)
    have hn2 : n < 2 := by omega
    have hb := (h.2.2.2 n hn2).1
    by_cases hz : σ.1 86 n = 0
    · rw [if_pos (by rw [← hb]; exact hz)]
      unfold wp_X9_restore
      refine t_in (a := 0) (b := 1) rfl rfl (fun _ _ => ?_) (fun hx => by omega)
      refine ⟨vp_in_nI (by omega) (by omega), ?_⟩
      rw [nI_clamp (by omega), if_pos hz]
      exact hk _ _ h
    · rw [if_neg (by rw [← hb]; exact hz)]
      obtain ⟨g1, g2⟩ := (h.2.2.2 n hn2).2 hz
      refine i_imageBooks hn2 ⟨zbk hn2, ?_⟩
      refine i_become0 (by omega) (fun σ8 f8 c8 => ?_)
      unfold wp_X9_restore
      refine t_in (a := 0) (b := 1) rfl rfl (fun _ _ => ?_) (fun hx => by omega)
      refine ⟨vp_in_nI (by omega) (by omega), ?_⟩
      rw [nI_clamp (by omega), f8 86 n (by omega), if_neg hz]
      intro σ9 e9
      have h9 : ∀ a j, σ9.1 a j = if a = 69 ∧ j = 39 then 0 else if a = 69 ∧ j = 38 then (120 : Int32) * nI n else σ8.1 a j := fun a j => by rw [e9, wI_at, wI_at]
      refine i_passAll (zPa_start (σ := σ9) (m := 0) hn2 (by rw [h9, if_pos ⟨rfl, rfl⟩]) (by rw [h9, if_neg (by omega), if_pos ⟨rfl, rfl⟩])) (by omega) (fun σ10 w => hk _ _ ?_)
      obtain ⟨w1, w2, -, -⟩ := w
      have hv : ∀ u, zval σ9 0 (120 * n) u = σ.1 85 (120 * n + u) := fun u => by unfold zval; rw [if_pos rfl, h9, if_neg (by omega), if_neg (by omega), f8 _ _ (by omega)]
      have keep : ∀ x y, ¬ (69 ≤ x ∧ x ≤ 79 ∧ (x = 69 → y ≤ 25)) → ¬ (x = 69 ∧ y = 38) → ¬ (x = 69 ∧ y = 39) → σ10.1 x y = σ8.1 x y := by
        intro x y v1 v2 v3
        by_cases hy : x = 85 ∧ 120 * n ≤ y ∧ y < 120 * n + 92
        · obtain ⟨rfl, y1, y2⟩ := hy
          have := (w1 (y - 120 * n) (by omega)).2
          rw [show 120 * n + (y - 120 * n) = y by omega, hv, show 120 * n + (y - 120 * n) = y by omega] at this
          rw [this, f8 85 y (by omega)]
        · rw [w2 x y (fun u hu q => v1 (by have := zloc_rng u hu; rw [← q.1, ← q.2] at this; exact this)) hy v2, h9, if_neg v3, if_neg v2]
      refine ⟨?_, IP_fr (fun a k x => by rw [keep a k (by omega) (by omega) (by omega), f8 a k (by omega)]) h.2.1, II_fr (fun a k x => by rw [keep a k (by omega) (by omega) (by omega), f8 a k (by omega)]) h.2.2⟩
      have cc : ∀ r k, k < zLen r → cV σ10 1 r k = cV σ (18 + 17 * n) r k := by
        intro r k hk
        rw [← c8 r k hk]
        exact cV_fr (fun a j x y => keep a j (by omega) (by omega) (by omega)) r k
      refine ⟨fun r k hk => ?_, OKV_fr cc g2⟩
      rw [cc r k hk, g1 r k hk, ← kV_mV (n := n) (σ' := σ10) (fun u hu => (w1 u hu).2.trans (w1 u hu).1.symm) hk]
      exact (kV_fr2 (fun u hu => (w1 u hu).2.trans (hv u)) hk).symm
  · unfold wp_X9_restore
    refine t_in (a := 0) (b := 1) rfl rfl (fun _ _ => by omega) (fun _ => hk _ _ h)
end S
end
section
/-! insured, lot, often, twice, burnt: they answer -/
section S
variable {σ : zST} {P : Int32 → Prop} {PL : Int64 → Prop} {a1 a2 a3 a4 a5 : Int32} {a : Nat} {v : Int32}
theorem e_worthL (h : ∀ r, P r) : ∀ n i, n + i = 4 → ∀ w, wp_X3_worthTaking_L4 a v σ P (n + 1) w (nI i) := by
  intro n
  induction n with
  | zero =>
    intro i hi w
    unfold wp_X3_worthTaking_L4
    rw [if_pos (by rw [show i = 4 by omega]; decide)]
    exact h _
  | succ n ih =>
    intro i hi w
    unfold wp_X3_worthTaking_L4
    rw [if_neg (by rw [Int32.le_iff_toInt_le, nI_toInt (by omega)]; show ¬ (4 : Int) ≤ i; omega)]
    have hv : vp_in (nI i) 4 := vp_in_nI (by omega) (by omega)
    split
    · refine ⟨hv, hv, ?_⟩
      rw [nI_1]
      split
      · exact ih (i + 1) (by omega) _
      · intro x _
        exact ih (i + 1) (by omega) _
    · rw [nI_1]
      exact ih (i + 1) (by omega) _
theorem e_worth (h : ∀ r, P r) : wp_X3_worthTaking a v σ P := ⟨5, e_worthL h 4 0 rfl _⟩
theorem e_sumL (h : ∀ r, P r) : ∀ n i, n + i = 4 → ∀ w, wp_X3_sumOver_L4 a v σ P (n + 1) w (nI i) := by
  intro n
  induction n with
  | zero =>
    intro i hi w
    unfold wp_X3_sumOver_L4
    rw [if_pos (by rw [show i = 4 by omega]; decide)]
    exact h _
  | succ n ih =>
    intro i hi w
    unfold wp_X3_sumOver_L4
    rw [if_neg (by rw [Int32.le_iff_toInt_le, nI_toInt (by omega)]; show ¬ (4 : Int) ≤ i; omega)]
    have hv : vp_in (nI i) 4 := vp_in_nI (by omega) (by omega)
    split
    · exact h _
    · split
      · refine ⟨hv, ?_⟩
        intro x _
        rw [nI_1]
        exact ih (i + 1) (by omega) _
      · rw [nI_1]
        exact ih (i + 1) (by omega) _
theorem e_sum (h : ∀ r, P r) : wp_X3_sumOver a v σ P := ⟨5, e_sumL h 4 0 rfl _⟩

theorem e_gotL (h : ∀ r, P r) : ∀ n i, n + i = 4 → ∀ w, wp_X9_got_L4 v σ P (n + 1) w (nI i) := by
  intro n
  induction n with
  | zero =>
    intro i hi w
    unfold wp_X9_got_L4
    rw [if_pos (by rw [show i = 4 by omega]; decide)]
    exact h _
  | succ n ih =>
    intro i hi w
    unfold wp_X9_got_L4
    rw [if_neg (by rw [Int32.le_iff_toInt_le, nI_toInt (by omega)]; show ¬ (4 : Int) ≤ i; omega)]
    have hv : vp_in (nI i) 4 := vp_in_nI (by omega) (by omega)
    refine ⟨by split; exact ⟨hv, trivial⟩; trivial, ?_⟩
    intro z _ x _
    rw [nI_1]
    exact ih (i + 1) (by omega) _
theorem e_got (h : ∀ r, P r) : wp_X9_got v σ P := ⟨5, e_gotL h 4 0 rfl _⟩

theorem e_premiumsL (h : ∀ r, P r) : ∀ n i, n + i = 4 → ∀ w, wp_X9_premiums_L4 v σ P (n + 1) w (nI i) := by
  intro n
  induction n with
  | zero =>
    intro i hi w
    unfold wp_X9_premiums_L4
    rw [if_pos (by rw [show i = 4 by omega]; decide)]
    exact h _
  | succ n ih =>
    intro i hi w
    unfold wp_X9_premiums_L4
    rw [if_neg (by rw [Int32.le_iff_toInt_le, nI_toInt (by omega)]; show ¬ (4 : Int) ≤ i; omega)]
    have hv : vp_in (nI i) 4 := vp_in_nI (by omega) (by omega)
    refine ⟨by split; exact ⟨hv, trivial⟩; trivial, ?_⟩
    intro z _ x _
    rw [nI_1]
    exact ih (i + 1) (by omega) _
theorem e_premiums (h : ∀ r, P r) : wp_X9_premiums v σ P := ⟨5, e_premiumsL h 4 0 rfl _⟩

theorem e_insL {K : Int32 → Int32 → Prop} {v3 v4 : Int32} (hI : IB σ) (h0 : 0 ≤ a1.toInt) (h1 : a1.toInt ≤ 5) (h : ∀ r s, K r s) : ∀ n i, n + i = 16 → ∀ x y, wp_X9_insured_L49 a1 v3 v4 σ K (n + 1) x y (nI i) := by
  intro n
  induction n with
  | zero =>
    intro i hi x y
    unfold wp_X9_insured_L49
    rw [if_pos (by rw [show i = 16 by omega]; decide)]
    exact h _ _
  | succ n ih =>
    intro i hi x y
    unfold wp_X9_insured_L49
    rw [if_neg (by rw [Int32.le_iff_toInt_le, nI_toInt (by omega)]; show ¬ (16 : Int) ≤ i; omega)]
    refine i_allOf hI h0 h1 ?_
    refine e_got (fun r => ?_)
    refine e_premiums (fun s => ?_)
    intro _ _ _ _ _ _ _ _
    rw [nI_1]
    exact ih (i + 1) (by omega) _ _
theorem e_J216 {s : Int32} (h : ∀ r, P r) : wp_X9_insured_J216 s σ P := by
  intro z _
  exact h z
theorem e_J192 {x s : Int32} (h : ∀ r, P r) : wp_X9_insured_J192 x s σ P := by
  unfold wp_X9_insured_J192
  refine e_premiums (fun r => ?_)
  split
  · exact e_J216 h
  · exact e_premiums (fun _ => e_J216 h)
theorem e_insured (h : Inv σ) {K : Int32 → Int32 → Prop} (hk : ∀ r r', K r r') : wp_X8_insured a1 a2 a3 σ (fun r => wp_X9_insured a1 a2 a3 σ (fun r' => K r r')) := by
  have fin : ∀ r, wp_X9_insured a1 a2 a3 σ (fun r' => K r r') := by
    intro r
    unfold wp_X9_insured
    refine t_isShip (b_ships h.1).1.symm (fun h0 h1 hs => ?_) (fun _ => hk _ _)
    refine t_isHour (fun g0 g1 => ?_) (fun _ => hk _ _)
    refine t_in (a := 0) (b := 2) rfl rfl (fun _ _ => ?_) (fun _ => hk _ _)
    refine i_tenths h.1 g0 ?_
    refine ⟨17, e_insL h.1 h0 h1 (fun x y => ?_) 16 0 rfl _ _⟩
    split
    · split
      · exact e_J192 (fun _ => hk _ _)
      · refine i_allOf h.1 h0 h1 ?_
        refine e_got (fun _ => ?_)
        refine e_premiums (fun _ => ?_)
        exact e_J192 (fun _ => hk _ _)
    · intro z _
      exact hk _ _
  unfold wp_X8_insured
  refine t_has rfl (fun h0 h1 hs => ?_) (fun _ => fin _)
  refine t_isHour8 (fun g0 g1 => ?_) (fun _ => fin _)
  refine t_within (a := 0) (b := 2) rfl rfl (fun _ _ => ?_) (fun _ => fin _)
  have hd := b_digits h.1
  refine i_digitAt g0 hd.2.1 hd.2.2 ?_
  refine e_worth (fun r => ?_)
  split
  · exact fin _
  · refine e_sum (fun _ => ?_)
    refine e_sum (fun _ => ?_)
    refine i_whole (zv h0 (by omega)) ?_
    split
    · exact fin _
    · intro z _
      exact fin _
theorem zmodL {p d : Int64} (hd : d ≠ 0) : (p - p / d * d).toInt = p.toInt.tmod d.toInt := by
  by_cases hs : p = Int64.minValue ∧ d = -1
  · obtain ⟨rfl, rfl⟩ := hs
    decide
  · have hq : (p / d).toInt = p.toInt.tdiv d.toInt := by
      by_cases h1 : p = Int64.minValue
      · exact Int64.toInt_div_of_ne_right p d (fun q => hs ⟨h1, q⟩)
      · exact Int64.toInt_div_of_ne_left p d h1
    have e : p.toInt - p.toInt.tdiv d.toInt * d.toInt = p.toInt.tmod d.toInt := by
      have := Int.tdiv_mul_add_tmod p.toInt d.toInt
      omega
    have rg := fb_rngL (p % d)
    rw [Int64.toInt_mod] at rg
    rw [Int64.toInt_sub, Int64.toInt_mul, hq, Int.sub_bmod_bmod, e]
    exact fb_bmodL rg.1 rg.2
theorem zmodL_lt {p d : Int64} (hd : d ≠ 0) : (p - p / d * d).toInt.natAbs < d.toInt.natAbs := by
  rw [zmodL hd, Int.natAbs_tmod]
  have : d.toInt ≠ 0 := fun q => hd (Int64.toInt_inj.mp q)
  exact Nat.mod_lt _ (by omega)
theorem zcmp0 {x : Int64} : lg_cmp x 0 = 0 ↔ x = 0 := by
  unfold lg_cmp
  constructor
  · intro h
    split at h
    · exact absurd h (by decide)
    · split at h
      · assumption
      · exact absurd h (by decide)
  · rintro rfl
    decide
theorem e_lowJ {x y u : Int64} {m : Int32} (hu : u ≠ 0) (h : ∀ r, PL r) : wp_X9_lowest_J31 x y m u σ PL := by
  unfold wp_X9_lowest_J31
  refine ⟨by split <;> exact ⟨hu, trivial⟩, ?_⟩
  intro z _
  exact h z
theorem e_lowL {x y : Int64} {m : Int32} (h : ∀ r, PL r) : ∀ (n : Nat) (u t : Int64), t.toInt.natAbs < n → (t = 0 → u ≠ 0) → wp_X9_lowest_L6 x y m σ PL n u t := by
  intro n
  induction n with
  | zero => intro u t ht; omega
  | succ n ih =>
    intro u t ht hu
    unfold wp_X9_lowest_L6
    by_cases e : t = 0
    · rw [if_pos (zcmp0.mpr e)]
      exact e_lowJ (hu e) h
    · rw [if_neg (fun q => e (zcmp0.mp q))]
      refine ⟨e, ?_⟩
      rintro _ rfl
      have := zmodL_lt (p := u) e
      exact ih _ _ (by omega) (fun _ => e)
theorem e_low {x y : Int64} {m : Int32} (hy : y ≠ 0) (h : ∀ r, PL r) : wp_X9_lowest x y m σ PL := ⟨_, e_lowL h _ y x (Nat.lt_succ_self _) (fun _ => hy)⟩
theorem e_divL (h : ∀ r, PL r) : ∀ n i, n + i = 128 → ∀ u t, wp_X8_commonDivisor_L9 σ PL (n + 1) u t (nI i) := by
  intro n
  induction n with
  | zero =>
    intro i hi u t
    unfold wp_X8_commonDivisor_L9
    rw [if_pos (by rw [show i = 128 by omega]; decide)]
    exact h _
  | succ n ih =>
    intro i hi u t
    unfold wp_X8_commonDivisor_L9
    rw [if_neg (by rw [Int32.le_iff_toInt_le, nI_toInt (by omega)]; show ¬ (128 : Int) ≤ i; omega)]
    by_cases e : t = 0
    · rw [if_pos (zcmp0.mpr e)]
      exact h _
    · rw [if_neg (fun q => e (zcmp0.mp q)), nI_1]
      refine ⟨e, ?_⟩
      intro x _
      exact ih (i + 1) (by omega) _ _
theorem e_part {x y : Int64} {m : Int32} (h : ∀ r, PL r) : wp_X8_partOf x y m σ PL := by
  unfold wp_X8_partOf
  refine ⟨129, e_divL (fun r => ?_) 128 0 rfl _ _⟩
  by_cases e : r = 0
  · subst e
    rw [if_neg (by decide)]
    exact h _
  · split
    · intro z _
      exact ⟨e, h _⟩
    · exact h _
theorem e_drawnL {v2 : Int32} (h : ∀ r, P r) : ∀ n i, n + i = 8 → ∀ w, wp_X1_countDrawn_L5 a v v2 σ P (n + 1) w (nI i) := by
  intro n
  induction n with
  | zero =>
    intro i hi w
    unfold wp_X1_countDrawn_L5
    rw [if_pos (by rw [show i = 8 by omega]; decide)]
    exact h _
  | succ n ih =>
    intro i hi w
    unfold wp_X1_countDrawn_L5
    rw [if_neg (by rw [Int32.le_iff_toInt_le, nI_toInt (by omega)]; show ¬ (8 : Int) ≤ i; omega)]
    rw [nI_1]
    refine t_has8 rfl (fun _ _ _ => ?_) (fun _ => ih (i + 1) (by omega) _)
    refine ⟨vp_in_nI (by omega) (by omega), ?_⟩
    exact t_within rfl rfl (fun _ _ => ih (i + 1) (by omega) _) (fun _ => ih (i + 1) (by omega) _)
theorem e_drawn {v2 : Int32} (h : ∀ r, P r) : wp_X1_countDrawn a v v2 σ P := ⟨9, e_drawnL h 8 0 rfl _⟩
theorem e_lotL {K : Int32 → Int32 → Prop} {b v1 v3 : Int32} (hb0 : 0 ≤ b.toInt) (hb1 : b.toInt ≤ 7) (hs : zH (σ.1 69 21) b) (h : ∀ r s, 1 ≤ s.toInt → K r s) : ∀ (n i : Nat), n + i = 8 → ∀ x y, 0 ≤ y.toInt → y.toInt ≤ (i : Int) → (b.toInt < (i : Int) → 1 ≤ y.toInt) → wp_X9_lot_L52 v1 b v3 σ K (n + 1) x y (nI i) := by
  intro n
  induction n with
  | zero =>
    intro i hi x y _ _ h2
    unfold wp_X9_lot_L52
    rw [if_pos (by rw [show i = 8 by omega]; decide)]
    exact h _ _ (h2 (by omega))
  | succ n ih =>
    intro i hi x y y0 y1 y2
    unfold wp_X9_lot_L52
    rw [if_neg (by rw [Int32.le_iff_toInt_le, nI_toInt (by omega)]; show ¬ (8 : Int) ≤ i; omega)]
    rw [nI_1]
    have hv : vp_in (nI i) 8 := vp_in_nI (by omega) (by omega)
    have hw : vp_in b 8 := zv hb0 (by omega)
    have go : ∀ z, z = (0 : Int32) ∨ z = 1 → (b.toInt = (i : Int) → z = 1) → ∀ x', wp_X9_lot_L52 v1 b v3 σ K (n + 1) x' (y + z) (nI (i + 1)) := by
      intro z hz hzb x'
      rcases hz with rfl | rfl
      · have e : (y + 0).toInt = y.toInt := by rw [fb_addI (by show _ ≤ y.toInt + 0; omega) (by show y.toInt + 0 < _; omega)]; show y.toInt + 0 = _; omega
        refine ih (i + 1) (by omega) _ _ (by omega) (by omega) (fun q => ?_)
        rcases Int.lt_or_lt_of_ne (a := b.toInt) (b := (i : Int)) (fun q => absurd (hzb q) (by decide)) with q1 | q1
        · have := y2 q1
          omega
        · omega
      · have e : (y + 1).toInt = y.toInt + 1 := by rw [fb_addI (by show _ ≤ y.toInt + 1; omega) (by show y.toInt + 1 < _; omega)]; rfl
        exact ih (i + 1) (by omega) _ _ (by omega) (by omega) (fun _ => by omega)
    have two : ∀ x', wp_X9_isAboard (nI i) σ (fun r23 => (if r23 = (0) then True else vp_in (nI i) 8 ∧ vp_in b 8 ∧ True) ∧ ∀ z26 : Int32, z26 = (if r23 = (0) then (0 : Int32) else (if (σ.1 77 (nI i).toNatClampNeg) = (σ.1 77 b.toNatClampNeg) then (1 : Int32) else (0 : Int32))) → ∀ x32 : Int32, x32 = (y + z26) → wp_X9_lot_L52 v1 b v3 σ K (n + 1) x' x32 (nI (i + 1))) := by
      intro x'
      refine i_isAboard rfl (fun _ _ _ => ⟨by rw [if_neg (by decide)]; exact ⟨hv, hw, trivial⟩, ?_⟩) (fun hn => ⟨by rw [if_pos rfl]; trivial, ?_⟩)
      · rw [if_neg (by decide)]
        rintro z rfl _ rfl
        refine go _ (by split; exact Or.inr rfl; exact Or.inl rfl) (fun q => ?_) _
        have : b = nI i := Int32.toInt_inj.mp (by rw [q, nI_toInt (by omega)])
        rw [this, if_pos rfl]
      · rw [if_pos rfl]
        rintro z rfl _ rfl
        refine go _ (Or.inl rfl) (fun q => absurd ?_ hn) _
        have : b = nI i := Int32.toInt_inj.mp (by rw [q, nI_toInt (by omega)])
        rw [← this]
        exact ⟨hb0, hb1, hs⟩
    refine i_isAboard rfl (fun _ _ _ => ⟨by rw [if_neg (by decide)]; exact ⟨hv, hw, trivial⟩, ?_⟩) (fun hn => ⟨by rw [if_pos rfl]; trivial, ?_⟩)
    · intro z _ x' _
      exact two x'
    · intro z _ x' _
      exact two x'
theorem e_lot (h : Inv σ) {K : Int64 → Int64 → Prop} (hk : ∀ r r', K r r') : wp_X8_lot a1 a2 a3 σ (fun r => wp_X9_lot a1 a2 a3 σ (fun r' => K r r')) := by
  have hn := b_names h.1
  have fin : ∀ r, wp_X9_lot a1 a2 a3 σ (fun r' => K r r') := by
    intro r
    unfold wp_X9_lot
    refine t_isAboard rfl (fun h0 h1 hs => ?_) (fun _ => hk _ _)
    refine i_ones (by rw [← hn.1]; exact hn.2.1) (by rw [← hn.1]; exact hn.2.2) ?_
    refine t_in (b := (zpc (σ.1 69 21)).toInt) rfl (Int32.toInt_toInt64 _) (fun _ _ => ?_) (fun _ => hk _ _)
    refine t_in (a := 0) (b := 1) rfl rfl (fun _ _ => ?_) (fun _ => hk _ _)
    refine ⟨9, e_lotL h0 h1 hs (fun x y hy => ?_) 8 0 rfl _ _ (by decide) (by decide) (fun q => by omega)⟩
    intro _ _ z _
    refine e_low (fun q => ?_) (fun _ => hk _ _)
    have := congrArg Int64.toInt q
    rw [Int32.toInt_toInt64] at this
    rw [this] at hy
    exact absurd hy (by decide)
  unfold wp_X8_lot
  refine t_has8 rfl (fun h0 h1 hs => ?_) (fun _ => fin _)
  refine i_bitCount ?_
  refine t_within rfl rfl (fun _ _ => ?_) (fun _ => fin _)
  refine t_within (a := 0) (b := 1) rfl rfl (fun _ _ => ?_) (fun _ => fin _)
  have hw : vp_in a2 8 := zv h0 (by omega)
  refine ⟨hw, hw, ?_⟩
  refine e_drawn (fun _ => ?_)
  refine ⟨hw, ?_⟩
  refine e_drawn (fun _ => ?_)
  intro _ _
  exact e_part (fun _ => fin _)

theorem e_pow8L {v0 v1 : Int32} {m : Nat} (hm : v1 = nI m) (hb : m ≤ 8) (h : ∀ r, PL r) : ∀ n i, n + i = 9 → ∀ w, wp_X8_power_L5 v0 v1 σ PL (n + 1) w (nI i) := by
  subst hm
  intro n
  induction n with
  | zero =>
    intro i hi w
    unfold wp_X8_power_L5
    rw [if_pos (nI_le (by omega) (by omega))]
    exact h _
  | succ n ih =>
    intro i hi w
    unfold wp_X8_power_L5
    rw [nI_1]
    split
    · exact h _
    · intro x _
      exact ih (i + 1) (by omega) _
theorem e_pow8 {v0 v1 : Int32} (h1 : v1.toInt ≤ 8) (h : ∀ r, PL r) : wp_X8_power v0 v1 σ PL := by
  by_cases h0 : 0 ≤ v1.toInt
  · obtain ⟨m, hm, e, -⟩ := zN (h := 8) h0 h1
    exact ⟨10, e_pow8L e hm h 9 0 rfl _⟩
  · refine ⟨1, ?_⟩
    unfold wp_X8_power_L5
    rw [if_pos (by rw [Int32.le_iff_toInt_le]; show v1.toInt ≤ 0; omega)]
    exact h _

theorem e_pow9L {v0 v1 : Int32} {m : Nat} (hm : v1 = nI m) (hb : m ≤ 8) (h : ∀ r, PL r) : ∀ n i, n + i = 9 → ∀ w, wp_X9_power_L5 v0 v1 σ PL (n + 1) w (nI i) := by
  subst hm
  intro n
  induction n with
  | zero =>
    intro i hi w
    unfold wp_X9_power_L5
    rw [if_pos (nI_le (by omega) (by omega))]
    exact h _
  | succ n ih =>
    intro i hi w
    unfold wp_X9_power_L5
    rw [nI_1]
    split
    · exact h _
    · intro x _
      exact ih (i + 1) (by omega) _
theorem e_pow9 {v0 v1 : Int32} (h1 : v1.toInt ≤ 8) (h : ∀ r, PL r) : wp_X9_power v0 v1 σ PL := by
  by_cases h0 : 0 ≤ v1.toInt
  · obtain ⟨m, hm, e, -⟩ := zN (h := 8) h0 h1
    exact ⟨10, e_pow9L e hm h 9 0 rfl _⟩
  · refine ⟨1, ?_⟩
    unfold wp_X9_power_L5
    rw [if_pos (by rw [Int32.le_iff_toInt_le]; show v1.toInt ≤ 0; omega)]
    exact h _

theorem e_pow9pL {v0 v1 : Int32} {m b : Nat} (hm : v1 = nI m) (hb : m ≤ 8) (h0 : v0.toInt = b) (hb1 : 1 ≤ b) (hb2 : b ≤ 8) (h : ∀ r : Int64, 1 ≤ r.toInt → PL r) : ∀ n i, n + i = 9 → ∀ w : Int64, 1 ≤ w.toInt → w.toInt ≤ 8 ^ i → wp_X9_power_L5 v0 v1 σ PL (n + 1) w (nI i) := by
  subst hm
  intro n
  induction n with
  | zero =>
    intro i hi w w1 w2
    unfold wp_X9_power_L5
    rw [if_pos (nI_le (by omega) (by omega))]
    exact h _ w1
  | succ n ih =>
    intro i hi w w1 w2
    unfold wp_X9_power_L5
    rw [nI_1]
    split
    · exact h _ w1
    · rintro _ rfl
      have p8 : (8 : Int) ^ i ≤ 8 ^ 8 := by
        have : ∀ i, i < 9 → (8 : Int) ^ i ≤ 8 ^ 8 := by decide
        exact this i (by omega)
      have e1 : w.toInt * 1 ≤ w.toInt * v0.toInt := Int.mul_le_mul_of_nonneg_left (by omega) (by omega)
      have e2 : w.toInt * v0.toInt ≤ 8 ^ i * 8 := Int.mul_le_mul w2 (by omega) (by omega) (by omega)
      have e3 : (8 : Int) ^ 8 = 16777216 := by decide
      have e : (w * v0.toInt64).toInt = w.toInt * v0.toInt := by
        rw [fb_mulL (by rw [Int32.toInt_toInt64]; omega) (by rw [Int32.toInt_toInt64]; omega), Int32.toInt_toInt64]
      refine ih (i + 1) (by omega) _ (by omega) ?_
      rw [e, Int.pow_succ]
      exact e2
theorem e_pow9p {v0 v1 : Int32} (h0 : 1 ≤ v0.toInt) (h1 : v0.toInt ≤ 8) (h2 : 0 ≤ v1.toInt) (h3 : v1.toInt ≤ 8) (h : ∀ r : Int64, 1 ≤ r.toInt → PL r) : wp_X9_power v0 v1 σ PL := by
  obtain ⟨m, hm, e, -⟩ := zN (h := 8) h2 h3
  obtain ⟨b, hb, e', eb⟩ := zN (x := v0) (h := 8) (by omega) h1
  exact ⟨10, e_pow9pL e hm eb (by omega) hb h 9 0 rfl _ (by decide) (by decide)⟩

theorem e_waysL {v0 v1 : Int32} {m : Nat} (hm : v1 = nI m) (hb : m ≤ 8) (h : ∀ r, PL r) : ∀ n i, n + i = 9 → 1 ≤ i → ∀ w, wp_X8_ways_L16 v0 v1 σ PL (n + 1) w (nI i) := by
  subst hm
  intro n
  induction n with
  | zero =>
    intro i hi _ w
    unfold wp_X8_ways_L16
    rw [if_pos (nI_lt (by omega) (by omega))]
    exact h _
  | succ n ih =>
    intro i hi h1 w
    unfold wp_X8_ways_L16
    rw [nI_1]
    split
    · exact h _
    · refine ⟨fun q => ?_, ?_⟩
      · have := congrArg Int64.toInt q
        rw [Int32.toInt_toInt64, nI_toInt (by omega)] at this
        have : (i : Int) = 0 := this
        omega
      · intro x _
        exact ih (i + 1) (by omega) (by omega) _

theorem e_chooseL {v0 v1 : Int32} {m : Nat} (hm : v1 = nI m) (hb : m ≤ 8) (h : ∀ r, PL r) : ∀ n i, n + i = 9 → 1 ≤ i → ∀ w, wp_X9_choose_L5 v0 v1 σ PL (n + 1) w (nI i) := by
  subst hm
  intro n
  induction n with
  | zero =>
    intro i hi _ w
    unfold wp_X9_choose_L5
    rw [if_pos (nI_lt (by omega) (by omega))]
    exact h _
  | succ n ih =>
    intro i hi h1 w
    unfold wp_X9_choose_L5
    rw [nI_1]
    split
    · exact h _
    · refine ⟨fun q => ?_, ?_⟩
      · have := congrArg Int64.toInt q
        rw [Int32.toInt_toInt64, nI_toInt (by omega)] at this
        have : (i : Int) = 0 := this
        omega
      · intro x _
        exact ih (i + 1) (by omega) (by omega) _

theorem e_choose {v0 v1 : Int32} (h1 : v1.toInt ≤ 8) (h : ∀ r, PL r) : wp_X9_choose v0 v1 σ PL := by
  by_cases h0 : 0 ≤ v1.toInt
  · obtain ⟨m, hm, e, -⟩ := zN (h := 8) h0 h1
    exact ⟨9, e_chooseL e hm h 8 1 rfl (by omega) _⟩
  · refine ⟨1, ?_⟩
    unfold wp_X9_choose_L5
    rw [if_pos (by rw [Int32.lt_iff_toInt_lt]; show v1.toInt < 1; omega)]
    exact h _
theorem e_ways {v0 v1 : Int32} (h1 : v1.toInt ≤ 8) (h : ∀ r, PL r) : wp_X8_ways v0 v1 σ PL := by
  unfold wp_X8_ways
  split
  · exact h _
  · rename_i q
    rw [Int32.lt_iff_toInt_lt] at q
    have q : ¬ v1.toInt < 0 := q
    split
    · obtain ⟨m, hm, e, -⟩ := zN (h := 8) (x := v1) (by omega) h1
      exact ⟨9, e_waysL e hm h 8 1 rfl (by omega) _⟩
    · exact h _
theorem e_oft8L {v1 v2 v3 v5 : Int32} {m : Nat} (hm : v3 = nI m) (hb : m ≤ 8) (h : ∀ r, PL r) : ∀ n i, n + i = 9 → ∀ w, wp_X8_often_L61 v1 v2 v3 v5 σ PL (n + 1) w (nI i) := by
  subst hm
  have v8 : (nI m).toInt ≤ 8 := by rw [nI_toInt (by omega)]; omega
  intro n
  induction n with
  | zero =>
    intro i hi w
    unfold wp_X8_often_L61
    rw [if_pos (nI_lt (by omega) (by omega))]
    exact e_pow8 v8 (fun _ => e_part h)
  | succ n ih =>
    intro i hi w
    unfold wp_X8_often_L61
    rw [nI_1]
    have i8 : (nI i).toInt ≤ 8 := by rw [nI_toInt (by omega)]; omega
    split
    · exact e_pow8 v8 (fun _ => e_part h)
    · refine e_ways i8 (fun _ => ?_)
      refine e_pow8 i8 (fun _ => ?_)
      refine e_pow8 ?_ (fun _ => ?_)
      · have e1 := nI_toInt (n := m) (by omega)
        have e2 := nI_toInt (n := i) (by omega)
        rw [fb_subI (by omega) (by omega)]
        omega
      · intro x _
        exact ih (i + 1) (by omega) _
theorem e_oft9L {v1 v2 v3 v5 : Int32} {m : Nat} (hm : v3 = nI m) (hb : m ≤ 8) (h1 : 1 ≤ v1.toInt) (h2 : v1.toInt ≤ 8) (h : ∀ r, PL r) : ∀ n i, n + i = 9 → ∀ w, wp_X9_often_L70 v1 v2 v3 v5 σ PL (n + 1) w (nI i) := by
  subst hm
  have v8 : (nI m).toInt ≤ 8 := by rw [nI_toInt (by omega)]; omega
  have fin : ∀ w, wp_X9_often_J111 v1 (nI m) v5 w σ PL := by
    intro w
    refine e_pow9p h1 h2 (by rw [nI_toInt (by omega)]; omega) v8 (fun r hr => ?_)
    exact e_low (fun q => by rw [q] at hr; exact absurd hr (by decide)) h
  intro n
  induction n with
  | zero =>
    intro i hi w
    unfold wp_X9_often_L70
    rw [if_pos (nI_lt (by omega) (by omega))]
    exact fin w
  | succ n ih =>
    intro i hi w
    unfold wp_X9_often_L70
    rw [nI_1]
    have i8 : (nI i).toInt ≤ 8 := by rw [nI_toInt (by omega)]; omega
    split
    · exact fin w
    · refine e_choose i8 (fun _ => ?_)
      refine e_pow9 i8 (fun _ => ?_)
      refine e_pow9 ?_ (fun _ => ?_)
      · have e1 := nI_toInt (n := m) (by omega)
        have e2 := nI_toInt (n := i) (by omega)
        rw [fb_subI (by omega) (by omega)]
        omega
      · intro x _
        exact ih (i + 1) (by omega) _
theorem e_often {K : Int64 → Int64 → Prop} (hk : ∀ r r', K r r') : wp_X8_often a1 a2 a3 a4 a5 σ (fun r => wp_X9_often a1 a2 a3 a4 a5 σ (fun r' => K r r')) := by
  have fin : ∀ r, wp_X9_often a1 a2 a3 a4 a5 σ (fun r' => K r r') := by
    intro r
    unfold wp_X9_often
    refine t_in (a := 1) (b := 8) rfl rfl (fun h0 h1 => ?_) (fun _ => hk _ _)
    refine t_in (a := 0) rfl (Int32.toInt_toInt64 _) (fun _ _ => ?_) (fun _ => hk _ _)
    refine t_in (a := 1) (b := 8) rfl rfl (fun h2 h3 => ?_) (fun _ => hk _ _)
    refine t_in (a := 0) (b := 8) rfl rfl (fun h4 h5 => ?_) (fun _ => hk _ _)
    refine t_in (a := 0) (b := 1) rfl rfl (fun _ _ => ?_) (fun _ => hk _ _)
    obtain ⟨m, hm, e, -⟩ := zN (h := 8) (x := a3) (by omega) h3
    obtain ⟨j, hj, rfl, -⟩ := zN (h := 8) (x := a4) (by omega) h5
    exact ⟨9 - j + 1, e_oft9L e hm h0 h1 (fun _ => hk _ _) (9 - j) j (by omega) _⟩
  unfold wp_X8_often
  refine t_within (a := 1) (b := 8) rfl rfl (fun h0 h1 => ?_) (fun _ => fin _)
  refine t_within (a := 0) rfl rfl (fun _ _ => ?_) (fun _ => fin _)
  refine t_within (a := 1) (b := 8) rfl rfl (fun h2 h3 => ?_) (fun _ => fin _)
  refine t_within (a := 0) (b := 8) rfl rfl (fun h4 h5 => ?_) (fun _ => fin _)
  refine t_within (a := 0) (b := 1) rfl rfl (fun _ _ => ?_) (fun _ => fin _)
  obtain ⟨m, hm, e, -⟩ := zN (h := 8) (x := a3) (by omega) h3
  obtain ⟨j, hj, rfl, -⟩ := zN (h := 8) (x := a4) (by omega) h5
  exact ⟨9 - j + 1, e_oft8L e hm (fun _ => fin _) (9 - j) j (by omega) _⟩
theorem e_rollsL {v1 v2 : Int32} (h : ∀ r, P r) : ∀ n i, n + i = 6 → ∀ w, wp_X5_rollsWith_L5 a v1 v2 σ P (n + 1) w (nI i) := by
  intro n
  induction n with
  | zero =>
    intro i hi w
    unfold wp_X5_rollsWith_L5
    split
    · exact h _
    · rw [if_pos (by rw [show i = 6 by omega]; decide)]
      exact h _
  | succ n ih =>
    intro i hi w
    unfold wp_X5_rollsWith_L5
    have hv : vp_in (nI i) 6 := vp_in_nI (by omega) (by omega)
    rw [nI_1]
    split
    · exact h _
    · split
      · exact h _
      · refine ⟨hv, ?_⟩
        split
        · exact ih (i + 1) (by omega) _
        · split
          · exact ih (i + 1) (by omega) _
          · refine ⟨hv, ?_⟩
            split
            · exact ih (i + 1) (by omega) _
            · exact ih (i + 1) (by omega) _
theorem e_twoL {v1 : Int32} (h : ∀ r, P r) : ∀ n i, n + i = 8 → ∀ w, wp_X5_namesOnTwo_L4 a v1 σ P (n + 1) w (nI i) := by
  intro n
  induction n with
  | zero =>
    intro i hi w
    unfold wp_X5_namesOnTwo_L4
    rw [if_pos (by rw [show i = 8 by omega]; decide)]
    exact h _
  | succ n ih =>
    intro i hi w
    unfold wp_X5_namesOnTwo_L4
    rw [if_neg (by rw [Int32.le_iff_toInt_le, nI_toInt (by omega)]; show ¬ (8 : Int) ≤ i; omega)]
    rw [nI_1]
    refine ⟨7, e_rollsL (fun r => ?_) 6 0 rfl _⟩
    split
    · exact ih (i + 1) (by omega) _
    · intro x _
      exact ih (i + 1) (by omega) _
theorem e_tw9L {v1 v2 v3 : Int32} (hI : IB σ) (h : ∀ r, P r) : ∀ n i, n + i = 6 → ∀ w, wp_X9_twice_L29 v1 v2 v3 σ P (n + 1) w (nI i) := by
  have hr := b_rolls hI
  intro n
  induction n with
  | zero =>
    intro i hi w
    unfold wp_X9_twice_L29
    rw [if_pos (by rw [Int32.le_iff_toInt_le, nI_toInt (by omega), ← hr.1]; omega)]
    exact h _
  | succ n ih =>
    intro i hi w
    unfold wp_X9_twice_L29
    have hv : vp_in (nI i) 6 := vp_in_nI (by omega) (by omega)
    split
    · exact h _
    · refine ⟨hv, ?_⟩
      intro z _
      have go : ∀ s, wp_X9_twice_J90 v1 v2 v3 w (nI i) z s σ (fun v4 v5 => wp_X9_twice_L29 v1 v2 v3 σ P (n + 1) v4 v5) := by
        intro s z1 _ x _
        show wp_X9_twice_L29 v1 v2 v3 σ P (n + 1) x (nI i + 1)
        rw [nI_1]
        exact ih (i + 1) (by omega) _
      split
      · refine ⟨hv, hv, ?_⟩
        rw [nI_clamp (by omega)]
        have hd := b_read hI (k := i) (by omega)
        refine i_ones (by rw [← hd.1]; exact hd.2.1) (by rw [← hd.1]; exact hd.2.2) ?_
        intro z2 _
        exact go _
      · exact go _
theorem e_tw9M {v1 : Int32} (hI : IB σ) (h : ∀ r, P r) : ∀ n i, n + i = 8 → ∀ w, wp_X9_twice_L17 v1 σ P (n + 1) w (nI i) := by
  intro n
  induction n with
  | zero =>
    intro i hi w
    unfold wp_X9_twice_L17
    rw [if_pos (by rw [show i = 8 by omega]; decide)]
    exact h _
  | succ n ih =>
    intro i hi w
    unfold wp_X9_twice_L17
    rw [if_neg (by rw [Int32.le_iff_toInt_le, nI_toInt (by omega)]; show ¬ (8 : Int) ≤ i; omega)]
    rw [nI_1]
    refine ⟨7, e_tw9L hI (fun r => ?_) 6 0 rfl _⟩
    intro _ _ x _
    exact ih (i + 1) (by omega) _
theorem e_twice (h : Inv σ) {K : Int32 → Int32 → Prop} (hk : ∀ r r', K r r') : wp_X8_twice a1 σ (fun r => wp_X9_twice a1 σ (fun r' => K r r')) := by
  have fin : ∀ r, wp_X9_twice a1 σ (fun r' => K r r') := by
    intro r
    unfold wp_X9_twice
    refine t_in (a := 0) (b := 1) rfl rfl (fun _ _ => ?_) (fun _ => hk _ _)
    exact ⟨9, e_tw9M h.1 (fun _ => hk _ _) 8 0 rfl _⟩
  unfold wp_X8_twice
  refine t_within (a := 0) (b := 1) rfl rfl (fun _ _ => ?_) (fun _ => fin _)
  intro z _
  exact ⟨9, e_twoL (fun _ => fin _) 8 0 rfl _⟩
theorem e_bur8L (hI : IB σ) (h : ∀ r, PL r) : ∀ n i, n + i = 6 → ∀ w, wp_X8_burnt_L13 σ PL (n + 1) w (nI i) := by
  intro n
  induction n with
  | zero =>
    intro i hi w
    unfold wp_X8_burnt_L13
    split
    · exact h _
    · rw [if_pos (by rw [show i = 6 by omega]; decide)]
      exact h _
  | succ n ih =>
    intro i hi w
    unfold wp_X8_burnt_L13
    have hv : vp_in (nI i) 6 := vp_in_nI (by omega) (by omega)
    rw [nI_1, nI_clamp (by omega)]
    split
    · exact h _
    · split
      · exact h _
      · refine ⟨hv, ?_⟩
        refine i_bitCount ⟨hv, ?_⟩
        have hm := b_room hI (k := i) (by omega)
        refine e_ways hm.2.2.1 (fun r => ?_)
        intro x _
        exact ih (i + 1) (by omega) _
theorem e_bur9L (hI : IB σ) (h : ∀ r, PL r) : ∀ n i, n + i = 6 → ∀ w, wp_X9_burnt_L4 σ PL (n + 1) w (nI i) := by
  have hr := b_rolls hI
  intro n
  induction n with
  | zero =>
    intro i hi w
    unfold wp_X9_burnt_L4
    rw [if_pos (by rw [Int32.le_iff_toInt_le, nI_toInt (by omega), ← hr.1]; omega)]
    exact h _
  | succ n ih =>
    intro i hi w
    unfold wp_X9_burnt_L4
    have hv : vp_in (nI i) 6 := vp_in_nI (by omega) (by omega)
    rw [nI_1, nI_clamp (by omega)]
    split
    · exact h _
    · refine ⟨hv, ?_⟩
      have hd := b_read hI (k := i) (by omega)
      have hm := b_room hI (k := i) (by omega)
      refine i_ones (by rw [← hd.1]; exact hd.2.1) (by rw [← hd.1]; exact hd.2.2) ⟨hv, ?_⟩
      rw [← hm.1]
      refine e_choose hm.2.2.1 (fun r => ?_)
      intro x _
      exact ih (i + 1) (by omega) _
theorem e_burnt (h : Inv σ) {K : Int64 → Int64 → Prop} (hk : ∀ r r', K r r') : wp_X8_burnt σ (fun r => wp_X9_burnt σ (fun r' => K r r')) :=
  ⟨7, e_bur8L h.1 (fun _ => ⟨7, e_bur9L h.1 (fun _ => hk _ _) 6 0 rfl _⟩) 6 0 rfl _⟩
end S
end
section
/-! bound, line, convoy: they answer -/
theorem z_mul (a b : Nat) : nI a * nI b = nI (a * b) := (Int32.ofNat_mul a b).symm
theorem z_mul3 (a : Nat) : nI a * 3 = nI (a * 3) := z_mul a 3
theorem z_3mul (a : Nat) : 3 * nI a = nI (3 * a) := z_mul 3 a
theorem z_dn (k : Nat) : nI k + -1 = nI k - 1 := (Int32.sub_eq_add_neg (nI k) 1).symm
theorem z_dn0 : nI 0 - 1 < 0 := by decide
theorem z_3le : ∀ i, i ≤ 6 → 1 ≤ 3 ^ i ∧ 3 ^ i ≤ 729 ∧ (i ≤ 5 → 3 ^ i ≤ 243) := by decide
section S
variable {σ σ0 : zST} {P : Int32 → Prop} {Q : zST → Prop} {R : Int32 → zST → Prop} {a1 a2 a3 : Int32} {a : Nat} {v : Int32}
def zF (σ0 σ : zST) (c : Nat) : Prop := (∀ a k, a ≠ 63 → a ≠ 64 → σ.1 a k = σ0.1 a k) ∧ σ.1 63 1 = nI c
theorem e_moored (h1 : 0 ≤ v.toInt → v.toInt ≤ 5 → P 1) (h0 : P 0) : wp_X6_moored a v σ P := by
  refine i_has rfl (fun x y _ => ⟨by rw [if_neg (by decide)]; exact ⟨zv x (by omega), trivial⟩, ?_⟩) (fun _ => ⟨by rw [if_pos rfl]; trivial, ?_⟩)
  · rw [if_neg (by decide)]
    intro z hz
    exact zbit hz (fun _ => h1 x y) (fun _ => h0)
  · rw [if_pos rfl]
    rintro z rfl
    exact ⟨zB0, h0⟩
theorem e_harbour (h1 : 0 ≤ v.toInt → v.toInt ≤ 5 → P 1) (h0 : P 0) : wp_X9_isInHarbour v σ P := by
  refine i_isShip rfl (fun x y _ => ⟨by rw [if_neg (by decide)]; exact ⟨zv x (by omega), trivial⟩, ?_⟩) (fun _ => ⟨by rw [if_pos rfl]; trivial, ?_⟩)
  · rw [if_neg (by decide)]
    intro z hz
    exact zbit hz (fun _ => h1 x y) (fun _ => h0)
  · rw [if_pos rfl]
    rintro z rfl
    exact ⟨zB0, h0⟩
theorem e_gathL34 {c : Nat} (hI : IB σ0) (hc : c < 6) (hv : vp_in v 6) (h0 : 0 ≤ a1.toInt) (h : ∀ σ', zF σ0 σ' c → Q σ') : ∀ n i, n + i = 3 → ∀ σ, zF σ0 σ c → wp_X2_gather_L34 2 a1 v Q (n + 1) (nI i) σ := by
  intro n
  induction n with
  | zero =>
    intro i hi σ hF
    unfold wp_X2_gather_L34
    rw [if_pos (by rw [show i = 3 by omega]; decide)]
    exact h _ hF
  | succ n ih =>
    intro i hi σ hF
    unfold wp_X2_gather_L34
    rw [if_neg (by rw [Int32.le_iff_toInt_le, nI_toInt (by omega)]; show ¬ (3 : Int) ≤ i; omega)]
    have hd := b_digits hI
    have e7 : σ.1 2 7 = σ0.1 2 7 := hF.1 2 7 (by omega) (by omega)
    refine i_meanBy hv h0 (by rw [e7]; exact hd.2.1) (by rw [e7]; exact hd.2.2) ?_
    intro x _
    refine i_worstBy hv h0 (by rw [e7]; exact hd.2.1) (by rw [e7]; exact hd.2.2) ?_
    rw [nI_1, hF.2, z_mul3, nI_add]
    exact ⟨vp_in_nI (by omega) (by omega), ih (i + 1) (by omega) _ hF⟩
theorem e_gathL7 (hI : IB σ0) (h0 : 0 ≤ a1.toInt) (h : ∀ c σ', c ≤ 6 → zF σ0 σ' c → Q σ') : ∀ n i, n + i = 6 → ∀ c σ, c ≤ i → zF σ0 σ c → wp_X2_gather_L7 2 a1 Q (n + 1) (nI i) σ := by
  intro n
  induction n with
  | zero =>
    intro i hi c σ hc hF
    unfold wp_X2_gather_L7
    rw [if_pos (by rw [show i = 6 by omega]; decide)]
    exact h c _ (by omega) hF
  | succ n ih =>
    intro i hi c σ hc hF
    unfold wp_X2_gather_L7
    rw [if_neg (by rw [Int32.le_iff_toInt_le, nI_toInt (by omega)]; show ¬ (6 : Int) ≤ i; omega)]
    rw [nI_1]
    refine e_moored (fun x y => ?_) ?_
    · refine zi1 ?_
      rw [hF.2, nI_clamp (by omega)]
      refine ⟨vp_in_nI (by omega) (by omega), ⟨4, e_gathL34 (c := c) hI (by omega) (vp_in_nI (by omega) (by omega)) h0 (fun σ' hF' => ?_) 3 0 rfl _ ?_⟩⟩
      · refine ih (i + 1) (by omega) (c + 1) _ (by omega) ⟨fun a k n1 n2 => ?_, ?_⟩
        · rw [wI_at, if_neg (by omega)]; exact hF'.1 a k n1 n2
        · rw [wI_at, if_pos ⟨rfl, rfl⟩, hF'.2, nI_1]
      · refine ⟨fun a k n1 n2 => ?_, ?_⟩
        · rw [wI_at, if_neg (by omega)]; exact hF.1 a k n1 n2
        · rw [wI_at, if_neg (by omega)]; exact hF.2
    · exact zi0 (ih (i + 1) (by omega) c σ (by omega) hF)
theorem e_gather (hI : IB σ) (h0 : 0 ≤ a1.toInt) (h : ∀ c σ', c ≤ 6 → zF σ σ' c → Q σ') : wp_X2_gather 2 a1 σ Q := by
  refine ⟨7, e_gathL7 hI h0 h 6 0 rfl 0 _ (by omega) ⟨fun a k n1 n2 => ?_, ?_⟩⟩
  · rw [wI_at, if_neg (by omega)]
  · rw [wI_at, if_pos ⟨rfl, rfl⟩]; rfl
theorem e_spr47 {c k j : Nat} {v1 : Int32} {x : Int64} (hj : j < 6) (hk : k < 243) (h : ∀ σ', zF σ0 σ' c → Q σ') : ∀ n i, n + i = 3 → ∀ σ, zF σ0 σ c → wp_X2_spreadChoices_L47 v1 (nI j) (nI k) x Q (n + 1) (nI i) σ := by
  intro n
  induction n with
  | zero =>
    intro i hi σ hF
    unfold wp_X2_spreadChoices_L47
    rw [if_pos (by rw [show i = 3 by omega]; decide)]
    exact h _ hF
  | succ n ih =>
    intro i hi σ hF
    unfold wp_X2_spreadChoices_L47
    rw [if_neg (by rw [Int32.le_iff_toInt_le, nI_toInt (by omega)]; show ¬ (3 : Int) ≤ i; omega)]
    rw [nI_1, z_mul3, z_mul3, nI_add, nI_add]
    exact ⟨vp_in_nI (by omega) (by omega), vp_in_nI (by omega) (by omega), ih (i + 1) (by omega) _ hF⟩
theorem e_spr32 {c j : Nat} {v1 : Int32} (hj : j < 6) (h : ∀ σ', zF σ0 σ' c → Q σ') : ∀ k, k ≤ 243 → ∀ σ, zF σ0 σ c → wp_X2_spreadChoices_L32 v1 (nI j) Q (k + 1) (nI k - 1) σ := by
  intro k
  induction k with
  | zero =>
    intro _ σ hF
    unfold wp_X2_spreadChoices_L32
    rw [if_pos z_dn0]
    exact h _ hF
  | succ k ih =>
    intro hk σ hF
    unfold wp_X2_spreadChoices_L32
    rw [nI_pred, if_neg (nI_pos (by omega)), z_dn]
    refine ⟨vp_in_nI (by omega) (by omega), ?_⟩
    intro x _
    exact ⟨4, e_spr47 hj (by omega) (fun σ' hF' => ih (by omega) _ hF') 3 0 rfl _ hF⟩
theorem e_spr11 {c : Nat} (hc : c ≤ 6) (h : ∀ i σ', i ≤ 6 → zF σ0 σ' c → R (nI (3 ^ i)) σ') : ∀ n i, n + i = c → ∀ σ, zF σ0 σ c → wp_X2_spreadChoices_L11 R (n + 1) (nI (3 ^ i)) (nI i) σ := by
  intro n
  induction n with
  | zero =>
    intro i hi σ hF
    unfold wp_X2_spreadChoices_L11
    rw [if_pos (by rw [hF.2]; exact nI_le (by omega) (by omega))]
    exact h i _ (by omega) hF
  | succ n ih =>
    intro i hi σ hF
    unfold wp_X2_spreadChoices_L11
    have p3 := z_3le i (by omega)
    split
    · exact h i _ (by omega) hF
    · split
      · exact h i _ (by omega) hF
      · rintro _ rfl
        refine ⟨3 ^ i + 1, e_spr32 (by omega) (fun σ' hF' => ?_) (3 ^ i) (p3.2.2 (by omega)) _ hF⟩
        rintro _ rfl
        rw [z_mul3, nI_1, ← Nat.pow_succ]
        exact ih (i + 1) (by omega) _ hF'
theorem e_spread {c : Nat} (hc : c ≤ 6) (hF : zF σ0 σ c) (h : ∀ i σ', i ≤ 6 → zF σ0 σ' c → R (nI (3 ^ i)) σ') : wp_X2_spreadChoices σ R :=
  ⟨c + 1, e_spr11 hc h c 0 rfl _ hF⟩
theorem e_leastL {c m : Nat} {v1 : Int32} (hm : m ≤ 729) (h : ∀ r σ', r = -6 ∨ (∃ k, k < 729 ∧ r = nI k) → zF σ0 σ' c → R r σ') : ∀ n i, n + i = m → ∀ r σ, r = -6 ∨ (∃ k, k < 729 ∧ r = nI k) → zF σ0 σ c → wp_X2_leastWithin_L11 v1 (nI m) R (n + 1) r (nI i) σ := by
  intro n
  induction n with
  | zero =>
    intro i hi r σ hr hF
    unfold wp_X2_leastWithin_L11
    rw [if_pos (nI_le (by omega) (by omega))]
    exact h _ _ hr hF
  | succ n ih =>
    intro i hi r σ hr hF
    unfold wp_X2_leastWithin_L11
    have hv : vp_in (nI i) 729 := vp_in_nI (by omega) (by omega)
    rw [if_neg (nI_ge (by omega) (by omega)), nI_1]
    refine ⟨hv, ?_⟩
    show if v1 < _ then _ else _
    split
    · exact ih (i + 1) (by omega) _ _ hr hF
    · by_cases e : r = -6
      · rw [if_pos e]
        exact ih (i + 1) (by omega) _ _ (Or.inr ⟨i, by omega, rfl⟩) hF
      · rw [if_neg e]
        refine ⟨hv, ?_⟩
        obtain ⟨k, hk, rfl⟩ := hr.resolve_left e
        refine ⟨vp_in_nI hk (by omega), ?_⟩
        show if _ ≤ _ then _ else _
        split
        · exact ih (i + 1) (by omega) _ _ hr hF
        · exact ih (i + 1) (by omega) _ _ (Or.inr ⟨i, by omega, rfl⟩) hF
theorem e_least {c : Nat} (hc : c ≤ 6) (hF : zF σ0 σ c) (h : ∀ r σ', r = -6 ∨ (∃ k, k < 729 ∧ r = nI k) → zF σ0 σ' c → R r σ') : wp_X2_leastWithin a1 σ R :=
  e_spread hc hF (fun i σ' hi hF' => ⟨3 ^ i + 1, e_leastL (z_3le i hi).2.1 h (3 ^ i) 0 rfl _ _ (Or.inl rfl) hF'⟩)
theorem e_meanCh (h : ∀ r, P r) : wp_X2_meanOfChoice v σ P := by
  refine t_within (a := 0) (b := 728) rfl rfl (fun x y => ⟨zv x (by omega), ?_⟩) (fun _ => h _)
  exact h _
theorem e_sideL (h : ∀ r, P r) : ∀ k, k ≤ 6 → ∀ x, wp_X2_sideInChoice_L10 v σ P (k + 1) x (nI k - 1) := by
  intro k
  induction k with
  | zero =>
    intro _ x
    unfold wp_X2_sideInChoice_L10
    rw [if_pos z_dn0]
    exact h _
  | succ k ih =>
    intro hk x
    unfold wp_X2_sideInChoice_L10
    rw [nI_pred, if_neg (nI_pos (by omega)), z_dn]
    refine ⟨vp_in_nI (by omega) (by omega), ?_⟩
    split
    · exact h _
    · intro y _
      exact ih (by omega) y
theorem e_side {c : Nat} (hc : c ≤ 6) (hF : zF σ0 σ c) (h : ∀ r, P r) : wp_X2_sideInChoice a1 v σ P := by
  unfold wp_X2_sideInChoice
  rw [hF.2]
  rintro _ rfl
  exact ⟨c + 1, e_sideL h c hc _⟩
theorem e_mallL {c s : Nat} (hc : c ≤ 6) (hs : s < 3) (hF : zF σ0 σ c) (h : ∀ r, P r) : ∀ n i, n + i = c → ∀ x, wp_X2_meanOfAllBy_L4 (nI s) σ P (n + 1) x (nI i) := by
  intro n
  induction n with
  | zero =>
    intro i hi x
    unfold wp_X2_meanOfAllBy_L4
    rw [if_pos (by rw [hF.2]; exact nI_le (by omega) (by omega))]
    exact h _
  | succ n ih =>
    intro i hi x
    unfold wp_X2_meanOfAllBy_L4
    rw [hF.2, if_neg (nI_ge (by omega) (by omega)), nI_1, z_mul3, nI_add]
    refine ⟨vp_in_nI (by omega) (by omega), ?_⟩
    intro y _
    exact ih (i + 1) (by omega) y
theorem e_mall {c s : Nat} (hc : c ≤ 6) (hs : s < 3) (hF : zF σ0 σ c) (h : ∀ r, P r) : wp_X2_meanOfAllBy (nI s) σ P := ⟨c + 1, e_mallL hc hs hF h c 0 rfl _⟩
theorem e_commL {c : Nat} (hc : c ≤ 6) (hF : zF σ0 σ c) (h : ∀ s, s < 3 → P (nI s)) : ∀ n i, n + i = 3 → ∀ s, s < 3 → wp_X2_commonSide_L4 σ P (n + 1) (nI s) (nI i) := by
  intro n
  induction n with
  | zero =>
    intro i hi s hs
    unfold wp_X2_commonSide_L4
    rw [if_pos (by rw [show i = 3 by omega]; decide)]
    exact h s hs
  | succ n ih =>
    intro i hi s hs
    unfold wp_X2_commonSide_L4
    rw [if_neg (by rw [Int32.le_iff_toInt_le, nI_toInt (by omega)]; show ¬ (3 : Int) ≤ i; omega)]
    rw [nI_1]
    refine e_mall hc (by omega) hF (fun r => ?_)
    refine e_mall hc hs hF (fun r' => ?_)
    split
    · exact ih (i + 1) (by omega) s hs
    · exact ih (i + 1) (by omega) i (by omega)
theorem e_comm {c : Nat} (hc : c ≤ 6) (hF : zF σ0 σ c) (h : ∀ s, s < 3 → P (nI s)) : wp_X2_commonSide σ P := ⟨3, e_commL hc hF h 2 1 rfl 0 (by omega)⟩
theorem e_J153 {v1 v2 v3 v4 v5 v7 : Int32} {x : Int64} {c u : Nat} {K : Int32 → Int32 → Int32 → Int32 → Int32 → zST → Prop} (hu : u ≤ 729) (hF : zF σ0 σ c) (h : ∀ u' σ', u' ≤ 729 → zF σ0 σ' c → K v3 v4 v5 (nI u') (v7 + 1) σ') : wp_X2_widenFront_J153 v1 v2 v3 v4 v5 (nI u) v7 x σ K := by
  unfold wp_X2_widenFront_J153
  split
  · exact h u _ hu hF
  · rename_i q
    have hlt : u < 729 := by
      rw [Int32.le_iff_toInt_le, nI_toInt (by omega)] at q
      have q : ¬ (729 : Int) ≤ u := q
      omega
    have hv : vp_in (nI u) 729 := vp_in_nI hlt (by omega)
    have put : K v3 v4 v5 (nI u + 1) (v7 + 1) (wL σ 68 (nI u).toNatClampNeg x) := by
      rw [nI_1]
      exact h (u + 1) _ (by omega) hF
    by_cases e : nI u = 0
    · rw [if_pos e]
      exact ⟨hv, put⟩
    · rw [if_neg e]
      have h1 : 1 ≤ u := by
        rcases Nat.eq_zero_or_pos u with z | z
        · subst z
          exact absurd rfl e
        · exact z
      refine ⟨?_, ?_⟩
      · obtain ⟨t, rfl⟩ : ∃ t, u = t + 1 := ⟨u - 1, by omega⟩
        rw [nI_pred]
        exact vp_in_nI (by omega) (by omega)
      · show if _ ≤ _ then _ else _
        split
        · exact h u _ hu hF
        · exact ⟨hv, put⟩
theorem e_widL {c f j : Nat} (hf : f ≤ 729) (hj : j < 6) (h : ∀ u σ', u ≤ 729 → zF σ0 σ' c → R (nI u) σ') : ∀ n t, n + t = 3 * f → ∀ x y z u σ, x ≤ t → y ≤ t → z ≤ t → u ≤ 729 → zF σ0 σ c → wp_X2_widenFront_L14 (nI f) (nI (j * 3)) R (n + 1) (nI x) (nI y) (nI z) (nI u) (nI t) σ := by
  intro n
  induction n with
  | zero =>
    intro t ht x y z u σ hx hy hz hu hF
    unfold wp_X2_widenFront_L14
    rw [z_3mul, if_pos (nI_le (by omega) (by omega))]
    refine ⟨⟨by decide, by decide, nI_pos (by omega), ?_, ?_⟩, h u _ hu hF⟩
    · rw [nI_clamp (by omega)]
      show 0 + u ≤ 729
      omega
    · rw [nI_clamp (by omega)]
      show 0 + u ≤ 729
      omega
  | succ n ih =>
    intro t ht x y z u σ hx hy hz hu hF
    unfold wp_X2_widenFront_L14
    have ok : ∀ x k, x ≤ t → k < 3 → (if nI f ≤ nI x then True else vp_in (nI x) 729 ∧ vp_in (nI (j * 3 + k)) 18 ∧ True) := by
      intro x k hx hk
      split
      · trivial
      · rename_i q
        rw [nI_leI (by omega) (by omega)] at q
        exact ⟨vp_in_nI (by omega) (by omega), vp_in_nI (by omega) (by omega), trivial⟩
    have e1 : nI (j * 3) + 1 = nI (j * 3 + 1) := nI_add _ 1
    have e2 : nI (j * 3) + 2 = nI (j * 3 + 2) := nI_add _ 2
    rw [z_3mul, if_neg (nI_ge (by omega) (by omega)), e1, e2]
    refine ⟨ok x 0 hx (by omega), ?_⟩
    intro z4 _
    refine ⟨ok y 1 hy (by omega), ?_⟩
    intro z10 _
    refine ⟨ok z 2 hz (by omega), ?_⟩
    intro z16 _ x21 _
    split
    · refine e_J153 hu hF (fun u' σ' hu' hF' => ?_)
      rw [nI_1, nI_1]
      exact ih (t + 1) (by omega) _ _ _ _ _ (by omega) (by omega) (by omega) hu' hF'
    · split
      · refine e_J153 hu hF (fun u' σ' hu' hF' => ?_)
        rw [nI_1, nI_1]
        exact ih (t + 1) (by omega) _ _ _ _ _ (by omega) (by omega) (by omega) hu' hF'
      · refine e_J153 hu hF (fun u' σ' hu' hF' => ?_)
        rw [nI_1, nI_1]
        exact ih (t + 1) (by omega) _ _ _ _ _ (by omega) (by omega) (by omega) hu' hF'
theorem e_drawL {c : Nat} (hc : c ≤ 6) (h : ∀ u σ', u ≤ 729 → zF σ0 σ' c → R (nI u) σ') : ∀ n i, n + i = c → ∀ f σ, f ≤ 729 → zF σ0 σ c → wp_X2_drawLine_L11 R (n + 1) (nI f) (nI i) σ := by
  intro n
  induction n with
  | zero =>
    intro i hi f σ hf hF
    unfold wp_X2_drawLine_L11
    rw [if_pos (by rw [hF.2]; exact nI_le (by omega) (by omega))]
    exact h f _ hf hF
  | succ n ih =>
    intro i hi f σ hf hF
    unfold wp_X2_drawLine_L11
    rw [hF.2, if_neg (nI_ge (by omega) (by omega)), nI_1, z_mul3]
    exact ⟨3 * f + 1, e_widL hf (by omega) (fun u σ' hu hF' => ih (i + 1) (by omega) u σ' hu hF') (3 * f) 0 rfl 0 0 0 0 σ (by omega) (by omega) (by omega) (by omega) hF⟩
theorem e_draw {c : Nat} (hc : c ≤ 6) (hF : zF σ0 σ c) (h : ∀ u σ', u ≤ 729 → zF σ0 σ' c → R (nI u) σ') : wp_X2_drawLine σ R :=
  ⟨c + 1, e_drawL hc h c 0 rfl 1 _ (by omega) hF⟩
theorem e_onl (h : ∀ r, P r) : wp_X2_onLine a1 a2 σ P := by
  refine t_within (a := 0) (b := 728) rfl rfl (fun x y => ?_) (fun _ => h _)
  have hv : vp_in a1 729 := zv x (by omega)
  split
  · exact ⟨hv, h _⟩
  · exact ⟨hv, h _⟩
theorem zF_inv {c : Nat} (h : Inv σ0) (hF : zF σ0 σ c) : Inv σ := Inv_fr (fun a k x => hF.1 a k (by omega) (by omega)) h
theorem e_bound8 (h : Inv σ) (hk : ∀ r σ', Inv σ' → R r σ') : wp_X8_bound a1 a2 a3 σ R := by
  unfold wp_X8_bound
  have go : ∀ z : Int32, z = a3 → 0 ≤ a1.toInt → wp_X2_gather 2 a1 σ (fun σ9 => wp_X2_leastWithin a2 σ9 (fun r10 σ11 => (if r10 = (-6 : Int32) then R (-6 : Int32) σ11 else (if z = (-1 : Int32) then wp_X2_meanOfChoice r10 σ11 (fun r16 => R r16 σ11) else wp_X2_sideInChoice r10 z σ11 (fun r14 => R r14 σ11))))) := by
    intro z _ h0
    refine e_gather h.1 h0 (fun c σ1 hc hF => ?_)
    refine e_least hc hF (fun r σ2 _ hF2 => ?_)
    have hi := zF_inv h hF2
    split
    · exact hk _ _ hi
    · split
      · exact e_meanCh (fun _ => hk _ _ hi)
      · exact e_side hc hF2 (fun _ => hk _ _ hi)
  by_cases e : a3 = -1
  · rw [if_pos e]
    refine t_isHour8 (fun g0 _ => ?_) (fun _ => hk _ _ h)
    refine t_within (a := 0) (b := 99999) rfl rfl (fun _ _ => ?_) (fun _ => hk _ _ h)
    exact go a3 rfl g0
  · rw [if_neg e]
    refine e_moored (fun _ _ => zi1 ?_) (zi0 (hk _ _ h))
    refine t_isHour8 (fun g0 _ => ?_) (fun _ => hk _ _ h)
    refine t_within (a := 0) (b := 99999) rfl rfl (fun _ _ => ?_) (fun _ => hk _ _ h)
    exact go a3 rfl g0
theorem e_line8 (h : Inv σ) (hk : ∀ r σ', Inv σ' → R r σ') : wp_X8_line a1 a2 a3 σ R := by
  unfold wp_X8_line
  refine t_isHour8 (fun g0 _ => ?_) (fun _ => hk _ _ h)
  split
  · exact hk _ _ h
  · refine t_within (a := 0) (b := 1) rfl rfl (fun _ _ => ?_) (fun _ => hk _ _ h)
    refine e_gather h.1 g0 (fun c σ1 hc hF => ?_)
    refine e_draw hc hF (fun r σ2 _ hF2 => ?_)
    have hi := zF_inv h hF2
    split
    · exact hk _ _ hi
    · split
      · exact hk _ _ hi
      · exact e_onl (fun _ => hk _ _ hi)
theorem e_convoy8 (h : Inv σ) (hk : ∀ r σ', Inv σ' → R r σ') : wp_X8_convoy a1 a2 σ R := by
  unfold wp_X8_convoy
  refine t_isHour8 (fun g0 _ => ?_) (fun _ => hk _ _ h)
  refine t_within (a := 0) (b := 1) rfl rfl (fun _ _ => ?_) (fun _ => hk _ _ h)
  refine e_gather h.1 g0 (fun c σ1 hc hF => ?_)
  have hi := zF_inv h hF
  refine e_comm hc hF (fun s hs => ?_)
  split
  · exact hk _ _ hi
  · exact e_mall hc hs hF (fun _ => hk _ _ hi)
end S
end
section
/-! the reference's fleets -/
section S
variable {σ σ0 : zST} {P : Int32 → Prop} {Q : zST → Prop} {R : Int32 → zST → Prop} {a1 a2 a3 : Int32} {a m : Nat} {v : Int32}
def zR (σ0 σ : zST) (m : Nat) : Prop := (∀ a k, ¬ (a = 69 ∧ k = 34) → a ≠ 82 → a ≠ 83 → a ≠ 84 → σ.1 a k = σ0.1 a k) ∧ σ.1 69 34 = nI m
theorem zR_IB (h : IB σ0) (hF : zR σ0 σ m) : IB σ := IB_fr (fun a k x => hF.1 a k (by omega) (by omega) (by omega) (by omega)) h
theorem zR_inv (h : Inv σ0) (hF : zR σ0 σ m) : Inv σ := Inv_fr (fun a k x => hF.1 a k (by omega) (by omega) (by omega) (by omega)) h
theorem zR_w {x j : Nat} {u : Int32} (hF : zR σ0 σ m) (hx : x = 82 ∨ x = 83 ∨ x = 84) : zR σ0 (wI σ x j u) m := by
  refine ⟨fun a k n1 n2 n3 n4 => ?_, ?_⟩
  · rw [wI_at, if_neg (by omega)]; exact hF.1 a k n1 n2 n3 n4
  · rw [wI_at, if_neg (by omega)]; exact hF.2
theorem e_lay42 {k : Nat} (hI : IB σ0) (hm : m ≤ 243) (hk : k < 3) (v0 : 0 ≤ v.toInt) (v1 : v.toInt ≤ 5) (h0 : 0 ≤ a1.toInt) (h : ∀ σ', zR σ0 σ' m → Q σ') : ∀ n i, n + i = m → ∀ σ, zR σ0 σ m → wp_X9_layFleet_L42 a1 v (nI k) Q (n + 1) (nI i) σ := by
  have hkm : k * m ≤ 2 * m := Nat.mul_le_mul_right m (by omega)
  intro n
  induction n with
  | zero =>
    intro i hi σ hF
    unfold wp_X9_layFleet_L42
    rw [if_pos (by rw [hF.2]; exact nI_le (by omega) (by omega))]
    exact h _ hF
  | succ n ih =>
    intro i hi σ hF
    unfold wp_X9_layFleet_L42
    have hv : vp_in (nI i) 729 := vp_in_nI (by omega) (by omega)
    have hw : vp_in (nI (k * m + i)) 729 := vp_in_nI (by omega) (by omega)
    rw [hF.2, if_neg (nI_ge (by omega) (by omega)), z_mul, nI_add, nI_1]
    refine ⟨hv, ?_⟩
    refine i_meanOf (zR_IB hI hF) v0 v1 h0 ?_
    refine ⟨hw, ?_⟩
    intro σ11 e11
    have hF2 : zR σ0 σ11 m := by rw [e11]; exact zR_w hF (by omega)
    refine ⟨hv, ?_⟩
    refine i_worstOf (zR_IB hI hF2) v0 v1 h0 ?_
    rw [hF2.2, z_mul, nI_add]
    exact ⟨hw, ih (i + 1) (by omega) _ (zR_w hF2 (by omega))⟩
theorem e_lay35 (hI : IB σ0) (hm : m ≤ 243) (v0 : 0 ≤ v.toInt) (v1 : v.toInt ≤ 5) (h0 : 0 ≤ a1.toInt) (h : ∀ σ', zR σ0 σ' m → Q σ') : ∀ k, k ≤ 3 → ∀ σ, zR σ0 σ m → wp_X9_layFleet_L35 a1 v Q (k + 1) (nI k - 1) σ := by
  intro k
  induction k with
  | zero =>
    intro _ σ hF
    unfold wp_X9_layFleet_L35
    rw [if_pos z_dn0]
    exact h _ hF
  | succ k ih =>
    intro hk σ hF
    unfold wp_X9_layFleet_L35
    rw [nI_pred, if_neg (nI_pos (by omega)), z_dn]
    exact ⟨m + 1, e_lay42 hI hm (by omega) v0 v1 h0 (fun σ' hF' => ih (by omega) _ hF') m 0 rfl _ hF⟩
theorem e_lay21 (hI : IB σ0) (h0 : 0 ≤ a1.toInt) (h : ∀ c σ', c ≤ 6 → zR σ0 σ' (3 ^ c) → Q σ') : ∀ k c, k + c ≤ 6 → ∀ σ, zR σ0 σ (3 ^ c) → wp_X9_layFleet_L21 a1 Q (k + 1) (nI k - 1) σ := by
  intro k
  induction k with
  | zero =>
    intro c hc σ hF
    unfold wp_X9_layFleet_L21
    rw [if_pos z_dn0]
    exact h c _ (by omega) hF
  | succ k ih =>
    intro c hc σ hF
    unfold wp_X9_layFleet_L21
    rw [nI_pred, if_neg (nI_pos (by omega)), z_dn]
    refine e_harbour (fun x y => zi1 ?_) (zi0 (ih c (by omega) σ hF))
    refine ⟨4, e_lay35 hI ((z_3le c (by omega)).2.2 (by omega)) x y h0 (fun σ' hF' => ?_) 3 (by omega) σ hF⟩
    refine ih (c + 1) (by omega) _ ⟨fun a k n1 n2 n3 n4 => ?_, ?_⟩
    · rw [wI_at, if_neg n1]; exact hF'.1 a k n1 n2 n3 n4
    · rw [wI_at, if_pos ⟨rfl, rfl⟩, hF'.2, z_mul3, Nat.pow_succ]
theorem e_lay (hI : IB σ) (h0 : 0 ≤ a1.toInt) (h : ∀ c σ', c ≤ 6 → zR σ σ' (3 ^ c) → Q σ') : wp_X9_layFleet a1 σ Q := by
  refine ⟨7, e_lay21 hI h0 h 6 0 (by omega) _ (zR_w (zR_w ⟨fun a k n1 n2 n3 n4 => ?_, ?_⟩ (by omega)) (by omega))⟩
  · rw [wI_at, if_neg n1]
  · rw [wI_at, if_pos ⟨rfl, rfl⟩]; rfl
theorem e_bou49 {v2 v3 : Int32} (hm : m ≤ 729) (hF : zR σ0 σ m) (h : ∀ r, r.toInt < 0 ∨ (∃ k, k < 729 ∧ r = nI k) → R r σ) : ∀ n i, n + i = m → ∀ r : Int32, r.toInt < 0 ∨ (∃ k, k < 729 ∧ r = nI k) → wp_X9_bound_L49 v2 v3 R (n + 1) r (nI i) σ := by
  intro n
  induction n with
  | zero =>
    intro i hi r hr
    unfold wp_X9_bound_L49
    rw [if_pos (by rw [hF.2]; exact nI_le (by omega) (by omega))]
    exact h _ hr
  | succ n ih =>
    intro i hi r hr
    unfold wp_X9_bound_L49
    have hv : vp_in (nI i) 729 := vp_in_nI (by omega) (by omega)
    rw [hF.2, if_neg (nI_ge (by omega) (by omega)), nI_1]
    refine ⟨hv, ?_, ?_⟩
    · split
      · trivial
      · split
        · trivial
        · rename_i q
          rw [Int32.lt_iff_toInt_lt] at q
          obtain ⟨k, hk, rfl⟩ := hr.resolve_left q
          exact ⟨hv, vp_in_nI hk (by omega), trivial⟩
    · intro z _ z' hz'
      refine ih (i + 1) (by omega) _ ?_
      rw [hz']
      split
      · exact hr
      · exact Or.inr ⟨i, by omega, rfl⟩
theorem e_behL (h : ∀ c, c ≤ 6 → P (nI (3 ^ c))) : ∀ n i, n + i = 6 → ∀ c, c ≤ i → wp_X9_behindIt_L6 σ P (n + 1) (nI (3 ^ c)) (nI i) := by
  intro n
  induction n with
  | zero =>
    intro i hi c hc
    unfold wp_X9_behindIt_L6
    rw [if_pos (by rw [show i = 6 by omega]; decide)]
    exact h c (by omega)
  | succ n ih =>
    intro i hi c hc
    unfold wp_X9_behindIt_L6
    rw [if_neg (by rw [Int32.le_iff_toInt_le, nI_toInt (by omega)]; show ¬ (6 : Int) ≤ i; omega)]
    rw [nI_1]
    refine e_harbour (fun _ _ => ?_) ?_
    · rintro _ rfl _ rfl
      rw [if_neg (by decide), z_mul3, ← Nat.pow_succ]
      exact ih (i + 1) (by omega) (c + 1) (by omega)
    · rintro _ rfl _ rfl
      rw [if_pos rfl, show nI (3 ^ c) * 1 = nI (3 ^ c) from Int32.mul_one _]
      exact ih (i + 1) (by omega) c (by omega)
theorem e_beh (h0 : 0 ≤ v.toInt) (h1 : v.toInt ≤ 5) (h : ∀ r, r ≠ 0 → P r) : wp_X9_behindIt v σ P := by
  obtain ⟨k, hk, rfl, -⟩ := zN (h := 5) h0 (by omega)
  unfold wp_X9_behindIt
  rw [nI_1]
  rintro _ rfl
  refine ⟨6 - (k + 1) + 1, e_behL (fun c hc => h _ ?_) (6 - (k + 1)) (k + 1) (by omega) 0 (by omega)⟩
  have := z_3le c hc
  exact nI_ne0 (by omega) (by omega)
theorem e_bound9 (h : Inv σ) (hk : ∀ r σ', Inv σ' → R r σ') : wp_X9_bound a1 a2 a3 σ R := by
  unfold wp_X9_bound
  have go : ∀ z : Int32, (z ≠ -1 → 0 ≤ z.toInt ∧ z.toInt ≤ 5) → 0 ≤ a1.toInt → wp_X9_layFleet a1 σ (fun σ9 => ∃ M30 : Nat, wp_X9_bound_L49 a2 z (fun w4 σ => (if (0) ≤ w4 then (if z = (-1 : Int32) then vp_in w4 729 ∧ R (σ.1 82 w4.toNatClampNeg) σ else wp_X9_behindIt z σ (fun r26 => ¬ r26 = 0 ∧ R ((w4 / r26) - (w4 / r26) / (3 : Int32) * (3 : Int32)) σ)) else R (-6 : Int32) σ)) M30 (-6 : Int32) (0 : Int32) σ9) := by
    intro z hz h0
    refine e_lay h.1 h0 (fun c σ1 hc hF => ?_)
    have hi := zR_inv h hF
    refine ⟨3 ^ c + 1, e_bou49 (z_3le c hc).2.1 hF (fun r hr => ?_) (3 ^ c) 0 rfl _ (Or.inl (by decide))⟩
    split
    · rename_i q
      rw [Int32.le_iff_toInt_le] at q
      have q : 0 ≤ r.toInt := q
      obtain ⟨k, hk', rfl⟩ := hr.resolve_left (by omega)
      split
      · exact ⟨vp_in_nI hk' (by omega), hk _ _ hi⟩
      · rename_i q2
        exact e_beh (hz q2).1 (hz q2).2 (fun r hr => ⟨hr, hk _ _ hi⟩)
    · exact hk _ _ hi
  by_cases e : a3 = -1
  · rw [if_pos e]
    refine t_isHour (fun g0 _ => ?_) (fun _ => hk _ _ h)
    refine t_in (a := 0) (b := 99999) rfl rfl (fun _ _ => ?_) (fun _ => hk _ _ h)
    exact go a3 (fun q => absurd e q) g0
  · rw [if_neg e]
    refine e_harbour (fun x y => zi1 ?_) (zi0 (hk _ _ h))
    refine t_isHour (fun g0 _ => ?_) (fun _ => hk _ _ h)
    refine t_in (a := 0) (b := 99999) rfl rfl (fun _ _ => ?_) (fun _ => hk _ _ h)
    exact go a3 (fun _ => ⟨x, y⟩) g0
theorem e_onlL {j : Nat} (hm : m ≤ 729) (hj : j < m) (hF : zR σ0 σ m) (h : ∀ r, P r) : ∀ n i, n + i = m → ∀ r, (r = (0 : Int32) ∨ r = 1) → wp_X9_isOnLine_L4 (nI j) σ P (n + 1) r (nI i) := by
  have zb : ∀ r, (r = (0 : Int32) ∨ r = 1) → zB r := by
    rintro r (rfl | rfl)
    · exact zB0
    · exact zB1
  intro n
  induction n with
  | zero =>
    intro i hi r hr
    unfold wp_X9_isOnLine_L4
    rw [if_pos (by rw [hF.2]; exact nI_le (by omega) (by omega))]
    exact ⟨zb r hr, h _⟩
  | succ n ih =>
    intro i hi r hr
    unfold wp_X9_isOnLine_L4
    have hv : vp_in (nI i) 729 := vp_in_nI (by omega) (by omega)
    have hw : vp_in (nI j) 729 := vp_in_nI (by omega) (by omega)
    rw [hF.2, if_neg (nI_ge (by omega) (by omega)), nI_1]
    split
    · exact ⟨zb r hr, h _⟩
    · refine ⟨hv, hw, by split; trivial; exact ⟨hv, hw, trivial⟩, ?_⟩
      intro z6 _
      refine ⟨hv, hw, by split; trivial; exact ⟨hv, hw, trivial⟩, ?_⟩
      intro z15 _ z22 h22
      refine ih (i + 1) (by omega) _ ?_
      rw [h22]
      (repeat' split) <;> first | exact Or.inl rfl | exact Or.inr rfl
theorem e_onl9 {j : Nat} (hm : m ≤ 729) (hj : j < m) (hF : zR σ0 σ m) (h : ∀ r, P r) : wp_X9_isOnLine (nI j) σ P := ⟨m + 1, e_onlL hm hj hF h m 0 (by omega) 1 (Or.inr rfl)⟩
theorem e_lesL {j : Nat} (hm : m ≤ 729) (hj : j < m) (hF : zR σ0 σ m) (h : ∀ r, P r) : ∀ n i, n + i = m → ∀ r, wp_X9_lessThan_L4 (nI j) σ P (n + 1) r (nI i) := by
  intro n
  induction n with
  | zero =>
    intro i hi r
    unfold wp_X9_lessThan_L4
    rw [if_pos (by rw [hF.2]; exact nI_le (by omega) (by omega))]
    exact h _
  | succ n ih =>
    intro i hi r
    unfold wp_X9_lessThan_L4
    have hv : vp_in (nI i) 729 := vp_in_nI (by omega) (by omega)
    have hw : vp_in (nI j) 729 := vp_in_nI (by omega) (by omega)
    rw [hF.2, if_neg (nI_ge (by omega) (by omega)), nI_1]
    refine ⟨hv, by split; exact ⟨hv, hw, trivial⟩; trivial, ?_⟩
    intro z _ x _
    exact ih (i + 1) (by omega) _
theorem e_les {j : Nat} (hm : m ≤ 729) (hj : j < m) (hF : zR σ0 σ m) (h : ∀ r, P r) : wp_X9_lessThan (nI j) σ P := ⟨m + 1, e_lesL hm hj hF h m 0 (by omega) 0⟩
theorem e_lin31 {v2 v3 : Int32} (hm : m ≤ 729) (h : ∀ r σ', zR σ0 σ' m → R r σ') : ∀ n i, n + i = m → ∀ r σ, zR σ0 σ m → wp_X9_line_L31 v2 v3 R (n + 1) r (nI i) σ := by
  intro n
  induction n with
  | zero =>
    intro i hi r σ hF
    unfold wp_X9_line_L31
    rw [if_pos (by rw [hF.2]; exact nI_le (by omega) (by omega))]
    exact h _ _ hF
  | succ n ih =>
    intro i hi r σ hF
    unfold wp_X9_line_L31
    have hv : vp_in (nI i) 729 := vp_in_nI (by omega) (by omega)
    rw [hF.2, if_neg (nI_ge (by omega) (by omega)), nI_1]
    refine e_onl9 hm (by omega) hF (fun s => ?_)
    intro z _
    refine ⟨hv, ?_⟩
    intro x _
    exact ih (i + 1) (by omega) _ _ (zR_w hF (by omega))
theorem e_lin113 {v2 v3 : Int32} (hm : m ≤ 729) (hF : zR σ0 σ m) (h : ∀ r, R r σ) : ∀ n i, n + i = m → wp_X9_line_L113 v2 v3 R (n + 1) (nI i) σ := by
  intro n
  induction n with
  | zero =>
    intro i hi
    unfold wp_X9_line_L113
    rw [if_pos (by rw [hF.2]; exact nI_le (by omega) (by omega))]
    exact h _
  | succ n ih =>
    intro i hi
    unfold wp_X9_line_L113
    have hv : vp_in (nI i) 729 := vp_in_nI (by omega) (by omega)
    rw [hF.2, if_neg (nI_ge (by omega) (by omega)), nI_1]
    refine ⟨hv, ?_⟩
    split
    · refine e_les hm (by omega) hF (fun s => ?_)
      split
      · refine ⟨by split <;> exact ⟨hv, trivial⟩, ?_⟩
        intro z _
        exact h _
      · exact ih (i + 1) (by omega)
    · exact ih (i + 1) (by omega)
theorem e_line9 (h : Inv σ) (hk : ∀ r σ', Inv σ' → R r σ') : wp_X9_line a1 a2 a3 σ R := by
  unfold wp_X9_line
  refine t_isHour (fun g0 _ => ?_) (fun _ => hk _ _ h)
  refine t_in (a := 0) (b := 1) rfl rfl (fun _ _ => ?_) (fun _ => hk _ _ h)
  refine e_lay h.1 g0 (fun c σ1 hc hF => ?_)
  refine ⟨3 ^ c + 1, e_lin31 (z_3le c hc).2.1 (fun r σ2 hF2 => ?_) (3 ^ c) 0 rfl _ _ hF⟩
  have hi := zR_inv h hF2
  by_cases e : a2 = -1
  · rw [if_pos e]
    intro z _
    exact hk _ _ hi
  · rw [if_neg e]
    refine t_in (a := 0) rfl (Int32.toInt_toInt64 _) (fun _ _ => ?_) (fun _ => ?_)
    · exact ⟨3 ^ c + 1, e_lin113 (z_3le c hc).2.1 hF2 (fun _ => hk _ _ hi) (3 ^ c) 0 rfl⟩
    · intro z _
      exact hk _ _ hi
theorem e_con41 {v2 v3 v4 v5 : Int32} (hI : IB σ) (h0 : 0 ≤ a1.toInt) (h : ∀ r, P r) : ∀ n i, n + i = 6 → ∀ x, wp_X9_convoy_L41 a1 v2 v3 v4 v5 σ P (n + 1) x (nI i) := by
  intro n
  induction n with
  | zero =>
    intro i hi x
    unfold wp_X9_convoy_L41
    rw [if_pos (by rw [show i = 6 by omega]; decide)]
    exact h _
  | succ n ih =>
    intro i hi x
    unfold wp_X9_convoy_L41
    rw [if_neg (by rw [Int32.le_iff_toInt_le, nI_toInt (by omega)]; show ¬ (6 : Int) ≤ i; omega)]
    rw [nI_1]
    refine e_harbour (fun u w => zi1 ?_) (zi0 ?_)
    · refine i_meanOf hI u w h0 ?_
      intro y _
      exact ih (i + 1) (by omega) _
    · intro y _
      exact ih (i + 1) (by omega) _
theorem e_con29 {v2 : Int32} (hI : IB σ) (h0 : 0 ≤ a1.toInt) (h : ∀ r, P r) : ∀ n i, n + i = 3 → ∀ x y, wp_X9_convoy_L29 a1 v2 σ P (n + 1) x y (nI i) := by
  intro n
  induction n with
  | zero =>
    intro i hi x y
    unfold wp_X9_convoy_L29
    rw [if_pos (by rw [show i = 3 by omega]; decide)]
    intro z _
    exact h _
  | succ n ih =>
    intro i hi x y
    unfold wp_X9_convoy_L29
    rw [if_neg (by rw [Int32.le_iff_toInt_le, nI_toInt (by omega)]; show ¬ (3 : Int) ≤ i; omega)]
    rw [nI_1]
    refine ⟨7, e_con41 hI h0 (fun r => ?_) 6 0 rfl _⟩
    intro _ _ _ _
    exact ih (i + 1) (by omega) _ _
theorem e_convoy9 (h : Inv σ) (hk : ∀ r, P r) : wp_X9_convoy a1 a2 σ P := by
  unfold wp_X9_convoy
  refine t_isHour (fun g0 _ => ?_) (fun _ => hk _)
  refine t_in (a := 0) (b := 1) rfl rfl (fun _ _ => ?_) (fun _ => hk _)
  exact ⟨4, e_con29 h.1 g0 hk 3 0 rfl _ _⟩
theorem e_bound (h : Inv σ) {K : Int32 → Int32 → zST → Prop} (hk : ∀ r r' σ', Inv σ' → K r r' σ') : wp_X8_bound a1 a2 a3 σ (fun r σ1 => wp_X9_bound a1 a2 a3 σ1 (fun r' σ2 => K r r' σ2)) :=
  e_bound8 h (fun _ _ h' => e_bound9 h' (fun _ _ h'' => hk _ _ _ h''))
theorem e_line (h : Inv σ) {K : Int32 → Int32 → zST → Prop} (hk : ∀ r r' σ', Inv σ' → K r r' σ') : wp_X8_line a1 a2 a3 σ (fun r σ1 => wp_X9_line a1 a2 a3 σ1 (fun r' σ2 => K r r' σ2)) :=
  e_line8 h (fun _ _ h' => e_line9 h' (fun _ _ h'' => hk _ _ _ h''))
theorem e_convoy (h : Inv σ) {K : Int32 → Int32 → zST → Prop} (hk : ∀ r r' σ', Inv σ' → K r r' σ') : wp_X8_convoy a1 a2 σ (fun r σ1 => wp_X9_convoy a1 a2 σ1 (fun r' => K r r' σ1)) :=
  e_convoy8 h (fun _ _ h' => e_convoy9 h' (fun _ => hk _ _ _ h'))
end S
end
