/-! image, restore -/
section S
variable {σ σ0 σ' : zST} {P : zST → Prop} {a1 : Int32} {n : Nat}
theorem i_become3 {a b : Nat} (hab : a + 2 < b ∨ b + 2 < a) (h : ∀ σ' : zST, (∀ z j, σ'.1 z j = if z = a ∧ j = 0 then σ.1 b 0 else if z = a + 1 ∧ j < 4 then σ.1 (b + 1) j else if z = a + 2 ∧ j < 4 then σ.1 (b + 2) j else σ.1 z j) → P σ') : wp_X3_become a b σ P := by
  intro σ1 e1 σ2 e2
  have h1 : ∀ z j, σ1.1 z j = if z = a ∧ j = 0 then σ.1 b 0 else σ.1 z j := fun z j => by rw [e1, wI_at]
  have h2 : ∀ z j, σ2.1 z j = if z = a + 1 ∧ j < 4 then σ1.1 (b + 1) j else σ1.1 z j := fun z j => by rw [e2]; exact zcpy rfl z j
  refine h _ (fun z j => ?_)
  rw [zcpy (m := 4) rfl, h2 (b + 2), h2 z, if_neg (show ¬ (b + 2 = a + 1 ∧ j < 4) by omega), h1 (b + 2), h1 (b + 1), h1 z, if_neg (show ¬ (b + 2 = a ∧ j = 0) by omega), if_neg (show ¬ (b + 1 = a ∧ j = 0) by omega)]
  (repeat' split) <;> first | rfl | (exfalso; omega)
theorem i_become5 {a b : Nat} (hab : a + 2 < b ∨ b + 2 < a) (h : ∀ σ' : zST, (∀ z j, σ'.1 z j = if z = a ∧ j = 0 then σ.1 b 0 else if z = a + 1 ∧ j < 6 then σ.1 (b + 1) j else if z = a + 2 ∧ j < 6 then σ.1 (b + 2) j else σ.1 z j) → P σ') : wp_X5_become a b σ P := by
  intro σ1 e1 σ2 e2
  have h1 : ∀ z j, σ1.1 z j = if z = a ∧ j = 0 then σ.1 b 0 else σ.1 z j := fun z j => by rw [e1, wI_at]
  have h2 : ∀ z j, σ2.1 z j = if z = a + 1 ∧ j < 6 then σ1.1 (b + 1) j else σ1.1 z j := fun z j => by rw [e2]; exact zcpy rfl z j
  refine h _ (fun z j => ?_)
  rw [zcpy (m := 6) rfl, h2 (b + 2), h2 z, if_neg (show ¬ (b + 2 = a + 1 ∧ j < 6) by omega), h1 (b + 2), h1 (b + 1), h1 z, if_neg (show ¬ (b + 2 = a ∧ j = 0) by omega), if_neg (show ¬ (b + 1 = a ∧ j = 0) by omega)]
  (repeat' split) <;> first | rfl | (exfalso; omega)
theorem i_become1 {a b : Nat} (hab : a + 2 < b ∨ b + 2 < a) (h : ∀ σ' : zST, (∀ z j, σ'.1 z j = if z = a ∧ j = 0 then σ.1 b 0 else if z = a + 1 ∧ j < 8 then σ.1 (b + 1) j else σ.1 z j) → P σ') : wp_X1_become a b σ P := by
  intro σ1 e1
  have h1 : ∀ z j, σ1.1 z j = if z = a ∧ j = 0 then σ.1 b 0 else σ.1 z j := fun z j => by rw [e1, wI_at]
  refine h _ (fun z j => ?_)
  rw [zcpy (m := 8) rfl, h1 (b + 1), h1 z, if_neg (show ¬ (b + 1 = a ∧ j = 0) by omega)]
  (repeat' split) <;> first | rfl | (exfalso; omega)
theorem i_become0 {a b : Nat} (hab : a + 16 < b ∨ b + 16 < a) (h : ∀ σ' : zST, (∀ x j, x ≤ a ∨ a + 16 < x → σ'.1 x j = σ.1 x j) → (∀ r k, k < zLen r → cV σ' a r k = cV σ b r k) → P σ') : wp_X0_become a b σ P := by
  unfold wp_X0_become
  refine i_become6 (by omega) (fun σ2 h2 f0 f7 fr => ?_)
  refine i_become3 (by omega) (fun σ4 h4 => ?_)
  refine i_become1 (by omega) (fun σ6 h6 => ?_)
  refine i_become5 (by omega) (fun σ8 h8 => ?_)
  have far : ∀ x j, x ≤ a ∨ a + 16 < x → σ2.1 x j = σ.1 x j ∧ σ4.1 x j = σ.1 x j ∧ σ6.1 x j = σ.1 x j ∧ σ8.1 x j = σ.1 x j := by
    intro x j hx
    have q2 : σ2.1 x j = σ.1 x j := h2 x j (by omega)
    have q4 : σ4.1 x j = σ.1 x j := by rw [h4]; (repeat rw [if_neg (by omega)]); exact q2
    have q6 : σ6.1 x j = σ.1 x j := by rw [h6]; (repeat rw [if_neg (by omega)]); exact q4
    have q8 : σ8.1 x j = σ.1 x j := by rw [h8]; (repeat rw [if_neg (by omega)]); exact q6
    exact ⟨q2, q4, q6, q8⟩
  have near : ∀ x j, x ≤ a + 8 → σ8.1 x j = σ2.1 x j := by
    intro x j hx
    rw [h8]; (repeat rw [if_neg (by omega)])
    rw [h6]; (repeat rw [if_neg (by omega)])
    rw [h4]; (repeat rw [if_neg (by omega)])
  refine h σ8 (fun x j hx => (far x j hx).2.2.2) (fun r k hk => ?_)
  have hr := zLen13 hk
  match r, hr with
  | 0, _ =>
    match k, hk with
    | 0, _ => exact (near (a + 1) 0 (by omega)).trans f0
    | 1, _ => exact (near (a + 1) 7 (by omega)).trans f7
    | 2, _ =>
      show σ8.1 (a + 9) 0 = σ.1 (b + 9) 0
      rw [h8]; (repeat rw [if_neg (by omega)])
      rw [h6]; (repeat rw [if_neg (by omega)])
      rw [h4, if_pos ⟨rfl, rfl⟩]
      exact (far (b + 9) 0 (by omega)).1
    | 3, _ =>
      show σ8.1 (a + 12) 0 = σ.1 (b + 12) 0
      rw [h8]; (repeat rw [if_neg (by omega)])
      rw [h6, if_pos ⟨rfl, rfl⟩]
      exact (far (b + 12) 0 (by omega)).2.1
    | 4, _ =>
      show σ8.1 (a + 14) 0 = σ.1 (b + 14) 0
      rw [h8, if_pos ⟨rfl, rfl⟩]
      exact (far (b + 14) 0 (by omega)).2.2.1
    | k + 5, h5 => exact absurd h5 (by simp [zLen])
  | 1, _ => show σ8.1 (a + 2) k = σ.1 (b + 2) k; rw [near _ _ (by omega), show a + 2 = a + 1 + 1 by omega, show b + 2 = b + 1 + 1 by omega]; exact fr 1 k (by omega) (by omega) hk
  | 2, _ => show σ8.1 (a + 3) k = σ.1 (b + 3) k; rw [near _ _ (by omega), show a + 3 = a + 1 + 2 by omega, show b + 3 = b + 1 + 2 by omega]; exact fr 2 k (by omega) (by omega) hk
  | 3, _ => show σ8.1 (a + 4) k = σ.1 (b + 4) k; rw [near _ _ (by omega), show a + 4 = a + 1 + 3 by omega, show b + 4 = b + 1 + 3 by omega]; exact fr 3 k (by omega) (by omega) hk
  | 4, _ => show σ8.1 (a + 5) k = σ.1 (b + 5) k; rw [near _ _ (by omega), show a + 5 = a + 1 + 4 by omega, show b + 5 = b + 1 + 4 by omega]; exact fr 4 k (by omega) (by omega) hk
  | 5, _ => show σ8.1 (a + 6) k = σ.1 (b + 6) k; rw [near _ _ (by omega), show a + 6 = a + 1 + 5 by omega, show b + 6 = b + 1 + 5 by omega]; exact fr 5 k (by omega) (by omega) hk
  | 6, _ => show σ8.1 (a + 7) k = σ.1 (b + 7) k; rw [near _ _ (by omega), show a + 7 = a + 1 + 6 by omega, show b + 7 = b + 1 + 6 by omega]; exact fr 6 k (by omega) (by omega) hk
  | 7, _ => show σ8.1 (a + 8) k = σ.1 (b + 8) k; rw [near _ _ (by omega), show a + 8 = a + 1 + 7 by omega, show b + 8 = b + 1 + 7 by omega]; exact fr 7 k (by omega) (by omega) hk
  | 8, _ =>
    have hk : k < 4 := hk
    show σ8.1 (a + 10) k = σ.1 (b + 10) k
    rw [h8]; (repeat rw [if_neg (by omega)])
    rw [h6]; (repeat rw [if_neg (by omega)])
    rw [h4, if_neg (by omega), if_pos (by omega)]
    exact (far (b + 10) k (by omega)).1
  | 9, _ =>
    have hk : k < 4 := hk
    show σ8.1 (a + 11) k = σ.1 (b + 11) k
    rw [h8]; (repeat rw [if_neg (by omega)])
    rw [h6]; (repeat rw [if_neg (by omega)])
    rw [h4, if_neg (by omega), if_neg (by omega), if_pos (by omega)]
    exact (far (b + 11) k (by omega)).1
  | 10, _ =>
    have hk : k < 8 := hk
    show σ8.1 (a + 13) k = σ.1 (b + 13) k
    rw [h8]; (repeat rw [if_neg (by omega)])
    rw [h6, if_neg (by omega), if_pos (by omega)]
    exact (far (b + 13) k (by omega)).2.1
  | 11, _ =>
    have hk : k < 6 := hk
    show σ8.1 (a + 15) k = σ.1 (b + 15) k
    rw [h8, if_neg (by omega), if_pos (by omega)]
    exact (far (b + 15) k (by omega)).2.2.1
  | 12, _ =>
    have hk : k < 6 := hk
    show σ8.1 (a + 16) k = σ.1 (b + 16) k
    rw [h8, if_neg (by omega), if_neg (by omega), if_pos (by omega)]
    exact (far (b + 16) k (by omega)).2.2.1
theorem zlocE : ∀ k, k < 6 → zloc (19 + 6 * k) = (73, k) ∧ zloc (16 + 6 * k) = (70, k) ∧ zloc (17 + 6 * k) = (71, k) ∧ zloc (18 + 6 * k) = (72, k) ∧ zloc (20 + 6 * k) = (78, k) ∧ zloc (21 + 6 * k) = (79, k) := by decide +kernel
theorem zlocF : ∀ k, k < 4 → zloc (52 + 2 * k) = (75, k) ∧ zloc (53 + 2 * k) = (76, k) := by decide +kernel
theorem zlocG : ∀ k, k < 8 → zloc (1 + k) = (69, 5 + k) ∧ zloc (60 + k) = (77, k) ∧ (k < 3 → zloc (10 + k) = (69, 15 + k)) := by decide +kernel
theorem kV_mV {r k : Nat} (e : ∀ u, u < 92 → σ'.1 85 (120 * n + u) = σ.1 (zloc u).1 (zloc u).2) (hk : k < zLen r) : kV σ' n r k = mV σ r k := by
  have hr := zLen13 hk
  have E : ∀ u x y, u < 92 → zloc u = (x, y) → σ'.1 85 (120 * n + u) = σ.1 x y := fun u x y hu hz => by rw [e u hu, hz]
  match r, hr with
  | 0, _ =>
    match k, hk with
    | 0, _ => exact e 0 (by omega)
    | 1, _ => exact e 9 (by omega)
    | 2, _ => exact e 13 (by omega)
    | 3, _ => exact e 14 (by omega)
    | 4, _ => exact e 15 (by omega)
    | k + 5, h5 => exact absurd h5 (by simp [zLen])
  | 1, _ => have hk : k < 6 := hk; exact E _ _ _ (by omega) (zlocE k hk).1
  | 2, _ => have hk : k < 6 := hk; exact E _ _ _ (by omega) (zlocE k hk).2.1
  | 3, _ => have hk : k < 6 := hk; exact E _ _ _ (by omega) (zlocE k hk).2.2.1
  | 4, _ => have hk : k < 6 := hk; exact E _ _ _ (by omega) (zlocE k hk).2.2.2.1
  | 5, _ => have hk : k < 8 := hk; exact E _ _ _ (by omega) (zlocG k hk).1
  | 6, _ => have hk : k < 24 := hk; exact E _ _ _ (by omega) (zlocD k hk)
  | 7, _ => have hk : k < 3 := hk; exact E _ _ _ (by omega) ((zlocG k (by omega)).2.2 hk)
  | 8, _ => have hk : k < 4 := hk; exact E _ _ _ (by omega) (zlocF k hk).1
  | 9, _ => have hk : k < 4 := hk; exact E _ _ _ (by omega) (zlocF k hk).2
  | 10, _ => have hk : k < 8 := hk; exact E _ _ _ (by omega) (zlocG k hk).2.1
  | 11, _ => have hk : k < 6 := hk; exact E _ _ _ (by omega) (zlocE k hk).2.2.2.2.1
  | 12, _ =>
    have hk : k < 6 := hk
    show σ'.1 85 (120 * n + (21 + 6 * k)) - zpc (σ'.1 85 (120 * n + (20 + 6 * k))) = σ.1 79 k - zpc (σ.1 78 k)
    rw [E _ _ _ (by omega) (zlocE k hk).2.2.2.2.1, E _ _ _ (by omega) (zlocE k hk).2.2.2.2.2]
theorem kV_fr2 {r k : Nat} (h : ∀ u, u < 92 → σ'.1 85 (120 * n + u) = σ.1 85 (120 * n + u)) (hk : k < zLen r) : kV σ' n r k = kV σ n r k := by
  have hr := zLen13 hk
  match r, hr with
  | 0, _ =>
    match k, hk with
    | 0, _ => exact h 0 (by omega)
    | 1, _ => exact h 9 (by omega)
    | 2, _ => exact h 13 (by omega)
    | 3, _ => exact h 14 (by omega)
    | 4, _ => exact h 15 (by omega)
    | k + 5, h5 => exact absurd h5 (by simp [zLen])
  | 1, _ => have hk : k < 6 := hk; exact h _ (by omega)
  | 2, _ => have hk : k < 6 := hk; exact h _ (by omega)
  | 3, _ => have hk : k < 6 := hk; exact h _ (by omega)
  | 4, _ => have hk : k < 6 := hk; exact h _ (by omega)
  | 5, _ => have hk : k < 8 := hk; exact h _ (by omega)
  | 6, _ => have hk : k < 24 := hk; exact h _ (by omega)
  | 7, _ => have hk : k < 3 := hk; exact h _ (by omega)
  | 8, _ => have hk : k < 4 := hk; exact h _ (by omega)
  | 9, _ => have hk : k < 4 := hk; exact h _ (by omega)
  | 10, _ => have hk : k < 8 := hk; exact h _ (by omega)
  | 11, _ => have hk : k < 6 := hk; exact h _ (by omega)
  | 12, _ =>
    have hk : k < 6 := hk
    show σ'.1 85 (120 * n + (21 + 6 * k)) - zpc (σ'.1 85 (120 * n + (20 + 6 * k))) = σ.1 85 (120 * n + (21 + 6 * k)) - zpc (σ.1 85 (120 * n + (20 + 6 * k)))
    rw [h _ (by omega), h _ (by omega)]
theorem i_imageBooks {Q : Nat → Prop} (hn : n < 2) (h : Q (18 + 17 * n)) : wp_X8_imageBooks (nI n) σ Q := by
  rcases (show n = 0 ∨ n = 1 by omega) with rfl | rfl
  · unfold wp_X8_imageBooks
    rw [if_pos (by decide)]
    exact h
  · unfold wp_X8_imageBooks
    rw [if_neg (by decide)]
    exact h
theorem zbk (hn : n < 2) : isX0 (18 + 17 * n) := by unfold isX0; omega
theorem z120 : ∀ n, n < 2 → (120 : Int32) * nI n = nI (120 * n + 0) := by decide +kernel
theorem zbit3 : ∀ x, x < 4 → ∀ n, n < 2 → 0 ≤ (nI x ||| ((1 : Int32) <<< (nI n &&& 31))).toInt ∧ (nI x ||| ((1 : Int32) <<< (nI n &&& 31))).toInt ≤ 3 ∧ ((nI x ||| ((1 : Int32) <<< (nI n &&& 31))) >>> (nI n &&& 31)) &&& 1 = 1 ∧ ∀ m, m < 2 → m ≠ n → ((nI x ||| ((1 : Int32) <<< (nI n &&& 31))) >>> (nI m &&& 31)) &&& 1 = (nI x >>> (nI m &&& 31)) &&& 1 := by decide +kernel
theorem zPa_start {m : Int32} (hn : n < 2) (hm : σ.1 69 39 = m) (h : σ.1 69 38 = (120 : Int32) * nI n) : zPa σ m (120 * n) 0 σ :=
  ⟨fun u hu => absurd hu (by omega), fun _ _ _ _ _ => rfl, by rw [h, z120 n hn], hm⟩
theorem s_image (h : Inv σ) {K : Int32 → Int32 → zST → Prop} (hk : ∀ r σ', Inv σ' → K r r σ') : wp_X8_image a1 σ (fun r σ1 => wp_X9_image a1 σ1 (fun r' σ2 => K r r' σ2)) := by
  unfold wp_X8_image
  refine t_within (a := 0) (b := 1) rfl rfl (fun h0 h1 => ?_) (fun hx => ?_)
  · obtain ⟨n, hn, rfl, -⟩ := zN (h := 1) h0 (by omega)
    have hn2 : n < 2 := by omega
    refine i_imageBooks hn2 ⟨zbk hn2, ?_⟩
    refine i_become0 (by omega) (fun σ7 f7 c7 => ?_)
    have e8 : ∀ a j, (wI σ7 0 3 (σ7.1 0 3 ||| (1 : Int32) <<< (nI n &&& 31))).1 a j = if a = 0 ∧ j = 3 then σ.1 0 3 ||| (1 : Int32) <<< (nI n &&& 31) else σ7.1 a j := fun a j => by rw [wI_at, f7 0 3 (by omega)]
    generalize wI σ7 0 3 (σ7.1 0 3 ||| (1 : Int32) <<< (nI n &&& 31)) = σ8 at e8 ⊢
    unfold wp_X9_image
    refine t_in (a := 0) (b := 1) rfl rfl (fun _ _ => ?_) (fun hx => by omega)
    intro σ9 e9
    have h9 : ∀ a j, σ9.1 a j = if a = 69 ∧ j = 39 then 1 else if a = 69 ∧ j = 38 then (120 : Int32) * nI n else σ8.1 a j := fun a j => by rw [e9, wI_at, wI_at]
    refine i_passAll (zPa_start (σ := σ9) (m := 1) hn2 (by rw [h9, if_pos ⟨rfl, rfl⟩]) (by rw [h9, if_neg (by omega), if_pos ⟨rfl, rfl⟩])) (by omega) (fun σ10 w => ?_)
    obtain ⟨w1, w2, -, -⟩ := w
    have hv : ∀ u, zval σ9 1 (120 * n) u = σ9.1 (zloc u).1 (zloc u).2 := fun u => by unfold zval; rw [if_neg (by decide)]
    refine ⟨vp_in_nI (by omega) (by omega), hk _ _ ?_⟩
    rw [nI_clamp (by omega)]
    have h10 : ∀ x y, ¬ (x = 85 ∧ 120 * n ≤ y ∧ y < 120 * n + 92) → ¬ (x = 69 ∧ y = 38) → ¬ (x = 69 ∧ y = 39) → σ10.1 x y = σ8.1 x y := by
      intro x y v1 v2 v3
      have q : σ10.1 x y = σ9.1 x y := by
        by_cases hz : ∃ u, u < 92 ∧ x = (zloc u).1 ∧ y = (zloc u).2
        · obtain ⟨u, hu, rfl, rfl⟩ := hz
          exact (w1 u hu).1.trans (hv u)
        · exact w2 x y (fun u hu q => hz ⟨u, hu, q⟩) v1 v2
      rw [q, h9, if_neg v3, if_neg v2]
    have k10 : ∀ u, u < 92 → σ10.1 85 (120 * n + u) = σ.1 (zloc u).1 (zloc u).2 := by
      intro u hu
      have rg := zloc_rng u hu
      rw [(w1 u hu).2, hv u, h9, if_neg (fun q => by have := rg.2.2 q.1; omega), if_neg (fun q => by have := rg.2.2 q.1; omega), e8, if_neg (by omega), f7 _ _ (by omega)]
    have h11 : ∀ x y, (wI σ10 86 n 1).1 x y = if x = 86 ∧ y = n then 1 else σ10.1 x y := fun x y => wI_at _ _ _ _ _ _
    generalize wI σ10 86 n 1 = σ11 at h11 ⊢
    have keep : ∀ x y, ¬ (x = 85 ∧ 120 * n ≤ y ∧ y < 120 * n + 92) → ¬ (x = 69 ∧ y = 38) → ¬ (x = 69 ∧ y = 39) → ¬ (x = 86 ∧ y = n) → ¬ (x = 0 ∧ y = 3) → (x ≤ 18 + 17 * n ∨ 18 + 17 * n + 16 < x) → σ11.1 x y = σ.1 x y := by
      intro x y v1 v2 v3 v4 v5 v6
      rw [h11, if_neg v4, h10 x y v1 v2 v3, e8, if_neg v5, f7 x y v6]
    have n3 : σ11.1 0 3 = σ.1 0 3 ||| (1 : Int32) <<< (nI n &&& 31) := by rw [h11, if_neg (by omega), h10 _ _ (by omega) (by omega) (by omega), e8, if_pos ⟨rfl, rfl⟩]
    refine ⟨IB_fr (fun a k x => keep a k (by omega) (by omega) (by omega) (by omega) (by omega) (by omega)) h.1, IP_fr (fun a k x => keep a k (by omega) (by omega) (by omega) (by omega) (by omega) (by omega)) h.2.1, ?_⟩
    obtain ⟨⟨b1, b2⟩, b3⟩ := h.2.2
    obtain ⟨x, hx, ex, -⟩ := zN (h := 3) b1 (by omega)
    have zb := zbit3 x (by omega) n hn2
    rw [ex] at n3
    refine ⟨by rw [n3]; exact ⟨zb.1, zb.2.1⟩, fun m hm => ?_⟩
    by_cases e : m = n
    · subst e
      rw [n3, zb.2.2.1]
      refine ⟨by rw [h11, if_pos ⟨rfl, rfl⟩], fun _ => ?_⟩
      have cc : ∀ r k, k < zLen r → cV σ11 (18 + 17 * m) r k = cV σ 1 r k := by
        intro r k hk
        rw [← c7 r k hk]
        exact cV_fr (fun a j x y => by rw [h11, if_neg (by omega), h10 _ _ (by omega) (by omega) (by omega), e8, if_neg (by omega)]) r k
      refine ⟨fun r k hk => ?_, OKV_fr cc h.1.2⟩
      rw [cc r k hk, h.1.1 r k hk]
      refine (kV_mV (fun u hu => ?_) hk).symm
      rw [h11, if_neg (by omega)]
      exact k10 u hu
    · rw [n3, zb.2.2.2 m hm e, ← ex, keep 86 m (by omega) (by omega) (by omega) (by omega) (by omega) (by omega)]
      refine ⟨(b3 m hm).1, fun hz => ?_⟩
      obtain ⟨g1, g2⟩ := (b3 m hm).2 hz
      have cc : ∀ r k, cV σ11 (18 + 17 * m) r k = cV σ (18 + 17 * m) r k := cV_fr (fun a j x y => keep a j (by omega) (by omega) (by omega) (by omega) (by omega) (by omega))
      refine ⟨fun r k hk => ?_, OKV_fr (fun r k _ => cc r k) g2⟩
      rw [cc, g1 r k hk]
      exact (kV_fr2 (fun u hu => keep 85 _ (by omega) (by omega) (by omega) (by omega) (by omega) (by omega)) hk).symm
  · unfold wp_X9_image
    refine t_in (a := 0) (b := 1) rfl rfl (fun _ _ => by omega) (fun _ => hk _ _ h)
theorem s_restore (h : Inv σ) {K : Int32 → Int32 → zST → Prop} (hk : ∀ r σ', Inv σ' → K r r σ') : wp_X8_restore a1 σ (fun r σ1 => wp_X9_restore a1 σ1 (fun r' σ2 => K r r' σ2)) := by
  unfold wp_X8_restore
  refine t_within (a := 0) (b := 1) rfl rfl (fun h0 h1 => ?_) (fun hx => ?_)
  · obtain ⟨n, hn, rfl, -⟩ := zN (h := 1) h0 (by omega)
    have hn2 : n < 2 := by omega
    have hb := (h.2.2.2 n hn2).1
    by_cases hz : σ.1 86 n = 0
    · rw [if_pos (by rw [← hb]; exact hz)]
      unfold wp_X9_restore
      refine t_in (a := 0) (b := 1) rfl rfl (fun _ _ => ?_) (fun hx => by omega)
      refine ⟨vp_in_nI (by omega) (by omega), ?_⟩
      rw [nI_clamp (by omega), if_pos hz]
      exact hk _ _ h
    · rw [if_neg (by rw [← hb]; exact hz)]
      obtain ⟨g1, g2⟩ := (h.2.2.2 n hn2).2 hz
      refine i_imageBooks hn2 ⟨zbk hn2, ?_⟩
      refine i_become0 (by omega) (fun σ8 f8 c8 => ?_)
      unfold wp_X9_restore
      refine t_in (a := 0) (b := 1) rfl rfl (fun _ _ => ?_) (fun hx => by omega)
      refine ⟨vp_in_nI (by omega) (by omega), ?_⟩
      rw [nI_clamp (by omega), f8 86 n (by omega), if_neg hz]
      intro σ9 e9
      have h9 : ∀ a j, σ9.1 a j = if a = 69 ∧ j = 39 then 0 else if a = 69 ∧ j = 38 then (120 : Int32) * nI n else σ8.1 a j := fun a j => by rw [e9, wI_at, wI_at]
      refine i_passAll (zPa_start (σ := σ9) (m := 0) hn2 (by rw [h9, if_pos ⟨rfl, rfl⟩]) (by rw [h9, if_neg (by omega), if_pos ⟨rfl, rfl⟩])) (by omega) (fun σ10 w => hk _ _ ?_)
      obtain ⟨w1, w2, -, -⟩ := w
      have hv : ∀ u, zval σ9 0 (120 * n) u = σ.1 85 (120 * n + u) := fun u => by unfold zval; rw [if_pos rfl, h9, if_neg (by omega), if_neg (by omega), f8 _ _ (by omega)]
      have keep : ∀ x y, ¬ (69 ≤ x ∧ x ≤ 79 ∧ (x = 69 → y ≤ 25)) → ¬ (x = 69 ∧ y = 38) → ¬ (x = 69 ∧ y = 39) → σ10.1 x y = σ8.1 x y := by
        intro x y v1 v2 v3
        by_cases hy : x = 85 ∧ 120 * n ≤ y ∧ y < 120 * n + 92
        · obtain ⟨rfl, y1, y2⟩ := hy
          have := (w1 (y - 120 * n) (by omega)).2
          rw [show 120 * n + (y - 120 * n) = y by omega, hv, show 120 * n + (y - 120 * n) = y by omega] at this
          rw [this, f8 85 y (by omega)]
        · rw [w2 x y (fun u hu q => v1 (by have := zloc_rng u hu; rw [← q.1, ← q.2] at this; exact this)) hy v2, h9, if_neg v3, if_neg v2]
      refine ⟨?_, IP_fr (fun a k x => by rw [keep a k (by omega) (by omega) (by omega), f8 a k (by omega)]) h.2.1, II_fr (fun a k x => by rw [keep a k (by omega) (by omega) (by omega), f8 a k (by omega)]) h.2.2⟩
      have cc : ∀ r k, k < zLen r → cV σ10 1 r k = cV σ (18 + 17 * n) r k := by
        intro r k hk
        rw [← c8 r k hk]
        exact cV_fr (fun a j x y => keep a j (by omega) (by omega) (by omega)) r k
      refine ⟨fun r k hk => ?_, OKV_fr cc g2⟩
      rw [cc r k hk, g1 r k hk, ← kV_mV (n := n) (σ' := σ10) (fun u hu => (w1 u hu).2.trans (w1 u hu).1.symm) hk]
      exact (kV_fr2 (fun u hu => (w1 u hu).2.trans (hv u)) hk).symm
  · unfold wp_X9_restore
    refine t_in (a := 0) (b := 1) rfl rfl (fun _ _ => by omega) (fun _ => hk _ _ h)
end S
