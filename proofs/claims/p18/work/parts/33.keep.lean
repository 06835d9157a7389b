/-! copies; judge, behind, done -/
section S
variable {σ σ0 : zST} {S : zSea} {k : Nat} {P : zST → Prop} {s : Nat → Int32} {c : Nat} {a1 a2 a3 a4 a5 : Int32}
theorem zcpy {x y m : Nat} {n : Int32} (hn : n.toNatClampNeg = m) (z j : Nat) : (wRI σ y (va_cpy (σ.1 x) (σ.1 y) (0 : Int32).toNatClampNeg (0 : Int32).toNatClampNeg n.toNatClampNeg)).1 z j = if z = y ∧ j < m then σ.1 x j else σ.1 z j := by
  rw [hn]
  show (if z = y then va_cpy (σ.1 x) (σ.1 y) 0 0 m j else σ.1 z j) = _
  by_cases e : z = y
  · rw [if_pos e]
    unfold va_cpy
    by_cases q : j < m
    · rw [if_pos ⟨Nat.zero_le _, by omega⟩, if_pos ⟨e, q⟩]
      simp
    · rw [if_neg (by omega), if_neg (by omega), e]
  · rw [if_neg e, if_neg (fun q => e q.1)]
theorem i_become6 {a b : Nat} (hab : a + 7 < b ∨ b + 7 < a) (h : ∀ σ' : zST, (∀ x j, x < a ∨ a + 7 < x → σ'.1 x j = σ.1 x j) → σ'.1 a 0 = σ.1 b 0 → σ'.1 a 7 = σ.1 b 7 → (∀ r j, 1 ≤ r → r ≤ 7 → j < zl r → σ'.1 (a + r) j = σ.1 (b + r) j) → P σ') : wp_X6_become a b σ P := by
  intro σ1 e1 σ2 e2 σ3 e3 σ4 e4 σ5 e5 σ6 e6 σ7 e7 σ8 e8
  have h1 : ∀ z j, σ1.1 z j = if z = a ∧ j = 0 then σ.1 b 0 else σ.1 z j := fun z j => by rw [e1, wI_at]
  have h2 : ∀ z j, σ2.1 z j = if z = a + 1 ∧ j < 6 then σ1.1 (b + 1) j else σ1.1 z j := fun z j => by rw [e2]; exact zcpy rfl z j
  have h3 : ∀ z j, σ3.1 z j = if z = a + 2 ∧ j < 6 then σ2.1 (b + 2) j else σ2.1 z j := fun z j => by rw [e3]; exact zcpy rfl z j
  have h4 : ∀ z j, σ4.1 z j = if z = a + 3 ∧ j < 6 then σ3.1 (b + 3) j else σ3.1 z j := fun z j => by rw [e4]; exact zcpy rfl z j
  have h5 : ∀ z j, σ5.1 z j = if z = a + 4 ∧ j < 6 then σ4.1 (b + 4) j else σ4.1 z j := fun z j => by rw [e5]; exact zcpy rfl z j
  have h6 : ∀ z j, σ6.1 z j = if z = a + 5 ∧ j < 8 then σ5.1 (b + 5) j else σ5.1 z j := fun z j => by rw [e6]; exact zcpy rfl z j
  have h7 : ∀ z j, σ7.1 z j = if z = a + 6 ∧ j < 24 then σ6.1 (b + 6) j else σ6.1 z j := fun z j => by rw [e7]; exact zcpy rfl z j
  have h8 : ∀ z j, σ8.1 z j = if z = a ∧ j = 7 then σ7.1 b 7 else σ7.1 z j := fun z j => by rw [e8, wI_at]
  generalize e9 : wRI σ8 (a + 7) (va_cpy (σ8.1 (b + 7)) (σ8.1 (a + 7)) (0 : Int32).toNatClampNeg (0 : Int32).toNatClampNeg (3 : Int32).toNatClampNeg) = σ9
  have h9 : ∀ z j, σ9.1 z j = if z = a + 7 ∧ j < 3 then σ8.1 (b + 7) j else σ8.1 z j := fun z j => by rw [← e9]; exact zcpy rfl z j
  have far : ∀ z j, z < a ∨ a + 7 < z → σ1.1 z j = σ.1 z j ∧ σ2.1 z j = σ.1 z j ∧ σ3.1 z j = σ.1 z j ∧ σ4.1 z j = σ.1 z j ∧ σ5.1 z j = σ.1 z j ∧ σ6.1 z j = σ.1 z j ∧ σ7.1 z j = σ.1 z j ∧ σ8.1 z j = σ.1 z j ∧ σ9.1 z j = σ.1 z j := by
    intro z j hz
    have q1 : σ1.1 z j = σ.1 z j := by rw [h1, if_neg (by omega)]
    have q2 : σ2.1 z j = σ.1 z j := by rw [h2, if_neg (by omega), q1]
    have q3 : σ3.1 z j = σ.1 z j := by rw [h3, if_neg (by omega), q2]
    have q4 : σ4.1 z j = σ.1 z j := by rw [h4, if_neg (by omega), q3]
    have q5 : σ5.1 z j = σ.1 z j := by rw [h5, if_neg (by omega), q4]
    have q6 : σ6.1 z j = σ.1 z j := by rw [h6, if_neg (by omega), q5]
    have q7 : σ7.1 z j = σ.1 z j := by rw [h7, if_neg (by omega), q6]
    have q8 : σ8.1 z j = σ.1 z j := by rw [h8, if_neg (by omega), q7]
    exact ⟨q1, q2, q3, q4, q5, q6, q7, q8, by rw [h9, if_neg (by omega), q8]⟩
  refine h σ9 (fun x j hx => (far x j hx).2.2.2.2.2.2.2.2) ?_ ?_ (fun r j h1r h7r hj => ?_)
  · rw [h9, if_neg (by omega), h8, if_neg (by omega), h7, if_neg (by omega), h6, if_neg (by omega), h5, if_neg (by omega), h4, if_neg (by omega), h3, if_neg (by omega), h2, if_neg (by omega), h1, if_pos ⟨rfl, rfl⟩]
  · rw [h9, if_neg (by omega), h8, if_pos ⟨rfl, rfl⟩]
    exact (far b 7 (by omega)).2.2.2.2.2.2.1
  · match r, h1r, h7r with
    | 1, _, _ =>
      have hj : j < 6 := hj
      rw [h9, if_neg (by omega), h8, if_neg (by omega), h7, if_neg (by omega), h6, if_neg (by omega), h5, if_neg (by omega), h4, if_neg (by omega), h3, if_neg (by omega), h2, if_pos ⟨rfl, hj⟩]
      exact (far (b + 1) j (by omega)).1
    | 2, _, _ =>
      have hj : j < 6 := hj
      rw [h9, if_neg (by omega), h8, if_neg (by omega), h7, if_neg (by omega), h6, if_neg (by omega), h5, if_neg (by omega), h4, if_neg (by omega), h3, if_pos ⟨rfl, hj⟩]
      exact (far (b + 2) j (by omega)).2.1
    | 3, _, _ =>
      have hj : j < 6 := hj
      rw [h9, if_neg (by omega), h8, if_neg (by omega), h7, if_neg (by omega), h6, if_neg (by omega), h5, if_neg (by omega), h4, if_pos ⟨rfl, hj⟩]
      exact (far (b + 3) j (by omega)).2.2.1
    | 4, _, _ =>
      have hj : j < 6 := hj
      rw [h9, if_neg (by omega), h8, if_neg (by omega), h7, if_neg (by omega), h6, if_neg (by omega), h5, if_pos ⟨rfl, hj⟩]
      exact (far (b + 4) j (by omega)).2.2.2.1
    | 5, _, _ =>
      have hj : j < 8 := hj
      rw [h9, if_neg (by omega), h8, if_neg (by omega), h7, if_neg (by omega), h6, if_pos ⟨rfl, hj⟩]
      exact (far (b + 5) j (by omega)).2.2.2.2.1
    | 6, _, _ =>
      have hj : j < 24 := hj
      rw [h9, if_neg (by omega), h8, if_neg (by omega), h7, if_pos ⟨rfl, hj⟩]
      exact (far (b + 6) j (by omega)).2.2.2.2.2.1
    | 7, _, _ =>
      have hj : j < 3 := hj
      rw [h9, if_pos ⟨rfl, hj⟩]
      exact (far (b + 7) j (by omega)).2.2.2.2.2.2.2.1
theorem mV_fr2 {σ σ' : zST} (h : ∀ a k, (74 ≤ a ∧ a ≤ 79) ∨ (70 ≤ a ∧ a ≤ 73 ∧ k < 6) ∨ (a = 69 ∧ k ≤ 26) → σ'.1 a k = σ.1 a k) {r k : Nat} (hk : k < zLen r) : mV σ' r k = mV σ r k := by
  have hr := zLen13 hk
  have hkk := zLen24 hk
  match r, hr with
  | 0, _ =>
    match k, hk with
    | 0, _ => exact h _ _ (by omega)
    | 1, _ => exact h _ _ (by omega)
    | 2, _ => exact h _ _ (by omega)
    | 3, _ => exact h _ _ (by omega)
    | 4, _ => exact h _ _ (by omega)
    | k + 5, h5 => exact absurd h5 (by simp [zLen])
  | 1, _ => have : k < 6 := hk; exact h _ _ (by omega)
  | 2, _ => have : k < 6 := hk; exact h _ _ (by omega)
  | 3, _ => have : k < 6 := hk; exact h _ _ (by omega)
  | 4, _ => have : k < 6 := hk; exact h _ _ (by omega)
  | 5, _ => have : k < 8 := hk; exact h _ _ (by omega)
  | 6, _ => exact h _ _ (by omega)
  | 7, _ => have : k < 3 := hk; exact h _ _ (by omega)
  | 8, _ => exact h _ _ (by omega)
  | 9, _ => exact h _ _ (by omega)
  | 10, _ => exact h _ _ (by omega)
  | 11, _ => exact h _ _ (by omega)
  | 12, _ =>
    show σ'.1 79 k - zpc (σ'.1 78 k) = σ.1 79 k - zpc (σ.1 78 k)
    rw [h 79 k (by omega), h 78 k (by omega)]
theorem Inv_fr2 {σ σ' : zST} (h : ∀ a k, a = 0 ∨ (2 ≤ a ∧ a ≤ 53) ∨ (74 ≤ a ∧ a ≤ 80) ∨ (70 ≤ a ∧ a ≤ 73 ∧ k < 6) ∨ a = 85 ∨ a = 86 ∨ (a = 69 ∧ k ≤ 27) → σ'.1 a k = σ.1 a k) (hI : Inv σ) : Inv σ' := by
  refine ⟨?_, IP_fr (fun a k x => h a k (by omega)) hI.2.1, II_fr (fun a k x => h a k (by omega)) hI.2.2⟩
  have h1 : ∀ r k, cV σ' 1 r k = cV σ 1 r k := cV_fr (fun a k x y => h a k (by omega))
  refine ⟨fun r k hk => ?_, OKV_fr (fun r k _ => h1 r k) hI.1.2⟩
  rw [h1, hI.1.1 r k hk]
  exact (mV_fr2 (fun a k x => h a k (by omega)) hk).symm
theorem i_keepL {σ0 : zST} (fin : ∀ σ' : zST, (∀ a j, a ≠ 81 → σ'.1 a j = σ0.1 a j) → (∀ k, k < 6 → σ'.1 81 k = σ0.1 70 k ∧ σ'.1 81 (6 + k) = σ0.1 71 k ∧ σ'.1 81 (12 + k) = σ0.1 72 k ∧ σ'.1 81 (18 + k) = σ0.1 73 k) → P σ') :
    ∀ m i, m + i = 6 → ∀ σ' : zST, (∀ a j, a ≠ 81 → σ'.1 a j = σ0.1 a j) → (∀ k, k < i → σ'.1 81 k = σ0.1 70 k ∧ σ'.1 81 (6 + k) = σ0.1 71 k ∧ σ'.1 81 (12 + k) = σ0.1 72 k ∧ σ'.1 81 (18 + k) = σ0.1 73 k) → wp_X9_keepNow_L2 P (m + 1) (nI i) σ' := by
  intro m
  induction m with
  | zero =>
    intro i hi σ' h1 h2
    unfold wp_X9_keepNow_L2
    rw [if_pos (by rw [show i = 6 by omega]; decide)]
    exact fin σ' h1 (fun k hk => h2 k (by omega))
  | succ m ih =>
    intro i hi σ' h1 h2
    unfold wp_X9_keepNow_L2
    rw [if_neg (by rw [Int32.le_iff_toInt_le, nI_toInt (by omega)]; show ¬ (6 : Int) ≤ i; omega)]
    have v6 : vp_in (nI i) 6 := vp_in_nI (by omega) (by omega)
    have e6 : (6 : Int32) + nI i = nI (6 + i) := nI_add 6 i
    have e12 : (12 : Int32) + nI i = nI (12 + i) := nI_add 12 i
    have e18 : (18 : Int32) + nI i = nI (18 + i) := nI_add 18 i
    rw [e6, e12, e18, nI_clamp (by omega), nI_clamp (by omega), nI_clamp (by omega), nI_clamp (by omega), nI_1]
    refine ⟨v6, vp_in_nI (by omega) (by omega), v6, ?_⟩
    intro σ5 e5
    have h5 : ∀ a j, σ5.1 a j = if a = 81 ∧ j = i then σ'.1 70 i else σ'.1 a j := fun a j => by rw [e5, wI_at]
    refine ⟨vp_in_nI (by omega) (by omega), v6, ?_⟩
    intro σ8 e8
    have h8 : ∀ a j, σ8.1 a j = if a = 81 ∧ j = 6 + i then σ5.1 71 i else σ5.1 a j := fun a j => by rw [e8, wI_at]
    refine ⟨vp_in_nI (by omega) (by omega), v6, ?_⟩
    intro σ11 e11
    have h11 : ∀ a j, σ11.1 a j = if a = 81 ∧ j = 12 + i then σ8.1 72 i else σ8.1 a j := fun a j => by rw [e11, wI_at]
    refine ⟨vp_in_nI (by omega) (by omega), ?_⟩
    have hf : ∀ a j, (wI σ11 81 (18 + i) (σ11.1 73 i)).1 a j = if a = 81 ∧ j = 18 + i then σ0.1 73 i else if a = 81 ∧ j = 12 + i then σ0.1 72 i else if a = 81 ∧ j = 6 + i then σ0.1 71 i else if a = 81 ∧ j = i then σ0.1 70 i else σ'.1 a j := by
      intro a j
      have q1 : σ11.1 73 i = σ0.1 73 i := by rw [h11, if_neg (by omega), h8, if_neg (by omega), h5, if_neg (by omega)]; exact h1 73 i (by omega)
      have q2 : σ8.1 72 i = σ0.1 72 i := by rw [h8, if_neg (by omega), h5, if_neg (by omega)]; exact h1 72 i (by omega)
      have q3 : σ5.1 71 i = σ0.1 71 i := by rw [h5, if_neg (by omega)]; exact h1 71 i (by omega)
      rw [wI_at, q1, h11, q2, h8, q3, h5, h1 70 i (by omega)]
    refine ih (i + 1) (by omega) _ (fun a j ha => ?_) (fun k hk => ?_)
    · rw [hf]; (repeat rw [if_neg (by omega)]); exact h1 a j ha
    · rcases Nat.lt_or_ge k i with q | q
      · obtain ⟨w1, w2, w3, w4⟩ := h2 k q
        refine ⟨?_, ?_, ?_, ?_⟩
        · rw [hf]; (repeat rw [if_neg (by omega)]); exact w1
        · rw [hf]; (repeat rw [if_neg (by omega)]); exact w2
        · rw [hf]; (repeat rw [if_neg (by omega)]); exact w3
        · rw [hf]; (repeat rw [if_neg (by omega)]); exact w4
      · obtain rfl : k = i := by omega
        refine ⟨?_, ?_, ?_, ?_⟩
        · rw [hf, if_neg (by omega), if_neg (by omega), if_neg (by omega), if_pos (by omega)]
        · rw [hf, if_neg (by omega), if_neg (by omega), if_pos (by omega)]
        · rw [hf, if_neg (by omega), if_pos (by omega)]
        · rw [hf, if_pos (by omega)]
def zHad (σ σ0 : zST) : Prop := (∀ k, k < 6 → σ.1 81 k = σ0.1 70 k ∧ σ.1 81 (6 + k) = σ0.1 71 k ∧ σ.1 81 (12 + k) = σ0.1 72 k ∧ σ.1 81 (18 + k) = σ0.1 73 k) ∧ σ.1 81 24 = σ0.1 69 12 ∧ σ.1 81 25 = σ0.1 69 15 ∧ σ.1 81 26 = σ0.1 69 16 ∧ σ.1 81 27 = σ0.1 69 17
theorem i_keepNow (h : ∀ σ' : zST, (∀ a j, a ≠ 81 → σ'.1 a j = σ.1 a j) → zHad σ' σ → P σ') : wp_X9_keepNow σ P := by
  refine ⟨7, i_keepL (σ0 := σ) (fun σ1 h1 h2 => ?_) 6 0 rfl σ (fun a j _ => rfl) (fun k hk => by omega)⟩
  intro σ13 e13 σ14 e14 σ15 e15
  have hf : ∀ a j, (wI σ15 81 (27 : Int32).toNatClampNeg (σ15.1 69 17)).1 a j = if a = 81 ∧ j = 27 then σ.1 69 17 else if a = 81 ∧ j = 26 then σ.1 69 16 else if a = 81 ∧ j = 25 then σ.1 69 15 else if a = 81 ∧ j = 24 then σ.1 69 12 else σ1.1 a j := by
    intro a j
    have h13 : ∀ a j, σ13.1 a j = if a = 81 ∧ j = 24 then σ1.1 69 12 else σ1.1 a j := fun a j => by rw [e13]; rfl
    have h14 : ∀ a j, σ14.1 a j = if a = 81 ∧ j = 25 then σ13.1 69 15 else σ13.1 a j := fun a j => by rw [e14]; rfl
    have h15 : ∀ a j, σ15.1 a j = if a = 81 ∧ j = 26 then σ14.1 69 16 else σ14.1 a j := fun a j => by rw [e15]; rfl
    have q1 : σ15.1 69 17 = σ.1 69 17 := by rw [h15, if_neg (by omega), h14, if_neg (by omega), h13, if_neg (by omega)]; exact h1 69 17 (by omega)
    have q2 : σ14.1 69 16 = σ.1 69 16 := by rw [h14, if_neg (by omega), h13, if_neg (by omega)]; exact h1 69 16 (by omega)
    have q3 : σ13.1 69 15 = σ.1 69 15 := by rw [h13, if_neg (by omega)]; exact h1 69 15 (by omega)
    rw [wI_at, q1, h15, q2, h14, q3, h13, h1 69 12 (by omega)]
    rfl
  generalize wI σ15 81 (27 : Int32).toNatClampNeg (σ15.1 69 17) = σ' at hf ⊢
  refine h σ' (fun a j ha => ?_) ⟨fun k hk => ?_, ?_, ?_, ?_, ?_⟩
  · rw [hf]; (repeat rw [if_neg (by omega)]); exact h1 a j ha
  · obtain ⟨w1, w2, w3, w4⟩ := h2 k hk
    refine ⟨?_, ?_, ?_, ?_⟩
    · rw [hf]; (repeat rw [if_neg (by omega)]); exact w1
    · rw [hf]; (repeat rw [if_neg (by omega)]); exact w2
    · rw [hf]; (repeat rw [if_neg (by omega)]); exact w3
    · rw [hf]; (repeat rw [if_neg (by omega)]); exact w4
  · rw [hf, if_neg (by omega), if_neg (by omega), if_neg (by omega), if_pos ⟨rfl, rfl⟩]
  · rw [hf, if_neg (by omega), if_neg (by omega), if_pos ⟨rfl, rfl⟩]
  · rw [hf, if_neg (by omega), if_pos ⟨rfl, rfl⟩]
  · rw [hf, if_pos ⟨rfl, rfl⟩]
theorem i_putL {σ0 : zST} (fin : ∀ σ' : zST, (∀ a j, ¬ (70 ≤ a ∧ a ≤ 73) → σ'.1 a j = σ0.1 a j) → (∀ k, k < 6 → σ'.1 70 k = σ0.1 81 k ∧ σ'.1 71 k = σ0.1 81 (6 + k) ∧ σ'.1 72 k = σ0.1 81 (12 + k) ∧ σ'.1 73 k = σ0.1 81 (18 + k)) → P σ') :
    ∀ m i, m + i = 6 → ∀ σ' : zST, (∀ a j, ¬ (70 ≤ a ∧ a ≤ 73) → σ'.1 a j = σ0.1 a j) → (∀ k, k < i → σ'.1 70 k = σ0.1 81 k ∧ σ'.1 71 k = σ0.1 81 (6 + k) ∧ σ'.1 72 k = σ0.1 81 (12 + k) ∧ σ'.1 73 k = σ0.1 81 (18 + k)) → wp_X9_putBack_L2 P (m + 1) (nI i) σ' := by
  intro m
  induction m with
  | zero =>
    intro i hi σ' h1 h2
    unfold wp_X9_putBack_L2
    rw [if_pos (by rw [show i = 6 by omega]; decide)]
    exact fin σ' h1 (fun k hk => h2 k (by omega))
  | succ m ih =>
    intro i hi σ' h1 h2
    unfold wp_X9_putBack_L2
    rw [if_neg (by rw [Int32.le_iff_toInt_le, nI_toInt (by omega)]; show ¬ (6 : Int) ≤ i; omega)]
    have v6 : vp_in (nI i) 6 := vp_in_nI (by omega) (by omega)
    have e6 : (6 : Int32) + nI i = nI (6 + i) := nI_add 6 i
    have e12 : (12 : Int32) + nI i = nI (12 + i) := nI_add 12 i
    have e18 : (18 : Int32) + nI i = nI (18 + i) := nI_add 18 i
    rw [e6, e12, e18, nI_clamp (by omega), nI_clamp (by omega), nI_clamp (by omega), nI_clamp (by omega), nI_1]
    refine ⟨vp_in_nI (by omega) (by omega), v6, vp_in_nI (by omega) (by omega), ?_⟩
    intro σ5 e5
    have h5 : ∀ a j, σ5.1 a j = if a = 70 ∧ j = i then σ'.1 81 i else σ'.1 a j := fun a j => by rw [e5, wI_at]
    refine ⟨v6, vp_in_nI (by omega) (by omega), ?_⟩
    intro σ8 e8
    have h8 : ∀ a j, σ8.1 a j = if a = 71 ∧ j = i then σ5.1 81 (6 + i) else σ5.1 a j := fun a j => by rw [e8, wI_at]
    refine ⟨v6, vp_in_nI (by omega) (by omega), ?_⟩
    intro σ11 e11
    have h11 : ∀ a j, σ11.1 a j = if a = 72 ∧ j = i then σ8.1 81 (12 + i) else σ8.1 a j := fun a j => by rw [e11, wI_at]
    refine ⟨v6, ?_⟩
    have hf : ∀ a j, (wI σ11 73 i (σ11.1 81 (18 + i))).1 a j = if a = 73 ∧ j = i then σ0.1 81 (18 + i) else if a = 72 ∧ j = i then σ0.1 81 (12 + i) else if a = 71 ∧ j = i then σ0.1 81 (6 + i) else if a = 70 ∧ j = i then σ0.1 81 i else σ'.1 a j := by
      intro a j
      have q1 : σ11.1 81 (18 + i) = σ0.1 81 (18 + i) := by rw [h11, if_neg (by omega), h8, if_neg (by omega), h5, if_neg (by omega)]; exact h1 81 _ (by omega)
      have q2 : σ8.1 81 (12 + i) = σ0.1 81 (12 + i) := by rw [h8, if_neg (by omega), h5, if_neg (by omega)]; exact h1 81 _ (by omega)
      have q3 : σ5.1 81 (6 + i) = σ0.1 81 (6 + i) := by rw [h5, if_neg (by omega)]; exact h1 81 _ (by omega)
      rw [wI_at, q1, h11, q2, h8, q3, h5, h1 81 i (by omega)]
    refine ih (i + 1) (by omega) _ (fun a j ha => ?_) (fun k hk => ?_)
    · rw [hf]; (repeat rw [if_neg (by omega)]); exact h1 a j ha
    · rcases Nat.lt_or_ge k i with q | q
      · obtain ⟨w1, w2, w3, w4⟩ := h2 k q
        refine ⟨?_, ?_, ?_, ?_⟩
        · rw [hf]; (repeat rw [if_neg (by omega)]); exact w1
        · rw [hf]; (repeat rw [if_neg (by omega)]); exact w2
        · rw [hf]; (repeat rw [if_neg (by omega)]); exact w3
        · rw [hf]; (repeat rw [if_neg (by omega)]); exact w4
      · obtain rfl : k = i := by omega
        refine ⟨?_, ?_, ?_, ?_⟩
        · rw [hf, if_neg (by omega), if_neg (by omega), if_neg (by omega), if_pos (by omega)]
        · rw [hf, if_neg (by omega), if_neg (by omega), if_pos (by omega)]
        · rw [hf, if_neg (by omega), if_pos (by omega)]
        · rw [hf, if_pos (by omega)]
theorem i_putBack {σb : zST} (hh : zHad σ σb) (h : ∀ σ' : zST, (∀ a j, ¬ (70 ≤ a ∧ a ≤ 73) → ¬ (a = 69 ∧ (j = 12 ∨ 15 ≤ j ∧ j ≤ 17)) → σ'.1 a j = σ.1 a j) → (∀ a j, 70 ≤ a → a ≤ 73 → j < 6 → σ'.1 a j = σb.1 a j) → σ'.1 69 12 = σb.1 69 12 → σ'.1 69 15 = σb.1 69 15 → σ'.1 69 16 = σb.1 69 16 → σ'.1 69 17 = σb.1 69 17 → P σ') : wp_X9_putBack σ P := by
  obtain ⟨k1, k2, k3, k4, k5⟩ := hh
  refine ⟨7, i_putL (σ0 := σ) (fun σ1 h1 h2 => ?_) 6 0 rfl σ (fun a j _ => rfl) (fun k hk => by omega)⟩
  intro σ13 e13 σ14 e14 σ15 e15
  have hf : ∀ a j, (wI σ15 69 17 (σ15.1 81 (27 : Int32).toNatClampNeg)).1 a j = if a = 69 ∧ j = 17 then σb.1 69 17 else if a = 69 ∧ j = 16 then σb.1 69 16 else if a = 69 ∧ j = 15 then σb.1 69 15 else if a = 69 ∧ j = 12 then σb.1 69 12 else σ1.1 a j := by
    intro a j
    have h13 : ∀ a j, σ13.1 a j = if a = 69 ∧ j = 12 then σ1.1 81 24 else σ1.1 a j := fun a j => by rw [e13]; rfl
    have h14 : ∀ a j, σ14.1 a j = if a = 69 ∧ j = 15 then σ13.1 81 25 else σ13.1 a j := fun a j => by rw [e14]; rfl
    have h15 : ∀ a j, σ15.1 a j = if a = 69 ∧ j = 16 then σ14.1 81 26 else σ14.1 a j := fun a j => by rw [e15]; rfl
    have q1 : σ15.1 81 27 = σb.1 69 17 := by rw [h15, if_neg (by omega), h14, if_neg (by omega), h13, if_neg (by omega), h1 81 27 (by omega)]; exact k5
    have q2 : σ14.1 81 26 = σb.1 69 16 := by rw [h14, if_neg (by omega), h13, if_neg (by omega), h1 81 26 (by omega)]; exact k4
    have q3 : σ13.1 81 25 = σb.1 69 15 := by rw [h13, if_neg (by omega), h1 81 25 (by omega)]; exact k3
    rw [wI_at, show σ15.1 81 (27 : Int32).toNatClampNeg = σb.1 69 17 from q1, h15, q2, h14, q3, h13, h1 81 24 (by omega), k2]
  generalize wI σ15 69 17 (σ15.1 81 (27 : Int32).toNatClampNeg) = σ' at hf ⊢
  refine h σ' (fun a j ha hb => ?_) (fun a j ha hb hj => ?_) ?_ ?_ ?_ ?_
  · rw [hf]; (repeat rw [if_neg (by omega)]); exact h1 a j ha
  · obtain ⟨w1, w2, w3, w4⟩ := h2 j hj
    obtain ⟨v1, v2, v3, v4⟩ := k1 j hj
    rw [hf]; (repeat rw [if_neg (by omega)])
    rcases (show a = 70 ∨ a = 71 ∨ a = 72 ∨ a = 73 by omega) with rfl | rfl | rfl | rfl
    · rw [w1, v1]
    · rw [w2, v2]
    · rw [w3, v3]
    · rw [w4, v4]
  · rw [hf, if_neg (by omega), if_neg (by omega), if_neg (by omega), if_pos ⟨rfl, rfl⟩]
  · rw [hf, if_neg (by omega), if_neg (by omega), if_pos ⟨rfl, rfl⟩]
  · rw [hf, if_neg (by omega), if_pos ⟨rfl, rfl⟩]
  · rw [hf, if_pos ⟨rfl, rfl⟩]
end S
