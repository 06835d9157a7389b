/-! bound, line, convoy: they answer -/
theorem z_mul (a b : Nat) : nI a * nI b = nI (a * b) := (Int32.ofNat_mul a b).symm
theorem z_mul3 (a : Nat) : nI a * 3 = nI (a * 3) := z_mul a 3
theorem z_3mul (a : Nat) : 3 * nI a = nI (3 * a) := z_mul 3 a
theorem z_dn (k : Nat) : nI k + -1 = nI k - 1 := (Int32.sub_eq_add_neg (nI k) 1).symm
theorem z_dn0 : nI 0 - 1 < 0 := by decide
theorem z_3le : ∀ i, i ≤ 6 → 1 ≤ 3 ^ i ∧ 3 ^ i ≤ 729 ∧ (i ≤ 5 → 3 ^ i ≤ 243) := by decide
section S
variable {σ σ0 : zST} {P : Int32 → Prop} {Q : zST → Prop} {R : Int32 → zST → Prop} {a1 a2 a3 : Int32} {a : Nat} {v : Int32}
def zF (σ0 σ : zST) (c : Nat) : Prop := (∀ a k, a ≠ 63 → a ≠ 64 → σ.1 a k = σ0.1 a k) ∧ σ.1 63 1 = nI c
theorem e_moored (h1 : 0 ≤ v.toInt → v.toInt ≤ 5 → P 1) (h0 : P 0) : wp_X6_moored a v σ P := by
  refine i_has rfl (fun x y _ => ⟨by rw [if_neg (by decide)]; exact ⟨zv x (by omega), trivial⟩, ?_⟩) (fun _ => ⟨by rw [if_pos rfl]; trivial, ?_⟩)
  · rw [if_neg (by decide)]
    intro z hz
    exact zbit hz (fun _ => h1 x y) (fun _ => h0)
  · rw [if_pos rfl]
    rintro z rfl
    exact ⟨zB0, h0⟩
theorem e_harbour (h1 : 0 ≤ v.toInt → v.toInt ≤ 5 → P 1) (h0 : P 0) : wp_X9_isInHarbour v σ P := by
  refine i_isShip rfl (fun x y _ => ⟨by rw [if_neg (by decide)]; exact ⟨zv x (by omega), trivial⟩, ?_⟩) (fun _ => ⟨by rw [if_pos rfl]; trivial, ?_⟩)
  · rw [if_neg (by decide)]
    intro z hz
    exact zbit hz (fun _ => h1 x y) (fun _ => h0)
  · rw [if_pos rfl]
    rintro z rfl
    exact ⟨zB0, h0⟩
theorem e_gathL34 {c : Nat} (hI : IB σ0) (hc : c < 6) (hv : vp_in v 6) (h0 : 0 ≤ a1.toInt) (h : ∀ σ', zF σ0 σ' c → Q σ') : ∀ n i, n + i = 3 → ∀ σ, zF σ0 σ c → wp_X2_gather_L34 2 a1 v Q (n + 1) (nI i) σ := by
  intro n
  induction n with
  | zero =>
    intro i hi σ hF
    unfold wp_X2_gather_L34
    rw [if_pos (by rw [show i = 3 by omega]; decide)]
    exact h _ hF
  | succ n ih =>
    intro i hi σ hF
    unfold wp_X2_gather_L34
    rw [if_neg (by rw [Int32.le_iff_toInt_le, nI_toInt (by omega)]; show ¬ (3 : Int) ≤ i; omega)]
    have hd := b_digits hI
    have e7 : σ.1 2 7 = σ0.1 2 7 := hF.1 2 7 (by omega) (by omega)
    refine i_meanBy hv h0 (by rw [e7]; exact hd.2.1) (by rw [e7]; exact hd.2.2) ?_
    intro x _
    refine i_worstBy hv h0 (by rw [e7]; exact hd.2.1) (by rw [e7]; exact hd.2.2) ?_
    rw [nI_1, hF.2, z_mul3, nI_add]
    exact ⟨vp_in_nI (by omega) (by omega), ih (i + 1) (by omega) _ hF⟩
theorem e_gathL7 (hI : IB σ0) (h0 : 0 ≤ a1.toInt) (h : ∀ c σ', c ≤ 6 → zF σ0 σ' c → Q σ') : ∀ n i, n + i = 6 → ∀ c σ, c ≤ i → zF σ0 σ c → wp_X2_gather_L7 2 a1 Q (n + 1) (nI i) σ := by
  intro n
  induction n with
  | zero =>
    intro i hi c σ hc hF
    unfold wp_X2_gather_L7
    rw [if_pos (by rw [show i = 6 by omega]; decide)]
    exact h c _ (by omega) hF
  | succ n ih =>
    intro i hi c σ hc hF
    unfold wp_X2_gather_L7
    rw [if_neg (by rw [Int32.le_iff_toInt_le, nI_toInt (by omega)]; show ¬ (6 : Int) ≤ i; omega)]
    rw [nI_1]
    refine e_moored (fun x y => ?_) ?_
    · refine zi1 ?_
      rw [hF.2, nI_clamp (by omega)]
      refine ⟨vp_in_nI (by omega) (by omega), ⟨4, e_gathL34 (c := c) hI (by omega) (vp_in_nI (by omega) (by omega)) h0 (fun σ' hF' => ?_) 3 0 rfl _ ?_⟩⟩
      · refine ih (i + 1) (by omega) (c + 1) _ (by omega) ⟨fun a k n1 n2 => ?_, ?_⟩
        · rw [wI_at, if_neg (by omega)]; exact hF'.1 a k n1 n2
        · rw [wI_at, if_pos ⟨rfl, rfl⟩, hF'.2, nI_1]
      · refine ⟨fun a k n1 n2 => ?_, ?_⟩
        · rw [wI_at, if_neg (by omega)]; exact hF.1 a k n1 n2
        · rw [wI_at, if_neg (by omega)]; exact hF.2
    · exact zi0 (ih (i + 1) (by omega) c σ (by omega) hF)
theorem e_gather (hI : IB σ) (h0 : 0 ≤ a1.toInt) (h : ∀ c σ', c ≤ 6 → zF σ σ' c → Q σ') : wp_X2_gather 2 a1 σ Q := by
  refine ⟨7, e_gathL7 hI h0 h 6 0 rfl 0 _ (by omega) ⟨fun a k n1 n2 => ?_, ?_⟩⟩
  · rw [wI_at, if_neg (by omega)]
  · rw [wI_at, if_pos ⟨rfl, rfl⟩]; rfl
theorem e_spr47 {c k j : Nat} {v1 : Int32} {x : Int64} (hj : j < 6) (hk : k < 243) (h : ∀ σ', zF σ0 σ' c → Q σ') : ∀ n i, n + i = 3 → ∀ σ, zF σ0 σ c → wp_X2_spreadChoices_L47 v1 (nI j) (nI k) x Q (n + 1) (nI i) σ := by
  intro n
  induction n with
  | zero =>
    intro i hi σ hF
    unfold wp_X2_spreadChoices_L47
    rw [if_pos (by rw [show i = 3 by omega]; decide)]
    exact h _ hF
  | succ n ih =>
    intro i hi σ hF
    unfold wp_X2_spreadChoices_L47
    rw [if_neg (by rw [Int32.le_iff_toInt_le, nI_toInt (by omega)]; show ¬ (3 : Int) ≤ i; omega)]
    rw [nI_1, z_mul3, z_mul3, nI_add, nI_add]
    exact ⟨vp_in_nI (by omega) (by omega), vp_in_nI (by omega) (by omega), ih (i + 1) (by omega) _ hF⟩
theorem e_spr32 {c j : Nat} {v1 : Int32} (hj : j < 6) (h : ∀ σ', zF σ0 σ' c → Q σ') : ∀ k, k ≤ 243 → ∀ σ, zF σ0 σ c → wp_X2_spreadChoices_L32 v1 (nI j) Q (k + 1) (nI k - 1) σ := by
  intro k
  induction k with
  | zero =>
    intro _ σ hF
    unfold wp_X2_spreadChoices_L32
    rw [if_pos z_dn0]
    exact h _ hF
  | succ k ih =>
    intro hk σ hF
    unfold wp_X2_spreadChoices_L32
    rw [nI_pred, if_neg (nI_pos (by omega)), z_dn]
    refine ⟨vp_in_nI (by omega) (by omega), ?_⟩
    intro x _
    exact ⟨4, e_spr47 hj (by omega) (fun σ' hF' => ih (by omega) _ hF') 3 0 rfl _ hF⟩
theorem e_spr11 {c : Nat} (hc : c ≤ 6) (h : ∀ i σ', i ≤ 6 → zF σ0 σ' c → R (nI (3 ^ i)) σ') : ∀ n i, n + i = c → ∀ σ, zF σ0 σ c → wp_X2_spreadChoices_L11 R (n + 1) (nI (3 ^ i)) (nI i) σ := by
  intro n
  induction n with
  | zero =>
    intro i hi σ hF
    unfold wp_X2_spreadChoices_L11
    rw [if_pos (by rw [hF.2]; exact nI_le (by omega) (by omega))]
    exact h i _ (by omega) hF
  | succ n ih =>
    intro i hi σ hF
    unfold wp_X2_spreadChoices_L11
    have p3 := z_3le i (by omega)
    split
    · exact h i _ (by omega) hF
    · split
      · exact h i _ (by omega) hF
      · rintro _ rfl
        refine ⟨3 ^ i + 1, e_spr32 (by omega) (fun σ' hF' => ?_) (3 ^ i) (p3.2.2 (by omega)) _ hF⟩
        rintro _ rfl
        rw [z_mul3, nI_1, ← Nat.pow_succ]
        exact ih (i + 1) (by omega) _ hF'
theorem e_spread {c : Nat} (hc : c ≤ 6) (hF : zF σ0 σ c) (h : ∀ i σ', i ≤ 6 → zF σ0 σ' c → R (nI (3 ^ i)) σ') : wp_X2_spreadChoices σ R :=
  ⟨c + 1, e_spr11 hc h c 0 rfl _ hF⟩
theorem e_leastL {c m : Nat} {v1 : Int32} (hm : m ≤ 729) (h : ∀ r σ', r = -6 ∨ (∃ k, k < 729 ∧ r = nI k) → zF σ0 σ' c → R r σ') : ∀ n i, n + i = m → ∀ r σ, r = -6 ∨ (∃ k, k < 729 ∧ r = nI k) → zF σ0 σ c → wp_X2_leastWithin_L11 v1 (nI m) R (n + 1) r (nI i) σ := by
  intro n
  induction n with
  | zero =>
    intro i hi r σ hr hF
    unfold wp_X2_leastWithin_L11
    rw [if_pos (nI_le (by omega) (by omega))]
    exact h _ _ hr hF
  | succ n ih =>
    intro i hi r σ hr hF
    unfold wp_X2_leastWithin_L11
    have hv : vp_in (nI i) 729 := vp_in_nI (by omega) (by omega)
    rw [if_neg (nI_ge (by omega) (by omega)), nI_1]
    refine ⟨hv, ?_⟩
    show if v1 < _ then _ else _
    split
    · exact ih (i + 1) (by omega) _ _ hr hF
    · by_cases e : r = -6
      · rw [if_pos e]
        exact ih (i + 1) (by omega) _ _ (Or.inr ⟨i, by omega, rfl⟩) hF
      · rw [if_neg e]
        refine ⟨hv, ?_⟩
        obtain ⟨k, hk, rfl⟩ := hr.resolve_left e
        refine ⟨vp_in_nI hk (by omega), ?_⟩
        show if _ ≤ _ then _ else _
        split
        · exact ih (i + 1) (by omega) _ _ hr hF
        · exact ih (i + 1) (by omega) _ _ (Or.inr ⟨i, by omega, rfl⟩) hF
theorem e_least {c : Nat} (hc : c ≤ 6) (hF : zF σ0 σ c) (h : ∀ r σ', r = -6 ∨ (∃ k, k < 729 ∧ r = nI k) → zF σ0 σ' c → R r σ') : wp_X2_leastWithin a1 σ R :=
  e_spread hc hF (fun i σ' hi hF' => ⟨3 ^ i + 1, e_leastL (z_3le i hi).2.1 h (3 ^ i) 0 rfl _ _ (Or.inl rfl) hF'⟩)
theorem e_meanCh (h : ∀ r, P r) : wp_X2_meanOfChoice v σ P := by
  refine t_within (a := 0) (b := 728) rfl rfl (fun x y => ⟨zv x (by omega), ?_⟩) (fun _ => h _)
  exact h _
theorem e_sideL (h : ∀ r, P r) : ∀ k, k ≤ 6 → ∀ x, wp_X2_sideInChoice_L10 v σ P (k + 1) x (nI k - 1) := by
  intro k
  induction k with
  | zero =>
    intro _ x
    unfold wp_X2_sideInChoice_L10
    rw [if_pos z_dn0]
    exact h _
  | succ k ih =>
    intro hk x
    unfold wp_X2_sideInChoice_L10
    rw [nI_pred, if_neg (nI_pos (by omega)), z_dn]
    refine ⟨vp_in_nI (by omega) (by omega), ?_⟩
    split
    · exact h _
    · intro y _
      exact ih (by omega) y
theorem e_side {c : Nat} (hc : c ≤ 6) (hF : zF σ0 σ c) (h : ∀ r, P r) : wp_X2_sideInChoice a1 v σ P := by
  unfold wp_X2_sideInChoice
  rw [hF.2]
  rintro _ rfl
  exact ⟨c + 1, e_sideL h c hc _⟩
theorem e_mallL {c s : Nat} (hc : c ≤ 6) (hs : s < 3) (hF : zF σ0 σ c) (h : ∀ r, P r) : ∀ n i, n + i = c → ∀ x, wp_X2_meanOfAllBy_L4 (nI s) σ P (n + 1) x (nI i) := by
  intro n
  induction n with
  | zero =>
    intro i hi x
    unfold wp_X2_meanOfAllBy_L4
    rw [if_pos (by rw [hF.2]; exact nI_le (by omega) (by omega))]
    exact h _
  | succ n ih =>
    intro i hi x
    unfold wp_X2_meanOfAllBy_L4
    rw [hF.2, if_neg (nI_ge (by omega) (by omega)), nI_1, z_mul3, nI_add]
    refine ⟨vp_in_nI (by omega) (by omega), ?_⟩
    intro y _
    exact ih (i + 1) (by omega) y
theorem e_mall {c s : Nat} (hc : c ≤ 6) (hs : s < 3) (hF : zF σ0 σ c) (h : ∀ r, P r) : wp_X2_meanOfAllBy (nI s) σ P := ⟨c + 1, e_mallL hc hs hF h c 0 rfl _⟩
theorem e_commL {c : Nat} (hc : c ≤ 6) (hF : zF σ0 σ c) (h : ∀ s, s < 3 → P (nI s)) : ∀ n i, n + i = 3 → ∀ s, s < 3 → wp_X2_commonSide_L4 σ P (n + 1) (nI s) (nI i) := by
  intro n
  induction n with
  | zero =>
    intro i hi s hs
    unfold wp_X2_commonSide_L4
    rw [if_pos (by rw [show i = 3 by omega]; decide)]
    exact h s hs
  | succ n ih =>
    intro i hi s hs
    unfold wp_X2_commonSide_L4
    rw [if_neg (by rw [Int32.le_iff_toInt_le, nI_toInt (by omega)]; show ¬ (3 : Int) ≤ i; omega)]
    rw [nI_1]
    refine e_mall hc (by omega) hF (fun r => ?_)
    refine e_mall hc hs hF (fun r' => ?_)
    split
    · exact ih (i + 1) (by omega) s hs
    · exact ih (i + 1) (by omega) i (by omega)
theorem e_comm {c : Nat} (hc : c ≤ 6) (hF : zF σ0 σ c) (h : ∀ s, s < 3 → P (nI s)) : wp_X2_commonSide σ P := ⟨3, e_commL hc hF h 2 1 rfl 0 (by omega)⟩
theorem e_J153 {v1 v2 v3 v4 v5 v7 : Int32} {x : Int64} {c u : Nat} {K : Int32 → Int32 → Int32 → Int32 → Int32 → zST → Prop} (hu : u ≤ 729) (hF : zF σ0 σ c) (h : ∀ u' σ', u' ≤ 729 → zF σ0 σ' c → K v3 v4 v5 (nI u') (v7 + 1) σ') : wp_X2_widenFront_J153 v1 v2 v3 v4 v5 (nI u) v7 x σ K := by
  unfold wp_X2_widenFront_J153
  split
  · exact h u _ hu hF
  · rename_i q
    have hlt : u < 729 := by
      rw [Int32.le_iff_toInt_le, nI_toInt (by omega)] at q
      have q : ¬ (729 : Int) ≤ u := q
      omega
    have hv : vp_in (nI u) 729 := vp_in_nI hlt (by omega)
    have put : K v3 v4 v5 (nI u + 1) (v7 + 1) (wL σ 68 (nI u).toNatClampNeg x) := by
      rw [nI_1]
      exact h (u + 1) _ (by omega) hF
    by_cases e : nI u = 0
    · rw [if_pos e]
      exact ⟨hv, put⟩
    · rw [if_neg e]
      have h1 : 1 ≤ u := by
        rcases Nat.eq_zero_or_pos u with z | z
        · subst z
          exact absurd rfl e
        · exact z
      refine ⟨?_, ?_⟩
      · obtain ⟨t, rfl⟩ : ∃ t, u = t + 1 := ⟨u - 1, by omega⟩
        rw [nI_pred]
        exact vp_in_nI (by omega) (by omega)
      · show if _ ≤ _ then _ else _
        split
        · exact h u _ hu hF
        · exact ⟨hv, put⟩
theorem e_widL {c f j : Nat} (hf : f ≤ 729) (hj : j < 6) (h : ∀ u σ', u ≤ 729 → zF σ0 σ' c → R (nI u) σ') : ∀ n t, n + t = 3 * f → ∀ x y z u σ, x ≤ t → y ≤ t → z ≤ t → u ≤ 729 → zF σ0 σ c → wp_X2_widenFront_L14 (nI f) (nI (j * 3)) R (n + 1) (nI x) (nI y) (nI z) (nI u) (nI t) σ := by
  intro n
  induction n with
  | zero =>
    intro t ht x y z u σ hx hy hz hu hF
    unfold wp_X2_widenFront_L14
    rw [z_3mul, if_pos (nI_le (by omega) (by omega))]
    refine ⟨⟨by decide, by decide, nI_pos (by omega), ?_, ?_⟩, h u _ hu hF⟩
    · rw [nI_clamp (by omega)]
      show 0 + u ≤ 729
      omega
    · rw [nI_clamp (by omega)]
      show 0 + u ≤ 729
      omega
  | succ n ih =>
    intro t ht x y z u σ hx hy hz hu hF
    unfold wp_X2_widenFront_L14
    have ok : ∀ x k, x ≤ t → k < 3 → (if nI f ≤ nI x then True else vp_in (nI x) 729 ∧ vp_in (nI (j * 3 + k)) 18 ∧ True) := by
      intro x k hx hk
      split
      · trivial
      · rename_i q
        rw [nI_leI (by omega) (by omega)] at q
        exact ⟨vp_in_nI (by omega) (by omega), vp_in_nI (by omega) (by omega), trivial⟩
    have e1 : nI (j * 3) + 1 = nI (j * 3 + 1) := nI_add _ 1
    have e2 : nI (j * 3) + 2 = nI (j * 3 + 2) := nI_add _ 2
    rw [z_3mul, if_neg (nI_ge (by omega) (by omega)), e1, e2]
    refine ⟨ok x 0 hx (by omega), ?_⟩
    intro z4 _
    refine ⟨ok y 1 hy (by omega), ?_⟩
    intro z10 _
    refine ⟨ok z 2 hz (by omega), ?_⟩
    intro z16 _ x21 _
    split
    · refine e_J153 hu hF (fun u' σ' hu' hF' => ?_)
      rw [nI_1, nI_1]
      exact ih (t + 1) (by omega) _ _ _ _ _ (by omega) (by omega) (by omega) hu' hF'
    · split
      · refine e_J153 hu hF (fun u' σ' hu' hF' => ?_)
        rw [nI_1, nI_1]
        exact ih (t + 1) (by omega) _ _ _ _ _ (by omega) (by omega) (by omega) hu' hF'
      · refine e_J153 hu hF (fun u' σ' hu' hF' => ?_)
        rw [nI_1, nI_1]
        exact ih (t + 1) (by omega) _ _ _ _ _ (by omega) (by omega) (by omega) hu' hF'
theorem e_drawL {c : Nat} (hc : c ≤ 6) (h : ∀ u σ', u ≤ 729 → zF σ0 σ' c → R (nI u) σ') : ∀ n i, n + i = c → ∀ f σ, f ≤ 729 → zF σ0 σ c → wp_X2_drawLine_L11 R (n + 1) (nI f) (nI i) σ := by
  intro n
  induction n with
  | zero =>
    intro i hi f σ hf hF
    unfold wp_X2_drawLine_L11
    rw [if_pos (by rw [hF.2]; exact nI_le (by omega) (by omega))]
    exact h f _ hf hF
  | succ n ih =>
    intro i hi f σ hf hF
    unfold wp_X2_drawLine_L11
    rw [hF.2, if_neg (nI_ge (by omega) (by omega)), nI_1, z_mul3]
    exact ⟨3 * f + 1, e_widL hf (by omega) (fun u σ' hu hF' => ih (i + 1) (by omega) u σ' hu hF') (3 * f) 0 rfl 0 0 0 0 σ (by omega) (by omega) (by omega) (by omega) hF⟩
theorem e_draw {c : Nat} (hc : c ≤ 6) (hF : zF σ0 σ c) (h : ∀ u σ', u ≤ 729 → zF σ0 σ' c → R (nI u) σ') : wp_X2_drawLine σ R :=
  ⟨c + 1, e_drawL hc h c 0 rfl 1 _ (by omega) hF⟩
theorem e_onl (h : ∀ r, P r) : wp_X2_onLine a1 a2 σ P := by
  refine t_within (a := 0) (b := 728) rfl rfl (fun x y => ?_) (fun _ => h _)
  have hv : vp_in a1 729 := zv x (by omega)
  split
  · exact ⟨hv, h _⟩
  · exact ⟨hv, h _⟩
theorem zF_inv {c : Nat} (h : Inv σ0) (hF : zF σ0 σ c) : Inv σ := Inv_fr (fun a k x => hF.1 a k (by omega) (by omega)) h
theorem e_bound8 (h : Inv σ) (hk : ∀ r σ', Inv σ' → R r σ') : wp_X8_bound a1 a2 a3 σ R := by
  unfold wp_X8_bound
  have go : ∀ z : Int32, z = a3 → 0 ≤ a1.toInt → wp_X2_gather 2 a1 σ (fun σ9 => wp_X2_leastWithin a2 σ9 (fun r10 σ11 => (if r10 = (-6 : Int32) then R (-6 : Int32) σ11 else (if z = (-1 : Int32) then wp_X2_meanOfChoice r10 σ11 (fun r16 => R r16 σ11) else wp_X2_sideInChoice r10 z σ11 (fun r14 => R r14 σ11))))) := by
    intro z _ h0
    refine e_gather h.1 h0 (fun c σ1 hc hF => ?_)
    refine e_least hc hF (fun r σ2 _ hF2 => ?_)
    have hi := zF_inv h hF2
    split
    · exact hk _ _ hi
    · split
      · exact e_meanCh (fun _ => hk _ _ hi)
      · exact e_side hc hF2 (fun _ => hk _ _ hi)
  by_cases e : a3 = -1
  · rw [if_pos e]
    refine t_isHour8 (fun g0 _ => ?_) (fun _ => hk _ _ h)
    refine t_within (a := 0) (b := 99999) rfl rfl (fun _ _ => ?_) (fun _ => hk _ _ h)
    exact go a3 rfl g0
  · rw [if_neg e]
    refine e_moored (fun _ _ => zi1 ?_) (zi0 (hk _ _ h))
    refine t_isHour8 (fun g0 _ => ?_) (fun _ => hk _ _ h)
    refine t_within (a := 0) (b := 99999) rfl rfl (fun _ _ => ?_) (fun _ => hk _ _ h)
    exact go a3 rfl g0
theorem e_line8 (h : Inv σ) (hk : ∀ r σ', Inv σ' → R r σ') : wp_X8_line a1 a2 a3 σ R := by
  unfold wp_X8_line
  refine t_isHour8 (fun g0 _ => ?_) (fun _ => hk _ _ h)
  split
  · exact hk _ _ h
  · refine t_within (a := 0) (b := 1) rfl rfl (fun _ _ => ?_) (fun _ => hk _ _ h)
    refine e_gather h.1 g0 (fun c σ1 hc hF => ?_)
    refine e_draw hc hF (fun r σ2 _ hF2 => ?_)
    have hi := zF_inv h hF2
    split
    · exact hk _ _ hi
    · split
      · exact hk _ _ hi
      · exact e_onl (fun _ => hk _ _ hi)
theorem e_convoy8 (h : Inv σ) (hk : ∀ r σ', Inv σ' → R r σ') : wp_X8_convoy a1 a2 σ R := by
  unfold wp_X8_convoy
  refine t_isHour8 (fun g0 _ => ?_) (fun _ => hk _ _ h)
  refine t_within (a := 0) (b := 1) rfl rfl (fun _ _ => ?_) (fun _ => hk _ _ h)
  refine e_gather h.1 g0 (fun c σ1 hc hF => ?_)
  have hi := zF_inv h hF
  refine e_comm hc hF (fun s hs => ?_)
  split
  · exact hk _ _ hi
  · exact e_mall hc hs hF (fun _ => hk _ _ hi)
end S
