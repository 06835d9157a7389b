/-! the reference's fleets -/
section S
variable {σ σ0 : zST} {P : Int32 → Prop} {Q : zST → Prop} {R : Int32 → zST → Prop} {a1 a2 a3 : Int32} {a m : Nat} {v : Int32}
def zR (σ0 σ : zST) (m : Nat) : Prop := (∀ a k, ¬ (a = 69 ∧ k = 34) → a ≠ 82 → a ≠ 83 → a ≠ 84 → σ.1 a k = σ0.1 a k) ∧ σ.1 69 34 = nI m
theorem zR_IB (h : IB σ0) (hF : zR σ0 σ m) : IB σ := IB_fr (fun a k x => hF.1 a k (by omega) (by omega) (by omega) (by omega)) h
theorem zR_inv (h : Inv σ0) (hF : zR σ0 σ m) : Inv σ := Inv_fr (fun a k x => hF.1 a k (by omega) (by omega) (by omega) (by omega)) h
theorem zR_w {x j : Nat} {u : Int32} (hF : zR σ0 σ m) (hx : x = 82 ∨ x = 83 ∨ x = 84) : zR σ0 (wI σ x j u) m := by
  refine ⟨fun a k n1 n2 n3 n4 => ?_, ?_⟩
  · rw [wI_at, if_neg (by omega)]; exact hF.1 a k n1 n2 n3 n4
  · rw [wI_at, if_neg (by omega)]; exact hF.2
theorem e_lay42 {k : Nat} (hI : IB σ0) (hm : m ≤ 243) (hk : k < 3) (v0 : 0 ≤ v.toInt) (v1 : v.toInt ≤ 5) (h0 : 0 ≤ a1.toInt) (h : ∀ σ', zR σ0 σ' m → Q σ') : ∀ n i, n + i = m → ∀ σ, zR σ0 σ m → wp_X9_layFleet_L42 a1 v (nI k) Q (n + 1) (nI i) σ := by
  have hkm : k * m ≤ 2 * m := Nat.mul_le_mul_right m (by omega)
  intro n
  induction n with
  | zero =>
    intro i hi σ hF
    unfold wp_X9_layFleet_L42
    rw [if_pos (by rw [hF.2]; exact nI_le (by omega) (by omega))]
    exact h _ hF
  | succ n ih =>
    intro i hi σ hF
    unfold wp_X9_layFleet_L42
    have hv : vp_in (nI i) 729 := vp_in_nI (by omega) (by omega)
    have hw : vp_in (nI (k * m + i)) 729 := vp_in_nI (by omega) (by omega)
    rw [hF.2, if_neg (nI_ge (by omega) (by omega)), z_mul, nI_add, nI_1]
    refine ⟨hv, ?_⟩
    refine i_meanOf (zR_IB hI hF) v0 v1 h0 ?_
    refine ⟨hw, ?_⟩
    intro σ11 e11
    have hF2 : zR σ0 σ11 m := by rw [e11]; exact zR_w hF (by omega)
    refine ⟨hv, ?_⟩
    refine i_worstOf (zR_IB hI hF2) v0 v1 h0 ?_
    rw [hF2.2, z_mul, nI_add]
    exact ⟨hw, ih (i + 1) (by omega) _ (zR_w hF2 (by omega))⟩
theorem e_lay35 (hI : IB σ0) (hm : m ≤ 243) (v0 : 0 ≤ v.toInt) (v1 : v.toInt ≤ 5) (h0 : 0 ≤ a1.toInt) (h : ∀ σ', zR σ0 σ' m → Q σ') : ∀ k, k ≤ 3 → ∀ σ, zR σ0 σ m → wp_X9_layFleet_L35 a1 v Q (k + 1) (nI k - 1) σ := by
  intro k
  induction k with
  | zero =>
    intro _ σ hF
    unfold wp_X9_layFleet_L35
    rw [if_pos z_dn0]
    exact h _ hF
  | succ k ih =>
    intro hk σ hF
    unfold wp_X9_layFleet_L35
    rw [nI_pred, if_neg (nI_pos (by omega)), z_dn]
    exact ⟨m + 1, e_lay42 hI hm (by omega) v0 v1 h0 (fun σ' hF' => ih (by omega) _ hF') m 0 rfl _ hF⟩
theorem e_lay21 (hI : IB σ0) (h0 : 0 ≤ a1.toInt) (h : ∀ c σ', c ≤ 6 → zR σ0 σ' (3 ^ c) → Q σ') : ∀ k c, k + c ≤ 6 → ∀ σ, zR σ0 σ (3 ^ c) → wp_X9_layFleet_L21 a1 Q (k + 1) (nI k - 1) σ := by
  intro k
  induction k with
  | zero =>
    intro c hc σ hF
    unfold wp_X9_layFleet_L21
    rw [if_pos z_dn0]
    exact h c _ (by omega) hF
  | succ k ih =>
    intro c hc σ hF
    unfold wp_X9_layFleet_L21
    rw [nI_pred, if_neg (nI_pos (by omega)), z_dn]
    refine e_harbour (fun x y => zi1 ?_) (zi0 (ih c (by omega) σ hF))
    refine ⟨4, e_lay35 hI ((z_3le c (by omega)).2.2 (by omega)) x y h0 (fun σ' hF' => ?_) 3 (by omega) σ hF⟩
    refine ih (c + 1) (by omega) _ ⟨fun a k n1 n2 n3 n4 => ?_, ?_⟩
    · rw [wI_at, if_neg n1]; exact hF'.1 a k n1 n2 n3 n4
    · rw [wI_at, if_pos ⟨rfl, rfl⟩, hF'.2, z_mul3, Nat.pow_succ]
theorem e_lay (hI : IB σ) (h0 : 0 ≤ a1.toInt) (h : ∀ c σ', c ≤ 6 → zR σ σ' (3 ^ c) → Q σ') : wp_X9_layFleet a1 σ Q := by
  refine ⟨7, e_lay21 hI h0 h 6 0 (by omega) _ (zR_w (zR_w ⟨fun a k n1 n2 n3 n4 => ?_, ?_⟩ (by omega)) (by omega))⟩
  · rw [wI_at, if_neg n1]
  · rw [wI_at, if_pos ⟨rfl, rfl⟩]; rfl
theorem e_bou49 {v2 v3 : Int32} (hm : m ≤ 729) (hF : zR σ0 σ m) (h : ∀ r, r.toInt < 0 ∨ (∃ k, k < 729 ∧ r = nI k) → R r σ) : ∀ n i, n + i = m → ∀ r : Int32, r.toInt < 0 ∨ (∃ k, k < 729 ∧ r = nI k) → wp_X9_bound_L49 v2 v3 R (n + 1) r (nI i) σ := by
  intro n
  induction n with
  | zero =>
    intro i hi r hr
    unfold wp_X9_bound_L49
    rw [if_pos (by rw [hF.2]; exact nI_le (by omega) (by omega))]
    exact h _ hr
  | succ n ih =>
    intro i hi r hr
    unfold wp_X9_bound_L49
    have hv : vp_in (nI i) 729 := vp_in_nI (by omega) (by omega)
    rw [hF.2, if_neg (nI_ge (by omega) (by omega)), nI_1]
    refine ⟨hv, ?_, ?_⟩
    · split
      · trivial
      · split
        · trivial
        · rename_i q
          rw [Int32.lt_iff_toInt_lt] at q
          obtain ⟨k, hk, rfl⟩ := hr.resolve_left q
          exact ⟨hv, vp_in_nI hk (by omega), trivial⟩
    · intro z _ z' hz'
      refine ih (i + 1) (by omega) _ ?_
      rw [hz']
      split
      · exact hr
      · exact Or.inr ⟨i, by omega, rfl⟩
theorem e_behL (h : ∀ c, c ≤ 6 → P (nI (3 ^ c))) : ∀ n i, n + i = 6 → ∀ c, c ≤ i → wp_X9_behindIt_L6 σ P (n + 1) (nI (3 ^ c)) (nI i) := by
  intro n
  induction n with
  | zero =>
    intro i hi c hc
    unfold wp_X9_behindIt_L6
    rw [if_pos (by rw [show i = 6 by omega]; decide)]
    exact h c (by omega)
  | succ n ih =>
    intro i hi c hc
    unfold wp_X9_behindIt_L6
    rw [if_neg (by rw [Int32.le_iff_toInt_le, nI_toInt (by omega)]; show ¬ (6 : Int) ≤ i; omega)]
    rw [nI_1]
    refine e_harbour (fun _ _ => ?_) ?_
    · rintro _ rfl _ rfl
      rw [if_neg (by decide), z_mul3, ← Nat.pow_succ]
      exact ih (i + 1) (by omega) (c + 1) (by omega)
    · rintro _ rfl _ rfl
      rw [if_pos rfl, show nI (3 ^ c) * 1 = nI (3 ^ c) from Int32.mul_one _]
      exact ih (i + 1) (by omega) c (by omega)
theorem e_beh (h0 : 0 ≤ v.toInt) (h1 : v.toInt ≤ 5) (h : ∀ r, r ≠ 0 → P r) : wp_X9_behindIt v σ P := by
  obtain ⟨k, hk, rfl, -⟩ := zN (h := 5) h0 (by omega)
  unfold wp_X9_behindIt
  rw [nI_1]
  rintro _ rfl
  refine ⟨6 - (k + 1) + 1, e_behL (fun c hc => h _ ?_) (6 - (k + 1)) (k + 1) (by omega) 0 (by omega)⟩
  have := z_3le c hc
  exact nI_ne0 (by omega) (by omega)
theorem e_bound9 (h : Inv σ) (hk : ∀ r σ', Inv σ' → R r σ') : wp_X9_bound a1 a2 a3 σ R := by
  unfold wp_X9_bound
  have go : ∀ z : Int32, (z ≠ -1 → 0 ≤ z.toInt ∧ z.toInt ≤ 5) → 0 ≤ a1.toInt → wp_X9_layFleet a1 σ (fun σ9 => ∃ M30 : Nat, wp_X9_bound_L49 a2 z (fun w4 σ => (if (0) ≤ w4 then (if z = (-1 : Int32) then vp_in w4 729 ∧ R (σ.1 82 w4.toNatClampNeg) σ else wp_X9_behindIt z σ (fun r26 => ¬ r26 = 0 ∧ R ((w4 / r26) - (w4 / r26) / (3 : Int32) * (3 : Int32)) σ)) else R (-6 : Int32) σ)) M30 (-6 : Int32) (0 : Int32) σ9) := by
    intro z hz h0
    refine e_lay h.1 h0 (fun c σ1 hc hF => ?_)
    have hi := zR_inv h hF
    refine ⟨3 ^ c + 1, e_bou49 (z_3le c hc).2.1 hF (fun r hr => ?_) (3 ^ c) 0 rfl _ (Or.inl (by decide))⟩
    split
    · rename_i q
      rw [Int32.le_iff_toInt_le] at q
      have q : 0 ≤ r.toInt := q
      obtain ⟨k, hk', rfl⟩ := hr.resolve_left (by omega)
      split
      · exact ⟨vp_in_nI hk' (by omega), hk _ _ hi⟩
      · rename_i q2
        exact e_beh (hz q2).1 (hz q2).2 (fun r hr => ⟨hr, hk _ _ hi⟩)
    · exact hk _ _ hi
  by_cases e : a3 = -1
  · rw [if_pos e]
    refine t_isHour (fun g0 _ => ?_) (fun _ => hk _ _ h)
    refine t_in (a := 0) (b := 99999) rfl rfl (fun _ _ => ?_) (fun _ => hk _ _ h)
    exact go a3 (fun q => absurd e q) g0
  · rw [if_neg e]
    refine e_harbour (fun x y => zi1 ?_) (zi0 (hk _ _ h))
    refine t_isHour (fun g0 _ => ?_) (fun _ => hk _ _ h)
    refine t_in (a := 0) (b := 99999) rfl rfl (fun _ _ => ?_) (fun _ => hk _ _ h)
    exact go a3 (fun _ => ⟨x, y⟩) g0
theorem e_onlL {j : Nat} (hm : m ≤ 729) (hj : j < m) (hF : zR σ0 σ m) (h : ∀ r, P r) : ∀ n i, n + i = m → ∀ r, (r = (0 : Int32) ∨ r = 1) → wp_X9_isOnLine_L4 (nI j) σ P (n + 1) r (nI i) := by
  have zb : ∀ r, (r = (0 : Int32) ∨ r = 1) → zB r := by
    rintro r (rfl | rfl)
    · exact zB0
    · exact zB1
  intro n
  induction n with
  | zero =>
    intro i hi r hr
    unfold wp_X9_isOnLine_L4
    rw [if_pos (by rw [hF.2]; exact nI_le (by omega) (by omega))]
    exact ⟨zb r hr, h _⟩
  | succ n ih =>
    intro i hi r hr
    unfold wp_X9_isOnLine_L4
    have hv : vp_in (nI i) 729 := vp_in_nI (by omega) (by omega)
    have hw : vp_in (nI j) 729 := vp_in_nI (by omega) (by omega)
    rw [hF.2, if_neg (nI_ge (by omega) (by omega)), nI_1]
    split
    · exact ⟨zb r hr, h _⟩
    · refine ⟨hv, hw, by split; trivial; exact ⟨hv, hw, trivial⟩, ?_⟩
      intro z6 _
      refine ⟨hv, hw, by split; trivial; exact ⟨hv, hw, trivial⟩, ?_⟩
      intro z15 _ z22 h22
      refine ih (i + 1) (by omega) _ ?_
      rw [h22]
      (repeat' split) <;> first | exact Or.inl rfl | exact Or.inr rfl
theorem e_onl9 {j : Nat} (hm : m ≤ 729) (hj : j < m) (hF : zR σ0 σ m) (h : ∀ r, P r) : wp_X9_isOnLine (nI j) σ P := ⟨m + 1, e_onlL hm hj hF h m 0 (by omega) 1 (Or.inr rfl)⟩
theorem e_lesL {j : Nat} (hm : m ≤ 729) (hj : j < m) (hF : zR σ0 σ m) (h : ∀ r, P r) : ∀ n i, n + i = m → ∀ r, wp_X9_lessThan_L4 (nI j) σ P (n + 1) r (nI i) := by
  intro n
  induction n with
  | zero =>
    intro i hi r
    unfold wp_X9_lessThan_L4
    rw [if_pos (by rw [hF.2]; exact nI_le (by omega) (by omega))]
    exact h _
  | succ n ih =>
    intro i hi r
    unfold wp_X9_lessThan_L4
    have hv : vp_in (nI i) 729 := vp_in_nI (by omega) (by omega)
    have hw : vp_in (nI j) 729 := vp_in_nI (by omega) (by omega)
    rw [hF.2, if_neg (nI_ge (by omega) (by omega)), nI_1]
    refine ⟨hv, by split; exact ⟨hv, hw, trivial⟩; trivial, ?_⟩
    intro z _ x _
    exact ih (i + 1) (by omega) _
theorem e_les {j : Nat} (hm : m ≤ 729) (hj : j < m) (hF : zR σ0 σ m) (h : ∀ r, P r) : wp_X9_lessThan (nI j) σ P := ⟨m + 1, e_lesL hm hj hF h m 0 (by omega) 0⟩
theorem e_lin31 {v2 v3 : Int32} (hm : m ≤ 729) (h : ∀ r σ', zR σ0 σ' m → R r σ') : ∀ n i, n + i = m → ∀ r σ, zR σ0 σ m → wp_X9_line_L31 v2 v3 R (n + 1) r (nI i) σ := by
  intro n
  induction n with
  | zero =>
    intro i hi r σ hF
    unfold wp_X9_line_L31
    rw [if_pos (by rw [hF.2]; exact nI_le (by omega) (by omega))]
    exact h _ _ hF
  | succ n ih =>
    intro i hi r σ hF
    unfold wp_X9_line_L31
    have hv : vp_in (nI i) 729 := vp_in_nI (by omega) (by omega)
    rw [hF.2, if_neg (nI_ge (by omega) (by omega)), nI_1]
    refine e_onl9 hm (by omega) hF (fun s => ?_)
    intro z _
    refine ⟨hv, ?_⟩
    intro x _
    exact ih (i + 1) (by omega) _ _ (zR_w hF (by omega))
theorem e_lin113 {v2 v3 : Int32} (hm : m ≤ 729) (hF : zR σ0 σ m) (h : ∀ r, R r σ) : ∀ n i, n + i = m → wp_X9_line_L113 v2 v3 R (n + 1) (nI i) σ := by
  intro n
  induction n with
  | zero =>
    intro i hi
    unfold wp_X9_line_L113
    rw [if_pos (by rw [hF.2]; exact nI_le (by omega) (by omega))]
    exact h _
  | succ n ih =>
    intro i hi
    unfold wp_X9_line_L113
    have hv : vp_in (nI i) 729 := vp_in_nI (by omega) (by omega)
    rw [hF.2, if_neg (nI_ge (by omega) (by omega)), nI_1]
    refine ⟨hv, ?_⟩
    split
    · refine e_les hm (by omega) hF (fun s => ?_)
      split
      · refine ⟨by split <;> exact ⟨hv, trivial⟩, ?_⟩
        intro z _
        exact h _
      · exact ih (i + 1) (by omega)
    · exact ih (i + 1) (by omega)
theorem e_line9 (h : Inv σ) (hk : ∀ r σ', Inv σ' → R r σ') : wp_X9_line a1 a2 a3 σ R := by
  unfold wp_X9_line
  refine t_isHour (fun g0 _ => ?_) (fun _ => hk _ _ h)
  refine t_in (a := 0) (b := 1) rfl rfl (fun _ _ => ?_) (fun _ => hk _ _ h)
  refine e_lay h.1 g0 (fun c σ1 hc hF => ?_)
  refine ⟨3 ^ c + 1, e_lin31 (z_3le c hc).2.1 (fun r σ2 hF2 => ?_) (3 ^ c) 0 rfl _ _ hF⟩
  have hi := zR_inv h hF2
  by_cases e : a2 = -1
  · rw [if_pos e]
    intro z _
    exact hk _ _ hi
  · rw [if_neg e]
    refine t_in (a := 0) rfl (Int32.toInt_toInt64 _) (fun _ _ => ?_) (fun _ => ?_)
    · exact ⟨3 ^ c + 1, e_lin113 (z_3le c hc).2.1 hF2 (fun _ => hk _ _ hi) (3 ^ c) 0 rfl⟩
    · intro z _
      exact hk _ _ hi
theorem e_con41 {v2 v3 v4 v5 : Int32} (hI : IB σ) (h0 : 0 ≤ a1.toInt) (h : ∀ r, P r) : ∀ n i, n + i = 6 → ∀ x, wp_X9_convoy_L41 a1 v2 v3 v4 v5 σ P (n + 1) x (nI i) := by
  intro n
  induction n with
  | zero =>
    intro i hi x
    unfold wp_X9_convoy_L41
    rw [if_pos (by rw [show i = 6 by omega]; decide)]
    exact h _
  | succ n ih =>
    intro i hi x
    unfold wp_X9_convoy_L41
    rw [if_neg (by rw [Int32.le_iff_toInt_le, nI_toInt (by omega)]; show ¬ (6 : Int) ≤ i; omega)]
    rw [nI_1]
    refine e_harbour (fun u w => zi1 ?_) (zi0 ?_)
    · refine i_meanOf hI u w h0 ?_
      intro y _
      exact ih (i + 1) (by omega) _
    · intro y _
      exact ih (i + 1) (by omega) _
theorem e_con29 {v2 : Int32} (hI : IB σ) (h0 : 0 ≤ a1.toInt) (h : ∀ r, P r) : ∀ n i, n + i = 3 → ∀ x y, wp_X9_convoy_L29 a1 v2 σ P (n + 1) x y (nI i) := by
  intro n
  induction n with
  | zero =>
    intro i hi x y
    unfold wp_X9_convoy_L29
    rw [if_pos (by rw [show i = 3 by omega]; decide)]
    intro z _
    exact h _
  | succ n ih =>
    intro i hi x y
    unfold wp_X9_convoy_L29
    rw [if_neg (by rw [Int32.le_iff_toInt_le, nI_toInt (by omega)]; show ¬ (3 : Int) ≤ i; omega)]
    rw [nI_1]
    refine ⟨7, e_con41 hI h0 (fun r => ?_) 6 0 rfl _⟩
    intro _ _ _ _
    exact ih (i + 1) (by omega) _ _
theorem e_convoy9 (h : Inv σ) (hk : ∀ r, P r) : wp_X9_convoy a1 a2 σ P := by
  unfold wp_X9_convoy
  refine t_isHour (fun g0 _ => ?_) (fun _ => hk _)
  refine t_in (a := 0) (b := 1) rfl rfl (fun _ _ => ?_) (fun _ => hk _)
  exact ⟨4, e_con29 h.1 g0 hk 3 0 rfl _ _⟩
theorem e_bound (h : Inv σ) {K : Int32 → Int32 → zST → Prop} (hk : ∀ r r' σ', Inv σ' → K r r' σ') : wp_X8_bound a1 a2 a3 σ (fun r σ1 => wp_X9_bound a1 a2 a3 σ1 (fun r' σ2 => K r r' σ2)) :=
  e_bound8 h (fun _ _ h' => e_bound9 h' (fun _ _ h'' => hk _ _ _ h''))
theorem e_line (h : Inv σ) {K : Int32 → Int32 → zST → Prop} (hk : ∀ r r' σ', Inv σ' → K r r' σ') : wp_X8_line a1 a2 a3 σ (fun r σ1 => wp_X9_line a1 a2 a3 σ1 (fun r' σ2 => K r r' σ2)) :=
  e_line8 h (fun _ _ h' => e_line9 h' (fun _ _ h'' => hk _ _ _ h''))
theorem e_convoy (h : Inv σ) {K : Int32 → Int32 → zST → Prop} (hk : ∀ r r' σ', Inv σ' → K r r' σ') : wp_X8_convoy a1 a2 σ (fun r σ1 => wp_X9_convoy a1 a2 σ1 (fun r' => K r r' σ1)) :=
  e_convoy8 h (fun _ _ h' => e_convoy9 h' (fun _ => hk _ _ _ h'))
end S
