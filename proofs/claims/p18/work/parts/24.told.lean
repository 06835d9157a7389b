/-! told, set, captains, years, held -/
section S
variable {σ : zST} {a1 a2 a3 a4 a5 p : Int32}
theorem zsubc (x : Int32) (c : Int32) {n : Int} (hc : c.toInt = n) (h0 : 0 ≤ n) (h1 : n ≤ 1000) (h2 : 0 ≤ x.toInt) : (x - c).toInt = x.toInt - n := by
  have := fb_rng x
  rw [← hc] at h0 h1 ⊢
  exact fb_subI (by omega) (by omega)
theorem i_toldSet {P : Int32 → Prop} (h0 : 0 ≤ p.toInt) (h1 : p.toInt ≤ 7) (h : P (σ.1 69 (5 + p.toNatClampNeg))) : wp_X9_toldSet p σ P := by
  unfold wp_X9_toldSet
  rcases zS8 h0 h1 with rfl | rfl | rfl | rfl | rfl | rfl | rfl | rfl <;> exact h
theorem s_told (h : Inv σ) {K : Int32 → Int32 → Prop} (hk : ∀ r, K r r) : wp_X8_told a1 σ (fun r => wp_X9_told a1 σ (fun r' => K r r')) := by
  unfold wp_X8_told wp_X9_told
  have e1 := b_ships h.1
  have e2 := b_names h.1
  have e3 := b_digits h.1
  refine t_within (a := 2) (b := 9) rfl rfl (fun x1 x2 => ?_) (fun x => ?_)
  · have q := zsubc a1 2 (n := 2) rfl (by omega) (by omega) (by omega)
    refine ⟨zv (by omega) (by omega), ?_⟩
    refine t_in (a := 2) (b := 9) rfl rfl (fun _ _ => ?_) (fun y => by omega)
    have hc : (a1 - 2).toNatClampNeg < 8 := zcl (by omega) (by omega)
    have := (b_terms h.1 hc).1
    rw [this]
    exact i_toldSet (by omega) (by omega) (hk _)
  refine t_within (a := 20) (b := 27) rfl rfl (fun x1 x2 => ?_) (fun xx => ?_)
  · have q := zsubc a1 20 (n := 20) rfl (by omega) (by omega) (by omega)
    have hv : vp_in (a1 - 20) 8 := zv (by omega) (by omega)
    have hc : (a1 - 20).toNatClampNeg < 8 := zcl (by omega) (by omega)
    have e4 := (b_drawn h.1 hc).1
    refine i_has8 rfl (fun y1 y2 y3 => ⟨?_, ?_⟩) (fun y => ⟨?_, ?_⟩)
    · rw [if_neg (by decide)]; exact ⟨hv, trivial⟩
    · rintro _ rfl
      refine t_in (a := 2) (b := 9) rfl rfl (fun _ _ => by omega) (fun _ => ?_)
      refine t_in (a := 20) (b := 27) rfl rfl (fun _ _ => ?_) (fun y => by omega)
      refine i_isAboard e2.1.symm (fun _ _ _ => ⟨?_, ?_⟩) (fun z => absurd ⟨y1, y2, y3⟩ z)
      · rw [if_neg (by decide)]; exact ⟨hv, trivial⟩
      · rintro _ rfl
        rw [if_neg (by decide), if_neg (by decide), e4]
        exact hk _
    · rw [if_pos rfl]; trivial
    · rintro _ rfl
      refine t_in (a := 2) (b := 9) rfl rfl (fun _ _ => by omega) (fun _ => ?_)
      refine t_in (a := 20) (b := 27) rfl rfl (fun _ _ => ?_) (fun y => by omega)
      refine i_isAboard e2.1.symm (fun z1 z2 z3 => absurd ⟨z1, z2, z3⟩ y) (fun z => ⟨?_, ?_⟩)
      · rw [if_pos rfl]; trivial
      · rintro _ rfl
        rw [if_pos rfl, if_pos rfl]
        exact hk _
  refine t_within (a := 30) (b := 35) rfl rfl (fun x1 x2 => ?_) (fun xxx => ?_)
  · have q := zsubc a1 30 (n := 30) rfl (by omega) (by omega) (by omega)
    have hv : vp_in (a1 - 30) 6 := zv (by omega) (by omega)
    have hc : (a1 - 30).toNatClampNeg < 6 := zcl (by omega) (by omega)
    have e4 := (b_cargo h.1 hc).1
    refine i_has rfl (fun y1 y2 y3 => ⟨?_, ?_⟩) (fun y => ⟨?_, ?_⟩)
    · rw [if_neg (by decide)]; exact ⟨hv, trivial⟩
    · rintro _ rfl
      refine t_in (a := 2) (b := 9) rfl rfl (fun _ _ => by omega) (fun _ => ?_)
      refine t_in (a := 20) (b := 27) rfl rfl (fun _ _ => by omega) (fun _ => ?_)
      refine t_in (a := 30) (b := 35) rfl rfl (fun _ _ => ?_) (fun y => by omega)
      refine i_isShip e1.1.symm (fun _ _ _ => ⟨?_, ?_⟩) (fun z => absurd ⟨y1, y2, y3⟩ z)
      · rw [if_neg (by decide)]; exact ⟨hv, trivial⟩
      · rintro _ rfl
        rw [if_neg (by decide), if_neg (by decide), e4]
        exact hk _
    · rw [if_pos rfl]; trivial
    · rintro _ rfl
      refine t_in (a := 2) (b := 9) rfl rfl (fun _ _ => by omega) (fun _ => ?_)
      refine t_in (a := 20) (b := 27) rfl rfl (fun _ _ => by omega) (fun _ => ?_)
      refine t_in (a := 30) (b := 35) rfl rfl (fun _ _ => ?_) (fun y => by omega)
      refine i_isShip e1.1.symm (fun z1 z2 z3 => absurd ⟨z1, z2, z3⟩ y) (fun z => ⟨?_, ?_⟩)
      · rw [if_pos rfl]; trivial
      · rintro _ rfl
        rw [if_pos rfl, if_pos rfl]
        exact hk _
  refine t_within (a := 100) (b := 123) rfl rfl (fun x1 x2 => ?_) (fun x4 => ?_)
  · have q := zsubc a1 100 (n := 100) rfl (by omega) (by omega) (by omega)
    refine i_digitAt (by omega) e3.2.1 e3.2.2 ?_
    refine t_in (a := 2) (b := 9) rfl rfl (fun _ _ => by omega) (fun _ => ?_)
    refine t_in (a := 20) (b := 27) rfl rfl (fun _ _ => by omega) (fun _ => ?_)
    refine t_in (a := 30) (b := 35) rfl rfl (fun _ _ => by omega) (fun _ => ?_)
    refine t_in (a := 100) (b := 123) rfl rfl (fun _ _ => ?_) (fun y => by omega)
    exact i_tenths h.1 (by omega) (hk _)
  have k9 : ∀ r, (r = (if a1 = (0) then (σ.1 69 27) else (if a1 = (1 : Int32) then (σ.1 69 0) else (if a1 = (10 : Int32) then (σ.1 69 14) else (if a1 = (11 : Int32) then (σ.1 69 18) else (if a1 = (12 : Int32) then (σ.1 69 21) else (if a1 = (13 : Int32) then (σ.1 69 25) else (-2 : Int32)))))))) → wp_X9_in a1.toInt64 2 9 σ (fun r1 => (if r1 = (0) then wp_X9_in (a1.toInt64) (20 : Int64) (27 : Int64) σ (fun r4 => (if r4 = (0) then wp_X9_in (a1.toInt64) (30 : Int64) (35 : Int64) σ (fun r7 => (if r7 = (0) then wp_X9_in (a1.toInt64) (100 : Int64) (123 : Int64) σ (fun r10 => (if r10 = (0) then wp_X9_toldMany a1 σ (fun r13 => K r r13) else wp_X9_tenths (a1 - (100 : Int32)) σ (fun r15 => K r r15))) else wp_X9_isShip (a1 - (30 : Int32)) σ (fun r17 => (if r17 = (0) then True else vp_in (a1 - (30 : Int32)) 6 ∧ True) ∧ ∀ z20 : Int32, z20 = (if r17 = (0) then (-2 : Int32) else (σ.1 72 (a1 - (30 : Int32)).toNatClampNeg)) → K r z20))) else wp_X9_isAboard (a1 - (20 : Int32)) σ (fun r24 => (if r24 = (0) then True else vp_in (a1 - (20 : Int32)) 8 ∧ True) ∧ ∀ z27 : Int32, z27 = (if r24 = (0) then (-2 : Int32) else (σ.1 77 (a1 - (20 : Int32)).toNatClampNeg)) → K r z27))) else wp_X9_toldSet (a1 - (2 : Int32)) σ (fun r31 => K r r31))) := by
    intro r hr
    refine t_in (a := 2) (b := 9) rfl rfl (fun _ _ => by omega) (fun _ => ?_)
    refine t_in (a := 20) (b := 27) rfl rfl (fun _ _ => by omega) (fun _ => ?_)
    refine t_in (a := 30) (b := 35) rfl rfl (fun _ _ => by omega) (fun _ => ?_)
    refine t_in (a := 100) (b := 123) rfl rfl (fun _ _ => by omega) (fun _ => ?_)
    rintro _ rfl
    rw [hr]
    exact hk _
  have f1 : σ.1 52 1 = σ.1 69 27 := h.2.1.1
  have f4 := (b_offers h.1).1
  have f6 := (b_rolls h.1).1
  have n2 : ¬ a1 = 2 := by rintro rfl; revert x; decide
  have n3 : ¬ a1 = 3 := by rintro rfl; revert x; decide
  have n4 : ¬ a1 = 4 := by rintro rfl; revert x; decide
  have n5 : ¬ a1 = 5 := by rintro rfl; revert x; decide
  have n6 : ¬ a1 = 6 := by rintro rfl; revert x; decide
  have n7 : ¬ a1 = 7 := by rintro rfl; revert x; decide
  have n8 : ¬ a1 = 8 := by rintro rfl; revert x; decide
  have n9 : ¬ a1 = 9 := by rintro rfl; revert x; decide
  by_cases c0 : a1 = 0
  · rw [if_pos c0]; exact k9 _ (by rw [if_pos c0, f1])
  rw [if_neg c0]
  by_cases c1 : a1 = 1
  · rw [if_pos c1]; exact k9 _ (by rw [if_neg c0, if_pos c1, e1.1])
  rw [if_neg c1, if_neg n2, if_neg n3, if_neg n4, if_neg n5, if_neg n6, if_neg n7, if_neg n8, if_neg n9]
  by_cases c2 : a1 = 10
  · rw [if_pos c2]; exact k9 _ (by rw [if_neg c0, if_neg c1, if_pos c2, e3.1])
  rw [if_neg c2]
  by_cases c3 : a1 = 11
  · rw [if_pos c3]; exact k9 _ (by rw [if_neg c0, if_neg c1, if_neg c2, if_pos c3, f4])
  rw [if_neg c3]
  by_cases c4 : a1 = 12
  · rw [if_pos c4]; exact k9 _ (by rw [if_neg c0, if_neg c1, if_neg c2, if_neg c3, if_pos c4, e2.1])
  rw [if_neg c4]
  by_cases c5 : a1 = 13
  · rw [if_pos c5]; exact k9 _ (by rw [if_neg c0, if_neg c1, if_neg c2, if_neg c3, if_neg c4, if_pos c5, f6])
  rw [if_neg c5]
  exact k9 _ (by rw [if_neg c0, if_neg c1, if_neg c2, if_neg c3, if_neg c4, if_neg c5])
/-! set -/
theorem zt0 : Int32.toNatClampNeg 0 = 0 := rfl
theorem zt1 : Int32.toNatClampNeg 1 = 1 := rfl
theorem zt2 : Int32.toNatClampNeg 2 = 2 := rfl
theorem zt3 : Int32.toNatClampNeg 3 = 3 := rfl
theorem zt4 : Int32.toNatClampNeg 4 = 4 := rfl
theorem zt5 : Int32.toNatClampNeg 5 = 5 := rfl
theorem zt6 : Int32.toNatClampNeg 6 = 6 := rfl
theorem zt7 : Int32.toNatClampNeg 7 = 7 := rfl
theorem i_setJ {r : Int32} {P : Int32 → zST → Prop} (h0 : 0 ≤ a1.toInt) (h1 : a1.toInt ≤ 7) (h : ∀ σ' : zST, (∀ a k, σ'.1 a k = if a = 69 ∧ k = 5 + a1.toNatClampNeg then a2 else σ.1 a k) → P r σ') :
    ∀ z16 : Int32, z16 = (if a1 = (0) then a2 else (σ.1 69 5)) → (if a1 = (1 : Int32) then wp_X9_set_J73 a1 a2 r a2 (wI σ 69 5 z16) P else ∀ σ20 : zST, σ20 = (wI σ 69 5 z16) → wp_X9_set_J73 a1 a2 r (σ20.1 69 6) σ20 P) := by
  rintro _ rfl
  rcases zS8 h0 h1 with rfl | rfl | rfl | rfl | rfl | rfl | rfl | rfl <;>
  · simp (decide := true) only [wp_X9_set_J73, wp_X9_set_J90, wp_X9_set_J107, wp_X9_set_J124, wp_X9_set_J141, wp_X9_set_J159, forall_eq, if_true, if_false, wI_at, true_and, and_true, false_and, and_false]
    refine h _ (fun a k => ?_)
    simp only [wI_at, zt0, zt1, zt2, zt3, zt4, zt5, zt6, zt7, Nat.reduceAdd]
    by_cases ha : a = 69
    · subst ha
      simp only [true_and]
      repeat' split
      all_goals first | rfl | (subst_vars; rfl) | omega
    · simp only [ha, false_and, if_false]
theorem s_set (h : Inv σ) {K : Int32 → Int32 → zST → Prop} (hk : ∀ r σ', Inv σ' → K r r σ') : wp_X8_set a1 a2 σ (fun r σ1 => wp_X9_set a1 a2 σ1 (fun r' σ2 => K r r' σ2)) := by
  unfold wp_X8_set wp_X9_set
  refine t_within (a := 0) (b := 7) rfl rfl (fun x1 x2 => ?_) (fun x => t_in (a := 0) (b := 7) rfl rfl (fun y1 y2 => by omega) (fun _ => hk _ _ h))
  have hv : vp_in a1 8 := zv x1 (by omega)
  have hc : a1.toNatClampNeg < 8 := zcl x1 (by omega)
  refine ⟨hv, hv, ?_⟩
  have hb : ∀ σ' : zST, ∀ {A B : Prop}, ((zTL a1.toNatClampNeg).toInt ≤ a2.toInt → a2.toInt ≤ (zTM a1.toNatClampNeg).toInt → B) → (a2.toInt < (zTL a1.toNatClampNeg).toInt ∨ (zTM a1.toNatClampNeg).toInt < a2.toInt → A) → (∀ z5 : Int64, z5 = (if a1 = (0) then (1 : Int64) else (0 : Int64)) → wp_X9_greatest a1 σ' (fun r8 => wp_X9_in (a2.toInt64) z5 (r8.toInt64) σ' (fun r10 => (if r10 = (0) then A else B)))) := by
    intro σ' A B q1 q2
    rintro _ rfl _ rfl
    rcases zS8 x1 x2 with rfl | rfl | rfl | rfl | rfl | rfl | rfl | rfl
    · exact t_in (a := 1) (b := 9) rfl rfl q1 q2
    · exact t_in (a := 0) (b := 99) rfl rfl q1 q2
    · exact t_in (a := 0) (b := 20) rfl rfl q1 q2
    · exact t_in (a := 0) (b := 60) rfl rfl q1 q2
    · exact t_in (a := 0) (b := 99) rfl rfl q1 q2
    · exact t_in (a := 0) (b := 99) rfl rfl q1 q2
    · exact t_in (a := 0) (b := 99) rfl rfl q1 q2
    · exact t_in (a := 0) (b := 9999) rfl rfl q1 q2
  refine t_within rfl rfl (fun x3 x4 => ?_) (fun x => ?_)
  · refine ⟨hv, ?_⟩
    rintro _ rfl
    refine ⟨hv, ?_⟩
    refine t_in (a := 0) (b := 7) rfl rfl (fun _ _ => ?_) (fun y => by omega)
    refine hb _ (fun _ _ => ?_) (fun y => by omega)
    have e1 := (b_terms h.1 hc).1
    refine i_toldSet x1 x2 ?_
    rw [show (wI σ 7 a1.toNatClampNeg a2).1 69 (5 + a1.toNatClampNeg) = σ.1 69 (5 + a1.toNatClampNeg) from rfl, ← e1]
    have hbd : zLo 5 a1.toNatClampNeg ≤ a2.toInt ∧ a2.toInt ≤ zHi 5 a1.toNatClampNeg := by
      clear e1 hb
      rcases zS8 x1 x2 with rfl | rfl | rfl | rfl | rfl | rfl | rfl | rfl
      · exact ⟨x3, x4⟩
      · exact ⟨x3, x4⟩
      · exact ⟨x3, x4⟩
      · exact ⟨x3, x4⟩
      · exact ⟨x3, x4⟩
      · exact ⟨x3, x4⟩
      · exact ⟨x3, x4⟩
      · exact ⟨x3, Int.le_trans x4 (by decide)⟩
    refine i_setJ x1 x2 (fun σ' hs => ?_)
    have hs' : ∀ a k, σ'.1 a k = if a = 69 ∧ k = 5 + a1.toNatClampNeg then a2 else if a = 7 ∧ k = a1.toNatClampNeg then a2 else σ.1 a k := fun a k => by rw [hs]; rfl
    refine hk _ _ ⟨IB_upd h.1 (fun r k hk => ?_) (fun k hk => ?_) (fun k hk => ?_), IP_fr (fun a k x => ?_) h.2.1, II_fr (fun a k x => ?_) h.2.2⟩
    · have hr := zLen13 hk
      by_cases r5 : r = 5
      · subst r5
        have h8 : k < 8 := hk
        by_cases e : k = a1.toNatClampNeg
        · right
          subst e
          have q1 : σ'.1 7 a1.toNatClampNeg = a2 := by rw [hs', if_neg (by omega), if_pos ⟨rfl, rfl⟩]
          have q2 : σ'.1 69 (5 + a1.toNatClampNeg) = a2 := by rw [hs', if_pos ⟨rfl, rfl⟩]
          show σ'.1 7 a1.toNatClampNeg = σ'.1 69 (5 + a1.toNatClampNeg) ∧ zLo 5 a1.toNatClampNeg ≤ (σ'.1 7 a1.toNatClampNeg).toInt ∧ (σ'.1 7 a1.toNatClampNeg).toInt ≤ zHi 5 a1.toNatClampNeg
          rw [q1, q2]
          exact ⟨rfl, hbd⟩
        · left
          simp only [cV, mV, hs']
          rw [if_neg (by omega), if_neg (by omega), if_neg (by omega), if_neg (by omega)]
          exact ⟨rfl, rfl⟩
      · left
        refine ⟨?_, ?_⟩
        · match r, hr, r5 with
          | 0, _, _ =>
            match k with
            | 0 => simp only [cV, hs']; rw [if_neg (by omega), if_neg (by omega)]
            | 1 => simp only [cV, hs']; rw [if_neg (by omega), if_neg (by omega)]
            | 2 => simp only [cV, hs']; rw [if_neg (by omega), if_neg (by omega)]
            | 3 => simp only [cV, hs']; rw [if_neg (by omega), if_neg (by omega)]
            | k + 4 => simp only [cV, hs']; rw [if_neg (by omega), if_neg (by omega)]
          | 1, _, _ => simp only [cV, hs']; rw [if_neg (by omega), if_neg (by omega)]
          | 2, _, _ => simp only [cV, hs']; rw [if_neg (by omega), if_neg (by omega)]
          | 3, _, _ => simp only [cV, hs']; rw [if_neg (by omega), if_neg (by omega)]
          | 4, _, _ => simp only [cV, hs']; rw [if_neg (by omega), if_neg (by omega)]
          | 5, _, r5 => exact absurd rfl r5
          | 6, _, _ => simp only [cV, hs']; rw [if_neg (by omega), if_neg (by omega)]
          | 7, _, _ => simp only [cV, hs']; rw [if_neg (by omega), if_neg (by omega)]
          | 8, _, _ => simp only [cV, hs']; rw [if_neg (by omega), if_neg (by omega)]
          | 9, _, _ => simp only [cV, hs']; rw [if_neg (by omega), if_neg (by omega)]
          | 10, _, _ => simp only [cV, hs']; rw [if_neg (by omega), if_neg (by omega)]
          | 11, _, _ => simp only [cV, hs']; rw [if_neg (by omega), if_neg (by omega)]
          | 12, _, _ => simp only [cV, hs']; rw [if_neg (by omega), if_neg (by omega)]
        · match r, hr, r5 with
          | 0, _, _ =>
            match k with
            | 0 => simp only [mV, hs']; rw [if_neg (by omega), if_neg (by omega)]
            | 1 => simp only [mV, hs']; rw [if_neg (by omega), if_neg (by omega)]
            | 2 => simp only [mV, hs']; rw [if_neg (by omega), if_neg (by omega)]
            | 3 => simp only [mV, hs']; rw [if_neg (by omega), if_neg (by omega)]
            | k + 4 => simp only [mV, hs']; rw [if_neg (by omega), if_neg (by omega)]
          | 1, _, _ => simp only [mV, hs']; rw [if_neg (by omega), if_neg (by omega)]
          | 2, _, _ => simp only [mV, hs']; rw [if_neg (by omega), if_neg (by omega)]
          | 3, _, _ => simp only [mV, hs']; rw [if_neg (by omega), if_neg (by omega)]
          | 4, _, _ => simp only [mV, hs']; rw [if_neg (by omega), if_neg (by omega)]
          | 5, _, r5 => exact absurd rfl r5
          | 6, _, _ => simp only [mV, hs']; rw [if_neg (by omega), if_neg (by omega)]
          | 7, _, _ => simp only [mV, hs']; rw [if_neg (by omega), if_neg (by omega)]
          | 8, _, _ => simp only [mV, hs']; rw [if_neg (by omega), if_neg (by omega)]
          | 9, _, _ => simp only [mV, hs']; rw [if_neg (by omega), if_neg (by omega)]
          | 10, _, _ => simp only [mV, hs']; rw [if_neg (by omega), if_neg (by omega)]
          | 11, _, _ => simp only [mV, hs']; rw [if_neg (by omega), if_neg (by omega)]
          | 12, _, _ => simp only [mV, hs']; rw [if_neg (by omega), if_neg (by omega), if_neg (by omega), if_neg (by omega)]
    · have := zsh_many h.1 hk
      simp only [cV, hs'] at this ⊢
      rw [if_neg (by omega), if_neg (by omega), if_neg (by omega), if_neg (by omega)]
      exact this
    · have := b_moor h.1 hk
      have q1 : σ'.1 2 0 = σ.1 2 0 := by rw [hs', if_neg (by omega), if_neg (by omega)]
      have q2 : σ'.1 3 k = σ.1 3 k := by rw [hs', if_neg (by omega), if_neg (by omega)]
      have q3 : σ'.1 4 k = σ.1 4 k := by rw [hs', if_neg (by omega), if_neg (by omega)]
      show zH (σ'.1 2 0) (nI k) → σ'.1 3 k = 0 → 1 ≤ (σ'.1 4 k).toInt
      rw [q1, q2, q3]
      exact this
    · rw [hs', if_neg (by omega), if_neg (by omega)]
    · rw [hs', if_neg (by omega), if_neg (by omega)]
  · refine t_in (a := 0) (b := 7) rfl rfl (fun _ _ => ?_) (fun y => by omega)
    exact hb _ (fun _ _ => by omega) (fun _ => hk _ _ h)
end S
