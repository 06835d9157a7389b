theorem zS2 {x : Int32} (h1 : 0 ≤ x.toInt) (h2 : x.toInt ≤ 1) : x = 0 ∨ x = 1 := by
  obtain ⟨n, hn, rfl, -⟩ := zN (h := 1) h1 (by omega)
  rcases (show n = 0 ∨ n = 1 by omega) with rfl | rfl
  · exact Or.inl rfl
  · exact Or.inr rfl
theorem zS3 {x : Int32} (h1 : 0 ≤ x.toInt) (h2 : x.toInt ≤ 2) : x = 0 ∨ x = 1 ∨ x = 2 := by
  obtain ⟨n, hn, rfl, -⟩ := zN (h := 2) h1 (by omega)
  rcases (show n = 0 ∨ n = 1 ∨ n = 2 by omega) with rfl | rfl | rfl
  · exact Or.inl rfl
  · exact Or.inr (Or.inl rfl)
  · exact Or.inr (Or.inr rfl)
theorem zS8 {x : Int32} (h1 : 0 ≤ x.toInt) (h2 : x.toInt ≤ 7) : x = 0 ∨ x = 1 ∨ x = 2 ∨ x = 3 ∨ x = 4 ∨ x = 5 ∨ x = 6 ∨ x = 7 := by
  obtain ⟨n, hn, rfl, -⟩ := zN (h := 7) h1 (by omega)
  rcases (show n = 0 ∨ n = 1 ∨ n = 2 ∨ n = 3 ∨ n = 4 ∨ n = 5 ∨ n = 6 ∨ n = 7 by omega) with rfl | rfl | rfl | rfl | rfl | rfl | rfl | rfl
  · exact Or.inl rfl
  · exact Or.inr (Or.inl rfl)
  · exact Or.inr (Or.inr (Or.inl rfl))
  · exact Or.inr (Or.inr (Or.inr (Or.inl rfl)))
  · exact Or.inr (Or.inr (Or.inr (Or.inr (Or.inl rfl))))
  · exact Or.inr (Or.inr (Or.inr (Or.inr (Or.inr (Or.inl rfl)))))
  · exact Or.inr (Or.inr (Or.inr (Or.inr (Or.inr (Or.inr (Or.inl rfl))))))
  · exact Or.inr (Or.inr (Or.inr (Or.inr (Or.inr (Or.inr (Or.inr rfl))))))
theorem zbit {P : Int32 → Prop} {c : Prop} [Decidable c] {z : Int32} (hz : z = if c then 1 else 0) (h1 : c → P 1) (h0 : ¬ c → P 0) : zB z ∧ P z := by
  by_cases hc : c
  · rw [if_pos hc] at hz; subst hz; exact ⟨zB1, h1 hc⟩
  · rw [if_neg hc] at hz; subst hz; exact ⟨zB0, h0 hc⟩
theorem i_has {a : Nat} {p x : Int32} {σ : zST} {P : Int32 → Prop} (hx : σ.1 a 0 = x) (h1 : 0 ≤ p.toInt → p.toInt ≤ 5 → zH x p → P 1) (h0 : ¬ (0 ≤ p.toInt ∧ p.toInt ≤ 5 ∧ zH x p) → P 0) : wp_X6_has a p σ P := by
  subst hx
  refine i_within (a := 0) (b := 5) rfl rfl (fun x y z hz => ?_) (fun x z hz => ?_)
  · rw [if_neg (by decide)] at hz
    exact zbit hz (fun c => h1 x y c) (fun c => h0 (fun w => c w.2.2))
  · rw [if_pos rfl] at hz
    subst hz
    exact ⟨zB0, h0 (by omega)⟩
theorem i_isShip {p x : Int32} {σ : zST} {P : Int32 → Prop} (hx : σ.1 69 0 = x) (h1 : 0 ≤ p.toInt → p.toInt ≤ 5 → zH x p → P 1) (h0 : ¬ (0 ≤ p.toInt ∧ p.toInt ≤ 5 ∧ zH x p) → P 0) : wp_X9_isShip p σ P := by
  subst hx
  unfold wp_X9_isShip wp_X9_isNumber
  refine i_in (a := 0) (b := 5) rfl rfl (fun x y => ⟨zB1, fun z hz => ?_⟩) (fun x => ⟨zB0, fun z hz => ?_⟩)
  · rw [if_neg (by decide)] at hz
    exact zbit hz (fun c => h1 x y c) (fun c => h0 (fun w => c w.2.2))
  · rw [if_pos rfl] at hz
    subst hz
    exact ⟨zB0, h0 (by omega)⟩
theorem i_has8 {a : Nat} {p x : Int32} {σ : zST} {P : Int32 → Prop} (hx : σ.1 a 0 = x) (h1 : 0 ≤ p.toInt → p.toInt ≤ 7 → zH x p → P 1) (h0 : ¬ (0 ≤ p.toInt ∧ p.toInt ≤ 7 ∧ zH x p) → P 0) : wp_X1_has a p σ P := by
  subst hx
  refine i_within (a := 0) (b := 7) rfl rfl (fun x y z hz => ?_) (fun x z hz => ?_)
  · rw [if_neg (by decide)] at hz
    exact zbit hz (fun c => h1 x y c) (fun c => h0 (fun w => c w.2.2))
  · rw [if_pos rfl] at hz
    subst hz
    exact ⟨zB0, h0 (by omega)⟩
theorem i_isAboard {p x : Int32} {σ : zST} {P : Int32 → Prop} (hx : σ.1 69 21 = x) (h1 : 0 ≤ p.toInt → p.toInt ≤ 7 → zH x p → P 1) (h0 : ¬ (0 ≤ p.toInt ∧ p.toInt ≤ 7 ∧ zH x p) → P 0) : wp_X9_isAboard p σ P := by
  subst hx
  refine i_in (a := 0) (b := 7) rfl rfl (fun x y z hz => ?_) (fun x z hz => ?_)
  · rw [if_neg (by decide)] at hz
    exact zbit hz (fun c => h1 x y c) (fun c => h0 (fun w => c w.2.2))
  · rw [if_pos rfl] at hz
    subst hz
    exact ⟨zB0, h0 (by omega)⟩
theorem t_has {a : Nat} {p x : Int32} {σ : zST} {A B : Prop} (hx : σ.1 a 0 = x) (h1 : 0 ≤ p.toInt → p.toInt ≤ 5 → zH x p → B) (h0 : ¬ (0 ≤ p.toInt ∧ p.toInt ≤ 5 ∧ zH x p) → A) : wp_X6_has a p σ (fun r => if r = 0 then A else B) := i_has hx (fun x y z => zi1 (h1 x y z)) (fun x => zi0 (h0 x))
theorem t_isShip {p x : Int32} {σ : zST} {A B : Prop} (hx : σ.1 69 0 = x) (h1 : 0 ≤ p.toInt → p.toInt ≤ 5 → zH x p → B) (h0 : ¬ (0 ≤ p.toInt ∧ p.toInt ≤ 5 ∧ zH x p) → A) : wp_X9_isShip p σ (fun r => if r = 0 then A else B) := i_isShip hx (fun x y z => zi1 (h1 x y z)) (fun x => zi0 (h0 x))
theorem t_has8 {a : Nat} {p x : Int32} {σ : zST} {A B : Prop} (hx : σ.1 a 0 = x) (h1 : 0 ≤ p.toInt → p.toInt ≤ 7 → zH x p → B) (h0 : ¬ (0 ≤ p.toInt ∧ p.toInt ≤ 7 ∧ zH x p) → A) : wp_X1_has a p σ (fun r => if r = 0 then A else B) := i_has8 hx (fun x y z => zi1 (h1 x y z)) (fun x => zi0 (h0 x))
theorem t_isAboard {p x : Int32} {σ : zST} {A B : Prop} (hx : σ.1 69 21 = x) (h1 : 0 ≤ p.toInt → p.toInt ≤ 7 → zH x p → B) (h0 : ¬ (0 ≤ p.toInt ∧ p.toInt ≤ 7 ∧ zH x p) → A) : wp_X9_isAboard p σ (fun r => if r = 0 then A else B) := i_isAboard hx (fun x y z => zi1 (h1 x y z)) (fun x => zi0 (h0 x))
section S
variable {σ : zST} {a1 a2 a3 a4 a5 : Int32}

theorem s_scrap (h : Inv σ) {K : Int32 → Int32 → zST → Prop} (hk : ∀ r σ', Inv σ' → K r r σ') : wp_X8_scrap a1 σ (fun r σ1 => wp_X9_scrap a1 σ1 (fun r' σ2 => K r r' σ2)) := by
  unfold wp_X8_scrap wp_X9_scrap
  have e1 := b_ships h.1
  refine t_has rfl (fun x1 x2 x3 => ?_) (fun x => t_isShip e1.1.symm (fun y1 y2 y3 => absurd ⟨y1, y2, y3⟩ x) (fun _ => hk _ _ h))
  rintro _ rfl
  refine i_bitCount ?_
  refine t_isShip (x := σ.1 2 0) (by simp [wI_at, e1.1]) (fun _ _ _ => ?_) (fun y => absurd ⟨x1, x2, x3⟩ y)
  rintro _ rfl
  have e2 := zan8 (m := 63) e1.2.1 e1.2.2 (by omega) x1 (by omega)
  refine i_ones (by simp (decide := true) only [wI_at, false_and, and_false, true_and, and_true, if_true, if_false]; rw [← e1.1]; omega) (by simp (decide := true) only [wI_at, false_and, and_false, true_and, and_true, if_true, if_false]; rw [← e1.1]; omega) ?_
  simp only [wI_at]
  simp (decide := true) only [false_and, if_false, true_and, and_true, if_true]
  rw [← e1.1]
  refine hk _ _ ⟨?_, IP_fr (fun a k x => ?_) h.2.1, II_fr (fun a k x => ?_) h.2.2⟩
  · skip
    refine IB_upd h.1 (fun r k hk => ?_) (fun k hk => ?_) (fun k hk => ?_)
    · have hr := zLen13 hk
      match r, hr with
      | 0, _ =>
        match k, hk with
        | 0, _ => right; simp (decide := true) only [cV, mV, wI_at, false_and, and_false, true_and, and_true, if_true, if_false]; exact e2
        | 1, _ => left; refine ⟨?_, ?_⟩ <;> simp only [cV, mV, wI_at] <;> (repeat rw [if_neg (by omega)])
        | 2, _ => left; refine ⟨?_, ?_⟩ <;> simp only [cV, mV, wI_at] <;> (repeat rw [if_neg (by omega)])
        | 3, _ => left; refine ⟨?_, ?_⟩ <;> simp only [cV, mV, wI_at] <;> (repeat rw [if_neg (by omega)])
        | 4, _ => left; refine ⟨?_, ?_⟩ <;> simp only [cV, mV, wI_at] <;> (repeat rw [if_neg (by omega)])
        | k + 5, h5 => exact absurd h5 (by simp [zLen])
      | 1, _ => have h8 : k < 6 := hk; left; refine ⟨?_, ?_⟩ <;> simp only [cV, mV, wI_at] <;> (repeat rw [if_neg (by omega)])
      | 2, _ => have h8 : k < 6 := hk; left; refine ⟨?_, ?_⟩ <;> simp only [cV, mV, wI_at] <;> (repeat rw [if_neg (by omega)])
      | 3, _ => have h8 : k < 6 := hk; left; refine ⟨?_, ?_⟩ <;> simp only [cV, mV, wI_at] <;> (repeat rw [if_neg (by omega)])
      | 4, _ => have h8 : k < 6 := hk; left; refine ⟨?_, ?_⟩ <;> simp only [cV, mV, wI_at] <;> (repeat rw [if_neg (by omega)])
      | 5, _ => have h8 : k < 8 := hk; left; refine ⟨?_, ?_⟩ <;> simp only [cV, mV, wI_at] <;> (repeat rw [if_neg (by omega)])
      | 6, _ => have h8 : k < 24 := hk; left; refine ⟨?_, ?_⟩ <;> simp only [cV, mV, wI_at] <;> (repeat rw [if_neg (by omega)])
      | 7, _ => have h8 : k < 3 := hk; left; refine ⟨?_, ?_⟩ <;> simp only [cV, mV, wI_at] <;> (repeat rw [if_neg (by omega)])
      | 8, _ => have h8 : k < 4 := hk; left; refine ⟨?_, ?_⟩ <;> simp only [cV, mV, wI_at] <;> (repeat rw [if_neg (by omega)])
      | 9, _ => have h8 : k < 4 := hk; left; refine ⟨?_, ?_⟩ <;> simp only [cV, mV, wI_at] <;> (repeat rw [if_neg (by omega)])
      | 10, _ => have h8 : k < 8 := hk; left; refine ⟨?_, ?_⟩ <;> simp only [cV, mV, wI_at] <;> (repeat rw [if_neg (by omega)])
      | 11, _ => have h8 : k < 6 := hk; left; refine ⟨?_, ?_⟩ <;> simp only [cV, mV, wI_at] <;> (repeat rw [if_neg (by omega)])
      | 12, _ => have h8 : k < 6 := hk; left; refine ⟨?_, ?_⟩ <;> simp only [cV, mV, wI_at] <;> (repeat rw [if_neg (by omega)])
    · have := zsh_many h.1 hk; simpa [cV, wI_at] using this
    · obtain ⟨n, hn, en, -⟩ := zN (h := 63) e1.2.1 e1.2.2
      obtain ⟨i, hi, ei, -⟩ := zN (h := 5) x1 x2
      intro q1 q2
      have q1 : zH (σ.1 2 0 &&& (1 <<< (a1 &&& 31) ^^^ (-1))) (nI k) := q1
      rw [en, ei] at q1
      have w := zHan n (by omega) i (by omega) k hk q1
      rw [← en] at w
      exact b_moor h.1 hk w q2
  · simp only [wI_at]
    repeat rw [if_neg (by omega)]
  · simp only [wI_at]
    repeat rw [if_neg (by omega)]

theorem s_offer (h : Inv σ) {K : Int32 → Int32 → zST → Prop} (hk : ∀ r σ', Inv σ' → K r r σ') : wp_X8_offer a1 a2 a3 σ (fun r σ1 => wp_X9_offer a1 a2 a3 σ1 (fun r' σ2 => K r r' σ2)) := by
  unfold wp_X8_offer wp_X9_offer
  have e1 := b_offers h.1
  refine t_within (a := 0) (b := 3) rfl rfl (fun x1 x2 => ?_) (fun x => t_in (a := 0) (b := 3) rfl rfl (fun y1 y2 => by omega) (fun _ => hk _ _ h))
  refine t_within (a := 0) (b := 999) rfl rfl (fun x3 x4 => ?_) (fun x => t_in (a := 0) (b := 3) rfl rfl (fun _ _ => t_in (a := 0) (b := 999) rfl rfl (fun y1 y2 => by omega) (fun _ => hk _ _ h)) (fun y => by omega))
  refine t_within (a := 0) (b := 9999) rfl rfl (fun x5 x6 => ?_) (fun x => t_in (a := 0) (b := 3) rfl rfl (fun _ _ => t_in (a := 0) (b := 999) rfl rfl (fun _ _ => t_in (a := 0) (b := 9999) rfl rfl (fun y1 y2 => by omega) (fun _ => hk _ _ h)) (fun y => by omega)) (fun y => by omega))
  have hv : vp_in a1 4 := zv x1 (by omega)
  refine ⟨hv, hv, ?_⟩
  rintro _ rfl
  refine i_bitCount ?_
  refine t_in (a := 0) (b := 3) rfl rfl (fun _ _ => ?_) (fun y => by omega)
  refine t_in (a := 0) (b := 999) rfl rfl (fun _ _ => ?_) (fun y => by omega)
  refine t_in (a := 0) (b := 9999) rfl rfl (fun _ _ => ?_) (fun y => by omega)
  refine ⟨hv, hv, ?_⟩
  rintro _ rfl _ rfl
  have e2 := zor4 e1.2.1 e1.2.2 x1 x2
  refine i_ones (by simp (decide := true) only [wI_at, false_and, and_false, true_and, and_true, if_true, if_false]; rw [← e1.1]; omega) (by simp (decide := true) only [wI_at, false_and, and_false, true_and, and_true, if_true, if_false]; rw [← e1.1]; omega) ?_
  simp only [wI_at]
  simp (decide := true) only [false_and, if_false, true_and, and_true, if_true]
  rw [← e1.1]
  refine hk _ _ ⟨?_, IP_fr (fun a k x => ?_) h.2.1, II_fr (fun a k x => ?_) h.2.2⟩
  · skip
    refine IB_upd h.1 (fun r k hk => ?_) (fun k hk => ?_) (fun k hk => ?_)
    · have hr := zLen13 hk
      match r, hr with
      | 0, _ =>
        match k, hk with
        | 0, _ => left; refine ⟨?_, ?_⟩ <;> simp only [cV, mV, wI_at] <;> (repeat rw [if_neg (by omega)])
        | 1, _ => left; refine ⟨?_, ?_⟩ <;> simp only [cV, mV, wI_at] <;> (repeat rw [if_neg (by omega)])
        | 2, _ => right; simp (decide := true) only [cV, mV, wI_at, false_and, and_false, true_and, and_true, if_true, if_false]; exact e2
        | 3, _ => left; refine ⟨?_, ?_⟩ <;> simp only [cV, mV, wI_at] <;> (repeat rw [if_neg (by omega)])
        | 4, _ => left; refine ⟨?_, ?_⟩ <;> simp only [cV, mV, wI_at] <;> (repeat rw [if_neg (by omega)])
        | k + 5, h5 => exact absurd h5 (by simp [zLen])
      | 1, _ => have h8 : k < 6 := hk; left; refine ⟨?_, ?_⟩ <;> simp only [cV, mV, wI_at] <;> (repeat rw [if_neg (by omega)])
      | 2, _ => have h8 : k < 6 := hk; left; refine ⟨?_, ?_⟩ <;> simp only [cV, mV, wI_at] <;> (repeat rw [if_neg (by omega)])
      | 3, _ => have h8 : k < 6 := hk; left; refine ⟨?_, ?_⟩ <;> simp only [cV, mV, wI_at] <;> (repeat rw [if_neg (by omega)])
      | 4, _ => have h8 : k < 6 := hk; left; refine ⟨?_, ?_⟩ <;> simp only [cV, mV, wI_at] <;> (repeat rw [if_neg (by omega)])
      | 5, _ => have h8 : k < 8 := hk; left; refine ⟨?_, ?_⟩ <;> simp only [cV, mV, wI_at] <;> (repeat rw [if_neg (by omega)])
      | 6, _ => have h8 : k < 24 := hk; left; refine ⟨?_, ?_⟩ <;> simp only [cV, mV, wI_at] <;> (repeat rw [if_neg (by omega)])
      | 7, _ => have h8 : k < 3 := hk; left; refine ⟨?_, ?_⟩ <;> simp only [cV, mV, wI_at] <;> (repeat rw [if_neg (by omega)])
      | 8, _ =>
        by_cases e : k = a1.toNatClampNeg
        · right; simp [cV, mV, wI_at, zLo, zHi, e]; omega
        · left; refine ⟨?_, ?_⟩ <;> simp only [cV, mV, wI_at] <;> (repeat rw [if_neg (by omega)])
      | 9, _ =>
        by_cases e : k = a1.toNatClampNeg
        · right; simp [cV, mV, wI_at, zLo, zHi, e]; omega
        · left; refine ⟨?_, ?_⟩ <;> simp only [cV, mV, wI_at] <;> (repeat rw [if_neg (by omega)])
      | 10, _ => have h8 : k < 8 := hk; left; refine ⟨?_, ?_⟩ <;> simp only [cV, mV, wI_at] <;> (repeat rw [if_neg (by omega)])
      | 11, _ => have h8 : k < 6 := hk; left; refine ⟨?_, ?_⟩ <;> simp only [cV, mV, wI_at] <;> (repeat rw [if_neg (by omega)])
      | 12, _ => have h8 : k < 6 := hk; left; refine ⟨?_, ?_⟩ <;> simp only [cV, mV, wI_at] <;> (repeat rw [if_neg (by omega)])
    · have := zsh_many h.1 hk; simpa [cV, wI_at] using this
    · have := b_moor h.1 hk; simpa [cV, wI_at] using this
  · simp only [wI_at]
    repeat rw [if_neg (by omega)]
  · simp only [wI_at]
    repeat rw [if_neg (by omega)]

theorem s_noOffers (h : Inv σ) {K : Int32 → Int32 → zST → Prop} (hk : ∀ r σ', Inv σ' → K r r σ') : wp_X8_noOffers σ (fun r σ1 => wp_X9_noOffers σ1 (fun r' σ2 => K r r' σ2)) := by
  unfold wp_X8_noOffers wp_X9_noOffers
  have e1 := b_offers h.1
  refine i_bitCount ?_
  refine i_ones (by simp (decide := true) only [wI_at, false_and, and_false, true_and, and_true, if_true, if_false]; rw [← e1.1]; omega) (by simp (decide := true) only [wI_at, false_and, and_false, true_and, and_true, if_true, if_false]; rw [← e1.1]; omega) ?_
  simp only [wI_at]
  simp (decide := true) only [false_and, if_false, true_and, and_true, if_true]
  rw [← e1.1]
  refine hk _ _ ⟨?_, IP_fr (fun a k x => ?_) h.2.1, II_fr (fun a k x => ?_) h.2.2⟩
  · skip
    refine IB_upd h.1 (fun r k hk => ?_) (fun k hk => ?_) (fun k hk => ?_)
    · have hr := zLen13 hk
      match r, hr with
      | 0, _ =>
        match k, hk with
        | 0, _ => left; refine ⟨?_, ?_⟩ <;> simp only [cV, mV, wI_at] <;> (repeat rw [if_neg (by omega)])
        | 1, _ => left; refine ⟨?_, ?_⟩ <;> simp only [cV, mV, wI_at] <;> (repeat rw [if_neg (by omega)])
        | 2, _ => right; simp [cV, mV, wI_at, zLo, zHi]
        | 3, _ => left; refine ⟨?_, ?_⟩ <;> simp only [cV, mV, wI_at] <;> (repeat rw [if_neg (by omega)])
        | 4, _ => left; refine ⟨?_, ?_⟩ <;> simp only [cV, mV, wI_at] <;> (repeat rw [if_neg (by omega)])
        | k + 5, h5 => exact absurd h5 (by simp [zLen])
      | 1, _ => have h8 : k < 6 := hk; left; refine ⟨?_, ?_⟩ <;> simp only [cV, mV, wI_at] <;> (repeat rw [if_neg (by omega)])
      | 2, _ => have h8 : k < 6 := hk; left; refine ⟨?_, ?_⟩ <;> simp only [cV, mV, wI_at] <;> (repeat rw [if_neg (by omega)])
      | 3, _ => have h8 : k < 6 := hk; left; refine ⟨?_, ?_⟩ <;> simp only [cV, mV, wI_at] <;> (repeat rw [if_neg (by omega)])
      | 4, _ => have h8 : k < 6 := hk; left; refine ⟨?_, ?_⟩ <;> simp only [cV, mV, wI_at] <;> (repeat rw [if_neg (by omega)])
      | 5, _ => have h8 : k < 8 := hk; left; refine ⟨?_, ?_⟩ <;> simp only [cV, mV, wI_at] <;> (repeat rw [if_neg (by omega)])
      | 6, _ => have h8 : k < 24 := hk; left; refine ⟨?_, ?_⟩ <;> simp only [cV, mV, wI_at] <;> (repeat rw [if_neg (by omega)])
      | 7, _ => have h8 : k < 3 := hk; left; refine ⟨?_, ?_⟩ <;> simp only [cV, mV, wI_at] <;> (repeat rw [if_neg (by omega)])
      | 8, _ => have h8 : k < 4 := hk; left; refine ⟨?_, ?_⟩ <;> simp only [cV, mV, wI_at] <;> (repeat rw [if_neg (by omega)])
      | 9, _ => have h8 : k < 4 := hk; left; refine ⟨?_, ?_⟩ <;> simp only [cV, mV, wI_at] <;> (repeat rw [if_neg (by omega)])
      | 10, _ => have h8 : k < 8 := hk; left; refine ⟨?_, ?_⟩ <;> simp only [cV, mV, wI_at] <;> (repeat rw [if_neg (by omega)])
      | 11, _ => have h8 : k < 6 := hk; left; refine ⟨?_, ?_⟩ <;> simp only [cV, mV, wI_at] <;> (repeat rw [if_neg (by omega)])
      | 12, _ => have h8 : k < 6 := hk; left; refine ⟨?_, ?_⟩ <;> simp only [cV, mV, wI_at] <;> (repeat rw [if_neg (by omega)])
    · have := zsh_many h.1 hk; simpa [cV, wI_at] using this
    · have := b_moor h.1 hk; simpa [cV, wI_at] using this
  · simp only [wI_at]
    repeat rw [if_neg (by omega)]
  · simp only [wI_at]
    repeat rw [if_neg (by omega)]

theorem s_aboard (h : Inv σ) {K : Int32 → Int32 → zST → Prop} (hk : ∀ r σ', Inv σ' → K r r σ') : wp_X8_aboard a1 a2 σ (fun r σ1 => wp_X9_aboard a1 a2 σ1 (fun r' σ2 => K r r' σ2)) := by
  unfold wp_X8_aboard wp_X9_aboard
  have e1 := b_names h.1
  refine t_within (a := 0) (b := 7) rfl rfl (fun x1 x2 => ?_) (fun x => t_in (a := 0) (b := 7) rfl rfl (fun y1 y2 => by omega) (fun _ => hk _ _ h))
  refine t_within (a := 0) (b := 9) rfl rfl (fun x3 x4 => ?_) (fun x => t_in (a := 0) (b := 7) rfl rfl (fun _ _ => t_in (a := 0) (b := 9) rfl rfl (fun y1 y2 => by omega) (fun _ => hk _ _ h)) (fun y => by omega))
  have hv : vp_in a1 8 := zv x1 (by omega)
  refine ⟨hv, ?_⟩
  rintro _ rfl
  refine i_bitCount ?_
  refine t_in (a := 0) (b := 7) rfl rfl (fun _ _ => ?_) (fun y => by omega)
  refine t_in (a := 0) (b := 9) rfl rfl (fun _ _ => ?_) (fun y => by omega)
  refine ⟨hv, ?_⟩
  rintro _ rfl _ rfl
  have e2 := zor8 e1.2.1 e1.2.2 x1 x2
  refine i_ones (by simp (decide := true) only [wI_at, false_and, and_false, true_and, and_true, if_true, if_false]; rw [← e1.1]; omega) (by simp (decide := true) only [wI_at, false_and, and_false, true_and, and_true, if_true, if_false]; rw [← e1.1]; omega) ?_
  simp only [wI_at]
  simp (decide := true) only [false_and, if_false, true_and, and_true, if_true]
  rw [← e1.1]
  refine hk _ _ ⟨?_, IP_fr (fun a k x => ?_) h.2.1, II_fr (fun a k x => ?_) h.2.2⟩
  · skip
    refine IB_upd h.1 (fun r k hk => ?_) (fun k hk => ?_) (fun k hk => ?_)
    · have hr := zLen13 hk
      match r, hr with
      | 0, _ =>
        match k, hk with
        | 0, _ => left; refine ⟨?_, ?_⟩ <;> simp only [cV, mV, wI_at] <;> (repeat rw [if_neg (by omega)])
        | 1, _ => left; refine ⟨?_, ?_⟩ <;> simp only [cV, mV, wI_at] <;> (repeat rw [if_neg (by omega)])
        | 2, _ => left; refine ⟨?_, ?_⟩ <;> simp only [cV, mV, wI_at] <;> (repeat rw [if_neg (by omega)])
        | 3, _ => right; simp (decide := true) only [cV, mV, wI_at, false_and, and_false, true_and, and_true, if_true, if_false]; exact e2
        | 4, _ => left; refine ⟨?_, ?_⟩ <;> simp only [cV, mV, wI_at] <;> (repeat rw [if_neg (by omega)])
        | k + 5, h5 => exact absurd h5 (by simp [zLen])
      | 1, _ => have h8 : k < 6 := hk; left; refine ⟨?_, ?_⟩ <;> simp only [cV, mV, wI_at] <;> (repeat rw [if_neg (by omega)])
      | 2, _ => have h8 : k < 6 := hk; left; refine ⟨?_, ?_⟩ <;> simp only [cV, mV, wI_at] <;> (repeat rw [if_neg (by omega)])
      | 3, _ => have h8 : k < 6 := hk; left; refine ⟨?_, ?_⟩ <;> simp only [cV, mV, wI_at] <;> (repeat rw [if_neg (by omega)])
      | 4, _ => have h8 : k < 6 := hk; left; refine ⟨?_, ?_⟩ <;> simp only [cV, mV, wI_at] <;> (repeat rw [if_neg (by omega)])
      | 5, _ => have h8 : k < 8 := hk; left; refine ⟨?_, ?_⟩ <;> simp only [cV, mV, wI_at] <;> (repeat rw [if_neg (by omega)])
      | 6, _ => have h8 : k < 24 := hk; left; refine ⟨?_, ?_⟩ <;> simp only [cV, mV, wI_at] <;> (repeat rw [if_neg (by omega)])
      | 7, _ => have h8 : k < 3 := hk; left; refine ⟨?_, ?_⟩ <;> simp only [cV, mV, wI_at] <;> (repeat rw [if_neg (by omega)])
      | 8, _ => have h8 : k < 4 := hk; left; refine ⟨?_, ?_⟩ <;> simp only [cV, mV, wI_at] <;> (repeat rw [if_neg (by omega)])
      | 9, _ => have h8 : k < 4 := hk; left; refine ⟨?_, ?_⟩ <;> simp only [cV, mV, wI_at] <;> (repeat rw [if_neg (by omega)])
      | 10, _ =>
        by_cases e : k = a1.toNatClampNeg
        · right; simp [cV, mV, wI_at, zLo, zHi, e]; omega
        · left; refine ⟨?_, ?_⟩ <;> simp only [cV, mV, wI_at] <;> (repeat rw [if_neg (by omega)])
      | 11, _ => have h8 : k < 6 := hk; left; refine ⟨?_, ?_⟩ <;> simp only [cV, mV, wI_at] <;> (repeat rw [if_neg (by omega)])
      | 12, _ => have h8 : k < 6 := hk; left; refine ⟨?_, ?_⟩ <;> simp only [cV, mV, wI_at] <;> (repeat rw [if_neg (by omega)])
    · have := zsh_many h.1 hk; simpa [cV, wI_at] using this
    · have := b_moor h.1 hk; simpa [cV, wI_at] using this
  · simp only [wI_at]
    repeat rw [if_neg (by omega)]
  · simp only [wI_at]
    repeat rw [if_neg (by omega)]

theorem s_ashore (h : Inv σ) {K : Int32 → Int32 → zST → Prop} (hk : ∀ r σ', Inv σ' → K r r σ') : wp_X8_ashore a1 σ (fun r σ1 => wp_X9_ashore a1 σ1 (fun r' σ2 => K r r' σ2)) := by
  unfold wp_X8_ashore wp_X9_ashore
  have e1 := b_names h.1
  refine t_has8 rfl (fun x1 x2 x3 => ?_) (fun x => t_isAboard e1.1.symm (fun y1 y2 y3 => absurd ⟨y1, y2, y3⟩ x) (fun _ => hk _ _ h))
  rintro _ rfl
  refine i_bitCount ?_
  refine t_isAboard (x := σ.1 13 0) (by simp [wI_at, e1.1]) (fun _ _ _ => ?_) (fun y => absurd ⟨x1, x2, x3⟩ y)
  rintro _ rfl
  have e2 := zan8 (m := 255) e1.2.1 e1.2.2 (by omega) x1 (by omega)
  refine i_ones (by simp (decide := true) only [wI_at, false_and, and_false, true_and, and_true, if_true, if_false]; rw [← e1.1]; omega) (by simp (decide := true) only [wI_at, false_and, and_false, true_and, and_true, if_true, if_false]; rw [← e1.1]; omega) ?_
  simp only [wI_at]
  simp (decide := true) only [false_and, if_false, true_and, and_true, if_true]
  rw [← e1.1]
  refine hk _ _ ⟨?_, IP_fr (fun a k x => ?_) h.2.1, II_fr (fun a k x => ?_) h.2.2⟩
  · skip
    refine IB_upd h.1 (fun r k hk => ?_) (fun k hk => ?_) (fun k hk => ?_)
    · have hr := zLen13 hk
      match r, hr with
      | 0, _ =>
        match k, hk with
        | 0, _ => left; refine ⟨?_, ?_⟩ <;> simp only [cV, mV, wI_at] <;> (repeat rw [if_neg (by omega)])
        | 1, _ => left; refine ⟨?_, ?_⟩ <;> simp only [cV, mV, wI_at] <;> (repeat rw [if_neg (by omega)])
        | 2, _ => left; refine ⟨?_, ?_⟩ <;> simp only [cV, mV, wI_at] <;> (repeat rw [if_neg (by omega)])
        | 3, _ => right; simp (decide := true) only [cV, mV, wI_at, false_and, and_false, true_and, and_true, if_true, if_false]; exact e2
        | 4, _ => left; refine ⟨?_, ?_⟩ <;> simp only [cV, mV, wI_at] <;> (repeat rw [if_neg (by omega)])
        | k + 5, h5 => exact absurd h5 (by simp [zLen])
      | 1, _ => have h8 : k < 6 := hk; left; refine ⟨?_, ?_⟩ <;> simp only [cV, mV, wI_at] <;> (repeat rw [if_neg (by omega)])
      | 2, _ => have h8 : k < 6 := hk; left; refine ⟨?_, ?_⟩ <;> simp only [cV, mV, wI_at] <;> (repeat rw [if_neg (by omega)])
      | 3, _ => have h8 : k < 6 := hk; left; refine ⟨?_, ?_⟩ <;> simp only [cV, mV, wI_at] <;> (repeat rw [if_neg (by omega)])
      | 4, _ => have h8 : k < 6 := hk; left; refine ⟨?_, ?_⟩ <;> simp only [cV, mV, wI_at] <;> (repeat rw [if_neg (by omega)])
      | 5, _ => have h8 : k < 8 := hk; left; refine ⟨?_, ?_⟩ <;> simp only [cV, mV, wI_at] <;> (repeat rw [if_neg (by omega)])
      | 6, _ => have h8 : k < 24 := hk; left; refine ⟨?_, ?_⟩ <;> simp only [cV, mV, wI_at] <;> (repeat rw [if_neg (by omega)])
      | 7, _ => have h8 : k < 3 := hk; left; refine ⟨?_, ?_⟩ <;> simp only [cV, mV, wI_at] <;> (repeat rw [if_neg (by omega)])
      | 8, _ => have h8 : k < 4 := hk; left; refine ⟨?_, ?_⟩ <;> simp only [cV, mV, wI_at] <;> (repeat rw [if_neg (by omega)])
      | 9, _ => have h8 : k < 4 := hk; left; refine ⟨?_, ?_⟩ <;> simp only [cV, mV, wI_at] <;> (repeat rw [if_neg (by omega)])
      | 10, _ => have h8 : k < 8 := hk; left; refine ⟨?_, ?_⟩ <;> simp only [cV, mV, wI_at] <;> (repeat rw [if_neg (by omega)])
      | 11, _ => have h8 : k < 6 := hk; left; refine ⟨?_, ?_⟩ <;> simp only [cV, mV, wI_at] <;> (repeat rw [if_neg (by omega)])
      | 12, _ => have h8 : k < 6 := hk; left; refine ⟨?_, ?_⟩ <;> simp only [cV, mV, wI_at] <;> (repeat rw [if_neg (by omega)])
    · have := zsh_many h.1 hk; simpa [cV, wI_at] using this
    · have := b_moor h.1 hk; simpa [cV, wI_at] using this
  · simp only [wI_at]
    repeat rw [if_neg (by omega)]
  · simp only [wI_at]
    repeat rw [if_neg (by omega)]

theorem s_forget (h : Inv σ) {K : Int32 → Int32 → zST → Prop} (hk : ∀ r σ', Inv σ' → K r r σ') : wp_X8_forget σ (fun r σ1 => wp_X9_forget σ1 (fun r' σ2 => K r r' σ2)) := by
  unfold wp_X8_forget wp_X9_forget
  have e1 := b_rolls h.1
  rintro _ rfl _ rfl
  simp only [wI_at]
  simp (decide := true) only [false_and, if_false, true_and, and_true, if_true]
  rw [← e1.1]
  refine hk _ _ ⟨?_, IP_fr (fun a k x => ?_) h.2.1, II_fr (fun a k x => ?_) h.2.2⟩
  · skip
    refine IB_upd h.1 (fun r k hk => ?_) (fun k hk => ?_) (fun k hk => ?_)
    · have hr := zLen13 hk
      match r, hr with
      | 0, _ =>
        match k, hk with
        | 0, _ => left; refine ⟨?_, ?_⟩ <;> simp only [cV, mV, wI_at] <;> (repeat rw [if_neg (by omega)])
        | 1, _ => left; refine ⟨?_, ?_⟩ <;> simp only [cV, mV, wI_at] <;> (repeat rw [if_neg (by omega)])
        | 2, _ => left; refine ⟨?_, ?_⟩ <;> simp only [cV, mV, wI_at] <;> (repeat rw [if_neg (by omega)])
        | 3, _ => left; refine ⟨?_, ?_⟩ <;> simp only [cV, mV, wI_at] <;> (repeat rw [if_neg (by omega)])
        | 4, _ => right; simp [cV, mV, wI_at, zLo, zHi]
        | k + 5, h5 => exact absurd h5 (by simp [zLen])
      | 1, _ => have h8 : k < 6 := hk; left; refine ⟨?_, ?_⟩ <;> simp only [cV, mV, wI_at] <;> (repeat rw [if_neg (by omega)])
      | 2, _ => have h8 : k < 6 := hk; left; refine ⟨?_, ?_⟩ <;> simp only [cV, mV, wI_at] <;> (repeat rw [if_neg (by omega)])
      | 3, _ => have h8 : k < 6 := hk; left; refine ⟨?_, ?_⟩ <;> simp only [cV, mV, wI_at] <;> (repeat rw [if_neg (by omega)])
      | 4, _ => have h8 : k < 6 := hk; left; refine ⟨?_, ?_⟩ <;> simp only [cV, mV, wI_at] <;> (repeat rw [if_neg (by omega)])
      | 5, _ => have h8 : k < 8 := hk; left; refine ⟨?_, ?_⟩ <;> simp only [cV, mV, wI_at] <;> (repeat rw [if_neg (by omega)])
      | 6, _ => have h8 : k < 24 := hk; left; refine ⟨?_, ?_⟩ <;> simp only [cV, mV, wI_at] <;> (repeat rw [if_neg (by omega)])
      | 7, _ => have h8 : k < 3 := hk; left; refine ⟨?_, ?_⟩ <;> simp only [cV, mV, wI_at] <;> (repeat rw [if_neg (by omega)])
      | 8, _ => have h8 : k < 4 := hk; left; refine ⟨?_, ?_⟩ <;> simp only [cV, mV, wI_at] <;> (repeat rw [if_neg (by omega)])
      | 9, _ => have h8 : k < 4 := hk; left; refine ⟨?_, ?_⟩ <;> simp only [cV, mV, wI_at] <;> (repeat rw [if_neg (by omega)])
      | 10, _ => have h8 : k < 8 := hk; left; refine ⟨?_, ?_⟩ <;> simp only [cV, mV, wI_at] <;> (repeat rw [if_neg (by omega)])
      | 11, _ => have h8 : k < 6 := hk; left; refine ⟨?_, ?_⟩ <;> simp only [cV, mV, wI_at] <;> (repeat rw [if_neg (by omega)])
      | 12, _ => have h8 : k < 6 := hk; left; refine ⟨?_, ?_⟩ <;> simp only [cV, mV, wI_at] <;> (repeat rw [if_neg (by omega)])
    · have := zsh_many h.1 hk; simpa [cV, wI_at] using this
    · have := b_moor h.1 hk; simpa [cV, wI_at] using this
  · simp only [wI_at]
    repeat rw [if_neg (by omega)]
  · simp only [wI_at]
    repeat rw [if_neg (by omega)]

theorem s_wipe (h : Inv σ) {K : Int32 → Int32 → zST → Prop} (hk : ∀ r σ', Inv σ' → K r r σ') : wp_X8_wipe σ (fun r σ1 => wp_X9_wipe σ1 (fun r' σ2 => K r r' σ2)) := by
  unfold wp_X8_wipe wp_X9_wipe wp_X4_clear
  have e1 := h.2.1
  rintro _ rfl _ rfl
  simp only [wI_at]
  simp (decide := true) only [false_and, if_false, true_and, and_true, if_true]
  rw [← e1.1]
  refine hk _ _ ⟨IB_fr (fun a k x => ?_) h.1, ?_, II_fr (fun a k x => ?_) h.2.2⟩
  · simp only [wI_at]
    repeat rw [if_neg (by omega)]
  · exact ⟨by simp [wI_at], by simp [wI_at], by simp [wI_at], fun k hk => by simpa [wI_at] using e1.2.2.2 k hk⟩
  · simp only [wI_at]
    repeat rw [if_neg (by omega)]

theorem s_say (h : Inv σ) {K : Int32 → Int32 → zST → Prop} (hk : ∀ r σ', Inv σ' → K r r σ') : wp_X8_say a1 σ (fun r σ1 => wp_X9_say a1 σ1 (fun r' σ2 => K r r' σ2)) := by
  unfold wp_X8_say wp_X9_say
  have e1 := h.2.1
  have e3 : 0 ≤ (σ.1 52 1).toInt := e1.2.1
  have e4 : (σ.1 52 1).toInt ≤ 60 := e1.2.2.1
  refine t_within (a := 33) (b := 126) rfl rfl (fun x1 x2 => ?_) (fun x => t_in (a := 33) (b := 126) rfl rfl (fun y1 y2 => by omega) (fun _ => hk _ _ h))
  by_cases hc : σ.1 52 1 < 60
  · rw [if_pos hc]
    have hc2 : (σ.1 52 1).toInt < 60 := Int32.lt_iff_toInt_lt.mp hc
    have hv : vp_in (σ.1 52 1) 60 := zv e1.2.1 (by omega)
    have hp : (σ.1 52 1 + 1).toInt = (σ.1 52 1).toInt + 1 := fb_addI (y := 1) (by show _ ≤ (σ.1 52 1).toInt + 1; omega) (by show (σ.1 52 1).toInt + 1 < _; omega)
    refine ⟨hv, ?_⟩
    rintro _ rfl _ rfl
    refine t_in (a := 33) (b := 126) rfl rfl (fun _ _ => ?_) (fun y => by omega)
    simp only [wI_at]
    simp (decide := true) only [false_and, if_false, true_and, and_true, if_true]
    rw [← e1.1, if_neg (fun q => by rw [q] at hc2; exact absurd hc2 (by decide))]
    refine ⟨hv, ?_⟩
    rintro _ rfl _ rfl
    simp only [wI_at]
    simp (decide := true) only [false_and, if_false, true_and, and_true, if_true]
    rw [← e1.1]
    refine hk _ _ ⟨IB_fr (fun a k x => ?_) h.1, ?_, II_fr (fun a k x => ?_) h.2.2⟩
    · simp only [wI_at]
      repeat rw [if_neg (by omega)]
    · refine ⟨by simp [wI_at], by simp [wI_at, -Int32.toInt_add]; omega, by simp [wI_at, -Int32.toInt_add]; omega, fun k hk => ?_⟩
      have := e1.2.2.2 k hk
      by_cases e : k = (σ.1 52 1).toNatClampNeg
      · simp [wI_at, e]
      · simpa [wI_at, e] using this
    · simp only [wI_at]
      repeat rw [if_neg (by omega)]
  · rw [if_neg hc]
    rw [Int32.lt_iff_toInt_lt] at hc
    have hc3 : ¬ (σ.1 52 1).toInt < 60 := hc
    refine t_in (a := 33) (b := 126) rfl rfl (fun _ _ => ?_) (fun y => by omega)
    rw [if_pos (show σ.1 69 27 = 60 from by rw [← e1.1]; apply Int32.toInt_inj.mp; show (σ.1 52 1).toInt = (60 : Int); omega)]
    exact hk _ _ h

theorem s_roll (h : Inv σ) {K : Int32 → Int32 → zST → Prop} (hk : ∀ r σ', Inv σ' → K r r σ') : wp_X8_roll a1 a2 σ (fun r σ1 => wp_X9_roll a1 a2 σ1 (fun r' σ2 => K r r' σ2)) := by
  unfold wp_X8_roll wp_X9_roll
  have e1 := b_rolls h.1
  refine t_within (a := 0) (b := 255) rfl rfl (fun x1 x2 => ?_) (fun x => t_in (a := 0) (b := 255) rfl rfl (fun y1 y2 => by omega) (fun _ => hk _ _ h))
  have ep := zpc_b x1 x2
  refine i_bitCount ?_
  refine t_within (b := 8) rfl rfl (fun x3 x4 => ?_) (fun x => t_in (a := 0) (b := 255) rfl rfl (fun _ _ => i_ones x1 x2 (t_in (a := (zpc a1).toInt) (b := 8) (by simp) rfl (fun y1 y2 => by omega) (fun _ => hk _ _ h))) (fun y => by omega))
  by_cases hc : σ.1 15 0 < 6
  · rw [if_pos hc]
    have hc2 : (σ.1 15 0).toInt < 6 := Int32.lt_iff_toInt_lt.mp hc
    have hv : vp_in (σ.1 15 0) 6 := zv e1.2.1 (by omega)
    have hcl : (σ.1 15 0).toNatClampNeg < 6 := zcl e1.2.1 (by omega)
    have hp : (σ.1 15 0 + 1).toInt = (σ.1 15 0).toInt + 1 := fb_addI (y := 1) (by show _ ≤ (σ.1 15 0).toInt + 1; omega) (by show (σ.1 15 0).toInt + 1 < _; omega)
    have hm : (a2 - zpc a1).toInt = a2.toInt - (zpc a1).toInt := fb_subI (by omega) (by omega)
    refine ⟨hv, ?_⟩
    rintro _ rfl
    refine i_bitCount ⟨?_, ?_⟩
    · simpa [wI_at] using hv
    rintro _ rfl _ rfl
    refine t_in (a := 0) (b := 255) rfl rfl (fun _ _ => ?_) (fun y => by omega)
    refine i_ones x1 x2 ?_
    refine t_in (a := (zpc a1).toInt) (b := 8) (by simp) rfl (fun _ _ => ?_) (fun y => by omega)
    simp only [wI_at]
    simp (decide := true) only [false_and, if_false, true_and, and_true, if_true]
    rw [← e1.1, if_neg (fun q => by rw [q] at hc2; exact absurd hc2 (by decide))]
    refine ⟨hv, ?_⟩
    rintro _ rfl
    simp only [wI_at]
    simp (decide := true) only [false_and, if_false, true_and, and_true, if_true]
    rw [← e1.1]
    refine ⟨hv, ?_⟩
    rintro _ rfl _ rfl
    simp only [wI_at]
    simp (decide := true) only [false_and, if_false, true_and, and_true, if_true]
    rw [← e1.1]
    refine hk _ _ ⟨?_, IP_fr (fun a k x => ?_) h.2.1, II_fr (fun a k x => ?_) h.2.2⟩
    · skip
      refine IB_upd h.1 (fun r k hk => ?_) (fun k hk => ?_) (fun k hk => ?_)
      · have hr := zLen13 hk
        match r, hr with
        | 0, _ =>
          match k, hk with
          | 0, _ => left; refine ⟨?_, ?_⟩ <;> simp only [cV, mV, wI_at] <;> (repeat rw [if_neg (by omega)])
          | 1, _ => left; refine ⟨?_, ?_⟩ <;> simp only [cV, mV, wI_at] <;> (repeat rw [if_neg (by omega)])
          | 2, _ => left; refine ⟨?_, ?_⟩ <;> simp only [cV, mV, wI_at] <;> (repeat rw [if_neg (by omega)])
          | 3, _ => left; refine ⟨?_, ?_⟩ <;> simp only [cV, mV, wI_at] <;> (repeat rw [if_neg (by omega)])
          | 4, _ => right; simp [cV, mV, wI_at, zLo, zHi, -Int32.toInt_add]; omega
          | k + 5, h5 => exact absurd h5 (by simp [zLen])
        | 1, _ => have h8 : k < 6 := hk; left; refine ⟨?_, ?_⟩ <;> simp only [cV, mV, wI_at] <;> (repeat rw [if_neg (by omega)])
        | 2, _ => have h8 : k < 6 := hk; left; refine ⟨?_, ?_⟩ <;> simp only [cV, mV, wI_at] <;> (repeat rw [if_neg (by omega)])
        | 3, _ => have h8 : k < 6 := hk; left; refine ⟨?_, ?_⟩ <;> simp only [cV, mV, wI_at] <;> (repeat rw [if_neg (by omega)])
        | 4, _ => have h8 : k < 6 := hk; left; refine ⟨?_, ?_⟩ <;> simp only [cV, mV, wI_at] <;> (repeat rw [if_neg (by omega)])
        | 5, _ => have h8 : k < 8 := hk; left; refine ⟨?_, ?_⟩ <;> simp only [cV, mV, wI_at] <;> (repeat rw [if_neg (by omega)])
        | 6, _ => have h8 : k < 24 := hk; left; refine ⟨?_, ?_⟩ <;> simp only [cV, mV, wI_at] <;> (repeat rw [if_neg (by omega)])
        | 7, _ => have h8 : k < 3 := hk; left; refine ⟨?_, ?_⟩ <;> simp only [cV, mV, wI_at] <;> (repeat rw [if_neg (by omega)])
        | 8, _ => have h8 : k < 4 := hk; left; refine ⟨?_, ?_⟩ <;> simp only [cV, mV, wI_at] <;> (repeat rw [if_neg (by omega)])
        | 9, _ => have h8 : k < 4 := hk; left; refine ⟨?_, ?_⟩ <;> simp only [cV, mV, wI_at] <;> (repeat rw [if_neg (by omega)])
        | 10, _ => have h8 : k < 8 := hk; left; refine ⟨?_, ?_⟩ <;> simp only [cV, mV, wI_at] <;> (repeat rw [if_neg (by omega)])
        | 11, _ =>
          by_cases e : k = (σ.1 15 0).toNatClampNeg
          · right; simp [cV, mV, wI_at, zLo, zHi, e, -Int32.toInt_sub]; omega
          · left; refine ⟨?_, ?_⟩ <;> simp only [cV, mV, wI_at] <;> (repeat rw [if_neg (by omega)])
        | 12, _ =>
          by_cases e : k = (σ.1 15 0).toNatClampNeg
          · right; simp [cV, mV, wI_at, zLo, zHi, e, -Int32.toInt_sub]; omega
          · left; refine ⟨?_, ?_⟩ <;> simp only [cV, mV, wI_at] <;> (repeat rw [if_neg (by omega)])
      · by_cases e : k = (σ.1 15 0).toNatClampNeg
        · simp [cV, wI_at, e, -Int32.toInt_sub]; omega
        · have := zsh_many h.1 hk; simpa [cV, wI_at, e] using this
      · have := b_moor h.1 hk; simpa [cV, wI_at] using this
    · simp only [wI_at]
      repeat rw [if_neg (by omega)]
    · simp only [wI_at]
      repeat rw [if_neg (by omega)]
  · rw [if_neg hc]
    rw [Int32.lt_iff_toInt_lt] at hc
    have hc3 : ¬ (σ.1 15 0).toInt < 6 := hc
    refine t_in (a := 0) (b := 255) rfl rfl (fun _ _ => ?_) (fun y => by omega)
    refine i_ones x1 x2 ?_
    refine t_in (a := (zpc a1).toInt) (b := 8) (by simp) rfl (fun _ _ => ?_) (fun y => by omega)
    rw [if_pos (show σ.1 69 25 = 6 from by rw [← e1.1]; apply Int32.toInt_inj.mp; show (σ.1 15 0).toInt = (6 : Int); omega)]
    exact hk _ _ h

end S
