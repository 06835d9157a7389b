/-! digits, what the sides take, means, worsts, choices -/
theorem zmodb {p d : Int32} (h0 : 0 ≤ p.toInt) (h1 : 1 ≤ d.toInt) : 0 ≤ (p - p / d * d).toInt ∧ (p - p / d * d).toInt < d.toInt ∧ (p - p / d * d).toInt = p.toInt % d.toInt := by
  have q1 := fb_rng p
  have q2 := fb_rng d
  obtain ⟨n, hn, rfl, en⟩ := zN (x := p) (h := 2147483647) h0 (by omega)
  obtain ⟨m, hm, rfl, em⟩ := zN (x := d) (h := 2147483647) (by omega) (by omega)
  rw [pk_rem (by omega) (by omega) (by omega)]
  have hlt : n % m < m := Nat.mod_lt _ (by omega)
  rw [nI_toInt (by omega), en, em]
  refine ⟨by omega, by omega, by omega⟩
abbrev zmo (p d : Int32) : Int32 := p - p / d * d
def zdg (σ : zST) (a : Nat) (p : Int32) : Int32 := σ.1 (a + 6) (zmo p (σ.1 a 7)).toNatClampNeg
theorem i_digitAt {a : Nat} {p : Int32} {σ : zST} {P : Int32 → Prop} (h0 : 0 ≤ p.toInt) (h1 : 1 ≤ (σ.1 a 7).toInt) (h2 : (σ.1 a 7).toInt ≤ 24) (h : P (zdg σ a p)) : wp_X6_digitAt a p σ P := by
  unfold wp_X6_digitAt
  rw [if_neg (by rw [Int32.lt_iff_toInt_lt]; show ¬ p.toInt < 0; omega)]
  refine t_within (a := 1) (b := 24) rfl rfl (fun _ _ => ⟨fun q => ?_, ?_, h⟩) (fun y => by omega)
  · rw [q] at h1; exact absurd h1 (by decide)
  · have := zmodb h0 h1
    exact zv this.1 (by omega)
theorem zdg_b {σ : zST} (h : IB σ) {p : Int32} (h0 : 0 ≤ p.toInt) : zdg σ 2 p = σ.1 74 (zmo p (σ.1 69 14)).toNatClampNeg ∧ 0 ≤ (zdg σ 2 p).toInt ∧ (zdg σ 2 p).toInt ≤ 9 := by
  have e1 := b_digits h
  have := zmodb h0 e1.2.1
  have e2 := b_tenths h (k := (zmo p (σ.1 2 7)).toNatClampNeg) (zcl (x := zmo p (σ.1 2 7)) this.1 (Int.lt_of_lt_of_le this.2.1 (by omega)))
  refine ⟨?_, e2.2⟩
  rw [← e1.1]
  exact e2.1
theorem i_tenths {p : Int32} {σ : zST} {P : Int32 → Prop} (hI : IB σ) (h0 : 0 ≤ p.toInt) (h : P (zdg σ 2 p)) : wp_X9_tenths p σ P := by
  have e1 := b_digits hI
  have e2 := zdg_b hI h0
  have := zmodb (d := σ.1 69 14) h0 (by rw [← e1.1]; omega)
  refine ⟨fun q => ?_, zv this.1 (by rw [← e1.1] at this ⊢; omega), ?_⟩
  · rw [q] at e1; exact absurd e1.2.1 (by rw [e1.1]; decide)
  · rw [e2.1] at h; exact h
def qT (σ : zST) (a k : Nat) : Int32 := if (if (0 : Int32) < σ.1 (a + 5) 0 - σ.1 (a + 3) k then σ.1 (a + 5) 0 - σ.1 (a + 3) k else 0) < σ.1 (a + 2) k then (if (0 : Int32) < σ.1 (a + 5) 0 - σ.1 (a + 3) k then σ.1 (a + 5) 0 - σ.1 (a + 3) k else 0) else σ.1 (a + 2) k
def qL (σ : zST) (a k : Nat) : Int32 := σ.1 (a + 5) 1 * qT σ a k + if qT σ a k = σ.1 (a + 2) k then σ.1 (a + 4) k else 0
def qW (σ : zST) (a k : Nat) : Int32 := σ.1 (a + 5) 1 * σ.1 (a + 2) k + σ.1 (a + 4) k
def qF (σ : zST) (a k : Nat) : Int32 := σ.1 (a + 5) 2 * σ.1 (a + 5) 3 * σ.1 (a + 2) k
def qM (σ : zST) (a k : Nat) (sd h : Int32) : Int32 := if sd = 1 then zdg σ a h * qW σ a k else if sd = 0 then 10 * qL σ a k else 10 * qF σ a k
def qX (σ : zST) (a k : Nat) (sd h : Int32) : Int32 := if sd = 1 then (if zdg σ a h ≤ 0 then 0 else qW σ a k) else if sd = 0 then qL σ a k else qF σ a k
def qO (σ : zST) (a k : Nat) (h : Int32) : Int32 := if qM σ a k (if qM σ a k 0 h ≤ qM σ a k 1 h then 0 else 1) h ≤ qM σ a k 2 h then (if qM σ a k 0 h ≤ qM σ a k 1 h then 0 else 1) else 2
section Q
variable {a : Nat} {p sd hr : Int32} {σ : zST} {P : Int32 → Prop}
theorem i_menToTeeth (hv : vp_in p 6) (h : P (qT σ a p.toNatClampNeg)) : wp_X6_menToTeeth a p σ P := ⟨hv, hv, h⟩
theorem i_lostToTeeth (hv : vp_in p 6) (h : P (qL σ a p.toNatClampNeg)) : wp_X6_lostToTeeth a p σ P := by
  refine i_menToTeeth hv ⟨hv, ?_, ?_⟩
  · split
    · exact ⟨hv, trivial⟩
    · trivial
  · intro z hz
    subst hz
    exact h
theorem i_whole (hv : vp_in p 6) (h : P (qW σ a p.toNatClampNeg)) : wp_X6_whole a p σ P := ⟨hv, hv, h⟩
theorem i_fare (hv : vp_in p 6) (h : P (qF σ a p.toNatClampNeg)) : wp_X6_fare a p σ P := ⟨hv, h⟩
theorem i_meanBy (hv : vp_in p 6) (h0 : 0 ≤ hr.toInt) (h1 : 1 ≤ (σ.1 a 7).toInt) (h2 : (σ.1 a 7).toInt ≤ 24) (h : P (qM σ a p.toNatClampNeg sd hr)) : wp_X6_meanBy a p sd hr σ P := by
  unfold wp_X6_meanBy
  unfold qM at h
  by_cases c1 : sd = 1
  · rw [if_pos c1] at h ⊢
    exact i_digitAt h0 h1 h2 (i_whole hv h)
  · rw [if_neg c1] at h ⊢
    by_cases c2 : sd = 0
    · rw [if_pos c2] at h ⊢
      exact i_lostToTeeth hv h
    · rw [if_neg c2] at h ⊢
      exact i_fare hv h
theorem i_worstBy (hv : vp_in p 6) (h0 : 0 ≤ hr.toInt) (h1 : 1 ≤ (σ.1 a 7).toInt) (h2 : (σ.1 a 7).toInt ≤ 24) (h : P (qX σ a p.toNatClampNeg sd hr)) : wp_X6_worstBy a p sd hr σ P := by
  unfold wp_X6_worstBy
  unfold qX at h
  by_cases c1 : sd = 1
  · rw [if_pos c1] at h ⊢
    refine i_digitAt h0 h1 h2 ?_
    by_cases c3 : zdg σ a hr ≤ 0
    · rw [if_pos c3] at h ⊢
      exact h
    · rw [if_neg c3] at h ⊢
      exact i_whole hv h
  · rw [if_neg c1] at h ⊢
    by_cases c2 : sd = 0
    · rw [if_pos c2] at h ⊢
      exact i_lostToTeeth hv h
    · rw [if_neg c2] at h ⊢
      exact i_fare hv h
theorem i_ownersSide (hv : vp_in p 6) (h0 : 0 ≤ hr.toInt) (h1 : 1 ≤ (σ.1 a 7).toInt) (h2 : (σ.1 a 7).toInt ≤ 24) (h : P (qO σ a p.toNatClampNeg hr)) : wp_X6_ownersSide a p hr σ P := by
  refine ⟨3, ?_⟩
  unfold wp_X6_ownersSide_L5
  rw [if_neg (by decide)]
  refine i_meanBy hv h0 h1 h2 (i_meanBy hv h0 h1 h2 ?_)
  have k2 : ∀ b : Int32, P (if qM σ a p.toNatClampNeg b hr ≤ qM σ a p.toNatClampNeg 2 hr then b else 2) → wp_X6_ownersSide_L5 a p hr σ P 2 b (1 + 1) := by
    intro b hb
    unfold wp_X6_ownersSide_L5
    rw [if_neg (by decide)]
    refine i_meanBy hv h0 h1 h2 (i_meanBy hv h0 h1 h2 ?_)
    by_cases c : qM σ a p.toNatClampNeg b hr ≤ qM σ a p.toNatClampNeg 2 hr
    · rw [if_pos c] at hb
      rw [if_pos (show qM σ a p.toNatClampNeg b hr ≤ qM σ a p.toNatClampNeg (1 + 1) hr from c)]
      unfold wp_X6_ownersSide_L5
      rw [if_pos (by decide)]
      exact hb
    · rw [if_neg c] at hb
      rw [if_neg (show ¬ qM σ a p.toNatClampNeg b hr ≤ qM σ a p.toNatClampNeg (1 + 1) hr from c)]
      unfold wp_X6_ownersSide_L5
      rw [if_pos (by decide)]
      exact hb
  unfold qO at h
  by_cases c : qM σ a p.toNatClampNeg 0 hr ≤ qM σ a p.toNatClampNeg 1 hr
  · rw [if_pos c] at h ⊢
    exact k2 0 h
  · rw [if_neg c] at h ⊢
    exact k2 1 h
theorem i_leastMean (hv : vp_in p 6) (h0 : 0 ≤ hr.toInt) (h1 : 1 ≤ (σ.1 a 7).toInt) (h2 : (σ.1 a 7).toInt ≤ 24) (h : P (qM σ a p.toNatClampNeg (qO σ a p.toNatClampNeg hr) hr)) : wp_X6_leastMean a p hr σ P :=
  i_ownersSide hv h0 h1 h2 (i_meanBy hv h0 h1 h2 h)
/-! the reference's, over the same numbers -/
theorem zsubT (hI : IB σ) {k : Nat} (hk : k < 6) : (σ.1 7 0 - σ.1 5 k).toInt = (σ.1 7 0).toInt - (σ.1 5 k).toInt := by
  have e1 := (b_terms hI (k := 0) (by omega)).2
  have e2 := (b_straw hI hk).2
  have e3 : (σ.1 7 0).toInt ≤ 9 := e1.2
  have e4 : 1 ≤ (σ.1 7 0).toInt := e1.1
  exact fb_subI (by omega) (by omega)
theorem i_lostByTeeth (hI : IB σ) (h0 : 0 ≤ p.toInt) (h1 : p.toInt ≤ 5) (h : P (qT σ 2 p.toNatClampNeg)) : wp_X9_lostByTeeth p σ P := by
  have hv : vp_in p 6 := zv h0 (by omega)
  have hk : p.toNatClampNeg < 6 := zcl h0 (by omega)
  have e1 : σ.1 7 0 = σ.1 69 5 := (b_terms hI (k := 0) (by omega)).1
  have e2 := (b_straw hI hk).1
  have e3 := (b_men hI hk).1
  have e4 := zsubT hI hk
  refine ⟨hv, ?_, fun z hz => ⟨hv, ?_, fun w hw => ?_⟩⟩
  · split
    · trivial
    · exact ⟨hv, trivial⟩
  · split
    · exact ⟨hv, trivial⟩
    · trivial
  · subst hw hz
    rw [← e1, ← e2, ← e3]
    have hz : (if σ.1 7 0 ≤ σ.1 5 p.toNatClampNeg then (0 : Int32) else σ.1 7 0 - σ.1 5 p.toNatClampNeg) = if (0 : Int32) < σ.1 7 0 - σ.1 5 p.toNatClampNeg then σ.1 7 0 - σ.1 5 p.toNatClampNeg else 0 := by
      by_cases c : σ.1 7 0 ≤ σ.1 5 p.toNatClampNeg
      · rw [if_pos c, if_neg]
        rw [Int32.lt_iff_toInt_lt, e4]
        rw [Int32.le_iff_toInt_le] at c
        show ¬ 0 < _
        omega
      · rw [if_neg c, if_pos]
        rw [Int32.lt_iff_toInt_lt, e4]
        rw [Int32.le_iff_toInt_le] at c
        show 0 < _
        omega
    rw [hz]
    unfold qT at h
    by_cases c : (if (0 : Int32) < σ.1 7 0 - σ.1 5 p.toNatClampNeg then σ.1 7 0 - σ.1 5 p.toNatClampNeg else 0) < σ.1 4 p.toNatClampNeg
    · rw [if_pos c] at h
      rw [if_neg (by rw [Int32.not_le]; exact c)]
      exact h
    · rw [if_neg c] at h
      rw [if_pos (Int32.not_lt.mp c)]
      exact h
theorem i_teethTake (hI : IB σ) (h0 : 0 ≤ p.toInt) (h1 : p.toInt ≤ 5) (h : P (qL σ 2 p.toNatClampNeg)) : wp_X9_teethTake p σ P := by
  have hv : vp_in p 6 := zv h0 (by omega)
  have hk : p.toNatClampNeg < 6 := zcl h0 (by omega)
  have e1 : σ.1 7 1 = σ.1 69 6 := (b_terms hI (k := 1) (by omega)).1
  have e3 := (b_men hI hk).1
  have e4 := (b_cargo hI hk).1
  refine i_lostByTeeth hI h0 h1 ⟨hv, ?_, ?_⟩
  · split
    · exact ⟨hv, trivial⟩
    · trivial
  · intro z hz
    subst hz
    rw [← e1, ← e3, ← e4]
    exact h
theorem i_allOf (hI : IB σ) (h0 : 0 ≤ p.toInt) (h1 : p.toInt ≤ 5) (h : P (qW σ 2 p.toNatClampNeg)) : wp_X9_allOf p σ P := by
  have hv : vp_in p 6 := zv h0 (by omega)
  have hk : p.toNatClampNeg < 6 := zcl h0 (by omega)
  have e1 : σ.1 7 1 = σ.1 69 6 := (b_terms hI (k := 1) (by omega)).1
  have e3 := (b_men hI hk).1
  have e4 := (b_cargo hI hk).1
  refine ⟨hv, hv, ?_⟩
  rw [← e1, ← e3, ← e4]
  exact h
theorem i_meanOf (hI : IB σ) (h0 : 0 ≤ p.toInt) (h1 : p.toInt ≤ 5) (hh : 0 ≤ hr.toInt) (h : P (qM σ 2 p.toNatClampNeg sd hr)) : wp_X9_meanOf p sd hr σ P := by
  have hv : vp_in p 6 := zv h0 (by omega)
  have hk : p.toNatClampNeg < 6 := zcl h0 (by omega)
  unfold wp_X9_meanOf
  unfold qM at h
  by_cases c2 : sd = 0
  · rw [if_pos c2]
    rw [if_neg (by rw [c2]; decide), if_pos c2] at h
    exact i_teethTake hI h0 h1 h
  · rw [if_neg c2]
    by_cases c1 : sd = 1
    · rw [if_pos c1] at h ⊢
      exact i_tenths hI hh (i_allOf hI h0 h1 h)
    · rw [if_neg c1] at h ⊢
      rw [if_neg c2] at h
      have e1 : σ.1 7 2 = σ.1 69 7 := (b_terms hI (k := 2) (by omega)).1
      have e2 : σ.1 7 3 = σ.1 69 8 := (b_terms hI (k := 3) (by omega)).1
      have e3 := (b_men hI hk).1
      refine ⟨hv, ?_⟩
      rw [← e1, ← e2, ← e3, Int32.mul_assoc, Int32.mul_assoc]
      unfold qF at h
      rw [Int32.mul_assoc] at h
      exact h
theorem i_worstOf (hI : IB σ) (h0 : 0 ≤ p.toInt) (h1 : p.toInt ≤ 5) (hh : 0 ≤ hr.toInt) (h : P (qX σ 2 p.toNatClampNeg sd hr)) : wp_X9_worstOf p sd hr σ P := by
  have hv : vp_in p 6 := zv h0 (by omega)
  have hk : p.toNatClampNeg < 6 := zcl h0 (by omega)
  unfold wp_X9_worstOf
  unfold qX at h
  by_cases c2 : sd = 0
  · rw [if_pos c2]
    rw [if_neg (by rw [c2]; decide), if_pos c2] at h
    exact i_teethTake hI h0 h1 h
  · rw [if_neg c2]
    by_cases c1 : sd = 1
    · rw [if_pos c1] at h ⊢
      refine i_tenths hI hh ?_
      by_cases c3 : zdg σ 2 hr ≤ 0
      · rw [if_pos c3] at h ⊢
        exact h
      · rw [if_neg c3] at h ⊢
        exact i_allOf hI h0 h1 h
    · rw [if_neg c1] at h ⊢
      rw [if_neg c2] at h
      have e1 : σ.1 7 2 = σ.1 69 7 := (b_terms hI (k := 2) (by omega)).1
      have e2 : σ.1 7 3 = σ.1 69 8 := (b_terms hI (k := 3) (by omega)).1
      have e3 := (b_men hI hk).1
      refine ⟨hv, ?_⟩
      rw [← e1, ← e2, ← e3]
      exact h
theorem i_choiceOf (hI : IB σ) (h0 : 0 ≤ p.toInt) (h1 : p.toInt ≤ 5) (hh : 0 ≤ hr.toInt) (h : P (qO σ 2 p.toNatClampNeg hr)) : wp_X9_choiceOf p hr σ P := by
  refine ⟨3, ?_⟩
  unfold wp_X9_choiceOf_L5
  rw [if_neg (by decide)]
  refine i_meanOf hI h0 h1 hh (i_meanOf hI h0 h1 hh ?_)
  rintro _ rfl
  unfold wp_X9_choiceOf_L5
  rw [if_neg (by decide)]
  refine i_meanOf hI h0 h1 hh (i_meanOf hI h0 h1 hh ?_)
  rintro _ rfl
  unfold wp_X9_choiceOf_L5
  rw [if_pos (by decide)]
  exact h
end Q
section S
variable {σ : zST} {a1 a2 a3 a4 a5 : Int32}
theorem s_mean (h : Inv σ) {K : Int32 → Int32 → Prop} (hk : ∀ r, K r r) : wp_X8_mean a1 a2 a3 σ (fun r => wp_X9_mean a1 a2 a3 σ (fun r' => K r r')) := by
  unfold wp_X8_mean wp_X9_mean
  have e1 := b_ships h.1
  have e2 := (b_digits h.1).2
  refine t_has rfl (fun x1 x2 x3 => ?_) (fun x => t_isShip e1.1.symm (fun y1 y2 y3 => absurd ⟨y1, y2, y3⟩ x) (fun _ => hk _))
  refine t_within (a := 0) (b := 2) rfl rfl (fun x4 x5 => ?_) (fun x => t_isShip e1.1.symm (fun _ _ _ => t_isSide (fun y1 y2 => by omega) (fun _ => hk _)) (fun y => absurd ⟨x1, x2, x3⟩ y))
  refine t_isHour8 (fun x6 x7 => ?_) (fun x => t_isShip e1.1.symm (fun _ _ _ => t_isSide (fun _ _ => t_isHour (fun y1 y2 => by omega) (fun _ => hk _)) (fun y => by omega)) (fun y => absurd ⟨x1, x2, x3⟩ y))
  refine i_meanBy (zv x1 (by omega)) x6 e2.1 e2.2 ?_
  refine t_isShip e1.1.symm (fun _ _ _ => ?_) (fun y => absurd ⟨x1, x2, x3⟩ y)
  refine t_isSide (fun _ _ => ?_) (fun y => by omega)
  refine t_isHour (fun _ _ => ?_) (fun y => by omega)
  exact i_meanOf h.1 x1 x2 x6 (hk _)
theorem s_worst (h : Inv σ) {K : Int32 → Int32 → Prop} (hk : ∀ r, K r r) : wp_X8_worst a1 a2 a3 σ (fun r => wp_X9_worst a1 a2 a3 σ (fun r' => K r r')) := by
  unfold wp_X8_worst wp_X9_worst
  have e1 := b_ships h.1
  have e2 := (b_digits h.1).2
  refine t_has rfl (fun x1 x2 x3 => ?_) (fun x => t_isShip e1.1.symm (fun y1 y2 y3 => absurd ⟨y1, y2, y3⟩ x) (fun _ => hk _))
  refine t_within (a := 0) (b := 2) rfl rfl (fun x4 x5 => ?_) (fun x => t_isShip e1.1.symm (fun _ _ _ => t_isSide (fun y1 y2 => by omega) (fun _ => hk _)) (fun y => absurd ⟨x1, x2, x3⟩ y))
  refine t_isHour8 (fun x6 x7 => ?_) (fun x => t_isShip e1.1.symm (fun _ _ _ => t_isSide (fun _ _ => t_isHour (fun y1 y2 => by omega) (fun _ => hk _)) (fun y => by omega)) (fun y => absurd ⟨x1, x2, x3⟩ y))
  refine i_worstBy (zv x1 (by omega)) x6 e2.1 e2.2 ?_
  refine t_isShip e1.1.symm (fun _ _ _ => ?_) (fun y => absurd ⟨x1, x2, x3⟩ y)
  refine t_isSide (fun _ _ => ?_) (fun y => by omega)
  refine t_isHour (fun _ _ => ?_) (fun y => by omega)
  exact i_worstOf h.1 x1 x2 x6 (hk _)
theorem i_refusalOf {P : Int32 → Prop} (h1 : 0 ≤ a1.toInt → a1.toInt ≤ 5 → zH (σ.1 2 0) a1 → 0 ≤ a2.toInt → a2.toInt ≤ 999 → P 0) (h2 : 0 ≤ a1.toInt → a1.toInt ≤ 5 → zH (σ.1 2 0) a1 → a2.toInt < 0 ∨ 999 < a2.toInt → P (-2)) (h3 : ¬ (0 ≤ a1.toInt ∧ a1.toInt ≤ 5 ∧ zH (σ.1 2 0) a1) → P (-1)) : wp_X8_refusalOf a1 a2 σ P := by
  unfold wp_X8_refusalOf
  refine t_has rfl (fun x1 x2 x3 => ?_) (fun x => h3 x)
  refine i_within (a := 0) (b := 999) rfl rfl (fun x y => ⟨zB1, ?_⟩) (fun x => ⟨zB0, ?_⟩)
  · rintro _ rfl
    rw [if_neg (by decide)]
    exact h1 x1 x2 x3 x y
  · rintro _ rfl
    rw [if_pos rfl]
    exact h2 x1 x2 x3 x
theorem s_choice (h : Inv σ) {K : Int32 → Int32 → Prop} (hk : ∀ r, K r r) : wp_X8_choice a1 a2 σ (fun r => wp_X9_choice a1 a2 σ (fun r' => K r r')) := by
  unfold wp_X8_choice wp_X9_choice
  have e1 := b_ships h.1
  have e2 := (b_digits h.1).2
  refine i_refusalOf (fun x1 x2 x3 x4 x5 => ?_) (fun x1 x2 x3 x => ?_) (fun x => ?_)
  · rw [if_pos rfl]
    refine i_ownersSide (zv x1 (by omega)) x4 e2.1 e2.2 ?_
    refine t_isShip e1.1.symm (fun _ _ _ => ?_) (fun y => absurd ⟨x1, x2, x3⟩ y)
    refine t_isHour (fun _ _ => ?_) (fun y => by omega)
    exact i_choiceOf h.1 x1 x2 x4 (hk _)
  · rw [if_neg (by decide)]
    refine t_isShip e1.1.symm (fun _ _ _ => ?_) (fun y => absurd ⟨x1, x2, x3⟩ y)
    exact t_isHour (fun _ _ => by omega) (fun _ => hk _)
  · rw [if_neg (by decide)]
    exact t_isShip e1.1.symm (fun y1 y2 y3 => absurd ⟨y1, y2, y3⟩ x) (fun _ => hk _)
theorem s_sum (h : Inv σ) {K : Int32 → Int32 → Prop} (hk : ∀ r, K r r) : wp_X8_sum a1 σ (fun r => wp_X9_sum a1 σ (fun r' => K r r')) := by
  unfold wp_X8_sum wp_X9_sum
  refine i_within (a := 0) (b := 2) rfl rfl (fun x1 x2 => ⟨?_, ?_⟩) (fun x => ⟨?_, ?_⟩)
  · rw [if_neg (by decide)]
    exact ⟨zv x1 (by omega), trivial⟩
  · rintro _ rfl _ rfl
    rw [if_neg (by decide)]
    have e0 : σ.1 9 0 = σ.1 69 15 := b_sums h.1 (k := 0) (by omega)
    have e1 : σ.1 9 1 = σ.1 69 16 := b_sums h.1 (k := 1) (by omega)
    have e2 : σ.1 9 2 = σ.1 69 17 := b_sums h.1 (k := 2) (by omega)
    rw [← e0, ← e1, ← e2]
    rcases zS3 x1 x2 with rfl | rfl | rfl
    · exact hk _
    · exact hk _
    · exact hk _
  · rw [if_pos rfl]; trivial
  · rintro _ rfl _ rfl
    rw [if_pos rfl, if_neg, if_neg, if_neg]
    · exact hk _
    all_goals (rintro rfl; revert x; decide)
theorem s_state (h : Inv σ) {K : Int32 → Int32 → Prop} (hk : ∀ r, K r r) : wp_X8_state a1 a2 σ (fun r => wp_X9_state a1 a2 σ (fun r' => K r r')) := by
  unfold wp_X8_state wp_X9_state
  have e1 := b_ships h.1
  refine t_has rfl (fun x1 x2 x3 => ?_) (fun x => t_isShip e1.1.symm (fun y1 y2 y3 => absurd ⟨y1, y2, y3⟩ x) (fun _ => hk _))
  refine t_within (a := 0) (b := 2) rfl rfl (fun x4 x5 => ?_) (fun x => t_isShip e1.1.symm (fun _ _ _ => t_in (a := 0) (b := 2) rfl rfl (fun y1 y2 => by omega) (fun _ => hk _)) (fun y => absurd ⟨x1, x2, x3⟩ y))
  have hv : vp_in a1 6 := zv x1 (by omega)
  have hc : a1.toNatClampNeg < 6 := zcl x1 (by omega)
  have e3 := (b_where h.1 hc).1
  have e4 := (b_men h.1 hc).1
  have e5 := (b_straw h.1 hc).1
  have k9 : ∀ r : Int32, (r = if a2 = 0 then σ.1 3 a1.toNatClampNeg else if a2 = 1 then σ.1 4 a1.toNatClampNeg else σ.1 5 a1.toNatClampNeg) → wp_X9_isShip a1 σ (fun r1 => (if r1 = (0) then K r (-1 : Int32) else wp_X9_in (a2.toInt64) (0 : Int64) (2 : Int64) σ (fun r4 => (if r4 = (0) then K r (-2 : Int32) else wp_X9_stateOf a1 a2 σ (fun r7 => K r r7))))) := by
    rintro r rfl
    refine t_isShip e1.1.symm (fun _ _ _ => ?_) (fun y => absurd ⟨x1, x2, x3⟩ y)
    refine t_in (a := 0) (b := 2) rfl rfl (fun _ _ => ?_) (fun y => by omega)
    refine ⟨?_, ?_⟩
    · split
      · exact ⟨hv, trivial⟩
      · split <;> exact ⟨hv, trivial⟩
    · rintro _ rfl
      rw [← e3, ← e4, ← e5]
      exact hk _
  unfold wp_X6_look
  by_cases c : a2 = 0
  · rw [if_pos c]
    exact ⟨hv, k9 _ (by rw [if_pos c])⟩
  · rw [if_neg c]
    refine ⟨?_, ?_⟩
    · split <;> exact ⟨hv, trivial⟩
    · rintro _ rfl
      exact k9 _ (by rw [if_neg c])
end S
