/-! bounds; captains, persuaded, held, years -/
section Q
variable {a k : Nat} {p sd hr ea : Int32} {σ : zST} {P : Int32 → Prop}
theorem zmulb {x y : Int32} {m n : Int} (h1 : 0 ≤ x.toInt) (h2 : x.toInt ≤ m) (h3 : 0 ≤ y.toInt) (h4 : y.toInt ≤ n) (h5 : m * n < 2147483648) : (x * y).toInt = x.toInt * y.toInt ∧ 0 ≤ (x * y).toInt ∧ (x * y).toInt ≤ m * n := by
  have q1 : 0 ≤ x.toInt * y.toInt := Int.mul_nonneg h1 h3
  have q2 : x.toInt * y.toInt ≤ m * n := Int.mul_le_mul h2 h4 h3 (by omega)
  have q3 : (x * y).toInt = x.toInt * y.toInt := fb_mulI (by omega) (by omega)
  exact ⟨q3, by omega, by omega⟩
theorem zaddb {x y : Int32} {m n : Int} (h1 : 0 ≤ x.toInt) (h2 : x.toInt ≤ m) (h3 : 0 ≤ y.toInt) (h4 : y.toInt ≤ n) (h5 : m + n < 2147483648) : (x + y).toInt = x.toInt + y.toInt ∧ 0 ≤ (x + y).toInt ∧ (x + y).toInt ≤ m + n := by
  have q3 : (x + y).toInt = x.toInt + y.toInt := fb_addI (by omega) (by omega)
  exact ⟨q3, by omega, by omega⟩
theorem b_t (hI : IB σ) : (1 ≤ (σ.1 7 0).toInt ∧ (σ.1 7 0).toInt ≤ 9) ∧ (0 ≤ (σ.1 7 1).toInt ∧ (σ.1 7 1).toInt ≤ 99) ∧ (0 ≤ (σ.1 7 2).toInt ∧ (σ.1 7 2).toInt ≤ 20) ∧ (0 ≤ (σ.1 7 3).toInt ∧ (σ.1 7 3).toInt ≤ 60) ∧ (0 ≤ (σ.1 7 4).toInt ∧ (σ.1 7 4).toInt ≤ 99) ∧ (0 ≤ (σ.1 7 5).toInt ∧ (σ.1 7 5).toInt ≤ 99) ∧ (0 ≤ (σ.1 7 6).toInt ∧ (σ.1 7 6).toInt ≤ 99) ∧ (0 ≤ (σ.1 7 7).toInt ∧ (σ.1 7 7).toInt ≤ 65536) :=
  ⟨(b_terms hI (k := 0) (by omega)).2, (b_terms hI (k := 1) (by omega)).2, (b_terms hI (k := 2) (by omega)).2, (b_terms hI (k := 3) (by omega)).2, (b_terms hI (k := 4) (by omega)).2, (b_terms hI (k := 5) (by omega)).2, (b_terms hI (k := 6) (by omega)).2, (b_terms hI (k := 7) (by omega)).2⟩
theorem qT_b (hI : IB σ) (hk : k < 6) : 0 ≤ (qT σ 2 k).toInt ∧ (qT σ 2 k).toInt ≤ (σ.1 4 k).toInt := by
  have e2 := (b_men hI hk).2
  have e4 := zsubT hI hk
  have key : ∀ d m : Int32, 0 ≤ m.toInt → 0 ≤ Int32.toInt (if (if (0 : Int32) < d then d else 0) < m then (if (0 : Int32) < d then d else 0) else m) ∧ Int32.toInt (if (if (0 : Int32) < d then d else 0) < m then (if (0 : Int32) < d then d else 0) else m) ≤ m.toInt := by
    intro d m hm
    by_cases c2 : (0 : Int32) < d
    · rw [if_pos c2]
      have c3 : 0 < d.toInt := Int32.lt_iff_toInt_lt.mp c2
      by_cases c : d < m
      · rw [if_pos c]
        rw [Int32.lt_iff_toInt_lt] at c
        omega
      · rw [if_neg c]
        omega
    · rw [if_neg c2]
      by_cases c : (0 : Int32) < m
      · rw [if_pos c]
        exact ⟨by decide, hm⟩
      · rw [if_neg c]
        omega
  exact key (σ.1 7 0 - σ.1 5 k) (σ.1 4 k) e2.1
theorem qW_b (hI : IB σ) (hk : k < 6) : 0 ≤ (qW σ 2 k).toInt ∧ (qW σ 2 k).toInt ≤ 3969 := by
  have t := b_t hI
  have e2 := (b_men hI hk).2
  have e3 := (b_cargo hI hk).2
  have q1 := zmulb t.2.1.1 t.2.1.2 e2.1 e2.2 (by decide)
  exact (zaddb q1.2.1 q1.2.2 e3.1 e3.2 (by decide)).2
theorem qL_b (hI : IB σ) (hk : k < 6) : 0 ≤ (qL σ 2 k).toInt ∧ (qL σ 2 k).toInt ≤ 3969 := by
  have t := b_t hI
  have e1 := qT_b hI hk
  have e2 := (b_men hI hk).2
  have e3 := (b_cargo hI hk).2
  have q1 := zmulb (n := 30) t.2.1.1 t.2.1.2 e1.1 (by omega) (by decide)
  have e4 : 0 ≤ Int32.toInt (if qT σ 2 k = σ.1 4 k then σ.1 6 k else 0) ∧ Int32.toInt (if qT σ 2 k = σ.1 4 k then σ.1 6 k else 0) ≤ 999 := by
    split
    · exact e3
    · decide
  exact (zaddb q1.2.1 q1.2.2 e4.1 e4.2 (by decide)).2
theorem qF_b (hI : IB σ) (hk : k < 6) : 0 ≤ (qF σ 2 k).toInt ∧ (qF σ 2 k).toInt ≤ 36000 := by
  have t := b_t hI
  have e2 := (b_men hI hk).2
  have q1 := zmulb t.2.2.1.1 t.2.2.1.2 t.2.2.2.1.1 t.2.2.2.1.2 (by decide)
  exact (zmulb q1.2.1 q1.2.2 e2.1 e2.2 (by decide)).2
theorem qM_b (hI : IB σ) (hk : k < 6) (hh : 0 ≤ hr.toInt) : 0 ≤ (qM σ 2 k sd hr).toInt ∧ (qM σ 2 k sd hr).toInt ≤ 360000 := by
  unfold qM
  split
  · have d := (zdg_b hI hh).2
    have w := qW_b hI hk
    have := (zmulb d.1 d.2 w.1 w.2 (by decide)).2
    omega
  · split
    · have w := qL_b hI hk
      have := (zmulb (x := 10) (m := 10) (by decide) (by decide) w.1 w.2 (by decide)).2
      omega
    · have w := qF_b hI hk
      have := (zmulb (x := 10) (m := 10) (by decide) (by decide) w.1 w.2 (by decide)).2
      omega
theorem qX_b (hI : IB σ) (hk : k < 6) : 0 ≤ (qX σ 2 k sd hr).toInt ∧ (qX σ 2 k sd hr).toInt ≤ 36000 := by
  unfold qX
  have w1 := qW_b hI hk
  have w2 := qL_b hI hk
  have w3 := qF_b hI hk
  split
  · split
    · decide
    · omega
  · split
    · omega
    · omega
/-! captains -/
def qR (σ : zST) (a : Nat) (m e : Int32) : Int32 := if m = 0 then 0 else σ.1 (a + 5) 5 + e * m
def qG (σ : zST) (a k : Nat) (sd h e : Int32) : Int32 := if sd = 0 then 10 * qR σ a (σ.1 (a + 2) k - qT σ a k) e else if sd = 1 then (10 - zdg σ a h) * qR σ a (σ.1 (a + 2) k) e else 10 * (qR σ a (σ.1 (a + 2) k) e - σ.1 (a + 5) 3)
def qC (σ : zST) (a k : Nat) (h e : Int32) : Int32 := if qG σ a k 2 h e ≤ qG σ a k (if qG σ a k 1 h e ≤ qG σ a k 0 h e then 0 else 1) h e then (if qG σ a k 1 h e ≤ qG σ a k 0 h e then 0 else 1) else 2
theorem i_captainGets (hv : vp_in p 6) (h0 : 0 ≤ hr.toInt) (h1 : 1 ≤ (σ.1 a 7).toInt) (h2 : (σ.1 a 7).toInt ≤ 24) (h : P (qG σ a p.toNatClampNeg sd hr ea)) : wp_X6_captainGets a p sd hr ea σ P := by
  unfold wp_X6_captainGets
  unfold qG at h
  by_cases c1 : sd = 0
  · rw [if_pos c1] at h ⊢
    refine ⟨hv, i_menToTeeth hv ?_⟩
    rintro _ rfl
    exact h
  · rw [if_neg c1] at h ⊢
    refine ⟨hv, ?_⟩
    rintro _ rfl
    by_cases c2 : sd = 1
    · rw [if_pos c2] at h ⊢
      exact i_digitAt h0 h1 h2 h
    · rw [if_neg c2] at h ⊢
      exact h
theorem i_gets (hI : IB σ) (h0 : 0 ≤ p.toInt) (h1 : p.toInt ≤ 5) (hh : 0 ≤ hr.toInt) (h : P (qG σ 2 p.toNatClampNeg sd hr ea)) : wp_X9_gets p sd hr ea σ P := by
  have hv : vp_in p 6 := zv h0 (by omega)
  have hk : p.toNatClampNeg < 6 := zcl h0 (by omega)
  have e3 := (b_men hI hk).1
  have e5 : σ.1 7 5 = σ.1 69 10 := (b_terms hI (k := 5) (by omega)).1
  have e6 : σ.1 7 3 = σ.1 69 8 := (b_terms hI (k := 3) (by omega)).1
  unfold wp_X9_gets
  unfold qG qR at h
  refine ⟨hv, i_lostByTeeth hI h0 h1 ?_⟩
  rintro _ rfl
  rw [← e3, ← e5, ← e6]
  by_cases c1 : sd = 0
  · rw [if_pos c1] at h ⊢
    rintro _ rfl
    by_cases c2 : σ.1 4 p.toNatClampNeg - qT σ 2 p.toNatClampNeg = 0
    · rw [if_pos c2]
      rw [if_pos (show σ.1 (2 + 2) p.toNatClampNeg - qT σ 2 p.toNatClampNeg = 0 from c2)] at h
      exact h
    · rw [if_neg c2]
      rw [if_neg (show ¬ σ.1 (2 + 2) p.toNatClampNeg - qT σ 2 p.toNatClampNeg = 0 from c2)] at h
      exact h
  · rw [if_neg c1] at h ⊢
    refine ⟨hv, ?_⟩
    rintro _ rfl
    by_cases c2 : sd = 1
    · rw [if_pos c2] at h ⊢
      refine i_tenths hI hh ⟨hv, ?_⟩
      rintro _ rfl
      exact h
    · rw [if_neg c2] at h ⊢
      refine ⟨hv, ?_⟩
      rintro _ rfl
      exact h
theorem i_captainsSide (hv : vp_in p 6) (h0 : 0 ≤ hr.toInt) (h1 : 1 ≤ (σ.1 a 7).toInt) (h2 : (σ.1 a 7).toInt ≤ 24) (h : P (qC σ a p.toNatClampNeg hr ea)) : wp_X6_captainsSide a p hr ea σ P := by
  refine ⟨3, ?_⟩
  unfold wp_X6_captainsSide_L6
  rw [if_neg (by decide)]
  refine i_captainGets hv h0 h1 h2 (i_captainGets hv h0 h1 h2 ?_)
  have k2 : ∀ b : Int32, P (if qG σ a p.toNatClampNeg 2 hr ea ≤ qG σ a p.toNatClampNeg b hr ea then b else 2) → wp_X6_captainsSide_L6 a p hr ea σ P 2 b (1 + 1) := by
    intro b hb
    unfold wp_X6_captainsSide_L6
    rw [if_neg (by decide)]
    refine i_captainGets hv h0 h1 h2 (i_captainGets hv h0 h1 h2 ?_)
    by_cases c : qG σ a p.toNatClampNeg 2 hr ea ≤ qG σ a p.toNatClampNeg b hr ea
    · rw [if_pos c] at hb
      rw [if_pos (show qG σ a p.toNatClampNeg (1 + 1) hr ea ≤ qG σ a p.toNatClampNeg b hr ea from c)]
      unfold wp_X6_captainsSide_L6
      rw [if_pos (by decide)]
      exact hb
    · rw [if_neg c] at hb
      rw [if_neg (show ¬ qG σ a p.toNatClampNeg (1 + 1) hr ea ≤ qG σ a p.toNatClampNeg b hr ea from c)]
      unfold wp_X6_captainsSide_L6
      rw [if_pos (by decide)]
      exact hb
  unfold qC at h
  by_cases c : qG σ a p.toNatClampNeg 1 hr ea ≤ qG σ a p.toNatClampNeg 0 hr ea
  · rw [if_pos c] at h ⊢
    exact k2 0 h
  · rw [if_neg c] at h ⊢
    exact k2 1 h
theorem i_captainBy (hI : IB σ) (h0 : 0 ≤ p.toInt) (h1 : p.toInt ≤ 5) (hh : 0 ≤ hr.toInt) (h : P (qC σ 2 p.toNatClampNeg hr ea)) : wp_X9_captainBy p hr ea σ P := by
  refine ⟨3, ?_⟩
  unfold wp_X9_captainBy_L6
  rw [if_neg (by decide)]
  refine i_gets hI h0 h1 hh (i_gets hI h0 h1 hh ?_)
  rintro _ rfl
  unfold wp_X9_captainBy_L6
  rw [if_neg (by decide)]
  refine i_gets hI h0 h1 hh (i_gets hI h0 h1 hh ?_)
  rintro _ rfl
  unfold wp_X9_captainBy_L6
  rw [if_pos (by decide)]
  exact h
def zpers (f : Nat → Int32) (w : Int32) : Nat → Nat → Int32
  | 0, _ => -6
  | n + 1, i => if f i = w then nI i else zpers f w n (i + 1)
end Q
section S
variable {σ : zST} {a1 a2 a3 a4 a5 : Int32}
theorem s_captain (h : Inv σ) {K : Int32 → Int32 → Prop} (hk : ∀ r, K r r) : wp_X8_captain a1 a2 σ (fun r => wp_X9_captain a1 a2 σ (fun r' => K r r')) := by
  unfold wp_X8_captain wp_X9_captain
  have e1 := b_ships h.1
  have e2 := (b_digits h.1).2
  have e3 : σ.1 7 6 = σ.1 69 11 := (b_terms h.1 (k := 6) (by omega)).1
  refine i_refusalOf (fun x1 x2 x3 x4 x5 => ?_) (fun x1 x2 x3 x => ?_) (fun x => ?_)
  · rw [if_pos rfl]
    refine i_captainsSide (zv x1 (by omega)) x4 e2.1 e2.2 ?_
    refine t_isShip e1.1.symm (fun _ _ _ => ?_) (fun y => absurd ⟨x1, x2, x3⟩ y)
    refine t_isHour (fun _ _ => ?_) (fun y => by omega)
    rw [← e3]
    exact i_captainBy h.1 x1 x2 x4 (hk _)
  · rw [if_neg (by decide)]
    refine t_isShip e1.1.symm (fun _ _ _ => ?_) (fun y => absurd ⟨x1, x2, x3⟩ y)
    exact t_isHour (fun _ _ => by omega) (fun _ => hk _)
  · rw [if_neg (by decide)]
    exact t_isShip e1.1.symm (fun y1 y2 y3 => absurd ⟨y1, y2, y3⟩ x) (fun _ => hk _)
theorem i_persL8 {P : Int32 → Prop} {w : Int32} {f : Nat → Int32} (hf : ∀ i, qC σ 2 a1.toNatClampNeg a2 (nI i) = f i) (hv : vp_in a1 6) (h0 : 0 ≤ a2.toInt) (h1 : 1 ≤ (σ.1 2 7).toInt) (h2 : (σ.1 2 7).toInt ≤ 24) : ∀ n i : Nat, n + i = 100 → P (zpers f w n i) → wp_X8_persuaded_L35 a1 a2 w σ P (n + 1) (nI i) := by
  intro n
  induction n with
  | zero =>
    intro i hi hp
    unfold wp_X8_persuaded_L35
    rw [if_pos]
    · exact hp
    · rw [show i = 100 by omega]; decide
  | succ n ih =>
    intro i hi hp
    unfold wp_X8_persuaded_L35
    rw [if_neg]
    · refine i_captainsSide hv h0 h1 h2 ?_
      unfold zpers at hp
      rw [hf i]
      by_cases c : f i = w
      · rw [if_pos c] at hp ⊢
        exact hp
      · rw [if_neg c] at hp ⊢
        rw [nI_1]
        exact ih (i + 1) (by omega) hp
    · rw [Int32.lt_iff_toInt_lt, nI_toInt (by omega)]
      show ¬ (99 : Int) < i
      omega
theorem i_persL9 {P : Int32 → Prop} {w : Int32} {f : Nat → Int32} (hf : ∀ i, qC σ 2 a1.toNatClampNeg a2 (nI i) = f i) (hI : IB σ) (h0 : 0 ≤ a1.toInt) (h1 : a1.toInt ≤ 5) (hh : 0 ≤ a2.toInt) : ∀ n i : Nat, n + i = 100 → P (zpers f w n i) → wp_X9_persuaded_L30 a1 a2 w σ P (n + 1) (nI i) := by
  intro n
  induction n with
  | zero =>
    intro i hi hp
    unfold wp_X9_persuaded_L30
    rw [if_pos]
    · exact hp
    · rw [show i = 100 by omega]; decide
  | succ n ih =>
    intro i hi hp
    unfold wp_X9_persuaded_L30
    rw [if_neg]
    · refine i_captainBy hI h0 h1 hh ?_
      unfold zpers at hp
      rw [hf i]
      by_cases c : f i = w
      · rw [if_pos c] at hp ⊢
        exact hp
      · rw [if_neg c] at hp ⊢
        rw [nI_1]
        exact ih (i + 1) (by omega) hp
    · rw [Int32.le_iff_toInt_le, nI_toInt (by omega)]
      show ¬ (100 : Int) ≤ i
      omega
theorem s_persuaded (h : Inv σ) {K : Int32 → Int32 → Prop} (hk : ∀ r, K r r) : wp_X8_persuaded a1 a2 σ (fun r => wp_X9_persuaded a1 a2 σ (fun r' => K r r')) := by
  unfold wp_X8_persuaded wp_X9_persuaded
  have e1 := b_ships h.1
  have e2 := (b_digits h.1).2
  refine i_refusalOf (fun x1 x2 x3 x4 x5 => ?_) (fun x1 x2 x3 x => ?_) (fun x => ?_)
  · rw [if_pos rfl]
    refine i_ownersSide (zv x1 (by omega)) x4 e2.1 e2.2 ?_
    rintro _ rfl
    refine ⟨101, i_persL8 (fun _ => rfl) (zv x1 (by omega)) x4 e2.1 e2.2 100 0 rfl ?_⟩
    refine t_isShip e1.1.symm (fun _ _ _ => ?_) (fun y => absurd ⟨x1, x2, x3⟩ y)
    refine t_isHour (fun _ _ => ?_) (fun y => by omega)
    exact i_choiceOf h.1 x1 x2 x4 ⟨101, i_persL9 (fun _ => rfl) h.1 x1 x2 x4 100 0 rfl (hk _)⟩
  · rw [if_neg (by decide)]
    refine t_isShip e1.1.symm (fun _ _ _ => ?_) (fun y => absurd ⟨x1, x2, x3⟩ y)
    exact t_isHour (fun _ _ => by omega) (fun _ => hk _)
  · rw [if_neg (by decide)]
    exact t_isShip e1.1.symm (fun y1 y2 y3 => absurd ⟨y1, y2, y3⟩ x) (fun _ => hk _)
end S
