/-! insured, lot, often, twice, burnt: they answer -/
section S
variable {σ : zST} {P : Int32 → Prop} {PL : Int64 → Prop} {a1 a2 a3 a4 a5 : Int32} {a : Nat} {v : Int32}
theorem e_worthL (h : ∀ r, P r) : ∀ n i, n + i = 4 → ∀ w, wp_X3_worthTaking_L4 a v σ P (n + 1) w (nI i) := by
  intro n
  induction n with
  | zero =>
    intro i hi w
    unfold wp_X3_worthTaking_L4
    rw [if_pos (by rw [show i = 4 by omega]; decide)]
    exact h _
  | succ n ih =>
    intro i hi w
    unfold wp_X3_worthTaking_L4
    rw [if_neg (by rw [Int32.le_iff_toInt_le, nI_toInt (by omega)]; show ¬ (4 : Int) ≤ i; omega)]
    have hv : vp_in (nI i) 4 := vp_in_nI (by omega) (by omega)
    split
    · refine ⟨hv, hv, ?_⟩
      rw [nI_1]
      split
      · exact ih (i + 1) (by omega) _
      · intro x _
        exact ih (i + 1) (by omega) _
    · rw [nI_1]
      exact ih (i + 1) (by omega) _
theorem e_worth (h : ∀ r, P r) : wp_X3_worthTaking a v σ P := ⟨5, e_worthL h 4 0 rfl _⟩
theorem e_sumL (h : ∀ r, P r) : ∀ n i, n + i = 4 → ∀ w, wp_X3_sumOver_L4 a v σ P (n + 1) w (nI i) := by
  intro n
  induction n with
  | zero =>
    intro i hi w
    unfold wp_X3_sumOver_L4
    rw [if_pos (by rw [show i = 4 by omega]; decide)]
    exact h _
  | succ n ih =>
    intro i hi w
    unfold wp_X3_sumOver_L4
    rw [if_neg (by rw [Int32.le_iff_toInt_le, nI_toInt (by omega)]; show ¬ (4 : Int) ≤ i; omega)]
    have hv : vp_in (nI i) 4 := vp_in_nI (by omega) (by omega)
    split
    · exact h _
    · split
      · refine ⟨hv, ?_⟩
        intro x _
        rw [nI_1]
        exact ih (i + 1) (by omega) _
      · rw [nI_1]
        exact ih (i + 1) (by omega) _
theorem e_sum (h : ∀ r, P r) : wp_X3_sumOver a v σ P := ⟨5, e_sumL h 4 0 rfl _⟩

theorem e_gotL (h : ∀ r, P r) : ∀ n i, n + i = 4 → ∀ w, wp_X9_got_L4 v σ P (n + 1) w (nI i) := by
  intro n
  induction n with
  | zero =>
    intro i hi w
    unfold wp_X9_got_L4
    rw [if_pos (by rw [show i = 4 by omega]; decide)]
    exact h _
  | succ n ih =>
    intro i hi w
    unfold wp_X9_got_L4
    rw [if_neg (by rw [Int32.le_iff_toInt_le, nI_toInt (by omega)]; show ¬ (4 : Int) ≤ i; omega)]
    have hv : vp_in (nI i) 4 := vp_in_nI (by omega) (by omega)
    refine ⟨by split; exact ⟨hv, trivial⟩; trivial, ?_⟩
    intro z _ x _
    rw [nI_1]
    exact ih (i + 1) (by omega) _
theorem e_got (h : ∀ r, P r) : wp_X9_got v σ P := ⟨5, e_gotL h 4 0 rfl _⟩

theorem e_premiumsL (h : ∀ r, P r) : ∀ n i, n + i = 4 → ∀ w, wp_X9_premiums_L4 v σ P (n + 1) w (nI i) := by
  intro n
  induction n with
  | zero =>
    intro i hi w
    unfold wp_X9_premiums_L4
    rw [if_pos (by rw [show i = 4 by omega]; decide)]
    exact h _
  | succ n ih =>
    intro i hi w
    unfold wp_X9_premiums_L4
    rw [if_neg (by rw [Int32.le_iff_toInt_le, nI_toInt (by omega)]; show ¬ (4 : Int) ≤ i; omega)]
    have hv : vp_in (nI i) 4 := vp_in_nI (by omega) (by omega)
    refine ⟨by split; exact ⟨hv, trivial⟩; trivial, ?_⟩
    intro z _ x _
    rw [nI_1]
    exact ih (i + 1) (by omega) _
theorem e_premiums (h : ∀ r, P r) : wp_X9_premiums v σ P := ⟨5, e_premiumsL h 4 0 rfl _⟩

theorem e_insL {K : Int32 → Int32 → Prop} {v3 v4 : Int32} (hI : IB σ) (h0 : 0 ≤ a1.toInt) (h1 : a1.toInt ≤ 5) (h : ∀ r s, K r s) : ∀ n i, n + i = 16 → ∀ x y, wp_X9_insured_L49 a1 v3 v4 σ K (n + 1) x y (nI i) := by
  intro n
  induction n with
  | zero =>
    intro i hi x y
    unfold wp_X9_insured_L49
    rw [if_pos (by rw [show i = 16 by omega]; decide)]
    exact h _ _
  | succ n ih =>
    intro i hi x y
    unfold wp_X9_insured_L49
    rw [if_neg (by rw [Int32.le_iff_toInt_le, nI_toInt (by omega)]; show ¬ (16 : Int) ≤ i; omega)]
    refine i_allOf hI h0 h1 ?_
    refine e_got (fun r => ?_)
    refine e_premiums (fun s => ?_)
    intro _ _ _ _ _ _ _ _
    rw [nI_1]
    exact ih (i + 1) (by omega) _ _
theorem e_J216 {s : Int32} (h : ∀ r, P r) : wp_X9_insured_J216 s σ P := by
  intro z _
  exact h z
theorem e_J192 {x s : Int32} (h : ∀ r, P r) : wp_X9_insured_J192 x s σ P := by
  unfold wp_X9_insured_J192
  refine e_premiums (fun r => ?_)
  split
  · exact e_J216 h
  · exact e_premiums (fun _ => e_J216 h)
theorem e_insured (h : Inv σ) {K : Int32 → Int32 → Prop} (hk : ∀ r r', K r r') : wp_X8_insured a1 a2 a3 σ (fun r => wp_X9_insured a1 a2 a3 σ (fun r' => K r r')) := by
  have fin : ∀ r, wp_X9_insured a1 a2 a3 σ (fun r' => K r r') := by
    intro r
    unfold wp_X9_insured
    refine t_isShip (b_ships h.1).1.symm (fun h0 h1 hs => ?_) (fun _ => hk _ _)
    refine t_isHour (fun g0 g1 => ?_) (fun _ => hk _ _)
    refine t_in (a := 0) (b := 2) rfl rfl (fun _ _ => ?_) (fun _ => hk _ _)
    refine i_tenths h.1 g0 ?_
    refine ⟨17, e_insL h.1 h0 h1 (fun x y => ?_) 16 0 rfl _ _⟩
    split
    · split
      · exact e_J192 (fun _ => hk _ _)
      · refine i_allOf h.1 h0 h1 ?_
        refine e_got (fun _ => ?_)
        refine e_premiums (fun _ => ?_)
        exact e_J192 (fun _ => hk _ _)
    · intro z _
      exact hk _ _
  unfold wp_X8_insured
  refine t_has rfl (fun h0 h1 hs => ?_) (fun _ => fin _)
  refine t_isHour8 (fun g0 g1 => ?_) (fun _ => fin _)
  refine t_within (a := 0) (b := 2) rfl rfl (fun _ _ => ?_) (fun _ => fin _)
  have hd := b_digits h.1
  refine i_digitAt g0 hd.2.1 hd.2.2 ?_
  refine e_worth (fun r => ?_)
  split
  · exact fin _
  · refine e_sum (fun _ => ?_)
    refine e_sum (fun _ => ?_)
    refine i_whole (zv h0 (by omega)) ?_
    split
    · exact fin _
    · intro z _
      exact fin _
theorem zmodL {p d : Int64} (hd : d ≠ 0) : (p - p / d * d).toInt = p.toInt.tmod d.toInt := by
  by_cases hs : p = Int64.minValue ∧ d = -1
  · obtain ⟨rfl, rfl⟩ := hs
    decide
  · have hq : (p / d).toInt = p.toInt.tdiv d.toInt := by
      by_cases h1 : p = Int64.minValue
      · exact Int64.toInt_div_of_ne_right p d (fun q => hs ⟨h1, q⟩)
      · exact Int64.toInt_div_of_ne_left p d h1
    have e : p.toInt - p.toInt.tdiv d.toInt * d.toInt = p.toInt.tmod d.toInt := by
      have := Int.tdiv_mul_add_tmod p.toInt d.toInt
      omega
    have rg := fb_rngL (p % d)
    rw [Int64.toInt_mod] at rg
    rw [Int64.toInt_sub, Int64.toInt_mul, hq, Int.sub_bmod_bmod, e]
    exact fb_bmodL rg.1 rg.2
theorem zmodL_lt {p d : Int64} (hd : d ≠ 0) : (p - p / d * d).toInt.natAbs < d.toInt.natAbs := by
  rw [zmodL hd, Int.natAbs_tmod]
  have : d.toInt ≠ 0 := fun q => hd (Int64.toInt_inj.mp q)
  exact Nat.mod_lt _ (by omega)
theorem zcmp0 {x : Int64} : lg_cmp x 0 = 0 ↔ x = 0 := by
  unfold lg_cmp
  constructor
  · intro h
    split at h
    · exact absurd h (by decide)
    · split at h
      · assumption
      · exact absurd h (by decide)
  · rintro rfl
    decide
theorem e_lowJ {x y u : Int64} {m : Int32} (hu : u ≠ 0) (h : ∀ r, PL r) : wp_X9_lowest_J31 x y m u σ PL := by
  unfold wp_X9_lowest_J31
  refine ⟨by split <;> exact ⟨hu, trivial⟩, ?_⟩
  intro z _
  exact h z
theorem e_lowL {x y : Int64} {m : Int32} (h : ∀ r, PL r) : ∀ (n : Nat) (u t : Int64), t.toInt.natAbs < n → (t = 0 → u ≠ 0) → wp_X9_lowest_L6 x y m σ PL n u t := by
  intro n
  induction n with
  | zero => intro u t ht; omega
  | succ n ih =>
    intro u t ht hu
    unfold wp_X9_lowest_L6
    by_cases e : t = 0
    · rw [if_pos (zcmp0.mpr e)]
      exact e_lowJ (hu e) h
    · rw [if_neg (fun q => e (zcmp0.mp q))]
      refine ⟨e, ?_⟩
      rintro _ rfl
      have := zmodL_lt (p := u) e
      exact ih _ _ (by omega) (fun _ => e)
theorem e_low {x y : Int64} {m : Int32} (hy : y ≠ 0) (h : ∀ r, PL r) : wp_X9_lowest x y m σ PL := ⟨_, e_lowL h _ y x (Nat.lt_succ_self _) (fun _ => hy)⟩
theorem e_divL (h : ∀ r, PL r) : ∀ n i, n + i = 128 → ∀ u t, wp_X8_commonDivisor_L9 σ PL (n + 1) u t (nI i) := by
  intro n
  induction n with
  | zero =>
    intro i hi u t
    unfold wp_X8_commonDivisor_L9
    rw [if_pos (by rw [show i = 128 by omega]; decide)]
    exact h _
  | succ n ih =>
    intro i hi u t
    unfold wp_X8_commonDivisor_L9
    rw [if_neg (by rw [Int32.le_iff_toInt_le, nI_toInt (by omega)]; show ¬ (128 : Int) ≤ i; omega)]
    by_cases e : t = 0
    · rw [if_pos (zcmp0.mpr e)]
      exact h _
    · rw [if_neg (fun q => e (zcmp0.mp q)), nI_1]
      refine ⟨e, ?_⟩
      intro x _
      exact ih (i + 1) (by omega) _ _
theorem e_part {x y : Int64} {m : Int32} (h : ∀ r, PL r) : wp_X8_partOf x y m σ PL := by
  unfold wp_X8_partOf
  refine ⟨129, e_divL (fun r => ?_) 128 0 rfl _ _⟩
  by_cases e : r = 0
  · subst e
    rw [if_neg (by decide)]
    exact h _
  · split
    · intro z _
      exact ⟨e, h _⟩
    · exact h _
theorem e_drawnL {v2 : Int32} (h : ∀ r, P r) : ∀ n i, n + i = 8 → ∀ w, wp_X1_countDrawn_L5 a v v2 σ P (n + 1) w (nI i) := by
  intro n
  induction n with
  | zero =>
    intro i hi w
    unfold wp_X1_countDrawn_L5
    rw [if_pos (by rw [show i = 8 by omega]; decide)]
    exact h _
  | succ n ih =>
    intro i hi w
    unfold wp_X1_countDrawn_L5
    rw [if_neg (by rw [Int32.le_iff_toInt_le, nI_toInt (by omega)]; show ¬ (8 : Int) ≤ i; omega)]
    rw [nI_1]
    refine t_has8 rfl (fun _ _ _ => ?_) (fun _ => ih (i + 1) (by omega) _)
    refine ⟨vp_in_nI (by omega) (by omega), ?_⟩
    exact t_within rfl rfl (fun _ _ => ih (i + 1) (by omega) _) (fun _ => ih (i + 1) (by omega) _)
theorem e_drawn {v2 : Int32} (h : ∀ r, P r) : wp_X1_countDrawn a v v2 σ P := ⟨9, e_drawnL h 8 0 rfl _⟩
theorem e_lotL {K : Int32 → Int32 → Prop} {b v1 v3 : Int32} (hb0 : 0 ≤ b.toInt) (hb1 : b.toInt ≤ 7) (hs : zH (σ.1 69 21) b) (h : ∀ r s, 1 ≤ s.toInt → K r s) : ∀ (n i : Nat), n + i = 8 → ∀ x y, 0 ≤ y.toInt → y.toInt ≤ (i : Int) → (b.toInt < (i : Int) → 1 ≤ y.toInt) → wp_X9_lot_L52 v1 b v3 σ K (n + 1) x y (nI i) := by
  intro n
  induction n with
  | zero =>
    intro i hi x y _ _ h2
    unfold wp_X9_lot_L52
    rw [if_pos (by rw [show i = 8 by omega]; decide)]
    exact h _ _ (h2 (by omega))
  | succ n ih =>
    intro i hi x y y0 y1 y2
    unfold wp_X9_lot_L52
    rw [if_neg (by rw [Int32.le_iff_toInt_le, nI_toInt (by omega)]; show ¬ (8 : Int) ≤ i; omega)]
    rw [nI_1]
    have hv : vp_in (nI i) 8 := vp_in_nI (by omega) (by omega)
    have hw : vp_in b 8 := zv hb0 (by omega)
    have go : ∀ z, z = (0 : Int32) ∨ z = 1 → (b.toInt = (i : Int) → z = 1) → ∀ x', wp_X9_lot_L52 v1 b v3 σ K (n + 1) x' (y + z) (nI (i + 1)) := by
      intro z hz hzb x'
      rcases hz with rfl | rfl
      · have e : (y + 0).toInt = y.toInt := by rw [fb_addI (by show _ ≤ y.toInt + 0; omega) (by show y.toInt + 0 < _; omega)]; show y.toInt + 0 = _; omega
        refine ih (i + 1) (by omega) _ _ (by omega) (by omega) (fun q => ?_)
        rcases Int.lt_or_lt_of_ne (a := b.toInt) (b := (i : Int)) (fun q => absurd (hzb q) (by decide)) with q1 | q1
        · have := y2 q1
          omega
        · omega
      · have e : (y + 1).toInt = y.toInt + 1 := by rw [fb_addI (by show _ ≤ y.toInt + 1; omega) (by show y.toInt + 1 < _; omega)]; rfl
        exact ih (i + 1) (by omega) _ _ (by omega) (by omega) (fun _ => by omega)
    have two : ∀ x', wp_X9_isAboard (nI i) σ (fun r23 => (if r23 = (0) then True else vp_in (nI i) 8 ∧ vp_in b 8 ∧ True) ∧ ∀ z26 : Int32, z26 = (if r23 = (0) then (0 : Int32) else (if (σ.1 77 (nI i).toNatClampNeg) = (σ.1 77 b.toNatClampNeg) then (1 : Int32) else (0 : Int32))) → ∀ x32 : Int32, x32 = (y + z26) → wp_X9_lot_L52 v1 b v3 σ K (n + 1) x' x32 (nI (i + 1))) := by
      intro x'
      refine i_isAboard rfl (fun _ _ _ => ⟨by rw [if_neg (by decide)]; exact ⟨hv, hw, trivial⟩, ?_⟩) (fun hn => ⟨by rw [if_pos rfl]; trivial, ?_⟩)
      · rw [if_neg (by decide)]
        rintro z rfl _ rfl
        refine go _ (by split; exact Or.inr rfl; exact Or.inl rfl) (fun q => ?_) _
        have : b = nI i := Int32.toInt_inj.mp (by rw [q, nI_toInt (by omega)])
        rw [this, if_pos rfl]
      · rw [if_pos rfl]
        rintro z rfl _ rfl
        refine go _ (Or.inl rfl) (fun q => absurd ?_ hn) _
        have : b = nI i := Int32.toInt_inj.mp (by rw [q, nI_toInt (by omega)])
        rw [← this]
        exact ⟨hb0, hb1, hs⟩
    refine i_isAboard rfl (fun _ _ _ => ⟨by rw [if_neg (by decide)]; exact ⟨hv, hw, trivial⟩, ?_⟩) (fun hn => ⟨by rw [if_pos rfl]; trivial, ?_⟩)
    · intro z _ x' _
      exact two x'
    · intro z _ x' _
      exact two x'
theorem e_lot (h : Inv σ) {K : Int64 → Int64 → Prop} (hk : ∀ r r', K r r') : wp_X8_lot a1 a2 a3 σ (fun r => wp_X9_lot a1 a2 a3 σ (fun r' => K r r')) := by
  have hn := b_names h.1
  have fin : ∀ r, wp_X9_lot a1 a2 a3 σ (fun r' => K r r') := by
    intro r
    unfold wp_X9_lot
    refine t_isAboard rfl (fun h0 h1 hs => ?_) (fun _ => hk _ _)
    refine i_ones (by rw [← hn.1]; exact hn.2.1) (by rw [← hn.1]; exact hn.2.2) ?_
    refine t_in (b := (zpc (σ.1 69 21)).toInt) rfl (Int32.toInt_toInt64 _) (fun _ _ => ?_) (fun _ => hk _ _)
    refine t_in (a := 0) (b := 1) rfl rfl (fun _ _ => ?_) (fun _ => hk _ _)
    refine ⟨9, e_lotL h0 h1 hs (fun x y hy => ?_) 8 0 rfl _ _ (by decide) (by decide) (fun q => by omega)⟩
    intro _ _ z _
    refine e_low (fun q => ?_) (fun _ => hk _ _)
    have := congrArg Int64.toInt q
    rw [Int32.toInt_toInt64] at this
    rw [this] at hy
    exact absurd hy (by decide)
  unfold wp_X8_lot
  refine t_has8 rfl (fun h0 h1 hs => ?_) (fun _ => fin _)
  refine i_bitCount ?_
  refine t_within rfl rfl (fun _ _ => ?_) (fun _ => fin _)
  refine t_within (a := 0) (b := 1) rfl rfl (fun _ _ => ?_) (fun _ => fin _)
  have hw : vp_in a2 8 := zv h0 (by omega)
  refine ⟨hw, hw, ?_⟩
  refine e_drawn (fun _ => ?_)
  refine ⟨hw, ?_⟩
  refine e_drawn (fun _ => ?_)
  intro _ _
  exact e_part (fun _ => fin _)

theorem e_pow8L {v0 v1 : Int32} {m : Nat} (hm : v1 = nI m) (hb : m ≤ 8) (h : ∀ r, PL r) : ∀ n i, n + i = 9 → ∀ w, wp_X8_power_L5 v0 v1 σ PL (n + 1) w (nI i) := by
  subst hm
  intro n
  induction n with
  | zero =>
    intro i hi w
    unfold wp_X8_power_L5
    rw [if_pos (nI_le (by omega) (by omega))]
    exact h _
  | succ n ih =>
    intro i hi w
    unfold wp_X8_power_L5
    rw [nI_1]
    split
    · exact h _
    · intro x _
      exact ih (i + 1) (by omega) _
theorem e_pow8 {v0 v1 : Int32} (h1 : v1.toInt ≤ 8) (h : ∀ r, PL r) : wp_X8_power v0 v1 σ PL := by
  by_cases h0 : 0 ≤ v1.toInt
  · obtain ⟨m, hm, e, -⟩ := zN (h := 8) h0 h1
    exact ⟨10, e_pow8L e hm h 9 0 rfl _⟩
  · refine ⟨1, ?_⟩
    unfold wp_X8_power_L5
    rw [if_pos (by rw [Int32.le_iff_toInt_le]; show v1.toInt ≤ 0; omega)]
    exact h _

theorem e_pow9L {v0 v1 : Int32} {m : Nat} (hm : v1 = nI m) (hb : m ≤ 8) (h : ∀ r, PL r) : ∀ n i, n + i = 9 → ∀ w, wp_X9_power_L5 v0 v1 σ PL (n + 1) w (nI i) := by
  subst hm
  intro n
  induction n with
  | zero =>
    intro i hi w
    unfold wp_X9_power_L5
    rw [if_pos (nI_le (by omega) (by omega))]
    exact h _
  | succ n ih =>
    intro i hi w
    unfold wp_X9_power_L5
    rw [nI_1]
    split
    · exact h _
    · intro x _
      exact ih (i + 1) (by omega) _
theorem e_pow9 {v0 v1 : Int32} (h1 : v1.toInt ≤ 8) (h : ∀ r, PL r) : wp_X9_power v0 v1 σ PL := by
  by_cases h0 : 0 ≤ v1.toInt
  · obtain ⟨m, hm, e, -⟩ := zN (h := 8) h0 h1
    exact ⟨10, e_pow9L e hm h 9 0 rfl _⟩
  · refine ⟨1, ?_⟩
    unfold wp_X9_power_L5
    rw [if_pos (by rw [Int32.le_iff_toInt_le]; show v1.toInt ≤ 0; omega)]
    exact h _

theorem e_pow9pL {v0 v1 : Int32} {m b : Nat} (hm : v1 = nI m) (hb : m ≤ 8) (h0 : v0.toInt = b) (hb1 : 1 ≤ b) (hb2 : b ≤ 8) (h : ∀ r : Int64, 1 ≤ r.toInt → PL r) : ∀ n i, n + i = 9 → ∀ w : Int64, 1 ≤ w.toInt → w.toInt ≤ 8 ^ i → wp_X9_power_L5 v0 v1 σ PL (n + 1) w (nI i) := by
  subst hm
  intro n
  induction n with
  | zero =>
    intro i hi w w1 w2
    unfold wp_X9_power_L5
    rw [if_pos (nI_le (by omega) (by omega))]
    exact h _ w1
  | succ n ih =>
    intro i hi w w1 w2
    unfold wp_X9_power_L5
    rw [nI_1]
    split
    · exact h _ w1
    · rintro _ rfl
      have p8 : (8 : Int) ^ i ≤ 8 ^ 8 := by
        have : ∀ i, i < 9 → (8 : Int) ^ i ≤ 8 ^ 8 := by decide
        exact this i (by omega)
      have e1 : w.toInt * 1 ≤ w.toInt * v0.toInt := Int.mul_le_mul_of_nonneg_left (by omega) (by omega)
      have e2 : w.toInt * v0.toInt ≤ 8 ^ i * 8 := Int.mul_le_mul w2 (by omega) (by omega) (by omega)
      have e3 : (8 : Int) ^ 8 = 16777216 := by decide
      have e : (w * v0.toInt64).toInt = w.toInt * v0.toInt := by
        rw [fb_mulL (by rw [Int32.toInt_toInt64]; omega) (by rw [Int32.toInt_toInt64]; omega), Int32.toInt_toInt64]
      refine ih (i + 1) (by omega) _ (by omega) ?_
      rw [e, Int.pow_succ]
      exact e2
theorem e_pow9p {v0 v1 : Int32} (h0 : 1 ≤ v0.toInt) (h1 : v0.toInt ≤ 8) (h2 : 0 ≤ v1.toInt) (h3 : v1.toInt ≤ 8) (h : ∀ r : Int64, 1 ≤ r.toInt → PL r) : wp_X9_power v0 v1 σ PL := by
  obtain ⟨m, hm, e, -⟩ := zN (h := 8) h2 h3
  obtain ⟨b, hb, e', eb⟩ := zN (x := v0) (h := 8) (by omega) h1
  exact ⟨10, e_pow9pL e hm eb (by omega) hb h 9 0 rfl _ (by decide) (by decide)⟩

theorem e_waysL {v0 v1 : Int32} {m : Nat} (hm : v1 = nI m) (hb : m ≤ 8) (h : ∀ r, PL r) : ∀ n i, n + i = 9 → 1 ≤ i → ∀ w, wp_X8_ways_L16 v0 v1 σ PL (n + 1) w (nI i) := by
  subst hm
  intro n
  induction n with
  | zero =>
    intro i hi _ w
    unfold wp_X8_ways_L16
    rw [if_pos (nI_lt (by omega) (by omega))]
    exact h _
  | succ n ih =>
    intro i hi h1 w
    unfold wp_X8_ways_L16
    rw [nI_1]
    split
    · exact h _
    · refine ⟨fun q => ?_, ?_⟩
      · have := congrArg Int64.toInt q
        rw [Int32.toInt_toInt64, nI_toInt (by omega)] at this
        have : (i : Int) = 0 := this
        omega
      · intro x _
        exact ih (i + 1) (by omega) (by omega) _

theorem e_chooseL {v0 v1 : Int32} {m : Nat} (hm : v1 = nI m) (hb : m ≤ 8) (h : ∀ r, PL r) : ∀ n i, n + i = 9 → 1 ≤ i → ∀ w, wp_X9_choose_L5 v0 v1 σ PL (n + 1) w (nI i) := by
  subst hm
  intro n
  induction n with
  | zero =>
    intro i hi _ w
    unfold wp_X9_choose_L5
    rw [if_pos (nI_lt (by omega) (by omega))]
    exact h _
  | succ n ih =>
    intro i hi h1 w
    unfold wp_X9_choose_L5
    rw [nI_1]
    split
    · exact h _
    · refine ⟨fun q => ?_, ?_⟩
      · have := congrArg Int64.toInt q
        rw [Int32.toInt_toInt64, nI_toInt (by omega)] at this
        have : (i : Int) = 0 := this
        omega
      · intro x _
        exact ih (i + 1) (by omega) (by omega) _

theorem e_choose {v0 v1 : Int32} (h1 : v1.toInt ≤ 8) (h : ∀ r, PL r) : wp_X9_choose v0 v1 σ PL := by
  by_cases h0 : 0 ≤ v1.toInt
  · obtain ⟨m, hm, e, -⟩ := zN (h := 8) h0 h1
    exact ⟨9, e_chooseL e hm h 8 1 rfl (by omega) _⟩
  · refine ⟨1, ?_⟩
    unfold wp_X9_choose_L5
    rw [if_pos (by rw [Int32.lt_iff_toInt_lt]; show v1.toInt < 1; omega)]
    exact h _
theorem e_ways {v0 v1 : Int32} (h1 : v1.toInt ≤ 8) (h : ∀ r, PL r) : wp_X8_ways v0 v1 σ PL := by
  unfold wp_X8_ways
  split
  · exact h _
  · rename_i q
    rw [Int32.lt_iff_toInt_lt] at q
    have q : ¬ v1.toInt < 0 := q
    split
    · obtain ⟨m, hm, e, -⟩ := zN (h := 8) (x := v1) (by omega) h1
      exact ⟨9, e_waysL e hm h 8 1 rfl (by omega) _⟩
    · exact h _
theorem e_oft8L {v1 v2 v3 v5 : Int32} {m : Nat} (hm : v3 = nI m) (hb : m ≤ 8) (h : ∀ r, PL r) : ∀ n i, n + i = 9 → ∀ w, wp_X8_often_L61 v1 v2 v3 v5 σ PL (n + 1) w (nI i) := by
  subst hm
  have v8 : (nI m).toInt ≤ 8 := by rw [nI_toInt (by omega)]; omega
  intro n
  induction n with
  | zero =>
    intro i hi w
    unfold wp_X8_often_L61
    rw [if_pos (nI_lt (by omega) (by omega))]
    exact e_pow8 v8 (fun _ => e_part h)
  | succ n ih =>
    intro i hi w
    unfold wp_X8_often_L61
    rw [nI_1]
    have i8 : (nI i).toInt ≤ 8 := by rw [nI_toInt (by omega)]; omega
    split
    · exact e_pow8 v8 (fun _ => e_part h)
    · refine e_ways i8 (fun _ => ?_)
      refine e_pow8 i8 (fun _ => ?_)
      refine e_pow8 ?_ (fun _ => ?_)
      · have e1 := nI_toInt (n := m) (by omega)
        have e2 := nI_toInt (n := i) (by omega)
        rw [fb_subI (by omega) (by omega)]
        omega
      · intro x _
        exact ih (i + 1) (by omega) _
theorem e_oft9L {v1 v2 v3 v5 : Int32} {m : Nat} (hm : v3 = nI m) (hb : m ≤ 8) (h1 : 1 ≤ v1.toInt) (h2 : v1.toInt ≤ 8) (h : ∀ r, PL r) : ∀ n i, n + i = 9 → ∀ w, wp_X9_often_L70 v1 v2 v3 v5 σ PL (n + 1) w (nI i) := by
  subst hm
  have v8 : (nI m).toInt ≤ 8 := by rw [nI_toInt (by omega)]; omega
  have fin : ∀ w, wp_X9_often_J111 v1 (nI m) v5 w σ PL := by
    intro w
    refine e_pow9p h1 h2 (by rw [nI_toInt (by omega)]; omega) v8 (fun r hr => ?_)
    exact e_low (fun q => by rw [q] at hr; exact absurd hr (by decide)) h
  intro n
  induction n with
  | zero =>
    intro i hi w
    unfold wp_X9_often_L70
    rw [if_pos (nI_lt (by omega) (by omega))]
    exact fin w
  | succ n ih =>
    intro i hi w
    unfold wp_X9_often_L70
    rw [nI_1]
    have i8 : (nI i).toInt ≤ 8 := by rw [nI_toInt (by omega)]; omega
    split
    · exact fin w
    · refine e_choose i8 (fun _ => ?_)
      refine e_pow9 i8 (fun _ => ?_)
      refine e_pow9 ?_ (fun _ => ?_)
      · have e1 := nI_toInt (n := m) (by omega)
        have e2 := nI_toInt (n := i) (by omega)
        rw [fb_subI (by omega) (by omega)]
        omega
      · intro x _
        exact ih (i + 1) (by omega) _
theorem e_often {K : Int64 → Int64 → Prop} (hk : ∀ r r', K r r') : wp_X8_often a1 a2 a3 a4 a5 σ (fun r => wp_X9_often a1 a2 a3 a4 a5 σ (fun r' => K r r')) := by
  have fin : ∀ r, wp_X9_often a1 a2 a3 a4 a5 σ (fun r' => K r r') := by
    intro r
    unfold wp_X9_often
    refine t_in (a := 1) (b := 8) rfl rfl (fun h0 h1 => ?_) (fun _ => hk _ _)
    refine t_in (a := 0) rfl (Int32.toInt_toInt64 _) (fun _ _ => ?_) (fun _ => hk _ _)
    refine t_in (a := 1) (b := 8) rfl rfl (fun h2 h3 => ?_) (fun _ => hk _ _)
    refine t_in (a := 0) (b := 8) rfl rfl (fun h4 h5 => ?_) (fun _ => hk _ _)
    refine t_in (a := 0) (b := 1) rfl rfl (fun _ _ => ?_) (fun _ => hk _ _)
    obtain ⟨m, hm, e, -⟩ := zN (h := 8) (x := a3) (by omega) h3
    obtain ⟨j, hj, rfl, -⟩ := zN (h := 8) (x := a4) (by omega) h5
    exact ⟨9 - j + 1, e_oft9L e hm h0 h1 (fun _ => hk _ _) (9 - j) j (by omega) _⟩
  unfold wp_X8_often
  refine t_within (a := 1) (b := 8) rfl rfl (fun h0 h1 => ?_) (fun _ => fin _)
  refine t_within (a := 0) rfl rfl (fun _ _ => ?_) (fun _ => fin _)
  refine t_within (a := 1) (b := 8) rfl rfl (fun h2 h3 => ?_) (fun _ => fin _)
  refine t_within (a := 0) (b := 8) rfl rfl (fun h4 h5 => ?_) (fun _ => fin _)
  refine t_within (a := 0) (b := 1) rfl rfl (fun _ _ => ?_) (fun _ => fin _)
  obtain ⟨m, hm, e, -⟩ := zN (h := 8) (x := a3) (by omega) h3
  obtain ⟨j, hj, rfl, -⟩ := zN (h := 8) (x := a4) (by omega) h5
  exact ⟨9 - j + 1, e_oft8L e hm (fun _ => fin _) (9 - j) j (by omega) _⟩
theorem e_rollsL {v1 v2 : Int32} (h : ∀ r, P r) : ∀ n i, n + i = 6 → ∀ w, wp_X5_rollsWith_L5 a v1 v2 σ P (n + 1) w (nI i) := by
  intro n
  induction n with
  | zero =>
    intro i hi w
    unfold wp_X5_rollsWith_L5
    split
    · exact h _
    · rw [if_pos (by rw [show i = 6 by omega]; decide)]
      exact h _
  | succ n ih =>
    intro i hi w
    unfold wp_X5_rollsWith_L5
    have hv : vp_in (nI i) 6 := vp_in_nI (by omega) (by omega)
    rw [nI_1]
    split
    · exact h _
    · split
      · exact h _
      · refine ⟨hv, ?_⟩
        split
        · exact ih (i + 1) (by omega) _
        · split
          · exact ih (i + 1) (by omega) _
          · refine ⟨hv, ?_⟩
            split
            · exact ih (i + 1) (by omega) _
            · exact ih (i + 1) (by omega) _
theorem e_twoL {v1 : Int32} (h : ∀ r, P r) : ∀ n i, n + i = 8 → ∀ w, wp_X5_namesOnTwo_L4 a v1 σ P (n + 1) w (nI i) := by
  intro n
  induction n with
  | zero =>
    intro i hi w
    unfold wp_X5_namesOnTwo_L4
    rw [if_pos (by rw [show i = 8 by omega]; decide)]
    exact h _
  | succ n ih =>
    intro i hi w
    unfold wp_X5_namesOnTwo_L4
    rw [if_neg (by rw [Int32.le_iff_toInt_le, nI_toInt (by omega)]; show ¬ (8 : Int) ≤ i; omega)]
    rw [nI_1]
    refine ⟨7, e_rollsL (fun r => ?_) 6 0 rfl _⟩
    split
    · exact ih (i + 1) (by omega) _
    · intro x _
      exact ih (i + 1) (by omega) _
theorem e_tw9L {v1 v2 v3 : Int32} (hI : IB σ) (h : ∀ r, P r) : ∀ n i, n + i = 6 → ∀ w, wp_X9_twice_L29 v1 v2 v3 σ P (n + 1) w (nI i) := by
  have hr := b_rolls hI
  intro n
  induction n with
  | zero =>
    intro i hi w
    unfold wp_X9_twice_L29
    rw [if_pos (by rw [Int32.le_iff_toInt_le, nI_toInt (by omega), ← hr.1]; omega)]
    exact h _
  | succ n ih =>
    intro i hi w
    unfold wp_X9_twice_L29
    have hv : vp_in (nI i) 6 := vp_in_nI (by omega) (by omega)
    split
    · exact h _
    · refine ⟨hv, ?_⟩
      intro z _
      have go : ∀ s, wp_X9_twice_J90 v1 v2 v3 w (nI i) z s σ (fun v4 v5 => wp_X9_twice_L29 v1 v2 v3 σ P (n + 1) v4 v5) := by
        intro s z1 _ x _
        show wp_X9_twice_L29 v1 v2 v3 σ P (n + 1) x (nI i + 1)
        rw [nI_1]
        exact ih (i + 1) (by omega) _
      split
      · refine ⟨hv, hv, ?_⟩
        rw [nI_clamp (by omega)]
        have hd := b_read hI (k := i) (by omega)
        refine i_ones (by rw [← hd.1]; exact hd.2.1) (by rw [← hd.1]; exact hd.2.2) ?_
        intro z2 _
        exact go _
      · exact go _
theorem e_tw9M {v1 : Int32} (hI : IB σ) (h : ∀ r, P r) : ∀ n i, n + i = 8 → ∀ w, wp_X9_twice_L17 v1 σ P (n + 1) w (nI i) := by
  intro n
  induction n with
  | zero =>
    intro i hi w
    unfold wp_X9_twice_L17
    rw [if_pos (by rw [show i = 8 by omega]; decide)]
    exact h _
  | succ n ih =>
    intro i hi w
    unfold wp_X9_twice_L17
    rw [if_neg (by rw [Int32.le_iff_toInt_le, nI_toInt (by omega)]; show ¬ (8 : Int) ≤ i; omega)]
    rw [nI_1]
    refine ⟨7, e_tw9L hI (fun r => ?_) 6 0 rfl _⟩
    intro _ _ x _
    exact ih (i + 1) (by omega) _
theorem e_twice (h : Inv σ) {K : Int32 → Int32 → Prop} (hk : ∀ r r', K r r') : wp_X8_twice a1 σ (fun r => wp_X9_twice a1 σ (fun r' => K r r')) := by
  have fin : ∀ r, wp_X9_twice a1 σ (fun r' => K r r') := by
    intro r
    unfold wp_X9_twice
    refine t_in (a := 0) (b := 1) rfl rfl (fun _ _ => ?_) (fun _ => hk _ _)
    exact ⟨9, e_tw9M h.1 (fun _ => hk _ _) 8 0 rfl _⟩
  unfold wp_X8_twice
  refine t_within (a := 0) (b := 1) rfl rfl (fun _ _ => ?_) (fun _ => fin _)
  intro z _
  exact ⟨9, e_twoL (fun _ => fin _) 8 0 rfl _⟩
theorem e_bur8L (hI : IB σ) (h : ∀ r, PL r) : ∀ n i, n + i = 6 → ∀ w, wp_X8_burnt_L13 σ PL (n + 1) w (nI i) := by
  intro n
  induction n with
  | zero =>
    intro i hi w
    unfold wp_X8_burnt_L13
    split
    · exact h _
    · rw [if_pos (by rw [show i = 6 by omega]; decide)]
      exact h _
  | succ n ih =>
    intro i hi w
    unfold wp_X8_burnt_L13
    have hv : vp_in (nI i) 6 := vp_in_nI (by omega) (by omega)
    rw [nI_1, nI_clamp (by omega)]
    split
    · exact h _
    · split
      · exact h _
      · refine ⟨hv, ?_⟩
        refine i_bitCount ⟨hv, ?_⟩
        have hm := b_room hI (k := i) (by omega)
        refine e_ways hm.2.2.1 (fun r => ?_)
        intro x _
        exact ih (i + 1) (by omega) _
theorem e_bur9L (hI : IB σ) (h : ∀ r, PL r) : ∀ n i, n + i = 6 → ∀ w, wp_X9_burnt_L4 σ PL (n + 1) w (nI i) := by
  have hr := b_rolls hI
  intro n
  induction n with
  | zero =>
    intro i hi w
    unfold wp_X9_burnt_L4
    rw [if_pos (by rw [Int32.le_iff_toInt_le, nI_toInt (by omega), ← hr.1]; omega)]
    exact h _
  | succ n ih =>
    intro i hi w
    unfold wp_X9_burnt_L4
    have hv : vp_in (nI i) 6 := vp_in_nI (by omega) (by omega)
    rw [nI_1, nI_clamp (by omega)]
    split
    · exact h _
    · refine ⟨hv, ?_⟩
      have hd := b_read hI (k := i) (by omega)
      have hm := b_room hI (k := i) (by omega)
      refine i_ones (by rw [← hd.1]; exact hd.2.1) (by rw [← hd.1]; exact hd.2.2) ⟨hv, ?_⟩
      rw [← hm.1]
      refine e_choose hm.2.2.1 (fun r => ?_)
      intro x _
      exact ih (i + 1) (by omega) _
theorem e_burnt (h : Inv σ) {K : Int64 → Int64 → Prop} (hk : ∀ r r', K r r') : wp_X8_burnt σ (fun r => wp_X9_burnt σ (fun r' => K r r')) :=
  ⟨7, e_bur8L h.1 (fun _ => ⟨7, e_bur9L h.1 (fun _ => hk _ _) 6 0 rfl _⟩) 6 0 rfl _⟩
end S
