/-! lot, often: equal answers -/
section S
variable {σ : zST} {P : Int32 → Prop} {PL : Int64 → Prop} {a1 a2 a3 a4 a5 : Int32} {x y u t : Int64} {m : Int32} {G : Nat}
theorem z_mod {a b : Nat} (ha : u.toInt = a) (hb : t.toInt = b) (h : t ≠ 0) : (u - u / t * t).toInt = ((a % b : Nat) : Int) := by
  rw [zmodL h, ha, hb]
  rfl
theorem z_b0 {b : Nat} (hb : t.toInt = b) : t = 0 ↔ b = 0 := by
  constructor
  · rintro rfl
    have hb : (0 : Int) = b := hb
    omega
  · rintro rfl
    exact Int64.toInt_inj.mp hb
theorem z_div1 {N i : Nat} (hi : i < 128) (h0 : t = 0 → PL u) (h1 : t ≠ 0 → wp_X8_commonDivisor_L9 σ PL N t (u - u / t * t) (nI (i + 1))) : wp_X8_commonDivisor_L9 σ PL (N + 1) u t (nI i) := by
  unfold wp_X8_commonDivisor_L9
  rw [if_neg (by rw [Int32.le_iff_toInt_le, nI_toInt (by omega)]; show ¬ (128 : Int) ≤ i; omega)]
  by_cases e : t = 0
  · rw [if_pos (zcmp0.mpr e)]
    exact h0 e
  · rw [if_neg (fun q => e (zcmp0.mp q)), nI_1]
    refine ⟨e, ?_⟩
    rintro _ rfl
    exact h1 e
theorem z_gcd (a b : Nat) : Nat.gcd a b = Nat.gcd b (a % b) := by
  rw [Nat.gcd_comm a b, Nat.gcd_rec b a, Nat.gcd_comm]
theorem z_half {b s : Nat} (hs : s < b) (h0 : s ≠ 0) : 2 * (b % s) < b := by
  have h1 : b % s < s := Nat.mod_lt _ (by omega)
  have h2 := Nat.div_add_mod b s
  have h3 : 1 ≤ b / s := Nat.div_pos (by omega) (by omega)
  have h4 : s * 1 ≤ s * (b / s) := Nat.mul_le_mul_left s h3
  omega
theorem i_divL (h : ∀ r : Int64, r.toInt = (G : Int) → PL r) : ∀ k N i (u t : Int64) (a b : Nat), u.toInt = a → t.toInt = b → b < 2 ^ k → Nat.gcd a b = G → i + 2 * k + 1 ≤ 128 → 2 * k + 1 ≤ N → wp_X8_commonDivisor_L9 σ PL N u t (nI i) := by
  intro k
  induction k with
  | zero =>
    intro N i u t a b ha hb hk hG hi hN
    obtain ⟨N', rfl⟩ : ∃ N', N = N' + 1 := ⟨N - 1, by omega⟩
    have b0 : b = 0 := by have : b < 1 := hk; omega
    refine z_div1 (by omega) (fun _ => h u ?_) (fun e => absurd ((z_b0 hb).mpr b0) e)
    rw [ha, ← hG, b0, Nat.gcd_zero_right]
  | succ k ih =>
    intro N i u t a b ha hb hk hG hi hN
    obtain ⟨N', rfl⟩ : ∃ N', N = N' + 1 + 1 := ⟨N - 2, by omega⟩
    have hk : b < 2 * 2 ^ k := by rw [Nat.pow_succ] at hk; omega
    refine z_div1 (by omega) (fun e => h u ?_) (fun e => ?_)
    · rw [ha, ← hG, (z_b0 hb).mp e, Nat.gcd_zero_right]
    · have h1 := z_mod ha hb e
      have b0 : b ≠ 0 := fun q => e ((z_b0 hb).mpr q)
      have hs : a % b < b := Nat.mod_lt _ (by omega)
      have g1 : Nat.gcd b (a % b) = G := by rw [← z_gcd]; exact hG
      generalize u - u / t * t = s at h1 ⊢
      refine z_div1 (by omega) (fun e2 => h t ?_) (fun e2 => ?_)
      · rw [hb, ← g1, (z_b0 h1).mp e2, Nat.gcd_zero_right]
      · have h2 := z_mod hb h1 e2
        have s0 : a % b ≠ 0 := fun q => e2 ((z_b0 h1).mpr q)
        have hh := z_half hs s0
        exact ih N' (i + 1 + 1) _ _ _ _ h1 h2 (by omega) (by rw [← z_gcd]; exact g1) (by omega) (by omega)
theorem i_lowL (h : ∀ r : Int64, r.toInt = (G : Int) → wp_X9_lowest_J31 x y m r σ PL) : ∀ n (u t : Int64) (a b : Nat), u.toInt = a → t.toInt = b → b < n → Nat.gcd a b = G → wp_X9_lowest_L6 x y m σ PL n u t := by
  intro n
  induction n with
  | zero => intro u t a b _ _ hb; omega
  | succ n ih =>
    intro u t a b ha hb hn hG
    unfold wp_X9_lowest_L6
    by_cases e : t = 0
    · rw [if_pos (zcmp0.mpr e)]
      refine h u ?_
      rw [ha, ← hG, (z_b0 hb).mp e, Nat.gcd_zero_right]
    · rw [if_neg (fun q => e (zcmp0.mp q))]
      refine ⟨e, ?_⟩
      rintro _ rfl
      have b0 : b ≠ 0 := fun q => e ((z_b0 hb).mpr q)
      have hs : a % b < b := Nat.mod_lt _ (by omega)
      exact ih _ _ _ _ hb (z_mod ha hb e) (by omega) (by rw [← z_gcd]; exact hG)
theorem i_part {a b : Nat} (ha : x.toInt = a) (hb : y.toInt = b) (h1 : 1 ≤ b) (h2 : b < 2 ^ 30) (h : ∀ r : Int64, r.toInt = (Nat.gcd a b : Nat) → PL ((if m = 0 then x else y) / r)) : wp_X8_partOf x y m σ PL := by
  have g1 : 1 ≤ Nat.gcd a b := Nat.gcd_pos_of_pos_right a (by omega)
  unfold wp_X8_partOf
  refine ⟨128, i_divL (G := Nat.gcd a b) (fun r hr => ?_) 30 128 0 x y a b ha hb h2 rfl (by omega) (by omega)⟩
  have r1 : (1 : Int64).toInt = 1 := by decide
  have e0 : r ≠ 0 := fun q => by
    rw [q] at hr
    have hr : (0 : Int) = _ := hr
    omega
  have ec : (0 : Int32) ≤ lg_cmp r 1 := by
    unfold lg_cmp
    by_cases q : r > 1
    · rw [if_pos q]; decide
    · rw [if_neg q, if_pos]
      · decide
      · apply Int64.toInt_inj.mp
        have q : ¬ (1 : Int64) < r := q
        rw [Int64.lt_iff_toInt_lt, r1] at q
        rw [r1]
        omega
  rw [if_pos ec]
  rintro _ rfl
  exact ⟨e0, h r hr⟩
theorem i_low {a b : Nat} (ha : x.toInt = a) (hb : y.toInt = b) (h1 : 1 ≤ b) (h : ∀ r : Int64, r.toInt = (Nat.gcd a b : Nat) → PL ((if m = 0 then x else y) / r)) : wp_X9_lowest x y m σ PL := by
  have g1 : 1 ≤ Nat.gcd a b := Nat.gcd_pos_of_pos_right a (by omega)
  refine ⟨a + 1, i_lowL (G := Nat.gcd a b) (fun r hr => ?_) (a + 1) y x b a hb ha (by omega) (Nat.gcd_comm b a)⟩
  have e0 : r ≠ 0 := fun q => by
    rw [q] at hr
    have hr : (0 : Int) = _ := hr
    omega
  unfold wp_X9_lowest_J31
  refine ⟨by split <;> exact ⟨e0, trivial⟩, ?_⟩
  rintro _ rfl
  have := h r hr
  by_cases q : m = 0
  · rw [if_pos q] at this ⊢; exact this
  · rw [if_neg q] at this ⊢; exact this
theorem s_partlow {a b : Nat} {K : Int64 → Int64 → Prop} (ha : x.toInt = a) (hb : y.toInt = b) (h1 : 1 ≤ b) (h2 : b < 2 ^ 30) (h : ∀ r, K r r) : wp_X8_partOf x y m σ (fun r => wp_X9_lowest x y m σ (fun r' => K r r')) := by
  refine i_part ha hb h1 h2 (fun r hr => ?_)
  refine i_low ha hb h1 (fun s hs => ?_)
  rw [show s = r from Int64.toInt_inj.mp (hs.trans hr.symm)]
  exact h _
/-! counting -/
def zcn (f : Nat → Bool) : Nat → Int32 → Nat → Int32
  | 0, w, _ => w
  | n + 1, w, i => zcn f n (if f i = true then w + 1 else w) (i + 1)
theorem zcn_b {f : Nat → Bool} : ∀ (n i : Nat) (w : Int32), n + i = 8 → 0 ≤ w.toInt → w.toInt ≤ (i : Int) → w.toInt ≤ (zcn f n w i).toInt ∧ (zcn f n w i).toInt ≤ 8 ∧ ∀ j : Nat, i ≤ j → j < 8 → f j = true → w.toInt + 1 ≤ (zcn f n w i).toInt := by
  intro n
  induction n with
  | zero =>
    intro i w hi h0 h1
    exact ⟨Int.le_refl _, by show w.toInt ≤ 8; omega, fun j _ _ _ => by omega⟩
  | succ n ih =>
    intro i w hi h0 h1
    show w.toInt ≤ (zcn f n (if f i = true then w + 1 else w) (i + 1)).toInt ∧ _
    have e : (w + 1).toInt = w.toInt + 1 := by rw [fb_addI (by show _ ≤ w.toInt + 1; omega) (by show w.toInt + 1 < _; omega)]; rfl
    by_cases q : f i = true
    · have := ih (i + 1) (w + 1) (by omega) (by omega) (by omega)
      show _ ∧ (zcn f n (if f i = true then w + 1 else w) (i + 1)).toInt ≤ 8 ∧ ∀ j : Nat, i ≤ j → j < 8 → f j = true → w.toInt + 1 ≤ (zcn f n (if f i = true then w + 1 else w) (i + 1)).toInt
      rw [if_pos q]
      exact ⟨by omega, this.2.1, fun j _ _ _ => by omega⟩
    · have := ih (i + 1) w (by omega) (by omega) (by omega)
      show _ ∧ (zcn f n (if f i = true then w + 1 else w) (i + 1)).toInt ≤ 8 ∧ ∀ j : Nat, i ≤ j → j < 8 → f j = true → w.toInt + 1 ≤ (zcn f n (if f i = true then w + 1 else w) (i + 1)).toInt
      rw [if_neg q]
      refine ⟨by omega, this.2.1, fun j j1 j2 j3 => this.2.2 j ?_ j2 j3⟩
      rcases Nat.lt_or_ge i j with z | z
      · omega
      · exact absurd (show f i = true by rw [show i = j by omega]; exact j3) q
theorem i_drawnL {f : Nat → Bool} {lo up : Int32} (hf : ∀ k, k < 8 → (f k = true ↔ zH (σ.1 13 0) (nI k) ∧ lo.toInt ≤ (σ.1 14 k).toInt ∧ (σ.1 14 k).toInt ≤ up.toInt)) : ∀ n i, n + i = 8 → ∀ w, P (zcn f n w i) → wp_X1_countDrawn_L5 13 lo up σ P (n + 1) w (nI i) := by
  intro n
  induction n with
  | zero =>
    intro i hi w h
    unfold wp_X1_countDrawn_L5
    rw [if_pos (by rw [show i = 8 by omega]; decide)]
    exact h
  | succ n ih =>
    intro i hi w h
    unfold wp_X1_countDrawn_L5
    have h : P (zcn f n (if f i = true then w + 1 else w) (i + 1)) := h
    have hfi := hf i (by omega)
    have hn := nI_toInt (n := i) (by omega)
    rw [if_neg (by rw [Int32.le_iff_toInt_le, nI_toInt (by omega)]; show ¬ (8 : Int) ≤ i; omega)]
    rw [nI_1, nI_clamp (by omega)]
    refine t_has8 rfl (fun _ _ q => ?_) (fun q => ?_)
    · refine ⟨vp_in_nI (by omega) (by omega), ?_⟩
      refine t_within rfl rfl (fun q1 q2 => ?_) (fun q1 => ?_)
      · rw [if_pos (hfi.mpr ⟨q, q1, q2⟩)] at h
        exact ih (i + 1) (by omega) _ h
      · have q1 : (σ.1 14 i).toInt < lo.toInt ∨ up.toInt < (σ.1 14 i).toInt := q1
        rw [if_neg (fun z => by have := hfi.mp z; omega)] at h
        exact ih (i + 1) (by omega) _ h
    · rw [if_neg (fun z => q ⟨by omega, by omega, (hfi.mp z).1⟩)] at h
      exact ih (i + 1) (by omega) _ h
theorem i_lotL {K : Int32 → Int32 → Prop} {f g : Nat → Bool} {b v1 v3 : Int32} (hb0 : 0 ≤ b.toInt) (hb1 : b.toInt ≤ 7) (hf : ∀ k, k < 8 → (f k = true ↔ zH (σ.1 69 21) (nI k) ∧ (σ.1 77 k).toInt < (σ.1 77 b.toNatClampNeg).toInt)) (hg : ∀ k, k < 8 → (g k = true ↔ zH (σ.1 69 21) (nI k) ∧ σ.1 77 k = σ.1 77 b.toNatClampNeg)) : ∀ n i, n + i = 8 → ∀ x y, K (zcn f n x i) (zcn g n y i) → wp_X9_lot_L52 v1 b v3 σ K (n + 1) x y (nI i) := by
  intro n
  induction n with
  | zero =>
    intro i hi x y h
    unfold wp_X9_lot_L52
    rw [if_pos (by rw [show i = 8 by omega]; decide)]
    exact h
  | succ n ih =>
    intro i hi x y h
    unfold wp_X9_lot_L52
    have h : K (zcn f n (if f i = true then x + 1 else x) (i + 1)) (zcn g n (if g i = true then y + 1 else y) (i + 1)) := h
    have hfi := hf i (by omega)
    have hgi := hg i (by omega)
    have hn := nI_toInt (n := i) (by omega)
    rw [if_neg (by rw [Int32.le_iff_toInt_le, nI_toInt (by omega)]; show ¬ (8 : Int) ≤ i; omega)]
    rw [nI_1, nI_clamp (by omega)]
    have hv : vp_in (nI i) 8 := vp_in_nI (by omega) (by omega)
    have hw : vp_in b 8 := zv hb0 (by omega)
    by_cases ab : zH (σ.1 69 21) (nI i)
    · refine i_isAboard rfl (fun _ _ _ => ⟨by rw [if_neg (by decide)]; exact ⟨hv, hw, trivial⟩, ?_⟩) (fun q => absurd ⟨by omega, by omega, ab⟩ q)
      rintro _ rfl _ rfl
      refine i_isAboard rfl (fun _ _ _ => ⟨by rw [if_neg (by decide)]; exact ⟨hv, hw, trivial⟩, ?_⟩) (fun q => absurd ⟨by omega, by omega, ab⟩ q)
      rintro _ rfl _ rfl
      refine ih (i + 1) (by omega) _ _ ?_
      have ex : x + (if (1 : Int32) = 0 then 0 else if σ.1 77 b.toNatClampNeg ≤ σ.1 77 i then 0 else 1) = if f i = true then x + 1 else x := by
        rw [if_neg (by decide)]
        by_cases q : σ.1 77 b.toNatClampNeg ≤ σ.1 77 i
        · rw [if_pos q, if_neg, Int32.add_zero]
          intro z
          have := (hfi.mp z).2
          rw [Int32.le_iff_toInt_le] at q
          omega
        · rw [if_neg q, if_pos]
          rw [Int32.le_iff_toInt_le] at q
          exact hfi.mpr ⟨ab, by omega⟩
      have ey : y + (if (1 : Int32) = 0 then 0 else if σ.1 77 i = σ.1 77 b.toNatClampNeg then 1 else 0) = if g i = true then y + 1 else y := by
        rw [if_neg (by decide)]
        by_cases q : σ.1 77 i = σ.1 77 b.toNatClampNeg
        · rw [if_pos q, if_pos (hgi.mpr ⟨ab, q⟩)]
        · rw [if_neg q, if_neg (fun z => q (hgi.mp z).2), Int32.add_zero]
      rw [ex, ey]
      exact h
    · rw [if_neg (fun z => ab (hfi.mp z).1), if_neg (fun z => ab (hgi.mp z).1)] at h
      refine i_isAboard rfl (fun _ _ q => absurd q ab) (fun _ => ⟨by rw [if_pos rfl]; trivial, ?_⟩)
      rw [if_pos rfl]
      rintro _ rfl _ rfl
      refine i_isAboard rfl (fun _ _ q => absurd q ab) (fun _ => ⟨by rw [if_pos rfl]; trivial, ?_⟩)
      rw [if_pos rfl]
      rintro _ rfl _ rfl
      refine ih (i + 1) (by omega) _ _ ?_
      rw [Int32.add_zero, Int32.add_zero]
      exact h
theorem s_lot (h : Inv σ) {K : Int64 → Int64 → Prop} (hk : ∀ r, K r r) : wp_X8_lot a1 a2 a3 σ (fun r => wp_X9_lot a1 a2 a3 σ (fun r' => K r r')) := by
  have hn := b_names h.1
  unfold wp_X8_lot
  refine t_has8 rfl (fun h0 h1 hs => ?_) (fun q => ?_)
  · refine i_bitCount ?_
    have hpc := zpc_b hn.2.1 hn.2.2
    have ref0 : ∀ (A : Int64 → Prop), (1 ≤ a1.toInt → a1.toInt ≤ (zpc (σ.1 13 0)).toInt → wp_X9_in a3.toInt64 0 1 σ (fun r9 => if r9 = 0 then A (-1000000000000000002) else ∃ M41 : Nat, wp_X9_lot_L52 a1 a2 a3 σ (fun w4 w5 => ∀ x33 : Int32, x33 = (a1 - w4) → ∀ z35 : Int64, z35 = (if (0) ≤ x33 then (if x33 ≤ w5 then (x33.toInt64) else (w5.toInt64)) else (0 : Int64)) → wp_X9_lowest z35 (w5.toInt64) a3 σ (fun r39 => A r39)) M41 0 0 0)) → (a1.toInt < 1 ∨ (zpc (σ.1 13 0)).toInt < a1.toInt → A (-1000000000000000002)) → wp_X9_lot a1 a2 a3 σ A := by
      intro A g1 g0
      unfold wp_X9_lot
      refine t_isAboard hn.1.symm (fun _ _ _ => ?_) (fun q => absurd ⟨h0, h1, hs⟩ q)
      refine i_ones (by rw [← hn.1]; exact hn.2.1) (by rw [← hn.1]; exact hn.2.2) ?_
      rw [← hn.1]
      exact t_in (a := 1) (b := (zpc (σ.1 13 0)).toInt) rfl (Int32.toInt_toInt64 _) g1 g0
    refine t_within (a := 1) rfl rfl (fun p0 p1 => ?_) (fun q => ref0 _ (fun _ _ => by omega) (fun _ => hk _))
    refine t_within (a := 0) (b := 1) rfl rfl (fun c0 c1 => ?_) (fun q => ref0 _ (fun _ _ => t_in (a := 0) (b := 1) rfl rfl (fun _ _ => by omega) (fun _ => hk _)) (fun _ => hk _))
    have hw : vp_in a2 8 := zv h0 (by omega)
    have hj : a2.toNatClampNeg < 8 := zcl h0 (by omega)
    have hD := b_drawn h.1 hj
    have e2 : a2 = nI a2.toNatClampNeg := by
      obtain ⟨z, hz, e, -⟩ := zN (h := 7) h0 (by omega)
      rw [e, nI_clamp (by omega)]
    have d1 : (σ.1 14 a2.toNatClampNeg - 1).toInt = (σ.1 14 a2.toNatClampNeg).toInt - 1 := by
      rw [fb_subI (by show _ ≤ _ - (1 : Int); omega) (by show _ - (1 : Int) < _; omega)]
      rfl
    obtain ⟨g, hg⟩ : ∃ g : Nat → Bool, ∀ k, (g k = true ↔ zH (σ.1 13 0) (nI k) ∧ σ.1 14 k = σ.1 14 a2.toNatClampNeg) := ⟨fun k => decide (zH (σ.1 13 0) (nI k) ∧ σ.1 14 k = σ.1 14 a2.toNatClampNeg), fun k => decide_eq_true_iff⟩
    obtain ⟨f, hf⟩ : ∃ f : Nat → Bool, ∀ k, (f k = true ↔ zH (σ.1 13 0) (nI k) ∧ (σ.1 14 k).toInt < (σ.1 14 a2.toNatClampNeg).toInt) := ⟨fun k => decide (zH (σ.1 13 0) (nI k) ∧ (σ.1 14 k).toInt < (σ.1 14 a2.toNatClampNeg).toInt), fun k => decide_eq_true_iff⟩
    refine ⟨hw, hw, ?_⟩
    refine ⟨9, i_drawnL (f := g) (fun k hk8 => ?_) 8 0 rfl 0 ?_⟩
    · rw [hg k]
      constructor
      · rintro ⟨q1, q2⟩
        rw [q2]
        exact ⟨q1, Int.le_refl _, Int.le_refl _⟩
      · rintro ⟨q1, q2, q3⟩
        exact ⟨q1, Int32.toInt_inj.mp (by omega)⟩
    refine ⟨hw, ?_⟩
    refine ⟨9, i_drawnL (f := f) (fun k hk8 => ?_) 8 0 rfl 0 ?_⟩
    · rw [hf k, d1]
      have := b_drawn h.1 hk8
      constructor
      · rintro ⟨q1, q2⟩
        exact ⟨q1, this.2.1, by omega⟩
      · rintro ⟨q1, q2, q3⟩
        exact ⟨q1, by omega⟩
    have bg := zcn_b (f := g) 8 0 0 rfl (by decide) (by decide)
    have bf := zcn_b (f := f) 8 0 0 rfl (by decide) (by decide)
    have g1 := bg.2.2 a2.toNatClampNeg (by omega) hj ((hg _).mpr ⟨by rw [← e2]; exact hs, rfl⟩)
    rintro X hX
    have z0 : (0 : Int32).toInt = 0 := rfl
    rw [z0] at bg bf g1
    have ref1 : ∀ (A : Int64 → Prop), (∀ z : Int64, z = X.toInt64 → wp_X9_lowest z (zcn g 8 0 0).toInt64 a3 σ (fun r => A r)) → wp_X9_lot a1 a2 a3 σ A := by
      intro A hA
      refine ref0 A (fun _ _ => ?_) (fun q => by omega)
      refine t_in (a := 0) (b := 1) rfl rfl (fun _ _ => ?_) (fun q => by omega)
      refine ⟨9, i_lotL (f := f) (g := g) h0 h1 (fun k hk8 => ?_) (fun k hk8 => ?_) 8 0 rfl 0 0 ?_⟩
      · rw [hf k, ← hn.1, ← (b_drawn h.1 hk8).1, ← hD.1]
      · rw [hg k, ← hn.1, ← (b_drawn h.1 hk8).1, ← hD.1]
      · rintro _ rfl z hz
        refine hA z ?_
        rw [hz, hX]
        generalize zcn g 8 0 0 = A1 at bg g1 ⊢
        generalize zcn f 8 0 0 = B1 at bf ⊢
        have es : (a1 - B1).toInt = a1.toInt - B1.toInt := fb_subI (by omega) (by omega)
        generalize a1 - B1 = D at es ⊢
        simp only [Int32.le_iff_toInt_le, Int32.lt_iff_toInt_lt, z0]
        by_cases q1 : D.toInt < A1.toInt
        · rw [if_pos q1]
          by_cases q2 : 0 < D.toInt
          · rw [if_pos q2, if_pos (by omega), if_pos (by omega)]
          · rw [if_neg q2]
            by_cases q3 : 0 ≤ D.toInt
            · rw [if_pos q3, if_pos (by omega), show D = 0 from Int32.toInt_inj.mp (by rw [z0]; omega)]
            · rw [if_neg q3]
              rfl
        · rw [if_neg q1, if_pos (show 0 < A1.toInt by omega), if_pos (show 0 ≤ D.toInt by omega)]
          by_cases q2 : D.toInt ≤ A1.toInt
          · rw [if_pos q2, show D = A1 from Int32.toInt_inj.mp (by omega)]
          · rw [if_neg q2]
    have hXb : 0 ≤ X.toInt ∧ X.toInt ≤ 8 := by
      rw [hX]
      generalize zcn g 8 0 0 = A1 at bg g1 ⊢
      generalize zcn f 8 0 0 = B1 at bf ⊢
      have es : (a1 - B1).toInt = a1.toInt - B1.toInt := fb_subI (by omega) (by omega)
      generalize a1 - B1 = D at es ⊢
      simp only [Int32.lt_iff_toInt_lt, z0]
      by_cases q1 : D.toInt < A1.toInt
      · rw [if_pos q1]
        by_cases q2 : 0 < D.toInt
        · rw [if_pos q2]; omega
        · rw [if_neg q2]; exact ⟨by decide, by decide⟩
      · rw [if_neg q1, if_pos (by omega)]; omega
    generalize zcn g 8 0 0 = A1 at bg g1 ref1 ⊢
    obtain ⟨xa, hxa, -, exa⟩ := zN (x := X) (h := 8) hXb.1 (by omega)
    obtain ⟨ya, hya, -, eya⟩ := zN (x := A1) (h := 8) (by omega) (by omega)
    refine i_part (a := xa) (b := ya) (by rw [Int32.toInt_toInt64]; exact exa) (by rw [Int32.toInt_toInt64]; exact eya) (by omega) (by omega) (fun r hr => ?_)
    refine ref1 _ ?_
    rintro _ rfl
    refine i_low (a := xa) (b := ya) (by rw [Int32.toInt_toInt64]; exact exa) (by rw [Int32.toInt_toInt64]; exact eya) (by omega) (fun s hs => ?_)
    rw [show s = r from Int64.toInt_inj.mp (hs.trans hr.symm)]
    exact hk _
  · unfold wp_X9_lot
    exact t_isAboard hn.1.symm (fun x y z => absurd ⟨x, y, z⟩ q) (fun _ => hk _)
end S
