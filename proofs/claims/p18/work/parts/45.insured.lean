/-! insured: equal answers -/
theorem zbt : ∀ m, m < 16 → ∀ i, i < 4 → (((nI m >>> (nI i &&& 31)) &&& (1 : Int32)) = 1 ↔ m / 2 ^ i % 2 = 1) := by decide +kernel
theorem zsb : ∀ m, m < 16 → ∀ o, o < 16 → ((nI m &&& (nI o ^^^ (-1 : Int32))) = 0 ↔ ∀ i, i < 4 → m / 2 ^ i % 2 = 1 → o / 2 ^ i % 2 = 1) := by decide +kernel
theorem zor2 : ∀ i, i < 4 → ∀ x, x < 2 ^ i → nI x ||| ((1 : Int32) <<< (nI i &&& 31)) = nI (x + 2 ^ i) := by decide +kernel
def zwr (c : Nat → Bool) : Nat → Nat → Nat → Nat
  | 0, x, _ => x
  | n + 1, x, i => zwr c n (if c i = true then x + 2 ^ i else x) (i + 1)
theorem zwr_bits (c : Nat → Bool) : zwr c 4 0 0 < 16 ∧ ∀ i, i < 4 → (zwr c 4 0 0 / 2 ^ i % 2 = 1 ↔ c i = true) := by
  have key : ∀ b0 b1 b2 b3 : Bool, (if b3 = true then (if b2 = true then (if b1 = true then (if b0 = true then 0 + 2 ^ 0 else 0) + 2 ^ 1 else (if b0 = true then 0 + 2 ^ 0 else 0)) + 2 ^ 2 else (if b1 = true then (if b0 = true then 0 + 2 ^ 0 else 0) + 2 ^ 1 else (if b0 = true then 0 + 2 ^ 0 else 0))) + 2 ^ 3 else (if b2 = true then (if b1 = true then (if b0 = true then 0 + 2 ^ 0 else 0) + 2 ^ 1 else (if b0 = true then 0 + 2 ^ 0 else 0)) + 2 ^ 2 else (if b1 = true then (if b0 = true then 0 + 2 ^ 0 else 0) + 2 ^ 1 else (if b0 = true then 0 + 2 ^ 0 else 0)))) = (if b0 = true then 1 else 0) + (if b1 = true then 2 else 0) + (if b2 = true then 4 else 0) + (if b3 = true then 8 else 0) := by decide
  have e : zwr c 4 0 0 = (if c 0 = true then 1 else 0) + (if c 1 = true then 2 else 0) + (if c 2 = true then 4 else 0) + (if c 3 = true then 8 else 0) := key (c 0) (c 1) (c 2) (c 3)
  rw [e]
  refine ⟨by (repeat' split) <;> omega, fun i hi => ?_⟩
  rcases (show i = 0 ∨ i = 1 ∨ i = 2 ∨ i = 3 by omega) with rfl | rfl | rfl | rfl
  · cases c 0 <;> cases c 1 <;> cases c 2 <;> cases c 3 <;> decide
  · cases c 0 <;> cases c 1 <;> cases c 2 <;> cases c 3 <;> decide
  · cases c 0 <;> cases c 1 <;> cases c 2 <;> cases c 3 <;> decide
  · cases c 0 <;> cases c 1 <;> cases c 2 <;> cases c 3 <;> decide
/-- the sum of f over a set of four -/
def zsu (f : Nat → Int32) (m : Nat) : Nat → Int32 → Nat → Int32
  | 0, w, _ => w
  | n + 1, w, i => zsu f m n (w + (if m / 2 ^ i % 2 = 1 then f i else 0)) (i + 1)
def zsi (f : Nat → Int32) (m i : Nat) : Int := if m / 2 ^ i % 2 = 1 then (f i).toInt else 0
def zsI (f : Nat → Int32) (m : Nat) : Int := zsi f m 0 + zsi f m 1 + zsi f m 2 + zsi f m 3
theorem zsu_b {f : Nat → Int32} {m : Nat} (hf : ∀ i, i < 4 → 0 ≤ (f i).toInt ∧ (f i).toInt ≤ 9999) : (zsu f m 4 0 0).toInt = zsI f m ∧ 0 ≤ zsI f m ∧ zsI f m ≤ 39996 := by
  have hb : ∀ i, i < 4 → 0 ≤ zsi f m i ∧ zsi f m i ≤ 9999 ∧ (if m / 2 ^ i % 2 = 1 then f i else (0 : Int32)).toInt = zsi f m i := by
    intro i hi
    have := hf i hi
    unfold zsi
    split
    · exact ⟨this.1, this.2, rfl⟩
    · exact ⟨by omega, by omega, rfl⟩
  have h0 := hb 0 (by omega)
  have h1 := hb 1 (by omega)
  have h2 := hb 2 (by omega)
  have h3 := hb 3 (by omega)
  have z0 : (0 : Int32).toInt = 0 := rfl
  have e0 := fb_addI (x := 0) (y := (if m / 2 ^ 0 % 2 = 1 then f 0 else (0 : Int32))) (by omega) (by omega)
  have e1 := fb_addI (x := 0 + (if m / 2 ^ 0 % 2 = 1 then f 0 else (0 : Int32))) (y := (if m / 2 ^ 1 % 2 = 1 then f 1 else (0 : Int32))) (by omega) (by omega)
  have e2 := fb_addI (x := 0 + (if m / 2 ^ 0 % 2 = 1 then f 0 else (0 : Int32)) + (if m / 2 ^ 1 % 2 = 1 then f 1 else (0 : Int32))) (y := (if m / 2 ^ 2 % 2 = 1 then f 2 else (0 : Int32))) (by omega) (by omega)
  have e3 := fb_addI (x := 0 + (if m / 2 ^ 0 % 2 = 1 then f 0 else (0 : Int32)) + (if m / 2 ^ 1 % 2 = 1 then f 1 else (0 : Int32)) + (if m / 2 ^ 2 % 2 = 1 then f 2 else (0 : Int32))) (y := (if m / 2 ^ 3 % 2 = 1 then f 3 else (0 : Int32))) (by omega) (by omega)
  have e : zsu f m 4 0 0 = 0 + (if m / 2 ^ 0 % 2 = 1 then f 0 else (0 : Int32)) + (if m / 2 ^ 1 % 2 = 1 then f 1 else (0 : Int32)) + (if m / 2 ^ 2 % 2 = 1 then f 2 else (0 : Int32)) + (if m / 2 ^ 3 % 2 = 1 then f 3 else (0 : Int32)) := rfl
  rw [e]
  unfold zsI
  omega
section S
variable {σ : zST} {P : Int32 → Prop} {a1 a2 a3 : Int32} {a m : Nat} {v : Int32}
theorem i_worthL {c : Nat → Bool} {o : Nat} (ho : σ.1 a 0 = nI o) (h16 : o < 16) (hc : ∀ i, i < 4 → (c i = true ↔ o / 2 ^ i % 2 = 1 ∧ ¬ v * σ.1 (a + 2) i ≤ 10 * σ.1 (a + 1) i)) : ∀ n i, n + i = 4 → ∀ x, x < 2 ^ i → P (nI (zwr c n x i)) → wp_X3_worthTaking_L4 a v σ P (n + 1) (nI x) (nI i) := by
  intro n
  induction n with
  | zero =>
    intro i hi x _ h
    unfold wp_X3_worthTaking_L4
    rw [if_pos (by rw [show i = 4 by omega]; decide)]
    exact h
  | succ n ih =>
    intro i hi x hx h
    unfold wp_X3_worthTaking_L4
    have h : P (nI (zwr c n (if c i = true then x + 2 ^ i else x) (i + 1))) := h
    have hv : vp_in (nI i) 4 := vp_in_nI (by omega) (by omega)
    have hci := hc i (by omega)
    have hp : 2 ^ (i + 1) = 2 * 2 ^ i := by rw [Nat.pow_succ]; omega
    rw [if_neg (by rw [Int32.le_iff_toInt_le, nI_toInt (by omega)]; show ¬ (4 : Int) ≤ i; omega)]
    rw [nI_1, ho, nI_clamp (by omega)]
    by_cases q : o / 2 ^ i % 2 = 1
    · rw [if_pos ((zbt o h16 i (by omega)).mpr q)]
      refine ⟨hv, hv, ?_⟩
      by_cases q2 : v * σ.1 (a + 2) i ≤ 10 * σ.1 (a + 1) i
      · rw [if_pos q2]
        rw [if_neg (fun z => (hci.mp z).2 q2)] at h
        exact ih (i + 1) (by omega) x (by omega) h
      · rw [if_neg q2, zor2 i (by omega) x hx]
        rw [if_pos (hci.mpr ⟨q, q2⟩)] at h
        rintro _ rfl
        exact ih (i + 1) (by omega) _ (by omega) h
    · rw [if_neg (fun z => q ((zbt o h16 i (by omega)).mp z))]
      rw [if_neg (fun z => q (hci.mp z).1)] at h
      exact ih (i + 1) (by omega) x (by omega) h
theorem i_sumL (hm : m < 16) : ∀ n i, n + i = 4 → ∀ w, P (zsu (σ.1 a) m n w i) → wp_X3_sumOver_L4 a (nI m) σ P (n + 1) w (nI i) := by
  intro n
  induction n with
  | zero =>
    intro i hi w h
    unfold wp_X3_sumOver_L4
    rw [if_pos (by rw [show i = 4 by omega]; decide)]
    exact h
  | succ n ih =>
    intro i hi w h
    unfold wp_X3_sumOver_L4
    have h : P (zsu (σ.1 a) m n (w + (if m / 2 ^ i % 2 = 1 then σ.1 a i else 0)) (i + 1)) := h
    have hv : vp_in (nI i) 4 := vp_in_nI (by omega) (by omega)
    rw [if_neg (by rw [Int32.le_iff_toInt_le, nI_toInt (by omega)]; show ¬ (4 : Int) ≤ i; omega)]
    rw [if_neg (by rw [Int32.le_iff_toInt_le, nI_toInt (by omega)]; show ¬ (4 : Int) ≤ i; omega), nI_1, nI_clamp (by omega)]
    by_cases q : m / 2 ^ i % 2 = 1
    · rw [if_pos ((zbt m hm i (by omega)).mpr q)]
      rw [if_pos q] at h
      refine ⟨hv, ?_⟩
      rintro _ rfl
      exact ih (i + 1) (by omega) _ h
    · rw [if_neg (fun z => q ((zbt m hm i (by omega)).mp z))]
      rw [if_neg q, Int32.add_zero] at h
      exact ih (i + 1) (by omega) _ h
theorem i_sumOv (hm : m < 16) (h : P (zsu (σ.1 a) m 4 0 0)) : wp_X3_sumOver a (nI m) σ P := ⟨5, i_sumL hm 4 0 rfl _ h⟩

theorem i_gotL (hm : m < 16) : ∀ n i, n + i = 4 → ∀ w, P (zsu (σ.1 76) m n w i) → wp_X9_got_L4 (nI m) σ P (n + 1) w (nI i) := by
  intro n
  induction n with
  | zero =>
    intro i hi w h
    unfold wp_X9_got_L4
    rw [if_pos (by rw [show i = 4 by omega]; decide)]
    exact h
  | succ n ih =>
    intro i hi w h
    unfold wp_X9_got_L4
    have h : P (zsu (σ.1 76) m n (w + (if m / 2 ^ i % 2 = 1 then σ.1 76 i else 0)) (i + 1)) := h
    have hv : vp_in (nI i) 4 := vp_in_nI (by omega) (by omega)
    rw [if_neg (by rw [Int32.le_iff_toInt_le, nI_toInt (by omega)]; show ¬ (4 : Int) ≤ i; omega)]
    rw [nI_1, nI_clamp (by omega)]
    refine ⟨by split; exact ⟨hv, trivial⟩; trivial, ?_⟩
    rintro _ rfl _ rfl
    by_cases q : m / 2 ^ i % 2 = 1
    · rw [if_pos ((zbt m hm i (by omega)).mpr q)]
      rw [if_pos q] at h
      exact ih (i + 1) (by omega) _ h
    · rw [if_neg (fun z => q ((zbt m hm i (by omega)).mp z))]
      rw [if_neg q] at h
      exact ih (i + 1) (by omega) _ h
theorem i_got (hm : m < 16) (h : P (zsu (σ.1 76) m 4 0 0)) : wp_X9_got (nI m) σ P := ⟨5, i_gotL hm 4 0 rfl _ h⟩
theorem i_premiumsL (hm : m < 16) : ∀ n i, n + i = 4 → ∀ w, P (zsu (σ.1 75) m n w i) → wp_X9_premiums_L4 (nI m) σ P (n + 1) w (nI i) := by
  intro n
  induction n with
  | zero =>
    intro i hi w h
    unfold wp_X9_premiums_L4
    rw [if_pos (by rw [show i = 4 by omega]; decide)]
    exact h
  | succ n ih =>
    intro i hi w h
    unfold wp_X9_premiums_L4
    have h : P (zsu (σ.1 75) m n (w + (if m / 2 ^ i % 2 = 1 then σ.1 75 i else 0)) (i + 1)) := h
    have hv : vp_in (nI i) 4 := vp_in_nI (by omega) (by omega)
    rw [if_neg (by rw [Int32.le_iff_toInt_le, nI_toInt (by omega)]; show ¬ (4 : Int) ≤ i; omega)]
    rw [nI_1, nI_clamp (by omega)]
    refine ⟨by split; exact ⟨hv, trivial⟩; trivial, ?_⟩
    rintro _ rfl _ rfl
    by_cases q : m / 2 ^ i % 2 = 1
    · rw [if_pos ((zbt m hm i (by omega)).mpr q)]
      rw [if_pos q] at h
      exact ih (i + 1) (by omega) _ h
    · rw [if_neg (fun z => q ((zbt m hm i (by omega)).mp z))]
      rw [if_neg q] at h
      exact ih (i + 1) (by omega) _ h
theorem i_premiums (hm : m < 16) (h : P (zsu (σ.1 75) m 4 0 0)) : wp_X9_premiums (nI m) σ P := ⟨5, i_premiumsL hm 4 0 rfl _ h⟩
/-- what a set of offers costs -/
def zco (σ : zST) (k : Nat) (d : Int32) (m : Nat) : Int32 := d * (qW σ 2 k - zsu (σ.1 76) m 4 0 0) + 10 * zsu (σ.1 75) m 4 0 0
theorem i_insL {K : Int32 → Int32 → Prop} {o W : Nat} {v3 d : Int32} (hI : IB σ) (h0 : 0 ≤ a1.toInt) (h1 : a1.toInt ≤ 5) (ho : σ.1 69 18 = nI o) (h16 : o < 16) (hW : W < 16)
    (s1 : ∀ i, i < 4 → W / 2 ^ i % 2 = 1 → o / 2 ^ i % 2 = 1)
    (s2 : ∀ m, m < 16 → (∀ i, i < 4 → m / 2 ^ i % 2 = 1 → o / 2 ^ i % 2 = 1) → zco σ a1.toNatClampNeg d W ≤ zco σ a1.toNatClampNeg d m)
    (s3 : ∀ m, m < W → (∀ i, i < 4 → m / 2 ^ i % 2 = 1 → o / 2 ^ i % 2 = 1) → ¬ zco σ a1.toNatClampNeg d m ≤ zco σ a1.toNatClampNeg d W)
    (h : K (nI W) (zco σ a1.toNatClampNeg d W)) : ∀ n i, n + i = 16 → ∀ x y, (W < i → x = nI W ∧ y = zco σ a1.toNatClampNeg d W) → (i ≤ W → ¬ y ≤ zco σ a1.toNatClampNeg d W) → wp_X9_insured_L49 a1 v3 d σ K (n + 1) x y (nI i) := by
  intro n
  induction n with
  | zero =>
    intro i hi x y g1 _
    unfold wp_X9_insured_L49
    rw [if_pos (by rw [show i = 16 by omega]; decide)]
    obtain ⟨rfl, rfl⟩ := g1 (by omega)
    exact h
  | succ n ih =>
    intro i hi x y g1 g2
    unfold wp_X9_insured_L49
    rw [if_neg (by rw [Int32.le_iff_toInt_le, nI_toInt (by omega)]; show ¬ (16 : Int) ≤ i; omega)]
    refine i_allOf hI h0 h1 ?_
    refine i_got (by omega) ?_
    refine i_premiums (by omega) ?_
    rw [nI_1, ho]
    have sub := zsb i (by omega) o h16
    rintro X hX z hz _ rfl _ rfl
    have hX : X = zco σ a1.toNatClampNeg d i := hX
    rw [hX] at hz
    rw [hX]
    rcases Nat.lt_trichotomy i W with q | q | q
    · refine ih (i + 1) (by omega) _ _ (fun z => by omega) (fun _ => ?_)
      by_cases e : z = 0
      · rw [if_pos e]
        exact g2 (by omega)
      · rw [if_neg e]
        by_cases es : (nI i &&& (nI o ^^^ (-1 : Int32))) = 0
        · exact s3 i q (sub.mp es)
        · rw [if_neg es] at hz
          exact absurd hz e
    · subst q
      rw [if_pos (sub.mpr s1), if_neg (g2 (Nat.le_refl _))] at hz
      rw [hz]
      exact ih (i + 1) (by omega) _ _ (fun _ => ⟨rfl, rfl⟩) (fun z => by omega)
    · obtain ⟨rfl, rfl⟩ := g1 q
      have e : z = 0 := by
        by_cases es : (nI i &&& (nI o ^^^ (-1 : Int32))) = 0
        · rw [if_pos es, if_pos (s2 i (by omega) (sub.mp es))] at hz
          exact hz
        · rw [if_neg es] at hz
          exact hz
      rw [if_pos e, if_pos e]
      exact ih (i + 1) (by omega) _ _ (fun _ => ⟨rfl, rfl⟩) (fun z => by omega)
theorem zco_i (hI : IB σ) {k : Nat} (hk : k < 6) {d : Int32} (hd0 : 0 ≤ d.toInt) (hd9 : d.toInt ≤ 9) : (zco σ k d m).toInt = d.toInt * ((qW σ 2 k).toInt - zsI (σ.1 76) m) + 10 * zsI (σ.1 75) m ∧ (zco σ k d m).toInt < 1000000000 ∧ (-1000000000 : Int) < (zco σ k d m).toInt := by
  have hg := zsu_b (f := σ.1 76) (m := m) (fun i hi => by have := b_pays hI hi; rw [← this.1]; omega)
  have hp := zsu_b (f := σ.1 75) (m := m) (fun i hi => by have := b_premium hI hi; rw [← this.1]; omega)
  have hw := qW_b hI hk
  have e1 : (qW σ 2 k - zsu (σ.1 76) m 4 0 0).toInt = (qW σ 2 k).toInt - zsI (σ.1 76) m := by rw [fb_subI (by omega) (by omega), hg.1]
  have m1 : d.toInt * ((qW σ 2 k).toInt - zsI (σ.1 76) m) ≤ 9 * 3969 := by
    rcases Int.lt_or_le ((qW σ 2 k).toInt - zsI (σ.1 76) m) 0 with q | q
    · have := Int.mul_nonneg hd0 (show 0 ≤ -((qW σ 2 k).toInt - zsI (σ.1 76) m) by omega)
      rw [Int.mul_neg] at this
      omega
    · exact Int.mul_le_mul hd9 (by omega) q (by omega)
  have m2 : -(9 * 39996) ≤ d.toInt * ((qW σ 2 k).toInt - zsI (σ.1 76) m) := by
    rcases Int.lt_or_le ((qW σ 2 k).toInt - zsI (σ.1 76) m) 0 with q | q
    · have t := Int.mul_le_mul hd9 (show -((qW σ 2 k).toInt - zsI (σ.1 76) m) ≤ 39996 by omega) (by omega) (by omega)
      rw [Int.mul_neg] at t
      omega
    · have := Int.mul_nonneg hd0 q
      omega
  have e2 : (d * (qW σ 2 k - zsu (σ.1 76) m 4 0 0)).toInt = d.toInt * ((qW σ 2 k).toInt - zsI (σ.1 76) m) := by
    rw [fb_mulI (by rw [e1]; omega) (by rw [e1]; omega), e1]
  have e3 : ((10 : Int32) * zsu (σ.1 75) m 4 0 0).toInt = 10 * zsI (σ.1 75) m := by
    have t : (10 : Int32).toInt = 10 := rfl
    rw [fb_mulI (by rw [t]; omega) (by rw [t]; omega), hp.1, t]
  have e4 : (zco σ k d m).toInt = d.toInt * ((qW σ 2 k).toInt - zsI (σ.1 76) m) + 10 * zsI (σ.1 75) m := by
    unfold zco
    rw [fb_addI (by rw [e2, e3]; omega) (by rw [e2, e3]; omega), e2, e3]
  exact ⟨e4, by omega, by omega⟩
/-- what a set gains by its offer i -/
def zug (σ : zST) (d : Int) (m i : Nat) : Int := if m / 2 ^ i % 2 = 1 then d * (σ.1 76 i).toInt - 10 * (σ.1 75 i).toInt else 0
theorem zug_i {d : Int} {i : Nat} : d * zsi (σ.1 76) m i - 10 * zsi (σ.1 75) m i = zug σ d m i := by
  unfold zsi zug
  split
  · rfl
  · rw [Int.mul_zero]; rfl
theorem zco_u (hI : IB σ) {k : Nat} (hk : k < 6) {d : Int32} (hd0 : 0 ≤ d.toInt) (hd9 : d.toInt ≤ 9) : (zco σ k d m).toInt = d.toInt * (qW σ 2 k).toInt - zug σ d.toInt m 0 - zug σ d.toInt m 1 - zug σ d.toInt m 2 - zug σ d.toInt m 3 := by
  rw [(zco_i hI hk hd0 hd9).1]
  unfold zsI
  rw [Int.mul_sub, Int.mul_add, Int.mul_add, Int.mul_add, ← zug_i, ← zug_i, ← zug_i, ← zug_i]
  omega
theorem zbits16 : ∀ m, m < 16 → m = m / 2 ^ 0 % 2 + 2 * (m / 2 ^ 1 % 2) + 4 * (m / 2 ^ 2 % 2) + 8 * (m / 2 ^ 3 % 2) := by decide
theorem zsu_c {f g : Nat → Int32} (h : ∀ i, i < 4 → f i = g i) : zsu f m 4 0 0 = zsu g m 4 0 0 := by
  show 0 + (if m / 2 ^ 0 % 2 = 1 then f 0 else (0 : Int32)) + (if m / 2 ^ 1 % 2 = 1 then f 1 else (0 : Int32)) + (if m / 2 ^ 2 % 2 = 1 then f 2 else (0 : Int32)) + (if m / 2 ^ 3 % 2 = 1 then f 3 else (0 : Int32)) = 0 + (if m / 2 ^ 0 % 2 = 1 then g 0 else (0 : Int32)) + (if m / 2 ^ 1 % 2 = 1 then g 1 else (0 : Int32)) + (if m / 2 ^ 2 % 2 = 1 then g 2 else (0 : Int32)) + (if m / 2 ^ 3 % 2 = 1 then g 3 else (0 : Int32))
  rw [h 0 (by omega), h 1 (by omega), h 2 (by omega), h 3 (by omega)]
theorem s_insured (h : Inv σ) {K : Int32 → Int32 → Prop} (hk : ∀ r, K r r) : wp_X8_insured a1 a2 a3 σ (fun r => wp_X9_insured a1 a2 a3 σ (fun r' => K r r')) := by
  have hI := h.1
  unfold wp_X8_insured
  refine t_has (b_ships hI).1 (fun h0 h1 hs => ?_) (fun q => ?_)
  · refine t_isHour8 (fun g0 g1 => ?_) (fun q => ?_)
    · refine t_within (a := 0) (b := 2) rfl rfl (fun c0 c1 => ?_) (fun q => ?_)
      · have hd := b_digits hI
        have hz := zdg_b hI g0
        have hoff := b_offers hI
        obtain ⟨o, h15, eo, -⟩ := zN (h := 15) hoff.2.1 (by omega)
        have h16 : o < 16 := by omega
        have hkk : a1.toNatClampNeg < 6 := zcl h0 (by omega)
        refine i_digitAt g0 hd.2.1 hd.2.2 ?_
        have ref0 : ∀ (A : Int32 → Prop), (∀ d : Int32, d = zdg σ 2 a2 → ∃ M71 : Nat, wp_X9_insured_L49 a1 a3 d σ (fun w5 w6 => (if (2 : Int32) ≤ a3 then (if d ≤ (0) then wp_X9_insured_J192 w5 (0 : Int32) σ A else wp_X9_allOf a1 σ (fun r48 => wp_X9_got w5 σ (fun r50 => wp_X9_premiums w5 σ (fun r52 => wp_X9_insured_J192 w5 ((r48 - r50) + r52) σ A)))) else ∀ z68 : Int32, z68 = (if a3 = (0) then (w6 + (1000000 : Int32)) else w5) → A z68)) M71 (0 : Int32) (1000000000 : Int32) (0 : Int32)) → wp_X9_insured a1 a2 a3 σ A := by
          intro A hA
          unfold wp_X9_insured
          refine t_isShip rfl (fun _ _ _ => ?_) (fun q => absurd ⟨h0, h1, hs⟩ q)
          refine t_isHour (fun _ _ => ?_) (fun q => by omega)
          refine t_in (a := 0) (b := 2) rfl rfl (fun _ _ => ?_) (fun q => by omega)
          refine i_tenths hI g0 ?_
          exact hA _ rfl
        have hd0 := hz.2.1
        have hd9 := hz.2.2
        generalize zdg σ 2 a2 = d at ref0 hd0 hd9 ⊢
        obtain ⟨c, hc⟩ : ∃ c : Nat → Bool, ∀ i, (c i = true ↔ o / 2 ^ i % 2 = 1 ∧ ¬ d * σ.1 12 i ≤ 10 * σ.1 11 i) := ⟨fun i => decide (o / 2 ^ i % 2 = 1 ∧ ¬ d * σ.1 12 i ≤ 10 * σ.1 11 i), fun i => decide_eq_true_iff⟩
        refine ⟨5, i_worthL (a := 10) (c := c) eo h16 (fun i _ => hc i) 4 0 rfl 0 (by decide) ?_⟩
        obtain ⟨hW, hbits⟩ := zwr_bits c
        generalize zwr c 4 0 0 = W at hW hbits ⊢
        have gain : ∀ i, i < 4 → (c i = true ↔ o / 2 ^ i % 2 = 1 ∧ 0 < d.toInt * (σ.1 76 i).toInt - 10 * (σ.1 75 i).toInt) := by
          intro i hi
          have p1 := b_pays hI hi
          have p2 := b_premium hI hi
          have m1 := zmulb (x := d) (y := σ.1 12 i) (m := 9) (n := 9999) hd0 hd9 p1.2.1 p1.2.2 (by decide)
          have m2 := zmulb (x := 10) (y := σ.1 11 i) (m := 10) (n := 999) (by decide) (by decide) p2.2.1 p2.2.2 (by decide)
          have t : (10 : Int32).toInt = 10 := rfl
          rw [hc i, Int32.le_iff_toInt_le, m1.1, m2.1, t, ← p1.1, ← p2.1]
          constructor
          · rintro ⟨q1, q2⟩
            exact ⟨q1, by omega⟩
          · rintro ⟨q1, q2⟩
            exact ⟨q1, by omega⟩
        have pb : ∀ m i, i < 4 → (m / 2 ^ i % 2 = 1 → o / 2 ^ i % 2 = 1) → zug σ d.toInt m i ≤ zug σ d.toInt W i ∧ (m / 2 ^ i % 2 < W / 2 ^ i % 2 → zug σ d.toInt m i + 1 ≤ zug σ d.toInt W i) := by
          intro m i hi hsub
          have g := gain i hi
          have b := hbits i hi
          unfold zug
          by_cases q1 : m / 2 ^ i % 2 = 1
          · rw [if_pos q1]
            by_cases q2 : W / 2 ^ i % 2 = 1
            · rw [if_pos q2]
              exact ⟨Int.le_refl _, fun z => by omega⟩
            · rw [if_neg q2]
              have : ¬ 0 < d.toInt * (σ.1 76 i).toInt - 10 * (σ.1 75 i).toInt := fun z => q2 (b.mpr (g.mpr ⟨hsub q1, z⟩))
              have w2 : W / 2 ^ i % 2 < 2 := Nat.mod_lt _ (by decide)
              exact ⟨by omega, fun z => by omega⟩
          · rw [if_neg q1]
            by_cases q2 : W / 2 ^ i % 2 = 1
            · rw [if_pos q2]
              have := (g.mp (b.mp q2)).2
              exact ⟨by omega, fun z => by omega⟩
            · rw [if_neg q2]
              have w2 : W / 2 ^ i % 2 < 2 := Nat.mod_lt _ (by decide)
              exact ⟨Int.le_refl _, fun z => by omega⟩
        have zW := zco_u (m := W) hI hkk hd0 hd9
        have bW := zco_i (m := W) hI hkk hd0 hd9
        have ep : zsu (σ.1 11) W 4 0 0 = zsu (σ.1 75) W 4 0 0 := zsu_c (fun i hi => (b_premium hI hi).1)
        have eg : zsu (σ.1 12) W 4 0 0 = zsu (σ.1 76) W 4 0 0 := zsu_c (fun i hi => (b_pays hI hi).1)
        have hg := zsu_b (f := σ.1 76) (m := W) (fun i hi => by have := b_pays hI hi; rw [← this.1]; omega)
        have hp := zsu_b (f := σ.1 75) (m := W) (fun i hi => by have := b_premium hI hi; rw [← this.1]; omega)
        have hw := qW_b hI hkk
        have ref : ∀ (A : Int32 → Prop), (if (2 : Int32) ≤ a3 then (if d ≤ (0) then wp_X9_insured_J192 (nI W) (0 : Int32) σ A else wp_X9_allOf a1 σ (fun r48 => wp_X9_got (nI W) σ (fun r50 => wp_X9_premiums (nI W) σ (fun r52 => wp_X9_insured_J192 (nI W) ((r48 - r50) + r52) σ A)))) else ∀ z68 : Int32, z68 = (if a3 = (0) then (zco σ a1.toNatClampNeg d W + (1000000 : Int32)) else nI W) → A z68) → wp_X9_insured a1 a2 a3 σ A := by
          intro A hA
          refine ref0 A ?_
          intro d0 e0
          rw [e0]
          refine ⟨17, i_insL (o := o) (W := W) hI h0 h1 (hoff.1.symm.trans eo) h16 hW (fun i hi q => ((gain i hi).mp ((hbits i hi).mp q)).1) (fun m hm hsub => ?_) (fun m hm hsub => ?_) hA 16 0 rfl _ _ (fun z => by omega) (fun _ q => ?_)⟩
          · rw [Int32.le_iff_toInt_le, zW, zco_u hI hkk hd0 hd9]
            have q0 := pb m 0 (by omega) (hsub 0 (by omega))
            have q1 := pb m 1 (by omega) (hsub 1 (by omega))
            have q2 := pb m 2 (by omega) (hsub 2 (by omega))
            have q3 := pb m 3 (by omega) (hsub 3 (by omega))
            omega
          · rw [Int32.le_iff_toInt_le, zW, zco_u hI hkk hd0 hd9]
            have q0 := pb m 0 (by omega) (hsub 0 (by omega))
            have q1 := pb m 1 (by omega) (hsub 1 (by omega))
            have q2 := pb m 2 (by omega) (hsub 2 (by omega))
            have q3 := pb m 3 (by omega) (hsub 3 (by omega))
            have bm := zbits16 m (by omega)
            have bw := zbits16 W hW
            generalize zug σ d.toInt m 0 = u0 at *
            generalize zug σ d.toInt m 1 = u1 at *
            generalize zug σ d.toInt m 2 = u2 at *
            generalize zug σ d.toInt m 3 = u3 at *
            generalize m / 2 ^ 0 % 2 = m0 at *
            generalize m / 2 ^ 1 % 2 = m1 at *
            generalize m / 2 ^ 2 % 2 = m2 at *
            generalize m / 2 ^ 3 % 2 = m3 at *
            generalize W / 2 ^ 0 % 2 = w0 at *
            generalize W / 2 ^ 1 % 2 = w1 at *
            generalize W / 2 ^ 2 % 2 = w2 at *
            generalize W / 2 ^ 3 % 2 = w3 at *
            omega
          · rw [Int32.le_iff_toInt_le] at q
            have q : (1000000000 : Int) ≤ _ := q
            omega
        by_cases e1 : a3 = 1
        · rw [if_pos e1]
          refine ref _ ?_
          rw [if_neg (by rw [e1]; decide)]
          rintro _ rfl
          rw [if_neg (by rw [e1]; decide)]
          exact hk _
        · rw [if_neg e1]
          refine i_sumOv (a := 11) hW ?_
          refine i_sumOv (a := 12) hW ?_
          refine i_whole (zv h0 (by omega)) ?_
          rw [ep, eg]
          by_cases e0 : a3 = 0
          · rw [if_pos e0]
            refine ref _ ?_
            rw [if_neg (by rw [e0]; decide)]
            rintro _ rfl
            rw [if_pos e0]
            exact hk _
          · rw [if_neg e0]
            have e2 : a3 = 2 := by rcases zS3 c0 c1 with q | q | q; exact absurd q e0; exact absurd q e1; exact q
            rintro z hzz
            refine ref _ ?_
            rw [if_pos (by rw [e2]; decide)]
            have z0 : (0 : Int32).toInt = 0 := rfl
            have J : ∀ A : Int32 → Prop, A (if zsu (σ.1 75) W 4 0 0 < z then z else zsu (σ.1 75) W 4 0 0) → wp_X9_insured_J192 (nI W) z σ A := by
              intro A hA
              unfold wp_X9_insured_J192
              have two : ∀ B : Int32 → Prop, B (zsu (σ.1 75) W 4 0 0) → wp_X9_premiums (nI W) σ B := fun B hB => i_premiums hW hB
              generalize zsu (σ.1 75) W 4 0 0 = pr at hp hA two
              refine two _ ?_
              by_cases q : pr ≤ z
              · rw [if_pos q]
                rintro _ rfl
                rw [Int32.le_iff_toInt_le] at q
                have e : (if z ≤ 0 then 0 else z) = if pr < z then z else pr := by
                  by_cases q1 : z ≤ 0
                  · rw [if_pos q1]
                    rw [Int32.le_iff_toInt_le, z0] at q1
                    rw [if_neg (by rw [Int32.lt_iff_toInt_lt]; omega)]
                    exact Int32.toInt_inj.mp (by rw [z0]; omega)
                  · rw [if_neg q1]
                    by_cases q2 : pr < z
                    · rw [if_pos q2]
                    · rw [if_neg q2]
                      rw [Int32.lt_iff_toInt_lt] at q2
                      exact Int32.toInt_inj.mp (by omega)
                rw [e]
                exact hA
              · rw [if_neg q]
                refine two _ ?_
                rintro _ rfl
                rw [Int32.le_iff_toInt_le] at q
                rw [if_neg (by rw [Int32.lt_iff_toInt_lt]; omega)] at hA
                have e : (if pr ≤ 0 then 0 else pr) = pr := by
                  by_cases q1 : pr ≤ 0
                  · rw [if_pos q1]
                    rw [Int32.le_iff_toInt_le, z0] at q1
                    exact Int32.toInt_inj.mp (by rw [z0]; omega)
                  · rw [if_neg q1]
                rw [e]
                exact hA
            by_cases ed : d ≤ 0
            · rw [if_pos ed] at hzz ⊢
              subst hzz
              exact J _ (hk _)
            · rw [if_neg ed] at hzz ⊢
              refine i_allOf hI h0 h1 ?_
              refine i_got hW ?_
              refine i_premiums hW ?_
              have e : qW σ 2 a1.toNatClampNeg - zsu (σ.1 76) W 4 0 0 + zsu (σ.1 75) W 4 0 0 = z := by
                rw [hzz]
                apply Int32.toInt_inj.mp
                have t1 : (qW σ 2 a1.toNatClampNeg - zsu (σ.1 76) W 4 0 0).toInt = (qW σ 2 a1.toNatClampNeg).toInt - zsI (σ.1 76) W := by rw [fb_subI (by omega) (by omega), hg.1]
                have t2 : (qW σ 2 a1.toNatClampNeg + zsu (σ.1 75) W 4 0 0).toInt = (qW σ 2 a1.toNatClampNeg).toInt + zsI (σ.1 75) W := by rw [fb_addI (by omega) (by omega), hp.1]
                have t3 : (qW σ 2 a1.toNatClampNeg + zsu (σ.1 75) W 4 0 0 - zsu (σ.1 76) W 4 0 0).toInt = (qW σ 2 a1.toNatClampNeg).toInt + zsI (σ.1 75) W - zsI (σ.1 76) W := by rw [fb_subI (by omega) (by omega), t2, hg.1]
                rw [fb_addI (by omega) (by omega), t3]
                omega
              rw [e]
              exact J _ (hk _)
      · unfold wp_X9_insured
        refine t_isShip rfl (fun _ _ _ => ?_) (fun q => absurd ⟨h0, h1, hs⟩ q)
        refine t_isHour (fun _ _ => ?_) (fun _ => hk _)
        exact t_in (a := 0) (b := 2) rfl rfl (fun _ _ => by omega) (fun _ => hk _)
    · unfold wp_X9_insured
      refine t_isShip rfl (fun _ _ _ => ?_) (fun q => absurd ⟨h0, h1, hs⟩ q)
      exact t_isHour (fun _ _ => by omega) (fun _ => hk _)
  · unfold wp_X9_insured
    exact t_isShip rfl (fun x y z => absurd ⟨x, y, z⟩ q) (fun _ => hk _)
end S
