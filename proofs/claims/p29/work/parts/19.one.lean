section
theorem fb_rng (x : Int32) : -2147483648 ≤ x.toInt ∧ x.toInt < 2147483648 := by
  have h1 := Int32.le_toInt x
  have h2 := Int32.toInt_lt x
  omega
theorem fb_bmod {z : Int} (h1 : -2147483648 ≤ z) (h2 : z < 2147483648) : z.bmod (2 ^ 32) = z := by
  rw [Int.bmod_eq_of_le (by omega) (by omega)]
theorem fb_addI {x y : Int32} (h1 : -2147483648 ≤ x.toInt + y.toInt) (h2 : x.toInt + y.toInt < 2147483648) : (x + y).toInt = x.toInt + y.toInt := by
  rw [Int32.toInt_add, fb_bmod h1 h2]
theorem fb_subI {x y : Int32} (h1 : -2147483648 ≤ x.toInt - y.toInt) (h2 : x.toInt - y.toInt < 2147483648) : (x - y).toInt = x.toInt - y.toInt := by
  rw [Int32.toInt_sub, fb_bmod h1 h2]
theorem fb_mulI {x y : Int32} (h1 : -2147483648 ≤ x.toInt * y.toInt) (h2 : x.toInt * y.toInt < 2147483648) : (x * y).toInt = x.toInt * y.toInt := by
  rw [Int32.toInt_mul, fb_bmod h1 h2]
theorem fb_rngL (x : Int64) : -9223372036854775808 ≤ x.toInt ∧ x.toInt < 9223372036854775808 := by
  have h1 := Int64.le_toInt x
  have h2 := Int64.toInt_lt x
  omega
theorem fb_bmodL {z : Int} (h1 : -9223372036854775808 ≤ z) (h2 : z < 9223372036854775808) : z.bmod (2 ^ 64) = z := by
  rw [Int.bmod_eq_of_le (by omega) (by omega)]
theorem fb_addL {x y : Int64} (h1 : -9223372036854775808 ≤ x.toInt + y.toInt) (h2 : x.toInt + y.toInt < 9223372036854775808) : (x + y).toInt = x.toInt + y.toInt := by
  rw [Int64.toInt_add, fb_bmodL h1 h2]
theorem fb_subL {x y : Int64} (h1 : -9223372036854775808 ≤ x.toInt - y.toInt) (h2 : x.toInt - y.toInt < 9223372036854775808) : (x - y).toInt = x.toInt - y.toInt := by
  rw [Int64.toInt_sub, fb_bmodL h1 h2]
theorem fb_mulL {x y : Int64} (h1 : -9223372036854775808 ≤ x.toInt * y.toInt) (h2 : x.toInt * y.toInt < 9223372036854775808) : (x * y).toInt = x.toInt * y.toInt := by
  rw [Int64.toInt_mul, fb_bmodL h1 h2]
end
section
/-! PURE from here: what a store is worth, and what stays true of it -/
def zpc (p0 : Int32) : Int32 :=
  let x1 : Int32 := (p0 - (((p0.toUInt32 >>> ((1 : Int32).toUInt32 &&& Int32.toUInt32 31)).toInt32) &&& (1431655765 : Int32)))
  let x2 : Int32 := ((x1 &&& (858993459 : Int32)) + (((x1.toUInt32 >>> ((2 : Int32).toUInt32 &&& Int32.toUInt32 31)).toInt32) &&& (858993459 : Int32)))
  let x3 : Int32 := ((x2 + ((x2.toUInt32 >>> ((4 : Int32).toUInt32 &&& Int32.toUInt32 31)).toInt32)) &&& (252645135 : Int32))
  let x4 : Int32 := (x3 + ((x3.toUInt32 >>> ((8 : Int32).toUInt32 &&& Int32.toUInt32 31)).toInt32))
  let x5 : Int32 := (x4 + ((x4.toUInt32 >>> ((16 : Int32).toUInt32 &&& Int32.toUInt32 31)).toInt32))
  x5 &&& (63 : Int32)
theorem i_bitCount {p0 : Int32} {σ : zST} {Post : Int32 → Prop} (h : Post (zpc p0)) : wp_J6_bitCount_0f7a4 p0 σ Post := by
  intro x1 h1 x2 h2 x3 h3 x4 h4 x5 h5
  subst h1 h2 h3 h4 h5
  exact h
def zones : Nat → Int32 → Int32 → Option Int32
  | 0, _, _ => none
  | N + 1, v1, v2 => if v2 = 0 then some v1 else zones N (v1 + 1) (v2 &&& (v2 - 1))
theorem i_ones_L {σ : zST} {Post : Int32 → Prop} : ∀ (N : Nat) (v1 v2 r : Int32), zones N v1 v2 = some r → Post r → wp_X9_ones_L4 σ Post N v1 v2
  | 0, _, _, _, h, _ => by simp [zones] at h
  | N + 1, v1, v2, r, h, hp => by
    unfold zones at h
    unfold wp_X9_ones_L4
    by_cases hv : v2 = 0
    · rw [if_pos hv] at h ⊢
      rw [Option.some.inj h]
      exact hp
    · rw [if_neg hv] at h ⊢
      intro x2 hx
      subst hx
      exact i_ones_L N _ _ r h hp
theorem zones_all : ∀ n, n < 256 → zones 9 0 (nI n) = some (zpc (nI n)) := by decide +kernel
theorem zpc_all : ∀ n, n < 256 → 0 ≤ (zpc (nI n)).toInt ∧ (zpc (nI n)).toInt ≤ 8 := by decide +kernel
theorem zN {x : Int32} {h : Nat} (h0 : 0 ≤ x.toInt) (h1 : x.toInt ≤ h) : ∃ n : Nat, n ≤ h ∧ x = nI n ∧ x.toInt = (n : Int) := by
  refine ⟨x.toInt.toNat, by omega, ?_, by omega⟩
  apply Int32.toInt_inj.mp
  have := (fb_rng x).2
  rw [nI_toInt (by omega)]
  omega
theorem zpc_b {x : Int32} (h0 : 0 ≤ x.toInt) (h1 : x.toInt ≤ 255) : 0 ≤ (zpc x).toInt ∧ (zpc x).toInt ≤ 8 := by
  obtain ⟨n, hn, rfl, -⟩ := zN (h := 255) h0 (by omega)
  exact zpc_all n (by omega)
theorem i_ones {x : Int32} {σ : zST} {Post : Int32 → Prop} (h0 : 0 ≤ x.toInt) (h1 : x.toInt ≤ 255) (h : Post (zpc x)) : wp_X9_ones x σ Post := by
  obtain ⟨n, hn, rfl, -⟩ := zN (h := 255) h0 (by omega)
  exact ⟨9, i_ones_L 9 0 _ _ (zones_all n (by omega)) h⟩
/-! tests -/
theorem zB0 : zB 0 := rfl
theorem zB1 : zB 1 := rfl
theorem zi1 {A B : Prop} (h : B) : (if (1 : Int32) = 0 then A else B) := by rw [if_neg (by decide)]; exact h
theorem zi0 {A B : Prop} (h : A) : (if (0 : Int32) = 0 then A else B) := by rw [if_pos rfl]; exact h
theorem i_within {p lo hi : Int32} {σ : zST} {P : Int32 → Prop} {a b : Int} (ha : lo.toInt = a) (hb : hi.toInt = b) (h1 : a ≤ p.toInt → p.toInt ≤ b → P 1) (h0 : p.toInt < a ∨ b < p.toInt → P 0) : wp_X8_within p lo hi σ P := by
  subst ha hb
  intro z hz
  by_cases c1 : p < lo
  · rw [if_pos c1] at hz
    subst hz
    exact ⟨zB0, h0 (Or.inl (Int32.lt_iff_toInt_lt.mp c1))⟩
  · rw [if_neg c1] at hz
    by_cases c2 : hi < p
    · rw [if_pos c2] at hz
      subst hz
      exact ⟨zB0, h0 (Or.inr (Int32.lt_iff_toInt_lt.mp c2))⟩
    · rw [if_neg c2] at hz
      subst hz
      rw [Int32.lt_iff_toInt_lt] at c1 c2
      exact ⟨zB1, h1 (by omega) (by omega)⟩
theorem t_within {p lo hi : Int32} {σ : zST} {A B : Prop} {a b : Int} (ha : lo.toInt = a) (hb : hi.toInt = b) (h1 : a ≤ p.toInt → p.toInt ≤ b → B) (h0 : p.toInt < a ∨ b < p.toInt → A) : wp_X8_within p lo hi σ (fun r => if r = 0 then A else B) :=
  i_within ha hb (fun x y => zi1 (h1 x y)) (fun x => zi0 (h0 x))
theorem i_in {p : Int32} {lo hi : Int64} {σ : zST} {P : Int32 → Prop} {a b : Int} (ha : lo.toInt = a) (hb : hi.toInt = b) (h1 : a ≤ p.toInt → p.toInt ≤ b → P 1) (h0 : p.toInt < a ∨ b < p.toInt → P 0) : wp_X9_in p.toInt64 lo hi σ P := by
  subst ha hb
  intro z hz
  simp only [lg_cmp_lt, lg_cmp_gt, Int64.lt_iff_toInt_lt, Int32.toInt_toInt64] at hz
  by_cases c1 : p.toInt < lo.toInt
  · rw [if_pos c1] at hz
    subst hz
    exact ⟨zB0, h0 (Or.inl c1)⟩
  · rw [if_neg c1] at hz
    by_cases c2 : hi.toInt < p.toInt
    · rw [if_pos c2] at hz
      subst hz
      exact ⟨zB0, h0 (Or.inr c2)⟩
    · rw [if_neg c2] at hz
      subst hz
      exact ⟨zB1, h1 (by omega) (by omega)⟩
theorem t_in {p : Int32} {lo hi : Int64} {σ : zST} {A B : Prop} {a b : Int} (ha : lo.toInt = a) (hb : hi.toInt = b) (h1 : a ≤ p.toInt → p.toInt ≤ b → B) (h0 : p.toInt < a ∨ b < p.toInt → A) : wp_X9_in p.toInt64 lo hi σ (fun r => if r = 0 then A else B) :=
  i_in ha hb (fun x y => zi1 (h1 x y)) (fun x => zi0 (h0 x))
theorem t_isNumber {p : Int32} {σ : zST} {A B : Prop} (h1 : 0 ≤ p.toInt → p.toInt ≤ 5 → B) (h0 : p.toInt < 0 ∨ 5 < p.toInt → A) : wp_X9_isNumber p σ (fun r => if r = 0 then A else B) :=
  i_in (a := 0) (b := 5) rfl rfl (fun x y => ⟨zB1, zi1 (h1 x y)⟩) (fun x => ⟨zB0, zi0 (h0 x)⟩)
theorem t_isHour {p : Int32} {σ : zST} {A B : Prop} (h1 : 0 ≤ p.toInt → p.toInt ≤ 999 → B) (h0 : p.toInt < 0 ∨ 999 < p.toInt → A) : wp_X9_isHour p σ (fun r => if r = 0 then A else B) :=
  i_in (a := 0) (b := 999) rfl rfl (fun x y => ⟨zB1, zi1 (h1 x y)⟩) (fun x => ⟨zB0, zi0 (h0 x)⟩)
theorem t_isSide {p : Int32} {σ : zST} {A B : Prop} (h1 : 0 ≤ p.toInt → p.toInt ≤ 2 → B) (h0 : p.toInt < 0 ∨ 2 < p.toInt → A) : wp_X9_isSide p σ (fun r => if r = 0 then A else B) :=
  i_in (a := 0) (b := 2) rfl rfl (fun x y => ⟨zB1, zi1 (h1 x y)⟩) (fun x => ⟨zB0, zi0 (h0 x)⟩)
theorem t_isHour8 {p : Int32} {σ : zST} {A B : Prop} (h1 : 0 ≤ p.toInt → p.toInt ≤ 999 → B) (h0 : p.toInt < 0 ∨ 999 < p.toInt → A) : wp_X8_isHour p σ (fun r => if r = 0 then A else B) :=
  i_within (a := 0) (b := 999) rfl rfl (fun x y => ⟨zB1, zi1 (h1 x y)⟩) (fun x => ⟨zB0, zi0 (h0 x)⟩)
theorem zv {x : Int32} {n : Nat} (h0 : 0 ≤ x.toInt) (h1 : x.toInt < n) : vp_in x n := vp_in_iff.mpr ⟨h0, h1⟩
theorem zcl {x : Int32} {n : Nat} (h0 : 0 ≤ x.toInt) (h1 : x.toInt < n) : x.toNatClampNeg < n := by
  show x.toInt.toNat < n
  omega
/-! views: books of the class, of the reference, of an image -/
def cV (σ : zST) (b r k : Nat) : Int32 := match r with
  | 0 => match k with | 0 => σ.1 (b + 1) 0 | 1 => σ.1 (b + 1) 7 | 2 => σ.1 (b + 9) 0 | 3 => σ.1 (b + 12) 0 | _ => σ.1 (b + 14) 0
  | 1 => σ.1 (b + 2) k | 2 => σ.1 (b + 3) k | 3 => σ.1 (b + 4) k | 4 => σ.1 (b + 5) k | 5 => σ.1 (b + 6) k | 6 => σ.1 (b + 7) k | 7 => σ.1 (b + 8) k
  | 8 => σ.1 (b + 10) k | 9 => σ.1 (b + 11) k | 10 => σ.1 (b + 13) k | 11 => σ.1 (b + 15) k | _ => σ.1 (b + 16) k
def mV (σ : zST) (r k : Nat) : Int32 := match r with
  | 0 => match k with | 0 => σ.1 69 0 | 1 => σ.1 69 14 | 2 => σ.1 69 18 | 3 => σ.1 69 21 | _ => σ.1 69 25
  | 1 => σ.1 73 k | 2 => σ.1 70 k | 3 => σ.1 71 k | 4 => σ.1 72 k | 5 => σ.1 69 (5 + k) | 6 => σ.1 74 k | 7 => σ.1 69 (15 + k)
  | 8 => σ.1 75 k | 9 => σ.1 76 k | 10 => σ.1 77 k | 11 => σ.1 78 k | _ => σ.1 79 k - zpc (σ.1 78 k)
def kV (σ : zST) (n r k : Nat) : Int32 := match r with
  | 0 => match k with | 0 => σ.1 85 (120 * n + 0) | 1 => σ.1 85 (120 * n + 9) | 2 => σ.1 85 (120 * n + 13) | 3 => σ.1 85 (120 * n + 14) | _ => σ.1 85 (120 * n + 15)
  | 1 => σ.1 85 (120 * n + (19 + 6 * k)) | 2 => σ.1 85 (120 * n + (16 + 6 * k)) | 3 => σ.1 85 (120 * n + (17 + 6 * k)) | 4 => σ.1 85 (120 * n + (18 + 6 * k)) | 5 => σ.1 85 (120 * n + (1 + k)) | 6 => σ.1 85 (120 * n + (68 + k)) | 7 => σ.1 85 (120 * n + (10 + k))
  | 8 => σ.1 85 (120 * n + (52 + 2 * k)) | 9 => σ.1 85 (120 * n + (53 + 2 * k)) | 10 => σ.1 85 (120 * n + (60 + k)) | 11 => σ.1 85 (120 * n + (20 + 6 * k)) | _ => σ.1 85 (120 * n + (21 + 6 * k)) - zpc (σ.1 85 (120 * n + (20 + 6 * k)))
def zLen (r : Nat) : Nat := ([5, 6, 6, 6, 6, 8, 24, 3, 4, 4, 8, 6, 6] : List Nat).getD r 0
def zLo (r k : Nat) : Int := match r with
  | 0 => if k = 1 then 1 else 0
  | 5 => if k = 0 then 1 else 0
  | 7 => -2147483648
  | _ => 0
def zHi (r k : Nat) : Int := match r with
  | 0 => ([63, 24, 15, 255, 6] : List Int).getD k 0
  | 1 => 2 | 2 => 30 | 3 => 9 | 4 => 999
  | 5 => ([9, 99, 20, 60, 99, 99, 99, 65536] : List Int).getD k 0
  | 6 => 9 | 7 => 2147483647 | 8 => 999 | 9 => 9999 | 10 => 9 | 11 => 255 | _ => 8
abbrev zH (x p : Int32) : Prop := ((x >>> (p &&& 31)) &&& 1) = 1
def OKV (V : Nat → Nat → Int32) : Prop := (∀ r k, k < zLen r → zLo r k ≤ (V r k).toInt ∧ (V r k).toInt ≤ zHi r k) ∧ (∀ k, k < 6 → (V 12 k).toInt + (zpc (V 11 k)).toInt ≤ 8) ∧ ∀ k, k < 6 → zH (V 0 0) (nI k) → V 1 k = 0 → 1 ≤ (V 2 k).toInt
def IB (σ : zST) : Prop := (∀ r k, k < zLen r → cV σ 1 r k = mV σ r k) ∧ OKV (cV σ 1)
def IP (σ : zST) : Prop := σ.1 52 1 = σ.1 69 27 ∧ 0 ≤ (σ.1 52 1).toInt ∧ (σ.1 52 1).toInt ≤ 60 ∧ ∀ k, k < 60 → σ.1 53 k = σ.1 80 k
def II (σ : zST) : Prop := (0 ≤ (σ.1 0 3).toInt ∧ (σ.1 0 3).toInt ≤ 3) ∧ ∀ n, n < 2 → σ.1 86 n = ((σ.1 0 3) >>> (nI n &&& 31)) &&& 1 ∧ (σ.1 86 n ≠ 0 → (∀ r k, k < zLen r → cV σ (18 + 17 * n) r k = kV σ n r k) ∧ OKV (cV σ (18 + 17 * n)))
def Inv (σ : zST) : Prop := IB σ ∧ IP σ ∧ II σ
theorem zLen13 {r k : Nat} (h : k < zLen r) : r < 13 := by
  rcases Nat.lt_or_ge r 13 with h1 | h1
  · exact h1
  · have : zLen r = 0 := by
      unfold zLen
      rw [List.getD_eq_getElem?_getD, List.getElem?_eq_none (by simpa using h1)]
      rfl
    omega
theorem zLen24 {r k : Nat} (h : k < zLen r) : k < 24 := by
  have h1 := zLen13 h
  have : ∀ r, r < 13 → zLen r ≤ 24 := by decide
  have := this r h1
  omega
theorem cV_fr {σ σ' : zST} {b : Nat} (h : ∀ a k, b + 1 ≤ a → a ≤ b + 16 → σ'.1 a k = σ.1 a k) (r k : Nat) : cV σ' b r k = cV σ b r k := by
  unfold cV
  split
  · split <;> exact h _ _ (by omega) (by omega)
  all_goals exact h _ _ (by omega) (by omega)
theorem mV_fr {σ σ' : zST} (h : ∀ a k, (70 ≤ a ∧ a ≤ 79) ∨ (a = 69 ∧ k ≤ 26) → σ'.1 a k = σ.1 a k) {r k : Nat} (hk : k < zLen r) : mV σ' r k = mV σ r k := by
  have hr := zLen13 hk
  have hkk := zLen24 hk
  unfold mV
  split
  · split <;> exact h _ _ (by omega)
  all_goals first
    | exact h _ _ (by omega)
    | (have : k < 8 := hk; exact h _ _ (by omega))
    | (have : k < 3 := hk; exact h _ _ (by omega))
    | (rw [h 79 k (by omega), h 78 k (by omega)])
theorem kV_fr {σ σ' : zST} {n : Nat} (h : ∀ k, σ'.1 85 k = σ.1 85 k) (r k : Nat) : kV σ' n r k = kV σ n r k := by
  unfold kV
  split
  · split <;> exact h _
  all_goals first
    | exact h _
    | rw [h, h]
theorem OKV_fr {V V' : Nat → Nat → Int32} (h : ∀ r k, k < zLen r → V' r k = V r k) (hV : OKV V) : OKV V' := by
  refine ⟨fun r k hk => ?_, fun k hk => ?_, fun k hk => ?_⟩
  · rw [h r k hk]
    exact hV.1 r k hk
  · rw [h 12 k hk, h 11 k hk]
    exact hV.2.1 k hk
  · rw [h 0 0 (by decide), h 1 k hk, h 2 k hk]
    exact hV.2.2 k hk
theorem IB_fr {σ σ' : zST} (h : ∀ a k, (2 ≤ a ∧ a ≤ 17) ∨ (70 ≤ a ∧ a ≤ 79) ∨ (a = 69 ∧ k ≤ 26) → σ'.1 a k = σ.1 a k) (hI : IB σ) : IB σ' := by
  have h1 : ∀ r k, cV σ' 1 r k = cV σ 1 r k := cV_fr (fun a k x y => h a k (by omega))
  refine ⟨fun r k hk => ?_, OKV_fr (fun r k _ => h1 r k) hI.2⟩
  rw [h1, hI.1 r k hk]
  exact (mV_fr (fun a k x => h a k (by omega)) hk).symm
theorem IP_fr {σ σ' : zST} (h : ∀ a k, (52 ≤ a ∧ a ≤ 53) ∨ a = 80 ∨ (a = 69 ∧ k = 27) → σ'.1 a k = σ.1 a k) (hI : IP σ) : IP σ' := by
  obtain ⟨h1, h2, h3, h4⟩ := hI
  refine ⟨?_, ?_, ?_, fun k hk => ?_⟩
  · rw [h 52 1 (by omega), h 69 27 (by omega)]; exact h1
  · rw [h 52 1 (by omega)]; exact h2
  · rw [h 52 1 (by omega)]; exact h3
  · rw [h 53 k (by omega), h 80 k (by omega)]; exact h4 k hk
theorem II_fr {σ σ' : zST} (h : ∀ a k, a = 0 ∨ (18 ≤ a ∧ a ≤ 51) ∨ a = 85 ∨ a = 86 → σ'.1 a k = σ.1 a k) (hI : II σ) : II σ' := by
  obtain ⟨h1, h2⟩ := hI
  refine ⟨by rw [h 0 3 (by omega)]; exact h1, fun n hn => ?_⟩
  obtain ⟨h3, h4⟩ := h2 n hn
  have e1 : ∀ r k, cV σ' (18 + 17 * n) r k = cV σ (18 + 17 * n) r k := cV_fr (fun a k x y => h a k (by omega))
  have e2 : ∀ r k, kV σ' n r k = kV σ n r k := kV_fr (fun k => h 85 k (by omega))
  rw [h 86 n (by omega), h 0 3 (by omega)]
  refine ⟨h3, fun hz => ?_⟩
  obtain ⟨h5, h6⟩ := h4 hz
  exact ⟨fun r k hk => by rw [e1, e2]; exact h5 r k hk, OKV_fr (fun r k _ => e1 r k) h6⟩
theorem Inv_fr {σ σ' : zST} (h : ∀ a k, a = 0 ∨ (2 ≤ a ∧ a ≤ 53) ∨ (70 ≤ a ∧ a ≤ 80) ∨ a = 85 ∨ a = 86 ∨ (a = 69 ∧ k ≤ 27) → σ'.1 a k = σ.1 a k) (hI : Inv σ) : Inv σ' :=
  ⟨IB_fr (fun a k x => h a k (by omega)) hI.1, IP_fr (fun a k x => h a k (by omega)) hI.2.1, II_fr (fun a k x => h a k (by omega)) hI.2.2⟩
theorem zInit1 : ∀ r, r < 13 → ∀ k, k < zLen r → cV zS0 1 r k = mV zS0 r k := by decide +kernel
theorem zInit2 : ∀ r, r < 13 → ∀ k, k < zLen r → zLo r k ≤ (cV zS0 1 r k).toInt ∧ (cV zS0 1 r k).toInt ≤ zHi r k := by decide +kernel
theorem zInit3 : ∀ k, k < 6 → (cV zS0 1 12 k).toInt + (zpc (cV zS0 1 11 k)).toInt ≤ 8 := by decide +kernel
theorem zInit4 : ∀ k, k < 6 → ¬ zH (cV zS0 1 0 0) (nI k) := by decide +kernel
theorem Inv0 : Inv zS0 := by
  refine ⟨⟨fun r k hk => zInit1 r (zLen13 hk) k hk, fun r k hk => zInit2 r (zLen13 hk) k hk, zInit3, fun k hk q => absurd q (zInit4 k hk)⟩, ⟨rfl, by decide, by decide, fun k _ => rfl⟩, ⟨by decide, by decide⟩, fun n hn => ?_⟩
  rcases (show n = 0 ∨ n = 1 by omega) with rfl | rfl
  · exact ⟨by decide, fun h => absurd rfl h⟩
  · exact ⟨by decide, fun h => absurd rfl h⟩
end
section
theorem IB_upd {σ σ' : zST} (hI : IB σ) (h : ∀ r k, k < zLen r → (cV σ' 1 r k = cV σ 1 r k ∧ mV σ' r k = mV σ r k) ∨ (cV σ' 1 r k = mV σ' r k ∧ zLo r k ≤ (cV σ' 1 r k).toInt ∧ (cV σ' 1 r k).toInt ≤ zHi r k)) (h2 : ∀ k, k < 6 → (cV σ' 1 12 k).toInt + (zpc (cV σ' 1 11 k)).toInt ≤ 8) (h3 : ∀ k, k < 6 → zH (cV σ' 1 0 0) (nI k) → cV σ' 1 1 k = 0 → 1 ≤ (cV σ' 1 2 k).toInt) : IB σ' := by
  refine ⟨fun r k hk => ?_, fun r k hk => ?_, h2, h3⟩
  · rcases h r k hk with ⟨e1, e2⟩ | ⟨e1, -, -⟩
    · rw [e1, e2]; exact hI.1 r k hk
    · exact e1
  · rcases h r k hk with ⟨e1, e2⟩ | ⟨-, e1, e2⟩
    · rw [e1]; exact hI.2.1 r k hk
    · exact ⟨e1, e2⟩
theorem wI_at (σ : zST) (a k : Nat) (v : Int32) (b j : Nat) : (wI σ a k v).1 b j = if b = a ∧ j = k then v else σ.1 b j := rfl
theorem zor : ∀ n, n < 256 → ∀ i, i < 8 → 0 ≤ (nI n ||| ((1 : Int32) <<< (nI i &&& 31))).toInt ∧ (nI n ||| ((1 : Int32) <<< (nI i &&& 31))).toInt ≤ 255 ∧ (n < 64 → i < 6 → (nI n ||| ((1 : Int32) <<< (nI i &&& 31))).toInt ≤ 63) ∧ (n < 16 → i < 4 → (nI n ||| ((1 : Int32) <<< (nI i &&& 31))).toInt ≤ 15) := by decide +kernel
theorem zan : ∀ n, n < 256 → ∀ i, i < 8 → 0 ≤ (nI n &&& (((1 : Int32) <<< (nI i &&& 31)) ^^^ (-1))).toInt ∧ (nI n &&& (((1 : Int32) <<< (nI i &&& 31)) ^^^ (-1))).toInt ≤ n := by decide +kernel
theorem zor6 {x i : Int32} (h1 : 0 ≤ x.toInt) (h2 : x.toInt ≤ 63) (h3 : 0 ≤ i.toInt) (h4 : i.toInt ≤ 5) : 0 ≤ (x ||| ((1 : Int32) <<< (i &&& 31))).toInt ∧ (x ||| ((1 : Int32) <<< (i &&& 31))).toInt ≤ 63 := by
  obtain ⟨n, hn, rfl, -⟩ := zN (h := 63) h1 (by omega)
  obtain ⟨j, hj, rfl, -⟩ := zN (h := 5) h3 (by omega)
  have := zor n (by omega) j (by omega)
  exact ⟨this.1, this.2.2.1 (by omega) (by omega)⟩
theorem zor4 {x i : Int32} (h1 : 0 ≤ x.toInt) (h2 : x.toInt ≤ 15) (h3 : 0 ≤ i.toInt) (h4 : i.toInt ≤ 3) : 0 ≤ (x ||| ((1 : Int32) <<< (i &&& 31))).toInt ∧ (x ||| ((1 : Int32) <<< (i &&& 31))).toInt ≤ 15 := by
  obtain ⟨n, hn, rfl, -⟩ := zN (h := 15) h1 (by omega)
  obtain ⟨j, hj, rfl, -⟩ := zN (h := 3) h3 (by omega)
  have := zor n (by omega) j (by omega)
  exact ⟨this.1, this.2.2.2 (by omega) (by omega)⟩
theorem zor8 {x i : Int32} (h1 : 0 ≤ x.toInt) (h2 : x.toInt ≤ 255) (h3 : 0 ≤ i.toInt) (h4 : i.toInt ≤ 7) : 0 ≤ (x ||| ((1 : Int32) <<< (i &&& 31))).toInt ∧ (x ||| ((1 : Int32) <<< (i &&& 31))).toInt ≤ 255 := by
  obtain ⟨n, hn, rfl, -⟩ := zN (h := 255) h1 (by omega)
  obtain ⟨j, hj, rfl, -⟩ := zN (h := 7) h3 (by omega)
  have := zor n (by omega) j (by omega)
  exact ⟨this.1, this.2.1⟩
theorem zan8 {x i : Int32} {m : Nat} (h1 : 0 ≤ x.toInt) (h2 : x.toInt ≤ m) (hm : m ≤ 255) (h3 : 0 ≤ i.toInt) (h4 : i.toInt ≤ 7) : 0 ≤ (x &&& (((1 : Int32) <<< (i &&& 31)) ^^^ (-1))).toInt ∧ (x &&& (((1 : Int32) <<< (i &&& 31)) ^^^ (-1))).toInt ≤ m := by
  obtain ⟨n, hn, rfl, e⟩ := zN (h := m) h1 h2
  obtain ⟨j, hj, rfl, -⟩ := zN (h := 7) h3 (by omega)
  have := zan n (by omega) j (by omega)
  exact ⟨this.1, by omega⟩
section S
variable {σ : zST} {a1 a2 a3 a4 a5 : Int32}
theorem b_ships (h : IB σ) : σ.1 2 0 = σ.1 69 0 ∧ 0 ≤ (σ.1 2 0).toInt ∧ (σ.1 2 0).toInt ≤ 63 := ⟨h.1 0 0 (by decide), h.2.1 0 0 (by decide)⟩
theorem b_digits (h : IB σ) : σ.1 2 7 = σ.1 69 14 ∧ 1 ≤ (σ.1 2 7).toInt ∧ (σ.1 2 7).toInt ≤ 24 := ⟨h.1 0 1 (by decide), h.2.1 0 1 (by decide)⟩
theorem b_offers (h : IB σ) : σ.1 10 0 = σ.1 69 18 ∧ 0 ≤ (σ.1 10 0).toInt ∧ (σ.1 10 0).toInt ≤ 15 := ⟨h.1 0 2 (by decide), h.2.1 0 2 (by decide)⟩
theorem b_names (h : IB σ) : σ.1 13 0 = σ.1 69 21 ∧ 0 ≤ (σ.1 13 0).toInt ∧ (σ.1 13 0).toInt ≤ 255 := ⟨h.1 0 3 (by decide), h.2.1 0 3 (by decide)⟩
theorem b_rolls (h : IB σ) : σ.1 15 0 = σ.1 69 25 ∧ 0 ≤ (σ.1 15 0).toInt ∧ (σ.1 15 0).toInt ≤ 6 := ⟨h.1 0 4 (by decide), h.2.1 0 4 (by decide)⟩
theorem b_where (h : IB σ) {k : Nat} (hk : k < 6) : σ.1 3 k = σ.1 73 k ∧ 0 ≤ (σ.1 3 k).toInt ∧ (σ.1 3 k).toInt ≤ 2 := ⟨h.1 1 k hk, h.2.1 1 k hk⟩
theorem b_men (h : IB σ) {k : Nat} (hk : k < 6) : σ.1 4 k = σ.1 70 k ∧ 0 ≤ (σ.1 4 k).toInt ∧ (σ.1 4 k).toInt ≤ 30 := ⟨h.1 2 k hk, h.2.1 2 k hk⟩
theorem b_straw (h : IB σ) {k : Nat} (hk : k < 6) : σ.1 5 k = σ.1 71 k ∧ 0 ≤ (σ.1 5 k).toInt ∧ (σ.1 5 k).toInt ≤ 9 := ⟨h.1 3 k hk, h.2.1 3 k hk⟩
theorem b_cargo (h : IB σ) {k : Nat} (hk : k < 6) : σ.1 6 k = σ.1 72 k ∧ 0 ≤ (σ.1 6 k).toInt ∧ (σ.1 6 k).toInt ≤ 999 := ⟨h.1 4 k hk, h.2.1 4 k hk⟩
theorem b_terms (h : IB σ) {k : Nat} (hk : k < 8) : σ.1 7 k = σ.1 69 (5 + k) ∧ zLo 5 k ≤ (σ.1 7 k).toInt ∧ (σ.1 7 k).toInt ≤ zHi 5 k := ⟨h.1 5 k hk, h.2.1 5 k hk⟩
theorem b_tenths (h : IB σ) {k : Nat} (hk : k < 24) : σ.1 8 k = σ.1 74 k ∧ 0 ≤ (σ.1 8 k).toInt ∧ (σ.1 8 k).toInt ≤ 9 := ⟨h.1 6 k hk, h.2.1 6 k hk⟩
theorem b_sums (h : IB σ) {k : Nat} (hk : k < 3) : σ.1 9 k = σ.1 69 (15 + k) := h.1 7 k hk
theorem b_premium (h : IB σ) {k : Nat} (hk : k < 4) : σ.1 11 k = σ.1 75 k ∧ 0 ≤ (σ.1 11 k).toInt ∧ (σ.1 11 k).toInt ≤ 999 := ⟨h.1 8 k hk, h.2.1 8 k hk⟩
theorem b_pays (h : IB σ) {k : Nat} (hk : k < 4) : σ.1 12 k = σ.1 76 k ∧ 0 ≤ (σ.1 12 k).toInt ∧ (σ.1 12 k).toInt ≤ 9999 := ⟨h.1 9 k hk, h.2.1 9 k hk⟩
theorem b_drawn (h : IB σ) {k : Nat} (hk : k < 8) : σ.1 14 k = σ.1 77 k ∧ 0 ≤ (σ.1 14 k).toInt ∧ (σ.1 14 k).toInt ≤ 9 := ⟨h.1 10 k hk, h.2.1 10 k hk⟩
theorem b_read (h : IB σ) {k : Nat} (hk : k < 6) : σ.1 16 k = σ.1 78 k ∧ 0 ≤ (σ.1 16 k).toInt ∧ (σ.1 16 k).toInt ≤ 255 := ⟨h.1 11 k hk, h.2.1 11 k hk⟩
theorem b_room (h : IB σ) {k : Nat} (hk : k < 6) : σ.1 17 k = σ.1 79 k - zpc (σ.1 78 k) ∧ 0 ≤ (σ.1 17 k).toInt ∧ (σ.1 17 k).toInt ≤ 8 ∧ (σ.1 17 k).toInt + (zpc (σ.1 16 k)).toInt ≤ 8 := ⟨h.1 12 k hk, (h.2.1 12 k hk).1, (h.2.1 12 k hk).2, h.2.2.1 k hk⟩
theorem zsh_many (h : IB σ) {k : Nat} (hk : k < 6) : (cV σ 1 12 k).toInt + (zpc (cV σ 1 11 k)).toInt ≤ 8 := h.2.2.1 k hk
theorem b_moor (h : IB σ) {k : Nat} (hk : k < 6) : zH (σ.1 2 0) (nI k) → σ.1 3 k = 0 → 1 ≤ (σ.1 4 k).toInt := h.2.2.2 k hk
theorem zHor : ∀ n, n < 64 → ∀ i, i < 6 → ∀ j, j < 6 → zH (nI n ||| ((1 : Int32) <<< (nI i &&& 31))) (nI j) → j = i ∨ zH (nI n) (nI j) := by decide +kernel
theorem zHan : ∀ n, n < 64 → ∀ i, i < 6 → ∀ j, j < 6 → zH (nI n &&& (((1 : Int32) <<< (nI i &&& 31)) ^^^ (-1))) (nI j) → zH (nI n) (nI j) := by decide +kernel
theorem s_ship (h : Inv σ) {K : Int32 → Int32 → zST → Prop} (hk : ∀ r σ', Inv σ' → K r r σ') : wp_X8_ship a1 a2 a3 a4 σ (fun r σ1 => wp_X9_ship a1 a2 a3 a4 σ1 (fun r' σ2 => K r r' σ2)) := by
  unfold wp_X8_ship wp_X9_ship
  refine t_within (a := 0) (b := 5) rfl rfl (fun x1 x2 => ?_) (fun x => t_isNumber (fun y1 y2 => by omega) (fun _ => hk _ _ h))
  refine t_within (a := 1) (b := 30) rfl rfl (fun x3 x4 => ?_) (fun x => t_isNumber (fun _ _ => t_in (a := 1) (b := 30) rfl rfl (fun y1 y2 => by omega) (fun _ => hk _ _ h)) (fun y => by omega))
  refine t_within (a := 0) (b := 9) rfl rfl (fun x5 x6 => ?_) (fun x => t_isNumber (fun _ _ => t_in (a := 1) (b := 30) rfl rfl (fun _ _ => t_in (a := 0) (b := 9) rfl rfl (fun y1 y2 => by omega) (fun _ => hk _ _ h)) (fun y => by omega)) (fun y => by omega))
  refine t_within (a := 0) (b := 999) rfl rfl (fun x7 x8 => ?_) (fun x => t_isNumber (fun _ _ => t_in (a := 1) (b := 30) rfl rfl (fun _ _ => t_in (a := 0) (b := 9) rfl rfl (fun _ _ => t_in (a := 0) (b := 999) rfl rfl (fun y1 y2 => by omega) (fun _ => hk _ _ h)) (fun y => by omega)) (fun y => by omega)) (fun y => by omega))
  have hv : vp_in a1 6 := zv x1 (by omega)
  refine ⟨hv, hv, hv, hv, ?_⟩
  rintro _ rfl
  refine i_bitCount ?_
  refine t_isNumber (fun _ _ => ?_) (fun y => by omega)
  refine t_in (a := 1) (b := 30) rfl rfl (fun _ _ => ?_) (fun y => by omega)
  refine t_in (a := 0) (b := 9) rfl rfl (fun _ _ => ?_) (fun y => by omega)
  refine t_in (a := 0) (b := 999) rfl rfl (fun _ _ => ?_) (fun y => by omega)
  refine ⟨hv, hv, hv, hv, ?_⟩
  rintro _ rfl _ rfl
  have e1 := b_ships h.1
  have e2 := zor6 e1.2.1 e1.2.2 x1 x2
  have e3 : a1.toNatClampNeg < 6 := zcl x1 (by omega)
  refine i_ones (by simp [wI_at]; rw [← e1.1]; omega) (by simp [wI_at]; rw [← e1.1]; omega) ?_
  simp only [wI_at]
  simp (decide := true) only [false_and, if_false, true_and, and_true, if_true]
  rw [← e1.1]
  refine hk _ _ ⟨?_, IP_fr (fun a k x => ?_) h.2.1, II_fr (fun a k x => ?_) h.2.2⟩
  · refine IB_upd h.1 (fun r k hk => ?_) (fun k hk => ?_) (fun k hk => ?_)
    · have hr := zLen13 hk
      match r, hr with
      | 0, _ =>
        match k, hk with
        | 0, _ => right; simp [cV, mV, wI_at, zLo, zHi, ← e1.1]; exact e2
        | 1, _ => left; simp [cV, mV, wI_at]
        | 2, _ => left; simp [cV, mV, wI_at]
        | 3, _ => left; simp [cV, mV, wI_at]
        | 4, _ => left; simp [cV, mV, wI_at]
        | k + 5, h5 => exact absurd h5 (by simp [zLen])
      | 1, _ => by_cases e : k = a1.toNatClampNeg
                · right; simp [cV, mV, wI_at, zLo, zHi, e]
                · left; simp [cV, mV, wI_at, e]
      | 2, _ => by_cases e : k = a1.toNatClampNeg
                · right; simp [cV, mV, wI_at, zLo, zHi, e]; omega
                · left; simp [cV, mV, wI_at, e]
      | 3, _ => by_cases e : k = a1.toNatClampNeg
                · right; simp [cV, mV, wI_at, zLo, zHi, e]; omega
                · left; simp [cV, mV, wI_at, e]
      | 4, _ => by_cases e : k = a1.toNatClampNeg
                · right; simp [cV, mV, wI_at, zLo, zHi, e]; omega
                · left; simp [cV, mV, wI_at, e]
      | 5, _ => left; simp [cV, mV, wI_at]
      | 6, _ => left; simp [cV, mV, wI_at]
      | 7, _ => left; simp [cV, mV, wI_at]
      | 8, _ => left; simp [cV, mV, wI_at]
      | 9, _ => left; simp [cV, mV, wI_at]
      | 10, _ => left; simp [cV, mV, wI_at]
      | 11, _ => left; simp [cV, mV, wI_at]
      | 12, _ => left; simp [cV, mV, wI_at]
    · have := zsh_many h.1 hk
      simpa [cV, wI_at] using this
    · obtain ⟨n, hn, en, -⟩ := zN (h := 63) e1.2.1 e1.2.2
      obtain ⟨i, hi, ei, -⟩ := zN (h := 5) x1 x2
      intro q1 q2
      have q1 : zH (σ.1 2 0 ||| 1 <<< (a1 &&& 31)) (nI k) := by simpa [cV, wI_at] using q1
      rw [en, ei] at q1
      by_cases e : k = a1.toNatClampNeg
      · simp [cV, wI_at, e]; omega
      · rcases zHor n (by omega) i (by omega) k hk q1 with w | w
        · refine absurd ?_ e
          rw [ei, w, nI_clamp (by omega)]
        · rw [← en] at w
          have := b_moor h.1 hk w (by simpa [cV, wI_at, e] using q2)
          simpa [cV, wI_at, e] using this
  · simp only [wI_at]
    repeat rw [if_neg (by omega)]
  · simp only [wI_at]
    repeat rw [if_neg (by omega)]
end S
end
section
theorem zS2 {x : Int32} (h1 : 0 ≤ x.toInt) (h2 : x.toInt ≤ 1) : x = 0 ∨ x = 1 := by
  obtain ⟨n, hn, rfl, -⟩ := zN (h := 1) h1 (by omega)
  rcases (show n = 0 ∨ n = 1 by omega) with rfl | rfl
  · exact Or.inl rfl
  · exact Or.inr rfl
theorem zS3 {x : Int32} (h1 : 0 ≤ x.toInt) (h2 : x.toInt ≤ 2) : x = 0 ∨ x = 1 ∨ x = 2 := by
  obtain ⟨n, hn, rfl, -⟩ := zN (h := 2) h1 (by omega)
  rcases (show n = 0 ∨ n = 1 ∨ n = 2 by omega) with rfl | rfl | rfl
  · exact Or.inl rfl
  · exact Or.inr (Or.inl rfl)
  · exact Or.inr (Or.inr rfl)
theorem zS8 {x : Int32} (h1 : 0 ≤ x.toInt) (h2 : x.toInt ≤ 7) : x = 0 ∨ x = 1 ∨ x = 2 ∨ x = 3 ∨ x = 4 ∨ x = 5 ∨ x = 6 ∨ x = 7 := by
  obtain ⟨n, hn, rfl, -⟩ := zN (h := 7) h1 (by omega)
  rcases (show n = 0 ∨ n = 1 ∨ n = 2 ∨ n = 3 ∨ n = 4 ∨ n = 5 ∨ n = 6 ∨ n = 7 by omega) with rfl | rfl | rfl | rfl | rfl | rfl | rfl | rfl
  · exact Or.inl rfl
  · exact Or.inr (Or.inl rfl)
  · exact Or.inr (Or.inr (Or.inl rfl))
  · exact Or.inr (Or.inr (Or.inr (Or.inl rfl)))
  · exact Or.inr (Or.inr (Or.inr (Or.inr (Or.inl rfl))))
  · exact Or.inr (Or.inr (Or.inr (Or.inr (Or.inr (Or.inl rfl)))))
  · exact Or.inr (Or.inr (Or.inr (Or.inr (Or.inr (Or.inr (Or.inl rfl))))))
  · exact Or.inr (Or.inr (Or.inr (Or.inr (Or.inr (Or.inr (Or.inr rfl))))))
theorem zbit {P : Int32 → Prop} {c : Prop} [Decidable c] {z : Int32} (hz : z = if c then 1 else 0) (h1 : c → P 1) (h0 : ¬ c → P 0) : zB z ∧ P z := by
  by_cases hc : c
  · rw [if_pos hc] at hz; subst hz; exact ⟨zB1, h1 hc⟩
  · rw [if_neg hc] at hz; subst hz; exact ⟨zB0, h0 hc⟩
theorem i_has {a : Nat} {p x : Int32} {σ : zST} {P : Int32 → Prop} (hx : σ.1 a 0 = x) (h1 : 0 ≤ p.toInt → p.toInt ≤ 5 → zH x p → P 1) (h0 : ¬ (0 ≤ p.toInt ∧ p.toInt ≤ 5 ∧ zH x p) → P 0) : wp_X6_has a p σ P := by
  subst hx
  refine i_within (a := 0) (b := 5) rfl rfl (fun x y z hz => ?_) (fun x z hz => ?_)
  · rw [if_neg (by decide)] at hz
    exact zbit hz (fun c => h1 x y c) (fun c => h0 (fun w => c w.2.2))
  · rw [if_pos rfl] at hz
    subst hz
    exact ⟨zB0, h0 (by omega)⟩
theorem i_isShip {p x : Int32} {σ : zST} {P : Int32 → Prop} (hx : σ.1 69 0 = x) (h1 : 0 ≤ p.toInt → p.toInt ≤ 5 → zH x p → P 1) (h0 : ¬ (0 ≤ p.toInt ∧ p.toInt ≤ 5 ∧ zH x p) → P 0) : wp_X9_isShip p σ P := by
  subst hx
  unfold wp_X9_isShip wp_X9_isNumber
  refine i_in (a := 0) (b := 5) rfl rfl (fun x y => ⟨zB1, fun z hz => ?_⟩) (fun x => ⟨zB0, fun z hz => ?_⟩)
  · rw [if_neg (by decide)] at hz
    exact zbit hz (fun c => h1 x y c) (fun c => h0 (fun w => c w.2.2))
  · rw [if_pos rfl] at hz
    subst hz
    exact ⟨zB0, h0 (by omega)⟩
theorem i_has8 {a : Nat} {p x : Int32} {σ : zST} {P : Int32 → Prop} (hx : σ.1 a 0 = x) (h1 : 0 ≤ p.toInt → p.toInt ≤ 7 → zH x p → P 1) (h0 : ¬ (0 ≤ p.toInt ∧ p.toInt ≤ 7 ∧ zH x p) → P 0) : wp_X1_has a p σ P := by
  subst hx
  refine i_within (a := 0) (b := 7) rfl rfl (fun x y z hz => ?_) (fun x z hz => ?_)
  · rw [if_neg (by decide)] at hz
    exact zbit hz (fun c => h1 x y c) (fun c => h0 (fun w => c w.2.2))
  · rw [if_pos rfl] at hz
    subst hz
    exact ⟨zB0, h0 (by omega)⟩
theorem i_isAboard {p x : Int32} {σ : zST} {P : Int32 → Prop} (hx : σ.1 69 21 = x) (h1 : 0 ≤ p.toInt → p.toInt ≤ 7 → zH x p → P 1) (h0 : ¬ (0 ≤ p.toInt ∧ p.toInt ≤ 7 ∧ zH x p) → P 0) : wp_X9_isAboard p σ P := by
  subst hx
  refine i_in (a := 0) (b := 7) rfl rfl (fun x y z hz => ?_) (fun x z hz => ?_)
  · rw [if_neg (by decide)] at hz
    exact zbit hz (fun c => h1 x y c) (fun c => h0 (fun w => c w.2.2))
  · rw [if_pos rfl] at hz
    subst hz
    exact ⟨zB0, h0 (by omega)⟩
theorem t_has {a : Nat} {p x : Int32} {σ : zST} {A B : Prop} (hx : σ.1 a 0 = x) (h1 : 0 ≤ p.toInt → p.toInt ≤ 5 → zH x p → B) (h0 : ¬ (0 ≤ p.toInt ∧ p.toInt ≤ 5 ∧ zH x p) → A) : wp_X6_has a p σ (fun r => if r = 0 then A else B) := i_has hx (fun x y z => zi1 (h1 x y z)) (fun x => zi0 (h0 x))
theorem t_isShip {p x : Int32} {σ : zST} {A B : Prop} (hx : σ.1 69 0 = x) (h1 : 0 ≤ p.toInt → p.toInt ≤ 5 → zH x p → B) (h0 : ¬ (0 ≤ p.toInt ∧ p.toInt ≤ 5 ∧ zH x p) → A) : wp_X9_isShip p σ (fun r => if r = 0 then A else B) := i_isShip hx (fun x y z => zi1 (h1 x y z)) (fun x => zi0 (h0 x))
theorem t_has8 {a : Nat} {p x : Int32} {σ : zST} {A B : Prop} (hx : σ.1 a 0 = x) (h1 : 0 ≤ p.toInt → p.toInt ≤ 7 → zH x p → B) (h0 : ¬ (0 ≤ p.toInt ∧ p.toInt ≤ 7 ∧ zH x p) → A) : wp_X1_has a p σ (fun r => if r = 0 then A else B) := i_has8 hx (fun x y z => zi1 (h1 x y z)) (fun x => zi0 (h0 x))
theorem t_isAboard {p x : Int32} {σ : zST} {A B : Prop} (hx : σ.1 69 21 = x) (h1 : 0 ≤ p.toInt → p.toInt ≤ 7 → zH x p → B) (h0 : ¬ (0 ≤ p.toInt ∧ p.toInt ≤ 7 ∧ zH x p) → A) : wp_X9_isAboard p σ (fun r => if r = 0 then A else B) := i_isAboard hx (fun x y z => zi1 (h1 x y z)) (fun x => zi0 (h0 x))
section S
variable {σ : zST} {a1 a2 a3 a4 a5 : Int32}

theorem s_scrap (h : Inv σ) {K : Int32 → Int32 → zST → Prop} (hk : ∀ r σ', Inv σ' → K r r σ') : wp_X8_scrap a1 σ (fun r σ1 => wp_X9_scrap a1 σ1 (fun r' σ2 => K r r' σ2)) := by
  unfold wp_X8_scrap wp_X9_scrap
  have e1 := b_ships h.1
  refine t_has rfl (fun x1 x2 x3 => ?_) (fun x => t_isShip e1.1.symm (fun y1 y2 y3 => absurd ⟨y1, y2, y3⟩ x) (fun _ => hk _ _ h))
  rintro _ rfl
  refine i_bitCount ?_
  refine t_isShip (x := σ.1 2 0) (by simp [wI_at, e1.1]) (fun _ _ _ => ?_) (fun y => absurd ⟨x1, x2, x3⟩ y)
  rintro _ rfl
  have e2 := zan8 (m := 63) e1.2.1 e1.2.2 (by omega) x1 (by omega)
  refine i_ones (by simp (decide := true) only [wI_at, false_and, and_false, true_and, and_true, if_true, if_false]; rw [← e1.1]; omega) (by simp (decide := true) only [wI_at, false_and, and_false, true_and, and_true, if_true, if_false]; rw [← e1.1]; omega) ?_
  simp only [wI_at]
  simp (decide := true) only [false_and, if_false, true_and, and_true, if_true]
  rw [← e1.1]
  refine hk _ _ ⟨?_, IP_fr (fun a k x => ?_) h.2.1, II_fr (fun a k x => ?_) h.2.2⟩
  · skip
    refine IB_upd h.1 (fun r k hk => ?_) (fun k hk => ?_) (fun k hk => ?_)
    · have hr := zLen13 hk
      match r, hr with
      | 0, _ =>
        match k, hk with
        | 0, _ => right; simp (decide := true) only [cV, mV, wI_at, false_and, and_false, true_and, and_true, if_true, if_false]; exact e2
        | 1, _ => left; refine ⟨?_, ?_⟩ <;> simp only [cV, mV, wI_at] <;> (repeat rw [if_neg (by omega)])
        | 2, _ => left; refine ⟨?_, ?_⟩ <;> simp only [cV, mV, wI_at] <;> (repeat rw [if_neg (by omega)])
        | 3, _ => left; refine ⟨?_, ?_⟩ <;> simp only [cV, mV, wI_at] <;> (repeat rw [if_neg (by omega)])
        | 4, _ => left; refine ⟨?_, ?_⟩ <;> simp only [cV, mV, wI_at] <;> (repeat rw [if_neg (by omega)])
        | k + 5, h5 => exact absurd h5 (by simp [zLen])
      | 1, _ => have h8 : k < 6 := hk; left; refine ⟨?_, ?_⟩ <;> simp only [cV, mV, wI_at] <;> (repeat rw [if_neg (by omega)])
      | 2, _ => have h8 : k < 6 := hk; left; refine ⟨?_, ?_⟩ <;> simp only [cV, mV, wI_at] <;> (repeat rw [if_neg (by omega)])
      | 3, _ => have h8 : k < 6 := hk; left; refine ⟨?_, ?_⟩ <;> simp only [cV, mV, wI_at] <;> (repeat rw [if_neg (by omega)])
      | 4, _ => have h8 : k < 6 := hk; left; refine ⟨?_, ?_⟩ <;> simp only [cV, mV, wI_at] <;> (repeat rw [if_neg (by omega)])
      | 5, _ => have h8 : k < 8 := hk; left; refine ⟨?_, ?_⟩ <;> simp only [cV, mV, wI_at] <;> (repeat rw [if_neg (by omega)])
      | 6, _ => have h8 : k < 24 := hk; left; refine ⟨?_, ?_⟩ <;> simp only [cV, mV, wI_at] <;> (repeat rw [if_neg (by omega)])
      | 7, _ => have h8 : k < 3 := hk; left; refine ⟨?_, ?_⟩ <;> simp only [cV, mV, wI_at] <;> (repeat rw [if_neg (by omega)])
      | 8, _ => have h8 : k < 4 := hk; left; refine ⟨?_, ?_⟩ <;> simp only [cV, mV, wI_at] <;> (repeat rw [if_neg (by omega)])
      | 9, _ => have h8 : k < 4 := hk; left; refine ⟨?_, ?_⟩ <;> simp only [cV, mV, wI_at] <;> (repeat rw [if_neg (by omega)])
      | 10, _ => have h8 : k < 8 := hk; left; refine ⟨?_, ?_⟩ <;> simp only [cV, mV, wI_at] <;> (repeat rw [if_neg (by omega)])
      | 11, _ => have h8 : k < 6 := hk; left; refine ⟨?_, ?_⟩ <;> simp only [cV, mV, wI_at] <;> (repeat rw [if_neg (by omega)])
      | 12, _ => have h8 : k < 6 := hk; left; refine ⟨?_, ?_⟩ <;> simp only [cV, mV, wI_at] <;> (repeat rw [if_neg (by omega)])
    · have := zsh_many h.1 hk; simpa [cV, wI_at] using this
    · obtain ⟨n, hn, en, -⟩ := zN (h := 63) e1.2.1 e1.2.2
      obtain ⟨i, hi, ei, -⟩ := zN (h := 5) x1 x2
      intro q1 q2
      have q1 : zH (σ.1 2 0 &&& (1 <<< (a1 &&& 31) ^^^ (-1))) (nI k) := q1
      rw [en, ei] at q1
      have w := zHan n (by omega) i (by omega) k hk q1
      rw [← en] at w
      exact b_moor h.1 hk w q2
  · simp only [wI_at]
    repeat rw [if_neg (by omega)]
  · simp only [wI_at]
    repeat rw [if_neg (by omega)]

theorem s_offer (h : Inv σ) {K : Int32 → Int32 → zST → Prop} (hk : ∀ r σ', Inv σ' → K r r σ') : wp_X8_offer a1 a2 a3 σ (fun r σ1 => wp_X9_offer a1 a2 a3 σ1 (fun r' σ2 => K r r' σ2)) := by
  unfold wp_X8_offer wp_X9_offer
  have e1 := b_offers h.1
  refine t_within (a := 0) (b := 3) rfl rfl (fun x1 x2 => ?_) (fun x => t_in (a := 0) (b := 3) rfl rfl (fun y1 y2 => by omega) (fun _ => hk _ _ h))
  refine t_within (a := 0) (b := 999) rfl rfl (fun x3 x4 => ?_) (fun x => t_in (a := 0) (b := 3) rfl rfl (fun _ _ => t_in (a := 0) (b := 999) rfl rfl (fun y1 y2 => by omega) (fun _ => hk _ _ h)) (fun y => by omega))
  refine t_within (a := 0) (b := 9999) rfl rfl (fun x5 x6 => ?_) (fun x => t_in (a := 0) (b := 3) rfl rfl (fun _ _ => t_in (a := 0) (b := 999) rfl rfl (fun _ _ => t_in (a := 0) (b := 9999) rfl rfl (fun y1 y2 => by omega) (fun _ => hk _ _ h)) (fun y => by omega)) (fun y => by omega))
  have hv : vp_in a1 4 := zv x1 (by omega)
  refine ⟨hv, hv, ?_⟩
  rintro _ rfl
  refine i_bitCount ?_
  refine t_in (a := 0) (b := 3) rfl rfl (fun _ _ => ?_) (fun y => by omega)
  refine t_in (a := 0) (b := 999) rfl rfl (fun _ _ => ?_) (fun y => by omega)
  refine t_in (a := 0) (b := 9999) rfl rfl (fun _ _ => ?_) (fun y => by omega)
  refine ⟨hv, hv, ?_⟩
  rintro _ rfl _ rfl
  have e2 := zor4 e1.2.1 e1.2.2 x1 x2
  refine i_ones (by simp (decide := true) only [wI_at, false_and, and_false, true_and, and_true, if_true, if_false]; rw [← e1.1]; omega) (by simp (decide := true) only [wI_at, false_and, and_false, true_and, and_true, if_true, if_false]; rw [← e1.1]; omega) ?_
  simp only [wI_at]
  simp (decide := true) only [false_and, if_false, true_and, and_true, if_true]
  rw [← e1.1]
  refine hk _ _ ⟨?_, IP_fr (fun a k x => ?_) h.2.1, II_fr (fun a k x => ?_) h.2.2⟩
  · skip
    refine IB_upd h.1 (fun r k hk => ?_) (fun k hk => ?_) (fun k hk => ?_)
    · have hr := zLen13 hk
      match r, hr with
      | 0, _ =>
        match k, hk with
        | 0, _ => left; refine ⟨?_, ?_⟩ <;> simp only [cV, mV, wI_at] <;> (repeat rw [if_neg (by omega)])
        | 1, _ => left; refine ⟨?_, ?_⟩ <;> simp only [cV, mV, wI_at] <;> (repeat rw [if_neg (by omega)])
        | 2, _ => right; simp (decide := true) only [cV, mV, wI_at, false_and, and_false, true_and, and_true, if_true, if_false]; exact e2
        | 3, _ => left; refine ⟨?_, ?_⟩ <;> simp only [cV, mV, wI_at] <;> (repeat rw [if_neg (by omega)])
        | 4, _ => left; refine ⟨?_, ?_⟩ <;> simp only [cV, mV, wI_at] <;> (repeat rw [if_neg (by omega)])
        | k + 5, h5 => exact absurd h5 (by simp [zLen])
      | 1, _ => have h8 : k < 6 := hk; left; refine ⟨?_, ?_⟩ <;> simp only [cV, mV, wI_at] <;> (repeat rw [if_neg (by omega)])
      | 2, _ => have h8 : k < 6 := hk; left; refine ⟨?_, ?_⟩ <;> simp only [cV, mV, wI_at] <;> (repeat rw [if_neg (by omega)])
      | 3, _ => have h8 : k < 6 := hk; left; refine ⟨?_, ?_⟩ <;> simp only [cV, mV, wI_at] <;> (repeat rw [if_neg (by omega)])
      | 4, _ => have h8 : k < 6 := hk; left; refine ⟨?_, ?_⟩ <;> simp only [cV, mV, wI_at] <;> (repeat rw [if_neg (by omega)])
      | 5, _ => have h8 : k < 8 := hk; left; refine ⟨?_, ?_⟩ <;> simp only [cV, mV, wI_at] <;> (repeat rw [if_neg (by omega)])
      | 6, _ => have h8 : k < 24 := hk; left; refine ⟨?_, ?_⟩ <;> simp only [cV, mV, wI_at] <;> (repeat rw [if_neg (by omega)])
      | 7, _ => have h8 : k < 3 := hk; left; refine ⟨?_, ?_⟩ <;> simp only [cV, mV, wI_at] <;> (repeat rw [if_neg (by omega)])
      | 8, _ =>
        by_cases e : k = a1.toNatClampNeg
        · right; simp [cV, mV, wI_at, zLo, zHi, e]; omega
        · left; refine ⟨?_, ?_⟩ <;> simp only [cV, mV, wI_at] <;> (repeat rw [if_neg (by omega)])
      | 9, _ =>
        by_cases e : k = a1.toNatClampNeg
        · right; simp [cV, mV, wI_at, zLo, zHi, e]; omega
        · left; refine ⟨?_, ?_⟩ <;> simp only [cV, mV, wI_at] <;> (repeat rw [if_neg (by omega)])
      | 10, _ => have h8 : k < 8 := hk; left; refine ⟨?_, ?_⟩ <;> simp only [cV, mV, wI_at] <;> (repeat rw [if_neg (by omega)])
      | 11, _ => have h8 : k < 6 := hk; left; refine ⟨?_, ?_⟩ <;> simp only [cV, mV, wI_at] <;> (repeat rw [if_neg (by omega)])
      | 12, _ => have h8 : k < 6 := hk; left; refine ⟨?_, ?_⟩ <;> simp only [cV, mV, wI_at] <;> (repeat rw [if_neg (by omega)])
    · have := zsh_many h.1 hk; simpa [cV, wI_at] using this
    · have := b_moor h.1 hk; simpa [cV, wI_at] using this
  · simp only [wI_at]
    repeat rw [if_neg (by omega)]
  · simp only [wI_at]
    repeat rw [if_neg (by omega)]

theorem s_noOffers (h : Inv σ) {K : Int32 → Int32 → zST → Prop} (hk : ∀ r σ', Inv σ' → K r r σ') : wp_X8_noOffers σ (fun r σ1 => wp_X9_noOffers σ1 (fun r' σ2 => K r r' σ2)) := by
  unfold wp_X8_noOffers wp_X9_noOffers
  have e1 := b_offers h.1
  refine i_bitCount ?_
  refine i_ones (by simp (decide := true) only [wI_at, false_and, and_false, true_and, and_true, if_true, if_false]; rw [← e1.1]; omega) (by simp (decide := true) only [wI_at, false_and, and_false, true_and, and_true, if_true, if_false]; rw [← e1.1]; omega) ?_
  simp only [wI_at]
  simp (decide := true) only [false_and, if_false, true_and, and_true, if_true]
  rw [← e1.1]
  refine hk _ _ ⟨?_, IP_fr (fun a k x => ?_) h.2.1, II_fr (fun a k x => ?_) h.2.2⟩
  · skip
    refine IB_upd h.1 (fun r k hk => ?_) (fun k hk => ?_) (fun k hk => ?_)
    · have hr := zLen13 hk
      match r, hr with
      | 0, _ =>
        match k, hk with
        | 0, _ => left; refine ⟨?_, ?_⟩ <;> simp only [cV, mV, wI_at] <;> (repeat rw [if_neg (by omega)])
        | 1, _ => left; refine ⟨?_, ?_⟩ <;> simp only [cV, mV, wI_at] <;> (repeat rw [if_neg (by omega)])
        | 2, _ => right; simp [cV, mV, wI_at, zLo, zHi]
        | 3, _ => left; refine ⟨?_, ?_⟩ <;> simp only [cV, mV, wI_at] <;> (repeat rw [if_neg (by omega)])
        | 4, _ => left; refine ⟨?_, ?_⟩ <;> simp only [cV, mV, wI_at] <;> (repeat rw [if_neg (by omega)])
        | k + 5, h5 => exact absurd h5 (by simp [zLen])
      | 1, _ => have h8 : k < 6 := hk; left; refine ⟨?_, ?_⟩ <;> simp only [cV, mV, wI_at] <;> (repeat rw [if_neg (by omega)])
      | 2, _ => have h8 : k < 6 := hk; left; refine ⟨?_, ?_⟩ <;> simp only [cV, mV, wI_at] <;> (repeat rw [if_neg (by omega)])
      | 3, _ => have h8 : k < 6 := hk; left; refine ⟨?_, ?_⟩ <;> simp only [cV, mV, wI_at] <;> (repeat rw [if_neg (by omega)])
      | 4, _ => have h8 : k < 6 := hk; left; refine ⟨?_, ?_⟩ <;> simp only [cV, mV, wI_at] <;> (repeat rw [if_neg (by omega)])
      | 5, _ => have h8 : k < 8 := hk; left; refine ⟨?_, ?_⟩ <;> simp only [cV, mV, wI_at] <;> (repeat rw [if_neg (by omega)])
      | 6, _ => have h8 : k < 24 := hk; left; refine ⟨?_, ?_⟩ <;> simp only [cV, mV, wI_at] <;> (repeat rw [if_neg (by omega)])
      | 7, _ => have h8 : k < 3 := hk; left; refine ⟨?_, ?_⟩ <;> simp only [cV, mV, wI_at] <;> (repeat rw [if_neg (by omega)])
      | 8, _ => have h8 : k < 4 := hk; left; refine ⟨?_, ?_⟩ <;> simp only [cV, mV, wI_at] <;> (repeat rw [if_neg (by omega)])
      | 9, _ => have h8 : k < 4 := hk; left; refine ⟨?_, ?_⟩ <;> simp only [cV, mV, wI_at] <;> (repeat rw [if_neg (by omega)])
      | 10, _ => have h8 : k < 8 := hk; left; refine ⟨?_, ?_⟩ <;> simp only [cV, mV, wI_at] <;> (repeat rw [if_neg (by omega)])
      | 11, _ => have h8 : k < 6 := hk; left; refine ⟨?_, ?_⟩ <;> simp only [cV, mV, wI_at] <;> (repeat rw [if_neg (by omega)])
      | 12, _ => have h8 : k < 6 := hk; left; refine ⟨?_, ?_⟩ <;> simp only [cV, mV, wI_at] <;> (repeat rw [if_neg (by omega)])
    · have := zsh_many h.1 hk; simpa [cV, wI_at] using this
    · have := b_moor h.1 hk; simpa [cV, wI_at] using this
  · simp only [wI_at]
    repeat rw [if_neg (by omega)]
  · simp only [wI_at]
    repeat rw [if_neg (by omega)]

theorem s_aboard (h : Inv σ) {K : Int32 → Int32 → zST → Prop} (hk : ∀ r σ', Inv σ' → K r r σ') : wp_X8_aboard a1 a2 σ (fun r σ1 => wp_X9_aboard a1 a2 σ1 (fun r' σ2 => K r r' σ2)) := by
  unfold wp_X8_aboard wp_X9_aboard
  have e1 := b_names h.1
  refine t_within (a := 0) (b := 7) rfl rfl (fun x1 x2 => ?_) (fun x => t_in (a := 0) (b := 7) rfl rfl (fun y1 y2 => by omega) (fun _ => hk _ _ h))
  refine t_within (a := 0) (b := 9) rfl rfl (fun x3 x4 => ?_) (fun x => t_in (a := 0) (b := 7) rfl rfl (fun _ _ => t_in (a := 0) (b := 9) rfl rfl (fun y1 y2 => by omega) (fun _ => hk _ _ h)) (fun y => by omega))
  have hv : vp_in a1 8 := zv x1 (by omega)
  refine ⟨hv, ?_⟩
  rintro _ rfl
  refine i_bitCount ?_
  refine t_in (a := 0) (b := 7) rfl rfl (fun _ _ => ?_) (fun y => by omega)
  refine t_in (a := 0) (b := 9) rfl rfl (fun _ _ => ?_) (fun y => by omega)
  refine ⟨hv, ?_⟩
  rintro _ rfl _ rfl
  have e2 := zor8 e1.2.1 e1.2.2 x1 x2
  refine i_ones (by simp (decide := true) only [wI_at, false_and, and_false, true_and, and_true, if_true, if_false]; rw [← e1.1]; omega) (by simp (decide := true) only [wI_at, false_and, and_false, true_and, and_true, if_true, if_false]; rw [← e1.1]; omega) ?_
  simp only [wI_at]
  simp (decide := true) only [false_and, if_false, true_and, and_true, if_true]
  rw [← e1.1]
  refine hk _ _ ⟨?_, IP_fr (fun a k x => ?_) h.2.1, II_fr (fun a k x => ?_) h.2.2⟩
  · skip
    refine IB_upd h.1 (fun r k hk => ?_) (fun k hk => ?_) (fun k hk => ?_)
    · have hr := zLen13 hk
      match r, hr with
      | 0, _ =>
        match k, hk with
        | 0, _ => left; refine ⟨?_, ?_⟩ <;> simp only [cV, mV, wI_at] <;> (repeat rw [if_neg (by omega)])
        | 1, _ => left; refine ⟨?_, ?_⟩ <;> simp only [cV, mV, wI_at] <;> (repeat rw [if_neg (by omega)])
        | 2, _ => left; refine ⟨?_, ?_⟩ <;> simp only [cV, mV, wI_at] <;> (repeat rw [if_neg (by omega)])
        | 3, _ => right; simp (decide := true) only [cV, mV, wI_at, false_and, and_false, true_and, and_true, if_true, if_false]; exact e2
        | 4, _ => left; refine ⟨?_, ?_⟩ <;> simp only [cV, mV, wI_at] <;> (repeat rw [if_neg (by omega)])
        | k + 5, h5 => exact absurd h5 (by simp [zLen])
      | 1, _ => have h8 : k < 6 := hk; left; refine ⟨?_, ?_⟩ <;> simp only [cV, mV, wI_at] <;> (repeat rw [if_neg (by omega)])
      | 2, _ => have h8 : k < 6 := hk; left; refine ⟨?_, ?_⟩ <;> simp only [cV, mV, wI_at] <;> (repeat rw [if_neg (by omega)])
      | 3, _ => have h8 : k < 6 := hk; left; refine ⟨?_, ?_⟩ <;> simp only [cV, mV, wI_at] <;> (repeat rw [if_neg (by omega)])
      | 4, _ => have h8 : k < 6 := hk; left; refine ⟨?_, ?_⟩ <;> simp only [cV, mV, wI_at] <;> (repeat rw [if_neg (by omega)])
      | 5, _ => have h8 : k < 8 := hk; left; refine ⟨?_, ?_⟩ <;> simp only [cV, mV, wI_at] <;> (repeat rw [if_neg (by omega)])
      | 6, _ => have h8 : k < 24 := hk; left; refine ⟨?_, ?_⟩ <;> simp only [cV, mV, wI_at] <;> (repeat rw [if_neg (by omega)])
      | 7, _ => have h8 : k < 3 := hk; left; refine ⟨?_, ?_⟩ <;> simp only [cV, mV, wI_at] <;> (repeat rw [if_neg (by omega)])
      | 8, _ => have h8 : k < 4 := hk; left; refine ⟨?_, ?_⟩ <;> simp only [cV, mV, wI_at] <;> (repeat rw [if_neg (by omega)])
      | 9, _ => have h8 : k < 4 := hk; left; refine ⟨?_, ?_⟩ <;> simp only [cV, mV, wI_at] <;> (repeat rw [if_neg (by omega)])
      | 10, _ =>
        by_cases e : k = a1.toNatClampNeg
        · right; simp [cV, mV, wI_at, zLo, zHi, e]; omega
        · left; refine ⟨?_, ?_⟩ <;> simp only [cV, mV, wI_at] <;> (repeat rw [if_neg (by omega)])
      | 11, _ => have h8 : k < 6 := hk; left; refine ⟨?_, ?_⟩ <;> simp only [cV, mV, wI_at] <;> (repeat rw [if_neg (by omega)])
      | 12, _ => have h8 : k < 6 := hk; left; refine ⟨?_, ?_⟩ <;> simp only [cV, mV, wI_at] <;> (repeat rw [if_neg (by omega)])
    · have := zsh_many h.1 hk; simpa [cV, wI_at] using this
    · have := b_moor h.1 hk; simpa [cV, wI_at] using this
  · simp only [wI_at]
    repeat rw [if_neg (by omega)]
  · simp only [wI_at]
    repeat rw [if_neg (by omega)]

theorem s_ashore (h : Inv σ) {K : Int32 → Int32 → zST → Prop} (hk : ∀ r σ', Inv σ' → K r r σ') : wp_X8_ashore a1 σ (fun r σ1 => wp_X9_ashore a1 σ1 (fun r' σ2 => K r r' σ2)) := by
  unfold wp_X8_ashore wp_X9_ashore
  have e1 := b_names h.1
  refine t_has8 rfl (fun x1 x2 x3 => ?_) (fun x => t_isAboard e1.1.symm (fun y1 y2 y3 => absurd ⟨y1, y2, y3⟩ x) (fun _ => hk _ _ h))
  rintro _ rfl
  refine i_bitCount ?_
  refine t_isAboard (x := σ.1 13 0) (by simp [wI_at, e1.1]) (fun _ _ _ => ?_) (fun y => absurd ⟨x1, x2, x3⟩ y)
  rintro _ rfl
  have e2 := zan8 (m := 255) e1.2.1 e1.2.2 (by omega) x1 (by omega)
  refine i_ones (by simp (decide := true) only [wI_at, false_and, and_false, true_and, and_true, if_true, if_false]; rw [← e1.1]; omega) (by simp (decide := true) only [wI_at, false_and, and_false, true_and, and_true, if_true, if_false]; rw [← e1.1]; omega) ?_
  simp only [wI_at]
  simp (decide := true) only [false_and, if_false, true_and, and_true, if_true]
  rw [← e1.1]
  refine hk _ _ ⟨?_, IP_fr (fun a k x => ?_) h.2.1, II_fr (fun a k x => ?_) h.2.2⟩
  · skip
    refine IB_upd h.1 (fun r k hk => ?_) (fun k hk => ?_) (fun k hk => ?_)
    · have hr := zLen13 hk
      match r, hr with
      | 0, _ =>
        match k, hk with
        | 0, _ => left; refine ⟨?_, ?_⟩ <;> simp only [cV, mV, wI_at] <;> (repeat rw [if_neg (by omega)])
        | 1, _ => left; refine ⟨?_, ?_⟩ <;> simp only [cV, mV, wI_at] <;> (repeat rw [if_neg (by omega)])
        | 2, _ => left; refine ⟨?_, ?_⟩ <;> simp only [cV, mV, wI_at] <;> (repeat rw [if_neg (by omega)])
        | 3, _ => right; simp (decide := true) only [cV, mV, wI_at, false_and, and_false, true_and, and_true, if_true, if_false]; exact e2
        | 4, _ => left; refine ⟨?_, ?_⟩ <;> simp only [cV, mV, wI_at] <;> (repeat rw [if_neg (by omega)])
        | k + 5, h5 => exact absurd h5 (by simp [zLen])
      | 1, _ => have h8 : k < 6 := hk; left; refine ⟨?_, ?_⟩ <;> simp only [cV, mV, wI_at] <;> (repeat rw [if_neg (by omega)])
      | 2, _ => have h8 : k < 6 := hk; left; refine ⟨?_, ?_⟩ <;> simp only [cV, mV, wI_at] <;> (repeat rw [if_neg (by omega)])
      | 3, _ => have h8 : k < 6 := hk; left; refine ⟨?_, ?_⟩ <;> simp only [cV, mV, wI_at] <;> (repeat rw [if_neg (by omega)])
      | 4, _ => have h8 : k < 6 := hk; left; refine ⟨?_, ?_⟩ <;> simp only [cV, mV, wI_at] <;> (repeat rw [if_neg (by omega)])
      | 5, _ => have h8 : k < 8 := hk; left; refine ⟨?_, ?_⟩ <;> simp only [cV, mV, wI_at] <;> (repeat rw [if_neg (by omega)])
      | 6, _ => have h8 : k < 24 := hk; left; refine ⟨?_, ?_⟩ <;> simp only [cV, mV, wI_at] <;> (repeat rw [if_neg (by omega)])
      | 7, _ => have h8 : k < 3 := hk; left; refine ⟨?_, ?_⟩ <;> simp only [cV, mV, wI_at] <;> (repeat rw [if_neg (by omega)])
      | 8, _ => have h8 : k < 4 := hk; left; refine ⟨?_, ?_⟩ <;> simp only [cV, mV, wI_at] <;> (repeat rw [if_neg (by omega)])
      | 9, _ => have h8 : k < 4 := hk; left; refine ⟨?_, ?_⟩ <;> simp only [cV, mV, wI_at] <;> (repeat rw [if_neg (by omega)])
      | 10, _ => have h8 : k < 8 := hk; left; refine ⟨?_, ?_⟩ <;> simp only [cV, mV, wI_at] <;> (repeat rw [if_neg (by omega)])
      | 11, _ => have h8 : k < 6 := hk; left; refine ⟨?_, ?_⟩ <;> simp only [cV, mV, wI_at] <;> (repeat rw [if_neg (by omega)])
      | 12, _ => have h8 : k < 6 := hk; left; refine ⟨?_, ?_⟩ <;> simp only [cV, mV, wI_at] <;> (repeat rw [if_neg (by omega)])
    · have := zsh_many h.1 hk; simpa [cV, wI_at] using this
    · have := b_moor h.1 hk; simpa [cV, wI_at] using this
  · simp only [wI_at]
    repeat rw [if_neg (by omega)]
  · simp only [wI_at]
    repeat rw [if_neg (by omega)]

theorem s_forget (h : Inv σ) {K : Int32 → Int32 → zST → Prop} (hk : ∀ r σ', Inv σ' → K r r σ') : wp_X8_forget σ (fun r σ1 => wp_X9_forget σ1 (fun r' σ2 => K r r' σ2)) := by
  unfold wp_X8_forget wp_X9_forget
  have e1 := b_rolls h.1
  rintro _ rfl _ rfl
  simp only [wI_at]
  simp (decide := true) only [false_and, if_false, true_and, and_true, if_true]
  rw [← e1.1]
  refine hk _ _ ⟨?_, IP_fr (fun a k x => ?_) h.2.1, II_fr (fun a k x => ?_) h.2.2⟩
  · skip
    refine IB_upd h.1 (fun r k hk => ?_) (fun k hk => ?_) (fun k hk => ?_)
    · have hr := zLen13 hk
      match r, hr with
      | 0, _ =>
        match k, hk with
        | 0, _ => left; refine ⟨?_, ?_⟩ <;> simp only [cV, mV, wI_at] <;> (repeat rw [if_neg (by omega)])
        | 1, _ => left; refine ⟨?_, ?_⟩ <;> simp only [cV, mV, wI_at] <;> (repeat rw [if_neg (by omega)])
        | 2, _ => left; refine ⟨?_, ?_⟩ <;> simp only [cV, mV, wI_at] <;> (repeat rw [if_neg (by omega)])
        | 3, _ => left; refine ⟨?_, ?_⟩ <;> simp only [cV, mV, wI_at] <;> (repeat rw [if_neg (by omega)])
        | 4, _ => right; simp [cV, mV, wI_at, zLo, zHi]
        | k + 5, h5 => exact absurd h5 (by simp [zLen])
      | 1, _ => have h8 : k < 6 := hk; left; refine ⟨?_, ?_⟩ <;> simp only [cV, mV, wI_at] <;> (repeat rw [if_neg (by omega)])
      | 2, _ => have h8 : k < 6 := hk; left; refine ⟨?_, ?_⟩ <;> simp only [cV, mV, wI_at] <;> (repeat rw [if_neg (by omega)])
      | 3, _ => have h8 : k < 6 := hk; left; refine ⟨?_, ?_⟩ <;> simp only [cV, mV, wI_at] <;> (repeat rw [if_neg (by omega)])
      | 4, _ => have h8 : k < 6 := hk; left; refine ⟨?_, ?_⟩ <;> simp only [cV, mV, wI_at] <;> (repeat rw [if_neg (by omega)])
      | 5, _ => have h8 : k < 8 := hk; left; refine ⟨?_, ?_⟩ <;> simp only [cV, mV, wI_at] <;> (repeat rw [if_neg (by omega)])
      | 6, _ => have h8 : k < 24 := hk; left; refine ⟨?_, ?_⟩ <;> simp only [cV, mV, wI_at] <;> (repeat rw [if_neg (by omega)])
      | 7, _ => have h8 : k < 3 := hk; left; refine ⟨?_, ?_⟩ <;> simp only [cV, mV, wI_at] <;> (repeat rw [if_neg (by omega)])
      | 8, _ => have h8 : k < 4 := hk; left; refine ⟨?_, ?_⟩ <;> simp only [cV, mV, wI_at] <;> (repeat rw [if_neg (by omega)])
      | 9, _ => have h8 : k < 4 := hk; left; refine ⟨?_, ?_⟩ <;> simp only [cV, mV, wI_at] <;> (repeat rw [if_neg (by omega)])
      | 10, _ => have h8 : k < 8 := hk; left; refine ⟨?_, ?_⟩ <;> simp only [cV, mV, wI_at] <;> (repeat rw [if_neg (by omega)])
      | 11, _ => have h8 : k < 6 := hk; left; refine ⟨?_, ?_⟩ <;> simp only [cV, mV, wI_at] <;> (repeat rw [if_neg (by omega)])
      | 12, _ => have h8 : k < 6 := hk; left; refine ⟨?_, ?_⟩ <;> simp only [cV, mV, wI_at] <;> (repeat rw [if_neg (by omega)])
    · have := zsh_many h.1 hk; simpa [cV, wI_at] using this
    · have := b_moor h.1 hk; simpa [cV, wI_at] using this
  · simp only [wI_at]
    repeat rw [if_neg (by omega)]
  · simp only [wI_at]
    repeat rw [if_neg (by omega)]

theorem s_wipe (h : Inv σ) {K : Int32 → Int32 → zST → Prop} (hk : ∀ r σ', Inv σ' → K r r σ') : wp_X8_wipe σ (fun r σ1 => wp_X9_wipe σ1 (fun r' σ2 => K r r' σ2)) := by
  unfold wp_X8_wipe wp_X9_wipe wp_X4_clear
  have e1 := h.2.1
  rintro _ rfl _ rfl
  simp only [wI_at]
  simp (decide := true) only [false_and, if_false, true_and, and_true, if_true]
  rw [← e1.1]
  refine hk _ _ ⟨IB_fr (fun a k x => ?_) h.1, ?_, II_fr (fun a k x => ?_) h.2.2⟩
  · simp only [wI_at]
    repeat rw [if_neg (by omega)]
  · exact ⟨by simp [wI_at], by simp [wI_at], by simp [wI_at], fun k hk => by simpa [wI_at] using e1.2.2.2 k hk⟩
  · simp only [wI_at]
    repeat rw [if_neg (by omega)]

theorem s_say (h : Inv σ) {K : Int32 → Int32 → zST → Prop} (hk : ∀ r σ', Inv σ' → K r r σ') : wp_X8_say a1 σ (fun r σ1 => wp_X9_say a1 σ1 (fun r' σ2 => K r r' σ2)) := by
  unfold wp_X8_say wp_X9_say
  have e1 := h.2.1
  have e3 : 0 ≤ (σ.1 52 1).toInt := e1.2.1
  have e4 : (σ.1 52 1).toInt ≤ 60 := e1.2.2.1
  refine t_within (a := 33) (b := 126) rfl rfl (fun x1 x2 => ?_) (fun x => t_in (a := 33) (b := 126) rfl rfl (fun y1 y2 => by omega) (fun _ => hk _ _ h))
  by_cases hc : σ.1 52 1 < 60
  · rw [if_pos hc]
    have hc2 : (σ.1 52 1).toInt < 60 := Int32.lt_iff_toInt_lt.mp hc
    have hv : vp_in (σ.1 52 1) 60 := zv e1.2.1 (by omega)
    have hp : (σ.1 52 1 + 1).toInt = (σ.1 52 1).toInt + 1 := fb_addI (y := 1) (by show _ ≤ (σ.1 52 1).toInt + 1; omega) (by show (σ.1 52 1).toInt + 1 < _; omega)
    refine ⟨hv, ?_⟩
    rintro _ rfl _ rfl
    refine t_in (a := 33) (b := 126) rfl rfl (fun _ _ => ?_) (fun y => by omega)
    simp only [wI_at]
    simp (decide := true) only [false_and, if_false, true_and, and_true, if_true]
    rw [← e1.1, if_neg (fun q => by rw [q] at hc2; exact absurd hc2 (by decide))]
    refine ⟨hv, ?_⟩
    rintro _ rfl _ rfl
    simp only [wI_at]
    simp (decide := true) only [false_and, if_false, true_and, and_true, if_true]
    rw [← e1.1]
    refine hk _ _ ⟨IB_fr (fun a k x => ?_) h.1, ?_, II_fr (fun a k x => ?_) h.2.2⟩
    · simp only [wI_at]
      repeat rw [if_neg (by omega)]
    · refine ⟨by simp [wI_at], by simp [wI_at, -Int32.toInt_add]; omega, by simp [wI_at, -Int32.toInt_add]; omega, fun k hk => ?_⟩
      have := e1.2.2.2 k hk
      by_cases e : k = (σ.1 52 1).toNatClampNeg
      · simp [wI_at, e]
      · simpa [wI_at, e] using this
    · simp only [wI_at]
      repeat rw [if_neg (by omega)]
  · rw [if_neg hc]
    rw [Int32.lt_iff_toInt_lt] at hc
    have hc3 : ¬ (σ.1 52 1).toInt < 60 := hc
    refine t_in (a := 33) (b := 126) rfl rfl (fun _ _ => ?_) (fun y => by omega)
    rw [if_pos (show σ.1 69 27 = 60 from by rw [← e1.1]; apply Int32.toInt_inj.mp; show (σ.1 52 1).toInt = (60 : Int); omega)]
    exact hk _ _ h

theorem s_roll (h : Inv σ) {K : Int32 → Int32 → zST → Prop} (hk : ∀ r σ', Inv σ' → K r r σ') : wp_X8_roll a1 a2 σ (fun r σ1 => wp_X9_roll a1 a2 σ1 (fun r' σ2 => K r r' σ2)) := by
  unfold wp_X8_roll wp_X9_roll
  have e1 := b_rolls h.1
  refine t_within (a := 0) (b := 255) rfl rfl (fun x1 x2 => ?_) (fun x => t_in (a := 0) (b := 255) rfl rfl (fun y1 y2 => by omega) (fun _ => hk _ _ h))
  have ep := zpc_b x1 x2
  refine i_bitCount ?_
  refine t_within (b := 8) rfl rfl (fun x3 x4 => ?_) (fun x => t_in (a := 0) (b := 255) rfl rfl (fun _ _ => i_ones x1 x2 (t_in (a := (zpc a1).toInt) (b := 8) (by simp) rfl (fun y1 y2 => by omega) (fun _ => hk _ _ h))) (fun y => by omega))
  by_cases hc : σ.1 15 0 < 6
  · rw [if_pos hc]
    have hc2 : (σ.1 15 0).toInt < 6 := Int32.lt_iff_toInt_lt.mp hc
    have hv : vp_in (σ.1 15 0) 6 := zv e1.2.1 (by omega)
    have hcl : (σ.1 15 0).toNatClampNeg < 6 := zcl e1.2.1 (by omega)
    have hp : (σ.1 15 0 + 1).toInt = (σ.1 15 0).toInt + 1 := fb_addI (y := 1) (by show _ ≤ (σ.1 15 0).toInt + 1; omega) (by show (σ.1 15 0).toInt + 1 < _; omega)
    have hm : (a2 - zpc a1).toInt = a2.toInt - (zpc a1).toInt := fb_subI (by omega) (by omega)
    refine ⟨hv, ?_⟩
    rintro _ rfl
    refine i_bitCount ⟨?_, ?_⟩
    · simpa [wI_at] using hv
    rintro _ rfl _ rfl
    refine t_in (a := 0) (b := 255) rfl rfl (fun _ _ => ?_) (fun y => by omega)
    refine i_ones x1 x2 ?_
    refine t_in (a := (zpc a1).toInt) (b := 8) (by simp) rfl (fun _ _ => ?_) (fun y => by omega)
    simp only [wI_at]
    simp (decide := true) only [false_and, if_false, true_and, and_true, if_true]
    rw [← e1.1, if_neg (fun q => by rw [q] at hc2; exact absurd hc2 (by decide))]
    refine ⟨hv, ?_⟩
    rintro _ rfl
    simp only [wI_at]
    simp (decide := true) only [false_and, if_false, true_and, and_true, if_true]
    rw [← e1.1]
    refine ⟨hv, ?_⟩
    rintro _ rfl _ rfl
    simp only [wI_at]
    simp (decide := true) only [false_and, if_false, true_and, and_true, if_true]
    rw [← e1.1]
    refine hk _ _ ⟨?_, IP_fr (fun a k x => ?_) h.2.1, II_fr (fun a k x => ?_) h.2.2⟩
    · skip
      refine IB_upd h.1 (fun r k hk => ?_) (fun k hk => ?_) (fun k hk => ?_)
      · have hr := zLen13 hk
        match r, hr with
        | 0, _ =>
          match k, hk with
          | 0, _ => left; refine ⟨?_, ?_⟩ <;> simp only [cV, mV, wI_at] <;> (repeat rw [if_neg (by omega)])
          | 1, _ => left; refine ⟨?_, ?_⟩ <;> simp only [cV, mV, wI_at] <;> (repeat rw [if_neg (by omega)])
          | 2, _ => left; refine ⟨?_, ?_⟩ <;> simp only [cV, mV, wI_at] <;> (repeat rw [if_neg (by omega)])
          | 3, _ => left; refine ⟨?_, ?_⟩ <;> simp only [cV, mV, wI_at] <;> (repeat rw [if_neg (by omega)])
          | 4, _ => right; simp [cV, mV, wI_at, zLo, zHi, -Int32.toInt_add]; omega
          | k + 5, h5 => exact absurd h5 (by simp [zLen])
        | 1, _ => have h8 : k < 6 := hk; left; refine ⟨?_, ?_⟩ <;> simp only [cV, mV, wI_at] <;> (repeat rw [if_neg (by omega)])
        | 2, _ => have h8 : k < 6 := hk; left; refine ⟨?_, ?_⟩ <;> simp only [cV, mV, wI_at] <;> (repeat rw [if_neg (by omega)])
        | 3, _ => have h8 : k < 6 := hk; left; refine ⟨?_, ?_⟩ <;> simp only [cV, mV, wI_at] <;> (repeat rw [if_neg (by omega)])
        | 4, _ => have h8 : k < 6 := hk; left; refine ⟨?_, ?_⟩ <;> simp only [cV, mV, wI_at] <;> (repeat rw [if_neg (by omega)])
        | 5, _ => have h8 : k < 8 := hk; left; refine ⟨?_, ?_⟩ <;> simp only [cV, mV, wI_at] <;> (repeat rw [if_neg (by omega)])
        | 6, _ => have h8 : k < 24 := hk; left; refine ⟨?_, ?_⟩ <;> simp only [cV, mV, wI_at] <;> (repeat rw [if_neg (by omega)])
        | 7, _ => have h8 : k < 3 := hk; left; refine ⟨?_, ?_⟩ <;> simp only [cV, mV, wI_at] <;> (repeat rw [if_neg (by omega)])
        | 8, _ => have h8 : k < 4 := hk; left; refine ⟨?_, ?_⟩ <;> simp only [cV, mV, wI_at] <;> (repeat rw [if_neg (by omega)])
        | 9, _ => have h8 : k < 4 := hk; left; refine ⟨?_, ?_⟩ <;> simp only [cV, mV, wI_at] <;> (repeat rw [if_neg (by omega)])
        | 10, _ => have h8 : k < 8 := hk; left; refine ⟨?_, ?_⟩ <;> simp only [cV, mV, wI_at] <;> (repeat rw [if_neg (by omega)])
        | 11, _ =>
          by_cases e : k = (σ.1 15 0).toNatClampNeg
          · right; simp [cV, mV, wI_at, zLo, zHi, e, -Int32.toInt_sub]; omega
          · left; refine ⟨?_, ?_⟩ <;> simp only [cV, mV, wI_at] <;> (repeat rw [if_neg (by omega)])
        | 12, _ =>
          by_cases e : k = (σ.1 15 0).toNatClampNeg
          · right; simp [cV, mV, wI_at, zLo, zHi, e, -Int32.toInt_sub]; omega
          · left; refine ⟨?_, ?_⟩ <;> simp only [cV, mV, wI_at] <;> (repeat rw [if_neg (by omega)])
      · by_cases e : k = (σ.1 15 0).toNatClampNeg
        · simp [cV, wI_at, e, -Int32.toInt_sub]; omega
        · have := zsh_many h.1 hk; simpa [cV, wI_at, e] using this
      · have := b_moor h.1 hk; simpa [cV, wI_at] using this
    · simp only [wI_at]
      repeat rw [if_neg (by omega)]
    · simp only [wI_at]
      repeat rw [if_neg (by omega)]
  · rw [if_neg hc]
    rw [Int32.lt_iff_toInt_lt] at hc
    have hc3 : ¬ (σ.1 15 0).toInt < 6 := hc
    refine t_in (a := 0) (b := 255) rfl rfl (fun _ _ => ?_) (fun y => by omega)
    refine i_ones x1 x2 ?_
    refine t_in (a := (zpc a1).toInt) (b := 8) (by simp) rfl (fun _ _ => ?_) (fun y => by omega)
    rw [if_pos (show σ.1 69 25 = 6 from by rw [← e1.1]; apply Int32.toInt_inj.mp; show (σ.1 15 0).toInt = (6 : Int); omega)]
    exact hk _ _ h

end S
end
section
/-! digits, what the sides take, means, worsts, choices -/
theorem zmodb {p d : Int32} (h0 : 0 ≤ p.toInt) (h1 : 1 ≤ d.toInt) : 0 ≤ (p - p / d * d).toInt ∧ (p - p / d * d).toInt < d.toInt ∧ (p - p / d * d).toInt = p.toInt % d.toInt := by
  have q1 := fb_rng p
  have q2 := fb_rng d
  obtain ⟨n, hn, rfl, en⟩ := zN (x := p) (h := 2147483647) h0 (by omega)
  obtain ⟨m, hm, rfl, em⟩ := zN (x := d) (h := 2147483647) (by omega) (by omega)
  rw [pk_rem (by omega) (by omega) (by omega)]
  have hlt : n % m < m := Nat.mod_lt _ (by omega)
  rw [nI_toInt (by omega), en, em]
  refine ⟨by omega, by omega, by omega⟩
abbrev zmo (p d : Int32) : Int32 := p - p / d * d
def zdg (σ : zST) (a : Nat) (p : Int32) : Int32 := σ.1 (a + 6) (zmo p (σ.1 a 7)).toNatClampNeg
theorem i_digitAt {a : Nat} {p : Int32} {σ : zST} {P : Int32 → Prop} (h0 : 0 ≤ p.toInt) (h1 : 1 ≤ (σ.1 a 7).toInt) (h2 : (σ.1 a 7).toInt ≤ 24) (h : P (zdg σ a p)) : wp_X6_digitAt a p σ P := by
  unfold wp_X6_digitAt
  rw [if_neg (by rw [Int32.lt_iff_toInt_lt]; show ¬ p.toInt < 0; omega)]
  refine t_within (a := 1) (b := 24) rfl rfl (fun _ _ => ⟨fun q => ?_, ?_, h⟩) (fun y => by omega)
  · rw [q] at h1; exact absurd h1 (by decide)
  · have := zmodb h0 h1
    exact zv this.1 (by omega)
theorem zdg_b {σ : zST} (h : IB σ) {p : Int32} (h0 : 0 ≤ p.toInt) : zdg σ 2 p = σ.1 74 (zmo p (σ.1 69 14)).toNatClampNeg ∧ 0 ≤ (zdg σ 2 p).toInt ∧ (zdg σ 2 p).toInt ≤ 9 := by
  have e1 := b_digits h
  have := zmodb h0 e1.2.1
  have e2 := b_tenths h (k := (zmo p (σ.1 2 7)).toNatClampNeg) (zcl (x := zmo p (σ.1 2 7)) this.1 (Int.lt_of_lt_of_le this.2.1 (by omega)))
  refine ⟨?_, e2.2⟩
  rw [← e1.1]
  exact e2.1
theorem i_tenths {p : Int32} {σ : zST} {P : Int32 → Prop} (hI : IB σ) (h0 : 0 ≤ p.toInt) (h : P (zdg σ 2 p)) : wp_X9_tenths p σ P := by
  have e1 := b_digits hI
  have e2 := zdg_b hI h0
  have := zmodb (d := σ.1 69 14) h0 (by rw [← e1.1]; omega)
  refine ⟨fun q => ?_, zv this.1 (by rw [← e1.1] at this ⊢; omega), ?_⟩
  · rw [q] at e1; exact absurd e1.2.1 (by rw [e1.1]; decide)
  · rw [e2.1] at h; exact h
def qT (σ : zST) (a k : Nat) : Int32 := if (if (0 : Int32) < σ.1 (a + 5) 0 - σ.1 (a + 3) k then σ.1 (a + 5) 0 - σ.1 (a + 3) k else 0) < σ.1 (a + 2) k then (if (0 : Int32) < σ.1 (a + 5) 0 - σ.1 (a + 3) k then σ.1 (a + 5) 0 - σ.1 (a + 3) k else 0) else σ.1 (a + 2) k
def qL (σ : zST) (a k : Nat) : Int32 := σ.1 (a + 5) 1 * qT σ a k + if qT σ a k = σ.1 (a + 2) k then σ.1 (a + 4) k else 0
def qW (σ : zST) (a k : Nat) : Int32 := σ.1 (a + 5) 1 * σ.1 (a + 2) k + σ.1 (a + 4) k
def qF (σ : zST) (a k : Nat) : Int32 := σ.1 (a + 5) 2 * σ.1 (a + 5) 3 * σ.1 (a + 2) k
def qM (σ : zST) (a k : Nat) (sd h : Int32) : Int32 := if sd = 1 then zdg σ a h * qW σ a k else if sd = 0 then 10 * qL σ a k else 10 * qF σ a k
def qX (σ : zST) (a k : Nat) (sd h : Int32) : Int32 := if sd = 1 then (if zdg σ a h ≤ 0 then 0 else qW σ a k) else if sd = 0 then qL σ a k else qF σ a k
def qO (σ : zST) (a k : Nat) (h : Int32) : Int32 := if qM σ a k (if qM σ a k 0 h ≤ qM σ a k 1 h then 0 else 1) h ≤ qM σ a k 2 h then (if qM σ a k 0 h ≤ qM σ a k 1 h then 0 else 1) else 2
section Q
variable {a : Nat} {p sd hr : Int32} {σ : zST} {P : Int32 → Prop}
theorem i_menToTeeth (hv : vp_in p 6) (h : P (qT σ a p.toNatClampNeg)) : wp_X6_menToTeeth a p σ P := ⟨hv, hv, h⟩
theorem i_lostToTeeth (hv : vp_in p 6) (h : P (qL σ a p.toNatClampNeg)) : wp_X6_lostToTeeth a p σ P := by
  refine i_menToTeeth hv ⟨hv, ?_, ?_⟩
  · split
    · exact ⟨hv, trivial⟩
    · trivial
  · intro z hz
    subst hz
    exact h
theorem i_whole (hv : vp_in p 6) (h : P (qW σ a p.toNatClampNeg)) : wp_X6_whole a p σ P := ⟨hv, hv, h⟩
theorem i_fare (hv : vp_in p 6) (h : P (qF σ a p.toNatClampNeg)) : wp_X6_fare a p σ P := ⟨hv, h⟩
theorem i_meanBy (hv : vp_in p 6) (h0 : 0 ≤ hr.toInt) (h1 : 1 ≤ (σ.1 a 7).toInt) (h2 : (σ.1 a 7).toInt ≤ 24) (h : P (qM σ a p.toNatClampNeg sd hr)) : wp_X6_meanBy a p sd hr σ P := by
  unfold wp_X6_meanBy
  unfold qM at h
  by_cases c1 : sd = 1
  · rw [if_pos c1] at h ⊢
    exact i_digitAt h0 h1 h2 (i_whole hv h)
  · rw [if_neg c1] at h ⊢
    by_cases c2 : sd = 0
    · rw [if_pos c2] at h ⊢
      exact i_lostToTeeth hv h
    · rw [if_neg c2] at h ⊢
      exact i_fare hv h
theorem i_worstBy (hv : vp_in p 6) (h0 : 0 ≤ hr.toInt) (h1 : 1 ≤ (σ.1 a 7).toInt) (h2 : (σ.1 a 7).toInt ≤ 24) (h : P (qX σ a p.toNatClampNeg sd hr)) : wp_X6_worstBy a p sd hr σ P := by
  unfold wp_X6_worstBy
  unfold qX at h
  by_cases c1 : sd = 1
  · rw [if_pos c1] at h ⊢
    refine i_digitAt h0 h1 h2 ?_
    by_cases c3 : zdg σ a hr ≤ 0
    · rw [if_pos c3] at h ⊢
      exact h
    · rw [if_neg c3] at h ⊢
      exact i_whole hv h
  · rw [if_neg c1] at h ⊢
    by_cases c2 : sd = 0
    · rw [if_pos c2] at h ⊢
      exact i_lostToTeeth hv h
    · rw [if_neg c2] at h ⊢
      exact i_fare hv h
theorem i_ownersSide (hv : vp_in p 6) (h0 : 0 ≤ hr.toInt) (h1 : 1 ≤ (σ.1 a 7).toInt) (h2 : (σ.1 a 7).toInt ≤ 24) (h : P (qO σ a p.toNatClampNeg hr)) : wp_X6_ownersSide a p hr σ P := by
  refine ⟨3, ?_⟩
  unfold wp_X6_ownersSide_L5
  rw [if_neg (by decide)]
  refine i_meanBy hv h0 h1 h2 (i_meanBy hv h0 h1 h2 ?_)
  have k2 : ∀ b : Int32, P (if qM σ a p.toNatClampNeg b hr ≤ qM σ a p.toNatClampNeg 2 hr then b else 2) → wp_X6_ownersSide_L5 a p hr σ P 2 b (1 + 1) := by
    intro b hb
    unfold wp_X6_ownersSide_L5
    rw [if_neg (by decide)]
    refine i_meanBy hv h0 h1 h2 (i_meanBy hv h0 h1 h2 ?_)
    by_cases c : qM σ a p.toNatClampNeg b hr ≤ qM σ a p.toNatClampNeg 2 hr
    · rw [if_pos c] at hb
      rw [if_pos (show qM σ a p.toNatClampNeg b hr ≤ qM σ a p.toNatClampNeg (1 + 1) hr from c)]
      unfold wp_X6_ownersSide_L5
      rw [if_pos (by decide)]
      exact hb
    · rw [if_neg c] at hb
      rw [if_neg (show ¬ qM σ a p.toNatClampNeg b hr ≤ qM σ a p.toNatClampNeg (1 + 1) hr from c)]
      unfold wp_X6_ownersSide_L5
      rw [if_pos (by decide)]
      exact hb
  unfold qO at h
  by_cases c : qM σ a p.toNatClampNeg 0 hr ≤ qM σ a p.toNatClampNeg 1 hr
  · rw [if_pos c] at h ⊢
    exact k2 0 h
  · rw [if_neg c] at h ⊢
    exact k2 1 h
theorem i_leastMean (hv : vp_in p 6) (h0 : 0 ≤ hr.toInt) (h1 : 1 ≤ (σ.1 a 7).toInt) (h2 : (σ.1 a 7).toInt ≤ 24) (h : P (qM σ a p.toNatClampNeg (qO σ a p.toNatClampNeg hr) hr)) : wp_X6_leastMean a p hr σ P :=
  i_ownersSide hv h0 h1 h2 (i_meanBy hv h0 h1 h2 h)
/-! the reference's, over the same numbers -/
theorem zsubT (hI : IB σ) {k : Nat} (hk : k < 6) : (σ.1 7 0 - σ.1 5 k).toInt = (σ.1 7 0).toInt - (σ.1 5 k).toInt := by
  have e1 := (b_terms hI (k := 0) (by omega)).2
  have e2 := (b_straw hI hk).2
  have e3 : (σ.1 7 0).toInt ≤ 9 := e1.2
  have e4 : 1 ≤ (σ.1 7 0).toInt := e1.1
  exact fb_subI (by omega) (by omega)
theorem i_lostByTeeth (hI : IB σ) (h0 : 0 ≤ p.toInt) (h1 : p.toInt ≤ 5) (h : P (qT σ 2 p.toNatClampNeg)) : wp_X9_lostByTeeth p σ P := by
  have hv : vp_in p 6 := zv h0 (by omega)
  have hk : p.toNatClampNeg < 6 := zcl h0 (by omega)
  have e1 : σ.1 7 0 = σ.1 69 5 := (b_terms hI (k := 0) (by omega)).1
  have e2 := (b_straw hI hk).1
  have e3 := (b_men hI hk).1
  have e4 := zsubT hI hk
  refine ⟨hv, ?_, fun z hz => ⟨hv, ?_, fun w hw => ?_⟩⟩
  · split
    · trivial
    · exact ⟨hv, trivial⟩
  · split
    · exact ⟨hv, trivial⟩
    · trivial
  · subst hw hz
    rw [← e1, ← e2, ← e3]
    have hz : (if σ.1 7 0 ≤ σ.1 5 p.toNatClampNeg then (0 : Int32) else σ.1 7 0 - σ.1 5 p.toNatClampNeg) = if (0 : Int32) < σ.1 7 0 - σ.1 5 p.toNatClampNeg then σ.1 7 0 - σ.1 5 p.toNatClampNeg else 0 := by
      by_cases c : σ.1 7 0 ≤ σ.1 5 p.toNatClampNeg
      · rw [if_pos c, if_neg]
        rw [Int32.lt_iff_toInt_lt, e4]
        rw [Int32.le_iff_toInt_le] at c
        show ¬ 0 < _
        omega
      · rw [if_neg c, if_pos]
        rw [Int32.lt_iff_toInt_lt, e4]
        rw [Int32.le_iff_toInt_le] at c
        show 0 < _
        omega
    rw [hz]
    unfold qT at h
    by_cases c : (if (0 : Int32) < σ.1 7 0 - σ.1 5 p.toNatClampNeg then σ.1 7 0 - σ.1 5 p.toNatClampNeg else 0) < σ.1 4 p.toNatClampNeg
    · rw [if_pos c] at h
      rw [if_neg (by rw [Int32.not_le]; exact c)]
      exact h
    · rw [if_neg c] at h
      rw [if_pos (Int32.not_lt.mp c)]
      exact h
theorem i_teethTake (hI : IB σ) (h0 : 0 ≤ p.toInt) (h1 : p.toInt ≤ 5) (h : P (qL σ 2 p.toNatClampNeg)) : wp_X9_teethTake p σ P := by
  have hv : vp_in p 6 := zv h0 (by omega)
  have hk : p.toNatClampNeg < 6 := zcl h0 (by omega)
  have e1 : σ.1 7 1 = σ.1 69 6 := (b_terms hI (k := 1) (by omega)).1
  have e3 := (b_men hI hk).1
  have e4 := (b_cargo hI hk).1
  refine i_lostByTeeth hI h0 h1 ⟨hv, ?_, ?_⟩
  · split
    · exact ⟨hv, trivial⟩
    · trivial
  · intro z hz
    subst hz
    rw [← e1, ← e3, ← e4]
    exact h
theorem i_allOf (hI : IB σ) (h0 : 0 ≤ p.toInt) (h1 : p.toInt ≤ 5) (h : P (qW σ 2 p.toNatClampNeg)) : wp_X9_allOf p σ P := by
  have hv : vp_in p 6 := zv h0 (by omega)
  have hk : p.toNatClampNeg < 6 := zcl h0 (by omega)
  have e1 : σ.1 7 1 = σ.1 69 6 := (b_terms hI (k := 1) (by omega)).1
  have e3 := (b_men hI hk).1
  have e4 := (b_cargo hI hk).1
  refine ⟨hv, hv, ?_⟩
  rw [← e1, ← e3, ← e4]
  exact h
theorem i_meanOf (hI : IB σ) (h0 : 0 ≤ p.toInt) (h1 : p.toInt ≤ 5) (hh : 0 ≤ hr.toInt) (h : P (qM σ 2 p.toNatClampNeg sd hr)) : wp_X9_meanOf p sd hr σ P := by
  have hv : vp_in p 6 := zv h0 (by omega)
  have hk : p.toNatClampNeg < 6 := zcl h0 (by omega)
  unfold wp_X9_meanOf
  unfold qM at h
  by_cases c2 : sd = 0
  · rw [if_pos c2]
    rw [if_neg (by rw [c2]; decide), if_pos c2] at h
    exact i_teethTake hI h0 h1 h
  · rw [if_neg c2]
    by_cases c1 : sd = 1
    · rw [if_pos c1] at h ⊢
      exact i_tenths hI hh (i_allOf hI h0 h1 h)
    · rw [if_neg c1] at h ⊢
      rw [if_neg c2] at h
      have e1 : σ.1 7 2 = σ.1 69 7 := (b_terms hI (k := 2) (by omega)).1
      have e2 : σ.1 7 3 = σ.1 69 8 := (b_terms hI (k := 3) (by omega)).1
      have e3 := (b_men hI hk).1
      refine ⟨hv, ?_⟩
      rw [← e1, ← e2, ← e3, Int32.mul_assoc, Int32.mul_assoc]
      unfold qF at h
      rw [Int32.mul_assoc] at h
      exact h
theorem i_worstOf (hI : IB σ) (h0 : 0 ≤ p.toInt) (h1 : p.toInt ≤ 5) (hh : 0 ≤ hr.toInt) (h : P (qX σ 2 p.toNatClampNeg sd hr)) : wp_X9_worstOf p sd hr σ P := by
  have hv : vp_in p 6 := zv h0 (by omega)
  have hk : p.toNatClampNeg < 6 := zcl h0 (by omega)
  unfold wp_X9_worstOf
  unfold qX at h
  by_cases c2 : sd = 0
  · rw [if_pos c2]
    rw [if_neg (by rw [c2]; decide), if_pos c2] at h
    exact i_teethTake hI h0 h1 h
  · rw [if_neg c2]
    by_cases c1 : sd = 1
    · rw [if_pos c1] at h ⊢
      refine i_tenths hI hh ?_
      by_cases c3 : zdg σ 2 hr ≤ 0
      · rw [if_pos c3] at h ⊢
        exact h
      · rw [if_neg c3] at h ⊢
        exact i_allOf hI h0 h1 h
    · rw [if_neg c1] at h ⊢
      rw [if_neg c2] at h
      have e1 : σ.1 7 2 = σ.1 69 7 := (b_terms hI (k := 2) (by omega)).1
      have e2 : σ.1 7 3 = σ.1 69 8 := (b_terms hI (k := 3) (by omega)).1
      have e3 := (b_men hI hk).1
      refine ⟨hv, ?_⟩
      rw [← e1, ← e2, ← e3]
      exact h
theorem i_choiceOf (hI : IB σ) (h0 : 0 ≤ p.toInt) (h1 : p.toInt ≤ 5) (hh : 0 ≤ hr.toInt) (h : P (qO σ 2 p.toNatClampNeg hr)) : wp_X9_choiceOf p hr σ P := by
  refine ⟨3, ?_⟩
  unfold wp_X9_choiceOf_L5
  rw [if_neg (by decide)]
  refine i_meanOf hI h0 h1 hh (i_meanOf hI h0 h1 hh ?_)
  rintro _ rfl
  unfold wp_X9_choiceOf_L5
  rw [if_neg (by decide)]
  refine i_meanOf hI h0 h1 hh (i_meanOf hI h0 h1 hh ?_)
  rintro _ rfl
  unfold wp_X9_choiceOf_L5
  rw [if_pos (by decide)]
  exact h
end Q
section S
variable {σ : zST} {a1 a2 a3 a4 a5 : Int32}
theorem s_mean (h : Inv σ) {K : Int32 → Int32 → Prop} (hk : ∀ r, K r r) : wp_X8_mean a1 a2 a3 σ (fun r => wp_X9_mean a1 a2 a3 σ (fun r' => K r r')) := by
  unfold wp_X8_mean wp_X9_mean
  have e1 := b_ships h.1
  have e2 := (b_digits h.1).2
  refine t_has rfl (fun x1 x2 x3 => ?_) (fun x => t_isShip e1.1.symm (fun y1 y2 y3 => absurd ⟨y1, y2, y3⟩ x) (fun _ => hk _))
  refine t_within (a := 0) (b := 2) rfl rfl (fun x4 x5 => ?_) (fun x => t_isShip e1.1.symm (fun _ _ _ => t_isSide (fun y1 y2 => by omega) (fun _ => hk _)) (fun y => absurd ⟨x1, x2, x3⟩ y))
  refine t_isHour8 (fun x6 x7 => ?_) (fun x => t_isShip e1.1.symm (fun _ _ _ => t_isSide (fun _ _ => t_isHour (fun y1 y2 => by omega) (fun _ => hk _)) (fun y => by omega)) (fun y => absurd ⟨x1, x2, x3⟩ y))
  refine i_meanBy (zv x1 (by omega)) x6 e2.1 e2.2 ?_
  refine t_isShip e1.1.symm (fun _ _ _ => ?_) (fun y => absurd ⟨x1, x2, x3⟩ y)
  refine t_isSide (fun _ _ => ?_) (fun y => by omega)
  refine t_isHour (fun _ _ => ?_) (fun y => by omega)
  exact i_meanOf h.1 x1 x2 x6 (hk _)
theorem s_worst (h : Inv σ) {K : Int32 → Int32 → Prop} (hk : ∀ r, K r r) : wp_X8_worst a1 a2 a3 σ (fun r => wp_X9_worst a1 a2 a3 σ (fun r' => K r r')) := by
  unfold wp_X8_worst wp_X9_worst
  have e1 := b_ships h.1
  have e2 := (b_digits h.1).2
  refine t_has rfl (fun x1 x2 x3 => ?_) (fun x => t_isShip e1.1.symm (fun y1 y2 y3 => absurd ⟨y1, y2, y3⟩ x) (fun _ => hk _))
  refine t_within (a := 0) (b := 2) rfl rfl (fun x4 x5 => ?_) (fun x => t_isShip e1.1.symm (fun _ _ _ => t_isSide (fun y1 y2 => by omega) (fun _ => hk _)) (fun y => absurd ⟨x1, x2, x3⟩ y))
  refine t_isHour8 (fun x6 x7 => ?_) (fun x => t_isShip e1.1.symm (fun _ _ _ => t_isSide (fun _ _ => t_isHour (fun y1 y2 => by omega) (fun _ => hk _)) (fun y => by omega)) (fun y => absurd ⟨x1, x2, x3⟩ y))
  refine i_worstBy (zv x1 (by omega)) x6 e2.1 e2.2 ?_
  refine t_isShip e1.1.symm (fun _ _ _ => ?_) (fun y => absurd ⟨x1, x2, x3⟩ y)
  refine t_isSide (fun _ _ => ?_) (fun y => by omega)
  refine t_isHour (fun _ _ => ?_) (fun y => by omega)
  exact i_worstOf h.1 x1 x2 x6 (hk _)
theorem i_refusalOf {P : Int32 → Prop} (h1 : 0 ≤ a1.toInt → a1.toInt ≤ 5 → zH (σ.1 2 0) a1 → 0 ≤ a2.toInt → a2.toInt ≤ 999 → P 0) (h2 : 0 ≤ a1.toInt → a1.toInt ≤ 5 → zH (σ.1 2 0) a1 → a2.toInt < 0 ∨ 999 < a2.toInt → P (-2)) (h3 : ¬ (0 ≤ a1.toInt ∧ a1.toInt ≤ 5 ∧ zH (σ.1 2 0) a1) → P (-1)) : wp_X8_refusalOf a1 a2 σ P := by
  unfold wp_X8_refusalOf
  refine t_has rfl (fun x1 x2 x3 => ?_) (fun x => h3 x)
  refine i_within (a := 0) (b := 999) rfl rfl (fun x y => ⟨zB1, ?_⟩) (fun x => ⟨zB0, ?_⟩)
  · rintro _ rfl
    rw [if_neg (by decide)]
    exact h1 x1 x2 x3 x y
  · rintro _ rfl
    rw [if_pos rfl]
    exact h2 x1 x2 x3 x
theorem s_choice (h : Inv σ) {K : Int32 → Int32 → Prop} (hk : ∀ r, K r r) : wp_X8_choice a1 a2 σ (fun r => wp_X9_choice a1 a2 σ (fun r' => K r r')) := by
  unfold wp_X8_choice wp_X9_choice
  have e1 := b_ships h.1
  have e2 := (b_digits h.1).2
  refine i_refusalOf (fun x1 x2 x3 x4 x5 => ?_) (fun x1 x2 x3 x => ?_) (fun x => ?_)
  · rw [if_pos rfl]
    refine i_ownersSide (zv x1 (by omega)) x4 e2.1 e2.2 ?_
    refine t_isShip e1.1.symm (fun _ _ _ => ?_) (fun y => absurd ⟨x1, x2, x3⟩ y)
    refine t_isHour (fun _ _ => ?_) (fun y => by omega)
    exact i_choiceOf h.1 x1 x2 x4 (hk _)
  · rw [if_neg (by decide)]
    refine t_isShip e1.1.symm (fun _ _ _ => ?_) (fun y => absurd ⟨x1, x2, x3⟩ y)
    exact t_isHour (fun _ _ => by omega) (fun _ => hk _)
  · rw [if_neg (by decide)]
    exact t_isShip e1.1.symm (fun y1 y2 y3 => absurd ⟨y1, y2, y3⟩ x) (fun _ => hk _)
theorem s_sum (h : Inv σ) {K : Int32 → Int32 → Prop} (hk : ∀ r, K r r) : wp_X8_sum a1 σ (fun r => wp_X9_sum a1 σ (fun r' => K r r')) := by
  unfold wp_X8_sum wp_X9_sum
  refine i_within (a := 0) (b := 2) rfl rfl (fun x1 x2 => ⟨?_, ?_⟩) (fun x => ⟨?_, ?_⟩)
  · rw [if_neg (by decide)]
    exact ⟨zv x1 (by omega), trivial⟩
  · rintro _ rfl _ rfl
    rw [if_neg (by decide)]
    have e0 : σ.1 9 0 = σ.1 69 15 := b_sums h.1 (k := 0) (by omega)
    have e1 : σ.1 9 1 = σ.1 69 16 := b_sums h.1 (k := 1) (by omega)
    have e2 : σ.1 9 2 = σ.1 69 17 := b_sums h.1 (k := 2) (by omega)
    rw [← e0, ← e1, ← e2]
    rcases zS3 x1 x2 with rfl | rfl | rfl
    · exact hk _
    · exact hk _
    · exact hk _
  · rw [if_pos rfl]; trivial
  · rintro _ rfl _ rfl
    rw [if_pos rfl, if_neg, if_neg, if_neg]
    · exact hk _
    all_goals (rintro rfl; revert x; decide)
theorem s_state (h : Inv σ) {K : Int32 → Int32 → Prop} (hk : ∀ r, K r r) : wp_X8_state a1 a2 σ (fun r => wp_X9_state a1 a2 σ (fun r' => K r r')) := by
  unfold wp_X8_state wp_X9_state
  have e1 := b_ships h.1
  refine t_has rfl (fun x1 x2 x3 => ?_) (fun x => t_isShip e1.1.symm (fun y1 y2 y3 => absurd ⟨y1, y2, y3⟩ x) (fun _ => hk _))
  refine t_within (a := 0) (b := 2) rfl rfl (fun x4 x5 => ?_) (fun x => t_isShip e1.1.symm (fun _ _ _ => t_in (a := 0) (b := 2) rfl rfl (fun y1 y2 => by omega) (fun _ => hk _)) (fun y => absurd ⟨x1, x2, x3⟩ y))
  have hv : vp_in a1 6 := zv x1 (by omega)
  have hc : a1.toNatClampNeg < 6 := zcl x1 (by omega)
  have e3 := (b_where h.1 hc).1
  have e4 := (b_men h.1 hc).1
  have e5 := (b_straw h.1 hc).1
  have k9 : ∀ r : Int32, (r = if a2 = 0 then σ.1 3 a1.toNatClampNeg else if a2 = 1 then σ.1 4 a1.toNatClampNeg else σ.1 5 a1.toNatClampNeg) → wp_X9_isShip a1 σ (fun r1 => (if r1 = (0) then K r (-1 : Int32) else wp_X9_in (a2.toInt64) (0 : Int64) (2 : Int64) σ (fun r4 => (if r4 = (0) then K r (-2 : Int32) else wp_X9_stateOf a1 a2 σ (fun r7 => K r r7))))) := by
    rintro r rfl
    refine t_isShip e1.1.symm (fun _ _ _ => ?_) (fun y => absurd ⟨x1, x2, x3⟩ y)
    refine t_in (a := 0) (b := 2) rfl rfl (fun _ _ => ?_) (fun y => by omega)
    refine ⟨?_, ?_⟩
    · split
      · exact ⟨hv, trivial⟩
      · split <;> exact ⟨hv, trivial⟩
    · rintro _ rfl
      rw [← e3, ← e4, ← e5]
      exact hk _
  unfold wp_X6_look
  by_cases c : a2 = 0
  · rw [if_pos c]
    exact ⟨hv, k9 _ (by rw [if_pos c])⟩
  · rw [if_neg c]
    refine ⟨?_, ?_⟩
    · split <;> exact ⟨hv, trivial⟩
    · rintro _ rfl
      exact k9 _ (by rw [if_neg c])
end S
end
section
/-! told, set, captains, years, held -/
section S
variable {σ : zST} {a1 a2 a3 a4 a5 p : Int32}
theorem zsubc (x : Int32) (c : Int32) {n : Int} (hc : c.toInt = n) (h0 : 0 ≤ n) (h1 : n ≤ 1000) (h2 : 0 ≤ x.toInt) : (x - c).toInt = x.toInt - n := by
  have := fb_rng x
  rw [← hc] at h0 h1 ⊢
  exact fb_subI (by omega) (by omega)
theorem i_toldSet {P : Int32 → Prop} (h0 : 0 ≤ p.toInt) (h1 : p.toInt ≤ 7) (h : P (σ.1 69 (5 + p.toNatClampNeg))) : wp_X9_toldSet p σ P := by
  unfold wp_X9_toldSet
  rcases zS8 h0 h1 with rfl | rfl | rfl | rfl | rfl | rfl | rfl | rfl <;> exact h
theorem s_told (h : Inv σ) {K : Int32 → Int32 → Prop} (hk : ∀ r, K r r) : wp_X8_told a1 σ (fun r => wp_X9_told a1 σ (fun r' => K r r')) := by
  unfold wp_X8_told wp_X9_told
  have e1 := b_ships h.1
  have e2 := b_names h.1
  have e3 := b_digits h.1
  refine t_within (a := 2) (b := 9) rfl rfl (fun x1 x2 => ?_) (fun x => ?_)
  · have q := zsubc a1 2 (n := 2) rfl (by omega) (by omega) (by omega)
    refine ⟨zv (by omega) (by omega), ?_⟩
    refine t_in (a := 2) (b := 9) rfl rfl (fun _ _ => ?_) (fun y => by omega)
    have hc : (a1 - 2).toNatClampNeg < 8 := zcl (by omega) (by omega)
    have := (b_terms h.1 hc).1
    rw [this]
    exact i_toldSet (by omega) (by omega) (hk _)
  refine t_within (a := 20) (b := 27) rfl rfl (fun x1 x2 => ?_) (fun xx => ?_)
  · have q := zsubc a1 20 (n := 20) rfl (by omega) (by omega) (by omega)
    have hv : vp_in (a1 - 20) 8 := zv (by omega) (by omega)
    have hc : (a1 - 20).toNatClampNeg < 8 := zcl (by omega) (by omega)
    have e4 := (b_drawn h.1 hc).1
    refine i_has8 rfl (fun y1 y2 y3 => ⟨?_, ?_⟩) (fun y => ⟨?_, ?_⟩)
    · rw [if_neg (by decide)]; exact ⟨hv, trivial⟩
    · rintro _ rfl
      refine t_in (a := 2) (b := 9) rfl rfl (fun _ _ => by omega) (fun _ => ?_)
      refine t_in (a := 20) (b := 27) rfl rfl (fun _ _ => ?_) (fun y => by omega)
      refine i_isAboard e2.1.symm (fun _ _ _ => ⟨?_, ?_⟩) (fun z => absurd ⟨y1, y2, y3⟩ z)
      · rw [if_neg (by decide)]; exact ⟨hv, trivial⟩
      · rintro _ rfl
        rw [if_neg (by decide), if_neg (by decide), e4]
        exact hk _
    · rw [if_pos rfl]; trivial
    · rintro _ rfl
      refine t_in (a := 2) (b := 9) rfl rfl (fun _ _ => by omega) (fun _ => ?_)
      refine t_in (a := 20) (b := 27) rfl rfl (fun _ _ => ?_) (fun y => by omega)
      refine i_isAboard e2.1.symm (fun z1 z2 z3 => absurd ⟨z1, z2, z3⟩ y) (fun z => ⟨?_, ?_⟩)
      · rw [if_pos rfl]; trivial
      · rintro _ rfl
        rw [if_pos rfl, if_pos rfl]
        exact hk _
  refine t_within (a := 30) (b := 35) rfl rfl (fun x1 x2 => ?_) (fun xxx => ?_)
  · have q := zsubc a1 30 (n := 30) rfl (by omega) (by omega) (by omega)
    have hv : vp_in (a1 - 30) 6 := zv (by omega) (by omega)
    have hc : (a1 - 30).toNatClampNeg < 6 := zcl (by omega) (by omega)
    have e4 := (b_cargo h.1 hc).1
    refine i_has rfl (fun y1 y2 y3 => ⟨?_, ?_⟩) (fun y => ⟨?_, ?_⟩)
    · rw [if_neg (by decide)]; exact ⟨hv, trivial⟩
    · rintro _ rfl
      refine t_in (a := 2) (b := 9) rfl rfl (fun _ _ => by omega) (fun _ => ?_)
      refine t_in (a := 20) (b := 27) rfl rfl (fun _ _ => by omega) (fun _ => ?_)
      refine t_in (a := 30) (b := 35) rfl rfl (fun _ _ => ?_) (fun y => by omega)
      refine i_isShip e1.1.symm (fun _ _ _ => ⟨?_, ?_⟩) (fun z => absurd ⟨y1, y2, y3⟩ z)
      · rw [if_neg (by decide)]; exact ⟨hv, trivial⟩
      · rintro _ rfl
        rw [if_neg (by decide), if_neg (by decide), e4]
        exact hk _
    · rw [if_pos rfl]; trivial
    · rintro _ rfl
      refine t_in (a := 2) (b := 9) rfl rfl (fun _ _ => by omega) (fun _ => ?_)
      refine t_in (a := 20) (b := 27) rfl rfl (fun _ _ => by omega) (fun _ => ?_)
      refine t_in (a := 30) (b := 35) rfl rfl (fun _ _ => ?_) (fun y => by omega)
      refine i_isShip e1.1.symm (fun z1 z2 z3 => absurd ⟨z1, z2, z3⟩ y) (fun z => ⟨?_, ?_⟩)
      · rw [if_pos rfl]; trivial
      · rintro _ rfl
        rw [if_pos rfl, if_pos rfl]
        exact hk _
  refine t_within (a := 100) (b := 123) rfl rfl (fun x1 x2 => ?_) (fun x4 => ?_)
  · have q := zsubc a1 100 (n := 100) rfl (by omega) (by omega) (by omega)
    refine i_digitAt (by omega) e3.2.1 e3.2.2 ?_
    refine t_in (a := 2) (b := 9) rfl rfl (fun _ _ => by omega) (fun _ => ?_)
    refine t_in (a := 20) (b := 27) rfl rfl (fun _ _ => by omega) (fun _ => ?_)
    refine t_in (a := 30) (b := 35) rfl rfl (fun _ _ => by omega) (fun _ => ?_)
    refine t_in (a := 100) (b := 123) rfl rfl (fun _ _ => ?_) (fun y => by omega)
    exact i_tenths h.1 (by omega) (hk _)
  have k9 : ∀ r, (r = (if a1 = (0) then (σ.1 69 27) else (if a1 = (1 : Int32) then (σ.1 69 0) else (if a1 = (10 : Int32) then (σ.1 69 14) else (if a1 = (11 : Int32) then (σ.1 69 18) else (if a1 = (12 : Int32) then (σ.1 69 21) else (if a1 = (13 : Int32) then (σ.1 69 25) else (-2 : Int32)))))))) → wp_X9_in a1.toInt64 2 9 σ (fun r1 => (if r1 = (0) then wp_X9_in (a1.toInt64) (20 : Int64) (27 : Int64) σ (fun r4 => (if r4 = (0) then wp_X9_in (a1.toInt64) (30 : Int64) (35 : Int64) σ (fun r7 => (if r7 = (0) then wp_X9_in (a1.toInt64) (100 : Int64) (123 : Int64) σ (fun r10 => (if r10 = (0) then wp_X9_toldMany a1 σ (fun r13 => K r r13) else wp_X9_tenths (a1 - (100 : Int32)) σ (fun r15 => K r r15))) else wp_X9_isShip (a1 - (30 : Int32)) σ (fun r17 => (if r17 = (0) then True else vp_in (a1 - (30 : Int32)) 6 ∧ True) ∧ ∀ z20 : Int32, z20 = (if r17 = (0) then (-2 : Int32) else (σ.1 72 (a1 - (30 : Int32)).toNatClampNeg)) → K r z20))) else wp_X9_isAboard (a1 - (20 : Int32)) σ (fun r24 => (if r24 = (0) then True else vp_in (a1 - (20 : Int32)) 8 ∧ True) ∧ ∀ z27 : Int32, z27 = (if r24 = (0) then (-2 : Int32) else (σ.1 77 (a1 - (20 : Int32)).toNatClampNeg)) → K r z27))) else wp_X9_toldSet (a1 - (2 : Int32)) σ (fun r31 => K r r31))) := by
    intro r hr
    refine t_in (a := 2) (b := 9) rfl rfl (fun _ _ => by omega) (fun _ => ?_)
    refine t_in (a := 20) (b := 27) rfl rfl (fun _ _ => by omega) (fun _ => ?_)
    refine t_in (a := 30) (b := 35) rfl rfl (fun _ _ => by omega) (fun _ => ?_)
    refine t_in (a := 100) (b := 123) rfl rfl (fun _ _ => by omega) (fun _ => ?_)
    rintro _ rfl
    rw [hr]
    exact hk _
  have f1 : σ.1 52 1 = σ.1 69 27 := h.2.1.1
  have f4 := (b_offers h.1).1
  have f6 := (b_rolls h.1).1
  have n2 : ¬ a1 = 2 := by rintro rfl; revert x; decide
  have n3 : ¬ a1 = 3 := by rintro rfl; revert x; decide
  have n4 : ¬ a1 = 4 := by rintro rfl; revert x; decide
  have n5 : ¬ a1 = 5 := by rintro rfl; revert x; decide
  have n6 : ¬ a1 = 6 := by rintro rfl; revert x; decide
  have n7 : ¬ a1 = 7 := by rintro rfl; revert x; decide
  have n8 : ¬ a1 = 8 := by rintro rfl; revert x; decide
  have n9 : ¬ a1 = 9 := by rintro rfl; revert x; decide
  by_cases c0 : a1 = 0
  · rw [if_pos c0]; exact k9 _ (by rw [if_pos c0, f1])
  rw [if_neg c0]
  by_cases c1 : a1 = 1
  · rw [if_pos c1]; exact k9 _ (by rw [if_neg c0, if_pos c1, e1.1])
  rw [if_neg c1, if_neg n2, if_neg n3, if_neg n4, if_neg n5, if_neg n6, if_neg n7, if_neg n8, if_neg n9]
  by_cases c2 : a1 = 10
  · rw [if_pos c2]; exact k9 _ (by rw [if_neg c0, if_neg c1, if_pos c2, e3.1])
  rw [if_neg c2]
  by_cases c3 : a1 = 11
  · rw [if_pos c3]; exact k9 _ (by rw [if_neg c0, if_neg c1, if_neg c2, if_pos c3, f4])
  rw [if_neg c3]
  by_cases c4 : a1 = 12
  · rw [if_pos c4]; exact k9 _ (by rw [if_neg c0, if_neg c1, if_neg c2, if_neg c3, if_pos c4, e2.1])
  rw [if_neg c4]
  by_cases c5 : a1 = 13
  · rw [if_pos c5]; exact k9 _ (by rw [if_neg c0, if_neg c1, if_neg c2, if_neg c3, if_neg c4, if_pos c5, f6])
  rw [if_neg c5]
  exact k9 _ (by rw [if_neg c0, if_neg c1, if_neg c2, if_neg c3, if_neg c4, if_neg c5])
/-! set -/
theorem zt0 : Int32.toNatClampNeg 0 = 0 := rfl
theorem zt1 : Int32.toNatClampNeg 1 = 1 := rfl
theorem zt2 : Int32.toNatClampNeg 2 = 2 := rfl
theorem zt3 : Int32.toNatClampNeg 3 = 3 := rfl
theorem zt4 : Int32.toNatClampNeg 4 = 4 := rfl
theorem zt5 : Int32.toNatClampNeg 5 = 5 := rfl
theorem zt6 : Int32.toNatClampNeg 6 = 6 := rfl
theorem zt7 : Int32.toNatClampNeg 7 = 7 := rfl
theorem i_setJ {r : Int32} {P : Int32 → zST → Prop} (h0 : 0 ≤ a1.toInt) (h1 : a1.toInt ≤ 7) (h : ∀ σ' : zST, (∀ a k, σ'.1 a k = if a = 69 ∧ k = 5 + a1.toNatClampNeg then a2 else σ.1 a k) → P r σ') :
    ∀ z16 : Int32, z16 = (if a1 = (0) then a2 else (σ.1 69 5)) → (if a1 = (1 : Int32) then wp_X9_set_J73 a1 a2 r a2 (wI σ 69 5 z16) P else ∀ σ20 : zST, σ20 = (wI σ 69 5 z16) → wp_X9_set_J73 a1 a2 r (σ20.1 69 6) σ20 P) := by
  rintro _ rfl
  rcases zS8 h0 h1 with rfl | rfl | rfl | rfl | rfl | rfl | rfl | rfl <;>
  · simp (decide := true) only [wp_X9_set_J73, wp_X9_set_J90, wp_X9_set_J107, wp_X9_set_J124, wp_X9_set_J141, wp_X9_set_J159, forall_eq, if_true, if_false, wI_at, true_and, and_true, false_and, and_false]
    refine h _ (fun a k => ?_)
    simp only [wI_at, zt0, zt1, zt2, zt3, zt4, zt5, zt6, zt7, Nat.reduceAdd]
    by_cases ha : a = 69
    · subst ha
      simp only [true_and]
      repeat' split
      all_goals first | rfl | (subst_vars; rfl) | omega
    · simp only [ha, false_and, if_false]
theorem s_set (h : Inv σ) {K : Int32 → Int32 → zST → Prop} (hk : ∀ r σ', Inv σ' → K r r σ') : wp_X8_set a1 a2 σ (fun r σ1 => wp_X9_set a1 a2 σ1 (fun r' σ2 => K r r' σ2)) := by
  unfold wp_X8_set wp_X9_set
  refine t_within (a := 0) (b := 7) rfl rfl (fun x1 x2 => ?_) (fun x => t_in (a := 0) (b := 7) rfl rfl (fun y1 y2 => by omega) (fun _ => hk _ _ h))
  have hv : vp_in a1 8 := zv x1 (by omega)
  have hc : a1.toNatClampNeg < 8 := zcl x1 (by omega)
  refine ⟨hv, hv, ?_⟩
  have hb : ∀ σ' : zST, ∀ {A B : Prop}, ((zTL a1.toNatClampNeg).toInt ≤ a2.toInt → a2.toInt ≤ (zTM a1.toNatClampNeg).toInt → B) → (a2.toInt < (zTL a1.toNatClampNeg).toInt ∨ (zTM a1.toNatClampNeg).toInt < a2.toInt → A) → (∀ z5 : Int64, z5 = (if a1 = (0) then (1 : Int64) else (0 : Int64)) → wp_X9_greatest a1 σ' (fun r8 => wp_X9_in (a2.toInt64) z5 (r8.toInt64) σ' (fun r10 => (if r10 = (0) then A else B)))) := by
    intro σ' A B q1 q2
    rintro _ rfl _ rfl
    rcases zS8 x1 x2 with rfl | rfl | rfl | rfl | rfl | rfl | rfl | rfl
    · exact t_in (a := 1) (b := 9) rfl rfl q1 q2
    · exact t_in (a := 0) (b := 99) rfl rfl q1 q2
    · exact t_in (a := 0) (b := 20) rfl rfl q1 q2
    · exact t_in (a := 0) (b := 60) rfl rfl q1 q2
    · exact t_in (a := 0) (b := 99) rfl rfl q1 q2
    · exact t_in (a := 0) (b := 99) rfl rfl q1 q2
    · exact t_in (a := 0) (b := 99) rfl rfl q1 q2
    · exact t_in (a := 0) (b := 9999) rfl rfl q1 q2
  refine t_within rfl rfl (fun x3 x4 => ?_) (fun x => ?_)
  · refine ⟨hv, ?_⟩
    rintro _ rfl
    refine ⟨hv, ?_⟩
    refine t_in (a := 0) (b := 7) rfl rfl (fun _ _ => ?_) (fun y => by omega)
    refine hb _ (fun _ _ => ?_) (fun y => by omega)
    have e1 := (b_terms h.1 hc).1
    refine i_toldSet x1 x2 ?_
    rw [show (wI σ 7 a1.toNatClampNeg a2).1 69 (5 + a1.toNatClampNeg) = σ.1 69 (5 + a1.toNatClampNeg) from rfl, ← e1]
    have hbd : zLo 5 a1.toNatClampNeg ≤ a2.toInt ∧ a2.toInt ≤ zHi 5 a1.toNatClampNeg := by
      clear e1 hb
      rcases zS8 x1 x2 with rfl | rfl | rfl | rfl | rfl | rfl | rfl | rfl
      · exact ⟨x3, x4⟩
      · exact ⟨x3, x4⟩
      · exact ⟨x3, x4⟩
      · exact ⟨x3, x4⟩
      · exact ⟨x3, x4⟩
      · exact ⟨x3, x4⟩
      · exact ⟨x3, x4⟩
      · exact ⟨x3, Int.le_trans x4 (by decide)⟩
    refine i_setJ x1 x2 (fun σ' hs => ?_)
    have hs' : ∀ a k, σ'.1 a k = if a = 69 ∧ k = 5 + a1.toNatClampNeg then a2 else if a = 7 ∧ k = a1.toNatClampNeg then a2 else σ.1 a k := fun a k => by rw [hs]; rfl
    refine hk _ _ ⟨IB_upd h.1 (fun r k hk => ?_) (fun k hk => ?_) (fun k hk => ?_), IP_fr (fun a k x => ?_) h.2.1, II_fr (fun a k x => ?_) h.2.2⟩
    · have hr := zLen13 hk
      by_cases r5 : r = 5
      · subst r5
        have h8 : k < 8 := hk
        by_cases e : k = a1.toNatClampNeg
        · right
          subst e
          have q1 : σ'.1 7 a1.toNatClampNeg = a2 := by rw [hs', if_neg (by omega), if_pos ⟨rfl, rfl⟩]
          have q2 : σ'.1 69 (5 + a1.toNatClampNeg) = a2 := by rw [hs', if_pos ⟨rfl, rfl⟩]
          show σ'.1 7 a1.toNatClampNeg = σ'.1 69 (5 + a1.toNatClampNeg) ∧ zLo 5 a1.toNatClampNeg ≤ (σ'.1 7 a1.toNatClampNeg).toInt ∧ (σ'.1 7 a1.toNatClampNeg).toInt ≤ zHi 5 a1.toNatClampNeg
          rw [q1, q2]
          exact ⟨rfl, hbd⟩
        · left
          simp only [cV, mV, hs']
          rw [if_neg (by omega), if_neg (by omega), if_neg (by omega), if_neg (by omega)]
          exact ⟨rfl, rfl⟩
      · left
        refine ⟨?_, ?_⟩
        · match r, hr, r5 with
          | 0, _, _ =>
            match k with
            | 0 => simp only [cV, hs']; rw [if_neg (by omega), if_neg (by omega)]
            | 1 => simp only [cV, hs']; rw [if_neg (by omega), if_neg (by omega)]
            | 2 => simp only [cV, hs']; rw [if_neg (by omega), if_neg (by omega)]
            | 3 => simp only [cV, hs']; rw [if_neg (by omega), if_neg (by omega)]
            | k + 4 => simp only [cV, hs']; rw [if_neg (by omega), if_neg (by omega)]
          | 1, _, _ => simp only [cV, hs']; rw [if_neg (by omega), if_neg (by omega)]
          | 2, _, _ => simp only [cV, hs']; rw [if_neg (by omega), if_neg (by omega)]
          | 3, _, _ => simp only [cV, hs']; rw [if_neg (by omega), if_neg (by omega)]
          | 4, _, _ => simp only [cV, hs']; rw [if_neg (by omega), if_neg (by omega)]
          | 5, _, r5 => exact absurd rfl r5
          | 6, _, _ => simp only [cV, hs']; rw [if_neg (by omega), if_neg (by omega)]
          | 7, _, _ => simp only [cV, hs']; rw [if_neg (by omega), if_neg (by omega)]
          | 8, _, _ => simp only [cV, hs']; rw [if_neg (by omega), if_neg (by omega)]
          | 9, _, _ => simp only [cV, hs']; rw [if_neg (by omega), if_neg (by omega)]
          | 10, _, _ => simp only [cV, hs']; rw [if_neg (by omega), if_neg (by omega)]
          | 11, _, _ => simp only [cV, hs']; rw [if_neg (by omega), if_neg (by omega)]
          | 12, _, _ => simp only [cV, hs']; rw [if_neg (by omega), if_neg (by omega)]
        · match r, hr, r5 with
          | 0, _, _ =>
            match k with
            | 0 => simp only [mV, hs']; rw [if_neg (by omega), if_neg (by omega)]
            | 1 => simp only [mV, hs']; rw [if_neg (by omega), if_neg (by omega)]
            | 2 => simp only [mV, hs']; rw [if_neg (by omega), if_neg (by omega)]
            | 3 => simp only [mV, hs']; rw [if_neg (by omega), if_neg (by omega)]
            | k + 4 => simp only [mV, hs']; rw [if_neg (by omega), if_neg (by omega)]
          | 1, _, _ => simp only [mV, hs']; rw [if_neg (by omega), if_neg (by omega)]
          | 2, _, _ => simp only [mV, hs']; rw [if_neg (by omega), if_neg (by omega)]
          | 3, _, _ => simp only [mV, hs']; rw [if_neg (by omega), if_neg (by omega)]
          | 4, _, _ => simp only [mV, hs']; rw [if_neg (by omega), if_neg (by omega)]
          | 5, _, r5 => exact absurd rfl r5
          | 6, _, _ => simp only [mV, hs']; rw [if_neg (by omega), if_neg (by omega)]
          | 7, _, _ => simp only [mV, hs']; rw [if_neg (by omega), if_neg (by omega)]
          | 8, _, _ => simp only [mV, hs']; rw [if_neg (by omega), if_neg (by omega)]
          | 9, _, _ => simp only [mV, hs']; rw [if_neg (by omega), if_neg (by omega)]
          | 10, _, _ => simp only [mV, hs']; rw [if_neg (by omega), if_neg (by omega)]
          | 11, _, _ => simp only [mV, hs']; rw [if_neg (by omega), if_neg (by omega)]
          | 12, _, _ => simp only [mV, hs']; rw [if_neg (by omega), if_neg (by omega), if_neg (by omega), if_neg (by omega)]
    · have := zsh_many h.1 hk
      simp only [cV, hs'] at this ⊢
      rw [if_neg (by omega), if_neg (by omega), if_neg (by omega), if_neg (by omega)]
      exact this
    · have := b_moor h.1 hk
      have q1 : σ'.1 2 0 = σ.1 2 0 := by rw [hs', if_neg (by omega), if_neg (by omega)]
      have q2 : σ'.1 3 k = σ.1 3 k := by rw [hs', if_neg (by omega), if_neg (by omega)]
      have q3 : σ'.1 4 k = σ.1 4 k := by rw [hs', if_neg (by omega), if_neg (by omega)]
      show zH (σ'.1 2 0) (nI k) → σ'.1 3 k = 0 → 1 ≤ (σ'.1 4 k).toInt
      rw [q1, q2, q3]
      exact this
    · rw [hs', if_neg (by omega), if_neg (by omega)]
    · rw [hs', if_neg (by omega), if_neg (by omega)]
  · refine t_in (a := 0) (b := 7) rfl rfl (fun _ _ => ?_) (fun y => by omega)
    exact hb _ (fun _ _ => by omega) (fun _ => hk _ _ h)
end S
end
section
/-! bounds; captains, persuaded, held, years -/
section Q
variable {a k : Nat} {p sd hr ea : Int32} {σ : zST} {P : Int32 → Prop}
theorem zmulb {x y : Int32} {m n : Int} (h1 : 0 ≤ x.toInt) (h2 : x.toInt ≤ m) (h3 : 0 ≤ y.toInt) (h4 : y.toInt ≤ n) (h5 : m * n < 2147483648) : (x * y).toInt = x.toInt * y.toInt ∧ 0 ≤ (x * y).toInt ∧ (x * y).toInt ≤ m * n := by
  have q1 : 0 ≤ x.toInt * y.toInt := Int.mul_nonneg h1 h3
  have q2 : x.toInt * y.toInt ≤ m * n := Int.mul_le_mul h2 h4 h3 (by omega)
  have q3 : (x * y).toInt = x.toInt * y.toInt := fb_mulI (by omega) (by omega)
  exact ⟨q3, by omega, by omega⟩
theorem zaddb {x y : Int32} {m n : Int} (h1 : 0 ≤ x.toInt) (h2 : x.toInt ≤ m) (h3 : 0 ≤ y.toInt) (h4 : y.toInt ≤ n) (h5 : m + n < 2147483648) : (x + y).toInt = x.toInt + y.toInt ∧ 0 ≤ (x + y).toInt ∧ (x + y).toInt ≤ m + n := by
  have q3 : (x + y).toInt = x.toInt + y.toInt := fb_addI (by omega) (by omega)
  exact ⟨q3, by omega, by omega⟩
theorem b_t (hI : IB σ) : (1 ≤ (σ.1 7 0).toInt ∧ (σ.1 7 0).toInt ≤ 9) ∧ (0 ≤ (σ.1 7 1).toInt ∧ (σ.1 7 1).toInt ≤ 99) ∧ (0 ≤ (σ.1 7 2).toInt ∧ (σ.1 7 2).toInt ≤ 20) ∧ (0 ≤ (σ.1 7 3).toInt ∧ (σ.1 7 3).toInt ≤ 60) ∧ (0 ≤ (σ.1 7 4).toInt ∧ (σ.1 7 4).toInt ≤ 99) ∧ (0 ≤ (σ.1 7 5).toInt ∧ (σ.1 7 5).toInt ≤ 99) ∧ (0 ≤ (σ.1 7 6).toInt ∧ (σ.1 7 6).toInt ≤ 99) ∧ (0 ≤ (σ.1 7 7).toInt ∧ (σ.1 7 7).toInt ≤ 65536) :=
  ⟨(b_terms hI (k := 0) (by omega)).2, (b_terms hI (k := 1) (by omega)).2, (b_terms hI (k := 2) (by omega)).2, (b_terms hI (k := 3) (by omega)).2, (b_terms hI (k := 4) (by omega)).2, (b_terms hI (k := 5) (by omega)).2, (b_terms hI (k := 6) (by omega)).2, (b_terms hI (k := 7) (by omega)).2⟩
theorem qT_b (hI : IB σ) (hk : k < 6) : 0 ≤ (qT σ 2 k).toInt ∧ (qT σ 2 k).toInt ≤ (σ.1 4 k).toInt := by
  have e2 := (b_men hI hk).2
  have e4 := zsubT hI hk
  have key : ∀ d m : Int32, 0 ≤ m.toInt → 0 ≤ Int32.toInt (if (if (0 : Int32) < d then d else 0) < m then (if (0 : Int32) < d then d else 0) else m) ∧ Int32.toInt (if (if (0 : Int32) < d then d else 0) < m then (if (0 : Int32) < d then d else 0) else m) ≤ m.toInt := by
    intro d m hm
    by_cases c2 : (0 : Int32) < d
    · rw [if_pos c2]
      have c3 : 0 < d.toInt := Int32.lt_iff_toInt_lt.mp c2
      by_cases c : d < m
      · rw [if_pos c]
        rw [Int32.lt_iff_toInt_lt] at c
        omega
      · rw [if_neg c]
        omega
    · rw [if_neg c2]
      by_cases c : (0 : Int32) < m
      · rw [if_pos c]
        exact ⟨by decide, hm⟩
      · rw [if_neg c]
        omega
  exact key (σ.1 7 0 - σ.1 5 k) (σ.1 4 k) e2.1
theorem qW_b (hI : IB σ) (hk : k < 6) : 0 ≤ (qW σ 2 k).toInt ∧ (qW σ 2 k).toInt ≤ 3969 := by
  have t := b_t hI
  have e2 := (b_men hI hk).2
  have e3 := (b_cargo hI hk).2
  have q1 := zmulb t.2.1.1 t.2.1.2 e2.1 e2.2 (by decide)
  exact (zaddb q1.2.1 q1.2.2 e3.1 e3.2 (by decide)).2
theorem qL_b (hI : IB σ) (hk : k < 6) : 0 ≤ (qL σ 2 k).toInt ∧ (qL σ 2 k).toInt ≤ 3969 := by
  have t := b_t hI
  have e1 := qT_b hI hk
  have e2 := (b_men hI hk).2
  have e3 := (b_cargo hI hk).2
  have q1 := zmulb (n := 30) t.2.1.1 t.2.1.2 e1.1 (by omega) (by decide)
  have e4 : 0 ≤ Int32.toInt (if qT σ 2 k = σ.1 4 k then σ.1 6 k else 0) ∧ Int32.toInt (if qT σ 2 k = σ.1 4 k then σ.1 6 k else 0) ≤ 999 := by
    split
    · exact e3
    · decide
  exact (zaddb q1.2.1 q1.2.2 e4.1 e4.2 (by decide)).2
theorem qF_b (hI : IB σ) (hk : k < 6) : 0 ≤ (qF σ 2 k).toInt ∧ (qF σ 2 k).toInt ≤ 36000 := by
  have t := b_t hI
  have e2 := (b_men hI hk).2
  have q1 := zmulb t.2.2.1.1 t.2.2.1.2 t.2.2.2.1.1 t.2.2.2.1.2 (by decide)
  exact (zmulb q1.2.1 q1.2.2 e2.1 e2.2 (by decide)).2
theorem qM_b (hI : IB σ) (hk : k < 6) (hh : 0 ≤ hr.toInt) : 0 ≤ (qM σ 2 k sd hr).toInt ∧ (qM σ 2 k sd hr).toInt ≤ 360000 := by
  unfold qM
  split
  · have d := (zdg_b hI hh).2
    have w := qW_b hI hk
    have := (zmulb d.1 d.2 w.1 w.2 (by decide)).2
    omega
  · split
    · have w := qL_b hI hk
      have := (zmulb (x := 10) (m := 10) (by decide) (by decide) w.1 w.2 (by decide)).2
      omega
    · have w := qF_b hI hk
      have := (zmulb (x := 10) (m := 10) (by decide) (by decide) w.1 w.2 (by decide)).2
      omega
theorem qX_b (hI : IB σ) (hk : k < 6) : 0 ≤ (qX σ 2 k sd hr).toInt ∧ (qX σ 2 k sd hr).toInt ≤ 36000 := by
  unfold qX
  have w1 := qW_b hI hk
  have w2 := qL_b hI hk
  have w3 := qF_b hI hk
  split
  · split
    · decide
    · omega
  · split
    · omega
    · omega
/-! captains -/
def qR (σ : zST) (a : Nat) (m e : Int32) : Int32 := if m = 0 then 0 else σ.1 (a + 5) 5 + e * m
def qG (σ : zST) (a k : Nat) (sd h e : Int32) : Int32 := if sd = 0 then 10 * qR σ a (σ.1 (a + 2) k - qT σ a k) e else if sd = 1 then (10 - zdg σ a h) * qR σ a (σ.1 (a + 2) k) e else 10 * (qR σ a (σ.1 (a + 2) k) e - σ.1 (a + 5) 3)
def qC (σ : zST) (a k : Nat) (h e : Int32) : Int32 := if qG σ a k 2 h e ≤ qG σ a k (if qG σ a k 1 h e ≤ qG σ a k 0 h e then 0 else 1) h e then (if qG σ a k 1 h e ≤ qG σ a k 0 h e then 0 else 1) else 2
theorem i_captainGets (hv : vp_in p 6) (h0 : 0 ≤ hr.toInt) (h1 : 1 ≤ (σ.1 a 7).toInt) (h2 : (σ.1 a 7).toInt ≤ 24) (h : P (qG σ a p.toNatClampNeg sd hr ea)) : wp_X6_captainGets a p sd hr ea σ P := by
  unfold wp_X6_captainGets
  unfold qG at h
  by_cases c1 : sd = 0
  · rw [if_pos c1] at h ⊢
    refine ⟨hv, i_menToTeeth hv ?_⟩
    rintro _ rfl
    exact h
  · rw [if_neg c1] at h ⊢
    refine ⟨hv, ?_⟩
    rintro _ rfl
    by_cases c2 : sd = 1
    · rw [if_pos c2] at h ⊢
      exact i_digitAt h0 h1 h2 h
    · rw [if_neg c2] at h ⊢
      exact h
theorem i_gets (hI : IB σ) (h0 : 0 ≤ p.toInt) (h1 : p.toInt ≤ 5) (hh : 0 ≤ hr.toInt) (h : P (qG σ 2 p.toNatClampNeg sd hr ea)) : wp_X9_gets p sd hr ea σ P := by
  have hv : vp_in p 6 := zv h0 (by omega)
  have hk : p.toNatClampNeg < 6 := zcl h0 (by omega)
  have e3 := (b_men hI hk).1
  have e5 : σ.1 7 5 = σ.1 69 10 := (b_terms hI (k := 5) (by omega)).1
  have e6 : σ.1 7 3 = σ.1 69 8 := (b_terms hI (k := 3) (by omega)).1
  unfold wp_X9_gets
  unfold qG qR at h
  refine ⟨hv, i_lostByTeeth hI h0 h1 ?_⟩
  rintro _ rfl
  rw [← e3, ← e5, ← e6]
  by_cases c1 : sd = 0
  · rw [if_pos c1] at h ⊢
    rintro _ rfl
    by_cases c2 : σ.1 4 p.toNatClampNeg - qT σ 2 p.toNatClampNeg = 0
    · rw [if_pos c2]
      rw [if_pos (show σ.1 (2 + 2) p.toNatClampNeg - qT σ 2 p.toNatClampNeg = 0 from c2)] at h
      exact h
    · rw [if_neg c2]
      rw [if_neg (show ¬ σ.1 (2 + 2) p.toNatClampNeg - qT σ 2 p.toNatClampNeg = 0 from c2)] at h
      exact h
  · rw [if_neg c1] at h ⊢
    refine ⟨hv, ?_⟩
    rintro _ rfl
    by_cases c2 : sd = 1
    · rw [if_pos c2] at h ⊢
      refine i_tenths hI hh ⟨hv, ?_⟩
      rintro _ rfl
      exact h
    · rw [if_neg c2] at h ⊢
      refine ⟨hv, ?_⟩
      rintro _ rfl
      exact h
theorem i_captainsSide (hv : vp_in p 6) (h0 : 0 ≤ hr.toInt) (h1 : 1 ≤ (σ.1 a 7).toInt) (h2 : (σ.1 a 7).toInt ≤ 24) (h : P (qC σ a p.toNatClampNeg hr ea)) : wp_X6_captainsSide a p hr ea σ P := by
  refine ⟨3, ?_⟩
  unfold wp_X6_captainsSide_L6
  rw [if_neg (by decide)]
  refine i_captainGets hv h0 h1 h2 (i_captainGets hv h0 h1 h2 ?_)
  have k2 : ∀ b : Int32, P (if qG σ a p.toNatClampNeg 2 hr ea ≤ qG σ a p.toNatClampNeg b hr ea then b else 2) → wp_X6_captainsSide_L6 a p hr ea σ P 2 b (1 + 1) := by
    intro b hb
    unfold wp_X6_captainsSide_L6
    rw [if_neg (by decide)]
    refine i_captainGets hv h0 h1 h2 (i_captainGets hv h0 h1 h2 ?_)
    by_cases c : qG σ a p.toNatClampNeg 2 hr ea ≤ qG σ a p.toNatClampNeg b hr ea
    · rw [if_pos c] at hb
      rw [if_pos (show qG σ a p.toNatClampNeg (1 + 1) hr ea ≤ qG σ a p.toNatClampNeg b hr ea from c)]
      unfold wp_X6_captainsSide_L6
      rw [if_pos (by decide)]
      exact hb
    · rw [if_neg c] at hb
      rw [if_neg (show ¬ qG σ a p.toNatClampNeg (1 + 1) hr ea ≤ qG σ a p.toNatClampNeg b hr ea from c)]
      unfold wp_X6_captainsSide_L6
      rw [if_pos (by decide)]
      exact hb
  unfold qC at h
  by_cases c : qG σ a p.toNatClampNeg 1 hr ea ≤ qG σ a p.toNatClampNeg 0 hr ea
  · rw [if_pos c] at h ⊢
    exact k2 0 h
  · rw [if_neg c] at h ⊢
    exact k2 1 h
theorem i_captainBy (hI : IB σ) (h0 : 0 ≤ p.toInt) (h1 : p.toInt ≤ 5) (hh : 0 ≤ hr.toInt) (h : P (qC σ 2 p.toNatClampNeg hr ea)) : wp_X9_captainBy p hr ea σ P := by
  refine ⟨3, ?_⟩
  unfold wp_X9_captainBy_L6
  rw [if_neg (by decide)]
  refine i_gets hI h0 h1 hh (i_gets hI h0 h1 hh ?_)
  rintro _ rfl
  unfold wp_X9_captainBy_L6
  rw [if_neg (by decide)]
  refine i_gets hI h0 h1 hh (i_gets hI h0 h1 hh ?_)
  rintro _ rfl
  unfold wp_X9_captainBy_L6
  rw [if_pos (by decide)]
  exact h
def zpers (f : Nat → Int32) (w : Int32) : Nat → Nat → Int32
  | 0, _ => -6
  | n + 1, i => if f i = w then nI i else zpers f w n (i + 1)
end Q
section S
variable {σ : zST} {a1 a2 a3 a4 a5 : Int32}
theorem s_captain (h : Inv σ) {K : Int32 → Int32 → Prop} (hk : ∀ r, K r r) : wp_X8_captain a1 a2 σ (fun r => wp_X9_captain a1 a2 σ (fun r' => K r r')) := by
  unfold wp_X8_captain wp_X9_captain
  have e1 := b_ships h.1
  have e2 := (b_digits h.1).2
  have e3 : σ.1 7 6 = σ.1 69 11 := (b_terms h.1 (k := 6) (by omega)).1
  refine i_refusalOf (fun x1 x2 x3 x4 x5 => ?_) (fun x1 x2 x3 x => ?_) (fun x => ?_)
  · rw [if_pos rfl]
    refine i_captainsSide (zv x1 (by omega)) x4 e2.1 e2.2 ?_
    refine t_isShip e1.1.symm (fun _ _ _ => ?_) (fun y => absurd ⟨x1, x2, x3⟩ y)
    refine t_isHour (fun _ _ => ?_) (fun y => by omega)
    rw [← e3]
    exact i_captainBy h.1 x1 x2 x4 (hk _)
  · rw [if_neg (by decide)]
    refine t_isShip e1.1.symm (fun _ _ _ => ?_) (fun y => absurd ⟨x1, x2, x3⟩ y)
    exact t_isHour (fun _ _ => by omega) (fun _ => hk _)
  · rw [if_neg (by decide)]
    exact t_isShip e1.1.symm (fun y1 y2 y3 => absurd ⟨y1, y2, y3⟩ x) (fun _ => hk _)
theorem i_persL8 {P : Int32 → Prop} {w : Int32} {f : Nat → Int32} (hf : ∀ i, qC σ 2 a1.toNatClampNeg a2 (nI i) = f i) (hv : vp_in a1 6) (h0 : 0 ≤ a2.toInt) (h1 : 1 ≤ (σ.1 2 7).toInt) (h2 : (σ.1 2 7).toInt ≤ 24) : ∀ n i : Nat, n + i = 100 → P (zpers f w n i) → wp_X8_persuaded_L35 a1 a2 w σ P (n + 1) (nI i) := by
  intro n
  induction n with
  | zero =>
    intro i hi hp
    unfold wp_X8_persuaded_L35
    rw [if_pos]
    · exact hp
    · rw [show i = 100 by omega]; decide
  | succ n ih =>
    intro i hi hp
    unfold wp_X8_persuaded_L35
    rw [if_neg]
    · refine i_captainsSide hv h0 h1 h2 ?_
      unfold zpers at hp
      rw [hf i]
      by_cases c : f i = w
      · rw [if_pos c] at hp ⊢
        exact hp
      · rw [if_neg c] at hp ⊢
        rw [nI_1]
        exact ih (i + 1) (by omega) hp
    · rw [Int32.lt_iff_toInt_lt, nI_toInt (by omega)]
      show ¬ (99 : Int) < i
      omega
theorem i_persL9 {P : Int32 → Prop} {w : Int32} {f : Nat → Int32} (hf : ∀ i, qC σ 2 a1.toNatClampNeg a2 (nI i) = f i) (hI : IB σ) (h0 : 0 ≤ a1.toInt) (h1 : a1.toInt ≤ 5) (hh : 0 ≤ a2.toInt) : ∀ n i : Nat, n + i = 100 → P (zpers f w n i) → wp_X9_persuaded_L30 a1 a2 w σ P (n + 1) (nI i) := by
  intro n
  induction n with
  | zero =>
    intro i hi hp
    unfold wp_X9_persuaded_L30
    rw [if_pos]
    · exact hp
    · rw [show i = 100 by omega]; decide
  | succ n ih =>
    intro i hi hp
    unfold wp_X9_persuaded_L30
    rw [if_neg]
    · refine i_captainBy hI h0 h1 hh ?_
      unfold zpers at hp
      rw [hf i]
      by_cases c : f i = w
      · rw [if_pos c] at hp ⊢
        exact hp
      · rw [if_neg c] at hp ⊢
        rw [nI_1]
        exact ih (i + 1) (by omega) hp
    · rw [Int32.le_iff_toInt_le, nI_toInt (by omega)]
      show ¬ (100 : Int) ≤ i
      omega
theorem s_persuaded (h : Inv σ) {K : Int32 → Int32 → Prop} (hk : ∀ r, K r r) : wp_X8_persuaded a1 a2 σ (fun r => wp_X9_persuaded a1 a2 σ (fun r' => K r r')) := by
  unfold wp_X8_persuaded wp_X9_persuaded
  have e1 := b_ships h.1
  have e2 := (b_digits h.1).2
  refine i_refusalOf (fun x1 x2 x3 x4 x5 => ?_) (fun x1 x2 x3 x => ?_) (fun x => ?_)
  · rw [if_pos rfl]
    refine i_ownersSide (zv x1 (by omega)) x4 e2.1 e2.2 ?_
    rintro _ rfl
    refine ⟨101, i_persL8 (fun _ => rfl) (zv x1 (by omega)) x4 e2.1 e2.2 100 0 rfl ?_⟩
    refine t_isShip e1.1.symm (fun _ _ _ => ?_) (fun y => absurd ⟨x1, x2, x3⟩ y)
    refine t_isHour (fun _ _ => ?_) (fun y => by omega)
    exact i_choiceOf h.1 x1 x2 x4 ⟨101, i_persL9 (fun _ => rfl) h.1 x1 x2 x4 100 0 rfl (hk _)⟩
  · rw [if_neg (by decide)]
    refine t_isShip e1.1.symm (fun _ _ _ => ?_) (fun y => absurd ⟨x1, x2, x3⟩ y)
    exact t_isHour (fun _ _ => by omega) (fun _ => hk _)
  · rw [if_neg (by decide)]
    exact t_isShip e1.1.symm (fun y1 y2 y3 => absurd ⟨y1, y2, y3⟩ x) (fun _ => hk _)
end S
end
section
/-! held, years -/
def zheld (f : Nat → Int32) (w : Int32) (a : Nat) : Nat → Nat × Int32
  | 0 => (a, f a)
  | n + 1 => if (zheld f w a n).2 ≤ f (a + (n + 1)) + 10 * w * nI (n + 1) then zheld f w a n else (a + (n + 1), f (a + (n + 1)) + 10 * w * nI (n + 1))
theorem zheld_le (f : Nat → Int32) (w : Int32) (a : Nat) : ∀ n, (zheld f w a n).1 ≤ a + n
  | 0 => Nat.le_refl _
  | n + 1 => by
    have := zheld_le f w a n
    unfold zheld
    split
    · omega
    · exact Nat.le_refl _
section S
variable {σ : zST} {a1 a2 a3 a4 a5 : Int32} {P : Int32 → Prop} {f : Nat → Int32} {a : Nat}
theorem i_heldL8 (hf : ∀ b, qM σ 2 a1.toNatClampNeg (qO σ 2 a1.toNatClampNeg (nI b)) (nI b) = f b) (hv : vp_in a1 6) (h1 : 1 ≤ (σ.1 2 7).toInt) (h2 : (σ.1 2 7).toInt ≤ 24) (ha : a ≤ 976) (hJ : wp_X8_held_J114 a1 a3 (nI (zheld f (σ.1 7 4) a 23).1) (zheld f (σ.1 7 4) a 23).2 σ P) :
    ∀ m n : Nat, m + n = 23 → wp_X8_held_L58 a1 (nI a) a3 σ P (m + 1) (nI (zheld f (σ.1 7 4) a n).1) (zheld f (σ.1 7 4) a n).2 (nI (n + 1)) := by
  intro m
  induction m with
  | zero =>
    intro n hn
    unfold wp_X8_held_L58
    rw [show n = 23 by omega, if_pos (by decide)]
    exact hJ
  | succ m ih =>
    intro n hn
    unfold wp_X8_held_L58
    rw [if_neg (by rw [Int32.le_iff_toInt_le, nI_toInt (by omega)]; show ¬ (24 : Int) ≤ ((n + 1 : Nat) : Int); omega), nI_add]
    refine i_leastMean hv (by rw [nI_toInt (by omega)]; omega) h1 h2 ?_
    rw [hf]
    rintro _ rfl
    have e : zheld f (σ.1 7 4) a (n + 1) = if (zheld f (σ.1 7 4) a n).2 ≤ f (a + (n + 1)) + 10 * σ.1 7 4 * nI (n + 1) then zheld f (σ.1 7 4) a n else (a + (n + 1), f (a + (n + 1)) + 10 * σ.1 7 4 * nI (n + 1)) := rfl
    have i1 := ih (n + 1) (by omega)
    rw [e] at i1
    show (if (zheld f (σ.1 7 4) a n).2 ≤ f (a + (n + 1)) + 10 * σ.1 7 4 * nI (n + 1) then _ else _)
    by_cases c : (zheld f (σ.1 7 4) a n).2 ≤ f (a + (n + 1)) + 10 * σ.1 7 4 * nI (n + 1)
    · rw [if_pos c] at i1 ⊢
      rw [nI_1]
      exact i1
    · rw [if_neg c] at i1 ⊢
      rintro _ rfl
      rw [nI_1]
      exact i1
theorem i_heldL9 (hf : ∀ b, qM σ 2 a1.toNatClampNeg (qO σ 2 a1.toNatClampNeg (nI b)) (nI b) = f b) (hI : IB σ) (h0 : 0 ≤ a1.toInt) (h1 : a1.toInt ≤ 5) (ha : a ≤ 976) (hJ : wp_X9_held_J123 a1 a3 (nI (zheld f (σ.1 7 4) a 23).1) (zheld f (σ.1 7 4) a 23).2 σ P) :
    ∀ m n : Nat, m + n = 23 → wp_X9_held_L47 a1 (nI a) a3 σ P (m + 1) (nI (zheld f (σ.1 7 4) a n).1) (zheld f (σ.1 7 4) a n).2 (nI (a + (n + 1))) := by
  have e9 : σ.1 7 4 = σ.1 69 9 := (b_terms hI (k := 4) (by omega)).1
  have e24 : nI a + 24 = nI (a + 24) := nI_add a 24
  intro m
  induction m with
  | zero =>
    intro n hn
    unfold wp_X9_held_L47
    rw [e24, show n = 23 by omega, if_pos (Int32.le_refl _)]
    exact hJ
  | succ m ih =>
    intro n hn
    unfold wp_X9_held_L47
    have hh : 0 ≤ (nI (a + (n + 1))).toInt := by rw [nI_toInt (by omega)]; omega
    rw [e24, if_neg (nI_ge (by omega) (by omega))]
    refine i_choiceOf hI h0 h1 hh (i_meanOf hI h0 h1 hh ?_)
    rw [hf, ← e9, pk_sub (by omega), show a + (n + 1) - a = n + 1 by omega]
    rintro _ rfl _ rfl _ rfl
    have e : zheld f (σ.1 7 4) a (n + 1) = if (zheld f (σ.1 7 4) a n).2 ≤ f (a + (n + 1)) + 10 * σ.1 7 4 * nI (n + 1) then zheld f (σ.1 7 4) a n else (a + (n + 1), f (a + (n + 1)) + 10 * σ.1 7 4 * nI (n + 1)) := rfl
    have i1 := ih (n + 1) (by omega)
    rw [e] at i1
    rw [nI_1]
    by_cases c : (zheld f (σ.1 7 4) a n).2 ≤ f (a + (n + 1)) + 10 * σ.1 7 4 * nI (n + 1)
    · rw [if_pos c] at i1
      rw [if_pos c, if_pos c]
      exact i1
    · rw [if_neg c] at i1
      rw [if_neg c, if_neg c]
      exact i1
theorem s_held (h : Inv σ) {K : Int32 → Int32 → Prop} (hk : ∀ r, K r r) : wp_X8_held a1 a2 a3 σ (fun r => wp_X9_held a1 a2 a3 σ (fun r' => K r r')) := by
  unfold wp_X8_held wp_X9_held
  have e1 := b_ships h.1
  have e2 := (b_digits h.1).2
  refine t_has rfl (fun x1 x2 x3 => ?_) (fun x => t_isShip e1.1.symm (fun y1 y2 y3 => absurd ⟨y1, y2, y3⟩ x) (fun _ => hk _))
  refine t_within (a := 0) (b := 976) rfl rfl (fun x4 x5 => ?_) (fun x => t_isShip e1.1.symm (fun _ _ _ => t_in (a := 0) (b := 976) rfl rfl (fun y1 y2 => by omega) (fun _ => hk _)) (fun y => absurd ⟨x1, x2, x3⟩ y))
  refine t_within (a := 0) (b := 2) rfl rfl (fun x6 x7 => ?_) (fun x => t_isShip e1.1.symm (fun _ _ _ => t_in (a := 0) (b := 976) rfl rfl (fun _ _ => t_in (a := 0) (b := 2) rfl rfl (fun y1 y2 => by omega) (fun _ => hk _)) (fun y => by omega)) (fun y => absurd ⟨x1, x2, x3⟩ y))
  obtain ⟨a, ha, rfl, ea⟩ := zN (h := 976) x4 x5
  have hv : vp_in a1 6 := zv x1 (by omega)
  have hc : a1.toNatClampNeg < 6 := zcl x1 (by omega)
  obtain ⟨f, hf⟩ : ∃ f : Nat → Int32, ∀ b, qM σ 2 a1.toNatClampNeg (qO σ 2 a1.toNatClampNeg (nI b)) (nI b) = f b := ⟨_, fun _ => rfl⟩
  refine i_leastMean hv x4 e2.1 e2.2 ?_
  rw [hf]
  have hz := zheld_le f (σ.1 7 4) a 23
  have hb0 : 0 ≤ (nI (zheld f (σ.1 7 4) a 23).1).toInt := by rw [nI_toInt (by omega)]; omega
  have ref : ∀ r, (r = if a3 = 0 then nI (zheld f (σ.1 7 4) a 23).1 else if a3 = 1 then (zheld f (σ.1 7 4) a 23).2 else qO σ 2 a1.toNatClampNeg (nI (zheld f (σ.1 7 4) a 23).1)) → wp_X9_isShip a1 σ (fun r1 => (if r1 = (0) then K r (-1 : Int32) else wp_X9_in ((nI a).toInt64) (0 : Int64) (976 : Int64) σ (fun r4 => (if r4 = (0) then K r (-2 : Int32) else wp_X9_in (a3.toInt64) (0 : Int64) (2 : Int64) σ (fun r7 => (if r7 = (0) then K r (-2 : Int32) else ∃ M28 : Nat, wp_X9_held_L47 a1 (nI a) a3 σ (fun r' => K r r') M28 (nI a) (1000000000 : Int32) (nI a))))))) := by
    intro r hr
    refine t_isShip e1.1.symm (fun _ _ _ => ?_) (fun y => absurd ⟨x1, x2, x3⟩ y)
    refine t_in (a := 0) (b := 976) rfl rfl (fun _ _ => ?_) (fun y => by omega)
    refine t_in (a := 0) (b := 2) rfl rfl (fun _ _ => ?_) (fun y => by omega)
    refine ⟨25, ?_⟩
    unfold wp_X9_held_L47
    have e24 : nI a + 24 = nI (a + 24) := nI_add a 24
    rw [e24, if_neg (nI_ge (by omega) (by omega))]
    refine i_choiceOf h.1 x1 x2 x4 (i_meanOf h.1 x1 x2 x4 ?_)
    rw [hf, pk_sub (Nat.le_refl a), Nat.sub_self, show nI 0 = (0 : Int32) from rfl, Int32.mul_zero, Int32.add_zero]
    rintro _ rfl _ rfl _ rfl
    have hb : ¬ (1000000000 : Int32) ≤ f a := by
      have := qM_b h.1 (k := a1.toNatClampNeg) (sd := qO σ 2 a1.toNatClampNeg (nI a)) (hr := nI a) hc x4
      rw [hf] at this
      rw [Int32.le_iff_toInt_le]
      show ¬ (1000000000 : Int) ≤ _
      omega
    rw [if_neg hb, if_neg hb, nI_1]
    refine i_heldL9 (P := fun r' => K r r') hf h.1 x1 x2 ha ?_ 23 0 rfl
    unfold wp_X9_held_J123
    subst hr
    by_cases c0 : a3 = 0
    · rw [if_pos c0, if_pos c0]; exact hk _
    · rw [if_neg c0, if_neg c0]
      by_cases c1 : a3 = 1
      · rw [if_pos c1, if_pos c1]; exact hk _
      · rw [if_neg c1, if_neg c1]
        exact i_choiceOf h.1 x1 x2 hb0 (hk _)
  refine ⟨24, i_heldL8 hf hv e2.1 e2.2 ha ?_ 23 0 rfl⟩
  unfold wp_X8_held_J114
  by_cases c0 : a3 = 0
  · rw [if_pos c0]; exact ref _ (by rw [if_pos c0])
  · rw [if_neg c0]
    by_cases c1 : a3 = 1
    · rw [if_pos c1]; exact ref _ (by rw [if_neg c0, if_pos c1])
    · rw [if_neg c1]
      exact i_ownersSide hv hb0 e2.1 e2.2 (ref _ (by rw [if_neg c0, if_neg c1]))
/-! years -/
theorem zdrN {n : Nat} (h : n ≤ 65536) : ((75 : Int32) * nI n + 74) - ((75 : Int32) * nI n + 74) / 65537 * 65537 = nI ((75 * n + 74) % 65537) := by
  have e1 : (75 : Int32) * nI n + 74 = nI (75 * n + 74) := by
    have := pk_mul 75 n
    rw [show nI 75 = (75 : Int32) from rfl] at this
    rw [this]
    exact nI_add (75 * n) 74
  rw [e1]
  exact pk_rem (a := 75 * n + 74) (d := 65537) (by omega) (by omega) (by omega)
theorem zdrL {n : Nat} (h : n ≤ 65536) : (((75 : Int64) * (nI n).toInt64 + 74) - ((75 : Int64) * (nI n).toInt64 + 74) / 65537 * 65537).toInt32 = nI ((75 * n + 74) % 65537) := by
  rw [nI_l (by omega)]
  have e1 : (75 : Int64) * lN n + 74 = lN (75 * n + 74) := by
    have := lN_mul 75 n
    rw [show lN 75 = (75 : Int64) from rfl] at this
    rw [this]
    exact lN_add (75 * n) 74
  rw [e1]
  rw [show (65537 : Int64) = lN 65537 from rfl, pk_lRem (by omega) (by omega) (by omega)]
  exact lN_i _
theorem zdr_lt (n : Nat) : (75 * n + 74) % 65537 ≤ 65536 := by
  have := Nat.mod_lt (75 * n + 74) (show 65537 > 0 by omega)
  omega
def zyr (f : Nat → Int32) : Nat → Nat → Int32 → Int32
  | 0, _, t => t
  | n + 1, y, t => zyr f n ((75 * y + 74) % 65537) (if f ((75 * y + 74) % 65537) ≤ nI ((75 * y + 74) % 65537 / 24 % 10) then t else t + 1)
theorem zy24 {n : Nat} (h : n ≤ 65536) : nI n - nI n / 24 * 24 = nI (n % 24) := pk_rem (a := n) (d := 24) (by omega) (by omega) (by omega)
theorem zy10 {n : Nat} (h : n ≤ 65536) : nI n / 24 - nI n / 24 / 10 * 10 = nI (n / 24 % 10) := by
  have e : nI n / 24 = nI (n / 24) := pk_div (a := n) (d := 24) (by omega) (by omega) (by omega)
  rw [e]
  exact pk_rem (a := n / 24) (d := 10) (by omega) (by omega) (by omega)
theorem i_yearsL8 {nn : Nat} (hf : ∀ y, zdg σ 2 (nI (y % 24)) = f y) (h1 : 1 ≤ (σ.1 2 7).toInt) (h2 : (σ.1 2 7).toInt ≤ 24) (hn : nn ≤ 99) : ∀ m i y t, m + i = nn → y ≤ 65536 → wp_X8_years_J121 a1 a4 (zyr f m y t) σ P → wp_X8_years_L78 a1 (nI nn) a4 σ P (m + 1) (nI y) t (nI i) := by
  intro m
  induction m with
  | zero =>
    intro i y t hi hy hJ
    unfold wp_X8_years_L78
    rw [if_pos (nI_le (by omega) (by omega))]
    exact hJ
  | succ m ih =>
    intro i y t hi hy hJ
    unfold wp_X8_years_L78
    rw [if_neg (nI_ge (by omega) (by omega))]
    unfold wp_X8_drawAfter
    rw [zdrN hy]
    dsimp only
    rw [zy24 (zdr_lt y), zy10 (zdr_lt y)]
    refine i_digitAt (by rw [nI_toInt (by omega)]; omega) h1 h2 ?_
    rw [hf, nI_1]
    unfold zyr at hJ
    by_cases c : f ((75 * y + 74) % 65537) ≤ nI ((75 * y + 74) % 65537 / 24 % 10)
    · rw [if_pos c] at hJ ⊢
      exact ih (i + 1) _ _ (by omega) (zdr_lt y) hJ
    · rw [if_neg c] at hJ ⊢
      exact ih (i + 1) _ _ (by omega) (zdr_lt y) hJ
theorem i_yearsL9 {nn : Nat} {Kx : Int32 → Prop} (hf : ∀ y, zdg σ 2 (nI (y % 24)) = f y) (hI : IB σ) (hn : nn ≤ 99) : ∀ m i y t, m + i = nn → y ≤ 65536 → Kx (zyr f m y t) → wp_X9_years_L59 a1 (nI nn) a4 σ Kx (m + 1) (nI y) t (nI i) := by
  intro m
  induction m with
  | zero =>
    intro i y t hi hy hJ
    unfold wp_X9_years_L59
    rw [if_pos (nI_le (by omega) (by omega))]
    exact hJ
  | succ m ih =>
    intro i y t hi hy hJ
    unfold wp_X9_years_L59
    rw [if_neg (nI_ge (by omega) (by omega)), zdrL hy]
    rintro _ rfl
    rw [zy24 (zdr_lt y), zy10 (zdr_lt y)]
    refine i_tenths hI (by rw [nI_toInt (by omega)]; omega) ?_
    rw [hf, nI_1]
    rintro _ rfl _ rfl
    unfold zyr at hJ
    by_cases c : f ((75 * y + 74) % 65537) ≤ nI ((75 * y + 74) % 65537 / 24 % 10)
    · rw [if_pos c] at hJ ⊢
      rw [Int32.add_zero]
      exact ih (i + 1) _ _ (by omega) (zdr_lt y) hJ
    · rw [if_neg c] at hJ ⊢
      exact ih (i + 1) _ _ (by omega) (zdr_lt y) hJ
theorem s_years (h : Inv σ) {K : Int32 → Int32 → Prop} (hk : ∀ r, K r r) : wp_X8_years a1 a2 a3 a4 σ (fun r => wp_X9_years a1 a2 a3 a4 σ (fun r' => K r r')) := by
  unfold wp_X8_years wp_X9_years
  have e1 := b_ships h.1
  have e2 := (b_digits h.1).2
  refine t_has rfl (fun x1 x2 x3 => ?_) (fun x => t_isShip e1.1.symm (fun y1 y2 y3 => absurd ⟨y1, y2, y3⟩ x) (fun _ => hk _))
  refine t_within (a := 0) (b := 9999) rfl rfl (fun x4 x5 => ?_) (fun x => t_isShip e1.1.symm (fun _ _ _ => t_in (a := 0) (b := 9999) rfl rfl (fun y1 y2 => by omega) (fun _ => hk _)) (fun y => absurd ⟨x1, x2, x3⟩ y))
  refine t_within (a := 1) (b := 99) rfl rfl (fun x6 x7 => ?_) (fun x => t_isShip e1.1.symm (fun _ _ _ => t_in (a := 0) (b := 9999) rfl rfl (fun _ _ => t_in (a := 1) (b := 99) rfl rfl (fun y1 y2 => by omega) (fun _ => hk _)) (fun y => by omega)) (fun y => absurd ⟨x1, x2, x3⟩ y))
  refine t_within (a := 0) (b := 2) rfl rfl (fun x8 x9 => ?_) (fun x => t_isShip e1.1.symm (fun _ _ _ => t_in (a := 0) (b := 9999) rfl rfl (fun _ _ => t_in (a := 1) (b := 99) rfl rfl (fun _ _ => t_in (a := 0) (b := 2) rfl rfl (fun y1 y2 => by omega) (fun _ => hk _)) (fun y => by omega)) (fun y => by omega)) (fun y => absurd ⟨x1, x2, x3⟩ y))
  obtain ⟨y, hy, rfl, ey⟩ := zN (h := 9999) x4 x5
  obtain ⟨n, hn, rfl, en⟩ := zN (h := 99) (x := a3) (by omega) x7
  have hv : vp_in a1 6 := zv x1 (by omega)
  obtain ⟨f, hf⟩ : ∃ f : Nat → Int32, ∀ y, zdg σ 2 (nI (y % 24)) = f y := ⟨_, fun _ => rfl⟩
  have ref : ∀ r, (r = if a4 = 0 then zyr f n y 0 * qW σ 2 a1.toNatClampNeg else if a4 = 1 then nI n * qL σ 2 a1.toNatClampNeg else zyr f n y 0) → wp_X9_isShip a1 σ (fun r1 => (if r1 = (0) then K r (-1 : Int32) else wp_X9_in ((nI y).toInt64) (0 : Int64) (9999 : Int64) σ (fun r4 => (if r4 = (0) then K r (-2 : Int32) else wp_X9_in ((nI n).toInt64) (1 : Int64) (99 : Int64) σ (fun r7 => (if r7 = (0) then K r (-2 : Int32) else wp_X9_in (a4.toInt64) (0 : Int64) (2 : Int64) σ (fun r10 => (if r10 = (0) then K r (-2 : Int32) else ∃ M28 : Nat, wp_X9_years_L59 a1 (nI n) a4 σ (fun w6 => (if a4 = (0) then wp_X9_allOf a1 σ (fun r26 => K r (w6 * r26)) else (if a4 = (1 : Int32) then wp_X9_teethTake a1 σ (fun r24 => K r (nI n * r24)) else K r w6))) M28 (nI y) (0 : Int32) (0 : Int32))))))))) := by
    rintro r rfl
    refine t_isShip e1.1.symm (fun _ _ _ => ?_) (fun y => absurd ⟨x1, x2, x3⟩ y)
    refine t_in (a := 0) (b := 9999) rfl rfl (fun _ _ => ?_) (fun y => by omega)
    refine t_in (a := 1) (b := 99) rfl rfl (fun _ _ => ?_) (fun y => by omega)
    refine t_in (a := 0) (b := 2) rfl rfl (fun _ _ => ?_) (fun y => by omega)
    refine ⟨n + 1, i_yearsL9 hf h.1 hn n 0 y 0 (by omega) (by omega) ?_⟩
    by_cases c0 : a4 = 0
    · rw [if_pos c0, if_pos c0]
      exact i_allOf h.1 x1 x2 (hk _)
    · rw [if_neg c0, if_neg c0]
      by_cases c1 : a4 = 1
      · rw [if_pos c1, if_pos c1]
        exact i_teethTake h.1 x1 x2 (hk _)
      · rw [if_neg c1, if_neg c1]
        exact hk _
  by_cases c1 : a4 = 1
  · rw [if_pos c1]
    refine i_lostToTeeth hv ?_
    exact ref _ (by rw [if_neg (by rw [c1]; decide), if_pos c1])
  · rw [if_neg c1]
    refine ⟨n + 1, i_yearsL8 hf e2.1 e2.2 hn n 0 y 0 (by omega) (by omega) ?_⟩
    unfold wp_X8_years_J121
    by_cases c2 : a4 = 2
    · rw [if_pos c2]
      exact ref _ (by rw [if_neg (by rw [c2]; decide), if_neg c1])
    · rw [if_neg c2]
      refine i_whole hv ?_
      refine ref _ ?_
      rcases zS3 x8 x9 with q | q | q
      · rw [if_pos q]
      · exact absurd q c1
      · exact absurd q c2
end S
end
section
/-! the pad: faults, the tide -/
def zft (s : Nat → Int32) (c : Nat) : Nat → Nat → Int32
  | 0, _ => if c = 0 then 0 else -6
  | n + 1, i => if c ≤ i then (if c = 0 then 0 else -6) else if 24 ≤ i then nI i else if 48 ≤ (s i).toInt ∧ (s i).toInt ≤ 57 then zft s c n (i + 1) else nI i
theorem znI0 {c : Nat} (h : c ≤ 60) : (if nI c = (0 : Int32) then (0 : Int32) else -6) = if c = 0 then 0 else -6 := by
  by_cases h0 : c = 0
  · rw [if_pos h0, if_pos (by rw [h0]; rfl)]
  · rw [if_neg h0, if_neg (nI_ne0 (by omega) (by omega))]
theorem zl60 {i : Nat} (h : i < 60) : ¬ (60 : Int32) ≤ nI i := nI_ge (b := 60) h (by omega)
theorem zl24 {i : Nat} (h : i < 24) : ¬ (24 : Int32) ≤ nI i := nI_ge (b := 24) h (by omega)
theorem zg24 {i : Nat} (h : 24 ≤ i) (h2 : i < 2 ^ 31) : (24 : Int32) ≤ nI i := nI_le (a := 24) h h2
theorem zn24 {i : Nat} (h : i < 24) : ¬ nI i = (24 : Int32) := fun q => absurd ((nI_eq (a := i) (b := 24) (by omega) (by omega)).mp q) (by omega)
theorem zft_spec {s : Nat → Int32} {c : Nat} : ∀ n i, c ≤ i + n → i ≤ c → i ≤ 24 → (zft s c n i = -6 ∧ c ≠ 0 ∧ c ≤ 24 ∧ ∀ j, i ≤ j → j < c → 48 ≤ (s j).toInt ∧ (s j).toInt ≤ 57) ∨ (zft s c n i ≠ -6 ∧ 0 ≤ (zft s c n i).toInt) := by
  intro n
  induction n with
  | zero =>
    intro i h1 h2 h3
    unfold zft
    by_cases h0 : c = 0
    · right; rw [if_pos h0]; decide
    · left; rw [if_neg h0]; exact ⟨rfl, h0, by omega, fun j _ _ => by omega⟩
  | succ n ih =>
    intro i h1 h2 h3
    unfold zft
    by_cases c1 : c ≤ i
    · rw [if_pos c1]
      by_cases h0 : c = 0
      · right; rw [if_pos h0]; decide
      · left; rw [if_neg h0]; exact ⟨rfl, h0, by omega, fun j _ _ => by omega⟩
    · rw [if_neg c1]
      have hni : nI i ≠ -6 ∧ 0 ≤ (nI i).toInt := by
        have e := nI_toInt (n := i) (by omega)
        refine ⟨fun q => ?_, by omega⟩
        rw [q] at e
        have : (-6 : Int32).toInt = -6 := by decide
        omega
      by_cases c2 : 24 ≤ i
      · right; rw [if_pos c2]; exact hni
      · rw [if_neg c2]
        by_cases c3 : 48 ≤ (s i).toInt ∧ (s i).toInt ≤ 57
        · rw [if_pos c3]
          rcases ih (i + 1) (by omega) (by omega) (by omega) with ⟨q1, q2, q3, q4⟩ | q
          · left
            refine ⟨q1, q2, q3, fun j w1 w2 => ?_⟩
            rcases Nat.eq_or_lt_of_le w1 with e | e
            · rw [← e]; exact c3
            · exact q4 j e w2
          · right; exact q
        · right; rw [if_neg c3]; exact hni
section S
variable {σ : zST} {a1 a2 a3 a4 a5 : Int32} {P : Int32 → Prop} {c : Nat} {s : Nat → Int32}
theorem i_ftL8 (hc : σ.1 52 1 = nI c) (h60 : c ≤ 60) (hs : ∀ k, k < 60 → σ.1 53 k = s k) : ∀ n i, c ≤ i + n → i ≤ c → P (zft s c n i) → wp_X4_faultAsTide_L2 σ P (n + 1) (nI i) := by
  intro n
  induction n with
  | zero =>
    intro i hi hi2 hp
    unfold wp_X4_faultAsTide_L2
    rw [hc, if_pos (nI_le (by omega) (by omega))]
    rintro _ rfl
    rw [znI0 h60]
    exact hp
  | succ n ih =>
    intro i hi hi2 hp
    unfold wp_X4_faultAsTide_L2
    unfold zft at hp
    rw [hc]
    by_cases c1 : c ≤ i
    · rw [if_pos c1] at hp
      rw [if_pos (nI_le c1 (by omega))]
      rintro _ rfl
      rw [znI0 h60]
      exact hp
    · rw [if_neg c1] at hp
      rw [if_neg (nI_ge (by omega) (by omega)), if_neg (zl60 (by omega))]
      by_cases c2 : 24 ≤ i
      · rw [if_pos c2] at hp
        rw [if_pos (zg24 c2 (by omega))]
        exact hp
      · rw [if_neg c2] at hp
        rw [if_neg (zl24 (by omega)), nI_clamp (by omega), hs i (by omega)]
        refine ⟨vp_in_nI (by omega) (by omega), ?_⟩
        refine t_within (a := 48) (b := 57) rfl rfl (fun x1 x2 => ?_) (fun x => ?_)
        · rw [if_pos ⟨x1, x2⟩] at hp
          rw [nI_1]
          exact ih (i + 1) (by omega) (by omega) hp
        · rw [if_neg (by omega)] at hp
          exact hp
theorem i_ftL9 (hc : σ.1 69 27 = nI c) (h60 : c ≤ 60) (hs : ∀ k, k < 60 → σ.1 80 k = s k) : ∀ n i, c ≤ i + n → i ≤ c → i ≤ 24 → P (zft s c n i) → wp_X9_faultOfTide_L2 σ P (n + 1) (nI i) := by
  intro n
  induction n with
  | zero =>
    intro i hi hi2 hi3 hp
    unfold wp_X9_faultOfTide_L2
    rw [hc, if_pos (nI_le (by omega) (by omega))]
    rintro _ rfl
    rw [znI0 h60]
    exact hp
  | succ n ih =>
    intro i hi hi2 hi3 hp
    unfold wp_X9_faultOfTide_L2
    unfold zft at hp
    rw [hc]
    by_cases c1 : c ≤ i
    · rw [if_pos c1] at hp
      rw [if_pos (nI_le c1 (by omega))]
      rintro _ rfl
      rw [znI0 h60]
      exact hp
    · rw [if_neg c1] at hp
      rw [if_neg (nI_ge (by omega) (by omega))]
      by_cases c2 : 24 ≤ i
      · rw [if_pos c2] at hp
        rw [if_pos (by rw [show i = 24 by omega]; rfl)]
        exact hp
      · rw [if_neg c2] at hp
        rw [if_neg (zn24 (by omega)), nI_clamp (by omega), hs i (by omega)]
        refine ⟨vp_in_nI (by omega) (by omega), ?_⟩
        refine t_in (a := 48) (b := 57) rfl rfl (fun x1 x2 => ?_) (fun x => ?_)
        · rw [if_pos ⟨x1, x2⟩] at hp
          rw [nI_1]
          exact ih (i + 1) (by omega) (by omega) (by omega) hp
        · rw [if_neg (by omega)] at hp
          exact hp
/-! seasons -/
def zcan (d : Bool) (x : Int32) : Bool := match d with
  | true => decide (x = 67) || decide (x = 84) || decide (x = 87)
  | false => decide (x = 46) || (decide (65 ≤ x.toInt) && decide (x.toInt ≤ 70))
def zfs (s : Nat → Int32) (c : Nat) : Nat → Bool → Nat → Int32
  | 0, d, _ => if d then nI c else -6
  | n + 1, d, i => if c ≤ i then (if d then nI c else -6) else if zcan d (s i) then zfs s c n (!d && !decide (s i = 46)) (i + 1) else nI i
abbrev zb (d : Bool) : Int32 := if d then 1 else 0
theorem zbd (d : Bool) (x : Int32) : (if zb d = (0 : Int32) then (-6 : Int32) else x) = if d then x else -6 := by
  cases d
  · rfl
  · rfl
theorem i_holds {p : Int32} {i : Nat} (hp : p = nI i) (hc : σ.1 52 1 = nI c) (h60 : c ≤ 60) (hi : i < c) (h : P 1) : wp_X4_holds p σ P := by
  subst hp
  rintro _ rfl
  rw [hc, if_neg (nI_pos (by omega)), if_neg (nI_ge (by omega) (by omega)), if_neg (zl60 (by omega))]
  exact ⟨zB1, h⟩
theorem i_hourPasses {p : Int32} {i : Nat} (hp : p = nI i) (hc : σ.1 52 1 = nI c) (h60 : c ≤ 60) (hs : ∀ k, k < 60 → σ.1 53 k = s k) (hi : i < c) (h : P (zb (decide (s i = 46)))) : wp_X4_hourPassesAt p σ P := by
  refine i_holds hp hc h60 hi ⟨?_, ?_⟩
  · rw [if_neg (by decide), hp]
    exact ⟨vp_in_nI (by omega) (by omega), trivial⟩
  · rintro _ rfl
    rw [if_neg (by decide), hp, nI_clamp (by omega), hs i (by omega)]
    by_cases q : s i = 46
    · rw [if_pos q]
      rw [decide_eq_true q] at h
      exact ⟨zB1, h⟩
    · rw [if_neg q]
      rw [decide_eq_false q] at h
      exact ⟨zB0, h⟩
theorem i_shipAt {p : Int32} {i : Nat} (hp : p = nI i) (hc : σ.1 52 1 = nI c) (h60 : c ≤ 60) (hs : ∀ k, k < 60 → σ.1 53 k = s k) (hi : i < c) (h : P (if 65 ≤ (s i).toInt ∧ (s i).toInt ≤ 70 then s i - 65 else -6)) : wp_X4_shipAt p σ P := by
  refine i_holds hp hc h60 hi ?_
  rw [if_neg (by decide), hp, nI_clamp (by omega), hs i (by omega)]
  have hv : vp_in (nI i) 60 := vp_in_nI (by omega) (by omega)
  refine ⟨hv, ?_⟩
  refine i_within (a := 65) (b := 70) rfl rfl (fun x1 x2 => ⟨?_, ?_⟩) (fun x => ⟨?_, ?_⟩)
  · rw [if_neg (by decide)]; exact ⟨hv, trivial⟩
  · rintro _ rfl
    rw [if_neg (by decide)]
    rw [if_pos ⟨x1, x2⟩] at h
    exact h
  · rw [if_pos rfl]; trivial
  · rintro _ rfl
    rw [if_pos rfl]
    rw [if_neg (by omega)] at h
    exact h
theorem i_sideAt {p : Int32} {i : Nat} (hp : p = nI i) (hc : σ.1 52 1 = nI c) (h60 : c ≤ 60) (hs : ∀ k, k < 60 → σ.1 53 k = s k) (hi : i < c) (h : P (if s i = 67 then 2 else if s i = 84 then 0 else if s i = 87 then 1 else -6)) : wp_X4_sideAt p σ P := by
  refine i_holds hp hc h60 hi ?_
  rw [if_neg (by decide), hp, nI_clamp (by omega), hs i (by omega)]
  refine ⟨vp_in_nI (by omega) (by omega), ?_⟩
  by_cases q1 : s i = 67
  · rw [if_pos q1] at h ⊢; exact h
  · rw [if_neg q1] at h ⊢
    by_cases q2 : s i = 84
    · rw [if_pos q2] at h ⊢; exact h
    · rw [if_neg q2] at h ⊢
      by_cases q3 : s i = 87
      · rw [if_pos q3] at h ⊢; exact h
      · rw [if_neg q3] at h ⊢; exact h
theorem i_fsL8 (hc : σ.1 52 1 = nI c) (h60 : c ≤ 60) (hs : ∀ k, k < 60 → σ.1 53 k = s k) : ∀ n d i, c ≤ i + n → i ≤ c → P (zfs s c n d i) → wp_X4_faultAsSeason_L4 σ P (n + 1) (zb d) (nI i) := by
  intro n
  induction n with
  | zero =>
    intro d i hi hi2 hp
    unfold wp_X4_faultAsSeason_L4
    rw [hc, if_pos (nI_le (by omega) (by omega))]
    rintro _ rfl
    rw [zbd]
    exact hp
  | succ n ih =>
    intro d i hi hi2 hp
    unfold wp_X4_faultAsSeason_L4
    unfold zfs at hp
    rw [hc]
    by_cases c1 : c ≤ i
    · rw [if_pos c1] at hp
      rw [if_pos (nI_le c1 (by omega))]
      rintro _ rfl
      rw [zbd]
      exact hp
    · rw [if_neg c1] at hp
      rw [if_neg (nI_ge (by omega) (by omega)), if_neg (zl60 (by omega))]
      have hJ1 : zcan d (s i) = true → wp_X4_faultAsSeason_J63 (zb d) (nI i) 1 σ (fun v1 v2 => wp_X4_faultAsSeason_L4 σ P (n + 1) v1 v2) P := by
        intro hz
        rw [if_pos hz] at hp
        unfold wp_X4_faultAsSeason_J63
        rw [if_neg (by decide)]
        cases d
        · rw [if_pos (show zb false = (0 : Int32) from rfl)]
          refine i_hourPasses rfl hc h60 hs (by omega) ?_
          rintro _ rfl
          rw [nI_1]
          have := ih (!decide (s i = 46)) (i + 1) (by omega) (by omega) hp
          by_cases q : s i = 46
          · simpa [zb, q] using this
          · simpa [zb, q] using this
        · rw [if_neg (by decide), nI_1]
          exact ih false (i + 1) (by omega) (by omega) hp
      have hJ0 : zcan d (s i) = false → wp_X4_faultAsSeason_J63 (zb d) (nI i) 0 σ (fun v1 v2 => wp_X4_faultAsSeason_L4 σ P (n + 1) v1 v2) P := by
        intro hz
        rw [if_neg (by rw [hz]; decide)] at hp
        unfold wp_X4_faultAsSeason_J63
        rw [if_pos rfl]
        exact hp
      cases d
      · rw [if_pos (show zb false = (0 : Int32) from rfl)]
        refine i_hourPasses rfl hc h60 hs (by omega) ?_
        by_cases q : s i = 46
        · rw [decide_eq_true q, if_neg (by decide)]
          exact hJ1 (by simp [zcan, q])
        · rw [decide_eq_false q, if_pos (show zb false = (0 : Int32) from rfl)]
          refine i_shipAt rfl hc h60 hs (by omega) ?_
          by_cases w : 65 ≤ (s i).toInt ∧ (s i).toInt ≤ 70
          · rw [if_pos w]
            rintro _ rfl
            have hne : ¬ s i - 65 = -6 := by
              intro e
              have e2 := congrArg Int32.toInt e
              rw [zsubc (s i) 65 (n := 65) rfl (by omega) (by omega) (by omega)] at e2
              have e3 : (-6 : Int32).toInt = -6 := by decide
              omega
            rw [if_neg hne]
            exact hJ1 (by simp [zcan, w])
          · rw [if_neg w]
            rintro _ rfl
            rw [if_pos rfl]
            refine hJ0 ?_
            by_cases w1 : 65 ≤ (s i).toInt
            · have w2 : ¬ (s i).toInt ≤ 70 := fun z => w ⟨w1, z⟩
              simp [zcan, q, w1, w2]
            · simp [zcan, q, w1]
      · rw [if_neg (by decide)]
        refine i_sideAt rfl hc h60 hs (by omega) ?_
        rintro _ rfl
        by_cases q1 : s i = 67
        · rw [if_pos q1, if_neg (by decide)]; exact hJ1 (by simp [zcan, q1])
        · rw [if_neg q1]
          by_cases q2 : s i = 84
          · rw [if_pos q2, if_neg (by decide)]; exact hJ1 (by simp [zcan, q2])
          · rw [if_neg q2]
            by_cases q3 : s i = 87
            · rw [if_pos q3, if_neg (by decide)]; exact hJ1 (by simp [zcan, q3])
            · rw [if_neg q3, if_pos rfl]; exact hJ0 (by simp [zcan, q1, q2, q3])
theorem i_fsL9 (hc : σ.1 69 27 = nI c) (h60 : c ≤ 60) (hs : ∀ k, k < 60 → σ.1 80 k = s k) : ∀ n d i, c ≤ i + n → i ≤ c → P (zfs s c n d i) → wp_X9_faultOfSeason_L4 σ P (n + 1) (zb d) (nI i) := by
  intro n
  induction n with
  | zero =>
    intro d i hi hi2 hp
    unfold wp_X9_faultOfSeason_L4
    rw [hc, if_pos (nI_le (by omega) (by omega))]
    rintro _ rfl
    rw [zbd]
    exact hp
  | succ n ih =>
    intro d i hi hi2 hp
    unfold wp_X9_faultOfSeason_L4
    unfold zfs at hp
    rw [hc]
    by_cases c1 : c ≤ i
    · rw [if_pos c1] at hp
      rw [if_pos (nI_le c1 (by omega))]
      rintro _ rfl
      rw [zbd]
      exact hp
    · rw [if_neg c1] at hp
      rw [if_neg (nI_ge (by omega) (by omega))]
      refine ⟨vp_in_nI (by omega) (by omega), ?_⟩
      rw [nI_clamp (by omega), hs i (by omega)]
      rintro _ rfl
      have hJ1 : zcan d (s i) = true → wp_X9_faultOfSeason_J74 (zb d) (nI i) (s i) 1 σ (fun v1 v2 => wp_X9_faultOfSeason_L4 σ P (n + 1) v1 v2) P := by
        intro hz
        rw [if_pos hz] at hp
        unfold wp_X9_faultOfSeason_J74
        rw [if_neg (by decide)]
        rintro _ rfl
        rw [nI_1]
        cases d
        · rw [if_pos (show zb false = (0 : Int32) from rfl)]
          have := ih (!decide (s i = 46)) (i + 1) (by omega) (by omega) hp
          by_cases q : s i = 46
          · simpa [zb, q] using this
          · simpa [zb, q] using this
        · rw [if_neg (by decide)]
          exact ih false (i + 1) (by omega) (by omega) hp
      have hJ0 : zcan d (s i) = false → wp_X9_faultOfSeason_J74 (zb d) (nI i) (s i) 0 σ (fun v1 v2 => wp_X9_faultOfSeason_L4 σ P (n + 1) v1 v2) P := by
        intro hz
        rw [if_neg (by rw [hz]; decide)] at hp
        unfold wp_X9_faultOfSeason_J74
        rw [if_pos rfl]
        exact hp
      cases d
      · rw [if_pos (show zb false = (0 : Int32) from rfl)]
        by_cases q : s i = 46
        · rw [if_pos q]
          exact hJ1 (by simp [zcan, q])
        · rw [if_neg q]
          refine i_in (a := 65) (b := 70) rfl rfl (fun x1 x2 => ?_) (fun x => ?_)
          · rintro _ rfl
            rw [if_neg (by decide)]
            exact hJ1 (by simp [zcan, x1, x2])
          · rintro _ rfl
            rw [if_pos rfl]
            refine hJ0 ?_
            by_cases w1 : 65 ≤ (s i).toInt
            · have w2 : ¬ (s i).toInt ≤ 70 := by omega
              simp [zcan, q, w1, w2]
            · simp [zcan, q, w1]
      · rw [if_neg (by decide)]
        rintro _ rfl
        by_cases q2 : s i = 84
        · rw [if_pos q2]; exact hJ1 (by simp [zcan, q2])
        · rw [if_neg q2]
          by_cases q3 : s i = 87
          · rw [if_pos q3]; exact hJ1 (by simp [zcan, q3])
          · rw [if_neg q3]
            by_cases q1 : s i = 67
            · rw [if_pos q1]; exact hJ1 (by simp [zcan, q1])
            · rw [if_neg q1]; exact hJ0 (by simp [zcan, q1, q2, q3])
theorem i_faultAsTide (hc : σ.1 52 1 = nI c) (h60 : c ≤ 60) (hs : ∀ k, k < 60 → σ.1 53 k = s k) (h : P (zft s c 60 0)) : wp_X4_faultAsTide σ P := ⟨61, i_ftL8 hc h60 hs 60 0 (by omega) (by omega) h⟩
theorem i_faultOfTide (hc : σ.1 69 27 = nI c) (h60 : c ≤ 60) (hs : ∀ k, k < 60 → σ.1 80 k = s k) (h : P (zft s c 60 0)) : wp_X9_faultOfTide σ P := ⟨61, i_ftL9 hc h60 hs 60 0 (by omega) (by omega) (by omega) h⟩
theorem i_faultAsSeason (hc : σ.1 52 1 = nI c) (h60 : c ≤ 60) (hs : ∀ k, k < 60 → σ.1 53 k = s k) (h : P (zfs s c 60 false 0)) : wp_X4_faultAsSeason σ P := ⟨61, i_fsL8 hc h60 hs 60 false 0 (by omega) (by omega) h⟩
theorem i_faultOfSeason (hc : σ.1 69 27 = nI c) (h60 : c ≤ 60) (hs : ∀ k, k < 60 → σ.1 80 k = s k) (h : P (zfs s c 60 false 0)) : wp_X9_faultOfSeason σ P := ⟨61, i_fsL9 hc h60 hs 60 false 0 (by omega) (by omega) h⟩
theorem IP_c (h : IP σ) : ∃ c : Nat, c ≤ 60 ∧ σ.1 52 1 = nI c ∧ σ.1 69 27 = nI c ∧ ∀ k, k < 60 → σ.1 80 k = σ.1 53 k := by
  obtain ⟨h1, h2, h3, h4⟩ := h
  obtain ⟨c, hc, ec, -⟩ := zN (h := 60) h2 h3
  exact ⟨c, hc, ec, by rw [← h1]; exact ec, fun k hk => (h4 k hk).symm⟩
theorem s_fault (h : Inv σ) {K : Int32 → Int32 → Prop} (hk : ∀ r, K r r) : wp_X8_fault a1 σ (fun r => wp_X9_fault a1 σ (fun r' => K r r')) := by
  unfold wp_X8_fault wp_X9_fault
  obtain ⟨c, h60, c1, c2, c3⟩ := IP_c h.2.1
  refine t_within (a := 0) (b := 1) rfl rfl (fun x1 x2 => ?_) (fun x => ?_)
  · by_cases q : a1 = 0
    · rw [if_pos q]
      refine i_faultAsTide c1 h60 (fun k _ => rfl) ?_
      dsimp only
      rw [if_pos q]
      exact i_faultOfTide c2 h60 c3 (hk _)
    · rw [if_neg q]
      refine i_faultAsSeason c1 h60 (fun k _ => rfl) ?_
      dsimp only
      rw [if_neg q, if_pos ((zS2 x1 x2).resolve_left q)]
      exact i_faultOfSeason c2 h60 c3 (hk _)
  · dsimp only
    rw [if_neg, if_neg]
    · exact hk _
    all_goals (rintro rfl; revert x; decide)
end S
end
section
section S
variable {σ σ0 : zST} {a1 a2 a3 a4 a5 : Int32} {c : Nat} {s : Nat → Int32}
theorem i_tideL8 {P : Int32 → zST → Prop} (h24 : c ≤ 24) (hP : ∀ σ' : zST, (∀ a k, σ'.1 a k = if a = 8 ∧ k < c then σ0.1 53 k - 48 else σ0.1 a k) → wp_X4_clear σ' (fun r5 σ6 => P r5 σ6)) (hd : σ0.1 2 7 = nI c) :
    ∀ m i, m + i = c → ∀ σ' : zST, (∀ a k, σ'.1 a k = if a = 8 ∧ k < i then σ0.1 53 k - 48 else σ0.1 a k) → wp_X8_tide_L41 P (m + 1) (nI i) σ' := by
  intro m
  induction m with
  | zero =>
    intro i hi σ' hs
    unfold wp_X8_tide_L41
    rw [show σ'.1 2 7 = nI c from by rw [hs, if_neg (by omega)]; exact hd, if_pos (nI_le (by omega) (by omega))]
    refine hP σ' ?_
    rw [show c = i by omega]
    exact hs
  | succ m ih =>
    intro i hi σ' hs
    unfold wp_X8_tide_L41
    rw [show σ'.1 2 7 = nI c from by rw [hs, if_neg (by omega)]; exact hd, if_neg (nI_ge (by omega) (by omega))]
    refine ⟨vp_in_nI (by omega) (by omega), vp_in_nI (by omega) (by omega), ?_⟩
    rw [nI_1, nI_clamp (by omega)]
    refine ih (i + 1) (by omega) _ (fun a k => ?_)
    have e53 : σ'.1 53 i = σ0.1 53 i := by rw [hs, if_neg (by omega)]
    rw [wI_at, e53, hs]
    by_cases c1 : a = 8 ∧ k = i
    · rw [if_pos c1, if_pos (by omega), c1.2]
    · rw [if_neg c1]
      by_cases c2 : a = 8 ∧ k < i
      · rw [if_pos c2, if_pos (by omega)]
      · rw [if_neg c2, if_neg (by omega)]
theorem i_tideL9 {P : Int32 → zST → Prop} (h24 : c ≤ 24) (hP : ∀ σ' : zST, (∀ a k, σ'.1 a k = if a = 74 ∧ k < c then σ0.1 80 k - 48 else σ0.1 a k) → wp_X9_tide_J41 σ' P) (hd : σ0.1 69 27 = nI c) :
    ∀ m i, m + i = c → ∀ σ' : zST, (∀ a k, σ'.1 a k = if a = 74 ∧ k < i then σ0.1 80 k - 48 else σ0.1 a k) → wp_X9_tide_L12 P (m + 1) (nI i) σ' := by
  intro m
  induction m with
  | zero =>
    intro i hi σ' hs
    unfold wp_X9_tide_L12
    rw [show σ'.1 69 27 = nI c from by rw [hs, if_neg (by omega)]; exact hd, if_pos (nI_le (by omega) (by omega))]
    refine hP σ' ?_
    rw [show c = i by omega]
    exact hs
  | succ m ih =>
    intro i hi σ' hs
    unfold wp_X9_tide_L12
    rw [show σ'.1 69 27 = nI c from by rw [hs, if_neg (by omega)]; exact hd, if_neg (nI_ge (by omega) (by omega))]
    refine ⟨vp_in_nI (by omega) (by omega), vp_in_nI (by omega) (by omega), ?_⟩
    rw [nI_1, nI_clamp (by omega)]
    refine ih (i + 1) (by omega) _ (fun a k => ?_)
    have e53 : σ'.1 80 i = σ0.1 80 i := by rw [hs, if_neg (by omega)]
    rw [wI_at, e53, hs]
    by_cases c1 : a = 74 ∧ k = i
    · rw [if_pos c1, if_pos (by omega), c1.2]
    · rw [if_neg c1]
      by_cases c2 : a = 74 ∧ k < i
      · rw [if_pos c2, if_pos (by omega)]
      · rw [if_neg c2, if_neg (by omega)]
theorem s_tide (h : Inv σ) {K : Int32 → Int32 → zST → Prop} (hk : ∀ r σ', Inv σ' → K r r σ') : wp_X8_tide σ (fun r σ1 => wp_X9_tide σ1 (fun r' σ2 => K r r' σ2)) := by
  unfold wp_X8_tide wp_X9_tide
  obtain ⟨c, h60, c1, c2, c3⟩ := IP_c h.2.1
  refine i_faultAsTide c1 h60 (fun k _ => rfl) ?_
  rcases zft_spec (s := σ.1 53) (c := c) 60 0 (by omega) (by omega) (by omega) with ⟨q1, q2, q3, q4⟩ | ⟨q1, q2⟩
  · dsimp only
    rw [if_pos q1, c1, if_neg (show ¬ (24 : Int32) < nI c from by rw [Int32.not_lt]; exact nI_le (b := 24) q3 (by omega))]
    refine ⟨c + 1, i_tideL8 (σ0 := wI σ 2 7 (nI c)) q3 (fun σ1 hs1 => ?_) rfl c 0 rfl _ (fun a k => by rw [if_neg (by omega)])⟩
    have hs1' : ∀ a k, σ1.1 a k = if a = 8 ∧ k < c then σ.1 53 k - 48 else if a = 2 ∧ k = 7 then nI c else σ.1 a k := fun a k => by rw [hs1]; rfl
    rintro _ rfl
    refine i_faultOfTide (c := c) (s := σ.1 53) (by rw [wI_at, if_neg (by omega), hs1', if_neg (by omega), if_neg (by omega)]; exact c2) h60 (fun k hk => by rw [wI_at, if_neg (by omega), hs1', if_neg (by omega), if_neg (by omega)]; exact c3 k hk) ?_
    rw [if_pos (show zft (σ.1 53) c 60 0 < 0 by rw [q1]; decide)]
    refine ⟨c + 1, i_tideL9 (σ0 := wI σ1 52 1 0) q3 (fun σ2 hs2 => ?_) (by rw [wI_at, if_neg (by omega), hs1', if_neg (by omega), if_neg (by omega)]; exact c2) c 0 rfl _ (fun a k => by rw [if_neg (by omega)])⟩
    have hs2' : ∀ a k, σ2.1 a k = if a = 74 ∧ k < c then σ.1 80 k - 48 else if a = 52 ∧ k = 1 then 0 else if a = 8 ∧ k < c then σ.1 53 k - 48 else if a = 2 ∧ k = 7 then nI c else σ.1 a k := fun a k => by
      rw [hs2, wI_at, wI_at, if_neg (show ¬ (80 = 52 ∧ k = 1) by omega), hs1' 80 k, if_neg (show ¬ (80 = 8 ∧ k < c) by omega), if_neg (show ¬ (80 = 2 ∧ k = 7) by omega), hs1' a k]
    unfold wp_X9_tide_J41
    rintro _ rfl
    have e1 : σ1.1 52 1 = nI c := by rw [hs1', if_neg (by omega), if_neg (by omega)]; exact c1
    have e2 : σ2.1 69 27 = nI c := by rw [hs2', if_neg (by omega), if_neg (by omega), if_neg (by omega), if_neg (by omega)]; exact c2
    have hs3 : ∀ a k, (wI (wI σ2 69 14 (σ2.1 69 27)) 69 27 0).1 a k = if a = 69 ∧ k = 27 then 0 else if a = 69 ∧ k = 14 then nI c else if a = 74 ∧ k < c then σ.1 80 k - 48 else if a = 52 ∧ k = 1 then 0 else if a = 8 ∧ k < c then σ.1 53 k - 48 else if a = 2 ∧ k = 7 then nI c else σ.1 a k := fun a k => by rw [wI_at, wI_at, e2, hs2' a k]
    generalize wI (wI σ2 69 14 (σ2.1 69 27)) 69 27 0 = σ3 at hs3 ⊢
    rw [e1, show σ3.1 69 14 = nI c by rw [hs3, if_neg (by omega), if_pos ⟨rfl, rfl⟩]]
    refine hk _ _ ⟨IB_upd h.1 (fun r k hk => ?_) (fun k hk => ?_) (fun k hk => ?_), ?_, II_fr (fun a k x => ?_) h.2.2⟩
    · have hr := zLen13 hk
      match r, hr with
      | 0, _ =>
        match k, hk with
        | 0, _ => left; simp only [cV, mV, hs3]; repeat rw [if_neg (by omega)]
                  exact ⟨rfl, rfl⟩
        | 1, _ =>
          right
          have w1 : σ3.1 2 7 = nI c := by rw [hs3, if_neg (by omega), if_neg (by omega), if_neg (by omega), if_neg (by omega), if_neg (by omega), if_pos ⟨rfl, rfl⟩]
          have w2 : σ3.1 69 14 = nI c := by rw [hs3, if_neg (by omega), if_pos ⟨rfl, rfl⟩]
          show σ3.1 2 7 = σ3.1 69 14 ∧ 1 ≤ (σ3.1 2 7).toInt ∧ (σ3.1 2 7).toInt ≤ 24
          rw [w1, w2, nI_toInt (by omega)]
          exact ⟨rfl, by omega, by omega⟩
        | 2, _ => left; simp only [cV, mV, hs3]; repeat rw [if_neg (by omega)]
                  exact ⟨rfl, rfl⟩
        | 3, _ => left; simp only [cV, mV, hs3]; repeat rw [if_neg (by omega)]
                  exact ⟨rfl, rfl⟩
        | 4, _ => left; simp only [cV, mV, hs3]; repeat rw [if_neg (by omega)]
                  exact ⟨rfl, rfl⟩
        | k + 5, h5 => exact absurd h5 (by simp [zLen])
      | 1, _ => left; simp only [cV, mV, hs3]; repeat rw [if_neg (by omega)]
                exact ⟨rfl, rfl⟩
      | 2, _ => left; simp only [cV, mV, hs3]; repeat rw [if_neg (by omega)]
                exact ⟨rfl, rfl⟩
      | 3, _ => left; simp only [cV, mV, hs3]; repeat rw [if_neg (by omega)]
                exact ⟨rfl, rfl⟩
      | 4, _ => left; simp only [cV, mV, hs3]; repeat rw [if_neg (by omega)]
                exact ⟨rfl, rfl⟩
      | 5, _ => have h8 : k < 8 := hk
                left; simp only [cV, mV, hs3]; repeat rw [if_neg (by omega)]
                exact ⟨rfl, rfl⟩
      | 6, _ =>
        have h8 : k < 24 := hk
        by_cases e : k < c
        · right
          have w1 : σ3.1 8 k = σ.1 53 k - 48 := by rw [hs3, if_neg (by omega), if_neg (by omega), if_neg (by omega), if_neg (by omega), if_pos ⟨rfl, e⟩]
          have w2 : σ3.1 74 k = σ.1 80 k - 48 := by rw [hs3, if_neg (by omega), if_neg (by omega), if_pos ⟨rfl, e⟩]
          have w3 := q4 k (by omega) e
          have w4 := zsubc (σ.1 53 k) 48 (n := 48) rfl (by omega) (by omega) (by omega)
          show σ3.1 8 k = σ3.1 74 k ∧ 0 ≤ (σ3.1 8 k).toInt ∧ (σ3.1 8 k).toInt ≤ 9
          rw [w1, w2, c3 k (by omega), w4]
          exact ⟨rfl, by omega, by omega⟩
        · left; simp only [cV, mV, hs3]; repeat rw [if_neg (by omega)]
          exact ⟨rfl, rfl⟩
      | 7, _ => have h8 : k < 3 := hk
                left; simp only [cV, mV, hs3]; repeat rw [if_neg (by omega)]
                exact ⟨rfl, rfl⟩
      | 8, _ => left; simp only [cV, mV, hs3]; repeat rw [if_neg (by omega)]
                exact ⟨rfl, rfl⟩
      | 9, _ => left; simp only [cV, mV, hs3]; repeat rw [if_neg (by omega)]
                exact ⟨rfl, rfl⟩
      | 10, _ => left; simp only [cV, mV, hs3]; repeat rw [if_neg (by omega)]
                 exact ⟨rfl, rfl⟩
      | 11, _ => left; simp only [cV, mV, hs3]; repeat rw [if_neg (by omega)]
                 exact ⟨rfl, rfl⟩
      | 12, _ => left; simp only [cV, mV, hs3]; repeat rw [if_neg (by omega)]
                 exact ⟨rfl, rfl⟩
    · have := zsh_many h.1 hk
      simp only [cV, hs3] at this ⊢
      repeat rw [if_neg (by omega)]
      exact this
    · have := b_moor h.1 hk
      have w1 : σ3.1 2 0 = σ.1 2 0 := by rw [hs3]; repeat rw [if_neg (by omega)]
      have w2 : σ3.1 3 k = σ.1 3 k := by rw [hs3]; repeat rw [if_neg (by omega)]
      have w3 : σ3.1 4 k = σ.1 4 k := by rw [hs3]; repeat rw [if_neg (by omega)]
      show zH (σ3.1 2 0) (nI k) → σ3.1 3 k = 0 → 1 ≤ (σ3.1 4 k).toInt
      rw [w1, w2, w3]
      exact this
    · have w1 : σ3.1 52 1 = 0 := by rw [hs3, if_neg (by omega), if_neg (by omega), if_neg (by omega), if_pos ⟨rfl, rfl⟩]
      have w2 : σ3.1 69 27 = 0 := by rw [hs3, if_pos ⟨rfl, rfl⟩]
      refine ⟨by rw [w1, w2], by rw [w1]; decide, by rw [w1]; decide, fun k hk => ?_⟩
      rw [hs3, hs3]
      repeat rw [if_neg (by omega)]
      exact (c3 k hk).symm
    · rw [hs3]
      repeat rw [if_neg (by omega)]
  · dsimp only
    rw [if_neg q1]
    refine i_faultOfTide c2 h60 c3 ?_
    rw [if_neg (show ¬ zft (σ.1 53) c 60 0 < 0 by rw [Int32.lt_iff_toInt_lt]; show ¬ _ < (0 : Int); omega)]
    exact hk _ _ h
end S
end
