/-! PURE from here: what a store is worth, and what stays true of it -/
def zpc (p0 : Int32) : Int32 :=
  let x1 : Int32 := (p0 - (((p0.toUInt32 >>> ((1 : Int32).toUInt32 &&& Int32.toUInt32 31)).toInt32) &&& (1431655765 : Int32)))
  let x2 : Int32 := ((x1 &&& (858993459 : Int32)) + (((x1.toUInt32 >>> ((2 : Int32).toUInt32 &&& Int32.toUInt32 31)).toInt32) &&& (858993459 : Int32)))
  let x3 : Int32 := ((x2 + ((x2.toUInt32 >>> ((4 : Int32).toUInt32 &&& Int32.toUInt32 31)).toInt32)) &&& (252645135 : Int32))
  let x4 : Int32 := (x3 + ((x3.toUInt32 >>> ((8 : Int32).toUInt32 &&& Int32.toUInt32 31)).toInt32))
  let x5 : Int32 := (x4 + ((x4.toUInt32 >>> ((16 : Int32).toUInt32 &&& Int32.toUInt32 31)).toInt32))
  x5 &&& (63 : Int32)
theorem i_bitCount {p0 : Int32} {σ : zST} {Post : Int32 → Prop} (h : Post (zpc p0)) : wp_J6_bitCount_0f7a4 p0 σ Post := by
  intro x1 h1 x2 h2 x3 h3 x4 h4 x5 h5
  subst h1 h2 h3 h4 h5
  exact h
def zones : Nat → Int32 → Int32 → Option Int32
  | 0, _, _ => none
  | N + 1, v1, v2 => if v2 = 0 then some v1 else zones N (v1 + 1) (v2 &&& (v2 - 1))
theorem i_ones_L {σ : zST} {Post : Int32 → Prop} : ∀ (N : Nat) (v1 v2 r : Int32), zones N v1 v2 = some r → Post r → wp_X9_ones_L4 σ Post N v1 v2
  | 0, _, _, _, h, _ => by simp [zones] at h
  | N + 1, v1, v2, r, h, hp => by
    unfold zones at h
    unfold wp_X9_ones_L4
    by_cases hv : v2 = 0
    · rw [if_pos hv] at h ⊢
      rw [Option.some.inj h]
      exact hp
    · rw [if_neg hv] at h ⊢
      intro x2 hx
      subst hx
      exact i_ones_L N _ _ r h hp
theorem zones_all : ∀ n, n < 256 → zones 9 0 (nI n) = some (zpc (nI n)) := by decide +kernel
theorem zpc_all : ∀ n, n < 256 → 0 ≤ (zpc (nI n)).toInt ∧ (zpc (nI n)).toInt ≤ 8 := by decide +kernel
theorem zN {x : Int32} {h : Nat} (h0 : 0 ≤ x.toInt) (h1 : x.toInt ≤ h) : ∃ n : Nat, n ≤ h ∧ x = nI n ∧ x.toInt = (n : Int) := by
  refine ⟨x.toInt.toNat, by omega, ?_, by omega⟩
  apply Int32.toInt_inj.mp
  have := (fb_rng x).2
  rw [nI_toInt (by omega)]
  omega
theorem zpc_b {x : Int32} (h0 : 0 ≤ x.toInt) (h1 : x.toInt ≤ 255) : 0 ≤ (zpc x).toInt ∧ (zpc x).toInt ≤ 8 := by
  obtain ⟨n, hn, rfl, -⟩ := zN (h := 255) h0 (by omega)
  exact zpc_all n (by omega)
theorem i_ones {x : Int32} {σ : zST} {Post : Int32 → Prop} (h0 : 0 ≤ x.toInt) (h1 : x.toInt ≤ 255) (h : Post (zpc x)) : wp_X9_ones x σ Post := by
  obtain ⟨n, hn, rfl, -⟩ := zN (h := 255) h0 (by omega)
  exact ⟨9, i_ones_L 9 0 _ _ (zones_all n (by omega)) h⟩
/-! tests -/
theorem zB0 : zB 0 := rfl
theorem zB1 : zB 1 := rfl
theorem zi1 {A B : Prop} (h : B) : (if (1 : Int32) = 0 then A else B) := by rw [if_neg (by decide)]; exact h
theorem zi0 {A B : Prop} (h : A) : (if (0 : Int32) = 0 then A else B) := by rw [if_pos rfl]; exact h
theorem i_within {p lo hi : Int32} {σ : zST} {P : Int32 → Prop} {a b : Int} (ha : lo.toInt = a) (hb : hi.toInt = b) (h1 : a ≤ p.toInt → p.toInt ≤ b → P 1) (h0 : p.toInt < a ∨ b < p.toInt → P 0) : wp_X8_within p lo hi σ P := by
  subst ha hb
  intro z hz
  by_cases c1 : p < lo
  · rw [if_pos c1] at hz
    subst hz
    exact ⟨zB0, h0 (Or.inl (Int32.lt_iff_toInt_lt.mp c1))⟩
  · rw [if_neg c1] at hz
    by_cases c2 : hi < p
    · rw [if_pos c2] at hz
      subst hz
      exact ⟨zB0, h0 (Or.inr (Int32.lt_iff_toInt_lt.mp c2))⟩
    · rw [if_neg c2] at hz
      subst hz
      rw [Int32.lt_iff_toInt_lt] at c1 c2
      exact ⟨zB1, h1 (by omega) (by omega)⟩
theorem t_within {p lo hi : Int32} {σ : zST} {A B : Prop} {a b : Int} (ha : lo.toInt = a) (hb : hi.toInt = b) (h1 : a ≤ p.toInt → p.toInt ≤ b → B) (h0 : p.toInt < a ∨ b < p.toInt → A) : wp_X8_within p lo hi σ (fun r => if r = 0 then A else B) :=
  i_within ha hb (fun x y => zi1 (h1 x y)) (fun x => zi0 (h0 x))
theorem i_in {p : Int32} {lo hi : Int64} {σ : zST} {P : Int32 → Prop} {a b : Int} (ha : lo.toInt = a) (hb : hi.toInt = b) (h1 : a ≤ p.toInt → p.toInt ≤ b → P 1) (h0 : p.toInt < a ∨ b < p.toInt → P 0) : wp_X9_in p.toInt64 lo hi σ P := by
  subst ha hb
  intro z hz
  simp only [lg_cmp_lt, lg_cmp_gt, Int64.lt_iff_toInt_lt, Int32.toInt_toInt64] at hz
  by_cases c1 : p.toInt < lo.toInt
  · rw [if_pos c1] at hz
    subst hz
    exact ⟨zB0, h0 (Or.inl c1)⟩
  · rw [if_neg c1] at hz
    by_cases c2 : hi.toInt < p.toInt
    · rw [if_pos c2] at hz
      subst hz
      exact ⟨zB0, h0 (Or.inr c2)⟩
    · rw [if_neg c2] at hz
      subst hz
      exact ⟨zB1, h1 (by omega) (by omega)⟩
theorem t_in {p : Int32} {lo hi : Int64} {σ : zST} {A B : Prop} {a b : Int} (ha : lo.toInt = a) (hb : hi.toInt = b) (h1 : a ≤ p.toInt → p.toInt ≤ b → B) (h0 : p.toInt < a ∨ b < p.toInt → A) : wp_X9_in p.toInt64 lo hi σ (fun r => if r = 0 then A else B) :=
  i_in ha hb (fun x y => zi1 (h1 x y)) (fun x => zi0 (h0 x))
theorem t_isNumber {p : Int32} {σ : zST} {A B : Prop} (h1 : 0 ≤ p.toInt → p.toInt ≤ 5 → B) (h0 : p.toInt < 0 ∨ 5 < p.toInt → A) : wp_X9_isNumber p σ (fun r => if r = 0 then A else B) :=
  i_in (a := 0) (b := 5) rfl rfl (fun x y => ⟨zB1, zi1 (h1 x y)⟩) (fun x => ⟨zB0, zi0 (h0 x)⟩)
theorem t_isHour {p : Int32} {σ : zST} {A B : Prop} (h1 : 0 ≤ p.toInt → p.toInt ≤ 999 → B) (h0 : p.toInt < 0 ∨ 999 < p.toInt → A) : wp_X9_isHour p σ (fun r => if r = 0 then A else B) :=
  i_in (a := 0) (b := 999) rfl rfl (fun x y => ⟨zB1, zi1 (h1 x y)⟩) (fun x => ⟨zB0, zi0 (h0 x)⟩)
theorem t_isSide {p : Int32} {σ : zST} {A B : Prop} (h1 : 0 ≤ p.toInt → p.toInt ≤ 2 → B) (h0 : p.toInt < 0 ∨ 2 < p.toInt → A) : wp_X9_isSide p σ (fun r => if r = 0 then A else B) :=
  i_in (a := 0) (b := 2) rfl rfl (fun x y => ⟨zB1, zi1 (h1 x y)⟩) (fun x => ⟨zB0, zi0 (h0 x)⟩)
theorem t_isHour8 {p : Int32} {σ : zST} {A B : Prop} (h1 : 0 ≤ p.toInt → p.toInt ≤ 999 → B) (h0 : p.toInt < 0 ∨ 999 < p.toInt → A) : wp_X8_isHour p σ (fun r => if r = 0 then A else B) :=
  i_within (a := 0) (b := 999) rfl rfl (fun x y => ⟨zB1, zi1 (h1 x y)⟩) (fun x => ⟨zB0, zi0 (h0 x)⟩)
theorem zv {x : Int32} {n : Nat} (h0 : 0 ≤ x.toInt) (h1 : x.toInt < n) : vp_in x n := vp_in_iff.mpr ⟨h0, h1⟩
theorem zcl {x : Int32} {n : Nat} (h0 : 0 ≤ x.toInt) (h1 : x.toInt < n) : x.toNatClampNeg < n := by
  show x.toInt.toNat < n
  omega
/-! views: books of the class, of the reference, of an image -/
def cV (σ : zST) (b r k : Nat) : Int32 := match r with
  | 0 => match k with | 0 => σ.1 (b + 1) 0 | 1 => σ.1 (b + 1) 7 | 2 => σ.1 (b + 9) 0 | 3 => σ.1 (b + 12) 0 | _ => σ.1 (b + 14) 0
  | 1 => σ.1 (b + 2) k | 2 => σ.1 (b + 3) k | 3 => σ.1 (b + 4) k | 4 => σ.1 (b + 5) k | 5 => σ.1 (b + 6) k | 6 => σ.1 (b + 7) k | 7 => σ.1 (b + 8) k
  | 8 => σ.1 (b + 10) k | 9 => σ.1 (b + 11) k | 10 => σ.1 (b + 13) k | 11 => σ.1 (b + 15) k | _ => σ.1 (b + 16) k
def mV (σ : zST) (r k : Nat) : Int32 := match r with
  | 0 => match k with | 0 => σ.1 69 0 | 1 => σ.1 69 14 | 2 => σ.1 69 18 | 3 => σ.1 69 21 | _ => σ.1 69 25
  | 1 => σ.1 73 k | 2 => σ.1 70 k | 3 => σ.1 71 k | 4 => σ.1 72 k | 5 => σ.1 69 (5 + k) | 6 => σ.1 74 k | 7 => σ.1 69 (15 + k)
  | 8 => σ.1 75 k | 9 => σ.1 76 k | 10 => σ.1 77 k | 11 => σ.1 78 k | _ => σ.1 79 k - zpc (σ.1 78 k)
def kV (σ : zST) (n r k : Nat) : Int32 := match r with
  | 0 => match k with | 0 => σ.1 85 (120 * n + 0) | 1 => σ.1 85 (120 * n + 9) | 2 => σ.1 85 (120 * n + 13) | 3 => σ.1 85 (120 * n + 14) | _ => σ.1 85 (120 * n + 15)
  | 1 => σ.1 85 (120 * n + (19 + 6 * k)) | 2 => σ.1 85 (120 * n + (16 + 6 * k)) | 3 => σ.1 85 (120 * n + (17 + 6 * k)) | 4 => σ.1 85 (120 * n + (18 + 6 * k)) | 5 => σ.1 85 (120 * n + (1 + k)) | 6 => σ.1 85 (120 * n + (68 + k)) | 7 => σ.1 85 (120 * n + (10 + k))
  | 8 => σ.1 85 (120 * n + (52 + 2 * k)) | 9 => σ.1 85 (120 * n + (53 + 2 * k)) | 10 => σ.1 85 (120 * n + (60 + k)) | 11 => σ.1 85 (120 * n + (20 + 6 * k)) | _ => σ.1 85 (120 * n + (21 + 6 * k)) - zpc (σ.1 85 (120 * n + (20 + 6 * k)))
def zLen (r : Nat) : Nat := ([5, 6, 6, 6, 6, 8, 24, 3, 4, 4, 8, 6, 6] : List Nat).getD r 0
def zLo (r k : Nat) : Int := match r with
  | 0 => if k = 1 then 1 else 0
  | 5 => if k = 0 then 1 else 0
  | 7 => -2147483648
  | _ => 0
def zHi (r k : Nat) : Int := match r with
  | 0 => ([63, 24, 15, 255, 6] : List Int).getD k 0
  | 1 => 2 | 2 => 30 | 3 => 9 | 4 => 999
  | 5 => ([9, 99, 20, 60, 99, 99, 99, 65536] : List Int).getD k 0
  | 6 => 9 | 7 => 2147483647 | 8 => 999 | 9 => 9999 | 10 => 9 | 11 => 255 | _ => 8
abbrev zH (x p : Int32) : Prop := ((x >>> (p &&& 31)) &&& 1) = 1
def OKV (V : Nat → Nat → Int32) : Prop := (∀ r k, k < zLen r → zLo r k ≤ (V r k).toInt ∧ (V r k).toInt ≤ zHi r k) ∧ (∀ k, k < 6 → (V 12 k).toInt + (zpc (V 11 k)).toInt ≤ 8) ∧ ∀ k, k < 6 → zH (V 0 0) (nI k) → V 1 k = 0 → 1 ≤ (V 2 k).toInt
def IB (σ : zST) : Prop := (∀ r k, k < zLen r → cV σ 1 r k = mV σ r k) ∧ OKV (cV σ 1)
def IP (σ : zST) : Prop := σ.1 52 1 = σ.1 69 27 ∧ 0 ≤ (σ.1 52 1).toInt ∧ (σ.1 52 1).toInt ≤ 60 ∧ ∀ k, k < 60 → σ.1 53 k = σ.1 80 k
def II (σ : zST) : Prop := (0 ≤ (σ.1 0 3).toInt ∧ (σ.1 0 3).toInt ≤ 3) ∧ ∀ n, n < 2 → σ.1 86 n = ((σ.1 0 3) >>> (nI n &&& 31)) &&& 1 ∧ (σ.1 86 n ≠ 0 → (∀ r k, k < zLen r → cV σ (18 + 17 * n) r k = kV σ n r k) ∧ OKV (cV σ (18 + 17 * n)))
def Inv (σ : zST) : Prop := IB σ ∧ IP σ ∧ II σ
theorem zLen13 {r k : Nat} (h : k < zLen r) : r < 13 := by
  rcases Nat.lt_or_ge r 13 with h1 | h1
  · exact h1
  · have : zLen r = 0 := by
      unfold zLen
      rw [List.getD_eq_getElem?_getD, List.getElem?_eq_none (by simpa using h1)]
      rfl
    omega
theorem zLen24 {r k : Nat} (h : k < zLen r) : k < 24 := by
  have h1 := zLen13 h
  have : ∀ r, r < 13 → zLen r ≤ 24 := by decide
  have := this r h1
  omega
theorem cV_fr {σ σ' : zST} {b : Nat} (h : ∀ a k, b + 1 ≤ a → a ≤ b + 16 → σ'.1 a k = σ.1 a k) (r k : Nat) : cV σ' b r k = cV σ b r k := by
  unfold cV
  split
  · split <;> exact h _ _ (by omega) (by omega)
  all_goals exact h _ _ (by omega) (by omega)
theorem mV_fr {σ σ' : zST} (h : ∀ a k, (70 ≤ a ∧ a ≤ 79) ∨ (a = 69 ∧ k ≤ 26) → σ'.1 a k = σ.1 a k) {r k : Nat} (hk : k < zLen r) : mV σ' r k = mV σ r k := by
  have hr := zLen13 hk
  have hkk := zLen24 hk
  unfold mV
  split
  · split <;> exact h _ _ (by omega)
  all_goals first
    | exact h _ _ (by omega)
    | (have : k < 8 := hk; exact h _ _ (by omega))
    | (have : k < 3 := hk; exact h _ _ (by omega))
    | (rw [h 79 k (by omega), h 78 k (by omega)])
theorem kV_fr {σ σ' : zST} {n : Nat} (h : ∀ k, σ'.1 85 k = σ.1 85 k) (r k : Nat) : kV σ' n r k = kV σ n r k := by
  unfold kV
  split
  · split <;> exact h _
  all_goals first
    | exact h _
    | rw [h, h]
theorem OKV_fr {V V' : Nat → Nat → Int32} (h : ∀ r k, k < zLen r → V' r k = V r k) (hV : OKV V) : OKV V' := by
  refine ⟨fun r k hk => ?_, fun k hk => ?_, fun k hk => ?_⟩
  · rw [h r k hk]
    exact hV.1 r k hk
  · rw [h 12 k hk, h 11 k hk]
    exact hV.2.1 k hk
  · rw [h 0 0 (by decide), h 1 k hk, h 2 k hk]
    exact hV.2.2 k hk
theorem IB_fr {σ σ' : zST} (h : ∀ a k, (2 ≤ a ∧ a ≤ 17) ∨ (70 ≤ a ∧ a ≤ 79) ∨ (a = 69 ∧ k ≤ 26) → σ'.1 a k = σ.1 a k) (hI : IB σ) : IB σ' := by
  have h1 : ∀ r k, cV σ' 1 r k = cV σ 1 r k := cV_fr (fun a k x y => h a k (by omega))
  refine ⟨fun r k hk => ?_, OKV_fr (fun r k _ => h1 r k) hI.2⟩
  rw [h1, hI.1 r k hk]
  exact (mV_fr (fun a k x => h a k (by omega)) hk).symm
theorem IP_fr {σ σ' : zST} (h : ∀ a k, (52 ≤ a ∧ a ≤ 53) ∨ a = 80 ∨ (a = 69 ∧ k = 27) → σ'.1 a k = σ.1 a k) (hI : IP σ) : IP σ' := by
  obtain ⟨h1, h2, h3, h4⟩ := hI
  refine ⟨?_, ?_, ?_, fun k hk => ?_⟩
  · rw [h 52 1 (by omega), h 69 27 (by omega)]; exact h1
  · rw [h 52 1 (by omega)]; exact h2
  · rw [h 52 1 (by omega)]; exact h3
  · rw [h 53 k (by omega), h 80 k (by omega)]; exact h4 k hk
theorem II_fr {σ σ' : zST} (h : ∀ a k, a = 0 ∨ (18 ≤ a ∧ a ≤ 51) ∨ a = 85 ∨ a = 86 → σ'.1 a k = σ.1 a k) (hI : II σ) : II σ' := by
  obtain ⟨h1, h2⟩ := hI
  refine ⟨by rw [h 0 3 (by omega)]; exact h1, fun n hn => ?_⟩
  obtain ⟨h3, h4⟩ := h2 n hn
  have e1 : ∀ r k, cV σ' (18 + 17 * n) r k = cV σ (18 + 17 * n) r k := cV_fr (fun a k x y => h a k (by omega))
  have e2 : ∀ r k, kV σ' n r k = kV σ n r k := kV_fr (fun k => h 85 k (by omega))
  rw [h 86 n (by omega), h 0 3 (by omega)]
  refine ⟨h3, fun hz => ?_⟩
  obtain ⟨h5, h6⟩ := h4 hz
  exact ⟨fun r k hk => by rw [e1, e2]; exact h5 r k hk, OKV_fr (fun r k _ => e1 r k) h6⟩
theorem Inv_fr {σ σ' : zST} (h : ∀ a k, a = 0 ∨ (2 ≤ a ∧ a ≤ 53) ∨ (70 ≤ a ∧ a ≤ 80) ∨ a = 85 ∨ a = 86 ∨ (a = 69 ∧ k ≤ 27) → σ'.1 a k = σ.1 a k) (hI : Inv σ) : Inv σ' :=
  ⟨IB_fr (fun a k x => h a k (by omega)) hI.1, IP_fr (fun a k x => h a k (by omega)) hI.2.1, II_fr (fun a k x => h a k (by omega)) hI.2.2⟩
theorem zInit1 : ∀ r, r < 13 → ∀ k, k < zLen r → cV zS0 1 r k = mV zS0 r k := by decide +kernel
theorem zInit2 : ∀ r, r < 13 → ∀ k, k < zLen r → zLo r k ≤ (cV zS0 1 r k).toInt ∧ (cV zS0 1 r k).toInt ≤ zHi r k := by decide +kernel
theorem zInit3 : ∀ k, k < 6 → (cV zS0 1 12 k).toInt + (zpc (cV zS0 1 11 k)).toInt ≤ 8 := by decide +kernel
theorem zInit4 : ∀ k, k < 6 → ¬ zH (cV zS0 1 0 0) (nI k) := by decide +kernel
theorem Inv0 : Inv zS0 := by
  refine ⟨⟨fun r k hk => zInit1 r (zLen13 hk) k hk, fun r k hk => zInit2 r (zLen13 hk) k hk, zInit3, fun k hk q => absurd q (zInit4 k hk)⟩, ⟨rfl, by decide, by decide, fun k _ => rfl⟩, ⟨by decide, by decide⟩, fun n hn => ?_⟩
  rcases (show n = 0 ∨ n = 1 by omega) with rfl | rfl
  · exact ⟨by decide, fun h => absurd rfl h⟩
  · exact ⟨by decide, fun h => absurd rfl h⟩
