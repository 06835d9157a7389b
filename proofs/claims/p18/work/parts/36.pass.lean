/-! images -/
def zloc (t : Nat) : Nat × Nat := ([(69, 0), (69, 5), (69, 6), (69, 7), (69, 8), (69, 9), (69, 10), (69, 11), (69, 12), (69, 14), (69, 15), (69, 16), (69, 17), (69, 18), (69, 21), (69, 25), (70, 0), (71, 0), (72, 0), (73, 0), (78, 0), (79, 0), (70, 1), (71, 1), (72, 1), (73, 1), (78, 1), (79, 1), (70, 2), (71, 2), (72, 2), (73, 2), (78, 2), (79, 2), (70, 3), (71, 3), (72, 3), (73, 3), (78, 3), (79, 3), (70, 4), (71, 4), (72, 4), (73, 4), (78, 4), (79, 4), (70, 5), (71, 5), (72, 5), (73, 5), (78, 5), (79, 5), (75, 0), (76, 0), (75, 1), (76, 1), (75, 2), (76, 2), (75, 3), (76, 3), (77, 0), (77, 1), (77, 2), (77, 3), (77, 4), (77, 5), (77, 6), (77, 7), (74, 0), (74, 1), (74, 2), (74, 3), (74, 4), (74, 5), (74, 6), (74, 7), (74, 8), (74, 9), (74, 10), (74, 11), (74, 12), (74, 13), (74, 14), (74, 15), (74, 16), (74, 17), (74, 18), (74, 19), (74, 20), (74, 21), (74, 22), (74, 23)] : List (Nat × Nat)).getD t (0, 0)
theorem zloc_inj : ∀ t, t < 92 → ∀ u, u < 92 → zloc t = zloc u → t = u := by decide +kernel
theorem zloc_rng : ∀ t, t < 92 → 69 ≤ (zloc t).1 ∧ (zloc t).1 ≤ 79 ∧ ((zloc t).1 = 69 → (zloc t).2 ≤ 25) := by decide +kernel
theorem zlocA : ∀ k, k < 6 → zloc (16 + 6 * k) = (70, k) ∧ zloc (16 + 6 * k + 1) = (71, k) ∧ zloc (16 + 6 * k + 2) = (72, k) ∧ zloc (16 + 6 * k + 3) = (73, k) ∧ zloc (16 + 6 * k + 4) = (78, k) ∧ zloc (16 + 6 * k + 5) = (79, k) := by decide +kernel
theorem zlocB : ∀ k, k < 4 → zloc (52 + 2 * k) = (75, k) ∧ zloc (52 + 2 * k + 1) = (76, k) := by decide +kernel
theorem zlocC : ∀ k, k < 8 → zloc (60 + k) = (77, k) := by decide +kernel
theorem zlocD : ∀ k, k < 24 → zloc (68 + k) = (74, k) := by decide +kernel
def zval (σ0 : zST) (m : Int32) (B u : Nat) : Int32 := if m = 0 then σ0.1 85 (B + u) else σ0.1 (zloc u).1 (zloc u).2
/-- where passAll stands after t numbers: m = 1 writes, 0 reads -/
def zPa (σ0 : zST) (m : Int32) (B t : Nat) (σ : zST) : Prop := (∀ u, u < t → σ.1 (zloc u).1 (zloc u).2 = zval σ0 m B u ∧ σ.1 85 (B + u) = zval σ0 m B u) ∧ (∀ x y, (∀ u, u < t → ¬ (x = (zloc u).1 ∧ y = (zloc u).2)) → ¬ (x = 85 ∧ B ≤ y ∧ y < B + t) → ¬ (x = 69 ∧ y = 38) → σ.1 x y = σ0.1 x y) ∧ σ.1 69 38 = nI (B + t) ∧ σ.1 69 39 = m
section S
variable {σ σ0 : zST} {m : Int32} {B t a j : Nat} {P : zST → Prop}
theorem i_pass {Q : Int32 → zST → Prop} (hW : zPa σ0 m B t σ) (hB : B ≤ 120) (ht : t < 92) (hl : zloc t = (a, j)) (h : ∀ r σ1, zPa σ0 m B (t + 1) (wI σ1 a j r) → Q r σ1) : wp_X9_pass (σ.1 a j) σ Q := by
  obtain ⟨w1, w2, w3, w4⟩ := hW
  have rg := zloc_rng t ht
  rw [hl] at rg
  have rg1 : 69 ≤ a := rg.1
  have rg2 : a ≤ 79 := rg.2.1
  have rg3 : a = 69 → j ≤ 25 := rg.2.2
  have hv : vp_in (σ.1 69 38) 240 := by rw [w3]; exact vp_in_nI (by omega) (by omega)
  have hcl : (σ.1 69 38).toNatClampNeg = B + t := by rw [w3]; exact nI_clamp (by omega)
  have k1 : σ.1 a j = σ0.1 a j := w2 a j (fun u hu q => by
    have := zloc_inj t ht u (by omega) (by rw [hl]; exact Prod.ext q.1 q.2)
    omega) (by omega) (by omega)
  have k2 : σ.1 85 (B + t) = σ0.1 85 (B + t) := w2 85 _ (fun u hu q => by
    have := (zloc_rng u (by omega)).2.1
    omega) (by omega) (by omega)
  have hz : (if σ.1 69 39 = (0 : Int32) then σ.1 85 (σ.1 69 38).toNatClampNeg else σ.1 a j) = zval σ0 m B t := by
    unfold zval
    rw [w4, hcl, k2, k1, hl]
  unfold wp_X9_pass
  refine ⟨?_, ?_⟩
  · split
    · exact ⟨hv, trivial⟩
    · trivial
  · rw [hz]
    rintro _ rfl
    refine ⟨hv, ?_⟩
    intro σ7 e7
    have h7 : ∀ x y, σ7.1 x y = if x = 85 ∧ y = B + t then zval σ0 m B t else σ.1 x y := fun x y => by rw [e7, wI_at, hcl]
    have m38 : σ7.1 69 38 = nI (B + t) := by rw [h7, if_neg (by omega)]; exact w3
    refine h _ _ ?_
    have hf : ∀ x y, (wI (wI σ7 69 38 (σ7.1 69 38 + 1)) a j (zval σ0 m B t)).1 x y = if x = a ∧ y = j then zval σ0 m B t else if x = 69 ∧ y = 38 then nI (B + (t + 1)) else if x = 85 ∧ y = B + t then zval σ0 m B t else σ.1 x y := by
      intro x y
      rw [wI_at, wI_at, m38, nI_1, h7]
      rfl
    generalize wI (wI σ7 69 38 (σ7.1 69 38 + 1)) a j (zval σ0 m B t) = σ' at hf ⊢
    refine ⟨fun u hu => ?_, fun x y v1 v2 v3 => ?_, ?_, ?_⟩
    · have ru := zloc_rng u (by omega)
      by_cases e : u = t
      · subst e
        rw [hl]
        refine ⟨?_, ?_⟩
        · rw [hf, if_pos ⟨rfl, rfl⟩]
        · rw [hf, if_neg (by omega), if_neg (by omega), if_pos ⟨rfl, rfl⟩]
      · obtain ⟨g1, g2⟩ := w1 u (by omega)
        refine ⟨?_, ?_⟩
        · rw [hf, if_neg, if_neg, if_neg (by omega)]
          · exact g1
          · rintro ⟨q1, q2⟩
            have := ru.2.2 q1
            omega
          · rintro ⟨q1, q2⟩
            have := zloc_inj t ht u (by omega) (by rw [hl]; exact (Prod.ext q1 q2).symm)
            omega
        · rw [hf, if_neg (by omega), if_neg (by omega), if_neg (by omega)]; exact g2
    · have n1 : ¬ (x = a ∧ y = j) := by
        have := v1 t (by omega)
        rw [hl] at this
        exact this
      rw [hf, if_neg n1, if_neg v3, if_neg (by omega)]
      exact w2 x y (fun u hu => v1 u (by omega)) (by omega) v3
    · rw [hf, if_neg (by omega), if_pos ⟨rfl, rfl⟩]
    · rw [hf, if_neg (by omega), if_neg (by omega), if_neg (by omega)]; exact w4
theorem i_passNumbers (hW : zPa σ0 m B 0 σ) (hB : B ≤ 120) (h : ∀ σ', zPa σ0 m B 16 σ' → P σ') : wp_X9_passNumbers σ P := by
  unfold wp_X9_passNumbers
  refine i_pass hW hB (t := 0) (by omega) rfl (fun r0 s0 hW => ?_)
  rintro _ rfl
  refine i_pass hW hB (t := 1) (by omega) rfl (fun r1 s1 hW => ?_)
  rintro _ rfl
  refine i_pass hW hB (t := 2) (by omega) rfl (fun r2 s2 hW => ?_)
  rintro _ rfl
  refine i_pass hW hB (t := 3) (by omega) rfl (fun r3 s3 hW => ?_)
  rintro _ rfl
  refine i_pass hW hB (t := 4) (by omega) rfl (fun r4 s4 hW => ?_)
  rintro _ rfl
  refine i_pass hW hB (t := 5) (by omega) rfl (fun r5 s5 hW => ?_)
  rintro _ rfl
  refine i_pass hW hB (t := 6) (by omega) rfl (fun r6 s6 hW => ?_)
  rintro _ rfl
  refine i_pass hW hB (t := 7) (by omega) rfl (fun r7 s7 hW => ?_)
  rintro _ rfl
  refine i_pass hW hB (t := 8) (by omega) rfl (fun r8 s8 hW => ?_)
  rintro _ rfl
  refine i_pass hW hB (t := 9) (by omega) rfl (fun r9 s9 hW => ?_)
  rintro _ rfl
  refine i_pass hW hB (t := 10) (by omega) rfl (fun r10 s10 hW => ?_)
  rintro _ rfl
  refine i_pass hW hB (t := 11) (by omega) rfl (fun r11 s11 hW => ?_)
  rintro _ rfl
  refine i_pass hW hB (t := 12) (by omega) rfl (fun r12 s12 hW => ?_)
  rintro _ rfl
  refine i_pass hW hB (t := 13) (by omega) rfl (fun r13 s13 hW => ?_)
  rintro _ rfl
  refine i_pass hW hB (t := 14) (by omega) rfl (fun r14 s14 hW => ?_)
  rintro _ rfl
  exact i_pass hW hB (t := 15) (by omega) rfl (fun r15 s15 hW => h _ hW)
theorem i_passL6 (hB : B ≤ 120) (h : ∀ σ', zPa σ0 m B 52 σ' → P σ') : ∀ n i, n + i = 6 → ∀ σ : zST, zPa σ0 m B (16 + 6 * i) σ → wp_X9_passAll_L6 P (n + 1) (nI i) σ := by
  intro n
  induction n with
  | zero =>
    intro i hi σ hW
    unfold wp_X9_passAll_L6
    rw [if_pos (by rw [show i = 6 by omega]; decide)]
    rw [show i = 6 by omega] at hW
    exact h σ hW
  | succ n ih =>
    intro i hi σ hW
    unfold wp_X9_passAll_L6
    rw [if_neg (by rw [Int32.le_iff_toInt_le, nI_toInt (by omega)]; show ¬ (6 : Int) ≤ i; omega), nI_1, nI_clamp (by omega)]
    have hv : vp_in (nI i) 6 := vp_in_nI (by omega) (by omega)
    have hl := zlocA i (by omega)
    refine ⟨hv, i_pass hW hB (t := 16 + 6 * i) (by omega) hl.1 (fun r0 s0 hW => ⟨hv, ?_⟩)⟩
    refine ⟨hv, ?_⟩
    rintro _ rfl
    refine i_pass hW hB (t := 16 + 6 * i + 1) (by omega) hl.2.1 (fun r1 s1 hW => ⟨hv, ?_⟩)
    refine ⟨hv, ?_⟩
    rintro _ rfl
    refine i_pass hW hB (t := 16 + 6 * i + 2) (by omega) hl.2.2.1 (fun r2 s2 hW => ⟨hv, ?_⟩)
    refine ⟨hv, ?_⟩
    rintro _ rfl
    refine i_pass hW hB (t := 16 + 6 * i + 3) (by omega) hl.2.2.2.1 (fun r3 s3 hW => ⟨hv, ?_⟩)
    refine ⟨hv, ?_⟩
    rintro _ rfl
    refine i_pass hW hB (t := 16 + 6 * i + 4) (by omega) hl.2.2.2.2.1 (fun r4 s4 hW => ⟨hv, ?_⟩)
    refine ⟨hv, ?_⟩
    rintro _ rfl
    refine i_pass hW hB (t := 16 + 6 * i + 5) (by omega) hl.2.2.2.2.2 (fun r5 s5 hW => ⟨hv, ?_⟩)
    exact ih (i + 1) (by omega) _ (by rw [show 16 + 6 * (i + 1) = 16 + 6 * i + 5 + 1 by omega]; exact hW)
theorem i_passL116 (hB : B ≤ 120) (h : ∀ σ', zPa σ0 m B 60 σ' → P σ') : ∀ n i, n + i = 4 → ∀ σ : zST, zPa σ0 m B (52 + 2 * i) σ → wp_X9_passAll_L116 P (n + 1) (nI i) σ := by
  intro n
  induction n with
  | zero =>
    intro i hi σ hW
    unfold wp_X9_passAll_L116
    rw [if_pos (by rw [show i = 4 by omega]; decide)]
    rw [show i = 4 by omega] at hW
    exact h σ hW
  | succ n ih =>
    intro i hi σ hW
    unfold wp_X9_passAll_L116
    rw [if_neg (by rw [Int32.le_iff_toInt_le, nI_toInt (by omega)]; show ¬ (4 : Int) ≤ i; omega), nI_1, nI_clamp (by omega)]
    have hv : vp_in (nI i) 4 := vp_in_nI (by omega) (by omega)
    have hl := zlocB i (by omega)
    refine ⟨hv, i_pass hW hB (t := 52 + 2 * i) (by omega) hl.1 (fun r0 s0 hW => ⟨hv, ?_⟩)⟩
    refine ⟨hv, ?_⟩
    rintro _ rfl
    refine i_pass hW hB (t := 52 + 2 * i + 1) (by omega) hl.2 (fun r1 s1 hW => ⟨hv, ?_⟩)
    exact ih (i + 1) (by omega) _ (by rw [show 52 + 2 * (i + 1) = 52 + 2 * i + 1 + 1 by omega]; exact hW)
theorem i_passL161 (hB : B ≤ 120) (h : ∀ σ', zPa σ0 m B 68 σ' → P σ') : ∀ n i, n + i = 8 → ∀ σ : zST, zPa σ0 m B (60 + 1 * i) σ → wp_X9_passAll_L161 P (n + 1) (nI i) σ := by
  intro n
  induction n with
  | zero =>
    intro i hi σ hW
    unfold wp_X9_passAll_L161
    rw [if_pos (by rw [show i = 8 by omega]; decide)]
    rw [show i = 8 by omega] at hW
    exact h σ hW
  | succ n ih =>
    intro i hi σ hW
    unfold wp_X9_passAll_L161
    rw [if_neg (by rw [Int32.le_iff_toInt_le, nI_toInt (by omega)]; show ¬ (8 : Int) ≤ i; omega), nI_1, nI_clamp (by omega)]
    have hv : vp_in (nI i) 8 := vp_in_nI (by omega) (by omega)
    have hl := zlocC i (by omega)
    rw [show 60 + 1 * i = 60 + i by omega] at hW
    refine ⟨hv, i_pass hW hB (t := 60 + i) (by omega) hl (fun r0 s0 hW => ⟨hv, ?_⟩)⟩
    exact ih (i + 1) (by omega) _ (by rw [show 60 + 1 * (i + 1) = 60 + i + 1 by omega]; exact hW)
theorem i_passL191 (hB : B ≤ 120) (h : ∀ σ', zPa σ0 m B 92 σ' → P σ') : ∀ n i, n + i = 24 → ∀ σ : zST, zPa σ0 m B (68 + 1 * i) σ → wp_X9_passAll_L191 P (n + 1) (nI i) σ := by
  intro n
  induction n with
  | zero =>
    intro i hi σ hW
    unfold wp_X9_passAll_L191
    rw [if_pos (by rw [show i = 24 by omega]; decide)]
    rw [show i = 24 by omega] at hW
    exact h σ hW
  | succ n ih =>
    intro i hi σ hW
    unfold wp_X9_passAll_L191
    rw [if_neg (by rw [Int32.le_iff_toInt_le, nI_toInt (by omega)]; show ¬ (24 : Int) ≤ i; omega), nI_1, nI_clamp (by omega)]
    have hv : vp_in (nI i) 24 := vp_in_nI (by omega) (by omega)
    have hl := zlocD i (by omega)
    rw [show 68 + 1 * i = 68 + i by omega] at hW
    refine ⟨hv, i_pass hW hB (t := 68 + i) (by omega) hl (fun r0 s0 hW => ⟨hv, ?_⟩)⟩
    exact ih (i + 1) (by omega) _ (by rw [show 68 + 1 * (i + 1) = 68 + i + 1 by omega]; exact hW)
theorem i_passAll (hW : zPa σ0 m B 0 σ) (hB : B ≤ 120) (h : ∀ σ', zPa σ0 m B 92 σ' → P σ') : wp_X9_passAll σ P := by
  unfold wp_X9_passAll
  refine i_passNumbers hW hB (fun σ1 w1 => ?_)
  refine ⟨7, i_passL6 hB (fun σ2 w2 => ?_) 6 0 rfl σ1 w1⟩
  refine ⟨5, i_passL116 hB (fun σ3 w3 => ?_) 4 0 rfl σ2 w2⟩
  refine ⟨9, i_passL161 hB (fun σ4 w4 => ?_) 8 0 rfl σ3 w3⟩
  exact ⟨25, i_passL191 hB h 24 0 rfl σ4 w4⟩
end S
