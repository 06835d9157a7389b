/-! bound: equal answers -/
/-- the sum of f over the ships of l, by the sides that the digits of idx tell, the first ship's first -/
def zC (f : Nat → Nat → Nat) : List Nat → Nat → Nat
  | [], _ => 0
  | a :: l, x => f a (x / 3 ^ l.length) + zC f l (x % 3 ^ l.length)
theorem zC_app {f : Nat → Nat → Nat} (a : Nat) : ∀ l x, x < 3 ^ (l.length + 1) → zC f (l ++ [a]) x = zC f l (x / 3) + f a (x % 3) := by
  intro l
  induction l with
  | nil =>
    intro x hx
    have hx : x < 3 := hx
    show f a (x / 3 ^ 0) + 0 = 0 + f a (x % 3)
    rw [Nat.pow_zero, Nat.div_one, Nat.mod_eq_of_lt hx]
    omega
  | cons b l ih =>
    intro x hx
    have hp : 3 ^ (l.length + 1) = 3 * 3 ^ l.length := by rw [Nat.pow_succ]; omega
    have hpos : 0 < 3 ^ l.length := Nat.pow_pos (by decide)
    show f b (x / 3 ^ (l ++ [a]).length) + zC f (l ++ [a]) (x % 3 ^ (l ++ [a]).length) = f b (x / 3 / 3 ^ l.length) + zC f l (x / 3 % 3 ^ l.length) + f a (x % 3)
    rw [List.length_append]
    show f b (x / 3 ^ (l.length + 1)) + zC f (l ++ [a]) (x % 3 ^ (l.length + 1)) = _
    rw [ih _ (Nat.mod_lt _ (by omega)), hp, Nat.div_div_eq_div_mul, Nat.mod_mul_right_div_self, Nat.mod_mul_right_mod]
    omega
theorem zC_b {f : Nat → Nat → Nat} {B : Nat} : ∀ l : List Nat, (∀ a, a ∈ l → ∀ s, f a s ≤ B) → ∀ x, zC f l x ≤ B * l.length := by
  intro l
  induction l with
  | nil => intro _ x; exact Nat.le_refl _
  | cons b l ih =>
    intro h x
    have h1 := h b List.mem_cons_self (x / 3 ^ l.length)
    have h2 := ih (fun a ha => h a (List.mem_cons_of_mem _ ha)) (x % 3 ^ l.length)
    show f b (x / 3 ^ l.length) + zC f l (x % 3 ^ l.length) ≤ B * (l.length + 1)
    rw [Nat.mul_add]
    omega
section S
variable {σ σ0 : zST} {P : Int32 → Prop} {Q : zST → Prop} {R : Int32 → zST → Prop} {a1 a2 a3 hr : Int32} {a m : Nat} {v : Int32} {l : List Nat}
def zq (σ0 : zST) (hr : Int32) (l : List Nat) (x : Nat) : Int64 := zpk (zC (zvm σ0 hr) l x) (zC (zvx σ0 hr) l x)
theorem zq_app {x s : Nat} (hx : x < 3 ^ l.length) (hs : s < 3) : zq σ0 hr l x + zpk (zvm σ0 hr a s) (zvx σ0 hr a s) = zq σ0 hr (l ++ [a]) (x * 3 + s) := by
  unfold zq
  have hp : 3 ^ (l.length + 1) = 3 * 3 ^ l.length := by rw [Nat.pow_succ]; omega
  rw [z_pka, zC_app a l (x * 3 + s) (by omega), zC_app a l (x * 3 + s) (by omega), show (x * 3 + s) / 3 = x by omega, show (x * 3 + s) % 3 = s by omega]
/-- in the midst of ship j: K numbers still stand as they were -/
def zSp (σ0 : zST) (hr : Int32) (l : List Nat) (j K : Nat) (σ : zST) : Prop := zFl σ0 hr l σ ∧ (∀ x, x < K → σ.2 66 x = zq σ0 hr (l.take j) x) ∧ ∀ x, 3 * K ≤ x → x < 3 ^ (j + 1) → σ.2 66 x = zq σ0 hr (l.take (j + 1)) x
theorem zFl_w {x : Nat} {u : Int64} (hF : zFl σ0 hr l σ) : zFl σ0 hr l (wL σ 66 x u) := by
  refine ⟨hF.1, fun k hk => ⟨(hF.2 k hk).1, fun s hs => ?_⟩⟩
  rw [wL_at, if_neg (by omega)]
  exact (hF.2 k hk).2 s hs
theorem i_spr47 {j k : Nat} {v1 : Int32} (hl : l.length ≤ 6) (hj : j < l.length) (hk : k < 3 ^ j) (h : ∀ σ', zSp σ0 hr l j k σ' → Q σ') : ∀ n i, n + i = 3 → ∀ σ, zFl σ0 hr l σ → (∀ x, x < k → σ.2 66 x = zq σ0 hr (l.take j) x) → (∀ x, 3 * (k + 1) ≤ x → x < 3 ^ (j + 1) → σ.2 66 x = zq σ0 hr (l.take (j + 1)) x) → (∀ s, s < i → σ.2 66 (k * 3 + s) = zq σ0 hr (l.take (j + 1)) (k * 3 + s)) → wp_X2_spreadChoices_L47 v1 (nI j) (nI k) (zq σ0 hr (l.take j) k) Q (n + 1) (nI i) σ := by
  have p3 := z_3le j (by omega)
  have p4 := p3.2.2 (by omega)
  have eg : l.getD j 0 = l[j] := by rw [List.getD_eq_getElem?_getD, List.getElem?_eq_getElem hj]; rfl
  have et : l.take (j + 1) = l.take j ++ [l[j]] := (List.take_append_getElem hj).symm
  have el : (l.take j).length = j := by rw [List.length_take]; omega
  intro n
  induction n with
  | zero =>
    intro i hi σ f1 f2 f3 f4
    unfold wp_X2_spreadChoices_L47
    rw [if_pos (by rw [show i = 3 by omega]; decide)]
    refine h _ ⟨f1, f2, fun x hx hx2 => ?_⟩
    rcases Nat.lt_or_ge x (3 * (k + 1)) with q | q
    · have := f4 (x - k * 3) (by omega)
      rw [show k * 3 + (x - k * 3) = x by omega] at this
      exact this
    · exact f3 x q hx2
  | succ n ih =>
    intro i hi σ f1 f2 f3 f4
    unfold wp_X2_spreadChoices_L47
    rw [if_neg (by rw [Int32.le_iff_toInt_le, nI_toInt (by omega)]; show ¬ (3 : Int) ≤ i; omega)]
    rw [nI_1, z_mul3, z_mul3, nI_add, nI_add, nI_clamp (by omega), nI_clamp (by omega), (f1.2 j hj).2 i (by omega), eg, zq_app (by rw [el]; exact hk) (by omega), ← et]
    refine ⟨vp_in_nI (by omega) (by omega), vp_in_nI (by omega) (by omega), ih (i + 1) (by omega) _ (zFl_w f1) (fun x hx => ?_) (fun x hx hx2 => ?_) (fun s hs => ?_)⟩
    · rw [wL_at, if_neg (by omega)]; exact f2 x hx
    · rw [wL_at, if_neg (by omega)]; exact f3 x hx hx2
    · rw [wL_at]
      by_cases e : s = i
      · rw [if_pos ⟨rfl, by omega⟩, e]
      · rw [if_neg (by omega)]; exact f4 s (by omega)
theorem i_spr32 {j : Nat} {v1 : Int32} (hl : l.length ≤ 6) (hj : j < l.length) (h : ∀ σ', zSp σ0 hr l j 0 σ' → Q σ') : ∀ k, k ≤ 3 ^ j → ∀ σ, zSp σ0 hr l j k σ → wp_X2_spreadChoices_L32 v1 (nI j) Q (k + 1) (nI k - 1) σ := by
  have p3 := z_3le j (by omega)
  intro k
  induction k with
  | zero =>
    intro _ σ hF
    unfold wp_X2_spreadChoices_L32
    rw [if_pos z_dn0]
    exact h _ hF
  | succ k ih =>
    intro hk σ hF
    unfold wp_X2_spreadChoices_L32
    rw [nI_pred, if_neg (nI_pos (by omega)), z_dn, nI_clamp (by omega), hF.2.1 k (by omega)]
    refine ⟨vp_in_nI (by omega) (by omega), ?_⟩
    rintro _ rfl
    exact ⟨4, i_spr47 hl hj (by omega) (fun σ' hF' => ih (by omega) _ hF') 3 0 rfl _ hF.1 (fun x hx => hF.2.1 x (by omega)) hF.2.2 (fun s hs => by omega)⟩
def zCh (σ0 : zST) (hr : Int32) (l : List Nat) (j : Nat) (σ : zST) : Prop := zFl σ0 hr l σ ∧ ∀ x, x < 3 ^ j → σ.2 66 x = zq σ0 hr (l.take j) x
theorem i_spr11 (hl : l.length ≤ 6) (h : ∀ σ', zCh σ0 hr l l.length σ' → R (nI (3 ^ l.length)) σ') : ∀ n i, n + i = l.length → ∀ σ, zCh σ0 hr l i σ → wp_X2_spreadChoices_L11 R (n + 1) (nI (3 ^ i)) (nI i) σ := by
  intro n
  induction n with
  | zero =>
    intro i hi σ hF
    unfold wp_X2_spreadChoices_L11
    rw [if_pos (by rw [hF.1.1.2]; exact nI_le (by omega) (by omega))]
    rw [show i = l.length by omega] at hF ⊢
    exact h _ hF
  | succ n ih =>
    intro i hi σ hF
    unfold wp_X2_spreadChoices_L11
    have p3 := z_3le i (by omega)
    have p4 := z_3le (i + 1) (by omega)
    have hp : 3 ^ (i + 1) = 3 ^ i * 3 := Nat.pow_succ _ _
    rw [hF.1.1.2, if_neg (nI_ge (by omega) (by omega)), z_mul3, ← hp, if_neg (by rw [Int32.lt_iff_toInt_lt, nI_toInt (by omega)]; show ¬ (729 : Int) < _; omega), nI_1]
    rintro _ rfl
    refine ⟨3 ^ i + 1, i_spr32 hl (by omega) (fun σ' hF' => ?_) (3 ^ i) (Nat.le_refl _) _ ⟨hF.1, hF.2, fun x hx hx2 => by omega⟩⟩
    rintro _ rfl
    exact ih (i + 1) (by omega) _ ⟨hF'.1, fun x hx => hF'.2.2 x (by omega) hx⟩
theorem i_spread (hl : l.length ≤ 6) (hF : zFl σ0 hr l σ) (h : ∀ σ', zCh σ0 hr l l.length σ' → R (nI (3 ^ l.length)) σ') : wp_X2_spreadChoices σ R := by
  refine ⟨l.length + 1, i_spr11 hl h l.length 0 rfl _ ⟨zFl_w hF, fun x hx => ?_⟩⟩
  have hx : x < 1 := hx
  obtain rfl : x = 0 := by omega
  rw [wL_at, if_pos ⟨rfl, rfl⟩]
  unfold zq
  rw [List.take_zero]
  show (0 : Int64) = zpk 0 0
  decide +kernel
/-- the first of the least means among those within the bound -/
def zsc (fM fX : Nat → Nat) (p : Int32) : Nat → Int32 → Nat → Int32
  | 0, r, _ => r
  | n + 1, r, i => zsc fM fX p n (if p < nI (fX i) then r else if r = -6 then nI i else if nI (fM r.toNatClampNeg) ≤ nI (fM i) then r else nI i) (i + 1)
theorem zsc_b {fM fX : Nat → Nat} {p : Int32} : ∀ n i r, n + i ≤ 729 → (r = -6 ∨ ∃ k, k < n + i ∧ r = nI k) → (zsc fM fX p n r i = -6 ∨ ∃ k, k < n + i ∧ zsc fM fX p n r i = nI k) := by
  intro n
  induction n with
  | zero => intro i r _ h; exact h
  | succ n ih =>
    intro i r hi h
    have := ih (i + 1) (if p < nI (fX i) then r else if r = -6 then nI i else if nI (fM r.toNatClampNeg) ≤ nI (fM i) then r else nI i) (by omega) (by
      rw [show n + (i + 1) = n + 1 + i by omega]
      (repeat' split) <;> first | exact h | exact Or.inr ⟨i, by omega, rfl⟩)
    rw [show n + (i + 1) = n + 1 + i by omega] at this
    exact this
theorem i_leastL {fM fX : Nat → Nat} {p : Int32} (hm : m ≤ 729) (hq : ∀ x, x < m → σ.2 66 x = zpk (fM x) (fX x) ∧ fM x < 2 ^ 31 ∧ fX x < 2 ^ 31) : ∀ n i, n + i = m → ∀ r, (r = -6 ∨ ∃ k, k < m ∧ r = nI k) → R (zsc fM fX p n r i) σ → wp_X2_leastWithin_L11 p (nI m) R (n + 1) r (nI i) σ := by
  intro n
  induction n with
  | zero =>
    intro i hi r hr h
    unfold wp_X2_leastWithin_L11
    rw [if_pos (nI_le (by omega) (by omega))]
    exact h
  | succ n ih =>
    intro i hi r hr h
    unfold wp_X2_leastWithin_L11
    have h : R (zsc fM fX p n (if p < nI (fX i) then r else if r = -6 then nI i else if nI (fM r.toNatClampNeg) ≤ nI (fM i) then r else nI i) (i + 1)) σ := h
    have hv : vp_in (nI i) 729 := vp_in_nI (by omega) (by omega)
    have qi := hq i (by omega)
    rw [if_neg (nI_ge (by omega) (by omega)), nI_1, nI_clamp (by omega), qi.1]
    refine ⟨hv, ?_⟩
    show if p < (zpk (fM i) (fX i)).toInt32 then _ else _
    rw [z_lo]
    by_cases q : p < nI (fX i)
    · rw [if_pos q] at h ⊢
      exact ih (i + 1) (by omega) _ hr h
    · rw [if_neg q] at h ⊢
      by_cases e : r = -6
      · rw [if_pos e] at h ⊢
        exact ih (i + 1) (by omega) _ (Or.inr ⟨i, by omega, rfl⟩) h
      · rw [if_neg e] at h ⊢
        obtain ⟨k, hk, rfl⟩ := hr.resolve_left e
        have qk := hq k hk
        rw [nI_clamp (by omega)] at h ⊢
        rw [qk.1]
        refine ⟨hv, ?_⟩
        refine ⟨vp_in_nI (by omega) (by omega), ?_⟩
        show if (zpk (fM k) (fX k) >>> ((32 : Int32).toInt64 &&& 63)).toInt32 ≤ (zpk (fM i) (fX i) >>> ((32 : Int32).toInt64 &&& 63)).toInt32 then _ else _
        rw [z_hi qk.2.1 qk.2.2, z_hi qi.2.1 qi.2.2]
        by_cases q2 : nI (fM k) ≤ nI (fM i)
        · rw [if_pos q2] at h ⊢
          exact ih (i + 1) (by omega) _ (Or.inr ⟨k, hk, rfl⟩) h
        · rw [if_neg q2] at h ⊢
          exact ih (i + 1) (by omega) _ (Or.inr ⟨i, by omega, rfl⟩) h
theorem i_bou49 {fM fX : Nat → Nat} {p v3 : Int32} (hm : m ≤ 729) (h34 : σ.1 69 34 = nI m) (hq : ∀ x, x < m → σ.1 82 x = nI (fM x) ∧ σ.1 83 x = nI (fX x)) : ∀ n i, n + i = m → ∀ r, (r = -6 ∨ ∃ k, k < m ∧ r = nI k) → R (zsc fM fX p n r i) σ → wp_X9_bound_L49 p v3 R (n + 1) r (nI i) σ := by
  intro n
  induction n with
  | zero =>
    intro i hi r hr h
    unfold wp_X9_bound_L49
    rw [if_pos (by rw [h34]; exact nI_le (by omega) (by omega))]
    exact h
  | succ n ih =>
    intro i hi r hr h
    unfold wp_X9_bound_L49
    have h : R (zsc fM fX p n (if p < nI (fX i) then r else if r = -6 then nI i else if nI (fM r.toNatClampNeg) ≤ nI (fM i) then r else nI i) (i + 1)) σ := h
    have hv : vp_in (nI i) 729 := vp_in_nI (by omega) (by omega)
    have qi := hq i (by omega)
    rw [h34, if_neg (nI_ge (by omega) (by omega)), nI_1, nI_clamp (by omega), qi.1, qi.2]
    refine ⟨hv, ?_, ?_⟩
    · split
      · trivial
      · split
        · trivial
        · rename_i q
          rcases hr with rfl | ⟨k, hk, rfl⟩
          · exact absurd (by decide) q
          · exact ⟨hv, vp_in_nI (by omega) (by omega), trivial⟩
    · rintro _ rfl _ rfl
      by_cases q : p < nI (fX i)
      · rw [if_pos q] at h ⊢
        rw [if_pos rfl]
        exact ih (i + 1) (by omega) _ hr h
      · rw [if_neg q] at h ⊢
        rcases hr with rfl | ⟨k, hk, rfl⟩
        · rw [if_pos (show (-6 : Int32) < 0 by decide), if_neg (show ¬ (1 : Int32) = 0 by decide)]
          rw [if_pos rfl] at h
          exact ih (i + 1) (by omega) _ (Or.inr ⟨i, by omega, rfl⟩) h
        · have e : ¬ nI k = -6 := fun z => by
            have := congrArg Int32.toInt z
            rw [nI_toInt (by omega)] at this
            have : (k : Int) = -6 := this
            omega
          rw [if_neg (nI_pos (by omega)), nI_clamp (by omega), (hq k hk).1]
          rw [if_neg e, nI_clamp (by omega)] at h
          by_cases q2 : nI (fM k) ≤ nI (fM i)
          · rw [if_pos q2] at h ⊢
            rw [if_pos rfl]
            exact ih (i + 1) (by omega) _ (Or.inr ⟨k, hk, rfl⟩) h
          · rw [if_neg q2] at h ⊢
            rw [if_neg (by decide)]
            exact ih (i + 1) (by omega) _ (Or.inr ⟨i, by omega, rfl⟩) h
end S
