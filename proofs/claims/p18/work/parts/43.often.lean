/-! often: equal answers -/
def zpw (v : Int32) : Nat → Int64 → Int64
  | 0, w => w
  | n + 1, w => zpw v n (w * v.toInt64)
def zof (p q : Int32) (m : Nat) : Nat → Int64 → Nat → Int64
  | 0, w, _ => w
  | n + 1, w, i => zof p q m n (w + zw (nI m) (nI i) i 1 1 * zpw p i 1 * zpw q (m - i) 1) (i + 1)
theorem zpw_all : ∀ v, v < 9 → ∀ m, m < 9 → 0 ≤ (zpw (nI v) m 1).toInt ∧ (zpw (nI v) m 1).toInt ≤ 16777216 ∧ (1 ≤ v → 1 ≤ (zpw (nI v) m 1).toInt) := by decide +kernel
theorem zw_all : ∀ m, m < 9 → ∀ i, i < 9 → i ≤ m → 0 ≤ (zw (nI m) (nI i) i 1 1).toInt ∧ (zw (nI m) (nI i) i 1 1).toInt ≤ 70 := by decide +kernel
theorem zmulbL {x y : Int64} {m n : Int} (h1 : 0 ≤ x.toInt) (h2 : x.toInt ≤ m) (h3 : 0 ≤ y.toInt) (h4 : y.toInt ≤ n) (h5 : m * n < 9223372036854775808) : (x * y).toInt = x.toInt * y.toInt ∧ 0 ≤ (x * y).toInt ∧ (x * y).toInt ≤ m * n := by
  have e1 : 0 ≤ x.toInt * y.toInt := Int.mul_nonneg h1 h3
  have e2 : x.toInt * y.toInt ≤ m * n := Int.mul_le_mul h2 h4 h3 (by omega)
  have e : (x * y).toInt = x.toInt * y.toInt := fb_mulL (by omega) (by omega)
  exact ⟨e, by omega, by omega⟩
theorem zsubn {m i : Nat} (h : i ≤ m) : nI m - nI i = nI (m - i) := by
  have e : nI m = nI (m - i) + nI i := by
    rw [nI_add, Nat.sub_add_cancel h]
  rw [e, Int32.add_sub_cancel]
theorem zof_b {b d m : Nat} (hb : b < 9) (hd : d < 9) (hm : m < 9) : ∀ n i (w : Int64), n + i ≤ m + 1 → 0 ≤ w.toInt → w.toInt ≤ i * 19703248369745920 → 0 ≤ (zof (nI b) (nI d) m n w i).toInt := by
  intro n
  induction n with
  | zero => intro i w _ h0 _; exact h0
  | succ n ih =>
    intro i w hi h0 h1
    have a1 := zw_all m hm i (by omega) (by omega)
    have a2 := zpw_all b hb i (by omega)
    have a3 := zpw_all d hd (m - i) (by omega)
    have c1 := zmulbL a1.1 a1.2 a2.1 a2.2.1 (by decide)
    have c2 := zmulbL c1.2.1 c1.2.2 a3.1 a3.2.1 (by decide)
    have c3 : (zw (nI m) (nI i) i 1 1 * zpw (nI b) i 1 * zpw (nI d) (m - i) 1).toInt ≤ 19703248369745920 := c2.2.2
    have e : (w + zw (nI m) (nI i) i 1 1 * zpw (nI b) i 1 * zpw (nI d) (m - i) 1).toInt = w.toInt + (zw (nI m) (nI i) i 1 1 * zpw (nI b) i 1 * zpw (nI d) (m - i) 1).toInt := fb_addL (by omega) (by omega)
    refine ih (i + 1) _ (by omega) (by omega) ?_
    rw [e]
    omega
section S
variable {σ : zST} {PL : Int64 → Prop} {a1 a2 a3 a4 a5 v0 : Int32}
theorem i_pow8L {m : Nat} (hm : m < 1000) : ∀ n i, n + i = m → ∀ w, PL (zpw v0 n w) → wp_X8_power_L5 v0 (nI m) σ PL (n + 1) w (nI i) := by
  intro n
  induction n with
  | zero =>
    intro i hi w h
    unfold wp_X8_power_L5
    rw [if_pos (nI_le (by omega) (by omega))]
    exact h
  | succ n ih =>
    intro i hi w h
    unfold wp_X8_power_L5
    rw [if_neg (nI_ge (by omega) (by omega)), nI_1]
    rintro _ rfl
    exact ih (i + 1) (by omega) _ h
theorem i_pow8 {m : Nat} (hm : m < 1000) (h : PL (zpw v0 m 1)) : wp_X8_power v0 (nI m) σ PL := ⟨m + 1, i_pow8L hm m 0 (by omega) 1 h⟩
theorem i_pow9L {m : Nat} (hm : m < 1000) : ∀ n i, n + i = m → ∀ w, PL (zpw v0 n w) → wp_X9_power_L5 v0 (nI m) σ PL (n + 1) w (nI i) := by
  intro n
  induction n with
  | zero =>
    intro i hi w h
    unfold wp_X9_power_L5
    rw [if_pos (nI_le (by omega) (by omega))]
    exact h
  | succ n ih =>
    intro i hi w h
    unfold wp_X9_power_L5
    rw [if_neg (nI_ge (by omega) (by omega)), nI_1]
    rintro _ rfl
    exact ih (i + 1) (by omega) _ h
theorem i_pow9 {m : Nat} (hm : m < 1000) (h : PL (zpw v0 m 1)) : wp_X9_power v0 (nI m) σ PL := ⟨m + 1, i_pow9L hm m 0 (by omega) 1 h⟩
theorem i_oft8L {m : Nat} (hm : m < 9) : ∀ n i, (n + i = m + 1 ∨ (n = 0 ∧ m < i)) → i < 10 → ∀ w, wp_X8_often_J102 a1 (nI m) a5 (zof a2 (a1 - a2) m n w i) σ PL → wp_X8_often_L61 a1 a2 (nI m) a5 σ PL (n + 1) w (nI i) := by
  intro n
  induction n with
  | zero =>
    intro i hi _ w h
    unfold wp_X8_often_L61
    rw [if_pos (nI_lt (by omega) (by omega))]
    exact h
  | succ n ih =>
    intro i hi hi9 w h
    unfold wp_X8_often_L61
    have e1 := nI_toInt (n := m) (by omega)
    have e2 := nI_toInt (n := i) (by omega)
    rw [if_neg (nI_nlt (by omega) (by omega)), nI_1, zsubn (by omega)]
    refine i_ways (by omega) (by omega) (by omega) ?_
    rw [nI_clamp (by omega)]
    refine i_pow8 (by omega) ?_
    refine i_pow8 (by omega) ?_
    rintro _ rfl
    exact ih (i + 1) (by omega) (by omega) _ h
theorem i_oft9L {m : Nat} (hm : m < 9) : ∀ n i, (n + i = m + 1 ∨ (n = 0 ∧ m < i)) → i < 10 → ∀ w, wp_X9_often_J111 a1 (nI m) a5 (zof a2 (a1 - a2) m n w i) σ PL → wp_X9_often_L70 a1 a2 (nI m) a5 σ PL (n + 1) w (nI i) := by
  intro n
  induction n with
  | zero =>
    intro i hi _ w h
    unfold wp_X9_often_L70
    rw [if_pos (nI_lt (by omega) (by omega))]
    exact h
  | succ n ih =>
    intro i hi hi9 w h
    unfold wp_X9_often_L70
    have e1 := nI_toInt (n := m) (by omega)
    have e2 := nI_toInt (n := i) (by omega)
    rw [if_neg (nI_nlt (by omega) (by omega)), nI_1, zsubn (by omega)]
    refine i_choose (by omega) (by omega) ?_
    rw [nI_clamp (by omega)]
    refine i_pow9 (by omega) ?_
    refine i_pow9 (by omega) ?_
    rintro _ rfl
    exact ih (i + 1) (by omega) (by omega) _ h
theorem s_often {K : Int64 → Int64 → Prop} (hk : ∀ r, K r r) : wp_X8_often a1 a2 a3 a4 a5 σ (fun r => wp_X9_often a1 a2 a3 a4 a5 σ (fun r' => K r r')) := by
  unfold wp_X8_often
  have out : (a1.toInt < 1 ∨ 8 < a1.toInt) ∨ (a2.toInt < 0 ∨ a1.toInt < a2.toInt) ∨ (a3.toInt < 1 ∨ 8 < a3.toInt) ∨ (a4.toInt < 0 ∨ 8 < a4.toInt) ∨ (a5.toInt < 0 ∨ 1 < a5.toInt) → wp_X9_often a1 a2 a3 a4 a5 σ (fun r' => K (-1000000000000000002) r') := by
    intro q
    unfold wp_X9_often
    refine t_in (a := 1) (b := 8) rfl rfl (fun h0 h1 => ?_) (fun _ => hk _)
    refine t_in (a := 0) rfl (Int32.toInt_toInt64 _) (fun _ _ => ?_) (fun _ => hk _)
    refine t_in (a := 1) (b := 8) rfl rfl (fun h2 h3 => ?_) (fun _ => hk _)
    refine t_in (a := 0) (b := 8) rfl rfl (fun h4 h5 => ?_) (fun _ => hk _)
    exact t_in (a := 0) (b := 1) rfl rfl (fun _ _ => by omega) (fun _ => hk _)
  refine t_within (a := 1) (b := 8) rfl rfl (fun h0 h1 => ?_) (fun _ => out (by omega))
  refine t_within (a := 0) rfl rfl (fun h2 h3 => ?_) (fun _ => out (by omega))
  refine t_within (a := 1) (b := 8) rfl rfl (fun h4 h5 => ?_) (fun _ => out (by omega))
  refine t_within (a := 0) (b := 8) rfl rfl (fun h6 h7 => ?_) (fun _ => out (by omega))
  refine t_within (a := 0) (b := 1) rfl rfl (fun h8 h9 => ?_) (fun _ => out (by omega))
  obtain ⟨a, ha, rfl, ea⟩ := zN (h := 8) (x := a1) (by omega) h1
  obtain ⟨b, hb, rfl, eb⟩ := zN (h := 8) (x := a2) h2 (by omega)
  obtain ⟨m, hm, rfl, em⟩ := zN (h := 8) (x := a3) (by omega) h5
  obtain ⟨j, hj, rfl, ej⟩ := zN (h := 8) (x := a4) h6 h7
  have hr := zpw_all a (by omega) m (by omega)
  have hR := hr.2.2 (by omega)
  obtain ⟨n, hn⟩ : ∃ n, n + j = m + 1 ∨ (n = 0 ∧ m < j) := by
    rcases Nat.lt_or_ge m j with q | q
    · exact ⟨0, Or.inr ⟨rfl, q⟩⟩
    · exact ⟨m + 1 - j, Or.inl (by omega)⟩
  have hW : 0 ≤ (zof (nI b) (nI a - nI b) m n 0 j).toInt := by
    rcases hn with q | q
    · rw [zsubn (by omega)]
      exact zof_b (by omega) (by omega) (by omega) n j 0 (by omega) (by decide) (by show (0 : Int) ≤ _; omega)
    · rw [q.1]
      show 0 ≤ (0 : Int64).toInt
      decide
  refine ⟨n + 1, i_oft8L (by omega) n j hn (by omega) 0 ?_⟩
  refine i_pow8 (by omega) ?_
  have done9 : ∀ A : Int64 → Prop, wp_X9_lowest (zof (nI b) (nI a - nI b) m n 0 j) (zpw (nI a) m 1) a5 σ A → wp_X9_often (nI a) (nI b) (nI m) (nI j) a5 σ A := by
    intro A hA
    unfold wp_X9_often
    refine t_in (a := 1) (b := 8) rfl rfl (fun _ _ => ?_) (fun q => by omega)
    refine t_in (a := 0) rfl (Int32.toInt_toInt64 _) (fun _ _ => ?_) (fun q => by omega)
    refine t_in (a := 1) (b := 8) rfl rfl (fun _ _ => ?_) (fun q => by omega)
    refine t_in (a := 0) (b := 8) rfl rfl (fun _ _ => ?_) (fun q => by omega)
    refine t_in (a := 0) (b := 1) rfl rfl (fun _ _ => ?_) (fun q => by omega)
    refine ⟨n + 1, i_oft9L (by omega) n j hn (by omega) 0 ?_⟩
    exact i_pow9 (by omega) hA
  generalize zof (nI b) (nI a - nI b) m n 0 j = W at hW done9 ⊢
  generalize zpw (nI a) m 1 = V at hr hR done9 ⊢
  obtain ⟨wa, hwa⟩ : ∃ wa : Nat, W.toInt = wa := ⟨W.toInt.toNat, by omega⟩
  obtain ⟨va, hva⟩ : ∃ va : Nat, V.toInt = va := ⟨V.toInt.toNat, by omega⟩
  refine i_part (a := wa) (b := va) hwa hva (by omega) (by omega) (fun r hr' => ?_)
  refine done9 _ ?_
  refine i_low (a := wa) (b := va) hwa hva (by omega) (fun s hs => ?_)
  rw [show s = r from Int64.toInt_inj.mp (hs.trans hr'.symm)]
  exact hk _
end S
