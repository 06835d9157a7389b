/-! held, years -/
def zheld (f : Nat → Int32) (w : Int32) (a : Nat) : Nat → Nat × Int32
  | 0 => (a, f a)
  | n + 1 => if (zheld f w a n).2 ≤ f (a + (n + 1)) + 10 * w * nI (n + 1) then zheld f w a n else (a + (n + 1), f (a + (n + 1)) + 10 * w * nI (n + 1))
theorem zheld_le (f : Nat → Int32) (w : Int32) (a : Nat) : ∀ n, (zheld f w a n).1 ≤ a + n
  | 0 => Nat.le_refl _
  | n + 1 => by
    have := zheld_le f w a n
    unfold zheld
    split
    · omega
    · exact Nat.le_refl _
section S
variable {σ : zST} {a1 a2 a3 a4 a5 : Int32} {P : Int32 → Prop} {f : Nat → Int32} {a : Nat}
theorem i_heldL8 (hf : ∀ b, qM σ 2 a1.toNatClampNeg (qO σ 2 a1.toNatClampNeg (nI b)) (nI b) = f b) (hv : vp_in a1 6) (h1 : 1 ≤ (σ.1 2 7).toInt) (h2 : (σ.1 2 7).toInt ≤ 24) (ha : a ≤ 976) (hJ : wp_X8_held_J114 a1 a3 (nI (zheld f (σ.1 7 4) a 23).1) (zheld f (σ.1 7 4) a 23).2 σ P) :
    ∀ m n : Nat, m + n = 23 → wp_X8_held_L58 a1 (nI a) a3 σ P (m + 1) (nI (zheld f (σ.1 7 4) a n).1) (zheld f (σ.1 7 4) a n).2 (nI (n + 1)) := by
  intro m
  induction m with
  | zero =>
    intro n hn
    unfold wp_X8_held_L58
    rw [show n = 23 by omega, if_pos (by decide)]
    exact hJ
  | succ m ih =>
    intro n hn
    unfold wp_X8_held_L58
    rw [if_neg (by rw [Int32.le_iff_toInt_le, nI_toInt (by omega)]; show ¬ (24 : Int) ≤ ((n + 1 : Nat) : Int); omega), nI_add]
    refine i_leastMean hv (by rw [nI_toInt (by omega)]; omega) h1 h2 ?_
    rw [hf]
    rintro _ rfl
    have e : zheld f (σ.1 7 4) a (n + 1) = if (zheld f (σ.1 7 4) a n).2 ≤ f (a + (n + 1)) + 10 * σ.1 7 4 * nI (n + 1) then zheld f (σ.1 7 4) a n else (a + (n + 1), f (a + (n + 1)) + 10 * σ.1 7 4 * nI (n + 1)) := rfl
    have i1 := ih (n + 1) (by omega)
    rw [e] at i1
    show (if (zheld f (σ.1 7 4) a n).2 ≤ f (a + (n + 1)) + 10 * σ.1 7 4 * nI (n + 1) then _ else _)
    by_cases c : (zheld f (σ.1 7 4) a n).2 ≤ f (a + (n + 1)) + 10 * σ.1 7 4 * nI (n + 1)
    · rw [if_pos c] at i1 ⊢
      rw [nI_1]
      exact i1
    · rw [if_neg c] at i1 ⊢
      rintro _ rfl
      rw [nI_1]
      exact i1
theorem i_heldL9 (hf : ∀ b, qM σ 2 a1.toNatClampNeg (qO σ 2 a1.toNatClampNeg (nI b)) (nI b) = f b) (hI : IB σ) (h0 : 0 ≤ a1.toInt) (h1 : a1.toInt ≤ 5) (ha : a ≤ 976) (hJ : wp_X9_held_J123 a1 a3 (nI (zheld f (σ.1 7 4) a 23).1) (zheld f (σ.1 7 4) a 23).2 σ P) :
    ∀ m n : Nat, m + n = 23 → wp_X9_held_L47 a1 (nI a) a3 σ P (m + 1) (nI (zheld f (σ.1 7 4) a n).1) (zheld f (σ.1 7 4) a n).2 (nI (a + (n + 1))) := by
  have e9 : σ.1 7 4 = σ.1 69 9 := (b_terms hI (k := 4) (by omega)).1
  have e24 : nI a + 24 = nI (a + 24) := nI_add a 24
  intro m
  induction m with
  | zero =>
    intro n hn
    unfold wp_X9_held_L47
    rw [e24, show n = 23 by omega, if_pos (Int32.le_refl _)]
    exact hJ
  | succ m ih =>
    intro n hn
    unfold wp_X9_held_L47
    have hh : 0 ≤ (nI (a + (n + 1))).toInt := by rw [nI_toInt (by omega)]; omega
    rw [e24, if_neg (nI_ge (by omega) (by omega))]
    refine i_choiceOf hI h0 h1 hh (i_meanOf hI h0 h1 hh ?_)
    rw [hf, ← e9, pk_sub (by omega), show a + (n + 1) - a = n + 1 by omega]
    rintro _ rfl _ rfl _ rfl
    have e : zheld f (σ.1 7 4) a (n + 1) = if (zheld f (σ.1 7 4) a n).2 ≤ f (a + (n + 1)) + 10 * σ.1 7 4 * nI (n + 1) then zheld f (σ.1 7 4) a n else (a + (n + 1), f (a + (n + 1)) + 10 * σ.1 7 4 * nI (n + 1)) := rfl
    have i1 := ih (n + 1) (by omega)
    rw [e] at i1
    rw [nI_1]
    by_cases c : (zheld f (σ.1 7 4) a n).2 ≤ f (a + (n + 1)) + 10 * σ.1 7 4 * nI (n + 1)
    · rw [if_pos c] at i1
      rw [if_pos c, if_pos c]
      exact i1
    · rw [if_neg c] at i1
      rw [if_neg c, if_neg c]
      exact i1
theorem s_held (h : Inv σ) {K : Int32 → Int32 → Prop} (hk : ∀ r, K r r) : wp_X8_held a1 a2 a3 σ (fun r => wp_X9_held a1 a2 a3 σ (fun r' => K r r')) := by
  unfold wp_X8_held wp_X9_held
  have e1 := b_ships h.1
  have e2 := (b_digits h.1).2
  refine t_has rfl (fun x1 x2 x3 => ?_) (fun x => t_isShip e1.1.symm (fun y1 y2 y3 => absurd ⟨y1, y2, y3⟩ x) (fun _ => hk _))
  refine t_within (a := 0) (b := 976) rfl rfl (fun x4 x5 => ?_) (fun x => t_isShip e1.1.symm (fun _ _ _ => t_in (a := 0) (b := 976) rfl rfl (fun y1 y2 => by omega) (fun _ => hk _)) (fun y => absurd ⟨x1, x2, x3⟩ y))
  refine t_within (a := 0) (b := 2) rfl rfl (fun x6 x7 => ?_) (fun x => t_isShip e1.1.symm (fun _ _ _ => t_in (a := 0) (b := 976) rfl rfl (fun _ _ => t_in (a := 0) (b := 2) rfl rfl (fun y1 y2 => by omega) (fun _ => hk _)) (fun y => by omega)) (fun y => absurd ⟨x1, x2, x3⟩ y))
  obtain ⟨a, ha, rfl, ea⟩ := zN (h := 976) x4 x5
  have hv : vp_in a1 6 := zv x1 (by omega)
  have hc : a1.toNatClampNeg < 6 := zcl x1 (by omega)
  obtain ⟨f, hf⟩ : ∃ f : Nat → Int32, ∀ b, qM σ 2 a1.toNatClampNeg (qO σ 2 a1.toNatClampNeg (nI b)) (nI b) = f b := ⟨_, fun _ => rfl⟩
  refine i_leastMean hv x4 e2.1 e2.2 ?_
  rw [hf]
  have hz := zheld_le f (σ.1 7 4) a 23
  have hb0 : 0 ≤ (nI (zheld f (σ.1 7 4) a 23).1).toInt := by rw [nI_toInt (by omega)]; omega
  have ref : ∀ r, (r = if a3 = 0 then nI (zheld f (σ.1 7 4) a 23).1 else if a3 = 1 then (zheld f (σ.1 7 4) a 23).2 else qO σ 2 a1.toNatClampNeg (nI (zheld f (σ.1 7 4) a 23).1)) → wp_X9_isShip a1 σ (fun r1 => (if r1 = (0) then K r (-1 : Int32) else wp_X9_in ((nI a).toInt64) (0 : Int64) (976 : Int64) σ (fun r4 => (if r4 = (0) then K r (-2 : Int32) else wp_X9_in (a3.toInt64) (0 : Int64) (2 : Int64) σ (fun r7 => (if r7 = (0) then K r (-2 : Int32) else ∃ M28 : Nat, wp_X9_held_L47 a1 (nI a) a3 σ (fun r' => K r r') M28 (nI a) (1000000000 : Int32) (nI a))))))) := by
    intro r hr
    refine t_isShip e1.1.symm (fun _ _ _ => ?_) (fun y => absurd ⟨x1, x2, x3⟩ y)
    refine t_in (a := 0) (b := 976) rfl rfl (fun _ _ => ?_) (fun y => by omega)
    refine t_in (a := 0) (b := 2) rfl rfl (fun _ _ => ?_) (fun y => by omega)
    refine ⟨25, ?_⟩
    unfold wp_X9_held_L47
    have e24 : nI a + 24 = nI (a + 24) := nI_add a 24
    rw [e24, if_neg (nI_ge (by omega) (by omega))]
    refine i_choiceOf h.1 x1 x2 x4 (i_meanOf h.1 x1 x2 x4 ?_)
    rw [hf, pk_sub (Nat.le_refl a), Nat.sub_self, show nI 0 = (0 : Int32) from rfl, Int32.mul_zero, Int32.add_zero]
    rintro _ rfl _ rfl _ rfl
    have hb : ¬ (1000000000 : Int32) ≤ f a := by
      have := qM_b h.1 (k := a1.toNatClampNeg) (sd := qO σ 2 a1.toNatClampNeg (nI a)) (hr := nI a) hc x4
      rw [hf] at this
      rw [Int32.le_iff_toInt_le]
      show ¬ (1000000000 : Int) ≤ _
      omega
    rw [if_neg hb, if_neg hb, nI_1]
    refine i_heldL9 (P := fun r' => K r r') hf h.1 x1 x2 ha ?_ 23 0 rfl
    unfold wp_X9_held_J123
    subst hr
    by_cases c0 : a3 = 0
    · rw [if_pos c0, if_pos c0]; exact hk _
    · rw [if_neg c0, if_neg c0]
      by_cases c1 : a3 = 1
      · rw [if_pos c1, if_pos c1]; exact hk _
      · rw [if_neg c1, if_neg c1]
        exact i_choiceOf h.1 x1 x2 hb0 (hk _)
  refine ⟨24, i_heldL8 hf hv e2.1 e2.2 ha ?_ 23 0 rfl⟩
  unfold wp_X8_held_J114
  by_cases c0 : a3 = 0
  · rw [if_pos c0]; exact ref _ (by rw [if_pos c0])
  · rw [if_neg c0]
    by_cases c1 : a3 = 1
    · rw [if_pos c1]; exact ref _ (by rw [if_neg c0, if_pos c1])
    · rw [if_neg c1]
      exact i_ownersSide hv hb0 e2.1 e2.2 (ref _ (by rw [if_neg c0, if_neg c1]))
/-! years -/
theorem zdrN {n : Nat} (h : n ≤ 65536) : ((75 : Int32) * nI n + 74) - ((75 : Int32) * nI n + 74) / 65537 * 65537 = nI ((75 * n + 74) % 65537) := by
  have e1 : (75 : Int32) * nI n + 74 = nI (75 * n + 74) := by
    have := pk_mul 75 n
    rw [show nI 75 = (75 : Int32) from rfl] at this
    rw [this]
    exact nI_add (75 * n) 74
  rw [e1]
  exact pk_rem (a := 75 * n + 74) (d := 65537) (by omega) (by omega) (by omega)
theorem zdrL {n : Nat} (h : n ≤ 65536) : (((75 : Int64) * (nI n).toInt64 + 74) - ((75 : Int64) * (nI n).toInt64 + 74) / 65537 * 65537).toInt32 = nI ((75 * n + 74) % 65537) := by
  rw [nI_l (by omega)]
  have e1 : (75 : Int64) * lN n + 74 = lN (75 * n + 74) := by
    have := lN_mul 75 n
    rw [show lN 75 = (75 : Int64) from rfl] at this
    rw [this]
    exact lN_add (75 * n) 74
  rw [e1]
  rw [show (65537 : Int64) = lN 65537 from rfl, pk_lRem (by omega) (by omega) (by omega)]
  exact lN_i _
theorem zdr_lt (n : Nat) : (75 * n + 74) % 65537 ≤ 65536 := by
  have := Nat.mod_lt (75 * n + 74) (show 65537 > 0 by omega)
  omega
def zyr (f : Nat → Int32) : Nat → Nat → Int32 → Int32
  | 0, _, t => t
  | n + 1, y, t => zyr f n ((75 * y + 74) % 65537) (if f ((75 * y + 74) % 65537) ≤ nI ((75 * y + 74) % 65537 / 24 % 10) then t else t + 1)
theorem zy24 {n : Nat} (h : n ≤ 65536) : nI n - nI n / 24 * 24 = nI (n % 24) := pk_rem (a := n) (d := 24) (by omega) (by omega) (by omega)
theorem zy10 {n : Nat} (h : n ≤ 65536) : nI n / 24 - nI n / 24 / 10 * 10 = nI (n / 24 % 10) := by
  have e : nI n / 24 = nI (n / 24) := pk_div (a := n) (d := 24) (by omega) (by omega) (by omega)
  rw [e]
  exact pk_rem (a := n / 24) (d := 10) (by omega) (by omega) (by omega)
theorem i_yearsL8 {nn : Nat} (hf : ∀ y, zdg σ 2 (nI (y % 24)) = f y) (h1 : 1 ≤ (σ.1 2 7).toInt) (h2 : (σ.1 2 7).toInt ≤ 24) (hn : nn ≤ 99) : ∀ m i y t, m + i = nn → y ≤ 65536 → wp_X8_years_J121 a1 a4 (zyr f m y t) σ P → wp_X8_years_L78 a1 (nI nn) a4 σ P (m + 1) (nI y) t (nI i) := by
  intro m
  induction m with
  | zero =>
    intro i y t hi hy hJ
    unfold wp_X8_years_L78
    rw [if_pos (nI_le (by omega) (by omega))]
    exact hJ
  | succ m ih =>
    intro i y t hi hy hJ
    unfold wp_X8_years_L78
    rw [if_neg (nI_ge (by omega) (by omega))]
    unfold wp_X8_drawAfter
    rw [zdrN hy]
    dsimp only
    rw [zy24 (zdr_lt y), zy10 (zdr_lt y)]
    refine i_digitAt (by rw [nI_toInt (by omega)]; omega) h1 h2 ?_
    rw [hf, nI_1]
    unfold zyr at hJ
    by_cases c : f ((75 * y + 74) % 65537) ≤ nI ((75 * y + 74) % 65537 / 24 % 10)
    · rw [if_pos c] at hJ ⊢
      exact ih (i + 1) _ _ (by omega) (zdr_lt y) hJ
    · rw [if_neg c] at hJ ⊢
      exact ih (i + 1) _ _ (by omega) (zdr_lt y) hJ
theorem i_yearsL9 {nn : Nat} {Kx : Int32 → Prop} (hf : ∀ y, zdg σ 2 (nI (y % 24)) = f y) (hI : IB σ) (hn : nn ≤ 99) : ∀ m i y t, m + i = nn → y ≤ 65536 → Kx (zyr f m y t) → wp_X9_years_L59 a1 (nI nn) a4 σ Kx (m + 1) (nI y) t (nI i) := by
  intro m
  induction m with
  | zero =>
    intro i y t hi hy hJ
    unfold wp_X9_years_L59
    rw [if_pos (nI_le (by omega) (by omega))]
    exact hJ
  | succ m ih =>
    intro i y t hi hy hJ
    unfold wp_X9_years_L59
    rw [if_neg (nI_ge (by omega) (by omega)), zdrL hy]
    rintro _ rfl
    rw [zy24 (zdr_lt y), zy10 (zdr_lt y)]
    refine i_tenths hI (by rw [nI_toInt (by omega)]; omega) ?_
    rw [hf, nI_1]
    rintro _ rfl _ rfl
    unfold zyr at hJ
    by_cases c : f ((75 * y + 74) % 65537) ≤ nI ((75 * y + 74) % 65537 / 24 % 10)
    · rw [if_pos c] at hJ ⊢
      rw [Int32.add_zero]
      exact ih (i + 1) _ _ (by omega) (zdr_lt y) hJ
    · rw [if_neg c] at hJ ⊢
      exact ih (i + 1) _ _ (by omega) (zdr_lt y) hJ
theorem s_years (h : Inv σ) {K : Int32 → Int32 → Prop} (hk : ∀ r, K r r) : wp_X8_years a1 a2 a3 a4 σ (fun r => wp_X9_years a1 a2 a3 a4 σ (fun r' => K r r')) := by
  unfold wp_X8_years wp_X9_years
  have e1 := b_ships h.1
  have e2 := (b_digits h.1).2
  refine t_has rfl (fun x1 x2 x3 => ?_) (fun x => t_isShip e1.1.symm (fun y1 y2 y3 => absurd ⟨y1, y2, y3⟩ x) (fun _ => hk _))
  refine t_within (a := 0) (b := 9999) rfl rfl (fun x4 x5 => ?_) (fun x => t_isShip e1.1.symm (fun _ _ _ => t_in (a := 0) (b := 9999) rfl rfl (fun y1 y2 => by omega) (fun _ => hk _)) (fun y => absurd ⟨x1, x2, x3⟩ y))
  refine t_within (a := 1) (b := 99) rfl rfl (fun x6 x7 => ?_) (fun x => t_isShip e1.1.symm (fun _ _ _ => t_in (a := 0) (b := 9999) rfl rfl (fun _ _ => t_in (a := 1) (b := 99) rfl rfl (fun y1 y2 => by omega) (fun _ => hk _)) (fun y => by omega)) (fun y => absurd ⟨x1, x2, x3⟩ y))
  refine t_within (a := 0) (b := 2) rfl rfl (fun x8 x9 => ?_) (fun x => t_isShip e1.1.symm (fun _ _ _ => t_in (a := 0) (b := 9999) rfl rfl (fun _ _ => t_in (a := 1) (b := 99) rfl rfl (fun _ _ => t_in (a := 0) (b := 2) rfl rfl (fun y1 y2 => by omega) (fun _ => hk _)) (fun y => by omega)) (fun y => by omega)) (fun y => absurd ⟨x1, x2, x3⟩ y))
  obtain ⟨y, hy, rfl, ey⟩ := zN (h := 9999) x4 x5
  obtain ⟨n, hn, rfl, en⟩ := zN (h := 99) (x := a3) (by omega) x7
  have hv : vp_in a1 6 := zv x1 (by omega)
  obtain ⟨f, hf⟩ : ∃ f : Nat → Int32, ∀ y, zdg σ 2 (nI (y % 24)) = f y := ⟨_, fun _ => rfl⟩
  have ref : ∀ r, (r = if a4 = 0 then zyr f n y 0 * qW σ 2 a1.toNatClampNeg else if a4 = 1 then nI n * qL σ 2 a1.toNatClampNeg else zyr f n y 0) → wp_X9_isShip a1 σ (fun r1 => (if r1 = (0) then K r (-1 : Int32) else wp_X9_in ((nI y).toInt64) (0 : Int64) (9999 : Int64) σ (fun r4 => (if r4 = (0) then K r (-2 : Int32) else wp_X9_in ((nI n).toInt64) (1 : Int64) (99 : Int64) σ (fun r7 => (if r7 = (0) then K r (-2 : Int32) else wp_X9_in (a4.toInt64) (0 : Int64) (2 : Int64) σ (fun r10 => (if r10 = (0) then K r (-2 : Int32) else ∃ M28 : Nat, wp_X9_years_L59 a1 (nI n) a4 σ (fun w6 => (if a4 = (0) then wp_X9_allOf a1 σ (fun r26 => K r (w6 * r26)) else (if a4 = (1 : Int32) then wp_X9_teethTake a1 σ (fun r24 => K r (nI n * r24)) else K r w6))) M28 (nI y) (0 : Int32) (0 : Int32))))))))) := by
    rintro r rfl
    refine t_isShip e1.1.symm (fun _ _ _ => ?_) (fun y => absurd ⟨x1, x2, x3⟩ y)
    refine t_in (a := 0) (b := 9999) rfl rfl (fun _ _ => ?_) (fun y => by omega)
    refine t_in (a := 1) (b := 99) rfl rfl (fun _ _ => ?_) (fun y => by omega)
    refine t_in (a := 0) (b := 2) rfl rfl (fun _ _ => ?_) (fun y => by omega)
    refine ⟨n + 1, i_yearsL9 hf h.1 hn n 0 y 0 (by omega) (by omega) ?_⟩
    by_cases c0 : a4 = 0
    · rw [if_pos c0, if_pos c0]
      exact i_allOf h.1 x1 x2 (hk _)
    · rw [if_neg c0, if_neg c0]
      by_cases c1 : a4 = 1
      · rw [if_pos c1, if_pos c1]
        exact i_teethTake h.1 x1 x2 (hk _)
      · rw [if_neg c1, if_neg c1]
        exact hk _
  by_cases c1 : a4 = 1
  · rw [if_pos c1]
    refine i_lostToTeeth hv ?_
    exact ref _ (by rw [if_neg (by rw [c1]; decide), if_pos c1])
  · rw [if_neg c1]
    refine ⟨n + 1, i_yearsL8 hf e2.1 e2.2 hn n 0 y 0 (by omega) (by omega) ?_⟩
    unfold wp_X8_years_J121
    by_cases c2 : a4 = 2
    · rw [if_pos c2]
      exact ref _ (by rw [if_neg (by rw [c2]; decide), if_neg c1])
    · rw [if_neg c2]
      refine i_whole hv ?_
      refine ref _ ?_
      rcases zS3 x8 x9 with q | q | q
      · rw [if_pos q]
      · exact absurd q c1
      · exact absurd q c2
end S
