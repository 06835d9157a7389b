/-! burnt, twice: equal answers -/
def zw (v0 v1 : Int32) : Nat → Int64 → Nat → Int64
  | 0, w, _ => w
  | n + 1, w, i => zw v0 v1 n ((w * (((v0 - v1) + nI i).toInt64)) / ((nI i).toInt64)) (i + 1)
section S
variable {σ : zST} {P : Int32 → Prop} {PL : Int64 → Prop} {a1 : Int32} {v0 v1 : Int32}
theorem i_waysL {m : Nat} (hm : v1 = nI m) (hb : m < 1000) : ∀ n i, n + i = m + 1 → 1 ≤ i → ∀ w, PL (zw v0 v1 n w i) → wp_X8_ways_L16 v0 v1 σ PL (n + 1) w (nI i) := by
  intro n
  induction n with
  | zero =>
    intro i hi _ w h
    unfold wp_X8_ways_L16
    rw [if_pos (by rw [hm]; exact nI_lt (by omega) (by omega))]
    exact h
  | succ n ih =>
    intro i hi h1 w h
    unfold wp_X8_ways_L16
    rw [if_neg (by rw [hm]; exact nI_nlt (by omega) (by omega)), nI_1]
    refine ⟨fun q => ?_, ?_⟩
    · have := congrArg Int64.toInt q
      rw [Int32.toInt_toInt64, nI_toInt (by omega)] at this
      have : (i : Int) = 0 := this
      omega
    · rintro _ rfl
      exact ih (i + 1) (by omega) (by omega) _ h
theorem i_chooseL {m : Nat} (hm : v1 = nI m) (hb : m < 1000) : ∀ n i, n + i = m + 1 → 1 ≤ i → ∀ w, PL (zw v0 v1 n w i) → wp_X9_choose_L5 v0 v1 σ PL (n + 1) w (nI i) := by
  intro n
  induction n with
  | zero =>
    intro i hi _ w h
    unfold wp_X9_choose_L5
    rw [if_pos (by rw [hm]; exact nI_lt (by omega) (by omega))]
    exact h
  | succ n ih =>
    intro i hi h1 w h
    unfold wp_X9_choose_L5
    rw [if_neg (by rw [hm]; exact nI_nlt (by omega) (by omega)), nI_1]
    refine ⟨fun q => ?_, ?_⟩
    · have := congrArg Int64.toInt q
      rw [Int32.toInt_toInt64, nI_toInt (by omega)] at this
      have : (i : Int) = 0 := this
      omega
    · rintro _ rfl
      exact ih (i + 1) (by omega) (by omega) _ h
theorem i_ways (h0 : 0 ≤ v1.toInt) (h1 : v1.toInt ≤ v0.toInt) (h2 : v1.toInt ≤ 8) (h : PL (zw v0 v1 v1.toNatClampNeg 1 1)) : wp_X8_ways v0 v1 σ PL := by
  obtain ⟨m, hm, e, -⟩ := zN (h := 8) h0 h2
  unfold wp_X8_ways
  rw [if_neg (by rw [Int32.lt_iff_toInt_lt]; show ¬ v1.toInt < 0; omega), if_pos (by rw [Int32.le_iff_toInt_le]; exact h1)]
  have hc : v1.toNatClampNeg = m := by rw [e]; exact nI_clamp (by omega)
  rw [hc] at h
  exact ⟨m + 1, i_waysL e (by omega) m 1 rfl (by omega) 1 h⟩
theorem i_choose (h0 : 0 ≤ v1.toInt) (h2 : v1.toInt ≤ 8) (h : PL (zw v0 v1 v1.toNatClampNeg 1 1)) : wp_X9_choose v0 v1 σ PL := by
  obtain ⟨m, hm, e, -⟩ := zN (h := 8) h0 h2
  have hc : v1.toNatClampNeg = m := by rw [e]; exact nI_clamp (by omega)
  rw [hc] at h
  exact ⟨m + 1, i_chooseL e (by omega) m 1 rfl (by omega) 1 h⟩
def zbu (σ : zST) : Nat → Int64 → Nat → Int64
  | 0, w, _ => w
  | n + 1, w, i => zbu σ n (w * zw (8 - zpc (σ.1 16 i)) (σ.1 17 i) (σ.1 17 i).toNatClampNeg 1 1) (i + 1)
theorem i_bur8L {c : Nat} (hI : IB σ) (hc : σ.1 15 0 = nI c) (h6 : c ≤ 6) : ∀ n i, n + i = c → ∀ w, PL (zbu σ n w i) → wp_X8_burnt_L13 σ PL (n + 1) w (nI i) := by
  intro n
  induction n with
  | zero =>
    intro i hi w h
    unfold wp_X8_burnt_L13
    rw [if_pos (by rw [hc]; exact nI_le (by omega) (by omega))]
    exact h
  | succ n ih =>
    intro i hi w h
    unfold wp_X8_burnt_L13
    have hv : vp_in (nI i) 6 := vp_in_nI (by omega) (by omega)
    rw [if_neg (by rw [hc]; exact nI_ge (by omega) (by omega))]
    rw [if_neg (by rw [Int32.le_iff_toInt_le, nI_toInt (by omega)]; show ¬ (6 : Int) ≤ i; omega)]
    rw [nI_1, nI_clamp (by omega)]
    refine ⟨hv, ?_⟩
    refine i_bitCount ⟨hv, ?_⟩
    have hm := b_room hI (k := i) (by omega)
    have hd := b_read hI (k := i) (by omega)
    have hp := zpc_b hd.2.1 hd.2.2
    have e8 : ((8 : Int32) - zpc (σ.1 16 i)).toInt = 8 - (zpc (σ.1 16 i)).toInt := fb_subI (x := 8) (by show _ ≤ (8 : Int) - _; omega) (by show (8 : Int) - _ < _; omega)
    refine i_ways hm.2.1 (by rw [e8]; omega) hm.2.2.1 ?_
    rintro _ rfl
    exact ih (i + 1) (by omega) _ h
theorem i_bur9L {c : Nat} (hI : IB σ) (hc : σ.1 69 25 = nI c) (h6 : c ≤ 6) : ∀ n i, n + i = c → ∀ w, PL (zbu σ n w i) → wp_X9_burnt_L4 σ PL (n + 1) w (nI i) := by
  intro n
  induction n with
  | zero =>
    intro i hi w h
    unfold wp_X9_burnt_L4
    rw [if_pos (by rw [hc]; exact nI_le (by omega) (by omega))]
    exact h
  | succ n ih =>
    intro i hi w h
    unfold wp_X9_burnt_L4
    have hv : vp_in (nI i) 6 := vp_in_nI (by omega) (by omega)
    rw [if_neg (by rw [hc]; exact nI_ge (by omega) (by omega)), nI_1, nI_clamp (by omega)]
    have hd := b_read hI (k := i) (by omega)
    have hm := b_room hI (k := i) (by omega)
    refine ⟨hv, ?_⟩
    refine i_ones (by rw [← hd.1]; exact hd.2.1) (by rw [← hd.1]; exact hd.2.2) ⟨hv, ?_⟩
    rw [← hm.1, ← hd.1]
    refine i_choose hm.2.1 hm.2.2.1 ?_
    rintro _ rfl
    exact ih (i + 1) (by omega) _ h
theorem s_burnt (h : Inv σ) {K : Int64 → Int64 → Prop} (hk : ∀ r, K r r) : wp_X8_burnt σ (fun r => wp_X9_burnt σ (fun r' => K r r')) := by
  have hr := b_rolls h.1
  obtain ⟨c, hc, e, -⟩ := zN (h := 6) hr.2.1 hr.2.2
  refine ⟨c + 1, i_bur8L h.1 e hc c 0 rfl _ ?_⟩
  exact ⟨c + 1, i_bur9L h.1 (hr.1.symm.trans e) hc c 0 rfl _ (hk _)⟩
def zts (σ : zST) (nm fl : Int32) (i : Nat) : Int32 := if ((σ.1 16 i >>> (nm &&& 31)) &&& (1 : Int32)) = 1 then 1 else if fl = 0 then 0 else if σ.1 17 i ≤ 0 then 0 else 1
def ztc (σ : zST) (nm fl : Int32) : Nat → Int32 → Nat → Int32
  | 0, w, _ => w
  | n + 1, w, i => ztc σ nm fl n (w + zts σ nm fl i) (i + 1)
def ztm (σ : zST) (fl : Int32) (c : Nat) : Nat → Int32 → Nat → Int32
  | 0, w, _ => w
  | n + 1, w, i => ztm σ fl c n (w ||| (if ztc σ (nI i) fl c 0 0 < 2 then 0 else (1 : Int32) <<< (nI i &&& 31))) (i + 1)
theorem i_rollsL {c : Nat} {nm fl : Int32} (hc : σ.1 15 0 = nI c) (h6 : c ≤ 6) : ∀ n i, n + i = c → ∀ w, P (ztc σ nm fl n w i) → wp_X5_rollsWith_L5 15 nm fl σ P (n + 1) w (nI i) := by
  intro n
  induction n with
  | zero =>
    intro i hi w h
    unfold wp_X5_rollsWith_L5
    rw [if_pos (by rw [hc]; exact nI_le (by omega) (by omega))]
    exact h
  | succ n ih =>
    intro i hi w h
    unfold wp_X5_rollsWith_L5
    have hv : vp_in (nI i) 6 := vp_in_nI (by omega) (by omega)
    have h : P (ztc σ nm fl n (w + zts σ nm fl i) (i + 1)) := h
    rw [if_neg (by rw [hc]; exact nI_ge (by omega) (by omega))]
    rw [if_neg (by rw [Int32.le_iff_toInt_le, nI_toInt (by omega)]; show ¬ (6 : Int) ≤ i; omega)]
    rw [nI_1, nI_clamp (by omega)]
    refine ⟨hv, ?_⟩
    unfold zts at h
    split
    · rename_i q
      rw [if_pos q] at h
      exact ih (i + 1) (by omega) _ h
    · rename_i q
      rw [if_neg q] at h
      split
      · rename_i q2
        rw [if_pos q2, Int32.add_zero] at h
        exact ih (i + 1) (by omega) _ h
      · rename_i q2
        rw [if_neg q2] at h
        refine ⟨hv, ?_⟩
        split
        · rename_i q3
          rw [if_pos q3, Int32.add_zero] at h
          exact ih (i + 1) (by omega) _ h
        · rename_i q3
          rw [if_neg q3] at h
          exact ih (i + 1) (by omega) _ h
theorem i_twoL {c : Nat} {fl : Int32} (hc : σ.1 15 0 = nI c) (h6 : c ≤ 6) : ∀ n i, n + i = 8 → ∀ w, P (ztm σ fl c n w i) → wp_X5_namesOnTwo_L4 15 fl σ P (n + 1) w (nI i) := by
  intro n
  induction n with
  | zero =>
    intro i hi w h
    unfold wp_X5_namesOnTwo_L4
    rw [if_pos (by rw [show i = 8 by omega]; decide)]
    exact h
  | succ n ih =>
    intro i hi w h
    unfold wp_X5_namesOnTwo_L4
    have h : P (ztm σ fl c n (w ||| (if ztc σ (nI i) fl c 0 0 < 2 then 0 else (1 : Int32) <<< (nI i &&& 31))) (i + 1)) := h
    rw [if_neg (by rw [Int32.le_iff_toInt_le, nI_toInt (by omega)]; show ¬ (8 : Int) ≤ i; omega)]
    rw [nI_1]
    refine ⟨c + 1, i_rollsL hc h6 c 0 (by omega) _ ?_⟩
    split
    · rename_i q
      rw [if_pos q, Int32.or_zero] at h
      exact ih (i + 1) (by omega) _ h
    · rename_i q
      rw [if_neg q] at h
      rintro _ rfl
      exact ih (i + 1) (by omega) _ h
theorem i_tw9L {c : Nat} {v2 nm fl : Int32} (hfl : fl = 0 ∨ fl = 1) (hI : IB σ) (hc : σ.1 69 25 = nI c) (h6 : c ≤ 6) : ∀ n i, n + i = c → ∀ w, P (ztc σ nm fl n w i) → wp_X9_twice_L29 fl v2 nm σ P (n + 1) w (nI i) := by
  intro n
  induction n with
  | zero =>
    intro i hi w h
    unfold wp_X9_twice_L29
    rw [if_pos (by rw [hc]; exact nI_le (by omega) (by omega))]
    exact h
  | succ n ih =>
    intro i hi w h
    unfold wp_X9_twice_L29
    have hv : vp_in (nI i) 6 := vp_in_nI (by omega) (by omega)
    have h : P (ztc σ nm fl n (w + zts σ nm fl i) (i + 1)) := h
    have hd := b_read hI (k := i) (by omega)
    have hm := b_room hI (k := i) (by omega)
    rw [if_neg (by rw [hc]; exact nI_ge (by omega) (by omega)), nI_clamp (by omega)]
    refine ⟨hv, ?_⟩
    rw [← hd.1]
    intro z hz
    have go : ∀ s : Int32, w + (if z = 0 then (if s = 0 then 0 else 1) else 1) = w + zts σ nm fl i → wp_X9_twice_J90 fl v2 nm w (nI i) z s σ (fun v4 v5 => wp_X9_twice_L29 fl v2 nm σ P (n + 1) v4 v5) := by
      intro s hs
      rintro _ rfl _ rfl
      show wp_X9_twice_L29 fl v2 nm σ P (n + 1) _ (nI i + 1)
      rw [nI_1, hs]
      exact ih (i + 1) (by omega) _ h
    by_cases q : ((σ.1 16 i >>> (nm &&& 31)) &&& (1 : Int32)) = 1
    · rw [if_pos q] at hz
      have eq : ∀ s : Int32, w + (if z = 0 then (if s = 0 then 0 else 1) else 1) = w + zts σ nm fl i := by
        intro s
        unfold zts
        rw [if_pos q, hz, if_neg (by decide)]
      split
      · refine ⟨hv, hv, ?_⟩
        refine i_ones hd.2.1 hd.2.2 ?_
        intro z2 _
        exact go _ (eq _)
      · exact go _ (eq _)
    · rw [if_neg q] at hz
      rcases hfl with rfl | rfl
      · rw [if_neg (by decide)]
        refine go _ ?_
        unfold zts
        rw [if_neg q, if_pos rfl, hz, if_pos rfl, if_pos rfl]
      · rw [if_pos rfl]
        refine ⟨hv, hv, ?_⟩
        refine i_ones hd.2.1 hd.2.2 ?_
        intro z2 hz2
        refine go _ ?_
        unfold zts
        rw [if_neg q, if_neg (show ¬ (1 : Int32) = 0 by decide), hz, if_pos rfl]
        have hp := zpc_b hd.2.1 hd.2.2
        have em : σ.1 79 i = σ.1 17 i + zpc (σ.1 16 i) := by
          rw [hm.1, ← hd.1, Int32.sub_add_cancel]
        have et : (σ.1 79 i).toInt = (σ.1 17 i).toInt + (zpc (σ.1 16 i)).toInt := by
          rw [em]
          exact fb_addI (by omega) (by omega)
        by_cases q3 : σ.1 17 i ≤ 0
        · rw [if_pos q3]
          rw [Int32.le_iff_toInt_le] at q3
          have q3 : (σ.1 17 i).toInt ≤ 0 := q3
          rw [if_pos (by rw [Int32.le_iff_toInt_le]; omega)] at hz2
          rw [hz2, if_pos rfl]
        · rw [if_neg q3]
          rw [Int32.le_iff_toInt_le] at q3
          have q3 : ¬ (σ.1 17 i).toInt ≤ 0 := q3
          rw [if_neg (by rw [Int32.le_iff_toInt_le]; omega)] at hz2
          rw [hz2, if_neg (by decide)]
theorem z_lt2 {x : Int32} : x ≤ 1 ↔ x < 2 := by
  rw [Int32.le_iff_toInt_le, Int32.lt_iff_toInt_lt]
  show x.toInt ≤ 1 ↔ x.toInt < 2
  omega
theorem i_tw9M {c : Nat} {fl : Int32} (hfl : fl = 0 ∨ fl = 1) (hI : IB σ) (hc : σ.1 69 25 = nI c) (h6 : c ≤ 6) : ∀ n i, n + i = 8 → ∀ w, P (ztm σ fl c n w i) → wp_X9_twice_L17 fl σ P (n + 1) w (nI i) := by
  intro n
  induction n with
  | zero =>
    intro i hi w h
    unfold wp_X9_twice_L17
    rw [if_pos (by rw [show i = 8 by omega]; decide)]
    exact h
  | succ n ih =>
    intro i hi w h
    unfold wp_X9_twice_L17
    rw [if_neg (by rw [Int32.le_iff_toInt_le, nI_toInt (by omega)]; show ¬ (8 : Int) ≤ i; omega)]
    rw [nI_1]
    refine ⟨c + 1, i_tw9L hfl hI hc h6 c 0 (by omega) _ ?_⟩
    rintro _ rfl _ rfl
    refine ih (i + 1) (by omega) _ ?_
    have h : P (ztm σ fl c n (w ||| (if ztc σ (nI i) fl c 0 0 < 2 then 0 else (1 : Int32) <<< (nI i &&& 31))) (i + 1)) := h
    by_cases q : ztc σ (nI i) fl c 0 0 < 2
    · rw [if_pos (z_lt2.mpr q)]
      rw [if_pos q] at h
      exact h
    · rw [if_neg (fun e => q (z_lt2.mp e))]
      rw [if_neg q] at h
      exact h
theorem s_twice (h : Inv σ) {K : Int32 → Int32 → Prop} (hk : ∀ r, K r r) : wp_X8_twice a1 σ (fun r => wp_X9_twice a1 σ (fun r' => K r r')) := by
  have hr := b_rolls h.1
  obtain ⟨c, hc, e, -⟩ := zN (h := 6) hr.2.1 hr.2.2
  unfold wp_X8_twice
  refine t_within (a := 0) (b := 1) rfl rfl (fun x y => ?_) (fun q => ?_)
  · rcases zS2 x y with rfl | rfl
    · rintro _ rfl
      refine ⟨9, i_twoL e hc 8 0 rfl _ ?_⟩
      unfold wp_X9_twice
      refine t_in (a := 0) (b := 1) rfl rfl (fun _ _ => ?_) (fun q => by omega)
      exact ⟨9, i_tw9M (Or.inl rfl) h.1 (hr.1.symm.trans e) hc 8 0 rfl _ (hk _)⟩
    · rintro _ rfl
      refine ⟨9, i_twoL e hc 8 0 rfl _ ?_⟩
      unfold wp_X9_twice
      refine t_in (a := 0) (b := 1) rfl rfl (fun _ _ => ?_) (fun q => by omega)
      exact ⟨9, i_tw9M (Or.inr rfl) h.1 (hr.1.symm.trans e) hc 8 0 rfl _ (hk _)⟩
  · unfold wp_X9_twice
    exact t_in (a := 0) (b := 1) rfl rfl (fun _ _ => by omega) (fun _ => hk _)
end S
