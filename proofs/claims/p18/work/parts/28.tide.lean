section S
variable {σ σ0 : zST} {a1 a2 a3 a4 a5 : Int32} {c : Nat} {s : Nat → Int32}
theorem i_tideL8 {P : Int32 → zST → Prop} (h24 : c ≤ 24) (hP : ∀ σ' : zST, (∀ a k, σ'.1 a k = if a = 8 ∧ k < c then σ0.1 53 k - 48 else σ0.1 a k) → wp_X4_clear σ' (fun r5 σ6 => P r5 σ6)) (hd : σ0.1 2 7 = nI c) :
    ∀ m i, m + i = c → ∀ σ' : zST, (∀ a k, σ'.1 a k = if a = 8 ∧ k < i then σ0.1 53 k - 48 else σ0.1 a k) → wp_X8_tide_L41 P (m + 1) (nI i) σ' := by
  intro m
  induction m with
  | zero =>
    intro i hi σ' hs
    unfold wp_X8_tide_L41
    rw [show σ'.1 2 7 = nI c from by rw [hs, if_neg (by omega)]; exact hd, if_pos (nI_le (by omega) (by omega))]
    refine hP σ' ?_
    rw [show c = i by omega]
    exact hs
  | succ m ih =>
    intro i hi σ' hs
    unfold wp_X8_tide_L41
    rw [show σ'.1 2 7 = nI c from by rw [hs, if_neg (by omega)]; exact hd, if_neg (nI_ge (by omega) (by omega))]
    refine ⟨vp_in_nI (by omega) (by omega), vp_in_nI (by omega) (by omega), ?_⟩
    rw [nI_1, nI_clamp (by omega)]
    refine ih (i + 1) (by omega) _ (fun a k => ?_)
    have e53 : σ'.1 53 i = σ0.1 53 i := by rw [hs, if_neg (by omega)]
    rw [wI_at, e53, hs]
    by_cases c1 : a = 8 ∧ k = i
    · rw [if_pos c1, if_pos (by omega), c1.2]
    · rw [if_neg c1]
      by_cases c2 : a = 8 ∧ k < i
      · rw [if_pos c2, if_pos (by omega)]
      · rw [if_neg c2, if_neg (by omega)]
theorem i_tideL9 {P : Int32 → zST → Prop} (h24 : c ≤ 24) (hP : ∀ σ' : zST, (∀ a k, σ'.1 a k = if a = 74 ∧ k < c then σ0.1 80 k - 48 else σ0.1 a k) → wp_X9_tide_J41 σ' P) (hd : σ0.1 69 27 = nI c) :
    ∀ m i, m + i = c → ∀ σ' : zST, (∀ a k, σ'.1 a k = if a = 74 ∧ k < i then σ0.1 80 k - 48 else σ0.1 a k) → wp_X9_tide_L12 P (m + 1) (nI i) σ' := by
  intro m
  induction m with
  | zero =>
    intro i hi σ' hs
    unfold wp_X9_tide_L12
    rw [show σ'.1 69 27 = nI c from by rw [hs, if_neg (by omega)]; exact hd, if_pos (nI_le (by omega) (by omega))]
    refine hP σ' ?_
    rw [show c = i by omega]
    exact hs
  | succ m ih =>
    intro i hi σ' hs
    unfold wp_X9_tide_L12
    rw [show σ'.1 69 27 = nI c from by rw [hs, if_neg (by omega)]; exact hd, if_neg (nI_ge (by omega) (by omega))]
    refine ⟨vp_in_nI (by omega) (by omega), vp_in_nI (by omega) (by omega), ?_⟩
    rw [nI_1, nI_clamp (by omega)]
    refine ih (i + 1) (by omega) _ (fun a k => ?_)
    have e53 : σ'.1 80 i = σ0.1 80 i := by rw [hs, if_neg (by omega)]
    rw [wI_at, e53, hs]
    by_cases c1 : a = 74 ∧ k = i
    · rw [if_pos c1, if_pos (by omega), c1.2]
    · rw [if_neg c1]
      by_cases c2 : a = 74 ∧ k < i
      · rw [if_pos c2, if_pos (by omega)]
      · rw [if_neg c2, if_neg (by omega)]
theorem s_tide (h : Inv σ) {K : Int32 → Int32 → zST → Prop} (hk : ∀ r σ', Inv σ' → K r r σ') : wp_X8_tide σ (fun r σ1 => wp_X9_tide σ1 (fun r' σ2 => K r r' σ2)) := by
  unfold wp_X8_tide wp_X9_tide
  obtain ⟨c, h60, c1, c2, c3⟩ := IP_c h.2.1
  refine i_faultAsTide c1 h60 (fun k _ => rfl) ?_
  rcases zft_spec (s := σ.1 53) (c := c) 60 0 (by omega) (by omega) (by omega) with ⟨q1, q2, q3, q4⟩ | ⟨q1, q2⟩
  · dsimp only
    rw [if_pos q1, c1, if_neg (show ¬ (24 : Int32) < nI c from by rw [Int32.not_lt]; exact nI_le (b := 24) q3 (by omega))]
    refine ⟨c + 1, i_tideL8 (σ0 := wI σ 2 7 (nI c)) q3 (fun σ1 hs1 => ?_) rfl c 0 rfl _ (fun a k => by rw [if_neg (by omega)])⟩
    have hs1' : ∀ a k, σ1.1 a k = if a = 8 ∧ k < c then σ.1 53 k - 48 else if a = 2 ∧ k = 7 then nI c else σ.1 a k := fun a k => by rw [hs1]; rfl
    rintro _ rfl
    refine i_faultOfTide (c := c) (s := σ.1 53) (by rw [wI_at, if_neg (by omega), hs1', if_neg (by omega), if_neg (by omega)]; exact c2) h60 (fun k hk => by rw [wI_at, if_neg (by omega), hs1', if_neg (by omega), if_neg (by omega)]; exact c3 k hk) ?_
    rw [if_pos (show zft (σ.1 53) c 60 0 < 0 by rw [q1]; decide)]
    refine ⟨c + 1, i_tideL9 (σ0 := wI σ1 52 1 0) q3 (fun σ2 hs2 => ?_) (by rw [wI_at, if_neg (by omega), hs1', if_neg (by omega), if_neg (by omega)]; exact c2) c 0 rfl _ (fun a k => by rw [if_neg (by omega)])⟩
    have hs2' : ∀ a k, σ2.1 a k = if a = 74 ∧ k < c then σ.1 80 k - 48 else if a = 52 ∧ k = 1 then 0 else if a = 8 ∧ k < c then σ.1 53 k - 48 else if a = 2 ∧ k = 7 then nI c else σ.1 a k := fun a k => by
      rw [hs2, wI_at, wI_at, if_neg (show ¬ (80 = 52 ∧ k = 1) by omega), hs1' 80 k, if_neg (show ¬ (80 = 8 ∧ k < c) by omega), if_neg (show ¬ (80 = 2 ∧ k = 7) by omega), hs1' a k]
    unfold wp_X9_tide_J41
    rintro _ rfl
    have e1 : σ1.1 52 1 = nI c := by rw [hs1', if_neg (by omega), if_neg (by omega)]; exact c1
    have e2 : σ2.1 69 27 = nI c := by rw [hs2', if_neg (by omega), if_neg (by omega), if_neg (by omega), if_neg (by omega)]; exact c2
    have hs3 : ∀ a k, (wI (wI σ2 69 14 (σ2.1 69 27)) 69 27 0).1 a k = if a = 69 ∧ k = 27 then 0 else if a = 69 ∧ k = 14 then nI c else if a = 74 ∧ k < c then σ.1 80 k - 48 else if a = 52 ∧ k = 1 then 0 else if a = 8 ∧ k < c then σ.1 53 k - 48 else if a = 2 ∧ k = 7 then nI c else σ.1 a k := fun a k => by rw [wI_at, wI_at, e2, hs2' a k]
    generalize wI (wI σ2 69 14 (σ2.1 69 27)) 69 27 0 = σ3 at hs3 ⊢
    rw [e1, show σ3.1 69 14 = nI c by rw [hs3, if_neg (by omega), if_pos ⟨rfl, rfl⟩]]
    refine hk _ _ ⟨IB_upd h.1 (fun r k hk => ?_) (fun k hk => ?_) (fun k hk => ?_), ?_, II_fr (fun a k x => ?_) h.2.2⟩
    · have hr := zLen13 hk
      match r, hr with
      | 0, _ =>
        match k, hk with
        | 0, _ => left; simp only [cV, mV, hs3]; repeat rw [if_neg (by omega)]
                  exact ⟨rfl, rfl⟩
        | 1, _ =>
          right
          have w1 : σ3.1 2 7 = nI c := by rw [hs3, if_neg (by omega), if_neg (by omega), if_neg (by omega), if_neg (by omega), if_neg (by omega), if_pos ⟨rfl, rfl⟩]
          have w2 : σ3.1 69 14 = nI c := by rw [hs3, if_neg (by omega), if_pos ⟨rfl, rfl⟩]
          show σ3.1 2 7 = σ3.1 69 14 ∧ 1 ≤ (σ3.1 2 7).toInt ∧ (σ3.1 2 7).toInt ≤ 24
          rw [w1, w2, nI_toInt (by omega)]
          exact ⟨rfl, by omega, by omega⟩
        | 2, _ => left; simp only [cV, mV, hs3]; repeat rw [if_neg (by omega)]
                  exact ⟨rfl, rfl⟩
        | 3, _ => left; simp only [cV, mV, hs3]; repeat rw [if_neg (by omega)]
                  exact ⟨rfl, rfl⟩
        | 4, _ => left; simp only [cV, mV, hs3]; repeat rw [if_neg (by omega)]
                  exact ⟨rfl, rfl⟩
        | k + 5, h5 => exact absurd h5 (by simp [zLen])
      | 1, _ => left; simp only [cV, mV, hs3]; repeat rw [if_neg (by omega)]
                exact ⟨rfl, rfl⟩
      | 2, _ => left; simp only [cV, mV, hs3]; repeat rw [if_neg (by omega)]
                exact ⟨rfl, rfl⟩
      | 3, _ => left; simp only [cV, mV, hs3]; repeat rw [if_neg (by omega)]
                exact ⟨rfl, rfl⟩
      | 4, _ => left; simp only [cV, mV, hs3]; repeat rw [if_neg (by omega)]
                exact ⟨rfl, rfl⟩
      | 5, _ => have h8 : k < 8 := hk
                left; simp only [cV, mV, hs3]; repeat rw [if_neg (by omega)]
                exact ⟨rfl, rfl⟩
      | 6, _ =>
        have h8 : k < 24 := hk
        by_cases e : k < c
        · right
          have w1 : σ3.1 8 k = σ.1 53 k - 48 := by rw [hs3, if_neg (by omega), if_neg (by omega), if_neg (by omega), if_neg (by omega), if_pos ⟨rfl, e⟩]
          have w2 : σ3.1 74 k = σ.1 80 k - 48 := by rw [hs3, if_neg (by omega), if_neg (by omega), if_pos ⟨rfl, e⟩]
          have w3 := q4 k (by omega) e
          have w4 := zsubc (σ.1 53 k) 48 (n := 48) rfl (by omega) (by omega) (by omega)
          show σ3.1 8 k = σ3.1 74 k ∧ 0 ≤ (σ3.1 8 k).toInt ∧ (σ3.1 8 k).toInt ≤ 9
          rw [w1, w2, c3 k (by omega), w4]
          exact ⟨rfl, by omega, by omega⟩
        · left; simp only [cV, mV, hs3]; repeat rw [if_neg (by omega)]
          exact ⟨rfl, rfl⟩
      | 7, _ => have h8 : k < 3 := hk
                left; simp only [cV, mV, hs3]; repeat rw [if_neg (by omega)]
                exact ⟨rfl, rfl⟩
      | 8, _ => left; simp only [cV, mV, hs3]; repeat rw [if_neg (by omega)]
                exact ⟨rfl, rfl⟩
      | 9, _ => left; simp only [cV, mV, hs3]; repeat rw [if_neg (by omega)]
                exact ⟨rfl, rfl⟩
      | 10, _ => left; simp only [cV, mV, hs3]; repeat rw [if_neg (by omega)]
                 exact ⟨rfl, rfl⟩
      | 11, _ => left; simp only [cV, mV, hs3]; repeat rw [if_neg (by omega)]
                 exact ⟨rfl, rfl⟩
      | 12, _ => left; simp only [cV, mV, hs3]; repeat rw [if_neg (by omega)]
                 exact ⟨rfl, rfl⟩
    · have := zsh_many h.1 hk
      simp only [cV, hs3] at this ⊢
      repeat rw [if_neg (by omega)]
      exact this
    · have := b_moor h.1 hk
      have w1 : σ3.1 2 0 = σ.1 2 0 := by rw [hs3]; repeat rw [if_neg (by omega)]
      have w2 : σ3.1 3 k = σ.1 3 k := by rw [hs3]; repeat rw [if_neg (by omega)]
      have w3 : σ3.1 4 k = σ.1 4 k := by rw [hs3]; repeat rw [if_neg (by omega)]
      show zH (σ3.1 2 0) (nI k) → σ3.1 3 k = 0 → 1 ≤ (σ3.1 4 k).toInt
      rw [w1, w2, w3]
      exact this
    · have w1 : σ3.1 52 1 = 0 := by rw [hs3, if_neg (by omega), if_neg (by omega), if_neg (by omega), if_pos ⟨rfl, rfl⟩]
      have w2 : σ3.1 69 27 = 0 := by rw [hs3, if_pos ⟨rfl, rfl⟩]
      refine ⟨by rw [w1, w2], by rw [w1]; decide, by rw [w1]; decide, fun k hk => ?_⟩
      rw [hs3, hs3]
      repeat rw [if_neg (by omega)]
      exact (c3 k hk).symm
    · rw [hs3]
      repeat rw [if_neg (by omega)]
  · dsimp only
    rw [if_neg q1]
    refine i_faultOfTide c2 h60 c3 ?_
    rw [if_neg (show ¬ zft (σ.1 53) c 60 0 < 0 by rw [Int32.lt_iff_toInt_lt]; show ¬ _ < (0 : Int); omega)]
    exact hk _ _ h
end S
