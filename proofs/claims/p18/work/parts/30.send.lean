section S
variable {σ : zST} {S : zSea} {p sd hr : Int32} {k : Nat} {P : zST → Prop} {Q : Int32 → Prop}
theorem SR_of {σ' : zST} {S' : zSea} (h0 : σ'.1 55 0 = S' 0 0) (h01 : σ'.1 55 7 = S' 0 1) (h1 : ∀ j, j < 6 → σ'.1 56 j = S' 1 j) (h2 : ∀ j, j < 6 → σ'.1 57 j = S' 2 j) (h3 : ∀ j, j < 6 → σ'.1 58 j = S' 3 j) (h4 : ∀ j, j < 6 → σ'.1 59 j = S' 4 j) (h5 : ∀ j, j < 8 → σ'.1 60 j = S' 5 j) (h6 : ∀ j, j < 24 → σ'.1 61 j = S' 6 j) (h7 : ∀ j, j < 3 → σ'.1 62 j = S' 7 j) : SR σ' S' := by
  intro r j hj
  have hr := zl8 hj
  match r, hr with
  | 0, _ =>
    match j, hj with
    | 0, _ => exact h0
    | 1, _ => exact h01
    | j + 2, hj => exact absurd hj (by simp [zl])
  | 1, _ => exact h1 j hj
  | 2, _ => exact h2 j hj
  | 3, _ => exact h3 j hj
  | 4, _ => exact h4 j hj
  | 5, _ => exact h5 j hj
  | 6, _ => exact h6 j hj
  | 7, _ => exact h7 j hj
theorem NR_of {σ' : zST} {S' : zSea} (h0 : σ'.1 69 0 = S' 0 0) (h01 : σ'.1 69 14 = S' 0 1) (h1 : ∀ j, j < 6 → σ'.1 73 j = S' 1 j) (h2 : ∀ j, j < 6 → σ'.1 70 j = S' 2 j) (h3 : ∀ j, j < 6 → σ'.1 71 j = S' 3 j) (h4 : ∀ j, j < 6 → σ'.1 72 j = S' 4 j) (h5 : ∀ j, j < 8 → σ'.1 69 (5 + j) = S' 5 j) (h6 : ∀ j, j < 24 → σ'.1 74 j = S' 6 j) (h7 : ∀ j, j < 3 → σ'.1 69 (15 + j) = S' 7 j) : NR σ' S' := by
  intro r j hj
  have hr := zl8 hj
  match r, hr with
  | 0, _ =>
    match j, hj with
    | 0, _ => exact h0
    | 1, _ => exact h01
    | j + 2, hj => exact absurd hj (by simp [zl])
  | 1, _ => exact h1 j hj
  | 2, _ => exact h2 j hj
  | 3, _ => exact h3 j hj
  | 4, _ => exact h4 j hj
  | 5, _ => exact h5 j hj
  | 6, _ => exact h6 j hj
  | 7, _ => exact h7 j hj
theorem zdig (hok : OKS S) (hh : 0 ≤ hr.toInt) : (zmo hr (S 0 1)).toNatClampNeg < 24 := by
  have e := hok.1 0 1 (by decide)
  have e1 : 1 ≤ (S 0 1).toInt := e.1
  have e2 : (S 0 1).toInt ≤ 24 := e.2
  have := zmodb (d := S 0 1) hh e1
  exact zcl (x := zmo hr (S 0 1)) this.1 (Int.lt_of_lt_of_le this.2.1 (by omega))
theorem i_sendW (hp : p = nI k) (hk : k < 6) (hS : SR σ S) (hok : OKS S) (hh : 0 ≤ hr.toInt) (h : ∀ σ' : zST, SR σ' (if S 6 (zmo hr (S 0 1)).toNatClampNeg ≤ zdw (S 5 7) - zdw (S 5 7) / 10 * 10 then zGw S k else zGl S k) → (∀ a j, a < 55 ∨ 62 < a → σ'.1 a j = σ.1 a j) → P σ') : wp_X6_sendByWhirl 55 p hr (wI σ 56 p.toNatClampNeg 1) P := by
  subst hp
  have hc : (nI k).toNatClampNeg = k := nI_clamp (by omega)
  have f0 : σ.1 55 0 = S 0 0 := hS 0 0 (by decide)
  have f01 : σ.1 55 7 = S 0 1 := hS 0 1 (by decide)
  have f1 : ∀ j, j < 6 → σ.1 56 j = S 1 j := fun j hj => hS 1 j hj
  have f2 : ∀ j, j < 6 → σ.1 57 j = S 2 j := fun j hj => hS 2 j hj
  have f3 : ∀ j, j < 6 → σ.1 58 j = S 3 j := fun j hj => hS 3 j hj
  have f4 : ∀ j, j < 6 → σ.1 59 j = S 4 j := fun j hj => hS 4 j hj
  have f5 : ∀ j, j < 8 → σ.1 60 j = S 5 j := fun j hj => hS 5 j hj
  have f6 : ∀ j, j < 24 → σ.1 61 j = S 6 j := fun j hj => hS 6 j hj
  have f7 : ∀ j, j < 3 → σ.1 62 j = S 7 j := fun j hj => hS 7 j hj
  have ed := hok.1 0 1 (by decide)
  have ed1 : 1 ≤ (S 0 1).toInt := ed.1
  have ed2 : (S 0 1).toInt ≤ 24 := ed.2
  rw [hc]
  unfold wp_X6_sendByWhirl wp_X8_drawAfter
  intro σ3 e3
  have h3 : ∀ a j, σ3.1 a j = if a = 60 ∧ j = 7 then zdw (S 5 7) else if a = 56 ∧ j = k then 1 else σ.1 a j := by
    intro a j
    rw [e3, ← f5 7 (by omega)]
    rfl
  have g1 : σ3.1 55 7 = S 0 1 := by rw [h3]; (repeat rw [if_neg (by omega)]); exact f01
  have g2 : σ3.1 60 7 = zdw (S 5 7) := by rw [h3, if_pos ⟨rfl, rfl⟩]
  refine i_digitAt hh (by rw [g1]; exact ed1) (by rw [g1]; exact ed2) ?_
  have g3 : zdg σ3 55 hr = S 6 (zmo hr (S 0 1)).toNatClampNeg := by
    unfold zdg
    rw [g1]
    show σ3.1 61 _ = _
    rw [h3]; (repeat rw [if_neg (by omega)]); exact f6 _ (zdig hok hh)
  rw [g3, show σ3.1 (55 + 5) (7 : Int32).toNatClampNeg = zdw (S 5 7) from g2]
  by_cases cc : S 6 (zmo hr (S 0 1)).toNatClampNeg ≤ zdw (S 5 7) - zdw (S 5 7) / 10 * 10
  · rw [if_pos cc] at h ⊢
    refine h σ3 (SR_of ?_ ?_ (fun j hj => ?_) (fun j hj => ?_) (fun j hj => ?_) (fun j hj => ?_) (fun j hj => ?_) (fun j hj => ?_) (fun j hj => ?_)) (fun a j ha => ?_)
    · rw [h3]; (repeat rw [if_neg (by omega)]); exact f0
    · exact g1
    · show σ3.1 56 j = if j = k then 1 else S 1 j
      rw [h3]
      by_cases e : j = k
      · rw [if_neg (by omega), if_pos ⟨rfl, e⟩, if_pos e]
      · rw [if_neg (by omega), if_neg (by omega), if_neg e]; exact f1 j hj
    · show σ3.1 57 j = S 2 j; rw [h3]; (repeat rw [if_neg (by omega)]); exact f2 j hj
    · show σ3.1 58 j = S 3 j; rw [h3]; (repeat rw [if_neg (by omega)]); exact f3 j hj
    · show σ3.1 59 j = S 4 j; rw [h3]; (repeat rw [if_neg (by omega)]); exact f4 j hj
    · show σ3.1 60 j = if j = 7 then zdw (S 5 7) else S 5 j
      rw [h3]
      by_cases e : j = 7
      · rw [if_pos ⟨rfl, e⟩, if_pos e]
      · rw [if_neg (by omega), if_neg (by omega), if_neg e]; exact f5 j hj
    · show σ3.1 61 j = S 6 j; rw [h3]; (repeat rw [if_neg (by omega)]); exact f6 j hj
    · show σ3.1 62 j = S 7 j; rw [h3]; (repeat rw [if_neg (by omega)]); exact f7 j hj
    · rw [h3]; (repeat rw [if_neg (by omega)])
  · rw [if_neg cc] at h ⊢
    refine i_lose rfl hk (fun σ' hs => ?_)
    have m1 : σ3.1 62 1 = S 7 1 := by rw [h3]; (repeat rw [if_neg (by omega)]); exact f7 1 (by omega)
    have m2 : σ3.1 62 0 = S 7 0 := by rw [h3]; (repeat rw [if_neg (by omega)]); exact f7 0 (by omega)
    have m3 : σ3.1 59 k = S 4 k := by rw [h3]; (repeat rw [if_neg (by omega)]); exact f4 k hk
    have m4 : σ3.1 57 k = S 2 k := by rw [h3]; (repeat rw [if_neg (by omega)]); exact f2 k hk
    rw [m1, m2, m3, m4] at hs
    refine h σ' (SR_of ?_ ?_ (fun j hj => ?_) (fun j hj => ?_) (fun j hj => ?_) (fun j hj => ?_) (fun j hj => ?_) (fun j hj => ?_) (fun j hj => ?_)) (fun a j ha => ?_)
    · show σ'.1 55 0 = S 0 0; rw [hs, h3]; (repeat rw [if_neg (by omega)]); exact f0
    · show σ'.1 55 7 = S 0 1; rw [hs, h3]; (repeat rw [if_neg (by omega)]); exact f01
    · show σ'.1 56 j = if j = k then 2 else S 1 j
      rw [hs, h3]
      by_cases e : j = k
      · rw [if_neg (by omega), if_neg (by omega), if_neg (by omega), if_pos ⟨rfl, e⟩, if_pos e]
      · rw [if_neg e]; (repeat rw [if_neg (by omega)]); exact f1 j hj
    · show σ'.1 57 j = if j = k then 0 else S 2 j
      rw [hs, h3]
      by_cases e : j = k
      · rw [if_neg (by omega), if_neg (by omega), if_pos ⟨rfl, e⟩, if_pos e]
      · rw [if_neg e]; (repeat rw [if_neg (by omega)]); exact f2 j hj
    · show σ'.1 58 j = if j = k then 0 else S 3 j
      rw [hs, h3]
      by_cases e : j = k
      · rw [if_neg (by omega), if_pos ⟨rfl, e⟩, if_pos e]
      · rw [if_neg e]; (repeat rw [if_neg (by omega)]); exact f3 j hj
    · show σ'.1 59 j = if j = k then 0 else S 4 j
      rw [hs, h3]
      by_cases e : j = k
      · rw [if_pos ⟨rfl, e⟩, if_pos e]
      · rw [if_neg e]; (repeat rw [if_neg (by omega)]); exact f4 j hj
    · show σ'.1 60 j = if j = 7 then zdw (S 5 7) else S 5 j
      rw [hs, h3]
      by_cases e : j = 7
      · rw [if_pos e, if_pos (show (60 : Nat) = 60 ∧ j = 7 from ⟨rfl, e⟩)]; (repeat rw [if_neg (by omega)])
      · rw [if_neg e]; (repeat rw [if_neg (by omega)]); exact f5 j hj
    · show σ'.1 61 j = S 6 j; rw [hs, h3]; (repeat rw [if_neg (by omega)]); exact f6 j hj
    · show σ'.1 62 j = if j = 0 then S 7 0 + S 2 k else if j = 1 then S 7 1 + S 4 k else S 7 j
      rw [hs, h3]
      rcases (show j = 0 ∨ j = 1 ∨ j = 2 by omega) with rfl | rfl | rfl
      · simp
      · simp
      · simp; exact f7 2 (by omega)
    · rw [hs, h3]; (repeat rw [if_neg (by omega)])
theorem i_send (hp : p = nI k) (hk : k < 6) (hS : SR σ S) (hok : OKS S) (hh : 0 ≤ hr.toInt) (hz : zH (S 0 0) p) (hw : S 1 k = 0) (h : ∀ σ' : zST, SR σ' (zGo S k sd hr) → (∀ a j, a < 55 ∨ 62 < a → σ'.1 a j = σ.1 a j) → P σ') : wp_X6_send 55 p sd hr σ P := by
  have hv : vp_in p 6 := by rw [hp]; exact vp_in_nI hk (by omega)
  have hc : p.toNatClampNeg = k := by rw [hp]; exact nI_clamp (by omega)
  have hpi : p.toInt = k := by rw [hp]; exact nI_toInt (by omega)
  have f0 : σ.1 55 0 = S 0 0 := hS 0 0 (by decide)
  have f1 : ∀ j, j < 6 → σ.1 56 j = S 1 j := fun j hj => hS 1 j hj
  have hmen : 1 ≤ (S 2 k).toInt := hok.2 k hk (by rw [← hp]; exact hz) hw
  unfold wp_X6_send wp_X6_moored
  refine i_has f0 (fun _ _ _ => ⟨?_, ?_⟩) (fun y => absurd ⟨by omega, by omega, hz⟩ y)
  · rw [if_neg (by decide)]; exact ⟨hv, trivial⟩
  · rintro _ rfl
    rw [if_neg (by decide), if_pos (show σ.1 (55 + 1) p.toNatClampNeg = 0 by rw [hc]; exact (f1 k hk).trans hw)]
    refine ⟨zB1, zi1 ⟨hv, ?_⟩⟩
    unfold zGo at h
    by_cases c0 : sd = 0
    · rw [if_pos c0] at h ⊢
      rintro _ rfl
      exact i_sendT hp hk hS hmen h
    · rw [if_neg c0] at h ⊢
      by_cases c1 : sd = 1
      · rw [if_pos c1] at h ⊢
        rintro _ rfl
        exact i_sendW hp hk hS hok hh h
      · rw [if_neg c1] at h ⊢
        rintro σ7 e7
        have h7 : ∀ a j, σ7.1 a j = if a = 56 ∧ j = k then 1 else σ.1 a j := by
          intro a j
          rw [e7, hc]
          rfl
        refine i_fare hv ?_
        rw [hc]
        have q1 : qF σ7 55 k = S 5 2 * S 5 3 * S 2 k := by
          show σ7.1 60 2 * σ7.1 60 3 * σ7.1 57 k = _
          rw [h7 60 2, h7 60 3, h7 57 k]
          (repeat rw [if_neg (by omega)])
          rw [show σ.1 60 2 = S 5 2 from hS 5 2 (by decide), show σ.1 60 3 = S 5 3 from hS 5 3 (by decide), show σ.1 57 k = S 2 k from hS 2 k hk]
        have q2 : σ7.1 62 2 = S 7 2 := by rw [h7]; (repeat rw [if_neg (by omega)]); exact hS 7 2 (by decide)
        rw [q1, show σ7.1 (55 + 7) (2 : Int32).toNatClampNeg = S 7 2 from q2]
        have h8 : ∀ a j, (wI σ7 (55 + 7) (2 : Int32).toNatClampNeg (S 7 2 + S 5 2 * S 5 3 * S 2 k)).1 a j = if a = 62 ∧ j = 2 then S 7 2 + S 5 2 * S 5 3 * S 2 k else if a = 56 ∧ j = k then 1 else σ.1 a j := by
          intro a j
          rw [wI_at, h7]
          rfl
        refine h _ (SR_of ?_ ?_ (fun j hj => ?_) (fun j hj => ?_) (fun j hj => ?_) (fun j hj => ?_) (fun j hj => ?_) (fun j hj => ?_) (fun j hj => ?_)) (fun a j ha => ?_)
        · rw [h8]; (repeat rw [if_neg (by omega)]); exact f0
        · rw [h8]; (repeat rw [if_neg (by omega)]); exact hS 0 1 (by decide)
        · rw [h8]
          show _ = if j = k then 1 else S 1 j
          by_cases e : j = k
          · rw [if_neg (by omega), if_pos ⟨rfl, e⟩, if_pos e]
          · rw [if_neg (by omega), if_neg (by omega), if_neg e]; exact f1 j hj
        · rw [h8]; (repeat rw [if_neg (by omega)]); exact hS 2 j hj
        · rw [h8]; (repeat rw [if_neg (by omega)]); exact hS 3 j hj
        · rw [h8]; (repeat rw [if_neg (by omega)]); exact hS 4 j hj
        · rw [h8]; (repeat rw [if_neg (by omega)]); exact hS 5 j hj
        · rw [h8]; (repeat rw [if_neg (by omega)]); exact hS 6 j hj
        · rw [h8]
          show _ = if j = 2 then S 7 2 + S 5 2 * S 5 3 * S 2 k else S 7 j
          by_cases e : j = 2
          · rw [if_pos ⟨rfl, e⟩, if_pos e]
          · rw [if_neg (by omega), if_neg (by omega), if_neg e]; exact hS 7 j hj
        · rw [h8]; (repeat rw [if_neg (by omega)])
/-! the reference's -/
theorem zTr {T st mn : Int32} (hs : (T - st).toInt = T.toInt - st.toInt) : (if mn ≤ (if T ≤ st then (0 : Int32) else T - st) then mn else (if T ≤ st then (0 : Int32) else T - st)) = if (if (0 : Int32) < T - st then T - st else 0) < mn then (if (0 : Int32) < T - st then T - st else 0) else mn := by
  have hz : (if T ≤ st then (0 : Int32) else T - st) = if (0 : Int32) < T - st then T - st else 0 := by
    by_cases c : T ≤ st
    · rw [if_pos c, if_neg]
      rw [Int32.lt_iff_toInt_lt, hs]
      rw [Int32.le_iff_toInt_le] at c
      show ¬ 0 < _
      omega
    · rw [if_neg c, if_pos]
      rw [Int32.lt_iff_toInt_lt, hs]
      rw [Int32.le_iff_toInt_le] at c
      show 0 < _
      omega
  rw [hz]
  by_cases c : (if (0 : Int32) < T - st then T - st else 0) < mn
  · rw [if_pos c, if_neg (by rw [Int32.not_le]; exact c)]
  · rw [if_neg c, if_pos (Int32.not_lt.mp c)]
theorem zSr {T st : Int32} (hs : (st - T).toInt = st.toInt - T.toInt) : (if st ≤ T then (0 : Int32) else st - T) = if (0 : Int32) < st - T then st - T else 0 := by
  by_cases c : st ≤ T
  · rw [if_pos c, if_neg]
    rw [Int32.lt_iff_toInt_lt, hs]
    rw [Int32.le_iff_toInt_le] at c
    show ¬ 0 < _
    omega
  · rw [if_neg c, if_pos]
    rw [Int32.lt_iff_toInt_lt, hs]
    rw [Int32.le_iff_toInt_le] at c
    show 0 < _
    omega
theorem OKS_t (hok : OKS S) (hk : k < 6) : (1 ≤ (S 5 0).toInt ∧ (S 5 0).toInt ≤ 9) ∧ (0 ≤ (S 3 k).toInt ∧ (S 3 k).toInt ≤ 9) ∧ (0 ≤ (S 2 k).toInt ∧ (S 2 k).toInt ≤ 30) ∧ (0 ≤ (S 4 k).toInt ∧ (S 4 k).toInt ≤ 999) ∧ (0 ≤ (S 5 7).toInt ∧ (S 5 7).toInt ≤ 65536) ∧ (1 ≤ (S 0 1).toInt ∧ (S 0 1).toInt ≤ 24) :=
  ⟨hok.1 5 0 (by decide), hok.1 3 k hk, hok.1 2 k hk, hok.1 4 k hk, hok.1 5 7 (by decide), hok.1 0 1 (by decide)⟩
theorem zTt_b (hok : OKS S) (hk : k < 6) : 0 ≤ (zTt S k).toInt ∧ (zTt S k).toInt ≤ (S 2 k).toInt ∧ (1 ≤ (S 2 k).toInt → S 2 k - zTt S k = 0 → S 3 k ≤ S 5 0) := by
  obtain ⟨t1, t2, t3, -, -, -⟩ := OKS_t hok hk
  have hs : (S 5 0 - S 3 k).toInt = (S 5 0).toInt - (S 3 k).toInt := fb_subI (by omega) (by omega)
  unfold zTt
  by_cases c2 : (0 : Int32) < S 5 0 - S 3 k
  · rw [if_pos c2]
    have c3 : 0 < (S 5 0 - S 3 k).toInt := Int32.lt_iff_toInt_lt.mp c2
    have c9 : S 3 k ≤ S 5 0 := by rw [Int32.le_iff_toInt_le]; omega
    by_cases c : S 5 0 - S 3 k < S 2 k
    · rw [if_pos c]
      rw [Int32.lt_iff_toInt_lt] at c
      exact ⟨by omega, by omega, fun _ _ => c9⟩
    · rw [if_neg c]
      exact ⟨by omega, by omega, fun _ _ => c9⟩
  · rw [if_neg c2]
    by_cases c : (0 : Int32) < S 2 k
    · rw [if_pos c]
      refine ⟨by decide, t3.1, fun _ q => ?_⟩
      rw [Int32.sub_zero] at q
      rw [q] at c
      exact absurd c (by decide)
    · rw [if_neg c]
      refine ⟨by omega, by omega, fun q _ => ?_⟩
      rw [Int32.lt_iff_toInt_lt] at c
      have c' : ¬ 0 < (S 2 k).toInt := c
      omega
theorem i_lostN (hp : p = nI k) (hk : k < 6) (hS : NR σ S) (hok : OKS S) (h : Q (zTt S k)) : wp_X9_lostByTeeth p σ Q := by
  have hv : vp_in p 6 := by rw [hp]; exact vp_in_nI hk (by omega)
  have hc : p.toNatClampNeg = k := by rw [hp]; exact nI_clamp (by omega)
  obtain ⟨t1, t2, t3, -, -, -⟩ := OKS_t hok hk
  have hs : (S 5 0 - S 3 k).toInt = (S 5 0).toInt - (S 3 k).toInt := fb_subI (by omega) (by omega)
  have e1 : σ.1 69 5 = S 5 0 := hS 5 0 (by decide)
  have e2 : σ.1 71 k = S 3 k := hS 3 k hk
  have e3 : σ.1 70 k = S 2 k := hS 2 k hk
  unfold wp_X9_lostByTeeth
  rw [hc, e1, e2, e3]
  refine ⟨hv, ?_, fun z hz => ⟨hv, ?_, fun w hw => ?_⟩⟩
  · split
    · trivial
    · exact ⟨hv, trivial⟩
  · split
    · exact ⟨hv, trivial⟩
    · trivial
  · subst hw hz
    rw [zTr hs]
    exact h
theorem i_goTeeth (hp : p = nI k) (hk : k < 6) (hS : NR σ S) (hok : OKS S) (hmen : 1 ≤ (S 2 k).toInt) (h : ∀ σ' : zST, NR σ' (zGt S k) → (∀ a j, ¬ (70 ≤ a ∧ a ≤ 73) → ¬ (a = 69 ∧ (j = 12 ∨ 15 ≤ j ∧ j ≤ 17)) → σ'.1 a j = σ.1 a j) → P σ') : wp_X9_goTeeth p σ P := by
  have hv : vp_in p 6 := by rw [hp]; exact vp_in_nI hk (by omega)
  have hc : p.toNatClampNeg = k := by rw [hp]; exact nI_clamp (by omega)
  obtain ⟨t1, t2, t3, t4, -, -⟩ := OKS_t hok hk
  have hs : (S 3 k - S 5 0).toInt = (S 3 k).toInt - (S 5 0).toInt := fb_subI (by omega) (by omega)
  have tb := zTt_b hok hk
  have e1 : σ.1 69 5 = S 5 0 := hS 5 0 (by decide)
  have e2 : σ.1 71 k = S 3 k := hS 3 k hk
  have e3 : σ.1 70 k = S 2 k := hS 2 k hk
  have e4 : σ.1 72 k = S 4 k := hS 4 k hk
  have e7 : σ.1 69 15 = S 7 0 := hS 7 0 (by decide)
  have e8 : σ.1 69 16 = S 7 1 := hS 7 1 (by decide)
  unfold wp_X9_goTeeth
  refine i_lostN hp hk hS hok ?_
  rw [hc]
  refine ⟨hv, ?_, ?_⟩
  · split
    · trivial
    · exact ⟨hv, trivial⟩
  rintro _ rfl
  refine ⟨hv, hv, ?_⟩
  rintro _ rfl
  refine ⟨hv, ?_⟩
  rintro _ rfl
  refine ⟨hv, ?_⟩
  rintro σ15 e15
  have h15 : ∀ a j, σ15.1 a j = if a = 69 ∧ j = 15 then S 7 0 + zTt S k else if a = 70 ∧ j = k then S 2 k - zTt S k else if a = 71 ∧ j = k then (if S 3 k ≤ S 5 0 then 0 else S 3 k - S 5 0) else σ.1 a j := by
    intro a j
    rw [e15, ← e7, ← e3, ← e2, ← e1]
    rfl
  have m15 : σ15.1 70 k = S 2 k - zTt S k := by rw [h15, if_neg (by omega), if_pos ⟨rfl, rfl⟩]
  rw [m15]
  rintro _ rfl
  refine ⟨hv, ?_⟩
  rintro σ21 e21
  have h21 : ∀ a j, σ21.1 a j = if a = 73 ∧ j = k then (if S 2 k - zTt S k = 0 then 2 else 1) else σ15.1 a j := fun a j => by rw [e21]; rfl
  have m21 : σ21.1 70 k = S 2 k - zTt S k := by rw [h21, if_neg (by omega)]; exact m15
  have c21 : σ21.1 72 k = S 4 k := by rw [h21, if_neg (by omega), h15]; (repeat rw [if_neg (by omega)]); exact e4
  have s21 : σ21.1 69 16 = S 7 1 := by rw [h21, if_neg (by omega), h15]; (repeat rw [if_neg (by omega)]); exact e8
  rw [m21, c21, s21]
  refine ⟨hv, ?_, ?_⟩
  · split
    · exact ⟨hv, trivial⟩
    · trivial
  rintro _ rfl
  refine ⟨hv, ?_⟩
  rintro σ29 e29
  have h29 : ∀ a j, σ29.1 a j = if a = 69 ∧ j = 16 then (S 7 1 + if S 2 k - zTt S k = 0 then S 4 k else 0) else σ21.1 a j := fun a j => by rw [e29]; rfl
  have m29 : σ29.1 70 k = S 2 k - zTt S k := by rw [h29, if_neg (by omega)]; exact m21
  have c29 : σ29.1 72 k = S 4 k := by rw [h29, if_neg (by omega)]; exact c21
  rw [m29, c29]
  refine ⟨?_, ?_⟩
  · split
    · trivial
    · exact ⟨hv, trivial⟩
  rintro _ rfl
  refine ⟨hv, ?_⟩
  have hf : ∀ a j, (wI σ29 72 k (if S 2 k - zTt S k = 0 then 0 else S 4 k)).1 a j = if a = 72 ∧ j = k then (if S 2 k - zTt S k = 0 then 0 else S 4 k) else if a = 69 ∧ j = 16 then (S 7 1 + if S 2 k - zTt S k = 0 then S 4 k else 0) else if a = 73 ∧ j = k then (if S 2 k - zTt S k = 0 then 2 else 1) else if a = 69 ∧ j = 15 then S 7 0 + zTt S k else if a = 70 ∧ j = k then S 2 k - zTt S k else if a = 71 ∧ j = k then (if S 3 k ≤ S 5 0 then 0 else S 3 k - S 5 0) else σ.1 a j := by
    intro a j
    rw [wI_at, h29, h21, h15]
  generalize wI σ29 72 k (if S 2 k - zTt S k = 0 then 0 else S 4 k) = σ' at hf ⊢
  refine h σ' (NR_of ?_ ?_ (fun j hj => ?_) (fun j hj => ?_) (fun j hj => ?_) (fun j hj => ?_) (fun j hj => ?_) (fun j hj => ?_) (fun j hj => ?_)) (fun a j ha hb => ?_)
  · rw [hf]; (repeat rw [if_neg (by omega)]); exact hS 0 0 (by decide)
  · rw [hf]; (repeat rw [if_neg (by omega)]); exact hS 0 1 (by decide)
  · show _ = if j = k then (if S 2 k - zTt S k = 0 then 2 else 1) else S 1 j
    rw [hf]
    by_cases e : j = k
    · rw [if_neg (by omega), if_neg (by omega), if_pos ⟨rfl, e⟩, if_pos e]
    · rw [if_neg (show ¬ (73 = 72 ∧ j = k) by omega), if_neg (show ¬ (73 = 69 ∧ j = 16) by omega), if_neg (show ¬ (73 = 73 ∧ j = k) by omega), if_neg (show ¬ (73 = 69 ∧ j = 15) by omega), if_neg (show ¬ (73 = 70 ∧ j = k) by omega), if_neg (show ¬ (73 = 71 ∧ j = k) by omega), if_neg e]; exact hS 1 j hj
  · show _ = if j = k then S 2 k - zTt S k else S 2 j
    rw [hf]
    by_cases e : j = k
    · rw [if_neg (by omega), if_neg (by omega), if_neg (by omega), if_neg (by omega), if_pos ⟨rfl, e⟩, if_pos e]
    · rw [if_neg e]; (repeat rw [if_neg (by omega)]); exact hS 2 j hj
  · show _ = if j = k then (if S 2 k - zTt S k = 0 then 0 else if (0 : Int32) < S 3 k - S 5 0 then S 3 k - S 5 0 else 0) else S 3 j
    rw [hf]
    by_cases e : j = k
    · rw [if_neg (by omega), if_neg (by omega), if_neg (by omega), if_neg (by omega), if_neg (by omega), if_pos ⟨rfl, e⟩, if_pos e]
      by_cases c : S 2 k - zTt S k = 0
      · rw [if_pos c, if_pos (tb.2.2 hmen c)]
      · rw [if_neg c]
        exact zSr hs
    · rw [if_neg e]; (repeat rw [if_neg (by omega)]); exact hS 3 j hj
  · show _ = if j = k then (if S 2 k - zTt S k = 0 then 0 else S 4 k) else S 4 j
    rw [hf]
    by_cases e : j = k
    · rw [if_pos ⟨rfl, e⟩, if_pos e]
    · rw [if_neg e]; (repeat rw [if_neg (by omega)]); exact hS 4 j hj
  · rw [hf]; (repeat rw [if_neg (by omega)]); exact hS 5 j hj
  · rw [hf]; (repeat rw [if_neg (by omega)]); exact hS 6 j hj
  · show _ = if j = 0 then S 7 0 + zTt S k else if j = 1 then (if S 2 k - zTt S k = 0 then S 7 1 + S 4 k else S 7 1) else S 7 j
    rw [hf]
    rcases (show j = 0 ∨ j = 1 ∨ j = 2 by omega) with rfl | rfl | rfl
    · simp
    · by_cases c : S 2 k - zTt S k = 0
      · simp [c]
      · simp [c]
    · simp; exact hS 7 2 (by decide)
  · rw [hf]; (repeat rw [if_neg (by omega)])
end S
