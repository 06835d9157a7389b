theorem IB_upd {σ σ' : zST} (hI : IB σ) (h : ∀ r k, k < zLen r → (cV σ' 1 r k = cV σ 1 r k ∧ mV σ' r k = mV σ r k) ∨ (cV σ' 1 r k = mV σ' r k ∧ zLo r k ≤ (cV σ' 1 r k).toInt ∧ (cV σ' 1 r k).toInt ≤ zHi r k)) (h2 : ∀ k, k < 6 → (cV σ' 1 12 k).toInt + (zpc (cV σ' 1 11 k)).toInt ≤ 8) (h3 : ∀ k, k < 6 → zH (cV σ' 1 0 0) (nI k) → cV σ' 1 1 k = 0 → 1 ≤ (cV σ' 1 2 k).toInt) : IB σ' := by
  refine ⟨fun r k hk => ?_, fun r k hk => ?_, h2, h3⟩
  · rcases h r k hk with ⟨e1, e2⟩ | ⟨e1, -, -⟩
    · rw [e1, e2]; exact hI.1 r k hk
    · exact e1
  · rcases h r k hk with ⟨e1, e2⟩ | ⟨-, e1, e2⟩
    · rw [e1]; exact hI.2.1 r k hk
    · exact ⟨e1, e2⟩
theorem wI_at (σ : zST) (a k : Nat) (v : Int32) (b j : Nat) : (wI σ a k v).1 b j = if b = a ∧ j = k then v else σ.1 b j := rfl
theorem zor : ∀ n, n < 256 → ∀ i, i < 8 → 0 ≤ (nI n ||| ((1 : Int32) <<< (nI i &&& 31))).toInt ∧ (nI n ||| ((1 : Int32) <<< (nI i &&& 31))).toInt ≤ 255 ∧ (n < 64 → i < 6 → (nI n ||| ((1 : Int32) <<< (nI i &&& 31))).toInt ≤ 63) ∧ (n < 16 → i < 4 → (nI n ||| ((1 : Int32) <<< (nI i &&& 31))).toInt ≤ 15) := by decide +kernel
theorem zan : ∀ n, n < 256 → ∀ i, i < 8 → 0 ≤ (nI n &&& (((1 : Int32) <<< (nI i &&& 31)) ^^^ (-1))).toInt ∧ (nI n &&& (((1 : Int32) <<< (nI i &&& 31)) ^^^ (-1))).toInt ≤ n := by decide +kernel
theorem zor6 {x i : Int32} (h1 : 0 ≤ x.toInt) (h2 : x.toInt ≤ 63) (h3 : 0 ≤ i.toInt) (h4 : i.toInt ≤ 5) : 0 ≤ (x ||| ((1 : Int32) <<< (i &&& 31))).toInt ∧ (x ||| ((1 : Int32) <<< (i &&& 31))).toInt ≤ 63 := by
  obtain ⟨n, hn, rfl, -⟩ := zN (h := 63) h1 (by omega)
  obtain ⟨j, hj, rfl, -⟩ := zN (h := 5) h3 (by omega)
  have := zor n (by omega) j (by omega)
  exact ⟨this.1, this.2.2.1 (by omega) (by omega)⟩
theorem zor4 {x i : Int32} (h1 : 0 ≤ x.toInt) (h2 : x.toInt ≤ 15) (h3 : 0 ≤ i.toInt) (h4 : i.toInt ≤ 3) : 0 ≤ (x ||| ((1 : Int32) <<< (i &&& 31))).toInt ∧ (x ||| ((1 : Int32) <<< (i &&& 31))).toInt ≤ 15 := by
  obtain ⟨n, hn, rfl, -⟩ := zN (h := 15) h1 (by omega)
  obtain ⟨j, hj, rfl, -⟩ := zN (h := 3) h3 (by omega)
  have := zor n (by omega) j (by omega)
  exact ⟨this.1, this.2.2.2 (by omega) (by omega)⟩
theorem zor8 {x i : Int32} (h1 : 0 ≤ x.toInt) (h2 : x.toInt ≤ 255) (h3 : 0 ≤ i.toInt) (h4 : i.toInt ≤ 7) : 0 ≤ (x ||| ((1 : Int32) <<< (i &&& 31))).toInt ∧ (x ||| ((1 : Int32) <<< (i &&& 31))).toInt ≤ 255 := by
  obtain ⟨n, hn, rfl, -⟩ := zN (h := 255) h1 (by omega)
  obtain ⟨j, hj, rfl, -⟩ := zN (h := 7) h3 (by omega)
  have := zor n (by omega) j (by omega)
  exact ⟨this.1, this.2.1⟩
theorem zan8 {x i : Int32} {m : Nat} (h1 : 0 ≤ x.toInt) (h2 : x.toInt ≤ m) (hm : m ≤ 255) (h3 : 0 ≤ i.toInt) (h4 : i.toInt ≤ 7) : 0 ≤ (x &&& (((1 : Int32) <<< (i &&& 31)) ^^^ (-1))).toInt ∧ (x &&& (((1 : Int32) <<< (i &&& 31)) ^^^ (-1))).toInt ≤ m := by
  obtain ⟨n, hn, rfl, e⟩ := zN (h := m) h1 h2
  obtain ⟨j, hj, rfl, -⟩ := zN (h := 7) h3 (by omega)
  have := zan n (by omega) j (by omega)
  exact ⟨this.1, by omega⟩
section S
variable {σ : zST} {a1 a2 a3 a4 a5 : Int32}
theorem b_ships (h : IB σ) : σ.1 2 0 = σ.1 69 0 ∧ 0 ≤ (σ.1 2 0).toInt ∧ (σ.1 2 0).toInt ≤ 63 := ⟨h.1 0 0 (by decide), h.2.1 0 0 (by decide)⟩
theorem b_digits (h : IB σ) : σ.1 2 7 = σ.1 69 14 ∧ 1 ≤ (σ.1 2 7).toInt ∧ (σ.1 2 7).toInt ≤ 24 := ⟨h.1 0 1 (by decide), h.2.1 0 1 (by decide)⟩
theorem b_offers (h : IB σ) : σ.1 10 0 = σ.1 69 18 ∧ 0 ≤ (σ.1 10 0).toInt ∧ (σ.1 10 0).toInt ≤ 15 := ⟨h.1 0 2 (by decide), h.2.1 0 2 (by decide)⟩
theorem b_names (h : IB σ) : σ.1 13 0 = σ.1 69 21 ∧ 0 ≤ (σ.1 13 0).toInt ∧ (σ.1 13 0).toInt ≤ 255 := ⟨h.1 0 3 (by decide), h.2.1 0 3 (by decide)⟩
theorem b_rolls (h : IB σ) : σ.1 15 0 = σ.1 69 25 ∧ 0 ≤ (σ.1 15 0).toInt ∧ (σ.1 15 0).toInt ≤ 6 := ⟨h.1 0 4 (by decide), h.2.1 0 4 (by decide)⟩
theorem b_where (h : IB σ) {k : Nat} (hk : k < 6) : σ.1 3 k = σ.1 73 k ∧ 0 ≤ (σ.1 3 k).toInt ∧ (σ.1 3 k).toInt ≤ 2 := ⟨h.1 1 k hk, h.2.1 1 k hk⟩
theorem b_men (h : IB σ) {k : Nat} (hk : k < 6) : σ.1 4 k = σ.1 70 k ∧ 0 ≤ (σ.1 4 k).toInt ∧ (σ.1 4 k).toInt ≤ 30 := ⟨h.1 2 k hk, h.2.1 2 k hk⟩
theorem b_straw (h : IB σ) {k : Nat} (hk : k < 6) : σ.1 5 k = σ.1 71 k ∧ 0 ≤ (σ.1 5 k).toInt ∧ (σ.1 5 k).toInt ≤ 9 := ⟨h.1 3 k hk, h.2.1 3 k hk⟩
theorem b_cargo (h : IB σ) {k : Nat} (hk : k < 6) : σ.1 6 k = σ.1 72 k ∧ 0 ≤ (σ.1 6 k).toInt ∧ (σ.1 6 k).toInt ≤ 999 := ⟨h.1 4 k hk, h.2.1 4 k hk⟩
theorem b_terms (h : IB σ) {k : Nat} (hk : k < 8) : σ.1 7 k = σ.1 69 (5 + k) ∧ zLo 5 k ≤ (σ.1 7 k).toInt ∧ (σ.1 7 k).toInt ≤ zHi 5 k := ⟨h.1 5 k hk, h.2.1 5 k hk⟩
theorem b_tenths (h : IB σ) {k : Nat} (hk : k < 24) : σ.1 8 k = σ.1 74 k ∧ 0 ≤ (σ.1 8 k).toInt ∧ (σ.1 8 k).toInt ≤ 9 := ⟨h.1 6 k hk, h.2.1 6 k hk⟩
theorem b_sums (h : IB σ) {k : Nat} (hk : k < 3) : σ.1 9 k = σ.1 69 (15 + k) := h.1 7 k hk
theorem b_premium (h : IB σ) {k : Nat} (hk : k < 4) : σ.1 11 k = σ.1 75 k ∧ 0 ≤ (σ.1 11 k).toInt ∧ (σ.1 11 k).toInt ≤ 999 := ⟨h.1 8 k hk, h.2.1 8 k hk⟩
theorem b_pays (h : IB σ) {k : Nat} (hk : k < 4) : σ.1 12 k = σ.1 76 k ∧ 0 ≤ (σ.1 12 k).toInt ∧ (σ.1 12 k).toInt ≤ 9999 := ⟨h.1 9 k hk, h.2.1 9 k hk⟩
theorem b_drawn (h : IB σ) {k : Nat} (hk : k < 8) : σ.1 14 k = σ.1 77 k ∧ 0 ≤ (σ.1 14 k).toInt ∧ (σ.1 14 k).toInt ≤ 9 := ⟨h.1 10 k hk, h.2.1 10 k hk⟩
theorem b_read (h : IB σ) {k : Nat} (hk : k < 6) : σ.1 16 k = σ.1 78 k ∧ 0 ≤ (σ.1 16 k).toInt ∧ (σ.1 16 k).toInt ≤ 255 := ⟨h.1 11 k hk, h.2.1 11 k hk⟩
theorem b_room (h : IB σ) {k : Nat} (hk : k < 6) : σ.1 17 k = σ.1 79 k - zpc (σ.1 78 k) ∧ 0 ≤ (σ.1 17 k).toInt ∧ (σ.1 17 k).toInt ≤ 8 ∧ (σ.1 17 k).toInt + (zpc (σ.1 16 k)).toInt ≤ 8 := ⟨h.1 12 k hk, (h.2.1 12 k hk).1, (h.2.1 12 k hk).2, h.2.2.1 k hk⟩
theorem zsh_many (h : IB σ) {k : Nat} (hk : k < 6) : (cV σ 1 12 k).toInt + (zpc (cV σ 1 11 k)).toInt ≤ 8 := h.2.2.1 k hk
theorem b_moor (h : IB σ) {k : Nat} (hk : k < 6) : zH (σ.1 2 0) (nI k) → σ.1 3 k = 0 → 1 ≤ (σ.1 4 k).toInt := h.2.2.2 k hk
theorem zHor : ∀ n, n < 64 → ∀ i, i < 6 → ∀ j, j < 6 → zH (nI n ||| ((1 : Int32) <<< (nI i &&& 31))) (nI j) → j = i ∨ zH (nI n) (nI j) := by decide +kernel
theorem zHan : ∀ n, n < 64 → ∀ i, i < 6 → ∀ j, j < 6 → zH (nI n &&& (((1 : Int32) <<< (nI i &&& 31)) ^^^ (-1))) (nI j) → zH (nI n) (nI j) := by decide +kernel
theorem s_ship (h : Inv σ) {K : Int32 → Int32 → zST → Prop} (hk : ∀ r σ', Inv σ' → K r r σ') : wp_X8_ship a1 a2 a3 a4 σ (fun r σ1 => wp_X9_ship a1 a2 a3 a4 σ1 (fun r' σ2 => K r r' σ2)) := by
  unfold wp_X8_ship wp_X9_ship
  refine t_within (a := 0) (b := 5) rfl rfl (fun x1 x2 => ?_) (fun x => t_isNumber (fun y1 y2 => by omega) (fun _ => hk _ _ h))
  refine t_within (a := 1) (b := 30) rfl rfl (fun x3 x4 => ?_) (fun x => t_isNumber (fun _ _ => t_in (a := 1) (b := 30) rfl rfl (fun y1 y2 => by omega) (fun _ => hk _ _ h)) (fun y => by omega))
  refine t_within (a := 0) (b := 9) rfl rfl (fun x5 x6 => ?_) (fun x => t_isNumber (fun _ _ => t_in (a := 1) (b := 30) rfl rfl (fun _ _ => t_in (a := 0) (b := 9) rfl rfl (fun y1 y2 => by omega) (fun _ => hk _ _ h)) (fun y => by omega)) (fun y => by omega))
  refine t_within (a := 0) (b := 999) rfl rfl (fun x7 x8 => ?_) (fun x => t_isNumber (fun _ _ => t_in (a := 1) (b := 30) rfl rfl (fun _ _ => t_in (a := 0) (b := 9) rfl rfl (fun _ _ => t_in (a := 0) (b := 999) rfl rfl (fun y1 y2 => by omega) (fun _ => hk _ _ h)) (fun y => by omega)) (fun y => by omega)) (fun y => by omega))
  have hv : vp_in a1 6 := zv x1 (by omega)
  refine ⟨hv, hv, hv, hv, ?_⟩
  rintro _ rfl
  refine i_bitCount ?_
  refine t_isNumber (fun _ _ => ?_) (fun y => by omega)
  refine t_in (a := 1) (b := 30) rfl rfl (fun _ _ => ?_) (fun y => by omega)
  refine t_in (a := 0) (b := 9) rfl rfl (fun _ _ => ?_) (fun y => by omega)
  refine t_in (a := 0) (b := 999) rfl rfl (fun _ _ => ?_) (fun y => by omega)
  refine ⟨hv, hv, hv, hv, ?_⟩
  rintro _ rfl _ rfl
  have e1 := b_ships h.1
  have e2 := zor6 e1.2.1 e1.2.2 x1 x2
  have e3 : a1.toNatClampNeg < 6 := zcl x1 (by omega)
  refine i_ones (by simp [wI_at]; rw [← e1.1]; omega) (by simp [wI_at]; rw [← e1.1]; omega) ?_
  simp only [wI_at]
  simp (decide := true) only [false_and, if_false, true_and, and_true, if_true]
  rw [← e1.1]
  refine hk _ _ ⟨?_, IP_fr (fun a k x => ?_) h.2.1, II_fr (fun a k x => ?_) h.2.2⟩
  · refine IB_upd h.1 (fun r k hk => ?_) (fun k hk => ?_) (fun k hk => ?_)
    · have hr := zLen13 hk
      match r, hr with
      | 0, _ =>
        match k, hk with
        | 0, _ => right; simp [cV, mV, wI_at, zLo, zHi, ← e1.1]; exact e2
        | 1, _ => left; simp [cV, mV, wI_at]
        | 2, _ => left; simp [cV, mV, wI_at]
        | 3, _ => left; simp [cV, mV, wI_at]
        | 4, _ => left; simp [cV, mV, wI_at]
        | k + 5, h5 => exact absurd h5 (by simp [zLen])
      | 1, _ => by_cases e : k = a1.toNatClampNeg
                · right; simp [cV, mV, wI_at, zLo, zHi, e]
                · left; simp [cV, mV, wI_at, e]
      | 2, _ => by_cases e : k = a1.toNatClampNeg
                · right; simp [cV, mV, wI_at, zLo, zHi, e]; omega
                · left; simp [cV, mV, wI_at, e]
      | 3, _ => by_cases e : k = a1.toNatClampNeg
                · right; simp [cV, mV, wI_at, zLo, zHi, e]; omega
                · left; simp [cV, mV, wI_at, e]
      | 4, _ => by_cases e : k = a1.toNatClampNeg
                · right; simp [cV, mV, wI_at, zLo, zHi, e]; omega
                · left; simp [cV, mV, wI_at, e]
      | 5, _ => left; simp [cV, mV, wI_at]
      | 6, _ => left; simp [cV, mV, wI_at]
      | 7, _ => left; simp [cV, mV, wI_at]
      | 8, _ => left; simp [cV, mV, wI_at]
      | 9, _ => left; simp [cV, mV, wI_at]
      | 10, _ => left; simp [cV, mV, wI_at]
      | 11, _ => left; simp [cV, mV, wI_at]
      | 12, _ => left; simp [cV, mV, wI_at]
    · have := zsh_many h.1 hk
      simpa [cV, wI_at] using this
    · obtain ⟨n, hn, en, -⟩ := zN (h := 63) e1.2.1 e1.2.2
      obtain ⟨i, hi, ei, -⟩ := zN (h := 5) x1 x2
      intro q1 q2
      have q1 : zH (σ.1 2 0 ||| 1 <<< (a1 &&& 31)) (nI k) := by simpa [cV, wI_at] using q1
      rw [en, ei] at q1
      by_cases e : k = a1.toNatClampNeg
      · simp [cV, wI_at, e]; omega
      · rcases zHor n (by omega) i (by omega) k hk q1 with w | w
        · refine absurd ?_ e
          rw [ei, w, nI_clamp (by omega)]
        · rw [← en] at w
          have := b_moor h.1 hk w (by simpa [cV, wI_at, e] using q2)
          simpa [cV, wI_at, e] using this
  · simp only [wI_at]
    repeat rw [if_neg (by omega)]
  · simp only [wI_at]
    repeat rw [if_neg (by omega)]
end S
