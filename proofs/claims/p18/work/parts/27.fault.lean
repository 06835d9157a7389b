/-! the pad: faults, the tide -/
def zft (s : Nat → Int32) (c : Nat) : Nat → Nat → Int32
  | 0, _ => if c = 0 then 0 else -6
  | n + 1, i => if c ≤ i then (if c = 0 then 0 else -6) else if 24 ≤ i then nI i else if 48 ≤ (s i).toInt ∧ (s i).toInt ≤ 57 then zft s c n (i + 1) else nI i
theorem znI0 {c : Nat} (h : c ≤ 60) : (if nI c = (0 : Int32) then (0 : Int32) else -6) = if c = 0 then 0 else -6 := by
  by_cases h0 : c = 0
  · rw [if_pos h0, if_pos (by rw [h0]; rfl)]
  · rw [if_neg h0, if_neg (nI_ne0 (by omega) (by omega))]
theorem zl60 {i : Nat} (h : i < 60) : ¬ (60 : Int32) ≤ nI i := nI_ge (b := 60) h (by omega)
theorem zl24 {i : Nat} (h : i < 24) : ¬ (24 : Int32) ≤ nI i := nI_ge (b := 24) h (by omega)
theorem zg24 {i : Nat} (h : 24 ≤ i) (h2 : i < 2 ^ 31) : (24 : Int32) ≤ nI i := nI_le (a := 24) h h2
theorem zn24 {i : Nat} (h : i < 24) : ¬ nI i = (24 : Int32) := fun q => absurd ((nI_eq (a := i) (b := 24) (by omega) (by omega)).mp q) (by omega)
theorem zft_spec {s : Nat → Int32} {c : Nat} : ∀ n i, c ≤ i + n → i ≤ c → i ≤ 24 → (zft s c n i = -6 ∧ c ≠ 0 ∧ c ≤ 24 ∧ ∀ j, i ≤ j → j < c → 48 ≤ (s j).toInt ∧ (s j).toInt ≤ 57) ∨ (zft s c n i ≠ -6 ∧ 0 ≤ (zft s c n i).toInt) := by
  intro n
  induction n with
  | zero =>
    intro i h1 h2 h3
    unfold zft
    by_cases h0 : c = 0
    · right; rw [if_pos h0]; decide
    · left; rw [if_neg h0]; exact ⟨rfl, h0, by omega, fun j _ _ => by omega⟩
  | succ n ih =>
    intro i h1 h2 h3
    unfold zft
    by_cases c1 : c ≤ i
    · rw [if_pos c1]
      by_cases h0 : c = 0
      · right; rw [if_pos h0]; decide
      · left; rw [if_neg h0]; exact ⟨rfl, h0, by omega, fun j _ _ => by omega⟩
    · rw [if_neg c1]
      have hni : nI i ≠ -6 ∧ 0 ≤ (nI i).toInt := by
        have e := nI_toInt (n := i) (by omega)
        refine ⟨fun q => ?_, by omega⟩
        rw [q] at e
        have : (-6 : Int32).toInt = -6 := by decide
        omega
      by_cases c2 : 24 ≤ i
      · right; rw [if_pos c2]; exact hni
      · rw [if_neg c2]
        by_cases c3 : 48 ≤ (s i).toInt ∧ (s i).toInt ≤ 57
        · rw [if_pos c3]
          rcases ih (i + 1) (by omega) (by omega) (by omega) with ⟨q1, q2, q3, q4⟩ | q
          · left
            refine ⟨q1, q2, q3, fun j w1 w2 => ?_⟩
            rcases Nat.eq_or_lt_of_le w1 with e | e
            · rw [← e]; exact c3
            · exact q4 j e w2
          · right; exact q
        · right; rw [if_neg c3]; exact hni
section S
variable {σ : zST} {a1 a2 a3 a4 a5 : Int32} {P : Int32 → Prop} {c : Nat} {s : Nat → Int32}
theorem i_ftL8 (hc : σ.1 52 1 = nI c) (h60 : c ≤ 60) (hs : ∀ k, k < 60 → σ.1 53 k = s k) : ∀ n i, c ≤ i + n → i ≤ c → P (zft s c n i) → wp_X4_faultAsTide_L2 σ P (n + 1) (nI i) := by
  intro n
  induction n with
  | zero =>
    intro i hi hi2 hp
    unfold wp_X4_faultAsTide_L2
    rw [hc, if_pos (nI_le (by omega) (by omega))]
    rintro _ rfl
    rw [znI0 h60]
    exact hp
  | succ n ih =>
    intro i hi hi2 hp
    unfold wp_X4_faultAsTide_L2
    unfold zft at hp
    rw [hc]
    by_cases c1 : c ≤ i
    · rw [if_pos c1] at hp
      rw [if_pos (nI_le c1 (by omega))]
      rintro _ rfl
      rw [znI0 h60]
      exact hp
    · rw [if_neg c1] at hp
      rw [if_neg (nI_ge (by omega) (by omega)), if_neg (zl60 (by omega))]
      by_cases c2 : 24 ≤ i
      · rw [if_pos c2] at hp
        rw [if_pos (zg24 c2 (by omega))]
        exact hp
      · rw [if_neg c2] at hp
        rw [if_neg (zl24 (by omega)), nI_clamp (by omega), hs i (by omega)]
        refine ⟨vp_in_nI (by omega) (by omega), ?_⟩
        refine t_within (a := 48) (b := 57) rfl rfl (fun x1 x2 => ?_) (fun x => ?_)
        · rw [if_pos ⟨x1, x2⟩] at hp
          rw [nI_1]
          exact ih (i + 1) (by omega) (by omega) hp
        · rw [if_neg (by omega)] at hp
          exact hp
theorem i_ftL9 (hc : σ.1 69 27 = nI c) (h60 : c ≤ 60) (hs : ∀ k, k < 60 → σ.1 80 k = s k) : ∀ n i, c ≤ i + n → i ≤ c → i ≤ 24 → P (zft s c n i) → wp_X9_faultOfTide_L2 σ P (n + 1) (nI i) := by
  intro n
  induction n with
  | zero =>
    intro i hi hi2 hi3 hp
    unfold wp_X9_faultOfTide_L2
    rw [hc, if_pos (nI_le (by omega) (by omega))]
    rintro _ rfl
    rw [znI0 h60]
    exact hp
  | succ n ih =>
    intro i hi hi2 hi3 hp
    unfold wp_X9_faultOfTide_L2
    unfold zft at hp
    rw [hc]
    by_cases c1 : c ≤ i
    · rw [if_pos c1] at hp
      rw [if_pos (nI_le c1 (by omega))]
      rintro _ rfl
      rw [znI0 h60]
      exact hp
    · rw [if_neg c1] at hp
      rw [if_neg (nI_ge (by omega) (by omega))]
      by_cases c2 : 24 ≤ i
      · rw [if_pos c2] at hp
        rw [if_pos (by rw [show i = 24 by omega]; rfl)]
        exact hp
      · rw [if_neg c2] at hp
        rw [if_neg (zn24 (by omega)), nI_clamp (by omega), hs i (by omega)]
        refine ⟨vp_in_nI (by omega) (by omega), ?_⟩
        refine t_in (a := 48) (b := 57) rfl rfl (fun x1 x2 => ?_) (fun x => ?_)
        · rw [if_pos ⟨x1, x2⟩] at hp
          rw [nI_1]
          exact ih (i + 1) (by omega) (by omega) (by omega) hp
        · rw [if_neg (by omega)] at hp
          exact hp
/-! seasons -/
def zcan (d : Bool) (x : Int32) : Bool := match d with
  | true => decide (x = 67) || decide (x = 84) || decide (x = 87)
  | false => decide (x = 46) || (decide (65 ≤ x.toInt) && decide (x.toInt ≤ 70))
def zfs (s : Nat → Int32) (c : Nat) : Nat → Bool → Nat → Int32
  | 0, d, _ => if d then nI c else -6
  | n + 1, d, i => if c ≤ i then (if d then nI c else -6) else if zcan d (s i) then zfs s c n (!d && !decide (s i = 46)) (i + 1) else nI i
abbrev zb (d : Bool) : Int32 := if d then 1 else 0
theorem zbd (d : Bool) (x : Int32) : (if zb d = (0 : Int32) then (-6 : Int32) else x) = if d then x else -6 := by
  cases d
  · rfl
  · rfl
theorem i_holds {p : Int32} {i : Nat} (hp : p = nI i) (hc : σ.1 52 1 = nI c) (h60 : c ≤ 60) (hi : i < c) (h : P 1) : wp_X4_holds p σ P := by
  subst hp
  rintro _ rfl
  rw [hc, if_neg (nI_pos (by omega)), if_neg (nI_ge (by omega) (by omega)), if_neg (zl60 (by omega))]
  exact ⟨zB1, h⟩
theorem i_hourPasses {p : Int32} {i : Nat} (hp : p = nI i) (hc : σ.1 52 1 = nI c) (h60 : c ≤ 60) (hs : ∀ k, k < 60 → σ.1 53 k = s k) (hi : i < c) (h : P (zb (decide (s i = 46)))) : wp_X4_hourPassesAt p σ P := by
  refine i_holds hp hc h60 hi ⟨?_, ?_⟩
  · rw [if_neg (by decide), hp]
    exact ⟨vp_in_nI (by omega) (by omega), trivial⟩
  · rintro _ rfl
    rw [if_neg (by decide), hp, nI_clamp (by omega), hs i (by omega)]
    by_cases q : s i = 46
    · rw [if_pos q]
      rw [decide_eq_true q] at h
      exact ⟨zB1, h⟩
    · rw [if_neg q]
      rw [decide_eq_false q] at h
      exact ⟨zB0, h⟩
theorem i_shipAt {p : Int32} {i : Nat} (hp : p = nI i) (hc : σ.1 52 1 = nI c) (h60 : c ≤ 60) (hs : ∀ k, k < 60 → σ.1 53 k = s k) (hi : i < c) (h : P (if 65 ≤ (s i).toInt ∧ (s i).toInt ≤ 70 then s i - 65 else -6)) : wp_X4_shipAt p σ P := by
  refine i_holds hp hc h60 hi ?_
  rw [if_neg (by decide), hp, nI_clamp (by omega), hs i (by omega)]
  have hv : vp_in (nI i) 60 := vp_in_nI (by omega) (by omega)
  refine ⟨hv, ?_⟩
  refine i_within (a := 65) (b := 70) rfl rfl (fun x1 x2 => ⟨?_, ?_⟩) (fun x => ⟨?_, ?_⟩)
  · rw [if_neg (by decide)]; exact ⟨hv, trivial⟩
  · rintro _ rfl
    rw [if_neg (by decide)]
    rw [if_pos ⟨x1, x2⟩] at h
    exact h
  · rw [if_pos rfl]; trivial
  · rintro _ rfl
    rw [if_pos rfl]
    rw [if_neg (by omega)] at h
    exact h
theorem i_sideAt {p : Int32} {i : Nat} (hp : p = nI i) (hc : σ.1 52 1 = nI c) (h60 : c ≤ 60) (hs : ∀ k, k < 60 → σ.1 53 k = s k) (hi : i < c) (h : P (if s i = 67 then 2 else if s i = 84 then 0 else if s i = 87 then 1 else -6)) : wp_X4_sideAt p σ P := by
  refine i_holds hp hc h60 hi ?_
  rw [if_neg (by decide), hp, nI_clamp (by omega), hs i (by omega)]
  refine ⟨vp_in_nI (by omega) (by omega), ?_⟩
  by_cases q1 : s i = 67
  · rw [if_pos q1] at h ⊢; exact h
  · rw [if_neg q1] at h ⊢
    by_cases q2 : s i = 84
    · rw [if_pos q2] at h ⊢; exact h
    · rw [if_neg q2] at h ⊢
      by_cases q3 : s i = 87
      · rw [if_pos q3] at h ⊢; exact h
      · rw [if_neg q3] at h ⊢; exact h
theorem i_fsL8 (hc : σ.1 52 1 = nI c) (h60 : c ≤ 60) (hs : ∀ k, k < 60 → σ.1 53 k = s k) : ∀ n d i, c ≤ i + n → i ≤ c → P (zfs s c n d i) → wp_X4_faultAsSeason_L4 σ P (n + 1) (zb d) (nI i) := by
  intro n
  induction n with
  | zero =>
    intro d i hi hi2 hp
    unfold wp_X4_faultAsSeason_L4
    rw [hc, if_pos (nI_le (by omega) (by omega))]
    rintro _ rfl
    rw [zbd]
    exact hp
  | succ n ih =>
    intro d i hi hi2 hp
    unfold wp_X4_faultAsSeason_L4
    unfold zfs at hp
    rw [hc]
    by_cases c1 : c ≤ i
    · rw [if_pos c1] at hp
      rw [if_pos (nI_le c1 (by omega))]
      rintro _ rfl
      rw [zbd]
      exact hp
    · rw [if_neg c1] at hp
      rw [if_neg (nI_ge (by omega) (by omega)), if_neg (zl60 (by omega))]
      have hJ1 : zcan d (s i) = true → wp_X4_faultAsSeason_J63 (zb d) (nI i) 1 σ (fun v1 v2 => wp_X4_faultAsSeason_L4 σ P (n + 1) v1 v2) P := by
        intro hz
        rw [if_pos hz] at hp
        unfold wp_X4_faultAsSeason_J63
        rw [if_neg (by decide)]
        cases d
        · rw [if_pos (show zb false = (0 : Int32) from rfl)]
          refine i_hourPasses rfl hc h60 hs (by omega) ?_
          rintro _ rfl
          rw [nI_1]
          have := ih (!decide (s i = 46)) (i + 1) (by omega) (by omega) hp
          by_cases q : s i = 46
          · simpa [zb, q] using this
          · simpa [zb, q] using this
        · rw [if_neg (by decide), nI_1]
          exact ih false (i + 1) (by omega) (by omega) hp
      have hJ0 : zcan d (s i) = false → wp_X4_faultAsSeason_J63 (zb d) (nI i) 0 σ (fun v1 v2 => wp_X4_faultAsSeason_L4 σ P (n + 1) v1 v2) P := by
        intro hz
        rw [if_neg (by rw [hz]; decide)] at hp
        unfold wp_X4_faultAsSeason_J63
        rw [if_pos rfl]
        exact hp
      cases d
      · rw [if_pos (show zb false = (0 : Int32) from rfl)]
        refine i_hourPasses rfl hc h60 hs (by omega) ?_
        by_cases q : s i = 46
        · rw [decide_eq_true q, if_neg (by decide)]
          exact hJ1 (by simp [zcan, q])
        · rw [decide_eq_false q, if_pos (show zb false = (0 : Int32) from rfl)]
          refine i_shipAt rfl hc h60 hs (by omega) ?_
          by_cases w : 65 ≤ (s i).toInt ∧ (s i).toInt ≤ 70
          · rw [if_pos w]
            rintro _ rfl
            have hne : ¬ s i - 65 = -6 := by
              intro e
              have e2 := congrArg Int32.toInt e
              rw [zsubc (s i) 65 (n := 65) rfl (by omega) (by omega) (by omega)] at e2
              have e3 : (-6 : Int32).toInt = -6 := by decide
              omega
            rw [if_neg hne]
            exact hJ1 (by simp [zcan, w])
          · rw [if_neg w]
            rintro _ rfl
            rw [if_pos rfl]
            refine hJ0 ?_
            by_cases w1 : 65 ≤ (s i).toInt
            · have w2 : ¬ (s i).toInt ≤ 70 := fun z => w ⟨w1, z⟩
              simp [zcan, q, w1, w2]
            · simp [zcan, q, w1]
      · rw [if_neg (by decide)]
        refine i_sideAt rfl hc h60 hs (by omega) ?_
        rintro _ rfl
        by_cases q1 : s i = 67
        · rw [if_pos q1, if_neg (by decide)]; exact hJ1 (by simp [zcan, q1])
        · rw [if_neg q1]
          by_cases q2 : s i = 84
          · rw [if_pos q2, if_neg (by decide)]; exact hJ1 (by simp [zcan, q2])
          · rw [if_neg q2]
            by_cases q3 : s i = 87
            · rw [if_pos q3, if_neg (by decide)]; exact hJ1 (by simp [zcan, q3])
            · rw [if_neg q3, if_pos rfl]; exact hJ0 (by simp [zcan, q1, q2, q3])
theorem i_fsL9 (hc : σ.1 69 27 = nI c) (h60 : c ≤ 60) (hs : ∀ k, k < 60 → σ.1 80 k = s k) : ∀ n d i, c ≤ i + n → i ≤ c → P (zfs s c n d i) → wp_X9_faultOfSeason_L4 σ P (n + 1) (zb d) (nI i) := by
  intro n
  induction n with
  | zero =>
    intro d i hi hi2 hp
    unfold wp_X9_faultOfSeason_L4
    rw [hc, if_pos (nI_le (by omega) (by omega))]
    rintro _ rfl
    rw [zbd]
    exact hp
  | succ n ih =>
    intro d i hi hi2 hp
    unfold wp_X9_faultOfSeason_L4
    unfold zfs at hp
    rw [hc]
    by_cases c1 : c ≤ i
    · rw [if_pos c1] at hp
      rw [if_pos (nI_le c1 (by omega))]
      rintro _ rfl
      rw [zbd]
      exact hp
    · rw [if_neg c1] at hp
      rw [if_neg (nI_ge (by omega) (by omega))]
      refine ⟨vp_in_nI (by omega) (by omega), ?_⟩
      rw [nI_clamp (by omega), hs i (by omega)]
      rintro _ rfl
      have hJ1 : zcan d (s i) = true → wp_X9_faultOfSeason_J74 (zb d) (nI i) (s i) 1 σ (fun v1 v2 => wp_X9_faultOfSeason_L4 σ P (n + 1) v1 v2) P := by
        intro hz
        rw [if_pos hz] at hp
        unfold wp_X9_faultOfSeason_J74
        rw [if_neg (by decide)]
        rintro _ rfl
        rw [nI_1]
        cases d
        · rw [if_pos (show zb false = (0 : Int32) from rfl)]
          have := ih (!decide (s i = 46)) (i + 1) (by omega) (by omega) hp
          by_cases q : s i = 46
          · simpa [zb, q] using this
          · simpa [zb, q] using this
        · rw [if_neg (by decide)]
          exact ih false (i + 1) (by omega) (by omega) hp
      have hJ0 : zcan d (s i) = false → wp_X9_faultOfSeason_J74 (zb d) (nI i) (s i) 0 σ (fun v1 v2 => wp_X9_faultOfSeason_L4 σ P (n + 1) v1 v2) P := by
        intro hz
        rw [if_neg (by rw [hz]; decide)] at hp
        unfold wp_X9_faultOfSeason_J74
        rw [if_pos rfl]
        exact hp
      cases d
      · rw [if_pos (show zb false = (0 : Int32) from rfl)]
        by_cases q : s i = 46
        · rw [if_pos q]
          exact hJ1 (by simp [zcan, q])
        · rw [if_neg q]
          refine i_in (a := 65) (b := 70) rfl rfl (fun x1 x2 => ?_) (fun x => ?_)
          · rintro _ rfl
            rw [if_neg (by decide)]
            exact hJ1 (by simp [zcan, x1, x2])
          · rintro _ rfl
            rw [if_pos rfl]
            refine hJ0 ?_
            by_cases w1 : 65 ≤ (s i).toInt
            · have w2 : ¬ (s i).toInt ≤ 70 := by omega
              simp [zcan, q, w1, w2]
            · simp [zcan, q, w1]
      · rw [if_neg (by decide)]
        rintro _ rfl
        by_cases q2 : s i = 84
        · rw [if_pos q2]; exact hJ1 (by simp [zcan, q2])
        · rw [if_neg q2]
          by_cases q3 : s i = 87
          · rw [if_pos q3]; exact hJ1 (by simp [zcan, q3])
          · rw [if_neg q3]
            by_cases q1 : s i = 67
            · rw [if_pos q1]; exact hJ1 (by simp [zcan, q1])
            · rw [if_neg q1]; exact hJ0 (by simp [zcan, q1, q2, q3])
theorem i_faultAsTide (hc : σ.1 52 1 = nI c) (h60 : c ≤ 60) (hs : ∀ k, k < 60 → σ.1 53 k = s k) (h : P (zft s c 60 0)) : wp_X4_faultAsTide σ P := ⟨61, i_ftL8 hc h60 hs 60 0 (by omega) (by omega) h⟩
theorem i_faultOfTide (hc : σ.1 69 27 = nI c) (h60 : c ≤ 60) (hs : ∀ k, k < 60 → σ.1 80 k = s k) (h : P (zft s c 60 0)) : wp_X9_faultOfTide σ P := ⟨61, i_ftL9 hc h60 hs 60 0 (by omega) (by omega) (by omega) h⟩
theorem i_faultAsSeason (hc : σ.1 52 1 = nI c) (h60 : c ≤ 60) (hs : ∀ k, k < 60 → σ.1 53 k = s k) (h : P (zfs s c 60 false 0)) : wp_X4_faultAsSeason σ P := ⟨61, i_fsL8 hc h60 hs 60 false 0 (by omega) (by omega) h⟩
theorem i_faultOfSeason (hc : σ.1 69 27 = nI c) (h60 : c ≤ 60) (hs : ∀ k, k < 60 → σ.1 80 k = s k) (h : P (zfs s c 60 false 0)) : wp_X9_faultOfSeason σ P := ⟨61, i_fsL9 hc h60 hs 60 false 0 (by omega) (by omega) h⟩
theorem IP_c (h : IP σ) : ∃ c : Nat, c ≤ 60 ∧ σ.1 52 1 = nI c ∧ σ.1 69 27 = nI c ∧ ∀ k, k < 60 → σ.1 80 k = σ.1 53 k := by
  obtain ⟨h1, h2, h3, h4⟩ := h
  obtain ⟨c, hc, ec, -⟩ := zN (h := 60) h2 h3
  exact ⟨c, hc, ec, by rw [← h1]; exact ec, fun k hk => (h4 k hk).symm⟩
theorem s_fault (h : Inv σ) {K : Int32 → Int32 → Prop} (hk : ∀ r, K r r) : wp_X8_fault a1 σ (fun r => wp_X9_fault a1 σ (fun r' => K r r')) := by
  unfold wp_X8_fault wp_X9_fault
  obtain ⟨c, h60, c1, c2, c3⟩ := IP_c h.2.1
  refine t_within (a := 0) (b := 1) rfl rfl (fun x1 x2 => ?_) (fun x => ?_)
  · by_cases q : a1 = 0
    · rw [if_pos q]
      refine i_faultAsTide c1 h60 (fun k _ => rfl) ?_
      dsimp only
      rw [if_pos q]
      exact i_faultOfTide c2 h60 c3 (hk _)
    · rw [if_neg q]
      refine i_faultAsSeason c1 h60 (fun k _ => rfl) ?_
      dsimp only
      rw [if_neg q, if_pos ((zS2 x1 x2).resolve_left q)]
      exact i_faultOfSeason c2 h60 c3 (hk _)
  · dsimp only
    rw [if_neg, if_neg]
    · exact hk _
    all_goals (rintro rfl; revert x; decide)
end S
