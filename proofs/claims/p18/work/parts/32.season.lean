/-! the season's course, both sides -/
section S
variable {σ σ0 : zST} {S : zSea} {p sd hr sg : Int32} {k : Nat} {P : zST → Prop} {s : Nat → Int32} {c : Nat}
theorem sV_fr {σ σ' : zST} (h : ∀ a j, 55 ≤ a → a ≤ 62 → σ'.1 a j = σ.1 a j) (r k : Nat) : sV σ' r k = sV σ r k := by
  unfold sV
  split
  · split <;> exact h _ _ (by omega) (by omega)
  all_goals exact h _ _ (by omega) (by omega)
theorem OKS_upd {S' : zSea} (hok : OKS S) (h0 : S' 0 0 = S 0 0) (h1 : ∀ r j, j < zl r → S' r j = S r j ∨ (zLo r j ≤ (S' r j).toInt ∧ (S' r j).toInt ≤ zHi r j)) (h2 : ∀ j, j < 6 → S' 1 j = 0 → S 1 j = 0 ∧ S' 2 j = S 2 j) : OKS S' := by
  refine ⟨fun r j hj => ?_, fun j hj q1 q2 => ?_⟩
  · rcases h1 r j hj with e | e
    · rw [e]; exact hok.1 r j hj
    · exact e
  · obtain ⟨w1, w2⟩ := h2 j hj q2
    rw [w2]
    exact hok.2 j hj (by rw [← h0]; exact q1) w1
theorem OKS_go (hok : OKS S) (hk : k < 6) : OKS (zGo S k sd hr) := by
  obtain ⟨t1, t2, t3, t4, t5, t6⟩ := OKS_t hok hk
  have tb := zTt_b hok hk
  have hm : (S 2 k - zTt S k).toInt = (S 2 k).toInt - (zTt S k).toInt := fb_subI (by omega) (by omega)
  have hs : (S 3 k - S 5 0).toInt = (S 3 k).toInt - (S 5 0).toInt := fb_subI (by omega) (by omega)
  obtain ⟨n, hn, en, ew⟩ := zdw_b hok
  have hw : 0 ≤ (zdw (S 5 7)).toInt ∧ (zdw (S 5 7)).toInt ≤ 65536 := by
    have := zdr_lt n
    rw [ew, nI_toInt (by omega)]
    omega
  unfold zGo
  by_cases c0 : sd = 0
  · rw [if_pos c0]
    refine OKS_upd hok rfl (fun r j hj => ?_) (fun j hj q => ?_)
    · have hr := zl8 hj
      match r, hr with
      | 0, _ => exact Or.inl rfl
      | 1, _ =>
        by_cases e : j = k
        · right
          show 0 ≤ Int32.toInt (if j = k then (if S 2 k - zTt S k = 0 then 2 else 1) else S 1 j) ∧ Int32.toInt (if j = k then (if S 2 k - zTt S k = 0 then 2 else 1) else S 1 j) ≤ 2
          rw [if_pos e]
          split <;> decide
        · left; exact if_neg e
      | 2, _ =>
        by_cases e : j = k
        · right
          show 0 ≤ Int32.toInt (if j = k then S 2 k - zTt S k else S 2 j) ∧ Int32.toInt (if j = k then S 2 k - zTt S k else S 2 j) ≤ 30
          rw [if_pos e, hm]
          omega
        · left; exact if_neg e
      | 3, _ =>
        by_cases e : j = k
        · right
          show 0 ≤ Int32.toInt (if j = k then (if S 2 k - zTt S k = 0 then 0 else if (0 : Int32) < S 3 k - S 5 0 then S 3 k - S 5 0 else 0) else S 3 j) ∧ Int32.toInt (if j = k then (if S 2 k - zTt S k = 0 then 0 else if (0 : Int32) < S 3 k - S 5 0 then S 3 k - S 5 0 else 0) else S 3 j) ≤ 9
          rw [if_pos e]
          by_cases c1 : S 2 k - zTt S k = 0
          · rw [if_pos c1]; decide
          · rw [if_neg c1]
            by_cases c2 : (0 : Int32) < S 3 k - S 5 0
            · rw [if_pos c2]
              have c3 : 0 < (S 3 k - S 5 0).toInt := Int32.lt_iff_toInt_lt.mp c2
              omega
            · rw [if_neg c2]; decide
        · left; exact if_neg e
      | 4, _ =>
        by_cases e : j = k
        · right
          show 0 ≤ Int32.toInt (if j = k then (if S 2 k - zTt S k = 0 then 0 else S 4 k) else S 4 j) ∧ Int32.toInt (if j = k then (if S 2 k - zTt S k = 0 then 0 else S 4 k) else S 4 j) ≤ 999
          rw [if_pos e]
          by_cases c1 : S 2 k - zTt S k = 0
          · rw [if_pos c1]; decide
          · rw [if_neg c1]; omega
        · left; exact if_neg e
      | 5, _ => exact Or.inl rfl
      | 6, _ => exact Or.inl rfl
      | 7, _ => right; have := fb_rng (zGt S k 7 j); exact ⟨this.1, by show _ ≤ (2147483647 : Int); omega⟩
    · by_cases e : j = k
      · exfalso
        have q : (if j = k then (if S 2 k - zTt S k = 0 then (2 : Int32) else 1) else S 1 j) = 0 := q
        rw [if_pos e] at q
        by_cases c1 : S 2 k - zTt S k = 0
        · rw [if_pos c1] at q; exact absurd q (by decide)
        · rw [if_neg c1] at q; exact absurd q (by decide)
      · have q : (if j = k then (if S 2 k - zTt S k = 0 then (2 : Int32) else 1) else S 1 j) = 0 := q
        rw [if_neg e] at q
        exact ⟨q, if_neg e⟩
  · rw [if_neg c0]
    by_cases c1 : sd = 1
    · rw [if_pos c1]
      by_cases c2 : S 6 (zmo hr (S 0 1)).toNatClampNeg ≤ zdw (S 5 7) - zdw (S 5 7) / 10 * 10
      · rw [if_pos c2]
        refine OKS_upd hok rfl (fun r j hj => ?_) (fun j hj q => ?_)
        · have hr := zl8 hj
          match r, hr with
          | 0, _ => exact Or.inl rfl
          | 1, _ =>
            by_cases e : j = k
            · right
              show 0 ≤ Int32.toInt (if j = k then 1 else S 1 j) ∧ Int32.toInt (if j = k then 1 else S 1 j) ≤ 2
              rw [if_pos e]; decide
            · left; exact if_neg e
          | 2, _ => exact Or.inl rfl
          | 3, _ => exact Or.inl rfl
          | 4, _ => exact Or.inl rfl
          | 5, _ =>
            by_cases e : j = 7
            · right
              subst e
              exact hw
            · left; exact if_neg e
          | 6, _ => exact Or.inl rfl
          | 7, _ => exact Or.inl rfl
        · have q : (if j = k then (1 : Int32) else S 1 j) = 0 := q
          by_cases e : j = k
          · rw [if_pos e] at q; exact absurd q (by decide)
          · rw [if_neg e] at q; exact ⟨q, rfl⟩
      · rw [if_neg c2]
        refine OKS_upd hok rfl (fun r j hj => ?_) (fun j hj q => ?_)
        · have hr := zl8 hj
          match r, hr with
          | 0, _ => exact Or.inl rfl
          | 1, _ =>
            by_cases e : j = k
            · right
              show 0 ≤ Int32.toInt (if j = k then 2 else S 1 j) ∧ Int32.toInt (if j = k then 2 else S 1 j) ≤ 2
              rw [if_pos e]; decide
            · left; exact if_neg e
          | 2, _ =>
            by_cases e : j = k
            · right
              show 0 ≤ Int32.toInt (if j = k then 0 else S 2 j) ∧ Int32.toInt (if j = k then 0 else S 2 j) ≤ 30
              rw [if_pos e]; decide
            · left; exact if_neg e
          | 3, _ =>
            by_cases e : j = k
            · right
              show 0 ≤ Int32.toInt (if j = k then 0 else S 3 j) ∧ Int32.toInt (if j = k then 0 else S 3 j) ≤ 9
              rw [if_pos e]; decide
            · left; exact if_neg e
          | 4, _ =>
            by_cases e : j = k
            · right
              show 0 ≤ Int32.toInt (if j = k then 0 else S 4 j) ∧ Int32.toInt (if j = k then 0 else S 4 j) ≤ 999
              rw [if_pos e]; decide
            · left; exact if_neg e
          | 5, _ =>
            by_cases e : j = 7
            · right
              subst e
              exact hw
            · left; exact if_neg e
          | 6, _ => exact Or.inl rfl
          | 7, _ => right; have := fb_rng (zGl S k 7 j); exact ⟨this.1, by show _ ≤ (2147483647 : Int); omega⟩
        · have q : (if j = k then (2 : Int32) else S 1 j) = 0 := q
          by_cases e : j = k
          · rw [if_pos e] at q; exact absurd q (by decide)
          · rw [if_neg e] at q; exact ⟨q, if_neg e⟩
    · rw [if_neg c1]
      refine OKS_upd hok rfl (fun r j hj => ?_) (fun j hj q => ?_)
      · have hr := zl8 hj
        match r, hr with
        | 0, _ => exact Or.inl rfl
        | 1, _ =>
          by_cases e : j = k
          · right
            show 0 ≤ Int32.toInt (if j = k then 1 else S 1 j) ∧ Int32.toInt (if j = k then 1 else S 1 j) ≤ 2
            rw [if_pos e]; decide
          · left; exact if_neg e
        | 2, _ => exact Or.inl rfl
        | 3, _ => exact Or.inl rfl
        | 4, _ => exact Or.inl rfl
        | 5, _ => exact Or.inl rfl
        | 6, _ => exact Or.inl rfl
        | 7, _ => right; have := fb_rng (zGc S k 7 j); exact ⟨this.1, by show _ ≤ (2147483647 : Int); omega⟩
      · have q : (if j = k then (1 : Int32) else S 1 j) = 0 := q
        by_cases e : j = k
        · rw [if_pos e] at q; exact absurd q (by decide)
        · rw [if_neg e] at q; exact ⟨q, rfl⟩
noncomputable def zse (s : Nat → Int32) (c : Nat) : Nat → Nat → Nat → Nat → zSea → zSea × Nat × Int32
  | 0, _, _, p, S => (S, p, -6)
  | n + 1, i, h, p, S => if c ≤ i then (S, p, -6) else if s i = 46 then zse s c n (i + 1) (h + 1) (p + 1) S else if zwhy S (s i - 65) = -6 then zse s c n (i + 2) h (p + 1) (zGo S (s i - 65).toNatClampNeg (zsd (s (i + 1))) (nI h)) else (S, p, zwhy S (s i - 65))
def zWF (s : Nat → Int32) (c i : Nat) : Prop := ∃ m, c ≤ i + m ∧ zfs s c m false i = -6
theorem zni6 {i : Nat} (h : i < 1000) : nI i ≠ -6 := by
  intro q
  have e := nI_toInt (n := i) (by omega)
  rw [q] at e
  have : (-6 : Int32).toInt = -6 := by decide
  omega
theorem zWF_step {i : Nat} (h : zWF s c i) (hi : i < c) (hc : c ≤ 60) : (s i = 46 ∧ zWF s c (i + 1)) ∨ (s i ≠ 46 ∧ 65 ≤ (s i).toInt ∧ (s i).toInt ≤ 70 ∧ i + 1 < c ∧ (s (i + 1) = 67 ∨ s (i + 1) = 84 ∨ s (i + 1) = 87) ∧ zWF s c (i + 2)) := by
  obtain ⟨m, hm, h⟩ := h
  cases m with
  | zero => omega
  | succ m =>
    unfold zfs at h
    rw [if_neg (by omega)] at h
    by_cases q : s i = 46
    · left
      refine ⟨q, m, by omega, ?_⟩
      simpa [zcan, q] using h
    · right
      by_cases w : 65 ≤ (s i).toInt ∧ (s i).toInt ≤ 70
      · have h' : zfs s c m true (i + 1) = -6 := by simpa [zcan, q, w] using h
        cases m with
        | zero =>
          unfold zfs at h'
          exact absurd h' (zni6 (by omega))
        | succ m =>
          unfold zfs at h'
          by_cases e : c ≤ i + 1
          · rw [if_pos e] at h'
            exact absurd h' (zni6 (by omega))
          · rw [if_neg e] at h'
            by_cases z : zcan true (s (i + 1)) = true
            · rw [if_pos z] at h'
              refine ⟨q, w.1, w.2, by omega, ?_, m, by omega, ?_⟩
              · simp [zcan] at z
                rcases z with z | z
                · rcases z with z | z
                  · exact Or.inl z
                  · exact Or.inr (Or.inl z)
                · exact Or.inr (Or.inr z)
              · simpa using h'
            · rw [if_neg z] at h'
              exact absurd h' (zni6 (by omega))
      · exfalso
        have z : zcan false (s i) = false := by
          by_cases w1 : 65 ≤ (s i).toInt
          · have w2 : ¬ (s i).toInt ≤ 70 := fun z => w ⟨w1, z⟩
            simp [zcan, q, w1, w2]
          · simp [zcan, q, w1]
        rw [if_neg (by rw [z]; decide)] at h
        exact absurd h (zni6 (by omega))
theorem zship {x : Int32} (h1 : 65 ≤ x.toInt) (h2 : x.toInt ≤ 70) : ∃ k : Nat, k < 6 ∧ x - 65 = nI k := by
  have e := zsubc x 65 (n := 65) rfl (by omega) (by omega) (by omega)
  obtain ⟨k, hk, ek, -⟩ := zN (x := x - 65) (h := 5) (by omega) (by omega)
  exact ⟨k, by omega, ek⟩
theorem zse_ok (hc : c ≤ 60) : ∀ n i h p S, zWF s c i → i ≤ c → OKS S → OKS (zse s c n i h p S).1 := by
  intro n
  induction n with
  | zero => intro i h p S _ _ hok; exact hok
  | succ n ih =>
    intro i h p S hw hi hok
    unfold zse
    by_cases c1 : c ≤ i
    · rw [if_pos c1]; exact hok
    · rw [if_neg c1]
      rcases zWF_step hw (by omega) hc with ⟨q, w⟩ | ⟨q, w1, w2, w3, w4, w5⟩
      · rw [if_pos q]; exact ih _ _ _ _ w (by omega) hok
      · rw [if_neg q]
        obtain ⟨k, hk, ek⟩ := zship w1 w2
        by_cases c2 : zwhy S (s i - 65) = -6
        · rw [if_pos c2]
          exact ih _ _ _ _ w5 (by omega) (OKS_go hok (by rw [ek, nI_clamp (by omega)]; exact hk))
        · rw [if_neg c2]; exact hok
theorem zse_p : ∀ n i h p S, i ≤ c → p ≤ i → (zse s c n i h p S).2.1 ≤ i + 2 * n := by
  intro n
  induction n with
  | zero => intro i h p S _ hp; exact hp
  | succ n ih =>
    intro i h p S hi hp
    unfold zse
    split
    · show p ≤ _; omega
    · split
      · rcases Nat.lt_or_ge i c with q | q
        · have := ih (i + 1) (h + 1) (p + 1) S (by omega) (by omega); omega
        · omega
      · split
        · rcases Nat.lt_or_ge (i + 1) c with q | q
          · have := ih (i + 2) h (p + 1) (zGo S (s i - 65).toNatClampNeg (zsd (s (i + 1))) (nI h)) (by omega) (by omega); omega
          · cases n with
            | zero => show p + 1 ≤ _; omega
            | succ n => unfold zse; rw [if_pos (by omega)]; show p + 1 ≤ _; omega
        · show p ≤ _; omega
theorem zwhy_ne {S : zSea} {p : Int32} (h : zwhy S p ≠ -6) : 0 ≤ (zwhy S p).toInt := by
  unfold zwhy at h ⊢
  by_cases q : zH (S 0 0) p
  · rw [if_pos q] at h ⊢
    by_cases q2 : S 1 p.toNatClampNeg = 0
    · rw [if_pos q2] at h; exact absurd rfl h
    · rw [if_neg q2]; decide
  · rw [if_neg q]; decide
theorem i_tryL {b : Nat} (hc : c ≤ 60) (hcc : σ0.1 52 1 = nI c) (hs : ∀ j, j < 60 → σ0.1 53 j = s j) :
    ∀ n i h p S σ', c ≤ i + n → i ≤ c → h ≤ i → p ≤ i → zWF s c i → SR σ' S → OKS S → σ'.1 54 1 = nI p → σ'.1 54 2 = -6 → (∀ a j, a < 54 ∨ 62 < a → σ'.1 a j = σ0.1 a j) →
      (∀ σ'' : zST, SR σ'' (zse s c n i h p S).1 → σ''.1 54 1 = nI (zse s c n i h p S).2.1 → σ''.1 54 2 = (zse s c n i h p S).2.2 → (∀ a j, a < 54 ∨ 62 < a → σ''.1 a j = σ0.1 a j) → P σ'') → wp_X7_tryOut_L24 b P (n + 1) (nI h) (nI i) σ' := by
  intro n
  induction n with
  | zero =>
    intro i h p S σ' hn hi hh hp hw hS hok e1 e2 hf fin
    unfold wp_X7_tryOut_L24
    rw [hf 52 1 (by omega), hcc, if_pos (nI_le (by omega) (by omega))]
    exact fin σ' hS e1 e2 hf
  | succ n ih =>
    intro i h p S σ' hn hi hh hp hw hS hok e1 e2 hf fin
    unfold wp_X7_tryOut_L24
    rw [hf 52 1 (by omega), hcc]
    unfold zse at fin
    by_cases c1 : c ≤ i
    · rw [if_pos c1] at fin
      rw [if_pos (nI_le c1 (by omega))]
      exact fin σ' hS e1 e2 hf
    · rw [if_neg c1] at fin
      rw [if_neg (nI_ge (by omega) (by omega))]
      have hc1 : σ'.1 52 1 = nI c := by rw [hf 52 1 (by omega), hcc]
      have hs1 : ∀ j, j < 60 → σ'.1 53 j = s j := fun j hj => by rw [hf 53 j (by omega)]; exact hs j hj
      refine i_hourPasses rfl hc1 hc hs1 (by omega) ?_
      rcases zWF_step hw (by omega) hc with ⟨q, w⟩ | ⟨q, w1, w2, w3, w4, w5⟩
      · rw [if_pos q] at fin
        rw [decide_eq_true q, if_neg (by decide), nI_1, nI_1, e1]
        rw [show nI p + (1 : Int32) = nI (p + 1) from nI_1 p]
        refine ih (i + 1) (h + 1) (p + 1) S _ (by omega) (by omega) (by omega) (by omega) w ?_ hok ?_ ?_ (fun a j ha => ?_) fin
        · intro r j hj
          rw [← hS r j hj]
          unfold sV
          split <;> first | rfl | (split <;> rfl)
        · rfl
        · exact e2
        · rw [wI_at, if_neg (by omega)]; exact hf a j ha
      · rw [if_neg q] at fin
        rw [decide_eq_false q, if_pos (show zb false = (0 : Int32) from rfl)]
        refine i_shipAt rfl hc1 hc hs1 (by omega) ?_
        rw [if_pos ⟨w1, w2⟩]
        obtain ⟨k, hk, ek⟩ := zship w1 w2
        refine i_whyNot ek hk hS ?_
        intro σ11 e11
        have h11 : ∀ a j, σ11.1 a j = if a = 54 ∧ j = 2 then zwhy S (s i - 65) else σ'.1 a j := fun a j => by rw [e11]; rfl
        have hS11 : SR σ11 S := by
          intro r j hj
          rw [← hS r j hj]
          exact sV_fr (fun a j w1 w2 => by rw [h11, if_neg (by omega)]) r j
        rw [show σ11.1 54 2 = zwhy S (s i - 65) by rw [h11, if_pos ⟨rfl, rfl⟩]]
        by_cases c2 : zwhy S (s i - 65) = -6
        · rw [if_pos c2] at fin ⊢
          rw [nI_1]
          have hc11 : σ11.1 52 1 = nI c := by rw [h11, if_neg (by omega)]; exact hc1
          have hs11 : ∀ j, j < 60 → σ11.1 53 j = s j := fun j hj => by rw [h11, if_neg (by omega)]; exact hs1 j hj
          refine i_sideAt rfl hc11 hc hs11 w3 ?_
          have hzz : zH (S 0 0) (s i - 65) ∧ S 1 k = 0 := by
            unfold zwhy at c2
            by_cases q : zH (S 0 0) (s i - 65)
            · rw [if_pos q] at c2
              by_cases q2 : S 1 (s i - 65).toNatClampNeg = 0
              · exact ⟨q, by rw [ek, nI_clamp (by omega)] at q2; exact q2⟩
              · rw [if_neg q2] at c2; exact absurd c2 (by decide)
            · rw [if_neg q] at c2; exact absurd c2 (by decide)
          rw [show (s i - 65).toNatClampNeg = k by rw [ek, nI_clamp (by omega)]] at fin
          refine i_send (sd := zsd (s (i + 1))) ek hk hS11 hok (by rw [nI_toInt (by omega)]; omega) hzz.1 hzz.2 (fun σ16 hS16 hf16 => ?_)
          have e16 : σ16.1 54 1 = nI p := by rw [hf16 54 1 (by omega), h11, if_neg (by omega)]; exact e1
          rw [e16, nI_1, show nI p + (1 : Int32) = nI (p + 1) from nI_1 p]
          refine ih (i + 2) h (p + 1) _ _ (by omega) (by omega) (by omega) (by omega) w5 ?_ (OKS_go hok hk) ?_ ?_ (fun a j ha => ?_) fin
          · intro r j hj
            rw [← hS16 r j hj]
            unfold sV
            split <;> first | rfl | (split <;> rfl)
          · rfl
          · show σ16.1 54 2 = -6
            rw [hf16 54 2 (by omega), h11, if_pos ⟨rfl, rfl⟩, c2]
          · rw [wI_at, if_neg (by omega), hf16 a j (by omega), h11, if_neg (by omega)]; exact hf a j ha
        · rw [if_neg c2] at fin ⊢
          refine fin σ11 hS11 ?_ ?_ (fun a j ha => ?_)
          · rw [h11, if_neg (by omega)]; exact e1
          · rw [h11, if_pos ⟨rfl, rfl⟩]
          · rw [h11, if_neg (by omega)]; exact hf a j ha
theorem i_goL (hc : c ≤ 60) (hcc : σ0.1 69 27 = nI c) (hs : ∀ j, j < 60 → σ0.1 80 j = s j) :
    ∀ n i h p S σ', c ≤ i + n → i ≤ c → h ≤ i → p ≤ i → zWF s c i → NR σ' S → OKS S → σ'.1 69 31 = nI p → σ'.1 69 29 = -6 → σ'.1 69 30 = -6 → (∀ a j, ¬ (70 ≤ a ∧ a ≤ 73) → ¬ (a = 69 ∧ (j = 12 ∨ 15 ≤ j ∧ j ≤ 17 ∨ 29 ≤ j ∧ j ≤ 31)) → σ'.1 a j = σ0.1 a j) →
      (∀ σ'' : zST, NR σ'' (zse s c n i h p S).1 → ((zse s c n i h p S).2.2 = -6 → σ''.1 69 29 = -6 ∧ σ''.1 69 30 = -6 ∧ σ''.1 69 31 = nI (zse s c n i h p S).2.1) → ((zse s c n i h p S).2.2 ≠ -6 → σ''.1 69 29 = nI (zse s c n i h p S).2.1 ∧ σ''.1 69 30 = (zse s c n i h p S).2.2) → (∀ a j, ¬ (70 ≤ a ∧ a ≤ 73) → ¬ (a = 69 ∧ (j = 12 ∨ 15 ≤ j ∧ j ≤ 17 ∨ 29 ≤ j ∧ j ≤ 31)) → σ''.1 a j = σ0.1 a j) → P σ'') → wp_X9_goSeason_L21 P (n + 1) (nI h) (nI i) σ' := by
  intro n
  induction n with
  | zero =>
    intro i h p S σ' hn hi hh hp hw hS hok e1 e2 e3 hf fin
    unfold wp_X9_goSeason_L21
    rw [hf 69 27 (by omega) (by omega), hcc, if_pos (nI_le (by omega) (by omega))]
    exact fin σ' hS (fun _ => ⟨e2, e3, e1⟩) (fun q => absurd rfl q) hf
  | succ n ih =>
    intro i h p S σ' hn hi hh hp hw hS hok e1 e2 e3 hf fin
    unfold wp_X9_goSeason_L21
    rw [hf 69 27 (by omega) (by omega), hcc]
    unfold zse at fin
    by_cases c1 : c ≤ i
    · rw [if_pos c1] at fin
      rw [if_pos (nI_le c1 (by omega))]
      exact fin σ' hS (fun _ => ⟨e2, e3, e1⟩) (fun q => absurd rfl q) hf
    · rw [if_neg c1] at fin
      rw [if_neg (nI_ge (by omega) (by omega)), e2, if_neg (by decide)]
      have hv : vp_in (nI i) 60 := vp_in_nI (by omega) (by omega)
      refine ⟨hv, ?_⟩
      rw [nI_clamp (by omega), hf 80 i (by omega) (by omega), hs i (by omega)]
      rcases zWF_step hw (by omega) hc with ⟨q, w⟩ | ⟨q, w1, w2, w3, w4, w5⟩
      · rw [if_pos q] at fin ⊢
        rw [nI_1, nI_1, e1, show nI p + (1 : Int32) = nI (p + 1) from nI_1 p]
        refine ih (i + 1) (h + 1) (p + 1) S _ (by omega) (by omega) (by omega) (by omega) w ?_ hok rfl ?_ ?_ (fun a j ha hb => ?_) fin
        · intro r j hj
          rw [← hS r j hj]
          exact mV_fr (fun a k x => by rw [wI_at, if_neg (by omega)]) (zl_len hj)
        · exact e2
        · exact e3
        · rw [wI_at, if_neg (by omega)]; exact hf a j ha hb
      · rw [if_neg q] at fin ⊢
        refine ⟨hv, ?_⟩
        rw [nI_1]
        refine ⟨vp_in_nI (by omega) (by omega), ?_⟩
        rw [nI_clamp (by omega), hf 80 (i + 1) (by omega) (by omega), hs (i + 1) (by omega), nI_1]
        obtain ⟨k, hk, ek⟩ := zship w1 w2
        refine i_order ek hk hS hok (by rw [nI_toInt (by omega)]; omega) w4 (fun c2 σ8 hS8 b8 hf8 => ?_) (fun c2 σ8 hS8 b8 p8 hf8 => ?_)
        · rw [if_pos c2] at fin
          rw [show (s i - 65).toNatClampNeg = k by rw [ek, nI_clamp (by omega)]] at fin
          rw [hf8 69 31 (by omega) (by omega), e1, show nI p + (1 : Int32) = nI (p + 1) from nI_1 p]
          refine ih (i + 2) h (p + 1) _ _ (by omega) (by omega) (by omega) (by omega) w5 ?_ (OKS_go hok hk) rfl ?_ ?_ (fun a j ha hb => ?_) fin
          · intro r j hj
            rw [← hS8 r j hj]
            exact mV_fr (fun a k x => by rw [wI_at, if_neg (by omega)]) (zl_len hj)
          · show σ8.1 69 29 = -6
            rw [hf8 69 29 (by omega) (by omega)]; exact e2
          · exact b8
          · rw [wI_at, if_neg (by omega), hf8 a j ha (by omega)]; exact hf a j ha hb
        · rw [if_neg c2] at fin
          have m1 : σ8.1 69 29 = nI p := by rw [p8, e1]
          have last : ∀ σ9 : zST, (∀ a j, σ9.1 a j = if a = 69 ∧ j = 31 then σ8.1 69 31 + 1 else σ8.1 a j) → P σ9 := by
            intro σ9 h9
            refine fin σ9 ?_ (fun q => absurd q c2) (fun _ => ⟨?_, ?_⟩) (fun a j ha hb => ?_)
            · intro r j hj
              show mV σ9 r j = S r j
              rw [← hS8 r j hj]
              exact mV_fr (fun a k x => by rw [h9, if_neg (by omega)]) (zl_len hj)
            · rw [h9, if_neg (by omega)]; exact m1
            · rw [h9, if_neg (by omega)]; exact b8
            · rw [h9, if_neg (by omega), hf8 a j (by omega)]; exact hf a j ha hb
          cases n with
          | zero => omega
          | succ n =>
            unfold wp_X9_goSeason_L21
            have hz := last (wI σ8 69 31 (σ8.1 69 31 + 1)) (fun a j => rfl)
            by_cases c3 : (wI σ8 69 31 (σ8.1 69 31 + 1)).1 69 27 ≤ nI (i + 1 + 1)
            · rw [if_pos c3]; exact hz
            · rw [if_neg c3, if_pos]
              · exact hz
              · show (0 : Int32) ≤ σ8.1 69 29
                rw [m1]; exact nI_pos' (by omega)
end S
