section S
variable {σ : zST} {S : zSea} {p sd hr sg : Int32} {k : Nat} {P : zST → Prop} {Q : Int32 → Prop}
theorem zdw_b (hok : OKS S) : ∃ n : Nat, n ≤ 65536 ∧ S 5 7 = nI n ∧ zdw (S 5 7) = nI ((75 * n + 74) % 65537) := by
  have e := hok.1 5 7 (by decide)
  obtain ⟨n, hn, en, -⟩ := zN (h := 65536) (show 0 ≤ (S 5 7).toInt from e.1) (show (S 5 7).toInt ≤ 65536 from e.2)
  exact ⟨n, hn, en, by rw [en]; exact zdrN hn⟩
theorem i_tenN (hS : NR σ S) (hok : OKS S) (hh : 0 ≤ hr.toInt) (h : Q (S 6 (zmo hr (S 0 1)).toNatClampNeg)) : wp_X9_tenths hr σ Q := by
  have e1 : σ.1 69 14 = S 0 1 := hS 0 1 (by decide)
  have ed := hok.1 0 1 (by decide)
  have ed1 : 1 ≤ (S 0 1).toInt := ed.1
  have ed2 : (S 0 1).toInt ≤ 24 := ed.2
  have := zmodb (d := S 0 1) hh ed1
  unfold wp_X9_tenths
  rw [e1]
  refine ⟨fun q => ?_, zv this.1 (Int.lt_of_lt_of_le this.2.1 (by omega)), ?_⟩
  · rw [q] at ed1; exact absurd ed1 (by decide)
  · rw [show σ.1 74 (hr - hr / S 0 1 * S 0 1).toNatClampNeg = S 6 (zmo hr (S 0 1)).toNatClampNeg from hS 6 _ (zdig hok hh)]
    exact h
theorem i_goWhirl (hp : p = nI k) (hk : k < 6) (hS : NR σ S) (hok : OKS S) (hh : 0 ≤ hr.toInt) (h : ∀ σ' : zST, NR σ' (if S 6 (zmo hr (S 0 1)).toNatClampNeg ≤ zdw (S 5 7) - zdw (S 5 7) / 10 * 10 then zGw S k else zGl S k) → (∀ a j, ¬ (70 ≤ a ∧ a ≤ 73) → ¬ (a = 69 ∧ (j = 12 ∨ 15 ≤ j ∧ j ≤ 17)) → σ'.1 a j = σ.1 a j) → P σ') : wp_X9_goWhirl p hr σ P := by
  have hv : vp_in p 6 := by rw [hp]; exact vp_in_nI hk (by omega)
  have hc : p.toNatClampNeg = k := by rw [hp]; exact nI_clamp (by omega)
  obtain ⟨n, hn, en, ew⟩ := zdw_b hok
  have e12 : σ.1 69 12 = S 5 7 := hS 5 7 (by decide)
  unfold wp_X9_goWhirl
  intro σ1 e1
  have h1 : ∀ a j, σ1.1 a j = if a = 69 ∧ j = 12 then zdw (S 5 7) else σ.1 a j := by
    intro a j
    rw [e1, e12, en, zdrL hn, ← en, ew]
    rfl
  have x1 : σ1.1 69 12 = zdw (S 5 7) := by rw [h1, if_pos ⟨rfl, rfl⟩]
  have hS1 : NR σ1 (fun r j => if r = 5 ∧ j = 7 then zdw (S 5 7) else S r j) := by
    refine NR_of ?_ ?_ (fun j hj => ?_) (fun j hj => ?_) (fun j hj => ?_) (fun j hj => ?_) (fun j hj => ?_) (fun j hj => ?_) (fun j hj => ?_)
    · rw [h1]; (repeat rw [if_neg (by omega)]); exact hS 0 0 (by decide)
    · rw [h1]; (repeat rw [if_neg (by omega)]); exact hS 0 1 (by decide)
    · rw [h1]; (repeat rw [if_neg (by omega)]); exact hS 1 j hj
    · rw [h1]; (repeat rw [if_neg (by omega)]); exact hS 2 j hj
    · rw [h1]; (repeat rw [if_neg (by omega)]); exact hS 3 j hj
    · rw [h1]; (repeat rw [if_neg (by omega)]); exact hS 4 j hj
    · rw [h1]
      by_cases e : j = 7
      · rw [if_pos (by omega), if_pos ⟨rfl, e⟩]
      · rw [if_neg (by omega), if_neg (by omega)]; exact hS 5 j hj
    · rw [h1]; (repeat rw [if_neg (by omega)]); exact hS 6 j hj
    · rw [h1]; (repeat rw [if_neg (by omega)]); exact hS 7 j hj
  have hok1 : OKS (fun r j => if r = 5 ∧ j = 7 then zdw (S 5 7) else S r j) := by
    refine ⟨fun r j hj => ?_, fun j hj => hok.2 j hj⟩
    dsimp only
    by_cases e : r = 5 ∧ j = 7
    · rw [if_pos e, e.1, e.2, ew]
      have := zdr_lt n
      rw [nI_toInt (by omega)]
      exact ⟨by show (0 : Int) ≤ _; omega, by show _ ≤ (65536 : Int); omega⟩
    · rw [if_neg e]; exact hok.1 r j hj
  refine i_tenN hS1 hok1 hh ?_
  try simp (decide := true) only [false_and, if_false]
  rw [x1]
  rintro _ rfl _ rfl
  rw [hc]
  refine ⟨hv, ?_⟩
  by_cases cc : S 6 (zmo hr (S 0 1)).toNatClampNeg ≤ zdw (S 5 7) - zdw (S 5 7) / 10 * 10
  · rw [if_pos cc] at h ⊢
    rw [if_pos rfl]
    have hf : ∀ a j, (wI σ1 73 k 1).1 a j = if a = 73 ∧ j = k then 1 else if a = 69 ∧ j = 12 then zdw (S 5 7) else σ.1 a j := fun a j => by rw [wI_at, h1]
    rw [if_pos rfl]
    generalize wI σ1 73 k 1 = σ' at hf ⊢
    refine h σ' (NR_of ?_ ?_ (fun j hj => ?_) (fun j hj => ?_) (fun j hj => ?_) (fun j hj => ?_) (fun j hj => ?_) (fun j hj => ?_) (fun j hj => ?_)) (fun a j ha hb => ?_)
    · rw [hf]; (repeat rw [if_neg (by omega)]); exact hS 0 0 (by decide)
    · rw [hf]; (repeat rw [if_neg (by omega)]); exact hS 0 1 (by decide)
    · show _ = if j = k then 1 else S 1 j
      rw [hf]
      by_cases e : j = k
      · rw [if_pos ⟨rfl, e⟩, if_pos e]
      · rw [if_neg e, if_neg (by omega), if_neg (by omega)]; exact hS 1 j hj
    · rw [hf]; (repeat rw [if_neg (by omega)]); exact hS 2 j hj
    · rw [hf]; (repeat rw [if_neg (by omega)]); exact hS 3 j hj
    · rw [hf]; (repeat rw [if_neg (by omega)]); exact hS 4 j hj
    · show _ = if j = 7 then zdw (S 5 7) else S 5 j
      rw [hf]
      by_cases e : j = 7
      · rw [if_neg (by omega), if_pos (by omega), if_pos e]
      · rw [if_neg e, if_neg (by omega), if_neg (by omega)]; exact hS 5 j hj
    · rw [hf]; (repeat rw [if_neg (by omega)]); exact hS 6 j hj
    · rw [hf]; (repeat rw [if_neg (by omega)]); exact hS 7 j hj
    · rw [hf]; (repeat rw [if_neg (by omega)])
  · rw [if_neg cc] at h ⊢
    rw [if_neg (by decide), if_neg (by decide)]
    intro σ14 e14
    have h14 : ∀ a j, σ14.1 a j = if a = 73 ∧ j = k then 2 else if a = 69 ∧ j = 12 then zdw (S 5 7) else σ.1 a j := fun a j => by rw [e14, wI_at, h1]
    have m1 : σ14.1 70 k = S 2 k := by rw [h14]; (repeat rw [if_neg (by omega)]); exact hS 2 k hk
    have m2 : σ14.1 69 15 = S 7 0 := by rw [h14]; (repeat rw [if_neg (by omega)]); exact hS 7 0 (by decide)
    refine ⟨hv, ?_⟩
    rw [m1, m2]
    intro σ16 e16
    have h16 : ∀ a j, σ16.1 a j = if a = 69 ∧ j = 15 then S 7 0 + S 2 k else σ14.1 a j := fun a j => by rw [e16, wI_at]
    have m3 : σ16.1 72 k = S 4 k := by rw [h16, if_neg (by omega), h14]; (repeat rw [if_neg (by omega)]); exact hS 4 k hk
    have m4 : σ16.1 69 16 = S 7 1 := by rw [h16, if_neg (by omega), h14]; (repeat rw [if_neg (by omega)]); exact hS 7 1 (by decide)
    rw [m3, m4]
    refine ⟨hv, hv, hv, hv, ?_⟩
    have hf : ∀ a j, (wI (wI (wI (wI σ16 69 16 (S 7 1 + S 4 k)) 70 k 0) 71 k 0) 72 k 0).1 a j = if a = 72 ∧ j = k then 0 else if a = 71 ∧ j = k then 0 else if a = 70 ∧ j = k then 0 else if a = 69 ∧ j = 16 then S 7 1 + S 4 k else if a = 69 ∧ j = 15 then S 7 0 + S 2 k else if a = 73 ∧ j = k then 2 else if a = 69 ∧ j = 12 then zdw (S 5 7) else σ.1 a j := fun a j => by rw [wI_at, wI_at, wI_at, wI_at, h16, h14]
    generalize wI (wI (wI (wI σ16 69 16 (S 7 1 + S 4 k)) 70 k 0) 71 k 0) 72 k 0 = σ' at hf ⊢
    refine h σ' (NR_of ?_ ?_ (fun j hj => ?_) (fun j hj => ?_) (fun j hj => ?_) (fun j hj => ?_) (fun j hj => ?_) (fun j hj => ?_) (fun j hj => ?_)) (fun a j ha hb => ?_)
    · rw [hf]; (repeat rw [if_neg (by omega)]); exact hS 0 0 (by decide)
    · rw [hf]; (repeat rw [if_neg (by omega)]); exact hS 0 1 (by decide)
    · show _ = if j = k then 2 else S 1 j
      rw [hf]
      by_cases e : j = k
      · rw [if_neg (by omega), if_neg (by omega), if_neg (by omega), if_neg (by omega), if_neg (by omega), if_pos ⟨rfl, e⟩, if_pos e]
      · rw [if_neg e]; (repeat rw [if_neg (by omega)]); exact hS 1 j hj
    · show _ = if j = k then 0 else S 2 j
      rw [hf]
      by_cases e : j = k
      · rw [if_neg (by omega), if_neg (by omega), if_pos ⟨rfl, e⟩, if_pos e]
      · rw [if_neg e]; (repeat rw [if_neg (by omega)]); exact hS 2 j hj
    · show _ = if j = k then 0 else S 3 j
      rw [hf]
      by_cases e : j = k
      · rw [if_neg (by omega), if_pos ⟨rfl, e⟩, if_pos e]
      · rw [if_neg e]; (repeat rw [if_neg (by omega)]); exact hS 3 j hj
    · show _ = if j = k then 0 else S 4 j
      rw [hf]
      by_cases e : j = k
      · rw [if_pos ⟨rfl, e⟩, if_pos e]
      · rw [if_neg e]; (repeat rw [if_neg (by omega)]); exact hS 4 j hj
    · show _ = if j = 7 then zdw (S 5 7) else S 5 j
      rw [hf]
      by_cases e : j = 7
      · rw [if_neg (by omega), if_neg (by omega), if_neg (by omega), if_neg (by omega), if_neg (by omega), if_neg (by omega), if_pos (by omega), if_pos e]
      · rw [if_neg e]; (repeat rw [if_neg (by omega)]); exact hS 5 j hj
    · rw [hf]; (repeat rw [if_neg (by omega)]); exact hS 6 j hj
    · show _ = if j = 0 then S 7 0 + S 2 k else if j = 1 then S 7 1 + S 4 k else S 7 j
      rw [hf]
      rcases (show j = 0 ∨ j = 1 ∨ j = 2 by omega) with rfl | rfl | rfl
      · simp
      · simp
      · simp; exact hS 7 2 (by decide)
    · rw [hf]; (repeat rw [if_neg (by omega)])
theorem i_goCape (hp : p = nI k) (hk : k < 6) (hS : NR σ S) (h : ∀ σ' : zST, NR σ' (zGc S k) → (∀ a j, ¬ (70 ≤ a ∧ a ≤ 73) → ¬ (a = 69 ∧ (j = 12 ∨ 15 ≤ j ∧ j ≤ 17)) → σ'.1 a j = σ.1 a j) → P σ') : wp_X9_goCape p σ P := by
  have hv : vp_in p 6 := by rw [hp]; exact vp_in_nI hk (by omega)
  have hc : p.toNatClampNeg = k := by rw [hp]; exact nI_clamp (by omega)
  refine ⟨hv, hv, ?_⟩
  rw [hc, show σ.1 69 17 = S 7 2 from hS 7 2 (by decide), show σ.1 69 7 = S 5 2 from hS 5 2 (by decide), show σ.1 69 8 = S 5 3 from hS 5 3 (by decide), show σ.1 70 k = S 2 k from hS 2 k hk]
  have hf : ∀ a j, (wI (wI σ 69 17 (S 7 2 + S 5 2 * S 5 3 * S 2 k)) 73 k 1).1 a j = if a = 73 ∧ j = k then 1 else if a = 69 ∧ j = 17 then S 7 2 + S 5 2 * S 5 3 * S 2 k else σ.1 a j := fun a j => rfl
  generalize wI (wI σ 69 17 (S 7 2 + S 5 2 * S 5 3 * S 2 k)) 73 k 1 = σ' at hf ⊢
  refine h σ' (NR_of ?_ ?_ (fun j hj => ?_) (fun j hj => ?_) (fun j hj => ?_) (fun j hj => ?_) (fun j hj => ?_) (fun j hj => ?_) (fun j hj => ?_)) (fun a j ha hb => ?_)
  · rw [hf]; (repeat rw [if_neg (by omega)]); exact hS 0 0 (by decide)
  · rw [hf]; (repeat rw [if_neg (by omega)]); exact hS 0 1 (by decide)
  · show _ = if j = k then 1 else S 1 j
    rw [hf]
    by_cases e : j = k
    · rw [if_pos ⟨rfl, e⟩, if_pos e]
    · rw [if_neg e, if_neg (by omega), if_neg (by omega)]; exact hS 1 j hj
  · rw [hf]; (repeat rw [if_neg (by omega)]); exact hS 2 j hj
  · rw [hf]; (repeat rw [if_neg (by omega)]); exact hS 3 j hj
  · rw [hf]; (repeat rw [if_neg (by omega)]); exact hS 4 j hj
  · rw [hf]; (repeat rw [if_neg (by omega)]); exact hS 5 j hj
  · rw [hf]; (repeat rw [if_neg (by omega)]); exact hS 6 j hj
  · show _ = if j = 2 then S 7 2 + S 5 2 * S 5 3 * S 2 k else S 7 j
    rw [hf]
    by_cases e : j = 2
    · rw [if_neg (by omega), if_pos (by omega), if_pos e]
    · rw [if_neg e, if_neg (by omega), if_neg (by omega)]; exact hS 7 j hj
  · rw [hf]; (repeat rw [if_neg (by omega)])
/-- which side a sign tells -/
def zsd (x : Int32) : Int32 := if x = 67 then 2 else if x = 84 then 0 else if x = 87 then 1 else -6
def zwhy (S : zSea) (p : Int32) : Int32 := if zH (S 0 0) p then (if S 1 p.toNatClampNeg = 0 then -6 else 2) else 1
theorem i_whyNot (hp : p = nI k) (hk : k < 6) (hS : SR σ S) (h : Q (zwhy S p)) : wp_X6_whyNot 55 p σ Q := by
  have hv : vp_in p 6 := by rw [hp]; exact vp_in_nI hk (by omega)
  have hc : p.toNatClampNeg = k := by rw [hp]; exact nI_clamp (by omega)
  have hpi : p.toInt = k := by rw [hp]; exact nI_toInt (by omega)
  have f0 : σ.1 55 0 = S 0 0 := hS 0 0 (by decide)
  unfold zwhy at h
  unfold wp_X6_whyNot
  refine t_has f0 (fun x1 x2 x3 => ?_) (fun y => ?_)
  · rw [if_pos x3] at h
    refine i_has f0 (fun _ _ _ => ⟨?_, ?_⟩) (fun y => absurd ⟨x1, x2, x3⟩ y)
    · rw [if_neg (by decide)]; exact ⟨hv, trivial⟩
    · rintro _ rfl
      rw [if_neg (by decide), show σ.1 (55 + 1) p.toNatClampNeg = S 1 p.toNatClampNeg from by rw [hc]; exact hS 1 k hk]
      by_cases c : S 1 p.toNatClampNeg = 0
      · rw [if_pos c] at h ⊢
        refine ⟨zB1, ?_⟩
        rintro _ rfl
        exact h
      · rw [if_neg c] at h ⊢
        refine ⟨zB0, ?_⟩
        rintro _ rfl
        exact h
  · rw [if_neg (fun q => y ⟨by omega, by omega, q⟩)] at h
    exact h
theorem i_order (hp : p = nI k) (hk : k < 6) (hS : NR σ S) (hok : OKS S) (hh : 0 ≤ hr.toInt) (hsg : sg = 67 ∨ sg = 84 ∨ sg = 87)
    (h1 : zwhy S p = -6 → ∀ σ' : zST, NR σ' (zGo S k (zsd sg) hr) → σ'.1 69 30 = -6 → (∀ a j, ¬ (70 ≤ a ∧ a ≤ 73) → ¬ (a = 69 ∧ (j = 12 ∨ 15 ≤ j ∧ j ≤ 17 ∨ j = 30)) → σ'.1 a j = σ.1 a j) → P σ')
    (h2 : zwhy S p ≠ -6 → ∀ σ' : zST, NR σ' S → σ'.1 69 30 = zwhy S p → σ'.1 69 29 = σ.1 69 31 → (∀ a j, ¬ (a = 69 ∧ (j = 29 ∨ j = 30)) → σ'.1 a j = σ.1 a j) → P σ') : wp_X9_order p sg hr σ P := by
  have hv : vp_in p 6 := by rw [hp]; exact vp_in_nI hk (by omega)
  have hc : p.toNatClampNeg = k := by rw [hp]; exact nI_clamp (by omega)
  have hpi : p.toInt = k := by rw [hp]; exact nI_toInt (by omega)
  have f0 : σ.1 69 0 = S 0 0 := hS 0 0 (by decide)
  have f1 : σ.1 73 p.toNatClampNeg = S 1 p.toNatClampNeg := by rw [hc]; exact hS 1 k hk
  have go : ∀ z4, z4 = zwhy S p → ∀ σ9 : zST, σ9 = (wI σ 69 30 z4) → (if (σ9.1 69 30) ≤ (0) then (if sg = (84 : Int32) then wp_X9_goTeeth p σ9 (fun σ18 => P σ18) else (if sg = (87 : Int32) then wp_X9_goWhirl p hr σ9 (fun σ16 => P σ16) else wp_X9_goCape p σ9 (fun σ14 => P σ14))) else P (wI σ9 69 29 (σ9.1 69 31))) := by
    intro z4 hz σ9 e9
    have h9 : ∀ a j, σ9.1 a j = if a = 69 ∧ j = 30 then z4 else σ.1 a j := fun a j => by rw [e9]; rfl
    have m9 : σ9.1 69 30 = z4 := by rw [h9, if_pos ⟨rfl, rfl⟩]
    have hS9 : NR σ9 S := by
      refine NR_of ?_ ?_ (fun j hj => ?_) (fun j hj => ?_) (fun j hj => ?_) (fun j hj => ?_) (fun j hj => ?_) (fun j hj => ?_) (fun j hj => ?_)
      · rw [h9, if_neg (by omega)]; exact hS 0 0 (by decide)
      · rw [h9, if_neg (by omega)]; exact hS 0 1 (by decide)
      · rw [h9, if_neg (by omega)]; exact hS 1 j hj
      · rw [h9, if_neg (by omega)]; exact hS 2 j hj
      · rw [h9, if_neg (by omega)]; exact hS 3 j hj
      · rw [h9, if_neg (by omega)]; exact hS 4 j hj
      · rw [h9, if_neg (by omega)]; exact hS 5 j hj
      · rw [h9, if_neg (by omega)]; exact hS 6 j hj
      · rw [h9, if_neg (by omega)]; exact hS 7 j hj
    rw [m9]
    by_cases c : zwhy S p = -6
    · rw [if_pos (by rw [hz, c]; decide)]
      have hzz : zH (S 0 0) p ∧ S 1 k = 0 := by
        unfold zwhy at c
        by_cases q : zH (S 0 0) p
        · rw [if_pos q] at c
          by_cases q2 : S 1 p.toNatClampNeg = 0
          · exact ⟨q, by rw [← hc]; exact q2⟩
          · rw [if_neg q2] at c; exact absurd c (by decide)
        · rw [if_neg q] at c; exact absurd c (by decide)
      have hmen : 1 ≤ (S 2 k).toInt := hok.2 k hk (by rw [← hp]; exact hzz.1) hzz.2
      have fin : ∀ σ' : zST, NR σ' (zGo S k (zsd sg) hr) → (∀ a j, ¬ (70 ≤ a ∧ a ≤ 73) → ¬ (a = 69 ∧ (j = 12 ∨ 15 ≤ j ∧ j ≤ 17)) → σ'.1 a j = σ9.1 a j) → P σ' := by
        intro σ' q1 q2
        refine h1 c σ' q1 ?_ (fun a j w1 w2 => ?_)
        · rw [q2 69 30 (by omega) (by omega), m9, hz, c]
        · rw [q2 a j w1 (by omega), h9, if_neg (by omega)]
      rcases hsg with rfl | rfl | rfl
      · rw [if_neg (by decide), if_neg (by decide)]
        exact i_goCape hp hk hS9 fin
      · rw [if_pos rfl]
        exact i_goTeeth hp hk hS9 hok hmen fin
      · rw [if_neg (by decide), if_pos rfl]
        exact i_goWhirl hp hk hS9 hok hh fin
    · rw [if_neg]
      · have m31 : σ9.1 69 31 = σ.1 69 31 := by rw [h9, if_neg (by omega)]
        rw [m31]
        have hf : ∀ a j, (wI σ9 69 29 (σ.1 69 31)).1 a j = if a = 69 ∧ j = 29 then σ.1 69 31 else σ9.1 a j := fun a j => rfl
        generalize wI σ9 69 29 (σ.1 69 31) = σ' at hf ⊢
        refine h2 c σ' ?_ ?_ ?_ (fun a j w => ?_)
        · refine NR_of ?_ ?_ (fun j hj => ?_) (fun j hj => ?_) (fun j hj => ?_) (fun j hj => ?_) (fun j hj => ?_) (fun j hj => ?_) (fun j hj => ?_)
          · rw [hf, if_neg (by omega)]; exact hS9 0 0 (by decide)
          · rw [hf, if_neg (by omega)]; exact hS9 0 1 (by decide)
          · rw [hf, if_neg (by omega)]; exact hS9 1 j hj
          · rw [hf, if_neg (by omega)]; exact hS9 2 j hj
          · rw [hf, if_neg (by omega)]; exact hS9 3 j hj
          · rw [hf, if_neg (by omega)]; exact hS9 4 j hj
          · rw [hf, if_neg (by omega)]; exact hS9 5 j hj
          · rw [hf, if_neg (by omega)]; exact hS9 6 j hj
          · rw [hf, if_neg (by omega)]; exact hS9 7 j hj
        · rw [hf, if_neg (by omega), m9, hz]
        · rw [hf, if_pos ⟨rfl, rfl⟩]
        · rw [hf, if_neg (by omega), h9, if_neg (by omega)]
      · rw [hz]
        unfold zwhy at c ⊢
        by_cases q : zH (S 0 0) p
        · rw [if_pos q] at c ⊢
          by_cases q2 : S 1 p.toNatClampNeg = 0
          · rw [if_pos q2] at c; exact absurd rfl c
          · rw [if_neg q2]; decide
        · rw [if_neg q]; decide
  unfold wp_X9_order
  refine i_isShip f0 (fun x1 x2 x3 => ⟨?_, ?_⟩) (fun y => ⟨?_, ?_⟩)
  · rw [if_neg (by decide)]; exact ⟨hv, trivial⟩
  · intro z4 hz
    refine go z4 ?_
    rw [hz, if_neg (by decide), f1]
    unfold zwhy
    rw [if_pos x3]
  · rw [if_pos rfl]; trivial
  · intro z4 hz
    refine go z4 ?_
    rw [hz, if_pos rfl]
    unfold zwhy
    rw [if_neg (fun q => y ⟨by omega, by omega, q⟩)]
end S
