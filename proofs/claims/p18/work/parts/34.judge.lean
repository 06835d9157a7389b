section S
variable {σ σ0 : zST} {S : zSea} {k : Nat} {P : zST → Prop} {s : Nat → Int32} {c : Nat} {a1 a2 a3 a4 a5 : Int32}
theorem OKS_of (h : IB σ) : OKS (fun r j => cV σ 1 r j) := ⟨fun r j hj => h.2.1 r j (zl_len hj), fun j hj => h.2.2.2 j hj⟩
theorem NR_of_IB (h : IB σ) : NR σ (fun r j => cV σ 1 r j) := fun r j hj => (h.1 r j (zl_len hj)).symm
theorem i_tryOut (h : Inv σ) (hc : c ≤ 60) (hcc : σ.1 52 1 = nI c) (hs : ∀ j, j < 60 → σ.1 53 j = s j) (hw : zWF s c 0)
    (fin : ∀ σ' : zST, SR σ' (zse s c 60 0 0 0 (fun r j => cV σ 1 r j)).1 → σ'.1 54 1 = nI (zse s c 60 0 0 0 (fun r j => cV σ 1 r j)).2.1 → σ'.1 54 2 = (zse s c 60 0 0 0 (fun r j => cV σ 1 r j)).2.2 → (∀ a j, a < 54 ∨ 62 < a → σ'.1 a j = σ.1 a j) → P σ') : wp_X7_tryOut 2 σ P := by
  unfold wp_X7_tryOut
  refine i_become6 (by omega) (fun σ2 g1 g2 g3 g4 => ?_)
  refine ⟨61, i_tryL (σ0 := σ) hc hcc hs 60 0 0 0 (fun r j => cV σ 1 r j) _ (by omega) (by omega) (by omega) (by omega) hw ?_ (OKS_of h.1) rfl rfl (fun a j ha => ?_) fin⟩
  · refine SR_of ?_ ?_ (fun j hj => ?_) (fun j hj => ?_) (fun j hj => ?_) (fun j hj => ?_) (fun j hj => ?_) (fun j hj => ?_) (fun j hj => ?_)
    · exact g2
    · exact g3
    · exact g4 1 j (by omega) (by omega) hj
    · exact g4 2 j (by omega) (by omega) hj
    · exact g4 3 j (by omega) (by omega) hj
    · exact g4 4 j (by omega) (by omega) hj
    · exact g4 5 j (by omega) (by omega) hj
    · exact g4 6 j (by omega) (by omega) hj
    · exact g4 7 j (by omega) (by omega) hj
  · rw [wI_at, if_neg (by omega), wI_at, if_neg (by omega)]
    exact g1 a j (by omega)
theorem i_goSeason {S : zSea} (hS : NR σ S) (hok : OKS S) (hc : c ≤ 60) (hcc : σ.1 69 27 = nI c) (hs : ∀ j, j < 60 → σ.1 80 j = s j) (hw : zWF s c 0)
    (fin : ∀ σ' : zST, NR σ' (zse s c 60 0 0 0 S).1 → ((zse s c 60 0 0 0 S).2.2 = -6 → σ'.1 69 29 = -6 ∧ σ'.1 69 30 = -6 ∧ σ'.1 69 31 = nI (zse s c 60 0 0 0 S).2.1) → ((zse s c 60 0 0 0 S).2.2 ≠ -6 → σ'.1 69 29 = nI (zse s c 60 0 0 0 S).2.1 ∧ σ'.1 69 30 = (zse s c 60 0 0 0 S).2.2) → (∀ a j, ¬ (70 ≤ a ∧ a ≤ 73) → ¬ (a = 69 ∧ (j = 12 ∨ 15 ≤ j ∧ j ≤ 17 ∨ 29 ≤ j ∧ j ≤ 31)) → σ'.1 a j = σ.1 a j) → P σ') : wp_X9_goSeason σ P := by
  unfold wp_X9_goSeason
  refine ⟨61, i_goL (σ0 := σ) hc hcc hs 60 0 0 0 S _ (by omega) (by omega) (by omega) (by omega) hw ?_ hok rfl rfl rfl (fun a j ha hb => ?_) fin⟩
  · intro r j hj
    rw [← hS r j hj]
    exact mV_fr (fun a k x => by rw [wI_at, if_neg (by omega), wI_at, if_neg (by omega), wI_at, if_neg (by omega)]) (zl_len hj)
  · rw [wI_at, if_neg (by omega), wI_at, if_neg (by omega), wI_at, if_neg (by omega)]
/-- what both know of the pad's season -/
theorem zfs6 (hc : c ≤ 60) : zfs s c 60 false 0 = -6 ∨ (zfs s c 60 false 0 ≠ -6 ∧ 0 ≤ (zfs s c 60 false 0).toInt) := by
  have key : ∀ n d i, i ≤ c → zfs s c n d i = -6 ∨ (zfs s c n d i ≠ -6 ∧ 0 ≤ (zfs s c n d i).toInt) := by
    intro n
    have b : ∀ d : Bool, (if d then nI c else (-6 : Int32)) = -6 ∨ ((if d then nI c else (-6 : Int32)) ≠ -6 ∧ 0 ≤ Int32.toInt (if d then nI c else (-6 : Int32))) := by
      intro d
      cases d
      · exact Or.inl rfl
      · right
        exact ⟨zni6 (by omega), by show 0 ≤ (nI c).toInt; rw [nI_toInt (by omega)]; omega⟩
    induction n with
    | zero => intro d i _; unfold zfs; exact b d
    | succ n ih =>
      intro d i hi
      unfold zfs
      by_cases c1 : c ≤ i
      · rw [if_pos c1]; exact b d
      · rw [if_neg c1]
        split
        · exact ih _ _ (by omega)
        · right; exact ⟨zni6 (by omega), by rw [nI_toInt (by omega)]; omega⟩
  exact key 60 false 0 (by omega)
theorem zfs_ref {r : Int32} (h : r = -6 ∨ (r ≠ -6 ∧ 0 ≤ r.toInt)) : (r < 0 ↔ r = -6) := by
  constructor
  · intro q
    rcases h with e | ⟨_, e⟩
    · exact e
    · rw [Int32.lt_iff_toInt_lt] at q
      have q' : r.toInt < 0 := q
      omega
  · intro q; rw [q]; decide
/-- the reference tries a season and takes it back: nothing that counts has changed -/
theorem i_tryBack (h : Inv σ) (hc : c ≤ 60) (hcc : σ.1 69 27 = nI c) (hs : ∀ j, j < 60 → σ.1 80 j = s j) (hw : zWF s c 0)
    {F : zST → (zST → Prop) → Prop}
    (hF : ∀ σ10 : zST, ∀ R : zST → Prop, NR σ10 (zse s c 60 0 0 0 (fun r j => cV σ 1 r j)).1 → (∀ σ12 : zST, Inv σ12 → ((zse s c 60 0 0 0 (fun r j => cV σ 1 r j)).2.2 = -6 → σ12.1 69 29 = -6 ∧ σ12.1 69 30 = -6 ∧ σ12.1 69 31 = nI (zse s c 60 0 0 0 (fun r j => cV σ 1 r j)).2.1) → ((zse s c 60 0 0 0 (fun r j => cV σ 1 r j)).2.2 ≠ -6 → σ12.1 69 29 = nI (zse s c 60 0 0 0 (fun r j => cV σ 1 r j)).2.1 ∧ σ12.1 69 30 = (zse s c 60 0 0 0 (fun r j => cV σ 1 r j)).2.2) → R σ12) → wp_X9_putBack σ10 R → True) : True := trivial
theorem i_backInv {σ8 σ10 : zST} (h : Inv σ) (k1 : ∀ a j, a ≠ 81 → σ8.1 a j = σ.1 a j) (k2 : zHad σ8 σ) (k3 : ∀ a j, ¬ (70 ≤ a ∧ a ≤ 73) → ¬ (a = 69 ∧ (j = 12 ∨ 15 ≤ j ∧ j ≤ 17 ∨ 29 ≤ j ∧ j ≤ 31)) → σ10.1 a j = σ8.1 a j) (fin : ∀ σ12 : zST, Inv σ12 → (∀ j, 29 ≤ j → j ≤ 31 → σ12.1 69 j = σ10.1 69 j) → P σ12) : wp_X9_putBack σ10 P := by
  have hh : zHad σ10 σ := by
    obtain ⟨q1, q2, q3, q4, q5⟩ := k2
    refine ⟨fun k hk => ?_, ?_, ?_, ?_, ?_⟩
    · obtain ⟨w1, w2, w3, w4⟩ := q1 k hk
      refine ⟨?_, ?_, ?_, ?_⟩
      · rw [k3 81 _ (by omega) (by omega)]; exact w1
      · rw [k3 81 _ (by omega) (by omega)]; exact w2
      · rw [k3 81 _ (by omega) (by omega)]; exact w3
      · rw [k3 81 _ (by omega) (by omega)]; exact w4
    · rw [k3 81 _ (by omega) (by omega)]; exact q2
    · rw [k3 81 _ (by omega) (by omega)]; exact q3
    · rw [k3 81 _ (by omega) (by omega)]; exact q4
    · rw [k3 81 _ (by omega) (by omega)]; exact q5
  refine i_putBack hh (fun σ12 g1 g2 g3 g4 g5 g6 => fin σ12 (Inv_fr2 (fun a j x => ?_) h) (fun j w1 w2 => g1 69 j (by omega) (by omega)))
  by_cases e1 : 70 ≤ a ∧ a ≤ 73
  · exact g2 a j e1.1 e1.2 (by omega)
  · by_cases e2 : a = 69 ∧ (j = 12 ∨ 15 ≤ j ∧ j ≤ 17)
    · obtain ⟨rfl, e2⟩ := e2
      rcases (show j = 12 ∨ j = 15 ∨ j = 16 ∨ j = 17 by omega) with rfl | rfl | rfl | rfl
      · exact g3
      · exact g4
      · exact g5
      · exact g6
    · rw [g1 a j e1 e2, k3 a j e1 (by omega), k1 a j (by omega)]
theorem s_judge (h : Inv σ) {K : Int32 → Int32 → zST → Prop} (hk : ∀ r σ', Inv σ' → K r r σ') : wp_X8_judge a1 σ (fun r σ1 => wp_X9_judge a1 σ1 (fun r' σ2 => K r r' σ2)) := by
  unfold wp_X8_judge wp_X9_judge
  obtain ⟨c, h60, c1, c2, c3⟩ := IP_c h.2.1
  refine t_within (a := 0) (b := 1) rfl rfl (fun x1 x2 => ?_) (fun x => t_in (a := 0) (b := 1) rfl rfl (fun _ _ => by omega) (fun _ => hk _ _ h))
  refine i_faultAsSeason c1 h60 (fun k _ => rfl) ?_
  have z6 := zfs6 (s := σ.1 53) h60
  by_cases e : zfs (σ.1 53) c 60 false 0 = -6
  · rw [if_pos e]
    have hw : zWF (σ.1 53) c 0 := ⟨60, by omega, e⟩
    refine i_tryOut h h60 c1 (fun _ _ => rfl) hw (fun σ1 q1 q2 q3 q4 => ?_)
    have h1 : Inv σ1 := Inv_fr (fun a k x => q4 a k (by omega)) h
    have ecv : (fun r j => cV σ1 1 r j) = (fun r j => cV σ 1 r j) := by
      funext r j
      exact cV_fr (fun a k x y => q4 a k (by omega)) r j
    rintro _ rfl
    refine t_in (a := 0) (b := 1) rfl rfl (fun _ _ => ?_) (fun y => by omega)
    have c2' : σ1.1 69 27 = nI c := by rw [q4 69 27 (by omega)]; exact c2
    have c3' : ∀ j, j < 60 → σ1.1 80 j = σ.1 53 j := fun j hj => by rw [q4 80 j (by omega)]; exact c3 j hj
    refine i_faultOfSeason c2' h60 c3' ?_
    rw [if_pos ((zfs_ref z6).mpr e)]
    refine i_keepNow (fun σ8 k1 k2 => ?_)
    have hS8 : NR σ8 (fun r j => cV σ 1 r j) := by
      intro r j hj
      rw [← ecv, ← NR_of_IB h1.1 r j hj]
      exact mV_fr (fun a k x => k1 a k (by omega)) (zl_len hj)
    refine i_goSeason hS8 (OKS_of h.1) h60 (by rw [k1 69 27 (by omega)]; exact c2') (fun j hj => by rw [k1 80 j (by omega)]; exact c3' j hj) hw (fun σ10 w1 w2 w3 w4 => ?_)
    refine i_backInv h1 k1 k2 w4 (fun σ12 h12 v1 => ?_)
    rintro _ rfl
    rw [q2, q3, v1 29 (by omega) (by omega), v1 30 (by omega) (by omega)]
    by_cases e2 : (zse (σ.1 53) c 60 0 0 0 (fun r j => cV σ 1 r j)).2.2 = -6
    · obtain ⟨u1, u2, u3⟩ := w2 e2
      rw [if_pos e2, u1, u2, e2]
      have : (if a1 = (0 : Int32) then (-6 : Int32) else -6) = -6 := by split <;> rfl
      rw [this]
      exact hk _ _ h12
    · obtain ⟨u1, u2⟩ := w3 e2
      rw [if_neg e2, u1, u2]
      rcases zS2 x1 x2 with rfl | rfl
      · exact hk _ _ h12
      · exact hk _ _ h12
  · rw [if_neg e]
    refine t_in (a := 0) (b := 1) rfl rfl (fun _ _ => ?_) (fun y => by omega)
    refine i_faultOfSeason c2 h60 c3 ?_
    rw [if_neg (fun q => e ((zfs_ref z6).mp q))]
    exact hk _ _ h
theorem i_seasonCanBe {Q : Int32 → zST → Prop} (h : Inv σ) (h60 : c ≤ 60) (c1 : σ.1 52 1 = nI c)
    (f1 : zWF (σ.1 53) c 0 → zfs (σ.1 53) c 60 false 0 = -6 → ∀ σ1 : zST, SR σ1 (zse (σ.1 53) c 60 0 0 0 (fun r j => cV σ 1 r j)).1 → σ1.1 54 1 = nI (zse (σ.1 53) c 60 0 0 0 (fun r j => cV σ 1 r j)).2.1 → (∀ a j, a < 54 ∨ 62 < a → σ1.1 a j = σ.1 a j) → Q (if (zse (σ.1 53) c 60 0 0 0 (fun r j => cV σ 1 r j)).2.2 = -6 then 1 else 0) σ1)
    (f0 : zfs (σ.1 53) c 60 false 0 ≠ -6 → Q 0 σ) : wp_X8_seasonCanBe σ Q := by
  unfold wp_X8_seasonCanBe
  refine i_faultAsSeason c1 h60 (fun k _ => rfl) ?_
  by_cases e : zfs (σ.1 53) c 60 false 0 = -6
  · rw [if_pos e]
    have hw : zWF (σ.1 53) c 0 := ⟨60, by omega, e⟩
    refine i_tryOut h h60 c1 (fun _ _ => rfl) hw (fun σ1 q1 q2 q3 q4 => ?_)
    rintro _ rfl
    rw [q3]
    have := f1 hw e σ1 q1 q2 q4
    split
    · next e2 => rw [if_pos e2] at this; exact ⟨zB1, this⟩
    · next e2 => rw [if_neg e2] at this; exact ⟨zB0, this⟩
  · rw [if_neg e]
    exact f0 e
theorem s_behind (h : Inv σ) {K : Int32 → Int32 → zST → Prop} (hk : ∀ r σ', Inv σ' → K r r σ') : wp_X8_behind a1 a2 σ (fun r σ1 => wp_X9_behind a1 a2 σ1 (fun r' σ2 => K r r' σ2)) := by
  unfold wp_X8_behind wp_X9_behind
  obtain ⟨c, h60, c1, c2, c3⟩ := IP_c h.2.1
  have e1 := b_ships h.1
  refine t_has rfl (fun x1 x2 x3 => ?_) (fun x => t_isShip e1.1.symm (fun y1 y2 y3 => absurd ⟨y1, y2, y3⟩ x) (fun _ => hk _ _ h))
  refine t_within (a := 0) (b := 2) rfl rfl (fun x4 x5 => ?_) (fun x => t_isShip e1.1.symm (fun _ _ _ => t_in (a := 0) (b := 2) rfl rfl (fun _ _ => by omega) (fun _ => hk _ _ h)) (fun y => absurd ⟨x1, x2, x3⟩ y))
  have z6 := zfs6 (s := σ.1 53) h60
  have hv : vp_in a1 6 := zv x1 (by omega)
  have hcl : a1.toNatClampNeg < 6 := zcl x1 (by omega)
  refine i_seasonCanBe h h60 c1 (fun hw e σ1 q1 q2 q4 => ?_) (fun e => ?_)
  · have h1 : Inv σ1 := Inv_fr (fun a k x => q4 a k (by omega)) h
    have ecv : (fun r j => cV σ1 1 r j) = (fun r j => cV σ 1 r j) := by
      funext r j
      exact cV_fr (fun a k x y => q4 a k (by omega)) r j
    have c2' : σ1.1 69 27 = nI c := by rw [q4 69 27 (by omega)]; exact c2
    have c3' : ∀ j, j < 60 → σ1.1 80 j = σ.1 53 j := fun j hj => by rw [q4 80 j (by omega)]; exact c3 j hj
    have ref : ∀ r, (r = if (zse (σ.1 53) c 60 0 0 0 (fun r j => cV σ 1 r j)).2.2 = -6 then (if a2 = 0 then (zse (σ.1 53) c 60 0 0 0 (fun r j => cV σ 1 r j)).1 1 a1.toNatClampNeg else if a2 = 1 then (zse (σ.1 53) c 60 0 0 0 (fun r j => cV σ 1 r j)).1 2 a1.toNatClampNeg else (zse (σ.1 53) c 60 0 0 0 (fun r j => cV σ 1 r j)).1 3 a1.toNatClampNeg) else -5) → wp_X9_isShip a1 σ1 (fun r1 => (if r1 = (0) then K r (-1 : Int32) σ1 else wp_X9_in (a2.toInt64) (0 : Int64) (2 : Int64) σ1 (fun r4 => (if r4 = (0) then K r (-2 : Int32) σ1 else wp_X9_faultOfSeason σ1 (fun r7 => (if r7 < (0) then wp_X9_keepNow σ1 (fun σ11 => wp_X9_goSeason σ11 (fun σ13 => wp_X9_stateOf a1 a2 σ13 (fun r14 => wp_X9_putBack σ13 (fun σ17 => ∀ z19 : Int32, z19 = (if (σ17.1 69 29) < (0) then r14 else (-5 : Int32)) → K r z19 σ17)))) else K r (-5 : Int32) σ1)))))) := by
      intro r hr
      refine t_isShip (x := σ.1 2 0) (by rw [q4 69 0 (by omega), e1.1]) (fun _ _ _ => ?_) (fun y => absurd ⟨x1, x2, x3⟩ y)
      refine t_in (a := 0) (b := 2) rfl rfl (fun _ _ => ?_) (fun y => by omega)
      refine i_faultOfSeason c2' h60 c3' ?_
      rw [if_pos ((zfs_ref z6).mpr e)]
      refine i_keepNow (fun σ8 k1 k2 => ?_)
      have hS8 : NR σ8 (fun r j => cV σ 1 r j) := by
        intro r j hj
        rw [← ecv, ← NR_of_IB h1.1 r j hj]
        exact mV_fr (fun a k x => k1 a k (by omega)) (zl_len hj)
      refine i_goSeason hS8 (OKS_of h.1) h60 (by rw [k1 69 27 (by omega)]; exact c2') (fun j hj => by rw [k1 80 j (by omega)]; exact c3' j hj) hw (fun σ10 w1 w2 w3 w4 => ?_)
      refine ⟨?_, ?_⟩
      · split
        · exact ⟨hv, trivial⟩
        · split <;> exact ⟨hv, trivial⟩
      rintro _ rfl
      refine i_backInv h1 k1 k2 w4 (fun σ12 h12 v1 => ?_)
      rintro _ rfl
      rw [v1 29 (by omega) (by omega)]
      have t1 : σ10.1 73 a1.toNatClampNeg = _ := w1 1 _ hcl
      have t2 : σ10.1 70 a1.toNatClampNeg = _ := w1 2 _ hcl
      have t3 : σ10.1 71 a1.toNatClampNeg = _ := w1 3 _ hcl
      by_cases e2 : (zse (σ.1 53) c 60 0 0 0 (fun r j => cV σ 1 r j)).2.2 = -6
      · rw [if_pos e2] at hr
        rw [(w2 e2).1, if_pos (by decide), t1, t2, t3, ← hr]
        exact hk _ _ h12
      · rw [if_neg e2] at hr
        have hp := zse_p (s := σ.1 53) (c := c) 60 0 0 0 (fun r j => cV σ 1 r j) (by omega) (by omega)
        rw [(w3 e2).1, if_neg (nI_pos (by omega)), hr]
        exact hk _ _ h12
    by_cases e2 : (zse (σ.1 53) c 60 0 0 0 (fun r j => cV σ 1 r j)).2.2 = -6
    · rw [if_pos e2, if_neg (by decide)]
      have t1 : σ1.1 56 a1.toNatClampNeg = _ := q1 1 _ hcl
      have t2 : σ1.1 57 a1.toNatClampNeg = _ := q1 2 _ hcl
      have t3 : σ1.1 58 a1.toNatClampNeg = _ := q1 3 _ hcl
      unfold wp_X6_look
      by_cases d0 : a2 = 0
      · rw [if_pos d0]
        exact ⟨hv, ref _ (by rw [if_pos e2, if_pos d0]; exact t1)⟩
      · rw [if_neg d0]
        refine ⟨by split <;> exact ⟨hv, trivial⟩, ?_⟩
        rintro _ rfl
        refine ref _ ?_
        rw [if_pos e2, if_neg d0]
        by_cases d1 : a2 = 1
        · rw [if_pos d1, if_pos d1]; exact t2
        · rw [if_neg d1, if_neg d1]; exact t3
    · rw [if_neg e2, if_pos rfl]
      exact ref _ (by rw [if_neg e2])
  · rw [if_pos rfl]
    refine t_isShip e1.1.symm (fun _ _ _ => ?_) (fun y => absurd ⟨x1, x2, x3⟩ y)
    refine t_in (a := 0) (b := 2) rfl rfl (fun _ _ => ?_) (fun y => by omega)
    refine i_faultOfSeason c2 h60 c3 ?_
    rw [if_neg (fun q => e ((zfs_ref z6).mp q))]
    exact hk _ _ h
end S
