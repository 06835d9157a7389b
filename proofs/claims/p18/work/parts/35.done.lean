section S
variable {σ σ0 : zST} {S : zSea} {k : Nat} {P : zST → Prop} {s : Nat → Int32} {c : Nat} {a1 a2 a3 a4 a5 : Int32}
theorem s_done (h : Inv σ) {K : Int32 → Int32 → zST → Prop} (hk : ∀ r σ', Inv σ' → K r r σ') : wp_X8_done σ (fun r σ1 => wp_X9_done σ1 (fun r' σ2 => K r r' σ2)) := by
  unfold wp_X8_done wp_X9_done
  obtain ⟨c, h60, c1, c2, c3⟩ := IP_c h.2.1
  have z6 := zfs6 (s := σ.1 53) h60
  refine i_seasonCanBe h h60 c1 (fun hw e σ1 q1 q2 q4 => ?_) (fun e => ?_)
  · have h1 : Inv σ1 := Inv_fr (fun a k x => q4 a k (by omega)) h
    have ecv : (fun r j => cV σ1 1 r j) = (fun r j => cV σ 1 r j) := by
      funext r j
      exact cV_fr (fun a k x y => q4 a k (by omega)) r j
    have c2' : σ1.1 69 27 = nI c := by rw [q4 69 27 (by omega)]; exact c2
    have c3' : ∀ j, j < 60 → σ1.1 80 j = σ.1 53 j := fun j hj => by rw [q4 80 j (by omega)]; exact c3 j hj
    have hp := zse_p (s := σ.1 53) (c := c) 60 0 0 0 (fun r j => cV σ 1 r j) (by omega) (by omega)
    by_cases e2 : (zse (σ.1 53) c 60 0 0 0 (fun r j => cV σ 1 r j)).2.2 = -6
    · rw [if_pos e2, if_neg (by decide)]
      refine i_become6 (by omega) (fun σ5 g1 g2 g3 g4 => ?_)
      rintro _ rfl
      have f6 : ∀ a j, 9 < a ∨ a < 2 → ¬ (a = 52 ∧ j = 1) → (wI σ5 52 1 0).1 a j = σ1.1 a j := fun a j w1 w2 => by rw [wI_at, if_neg w2]; exact g1 a j (by omega)
      have m54 : (wI σ5 52 1 0).1 54 1 = nI (zse (σ.1 53) c 60 0 0 0 (fun r j => cV σ 1 r j)).2.1 := by rw [f6 54 1 (by omega) (by omega)]; exact q2
      have g0 : ∀ a j, 2 ≤ a → a ≤ 9 → (wI σ5 52 1 0).1 a j = σ5.1 a j := fun a j w1 w2 => by rw [wI_at, if_neg (by omega)]
      have m52 : (wI σ5 52 1 0).1 52 1 = 0 := by rw [wI_at, if_pos ⟨rfl, rfl⟩]
      generalize wI σ5 52 1 0 = σ6 at f6 m54 g0 m52 ⊢
      refine i_faultOfSeason (s := σ.1 53) (by rw [f6 69 27 (by omega) (by omega)]; exact c2') h60 (fun j hj => by rw [f6 80 j (by omega) (by omega)]; exact c3' j hj) ?_
      rw [if_pos ((zfs_ref z6).mpr e)]
      refine i_keepNow (fun σ8 k1 k2 => ?_)
      have hS8 : NR σ8 (fun r j => cV σ 1 r j) := by
        intro r j hj
        rw [← ecv, ← NR_of_IB h1.1 r j hj]
        exact mV_fr (fun a k x => by rw [k1 a k (by omega), f6 a k (by omega) (by omega)]) (zl_len hj)
      refine i_goSeason hS8 (OKS_of h.1) h60 (by rw [k1 69 27 (by omega), f6 69 27 (by omega) (by omega)]; exact c2') (fun j hj => by rw [k1 80 j (by omega), f6 80 j (by omega) (by omega)]; exact c3' j hj) hw (fun σ10 w1 w2 w3 w4 => ?_)
      obtain ⟨u1, u2, u3⟩ := w2 e2
      rw [u1, if_pos (by decide)]
      intro σ9 e9
      have h9 : ∀ a j, σ9.1 a j = if a = 69 ∧ j = 27 then 0 else σ10.1 a j := fun a j => by rw [e9, wI_at]
      have m31 : σ9.1 69 31 = nI (zse (σ.1 53) c 60 0 0 0 (fun r j => cV σ 1 r j)).2.1 := by rw [h9, if_neg (by omega)]; exact u3
      rw [m54, m31]
      have fr : ∀ a j, 9 < a ∨ a < 2 → ¬ (54 ≤ a ∧ a ≤ 62) → ¬ (a = 52 ∧ j = 1) → ¬ (70 ≤ a ∧ a ≤ 73) → ¬ (a = 69 ∧ (j = 12 ∨ 15 ≤ j ∧ j ≤ 17 ∨ 29 ≤ j ∧ j ≤ 31 ∨ j = 27)) → a ≠ 81 → σ9.1 a j = σ.1 a j := by
        intro a j v1 v2 v3 v4 v5 v6
        rw [h9, if_neg (by omega), w4 a j v4 (by omega), k1 a j v6, f6 a j v1 v3, q4 a j (by omega)]
      have sea : ∀ a j, 2 ≤ a → a ≤ 9 → σ9.1 a j = σ5.1 a j := by
        intro a j v1 v2
        rw [h9, if_neg (by omega), w4 a j (by omega) (by omega), k1 a j (by omega)]
        exact g0 a j v1 v2
      have hok := zse_ok (s := σ.1 53) h60 60 0 0 0 (fun r j => cV σ 1 r j) hw (by omega) (OKS_of h.1)
      have c7 : ∀ r j, j < zl r → cV σ9 1 r j = (zse (σ.1 53) c 60 0 0 0 (fun r j => cV σ 1 r j)).1 r j := by
        intro r j hj
        rw [← q1 r j hj]
        have hr := zl8 hj
        match r, hr with
        | 0, _ =>
          match j, hj with
          | 0, _ => exact (sea 2 0 (by omega) (by omega)).trans g2
          | 1, _ => exact (sea 2 7 (by omega) (by omega)).trans g3
          | j + 2, hj => exact absurd hj (by simp [zl])
        | 1, _ => exact (sea 3 j (by omega) (by omega)).trans (g4 1 j (by omega) (by omega) hj)
        | 2, _ => exact (sea 4 j (by omega) (by omega)).trans (g4 2 j (by omega) (by omega) hj)
        | 3, _ => exact (sea 5 j (by omega) (by omega)).trans (g4 3 j (by omega) (by omega) hj)
        | 4, _ => exact (sea 6 j (by omega) (by omega)).trans (g4 4 j (by omega) (by omega) hj)
        | 5, _ => exact (sea 7 j (by omega) (by omega)).trans (g4 5 j (by omega) (by omega) hj)
        | 6, _ => exact (sea 8 j (by omega) (by omega)).trans (g4 6 j (by omega) (by omega) hj)
        | 7, _ => exact (sea 9 j (by omega) (by omega)).trans (g4 7 j (by omega) (by omega) hj)
      have m7 : ∀ r j, j < zl r → mV σ9 r j = (zse (σ.1 53) c 60 0 0 0 (fun r j => cV σ 1 r j)).1 r j := by
        intro r j hj
        rw [← w1 r j hj]
        exact mV_fr (fun a k x => by rw [h9, if_neg (by omega)]) (zl_len hj)
      have rest : ∀ r j, j < zLen r → ¬ j < zl r → cV σ9 1 r j = cV σ 1 r j ∧ mV σ9 r j = mV σ r j := by
        intro r j hj hn
        have hr := zLen13 hj
        match r, hr with
        | 0, _ =>
          match j, hj with
          | 0, _ => exact absurd (show 0 < zl 0 by decide) hn
          | 1, _ => exact absurd (show 1 < zl 0 by decide) hn
          | 2, _ => exact ⟨fr 10 0 (by omega) (by omega) (by omega) (by omega) (by omega) (by omega), fr 69 18 (by omega) (by omega) (by omega) (by omega) (by omega) (by omega)⟩
          | 3, _ => exact ⟨fr 13 0 (by omega) (by omega) (by omega) (by omega) (by omega) (by omega), fr 69 21 (by omega) (by omega) (by omega) (by omega) (by omega) (by omega)⟩
          | 4, _ => exact ⟨fr 15 0 (by omega) (by omega) (by omega) (by omega) (by omega) (by omega), fr 69 25 (by omega) (by omega) (by omega) (by omega) (by omega) (by omega)⟩
          | j + 5, h5 => exact absurd h5 (by simp [zLen])
        | 1, _ => exact absurd hj hn
        | 2, _ => exact absurd hj hn
        | 3, _ => exact absurd hj hn
        | 4, _ => exact absurd hj hn
        | 5, _ => exact absurd hj hn
        | 6, _ => exact absurd hj hn
        | 7, _ => exact absurd hj hn
        | 8, _ => exact ⟨fr 11 j (by omega) (by omega) (by omega) (by omega) (by omega) (by omega), fr 75 j (by omega) (by omega) (by omega) (by omega) (by omega) (by omega)⟩
        | 9, _ => exact ⟨fr 12 j (by omega) (by omega) (by omega) (by omega) (by omega) (by omega), fr 76 j (by omega) (by omega) (by omega) (by omega) (by omega) (by omega)⟩
        | 10, _ => exact ⟨fr 14 j (by omega) (by omega) (by omega) (by omega) (by omega) (by omega), fr 77 j (by omega) (by omega) (by omega) (by omega) (by omega) (by omega)⟩
        | 11, _ => exact ⟨fr 16 j (by omega) (by omega) (by omega) (by omega) (by omega) (by omega), fr 78 j (by omega) (by omega) (by omega) (by omega) (by omega) (by omega)⟩
        | 12, _ =>
          refine ⟨fr 17 j (by omega) (by omega) (by omega) (by omega) (by omega) (by omega), ?_⟩
          show σ9.1 79 j - zpc (σ9.1 78 j) = σ.1 79 j - zpc (σ.1 78 j)
          rw [fr 79 j (by omega) (by omega) (by omega) (by omega) (by omega) (by omega), fr 78 j (by omega) (by omega) (by omega) (by omega) (by omega) (by omega)]
      refine hk _ _ ⟨⟨fun r j hj => ?_, fun r j hj => ?_, fun j hj => ?_, fun j hj => ?_⟩, ⟨?_, ?_, ?_, fun j hj => ?_⟩, II_fr (fun a j x => fr a j (by omega) (by omega) (by omega) (by omega) (by omega) (by omega)) h.2.2⟩
      · by_cases q : j < zl r
        · rw [c7 r j q, m7 r j q]
        · rw [(rest r j hj q).1, (rest r j hj q).2]; exact h.1.1 r j hj
      · by_cases q : j < zl r
        · rw [c7 r j q]; exact hok.1 r j q
        · rw [(rest r j hj q).1]; exact h.1.2.1 r j hj
      · rw [(rest 12 j hj (by simp [zl])).1, (rest 11 j hj (by simp [zl])).1]
        exact h.1.2.2.1 j hj
      · rw [c7 0 0 (by decide), c7 1 j hj, c7 2 j hj]
        exact hok.2 j hj
      · show σ9.1 52 1 = σ9.1 69 27
        rw [h9 69 27, if_pos ⟨rfl, rfl⟩, h9, if_neg (by omega), w4 52 1 (by omega) (by omega), k1 52 1 (by omega)]
        exact m52
      · show 0 ≤ (σ9.1 52 1).toInt
        rw [h9, if_neg (by omega), w4 52 1 (by omega) (by omega), k1 52 1 (by omega), m52]; decide
      · show (σ9.1 52 1).toInt ≤ 60
        rw [h9, if_neg (by omega), w4 52 1 (by omega) (by omega), k1 52 1 (by omega), m52]; decide
      · rw [fr 53 j (by omega) (by omega) (by omega) (by omega) (by omega) (by omega), fr 80 j (by omega) (by omega) (by omega) (by omega) (by omega) (by omega)]
        exact (c3 j hj).symm
    · rw [if_neg e2, if_pos rfl]
      refine i_faultOfSeason c2' h60 c3' ?_
      rw [if_pos ((zfs_ref z6).mpr e)]
      refine i_keepNow (fun σ8 k1 k2 => ?_)
      have hS8 : NR σ8 (fun r j => cV σ 1 r j) := by
        intro r j hj
        rw [← ecv, ← NR_of_IB h1.1 r j hj]
        exact mV_fr (fun a k x => k1 a k (by omega)) (zl_len hj)
      refine i_goSeason hS8 (OKS_of h.1) h60 (by rw [k1 69 27 (by omega)]; exact c2') (fun j hj => by rw [k1 80 j (by omega)]; exact c3' j hj) hw (fun σ10 w1 w2 w3 w4 => ?_)
      rw [(w3 e2).1, if_neg (nI_pos (by omega))]
      exact i_backInv h1 k1 k2 w4 (fun σ12 h12 v1 => hk _ _ h12)
  · rw [if_pos rfl]
    refine i_faultOfSeason c2 h60 c3 ?_
    rw [if_neg (fun q => e ((zfs_ref z6).mp q))]
    exact hk _ _ h
end S
